theorem dX0_roundUp_0 : decode cX0_roundUp 0 = .ok (.iload_n 0, 1) := by decide +kernel
theorem dX0_roundUp_1 : decode cX0_roundUp 1 = .ok (.iconst 1, 1) := by decide +kernel
theorem dX0_roundUp_2 : decode cX0_roundUp 2 = .ok (.if_icmp .lt 8, 3) := by decide +kernel
theorem dX0_roundUp_5 : decode cX0_roundUp 5 = .ok (.iload_n 1, 1) := by decide +kernel
theorem dX0_roundUp_6 : decode cX0_roundUp 6 = .ok (.iconst 1, 1) := by decide +kernel
theorem dX0_roundUp_7 : decode cX0_roundUp 7 = .ok (.if_icmp .ge 7, 3) := by decide +kernel
theorem dX0_roundUp_10 : decode cX0_roundUp 10 = .ok (.iconst 0, 1) := by decide +kernel
theorem dX0_roundUp_11 : decode cX0_roundUp 11 = .ok (.goto 10, 3) := by decide +kernel
theorem dX0_roundUp_14 : decode cX0_roundUp 14 = .ok (.iload_n 0, 1) := by decide +kernel
theorem dX0_roundUp_15 : decode cX0_roundUp 15 = .ok (.iconst 1, 1) := by decide +kernel
theorem dX0_roundUp_16 : decode cX0_roundUp 16 = .ok (.isub, 1) := by decide +kernel
theorem dX0_roundUp_17 : decode cX0_roundUp 17 = .ok (.iload_n 1, 1) := by decide +kernel
theorem dX0_roundUp_18 : decode cX0_roundUp 18 = .ok (.idiv, 1) := by decide +kernel
theorem dX0_roundUp_19 : decode cX0_roundUp 19 = .ok (.iconst 1, 1) := by decide +kernel
theorem dX0_roundUp_20 : decode cX0_roundUp 20 = .ok (.iadd, 1) := by decide +kernel
theorem dX0_roundUp_21 : decode cX0_roundUp 21 = .ok (.ireturn, 1) := by decide +kernel
theorem dX0_areaOf_0 : decode cX0_areaOf 0 = .ok (.aload_n 0, 1) := by decide +kernel
theorem dX0_areaOf_1 : decode cX0_areaOf 1 = .ok (.aload_n 1, 1) := by decide +kernel
theorem dX0_areaOf_2 : decode cX0_areaOf 2 = .ok (.invokevirtual 9, 3) := by decide +kernel
theorem dX0_areaOf_5 : decode cX0_areaOf 5 = .ok (.aload_n 0, 1) := by decide +kernel
theorem dX0_areaOf_6 : decode cX0_areaOf 6 = .ok (.getfield 15, 3) := by decide +kernel
theorem dX0_areaOf_9 : decode cX0_areaOf 9 = .ok (.invokestatic 19, 3) := by decide +kernel
theorem dX0_areaOf_12 : decode cX0_areaOf 12 = .ok (.ireturn, 1) := by decide +kernel
theorem dX0_splitOf_0 : decode cX0_splitOf 0 = .ok (.iconst 0, 1) := by decide +kernel
theorem dX0_splitOf_1 : decode cX0_splitOf 1 = .ok (.istore_n 3, 1) := by decide +kernel
theorem dX0_splitOf_2 : decode cX0_splitOf 2 = .ok (.iconst 0, 1) := by decide +kernel
theorem dX0_splitOf_3 : decode cX0_splitOf 3 = .ok (.istore 4, 2) := by decide +kernel
theorem dX0_splitOf_5 : decode cX0_splitOf 5 = .ok (.iconst 0, 1) := by decide +kernel
theorem dX0_splitOf_6 : decode cX0_splitOf 6 = .ok (.istore 5, 2) := by decide +kernel
theorem dX0_splitOf_8 : decode cX0_splitOf 8 = .ok (.iload 5, 2) := by decide +kernel
theorem dX0_splitOf_10 : decode cX0_splitOf 10 = .ok (.aload_n 0, 1) := by decide +kernel
theorem dX0_splitOf_11 : decode cX0_splitOf 11 = .ok (.getfield 25, 3) := by decide +kernel
theorem dX0_splitOf_14 : decode cX0_splitOf 14 = .ok (.if_icmp .ge 102, 3) := by decide +kernel
theorem dX0_splitOf_17 : decode cX0_splitOf 17 = .ok (.iload 5, 2) := by decide +kernel
theorem dX0_splitOf_19 : decode cX0_splitOf 19 = .ok (.aload_n 1, 1) := by decide +kernel
theorem dX0_splitOf_20 : decode cX0_splitOf 20 = .ok (.arraylength, 1) := by decide +kernel
theorem dX0_splitOf_21 : decode cX0_splitOf 21 = .ok (.if_icmp .ge 95, 3) := by decide +kernel
theorem dX0_splitOf_24 : decode cX0_splitOf 24 = .ok (.aload_n 0, 1) := by decide +kernel
theorem dX0_splitOf_25 : decode cX0_splitOf 25 = .ok (.getfield 28, 3) := by decide +kernel
theorem dX0_splitOf_28 : decode cX0_splitOf 28 = .ok (.iload 5, 2) := by decide +kernel
theorem dX0_splitOf_30 : decode cX0_splitOf 30 = .ok (.iaload, 1) := by decide +kernel
theorem dX0_splitOf_31 : decode cX0_splitOf 31 = .ok (.istore 6, 2) := by decide +kernel
theorem dX0_splitOf_33 : decode cX0_splitOf 33 = .ok (.iload 6, 2) := by decide +kernel
theorem dX0_splitOf_35 : decode cX0_splitOf 35 = .ok (.aload_n 0, 1) := by decide +kernel
theorem dX0_splitOf_36 : decode cX0_splitOf 36 = .ok (.getfield 15, 3) := by decide +kernel
theorem dX0_splitOf_39 : decode cX0_splitOf 39 = .ok (.iload_n 2, 1) := by decide +kernel
theorem dX0_splitOf_40 : decode cX0_splitOf 40 = .ok (.isub, 1) := by decide +kernel
theorem dX0_splitOf_41 : decode cX0_splitOf 41 = .ok (.if_icmp .le 13, 3) := by decide +kernel
theorem dX0_splitOf_44 : decode cX0_splitOf 44 = .ok (.iload_n 3, 1) := by decide +kernel
theorem dX0_splitOf_45 : decode cX0_splitOf 45 = .ok (.aload_n 1, 1) := by decide +kernel
theorem dX0_splitOf_46 : decode cX0_splitOf 46 = .ok (.iload 5, 2) := by decide +kernel
theorem dX0_splitOf_48 : decode cX0_splitOf 48 = .ok (.iaload, 1) := by decide +kernel
theorem dX0_splitOf_49 : decode cX0_splitOf 49 = .ok (.iadd, 1) := by decide +kernel
theorem dX0_splitOf_50 : decode cX0_splitOf 50 = .ok (.istore_n 3, 1) := by decide +kernel
theorem dX0_splitOf_51 : decode cX0_splitOf 51 = .ok (.goto 59, 3) := by decide +kernel
theorem dX0_splitOf_54 : decode cX0_splitOf 54 = .ok (.iconst 2, 1) := by decide +kernel
theorem dX0_splitOf_55 : decode cX0_splitOf 55 = .ok (.iload 6, 2) := by decide +kernel
theorem dX0_splitOf_57 : decode cX0_splitOf 57 = .ok (.imul, 1) := by decide +kernel
theorem dX0_splitOf_58 : decode cX0_splitOf 58 = .ok (.aload_n 0, 1) := by decide +kernel
theorem dX0_splitOf_59 : decode cX0_splitOf 59 = .ok (.getfield 15, 3) := by decide +kernel
theorem dX0_splitOf_62 : decode cX0_splitOf 62 = .ok (.if_icmp .le 30, 3) := by decide +kernel
theorem dX0_splitOf_65 : decode cX0_splitOf 65 = .ok (.iload_n 3, 1) := by decide +kernel
theorem dX0_splitOf_66 : decode cX0_splitOf 66 = .ok (.aload_n 1, 1) := by decide +kernel
theorem dX0_splitOf_67 : decode cX0_splitOf 67 = .ok (.iload 5, 2) := by decide +kernel
theorem dX0_splitOf_69 : decode cX0_splitOf 69 = .ok (.iaload, 1) := by decide +kernel
theorem dX0_splitOf_70 : decode cX0_splitOf 70 = .ok (.iadd, 1) := by decide +kernel
theorem dX0_splitOf_71 : decode cX0_splitOf 71 = .ok (.istore_n 3, 1) := by decide +kernel
theorem dX0_splitOf_72 : decode cX0_splitOf 72 = .ok (.iload 4, 2) := by decide +kernel
theorem dX0_splitOf_74 : decode cX0_splitOf 74 = .ok (.aload_n 1, 1) := by decide +kernel
theorem dX0_splitOf_75 : decode cX0_splitOf 75 = .ok (.iload 5, 2) := by decide +kernel
theorem dX0_splitOf_77 : decode cX0_splitOf 77 = .ok (.iaload, 1) := by decide +kernel
theorem dX0_splitOf_78 : decode cX0_splitOf 78 = .ok (.aload_n 0, 1) := by decide +kernel
theorem dX0_splitOf_79 : decode cX0_splitOf 79 = .ok (.getfield 15, 3) := by decide +kernel
theorem dX0_splitOf_82 : decode cX0_splitOf 82 = .ok (.iload 6, 2) := by decide +kernel
theorem dX0_splitOf_84 : decode cX0_splitOf 84 = .ok (.isub, 1) := by decide +kernel
theorem dX0_splitOf_85 : decode cX0_splitOf 85 = .ok (.imul, 1) := by decide +kernel
theorem dX0_splitOf_86 : decode cX0_splitOf 86 = .ok (.isub, 1) := by decide +kernel
theorem dX0_splitOf_87 : decode cX0_splitOf 87 = .ok (.istore 4, 2) := by decide +kernel
theorem dX0_splitOf_89 : decode cX0_splitOf 89 = .ok (.goto 21, 3) := by decide +kernel
theorem dX0_splitOf_92 : decode cX0_splitOf 92 = .ok (.iload 6, 2) := by decide +kernel
theorem dX0_splitOf_94 : decode cX0_splitOf 94 = .ok (.iload_n 2, 1) := by decide +kernel
theorem dX0_splitOf_95 : decode cX0_splitOf 95 = .ok (.if_icmp .lt 15, 3) := by decide +kernel
theorem dX0_splitOf_98 : decode cX0_splitOf 98 = .ok (.iload 4, 2) := by decide +kernel
theorem dX0_splitOf_100 : decode cX0_splitOf 100 = .ok (.aload_n 1, 1) := by decide +kernel
theorem dX0_splitOf_101 : decode cX0_splitOf 101 = .ok (.iload 5, 2) := by decide +kernel
theorem dX0_splitOf_103 : decode cX0_splitOf 103 = .ok (.iaload, 1) := by decide +kernel
theorem dX0_splitOf_104 : decode cX0_splitOf 104 = .ok (.iload 6, 2) := by decide +kernel
theorem dX0_splitOf_106 : decode cX0_splitOf 106 = .ok (.imul, 1) := by decide +kernel
theorem dX0_splitOf_107 : decode cX0_splitOf 107 = .ok (.iadd, 1) := by decide +kernel
theorem dX0_splitOf_108 : decode cX0_splitOf 108 = .ok (.istore 4, 2) := by decide +kernel
theorem dX0_splitOf_110 : decode cX0_splitOf 110 = .ok (.iinc 5 1, 3) := by decide +kernel
theorem dX0_splitOf_113 : decode cX0_splitOf 113 = .ok (.goto (-105), 3) := by decide +kernel
theorem dX0_splitOf_116 : decode cX0_splitOf 116 = .ok (.iload_n 3, 1) := by decide +kernel
theorem dX0_splitOf_117 : decode cX0_splitOf 117 = .ok (.iload 4, 2) := by decide +kernel
theorem dX0_splitOf_119 : decode cX0_splitOf 119 = .ok (.aload_n 0, 1) := by decide +kernel
theorem dX0_splitOf_120 : decode cX0_splitOf 120 = .ok (.getfield 15, 3) := by decide +kernel
theorem dX0_splitOf_123 : decode cX0_splitOf 123 = .ok (.invokestatic 19, 3) := by decide +kernel
theorem dX0_splitOf_126 : decode cX0_splitOf 126 = .ok (.iadd, 1) := by decide +kernel
theorem dX0_splitOf_127 : decode cX0_splitOf 127 = .ok (.ireturn, 1) := by decide +kernel
theorem dX0_stepOf_0 : decode cX0_stepOf 0 = .ok (.iconst 0, 1) := by decide +kernel
theorem dX0_stepOf_1 : decode cX0_stepOf 1 = .ok (.istore_n 3, 1) := by decide +kernel
theorem dX0_stepOf_2 : decode cX0_stepOf 2 = .ok (.iconst 0, 1) := by decide +kernel
theorem dX0_stepOf_3 : decode cX0_stepOf 3 = .ok (.istore 4, 2) := by decide +kernel
theorem dX0_stepOf_5 : decode cX0_stepOf 5 = .ok (.iload 4, 2) := by decide +kernel
theorem dX0_stepOf_7 : decode cX0_stepOf 7 = .ok (.aload_n 0, 1) := by decide +kernel
theorem dX0_stepOf_8 : decode cX0_stepOf 8 = .ok (.getfield 25, 3) := by decide +kernel
theorem dX0_stepOf_11 : decode cX0_stepOf 11 = .ok (.if_icmp .ge 96, 3) := by decide +kernel
theorem dX0_stepOf_14 : decode cX0_stepOf 14 = .ok (.iload 4, 2) := by decide +kernel
theorem dX0_stepOf_16 : decode cX0_stepOf 16 = .ok (.aload_n 1, 1) := by decide +kernel
theorem dX0_stepOf_17 : decode cX0_stepOf 17 = .ok (.arraylength, 1) := by decide +kernel
theorem dX0_stepOf_18 : decode cX0_stepOf 18 = .ok (.if_icmp .ge 89, 3) := by decide +kernel
theorem dX0_stepOf_21 : decode cX0_stepOf 21 = .ok (.iload_n 2, 1) := by decide +kernel
theorem dX0_stepOf_22 : decode cX0_stepOf 22 = .ok (.iconst 1, 1) := by decide +kernel
theorem dX0_stepOf_23 : decode cX0_stepOf 23 = .ok (.iadd, 1) := by decide +kernel
theorem dX0_stepOf_24 : decode cX0_stepOf 24 = .ok (.aload_n 0, 1) := by decide +kernel
theorem dX0_stepOf_25 : decode cX0_stepOf 25 = .ok (.getfield 28, 3) := by decide +kernel
theorem dX0_stepOf_28 : decode cX0_stepOf 28 = .ok (.iload 4, 2) := by decide +kernel
theorem dX0_stepOf_30 : decode cX0_stepOf 30 = .ok (.iaload, 1) := by decide +kernel
theorem dX0_stepOf_31 : decode cX0_stepOf 31 = .ok (.imul, 1) := by decide +kernel
theorem dX0_stepOf_32 : decode cX0_stepOf 32 = .ok (.aload_n 0, 1) := by decide +kernel
theorem dX0_stepOf_33 : decode cX0_stepOf 33 = .ok (.getfield 15, 3) := by decide +kernel
theorem dX0_stepOf_36 : decode cX0_stepOf 36 = .ok (.invokestatic 32, 3) := by decide +kernel
theorem dX0_stepOf_39 : decode cX0_stepOf 39 = .ok (.istore 5, 2) := by decide +kernel
theorem dX0_stepOf_41 : decode cX0_stepOf 41 = .ok (.iload 5, 2) := by decide +kernel
theorem dX0_stepOf_43 : decode cX0_stepOf 43 = .ok (.aload_n 0, 1) := by decide +kernel
theorem dX0_stepOf_44 : decode cX0_stepOf 44 = .ok (.getfield 15, 3) := by decide +kernel
theorem dX0_stepOf_47 : decode cX0_stepOf 47 = .ok (.imul, 1) := by decide +kernel
theorem dX0_stepOf_48 : decode cX0_stepOf 48 = .ok (.iload_n 2, 1) := by decide +kernel
theorem dX0_stepOf_49 : decode cX0_stepOf 49 = .ok (.iconst 1, 1) := by decide +kernel
theorem dX0_stepOf_50 : decode cX0_stepOf 50 = .ok (.iadd, 1) := by decide +kernel
theorem dX0_stepOf_51 : decode cX0_stepOf 51 = .ok (.aload_n 0, 1) := by decide +kernel
theorem dX0_stepOf_52 : decode cX0_stepOf 52 = .ok (.getfield 28, 3) := by decide +kernel
theorem dX0_stepOf_55 : decode cX0_stepOf 55 = .ok (.iload 4, 2) := by decide +kernel
theorem dX0_stepOf_57 : decode cX0_stepOf 57 = .ok (.iaload, 1) := by decide +kernel
theorem dX0_stepOf_58 : decode cX0_stepOf 58 = .ok (.imul, 1) := by decide +kernel
theorem dX0_stepOf_59 : decode cX0_stepOf 59 = .ok (.if_icmp .ne 7, 3) := by decide +kernel
theorem dX0_stepOf_62 : decode cX0_stepOf 62 = .ok (.iconst 1, 1) := by decide +kernel
theorem dX0_stepOf_63 : decode cX0_stepOf 63 = .ok (.goto 4, 3) := by decide +kernel
theorem dX0_stepOf_66 : decode cX0_stepOf 66 = .ok (.iconst 0, 1) := by decide +kernel
theorem dX0_stepOf_67 : decode cX0_stepOf 67 = .ok (.istore 6, 2) := by decide +kernel
theorem dX0_stepOf_69 : decode cX0_stepOf 69 = .ok (.iload_n 3, 1) := by decide +kernel
theorem dX0_stepOf_70 : decode cX0_stepOf 70 = .ok (.aload_n 1, 1) := by decide +kernel
theorem dX0_stepOf_71 : decode cX0_stepOf 71 = .ok (.iload 4, 2) := by decide +kernel
theorem dX0_stepOf_73 : decode cX0_stepOf 73 = .ok (.iaload, 1) := by decide +kernel
theorem dX0_stepOf_74 : decode cX0_stepOf 74 = .ok (.iload 6, 2) := by decide +kernel
theorem dX0_stepOf_76 : decode cX0_stepOf 76 = .ok (.ifCond .eq 15, 3) := by decide +kernel
theorem dX0_stepOf_79 : decode cX0_stepOf 79 = .ok (.iload_n 2, 1) := by decide +kernel
theorem dX0_stepOf_80 : decode cX0_stepOf 80 = .ok (.aload_n 0, 1) := by decide +kernel
theorem dX0_stepOf_81 : decode cX0_stepOf 81 = .ok (.getfield 28, 3) := by decide +kernel
theorem dX0_stepOf_84 : decode cX0_stepOf 84 = .ok (.iload 4, 2) := by decide +kernel
theorem dX0_stepOf_86 : decode cX0_stepOf 86 = .ok (.iaload, 1) := by decide +kernel
theorem dX0_stepOf_87 : decode cX0_stepOf 87 = .ok (.imul, 1) := by decide +kernel
theorem dX0_stepOf_88 : decode cX0_stepOf 88 = .ok (.goto 10, 3) := by decide +kernel
theorem dX0_stepOf_91 : decode cX0_stepOf 91 = .ok (.aload_n 0, 1) := by decide +kernel
theorem dX0_stepOf_92 : decode cX0_stepOf 92 = .ok (.getfield 15, 3) := by decide +kernel
theorem dX0_stepOf_95 : decode cX0_stepOf 95 = .ok (.iload 5, 2) := by decide +kernel
theorem dX0_stepOf_97 : decode cX0_stepOf 97 = .ok (.imul, 1) := by decide +kernel
theorem dX0_stepOf_98 : decode cX0_stepOf 98 = .ok (.imul, 1) := by decide +kernel
theorem dX0_stepOf_99 : decode cX0_stepOf 99 = .ok (.iadd, 1) := by decide +kernel
theorem dX0_stepOf_100 : decode cX0_stepOf 100 = .ok (.istore_n 3, 1) := by decide +kernel
theorem dX0_stepOf_101 : decode cX0_stepOf 101 = .ok (.iinc 4 1, 3) := by decide +kernel
theorem dX0_stepOf_104 : decode cX0_stepOf 104 = .ok (.goto (-99), 3) := by decide +kernel
theorem dX0_stepOf_107 : decode cX0_stepOf 107 = .ok (.iload_n 3, 1) := by decide +kernel
theorem dX0_stepOf_108 : decode cX0_stepOf 108 = .ok (.iload_n 2, 1) := by decide +kernel
theorem dX0_stepOf_109 : decode cX0_stepOf 109 = .ok (.aload_n 0, 1) := by decide +kernel
theorem dX0_stepOf_110 : decode cX0_stepOf 110 = .ok (.getfield 15, 3) := by decide +kernel
theorem dX0_stepOf_113 : decode cX0_stepOf 113 = .ok (.imul, 1) := by decide +kernel
theorem dX0_stepOf_114 : decode cX0_stepOf 114 = .ok (.invokestatic 19, 3) := by decide +kernel
theorem dX0_stepOf_117 : decode cX0_stepOf 117 = .ok (.ireturn, 1) := by decide +kernel
theorem dX0_bestSplit_0 : decode cX0_bestSplit 0 = .ok (.iconst 0, 1) := by decide +kernel
theorem dX0_bestSplit_1 : decode cX0_bestSplit 1 = .ok (.istore_n 2, 1) := by decide +kernel
theorem dX0_bestSplit_2 : decode cX0_bestSplit 2 = .ok (.aload_n 0, 1) := by decide +kernel
theorem dX0_bestSplit_3 : decode cX0_bestSplit 3 = .ok (.aload_n 1, 1) := by decide +kernel
theorem dX0_bestSplit_4 : decode cX0_bestSplit 4 = .ok (.iconst 0, 1) := by decide +kernel
theorem dX0_bestSplit_5 : decode cX0_bestSplit 5 = .ok (.invokestatic 35, 3) := by decide +kernel
theorem dX0_bestSplit_8 : decode cX0_bestSplit 8 = .ok (.istore_n 3, 1) := by decide +kernel
theorem dX0_bestSplit_9 : decode cX0_bestSplit 9 = .ok (.iconst 1, 1) := by decide +kernel
theorem dX0_bestSplit_10 : decode cX0_bestSplit 10 = .ok (.istore 4, 2) := by decide +kernel
theorem dX0_bestSplit_12 : decode cX0_bestSplit 12 = .ok (.iload 4, 2) := by decide +kernel
theorem dX0_bestSplit_14 : decode cX0_bestSplit 14 = .ok (.aload_n 0, 1) := by decide +kernel
theorem dX0_bestSplit_15 : decode cX0_bestSplit 15 = .ok (.getfield 15, 3) := by decide +kernel
theorem dX0_bestSplit_18 : decode cX0_bestSplit 18 = .ok (.iconst 2, 1) := by decide +kernel
theorem dX0_bestSplit_19 : decode cX0_bestSplit 19 = .ok (.idiv, 1) := by decide +kernel
theorem dX0_bestSplit_20 : decode cX0_bestSplit 20 = .ok (.if_icmp .gt 30, 3) := by decide +kernel
theorem dX0_bestSplit_23 : decode cX0_bestSplit 23 = .ok (.aload_n 0, 1) := by decide +kernel
theorem dX0_bestSplit_24 : decode cX0_bestSplit 24 = .ok (.aload_n 1, 1) := by decide +kernel
theorem dX0_bestSplit_25 : decode cX0_bestSplit 25 = .ok (.iload 4, 2) := by decide +kernel
theorem dX0_bestSplit_27 : decode cX0_bestSplit 27 = .ok (.invokestatic 35, 3) := by decide +kernel
theorem dX0_bestSplit_30 : decode cX0_bestSplit 30 = .ok (.istore 5, 2) := by decide +kernel
theorem dX0_bestSplit_32 : decode cX0_bestSplit 32 = .ok (.iload 5, 2) := by decide +kernel
theorem dX0_bestSplit_34 : decode cX0_bestSplit 34 = .ok (.iload_n 3, 1) := by decide +kernel
theorem dX0_bestSplit_35 : decode cX0_bestSplit 35 = .ok (.if_icmp .le 9, 3) := by decide +kernel
theorem dX0_bestSplit_38 : decode cX0_bestSplit 38 = .ok (.iload 5, 2) := by decide +kernel
theorem dX0_bestSplit_40 : decode cX0_bestSplit 40 = .ok (.istore_n 3, 1) := by decide +kernel
theorem dX0_bestSplit_41 : decode cX0_bestSplit 41 = .ok (.iload 4, 2) := by decide +kernel
theorem dX0_bestSplit_43 : decode cX0_bestSplit 43 = .ok (.istore_n 2, 1) := by decide +kernel
theorem dX0_bestSplit_44 : decode cX0_bestSplit 44 = .ok (.iinc 4 1, 3) := by decide +kernel
theorem dX0_bestSplit_47 : decode cX0_bestSplit 47 = .ok (.goto (-35), 3) := by decide +kernel
theorem dX0_bestSplit_50 : decode cX0_bestSplit 50 = .ok (.iload_n 2, 1) := by decide +kernel
theorem dX0_bestSplit_51 : decode cX0_bestSplit 51 = .ok (.ireturn, 1) := by decide +kernel
theorem dX0_bestStep_0 : decode cX0_bestStep 0 = .ok (.iconst 1, 1) := by decide +kernel
theorem dX0_bestStep_1 : decode cX0_bestStep 1 = .ok (.istore_n 2, 1) := by decide +kernel
theorem dX0_bestStep_2 : decode cX0_bestStep 2 = .ok (.aload_n 0, 1) := by decide +kernel
theorem dX0_bestStep_3 : decode cX0_bestStep 3 = .ok (.aload_n 1, 1) := by decide +kernel
theorem dX0_bestStep_4 : decode cX0_bestStep 4 = .ok (.iconst 1, 1) := by decide +kernel
theorem dX0_bestStep_5 : decode cX0_bestStep 5 = .ok (.invokestatic 39, 3) := by decide +kernel
theorem dX0_bestStep_8 : decode cX0_bestStep 8 = .ok (.istore_n 3, 1) := by decide +kernel
theorem dX0_bestStep_9 : decode cX0_bestStep 9 = .ok (.iconst 2, 1) := by decide +kernel
theorem dX0_bestStep_10 : decode cX0_bestStep 10 = .ok (.istore 4, 2) := by decide +kernel
theorem dX0_bestStep_12 : decode cX0_bestStep 12 = .ok (.iload 4, 2) := by decide +kernel
theorem dX0_bestStep_14 : decode cX0_bestStep 14 = .ok (.bipush 20, 2) := by decide +kernel
theorem dX0_bestStep_16 : decode cX0_bestStep 16 = .ok (.if_icmp .gt 30, 3) := by decide +kernel
theorem dX0_bestStep_19 : decode cX0_bestStep 19 = .ok (.aload_n 0, 1) := by decide +kernel
theorem dX0_bestStep_20 : decode cX0_bestStep 20 = .ok (.aload_n 1, 1) := by decide +kernel
theorem dX0_bestStep_21 : decode cX0_bestStep 21 = .ok (.iload 4, 2) := by decide +kernel
theorem dX0_bestStep_23 : decode cX0_bestStep 23 = .ok (.invokestatic 39, 3) := by decide +kernel
theorem dX0_bestStep_26 : decode cX0_bestStep 26 = .ok (.istore 5, 2) := by decide +kernel
theorem dX0_bestStep_28 : decode cX0_bestStep 28 = .ok (.iload 5, 2) := by decide +kernel
theorem dX0_bestStep_30 : decode cX0_bestStep 30 = .ok (.iload_n 3, 1) := by decide +kernel
theorem dX0_bestStep_31 : decode cX0_bestStep 31 = .ok (.if_icmp .le 9, 3) := by decide +kernel
theorem dX0_bestStep_34 : decode cX0_bestStep 34 = .ok (.iload 5, 2) := by decide +kernel
theorem dX0_bestStep_36 : decode cX0_bestStep 36 = .ok (.istore_n 3, 1) := by decide +kernel
theorem dX0_bestStep_37 : decode cX0_bestStep 37 = .ok (.iload 4, 2) := by decide +kernel
theorem dX0_bestStep_39 : decode cX0_bestStep 39 = .ok (.istore_n 2, 1) := by decide +kernel
theorem dX0_bestStep_40 : decode cX0_bestStep 40 = .ok (.iinc 4 1, 3) := by decide +kernel
theorem dX0_bestStep_43 : decode cX0_bestStep 43 = .ok (.goto (-31), 3) := by decide +kernel
theorem dX0_bestStep_46 : decode cX0_bestStep 46 = .ok (.iload_n 2, 1) := by decide +kernel
theorem dX0_bestStep_47 : decode cX0_bestStep 47 = .ok (.ireturn, 1) := by decide +kernel
theorem dX0_greatestOf_0 : decode cX0_greatestOf 0 = .ok (.aload_n 0, 1) := by decide +kernel
theorem dX0_greatestOf_1 : decode cX0_greatestOf 1 = .ok (.aload_n 1, 1) := by decide +kernel
theorem dX0_greatestOf_2 : decode cX0_greatestOf 2 = .ok (.aload_n 0, 1) := by decide +kernel
theorem dX0_greatestOf_3 : decode cX0_greatestOf 3 = .ok (.aload_n 1, 1) := by decide +kernel
theorem dX0_greatestOf_4 : decode cX0_greatestOf 4 = .ok (.invokestatic 42, 3) := by decide +kernel
theorem dX0_greatestOf_7 : decode cX0_greatestOf 7 = .ok (.invokestatic 35, 3) := by decide +kernel
theorem dX0_greatestOf_10 : decode cX0_greatestOf 10 = .ok (.istore_n 2, 1) := by decide +kernel
theorem dX0_greatestOf_11 : decode cX0_greatestOf 11 = .ok (.aload_n 0, 1) := by decide +kernel
theorem dX0_greatestOf_12 : decode cX0_greatestOf 12 = .ok (.aload_n 1, 1) := by decide +kernel
theorem dX0_greatestOf_13 : decode cX0_greatestOf 13 = .ok (.aload_n 0, 1) := by decide +kernel
theorem dX0_greatestOf_14 : decode cX0_greatestOf 14 = .ok (.aload_n 1, 1) := by decide +kernel
theorem dX0_greatestOf_15 : decode cX0_greatestOf 15 = .ok (.invokestatic 46, 3) := by decide +kernel
theorem dX0_greatestOf_18 : decode cX0_greatestOf 18 = .ok (.invokestatic 39, 3) := by decide +kernel
theorem dX0_greatestOf_21 : decode cX0_greatestOf 21 = .ok (.istore_n 3, 1) := by decide +kernel
theorem dX0_greatestOf_22 : decode cX0_greatestOf 22 = .ok (.aload_n 0, 1) := by decide +kernel
theorem dX0_greatestOf_23 : decode cX0_greatestOf 23 = .ok (.aload_n 1, 1) := by decide +kernel
theorem dX0_greatestOf_24 : decode cX0_greatestOf 24 = .ok (.invokestatic 49, 3) := by decide +kernel
theorem dX0_greatestOf_27 : decode cX0_greatestOf 27 = .ok (.iload_n 2, 1) := by decide +kernel
theorem dX0_greatestOf_28 : decode cX0_greatestOf 28 = .ok (.iload_n 3, 1) := by decide +kernel
theorem dX0_greatestOf_29 : decode cX0_greatestOf 29 = .ok (.invokestatic 52, 3) := by decide +kernel
theorem dX0_greatestOf_32 : decode cX0_greatestOf 32 = .ok (.invokestatic 52, 3) := by decide +kernel
theorem dX0_greatestOf_35 : decode cX0_greatestOf 35 = .ok (.ireturn, 1) := by decide +kernel
theorem dX0_reaches_0 : decode cX0_reaches 0 = .ok (.aload_n 0, 1) := by decide +kernel
theorem dX0_reaches_1 : decode cX0_reaches 1 = .ok (.aload_n 1, 1) := by decide +kernel
theorem dX0_reaches_2 : decode cX0_reaches 2 = .ok (.invokestatic 49, 3) := by decide +kernel
theorem dX0_reaches_5 : decode cX0_reaches 5 = .ok (.iload_n 2, 1) := by decide +kernel
theorem dX0_reaches_6 : decode cX0_reaches 6 = .ok (.if_icmp .lt 5, 3) := by decide +kernel
theorem dX0_reaches_9 : decode cX0_reaches 9 = .ok (.iconst 1, 1) := by decide +kernel
theorem dX0_reaches_10 : decode cX0_reaches 10 = .ok (.ireturn, 1) := by decide +kernel
theorem dX0_reaches_11 : decode cX0_reaches 11 = .ok (.iconst 1, 1) := by decide +kernel
theorem dX0_reaches_12 : decode cX0_reaches 12 = .ok (.istore_n 3, 1) := by decide +kernel
theorem dX0_reaches_13 : decode cX0_reaches 13 = .ok (.iload_n 3, 1) := by decide +kernel
theorem dX0_reaches_14 : decode cX0_reaches 14 = .ok (.bipush 20, 2) := by decide +kernel
theorem dX0_reaches_16 : decode cX0_reaches 16 = .ok (.if_icmp .gt 21, 3) := by decide +kernel
theorem dX0_reaches_19 : decode cX0_reaches 19 = .ok (.aload_n 0, 1) := by decide +kernel
theorem dX0_reaches_20 : decode cX0_reaches 20 = .ok (.aload_n 1, 1) := by decide +kernel
theorem dX0_reaches_21 : decode cX0_reaches 21 = .ok (.iload_n 3, 1) := by decide +kernel
theorem dX0_reaches_22 : decode cX0_reaches 22 = .ok (.invokestatic 39, 3) := by decide +kernel
theorem dX0_reaches_25 : decode cX0_reaches 25 = .ok (.iload_n 2, 1) := by decide +kernel
theorem dX0_reaches_26 : decode cX0_reaches 26 = .ok (.if_icmp .lt 5, 3) := by decide +kernel
theorem dX0_reaches_29 : decode cX0_reaches 29 = .ok (.iconst 1, 1) := by decide +kernel
theorem dX0_reaches_30 : decode cX0_reaches 30 = .ok (.ireturn, 1) := by decide +kernel
theorem dX0_reaches_31 : decode cX0_reaches 31 = .ok (.iinc 3 1, 3) := by decide +kernel
theorem dX0_reaches_34 : decode cX0_reaches 34 = .ok (.goto (-21), 3) := by decide +kernel
theorem dX0_reaches_37 : decode cX0_reaches 37 = .ok (.iconst 0, 1) := by decide +kernel
theorem dX0_reaches_38 : decode cX0_reaches 38 = .ok (.istore_n 3, 1) := by decide +kernel
theorem dX0_reaches_39 : decode cX0_reaches 39 = .ok (.iload_n 3, 1) := by decide +kernel
theorem dX0_reaches_40 : decode cX0_reaches 40 = .ok (.aload_n 0, 1) := by decide +kernel
theorem dX0_reaches_41 : decode cX0_reaches 41 = .ok (.getfield 15, 3) := by decide +kernel
theorem dX0_reaches_44 : decode cX0_reaches 44 = .ok (.iconst 2, 1) := by decide +kernel
theorem dX0_reaches_45 : decode cX0_reaches 45 = .ok (.idiv, 1) := by decide +kernel
theorem dX0_reaches_46 : decode cX0_reaches 46 = .ok (.if_icmp .gt 21, 3) := by decide +kernel
theorem dX0_reaches_49 : decode cX0_reaches 49 = .ok (.aload_n 0, 1) := by decide +kernel
theorem dX0_reaches_50 : decode cX0_reaches 50 = .ok (.aload_n 1, 1) := by decide +kernel
theorem dX0_reaches_51 : decode cX0_reaches 51 = .ok (.iload_n 3, 1) := by decide +kernel
theorem dX0_reaches_52 : decode cX0_reaches 52 = .ok (.invokestatic 35, 3) := by decide +kernel
theorem dX0_reaches_55 : decode cX0_reaches 55 = .ok (.iload_n 2, 1) := by decide +kernel
theorem dX0_reaches_56 : decode cX0_reaches 56 = .ok (.if_icmp .lt 5, 3) := by decide +kernel
theorem dX0_reaches_59 : decode cX0_reaches 59 = .ok (.iconst 1, 1) := by decide +kernel
theorem dX0_reaches_60 : decode cX0_reaches 60 = .ok (.ireturn, 1) := by decide +kernel
theorem dX0_reaches_61 : decode cX0_reaches 61 = .ok (.iinc 3 1, 3) := by decide +kernel
theorem dX0_reaches_64 : decode cX0_reaches 64 = .ok (.goto (-25), 3) := by decide +kernel
theorem dX0_reaches_67 : decode cX0_reaches 67 = .ok (.iconst 0, 1) := by decide +kernel
theorem dX0_reaches_68 : decode cX0_reaches 68 = .ok (.ireturn, 1) := by decide +kernel
theorem dX1_init_0 : decode cX1_init 0 = .ok (.aload_n 0, 1) := by decide +kernel
theorem dX1_init_1 : decode cX1_init 1 = .ok (.invokespecial 3, 3) := by decide +kernel
theorem dX1_init_4 : decode cX1_init 4 = .ok (.aload_n 0, 1) := by decide +kernel
theorem dX1_init_5 : decode cX1_init 5 = .ok (.iconst 0, 1) := by decide +kernel
theorem dX1_init_6 : decode cX1_init 6 = .ok (.putfield 9, 3) := by decide +kernel
theorem dX1_init_9 : decode cX1_init 9 = .ok (.aload_n 0, 1) := by decide +kernel
theorem dX1_init_10 : decode cX1_init 10 = .ok (.iconst (-1), 1) := by decide +kernel
theorem dX1_init_11 : decode cX1_init 11 = .ok (.putfield 15, 3) := by decide +kernel
theorem dX1_init_14 : decode cX1_init 14 = .ok (.aload_n 0, 1) := by decide +kernel
theorem dX1_init_15 : decode cX1_init 15 = .ok (.bipush 8, 2) := by decide +kernel
theorem dX1_init_17 : decode cX1_init 17 = .ok (.newarray .int, 2) := by decide +kernel
theorem dX1_init_19 : decode cX1_init 19 = .ok (.putfield 18, 3) := by decide +kernel
theorem dX1_init_22 : decode cX1_init 22 = .ok (.return_, 1) := by decide +kernel
theorem dX1_agrees_0 : decode cX1_agrees 0 = .ok (.iconst 0, 1) := by decide +kernel
theorem dX1_agrees_1 : decode cX1_agrees 1 = .ok (.istore 4, 2) := by decide +kernel
theorem dX1_agrees_3 : decode cX1_agrees 3 = .ok (.iload 4, 2) := by decide +kernel
theorem dX1_agrees_5 : decode cX1_agrees 5 = .ok (.aload_n 2, 1) := by decide +kernel
theorem dX1_agrees_6 : decode cX1_agrees 6 = .ok (.getfield 22, 3) := by decide +kernel
theorem dX1_agrees_9 : decode cX1_agrees 9 = .ok (.if_icmp .ge 31, 3) := by decide +kernel
theorem dX1_agrees_12 : decode cX1_agrees 12 = .ok (.aload_n 3, 1) := by decide +kernel
theorem dX1_agrees_13 : decode cX1_agrees 13 = .ok (.aload_n 1, 1) := by decide +kernel
theorem dX1_agrees_14 : decode cX1_agrees 14 = .ok (.aload_n 2, 1) := by decide +kernel
theorem dX1_agrees_15 : decode cX1_agrees 15 = .ok (.iload 4, 2) := by decide +kernel
theorem dX1_agrees_17 : decode cX1_agrees 17 = .ok (.invokevirtual 27, 3) := by decide +kernel
theorem dX1_agrees_20 : decode cX1_agrees 20 = .ok (.invokevirtual 31, 3) := by decide +kernel
theorem dX1_agrees_23 : decode cX1_agrees 23 = .ok (.aload_n 2, 1) := by decide +kernel
theorem dX1_agrees_24 : decode cX1_agrees 24 = .ok (.iload 4, 2) := by decide +kernel
theorem dX1_agrees_26 : decode cX1_agrees 26 = .ok (.invokevirtual 37, 3) := by decide +kernel
theorem dX1_agrees_29 : decode cX1_agrees 29 = .ok (.if_icmp .eq 5, 3) := by decide +kernel
theorem dX1_agrees_32 : decode cX1_agrees 32 = .ok (.iconst 0, 1) := by decide +kernel
theorem dX1_agrees_33 : decode cX1_agrees 33 = .ok (.ireturn, 1) := by decide +kernel
theorem dX1_agrees_34 : decode cX1_agrees 34 = .ok (.iinc 4 1, 3) := by decide +kernel
theorem dX1_agrees_37 : decode cX1_agrees 37 = .ok (.goto (-34), 3) := by decide +kernel
theorem dX1_agrees_40 : decode cX1_agrees 40 = .ok (.iconst 1, 1) := by decide +kernel
theorem dX1_agrees_41 : decode cX1_agrees 41 = .ok (.ireturn, 1) := by decide +kernel
theorem dX1_search_0 : decode cX1_search 0 = .ok (.aload_n 0, 1) := by decide +kernel
theorem dX1_search_1 : decode cX1_search 1 = .ok (.iconst 0, 1) := by decide +kernel
theorem dX1_search_2 : decode cX1_search 2 = .ok (.putfield 9, 3) := by decide +kernel
theorem dX1_search_5 : decode cX1_search 5 = .ok (.aload_n 0, 1) := by decide +kernel
theorem dX1_search_6 : decode cX1_search 6 = .ok (.iconst (-1), 1) := by decide +kernel
theorem dX1_search_7 : decode cX1_search 7 = .ok (.putfield 15, 3) := by decide +kernel
theorem dX1_search_10 : decode cX1_search 10 = .ok (.iconst 0, 1) := by decide +kernel
theorem dX1_search_11 : decode cX1_search 11 = .ok (.istore 5, 2) := by decide +kernel
theorem dX1_search_13 : decode cX1_search 13 = .ok (.iload 5, 2) := by decide +kernel
theorem dX1_search_15 : decode cX1_search 15 = .ok (.bipush 8, 2) := by decide +kernel
theorem dX1_search_17 : decode cX1_search 17 = .ok (.if_icmp .ge 17, 3) := by decide +kernel
theorem dX1_search_20 : decode cX1_search 20 = .ok (.aload_n 0, 1) := by decide +kernel
theorem dX1_search_21 : decode cX1_search 21 = .ok (.getfield 18, 3) := by decide +kernel
theorem dX1_search_24 : decode cX1_search 24 = .ok (.iload 5, 2) := by decide +kernel
theorem dX1_search_26 : decode cX1_search 26 = .ok (.iconst 0, 1) := by decide +kernel
theorem dX1_search_27 : decode cX1_search 27 = .ok (.iastore, 1) := by decide +kernel
theorem dX1_search_28 : decode cX1_search 28 = .ok (.iinc 5 1, 3) := by decide +kernel
theorem dX1_search_31 : decode cX1_search 31 = .ok (.goto (-18), 3) := by decide +kernel
theorem dX1_search_34 : decode cX1_search 34 = .ok (.iconst 0, 1) := by decide +kernel
theorem dX1_search_35 : decode cX1_search 35 = .ok (.istore 5, 2) := by decide +kernel
theorem dX1_search_37 : decode cX1_search 37 = .ok (.iload 5, 2) := by decide +kernel
theorem dX1_search_39 : decode cX1_search 39 = .ok (.aload_n 1, 1) := by decide +kernel
theorem dX1_search_40 : decode cX1_search 40 = .ok (.getfield 40, 3) := by decide +kernel
theorem dX1_search_43 : decode cX1_search 43 = .ok (.if_icmp .ge 122, 3) := by decide +kernel
theorem dX1_search_46 : decode cX1_search 46 = .ok (.aload_n 1, 1) := by decide +kernel
theorem dX1_search_47 : decode cX1_search 47 = .ok (.getfield 45, 3) := by decide +kernel
theorem dX1_search_50 : decode cX1_search 50 = .ok (.iload 5, 2) := by decide +kernel
theorem dX1_search_52 : decode cX1_search 52 = .ok (.iaload, 1) := by decide +kernel
theorem dX1_search_53 : decode cX1_search 53 = .ok (.istore 6, 2) := by decide +kernel
theorem dX1_search_55 : decode cX1_search 55 = .ok (.iconst 1, 1) := by decide +kernel
theorem dX1_search_56 : decode cX1_search 56 = .ok (.istore 7, 2) := by decide +kernel
theorem dX1_search_58 : decode cX1_search 58 = .ok (.iload 7, 2) := by decide +kernel
theorem dX1_search_60 : decode cX1_search 60 = .ok (.aload_n 1, 1) := by decide +kernel
theorem dX1_search_61 : decode cX1_search 61 = .ok (.getfield 48, 3) := by decide +kernel
theorem dX1_search_64 : decode cX1_search 64 = .ok (.if_icmp .gt 86, 3) := by decide +kernel
theorem dX1_search_67 : decode cX1_search 67 = .ok (.aload_n 1, 1) := by decide +kernel
theorem dX1_search_68 : decode cX1_search 68 = .ok (.getfield 45, 3) := by decide +kernel
theorem dX1_search_71 : decode cX1_search 71 = .ok (.iload 5, 2) := by decide +kernel
theorem dX1_search_73 : decode cX1_search 73 = .ok (.iload 7, 2) := by decide +kernel
theorem dX1_search_75 : decode cX1_search 75 = .ok (.iastore, 1) := by decide +kernel
theorem dX1_search_76 : decode cX1_search 76 = .ok (.aload_n 1, 1) := by decide +kernel
theorem dX1_search_77 : decode cX1_search 77 = .ok (.invokevirtual 51, 3) := by decide +kernel
theorem dX1_search_80 : decode cX1_search 80 = .ok (.iload 7, 2) := by decide +kernel
theorem dX1_search_82 : decode cX1_search 82 = .ok (.iload 6, 2) := by decide +kernel
theorem dX1_search_84 : decode cX1_search 84 = .ok (.if_icmp .eq 60, 3) := by decide +kernel
theorem dX1_search_87 : decode cX1_search 87 = .ok (.aload_n 0, 1) := by decide +kernel
theorem dX1_search_88 : decode cX1_search 88 = .ok (.aload_n 1, 1) := by decide +kernel
theorem dX1_search_89 : decode cX1_search 89 = .ok (.aload_n 2, 1) := by decide +kernel
theorem dX1_search_90 : decode cX1_search 90 = .ok (.aload_n 3, 1) := by decide +kernel
theorem dX1_search_91 : decode cX1_search 91 = .ok (.invokevirtual 54, 3) := by decide +kernel
theorem dX1_search_94 : decode cX1_search 94 = .ok (.ifCond .eq 50, 3) := by decide +kernel
theorem dX1_search_97 : decode cX1_search 97 = .ok (.aload_n 0, 1) := by decide +kernel
theorem dX1_search_98 : decode cX1_search 98 = .ok (.aload_n 0, 1) := by decide +kernel
theorem dX1_search_99 : decode cX1_search 99 = .ok (.getfield 9, 3) := by decide +kernel
theorem dX1_search_102 : decode cX1_search 102 = .ok (.ifCond .ne 14, 3) := by decide +kernel
theorem dX1_search_105 : decode cX1_search 105 = .ok (.bipush 100, 2) := by decide +kernel
theorem dX1_search_107 : decode cX1_search 107 = .ok (.iload 5, 2) := by decide +kernel
theorem dX1_search_109 : decode cX1_search 109 = .ok (.imul, 1) := by decide +kernel
theorem dX1_search_110 : decode cX1_search 110 = .ok (.iload 7, 2) := by decide +kernel
theorem dX1_search_112 : decode cX1_search 112 = .ok (.iadd, 1) := by decide +kernel
theorem dX1_search_113 : decode cX1_search 113 = .ok (.goto 7, 3) := by decide +kernel
theorem dX1_search_116 : decode cX1_search 116 = .ok (.aload_n 0, 1) := by decide +kernel
theorem dX1_search_117 : decode cX1_search 117 = .ok (.getfield 15, 3) := by decide +kernel
theorem dX1_search_120 : decode cX1_search 120 = .ok (.putfield 15, 3) := by decide +kernel
theorem dX1_search_123 : decode cX1_search 123 = .ok (.aload_n 0, 1) := by decide +kernel
theorem dX1_search_124 : decode cX1_search 124 = .ok (.dup, 1) := by decide +kernel
theorem dX1_search_125 : decode cX1_search 125 = .ok (.getfield 9, 3) := by decide +kernel
theorem dX1_search_128 : decode cX1_search 128 = .ok (.iconst 1, 1) := by decide +kernel
theorem dX1_search_129 : decode cX1_search 129 = .ok (.iadd, 1) := by decide +kernel
theorem dX1_search_130 : decode cX1_search 130 = .ok (.putfield 9, 3) := by decide +kernel
theorem dX1_search_133 : decode cX1_search 133 = .ok (.iload 4, 2) := by decide +kernel
theorem dX1_search_135 : decode cX1_search 135 = .ok (.ifCond .eq 9, 3) := by decide +kernel
theorem dX1_search_138 : decode cX1_search 138 = .ok (.aload_n 0, 1) := by decide +kernel
theorem dX1_search_139 : decode cX1_search 139 = .ok (.aload_n 1, 1) := by decide +kernel
theorem dX1_search_140 : decode cX1_search 140 = .ok (.aload_n 3, 1) := by decide +kernel
theorem dX1_search_141 : decode cX1_search 141 = .ok (.invokevirtual 58, 3) := by decide +kernel
theorem dX1_search_144 : decode cX1_search 144 = .ok (.iinc 7 1, 3) := by decide +kernel
theorem dX1_search_147 : decode cX1_search 147 = .ok (.goto (-89), 3) := by decide +kernel
theorem dX1_search_150 : decode cX1_search 150 = .ok (.aload_n 1, 1) := by decide +kernel
theorem dX1_search_151 : decode cX1_search 151 = .ok (.getfield 45, 3) := by decide +kernel
theorem dX1_search_154 : decode cX1_search 154 = .ok (.iload 5, 2) := by decide +kernel
theorem dX1_search_156 : decode cX1_search 156 = .ok (.iload 6, 2) := by decide +kernel
theorem dX1_search_158 : decode cX1_search 158 = .ok (.iastore, 1) := by decide +kernel
theorem dX1_search_159 : decode cX1_search 159 = .ok (.iinc 5 1, 3) := by decide +kernel
theorem dX1_search_162 : decode cX1_search 162 = .ok (.goto (-125), 3) := by decide +kernel
theorem dX1_search_165 : decode cX1_search 165 = .ok (.return_, 1) := by decide +kernel
theorem dX1_see_0 : decode cX1_see 0 = .ok (.iconst 0, 1) := by decide +kernel
theorem dX1_see_1 : decode cX1_see 1 = .ok (.istore_n 3, 1) := by decide +kernel
theorem dX1_see_2 : decode cX1_see 2 = .ok (.iload_n 3, 1) := by decide +kernel
theorem dX1_see_3 : decode cX1_see 3 = .ok (.bipush 8, 2) := by decide +kernel
theorem dX1_see_5 : decode cX1_see 5 = .ok (.if_icmp .ge 26, 3) := by decide +kernel
theorem dX1_see_8 : decode cX1_see 8 = .ok (.aload_n 0, 1) := by decide +kernel
theorem dX1_see_9 : decode cX1_see 9 = .ok (.getfield 18, 3) := by decide +kernel
theorem dX1_see_12 : decode cX1_see 12 = .ok (.iload_n 3, 1) := by decide +kernel
theorem dX1_see_13 : decode cX1_see 13 = .ok (.dup2, 1) := by decide +kernel
theorem dX1_see_14 : decode cX1_see 14 = .ok (.iaload, 1) := by decide +kernel
theorem dX1_see_15 : decode cX1_see 15 = .ok (.iconst 1, 1) := by decide +kernel
theorem dX1_see_16 : decode cX1_see 16 = .ok (.aload_n 2, 1) := by decide +kernel
theorem dX1_see_17 : decode cX1_see 17 = .ok (.aload_n 1, 1) := by decide +kernel
theorem dX1_see_18 : decode cX1_see 18 = .ok (.iload_n 3, 1) := by decide +kernel
theorem dX1_see_19 : decode cX1_see 19 = .ok (.invokevirtual 31, 3) := by decide +kernel
theorem dX1_see_22 : decode cX1_see 22 = .ok (.ishl, 1) := by decide +kernel
theorem dX1_see_23 : decode cX1_see 23 = .ok (.ior, 1) := by decide +kernel
theorem dX1_see_24 : decode cX1_see 24 = .ok (.iastore, 1) := by decide +kernel
theorem dX1_see_25 : decode cX1_see 25 = .ok (.iinc 3 1, 3) := by decide +kernel
theorem dX1_see_28 : decode cX1_see 28 = .ok (.goto (-26), 3) := by decide +kernel
theorem dX1_see_31 : decode cX1_see 31 = .ok (.return_, 1) := by decide +kernel
theorem dX1_unlike_0 : decode cX1_unlike 0 = .ok (.iload_n 1, 1) := by decide +kernel
theorem dX1_unlike_1 : decode cX1_unlike 1 = .ok (.ifCond .lt 21, 3) := by decide +kernel
theorem dX1_unlike_4 : decode cX1_unlike 4 = .ok (.iload_n 1, 1) := by decide +kernel
theorem dX1_unlike_5 : decode cX1_unlike 5 = .ok (.bipush 8, 2) := by decide +kernel
theorem dX1_unlike_7 : decode cX1_unlike 7 = .ok (.if_icmp .ge 15, 3) := by decide +kernel
theorem dX1_unlike_10 : decode cX1_unlike 10 = .ok (.aload_n 0, 1) := by decide +kernel
theorem dX1_unlike_11 : decode cX1_unlike 11 = .ok (.getfield 18, 3) := by decide +kernel
theorem dX1_unlike_14 : decode cX1_unlike 14 = .ok (.iload_n 1, 1) := by decide +kernel
theorem dX1_unlike_15 : decode cX1_unlike 15 = .ok (.iaload, 1) := by decide +kernel
theorem dX1_unlike_16 : decode cX1_unlike 16 = .ok (.invokestatic 62, 3) := by decide +kernel
theorem dX1_unlike_19 : decode cX1_unlike 19 = .ok (.goto 4, 3) := by decide +kernel
theorem dX1_unlike_22 : decode cX1_unlike 22 = .ok (.iconst 0, 1) := by decide +kernel
theorem dX1_unlike_23 : decode cX1_unlike 23 = .ok (.ireturn, 1) := by decide +kernel
theorem dX1_widest_0 : decode cX1_widest 0 = .ok (.iconst 0, 1) := by decide +kernel
theorem dX1_widest_1 : decode cX1_widest 1 = .ok (.istore_n 1, 1) := by decide +kernel
theorem dX1_widest_2 : decode cX1_widest 2 = .ok (.iconst 1, 1) := by decide +kernel
theorem dX1_widest_3 : decode cX1_widest 3 = .ok (.istore_n 2, 1) := by decide +kernel
theorem dX1_widest_4 : decode cX1_widest 4 = .ok (.iload_n 2, 1) := by decide +kernel
theorem dX1_widest_5 : decode cX1_widest 5 = .ok (.bipush 8, 2) := by decide +kernel
theorem dX1_widest_7 : decode cX1_widest 7 = .ok (.if_icmp .ge 24, 3) := by decide +kernel
theorem dX1_widest_10 : decode cX1_widest 10 = .ok (.aload_n 0, 1) := by decide +kernel
theorem dX1_widest_11 : decode cX1_widest 11 = .ok (.iload_n 2, 1) := by decide +kernel
theorem dX1_widest_12 : decode cX1_widest 12 = .ok (.invokevirtual 67, 3) := by decide +kernel
theorem dX1_widest_15 : decode cX1_widest 15 = .ok (.aload_n 0, 1) := by decide +kernel
theorem dX1_widest_16 : decode cX1_widest 16 = .ok (.iload_n 1, 1) := by decide +kernel
theorem dX1_widest_17 : decode cX1_widest 17 = .ok (.invokevirtual 67, 3) := by decide +kernel
theorem dX1_widest_20 : decode cX1_widest 20 = .ok (.if_icmp .le 5, 3) := by decide +kernel
theorem dX1_widest_23 : decode cX1_widest 23 = .ok (.iload_n 2, 1) := by decide +kernel
theorem dX1_widest_24 : decode cX1_widest 24 = .ok (.istore_n 1, 1) := by decide +kernel
theorem dX1_widest_25 : decode cX1_widest 25 = .ok (.iinc 2 1, 3) := by decide +kernel
theorem dX1_widest_28 : decode cX1_widest 28 = .ok (.goto (-24), 3) := by decide +kernel
theorem dX1_widest_31 : decode cX1_widest 31 = .ok (.iload_n 1, 1) := by decide +kernel
theorem dX1_widest_32 : decode cX1_widest 32 = .ok (.ireturn, 1) := by decide +kernel
theorem dX2_init_0 : decode cX2_init 0 = .ok (.aload_n 0, 1) := by decide +kernel
theorem dX2_init_1 : decode cX2_init 1 = .ok (.invokespecial 3, 3) := by decide +kernel
theorem dX2_init_4 : decode cX2_init 4 = .ok (.aload_n 0, 1) := by decide +kernel
theorem dX2_init_5 : decode cX2_init 5 = .ok (.bipush 30, 2) := by decide +kernel
theorem dX2_init_7 : decode cX2_init 7 = .ok (.putfield 9, 3) := by decide +kernel
theorem dX2_init_10 : decode cX2_init 10 = .ok (.aload_n 0, 1) := by decide +kernel
theorem dX2_init_11 : decode cX2_init 11 = .ok (.iconst 0, 1) := by decide +kernel
theorem dX2_init_12 : decode cX2_init 12 = .ok (.putfield 15, 3) := by decide +kernel
theorem dX2_init_15 : decode cX2_init 15 = .ok (.aload_n 0, 1) := by decide +kernel
theorem dX2_init_16 : decode cX2_init 16 = .ok (.bipush 6, 2) := by decide +kernel
theorem dX2_init_18 : decode cX2_init 18 = .ok (.newarray .int, 2) := by decide +kernel
theorem dX2_init_20 : decode cX2_init 20 = .ok (.putfield 18, 3) := by decide +kernel
theorem dX2_init_23 : decode cX2_init 23 = .ok (.aload_n 0, 1) := by decide +kernel
theorem dX2_init_24 : decode cX2_init 24 = .ok (.bipush 6, 2) := by decide +kernel
theorem dX2_init_26 : decode cX2_init 26 = .ok (.newarray .int, 2) := by decide +kernel
theorem dX2_init_28 : decode cX2_init 28 = .ok (.putfield 22, 3) := by decide +kernel
theorem dX2_init_31 : decode cX2_init 31 = .ok (.aload_n 0, 1) := by decide +kernel
theorem dX2_init_32 : decode cX2_init 32 = .ok (.bipush 6, 2) := by decide +kernel
theorem dX2_init_34 : decode cX2_init 34 = .ok (.newarray .int, 2) := by decide +kernel
theorem dX2_init_36 : decode cX2_init 36 = .ok (.putfield 25, 3) := by decide +kernel
theorem dX2_init_39 : decode cX2_init 39 = .ok (.return_, 1) := by decide +kernel
theorem dX2_cut_0 : decode cX2_cut 0 = .ok (.iload_n 1, 1) := by decide +kernel
theorem dX2_cut_1 : decode cX2_cut 1 = .ok (.iconst 1, 1) := by decide +kernel
theorem dX2_cut_2 : decode cX2_cut 2 = .ok (.if_icmp .ge 7, 3) := by decide +kernel
theorem dX2_cut_5 : decode cX2_cut 5 = .ok (.iconst 0, 1) := by decide +kernel
theorem dX2_cut_6 : decode cX2_cut 6 = .ok (.goto 6, 3) := by decide +kernel
theorem dX2_cut_9 : decode cX2_cut 9 = .ok (.iload_n 0, 1) := by decide +kernel
theorem dX2_cut_10 : decode cX2_cut 10 = .ok (.iload_n 1, 1) := by decide +kernel
theorem dX2_cut_11 : decode cX2_cut 11 = .ok (.idiv, 1) := by decide +kernel
theorem dX2_cut_12 : decode cX2_cut 12 = .ok (.ireturn, 1) := by decide +kernel
theorem dX2_becomeLike_0 : decode cX2_becomeLike 0 = .ok (.aload_n 0, 1) := by decide +kernel
theorem dX2_becomeLike_1 : decode cX2_becomeLike 1 = .ok (.aload_n 1, 1) := by decide +kernel
theorem dX2_becomeLike_2 : decode cX2_becomeLike 2 = .ok (.getfield 9, 3) := by decide +kernel
theorem dX2_becomeLike_5 : decode cX2_becomeLike 5 = .ok (.putfield 9, 3) := by decide +kernel
theorem dX2_becomeLike_8 : decode cX2_becomeLike 8 = .ok (.aload_n 0, 1) := by decide +kernel
theorem dX2_becomeLike_9 : decode cX2_becomeLike 9 = .ok (.aload_n 1, 1) := by decide +kernel
theorem dX2_becomeLike_10 : decode cX2_becomeLike 10 = .ok (.getfield 15, 3) := by decide +kernel
theorem dX2_becomeLike_13 : decode cX2_becomeLike 13 = .ok (.putfield 15, 3) := by decide +kernel
theorem dX2_becomeLike_16 : decode cX2_becomeLike 16 = .ok (.aload_n 1, 1) := by decide +kernel
theorem dX2_becomeLike_17 : decode cX2_becomeLike 17 = .ok (.getfield 18, 3) := by decide +kernel
theorem dX2_becomeLike_20 : decode cX2_becomeLike 20 = .ok (.iconst 0, 1) := by decide +kernel
theorem dX2_becomeLike_21 : decode cX2_becomeLike 21 = .ok (.aload_n 0, 1) := by decide +kernel
theorem dX2_becomeLike_22 : decode cX2_becomeLike 22 = .ok (.getfield 18, 3) := by decide +kernel
theorem dX2_becomeLike_25 : decode cX2_becomeLike 25 = .ok (.iconst 0, 1) := by decide +kernel
theorem dX2_becomeLike_26 : decode cX2_becomeLike 26 = .ok (.bipush 6, 2) := by decide +kernel
theorem dX2_becomeLike_28 : decode cX2_becomeLike 28 = .ok (.invokestatic 28, 3) := by decide +kernel
theorem dX2_becomeLike_31 : decode cX2_becomeLike 31 = .ok (.aload_n 1, 1) := by decide +kernel
theorem dX2_becomeLike_32 : decode cX2_becomeLike 32 = .ok (.getfield 22, 3) := by decide +kernel
theorem dX2_becomeLike_35 : decode cX2_becomeLike 35 = .ok (.iconst 0, 1) := by decide +kernel
theorem dX2_becomeLike_36 : decode cX2_becomeLike 36 = .ok (.aload_n 0, 1) := by decide +kernel
theorem dX2_becomeLike_37 : decode cX2_becomeLike 37 = .ok (.getfield 22, 3) := by decide +kernel
theorem dX2_becomeLike_40 : decode cX2_becomeLike 40 = .ok (.iconst 0, 1) := by decide +kernel
theorem dX2_becomeLike_41 : decode cX2_becomeLike 41 = .ok (.bipush 6, 2) := by decide +kernel
theorem dX2_becomeLike_43 : decode cX2_becomeLike 43 = .ok (.invokestatic 28, 3) := by decide +kernel
theorem dX2_becomeLike_46 : decode cX2_becomeLike 46 = .ok (.aload_n 1, 1) := by decide +kernel
theorem dX2_becomeLike_47 : decode cX2_becomeLike 47 = .ok (.getfield 25, 3) := by decide +kernel
theorem dX2_becomeLike_50 : decode cX2_becomeLike 50 = .ok (.iconst 0, 1) := by decide +kernel
theorem dX2_becomeLike_51 : decode cX2_becomeLike 51 = .ok (.aload_n 0, 1) := by decide +kernel
theorem dX2_becomeLike_52 : decode cX2_becomeLike 52 = .ok (.getfield 25, 3) := by decide +kernel
theorem dX2_becomeLike_55 : decode cX2_becomeLike 55 = .ok (.iconst 0, 1) := by decide +kernel
theorem dX2_becomeLike_56 : decode cX2_becomeLike 56 = .ok (.bipush 6, 2) := by decide +kernel
theorem dX2_becomeLike_58 : decode cX2_becomeLike 58 = .ok (.invokestatic 28, 3) := by decide +kernel
theorem dX2_becomeLike_61 : decode cX2_becomeLike 61 = .ok (.return_, 1) := by decide +kernel
theorem dX2_arrange_0 : decode cX2_arrange 0 = .ok (.iconst 0, 1) := by decide +kernel
theorem dX2_arrange_1 : decode cX2_arrange 1 = .ok (.istore_n 1, 1) := by decide +kernel
theorem dX2_arrange_2 : decode cX2_arrange 2 = .ok (.iload_n 1, 1) := by decide +kernel
theorem dX2_arrange_3 : decode cX2_arrange 3 = .ok (.aload_n 0, 1) := by decide +kernel
theorem dX2_arrange_4 : decode cX2_arrange 4 = .ok (.getfield 15, 3) := by decide +kernel
theorem dX2_arrange_7 : decode cX2_arrange 7 = .ok (.if_icmp .ge 64, 3) := by decide +kernel
theorem dX2_arrange_10 : decode cX2_arrange 10 = .ok (.iload_n 1, 1) := by decide +kernel
theorem dX2_arrange_11 : decode cX2_arrange 11 = .ok (.istore_n 2, 1) := by decide +kernel
theorem dX2_arrange_12 : decode cX2_arrange 12 = .ok (.iload_n 2, 1) := by decide +kernel
theorem dX2_arrange_13 : decode cX2_arrange 13 = .ok (.ifCond .le 45, 3) := by decide +kernel
theorem dX2_arrange_16 : decode cX2_arrange 16 = .ok (.aload_n 0, 1) := by decide +kernel
theorem dX2_arrange_17 : decode cX2_arrange 17 = .ok (.getfield 18, 3) := by decide +kernel
theorem dX2_arrange_20 : decode cX2_arrange 20 = .ok (.aload_n 0, 1) := by decide +kernel
theorem dX2_arrange_21 : decode cX2_arrange 21 = .ok (.getfield 25, 3) := by decide +kernel
theorem dX2_arrange_24 : decode cX2_arrange 24 = .ok (.iload_n 2, 1) := by decide +kernel
theorem dX2_arrange_25 : decode cX2_arrange 25 = .ok (.iconst 1, 1) := by decide +kernel
theorem dX2_arrange_26 : decode cX2_arrange 26 = .ok (.isub, 1) := by decide +kernel
theorem dX2_arrange_27 : decode cX2_arrange 27 = .ok (.iaload, 1) := by decide +kernel
theorem dX2_arrange_28 : decode cX2_arrange 28 = .ok (.iaload, 1) := by decide +kernel
theorem dX2_arrange_29 : decode cX2_arrange 29 = .ok (.aload_n 0, 1) := by decide +kernel
theorem dX2_arrange_30 : decode cX2_arrange 30 = .ok (.getfield 18, 3) := by decide +kernel
theorem dX2_arrange_33 : decode cX2_arrange 33 = .ok (.iload_n 1, 1) := by decide +kernel
theorem dX2_arrange_34 : decode cX2_arrange 34 = .ok (.iaload, 1) := by decide +kernel
theorem dX2_arrange_35 : decode cX2_arrange 35 = .ok (.if_icmp .ge 23, 3) := by decide +kernel
theorem dX2_arrange_38 : decode cX2_arrange 38 = .ok (.aload_n 0, 1) := by decide +kernel
theorem dX2_arrange_39 : decode cX2_arrange 39 = .ok (.getfield 25, 3) := by decide +kernel
theorem dX2_arrange_42 : decode cX2_arrange 42 = .ok (.iload_n 2, 1) := by decide +kernel
theorem dX2_arrange_43 : decode cX2_arrange 43 = .ok (.aload_n 0, 1) := by decide +kernel
theorem dX2_arrange_44 : decode cX2_arrange 44 = .ok (.getfield 25, 3) := by decide +kernel
theorem dX2_arrange_47 : decode cX2_arrange 47 = .ok (.iload_n 2, 1) := by decide +kernel
theorem dX2_arrange_48 : decode cX2_arrange 48 = .ok (.iconst 1, 1) := by decide +kernel
theorem dX2_arrange_49 : decode cX2_arrange 49 = .ok (.isub, 1) := by decide +kernel
theorem dX2_arrange_50 : decode cX2_arrange 50 = .ok (.iaload, 1) := by decide +kernel
theorem dX2_arrange_51 : decode cX2_arrange 51 = .ok (.iastore, 1) := by decide +kernel
theorem dX2_arrange_52 : decode cX2_arrange 52 = .ok (.iinc 2 (-1), 3) := by decide +kernel
theorem dX2_arrange_55 : decode cX2_arrange 55 = .ok (.goto (-43), 3) := by decide +kernel
theorem dX2_arrange_58 : decode cX2_arrange 58 = .ok (.aload_n 0, 1) := by decide +kernel
theorem dX2_arrange_59 : decode cX2_arrange 59 = .ok (.getfield 25, 3) := by decide +kernel
theorem dX2_arrange_62 : decode cX2_arrange 62 = .ok (.iload_n 2, 1) := by decide +kernel
theorem dX2_arrange_63 : decode cX2_arrange 63 = .ok (.iload_n 1, 1) := by decide +kernel
theorem dX2_arrange_64 : decode cX2_arrange 64 = .ok (.iastore, 1) := by decide +kernel
theorem dX2_arrange_65 : decode cX2_arrange 65 = .ok (.iinc 1 1, 3) := by decide +kernel
theorem dX2_arrange_68 : decode cX2_arrange 68 = .ok (.goto (-66), 3) := by decide +kernel
theorem dX2_arrange_71 : decode cX2_arrange 71 = .ok (.return_, 1) := by decide +kernel
theorem dX2_rankOf_0 : decode cX2_rankOf 0 = .ok (.iconst 0, 1) := by decide +kernel
theorem dX2_rankOf_1 : decode cX2_rankOf 1 = .ok (.istore_n 2, 1) := by decide +kernel
theorem dX2_rankOf_2 : decode cX2_rankOf 2 = .ok (.iload_n 2, 1) := by decide +kernel
theorem dX2_rankOf_3 : decode cX2_rankOf 3 = .ok (.aload_n 0, 1) := by decide +kernel
theorem dX2_rankOf_4 : decode cX2_rankOf 4 = .ok (.getfield 15, 3) := by decide +kernel
theorem dX2_rankOf_7 : decode cX2_rankOf 7 = .ok (.if_icmp .ge 21, 3) := by decide +kernel
theorem dX2_rankOf_10 : decode cX2_rankOf 10 = .ok (.aload_n 0, 1) := by decide +kernel
theorem dX2_rankOf_11 : decode cX2_rankOf 11 = .ok (.getfield 25, 3) := by decide +kernel
theorem dX2_rankOf_14 : decode cX2_rankOf 14 = .ok (.iload_n 2, 1) := by decide +kernel
theorem dX2_rankOf_15 : decode cX2_rankOf 15 = .ok (.iaload, 1) := by decide +kernel
theorem dX2_rankOf_16 : decode cX2_rankOf 16 = .ok (.iload_n 1, 1) := by decide +kernel
theorem dX2_rankOf_17 : decode cX2_rankOf 17 = .ok (.if_icmp .ne 5, 3) := by decide +kernel
theorem dX2_rankOf_20 : decode cX2_rankOf 20 = .ok (.iload_n 2, 1) := by decide +kernel
theorem dX2_rankOf_21 : decode cX2_rankOf 21 = .ok (.ireturn, 1) := by decide +kernel
theorem dX2_rankOf_22 : decode cX2_rankOf 22 = .ok (.iinc 2 1, 3) := by decide +kernel
theorem dX2_rankOf_25 : decode cX2_rankOf 25 = .ok (.goto (-23), 3) := by decide +kernel
theorem dX2_rankOf_28 : decode cX2_rankOf 28 = .ok (.iconst (-1), 1) := by decide +kernel
theorem dX2_rankOf_29 : decode cX2_rankOf 29 = .ok (.ireturn, 1) := by decide +kernel
theorem dX2_things_0 : decode cX2_things 0 = .ok (.iconst 0, 1) := by decide +kernel
theorem dX2_things_1 : decode cX2_things 1 = .ok (.istore_n 1, 1) := by decide +kernel
theorem dX2_things_2 : decode cX2_things 2 = .ok (.iconst 0, 1) := by decide +kernel
theorem dX2_things_3 : decode cX2_things 3 = .ok (.istore_n 2, 1) := by decide +kernel
theorem dX2_things_4 : decode cX2_things 4 = .ok (.iload_n 2, 1) := by decide +kernel
theorem dX2_things_5 : decode cX2_things 5 = .ok (.aload_n 0, 1) := by decide +kernel
theorem dX2_things_6 : decode cX2_things 6 = .ok (.getfield 15, 3) := by decide +kernel
theorem dX2_things_9 : decode cX2_things 9 = .ok (.if_icmp .ge 18, 3) := by decide +kernel
theorem dX2_things_12 : decode cX2_things 12 = .ok (.iload_n 1, 1) := by decide +kernel
theorem dX2_things_13 : decode cX2_things 13 = .ok (.aload_n 0, 1) := by decide +kernel
theorem dX2_things_14 : decode cX2_things 14 = .ok (.getfield 22, 3) := by decide +kernel
theorem dX2_things_17 : decode cX2_things 17 = .ok (.iload_n 2, 1) := by decide +kernel
theorem dX2_things_18 : decode cX2_things 18 = .ok (.iaload, 1) := by decide +kernel
theorem dX2_things_19 : decode cX2_things 19 = .ok (.iadd, 1) := by decide +kernel
theorem dX2_things_20 : decode cX2_things 20 = .ok (.istore_n 1, 1) := by decide +kernel
theorem dX2_things_21 : decode cX2_things 21 = .ok (.iinc 2 1, 3) := by decide +kernel
theorem dX2_things_24 : decode cX2_things 24 = .ok (.goto (-20), 3) := by decide +kernel
theorem dX2_things_27 : decode cX2_things 27 = .ok (.iload_n 1, 1) := by decide +kernel
theorem dX2_things_28 : decode cX2_things 28 = .ok (.ireturn, 1) := by decide +kernel
theorem dX2_tallest_0 : decode cX2_tallest 0 = .ok (.iconst 0, 1) := by decide +kernel
theorem dX2_tallest_1 : decode cX2_tallest 1 = .ok (.istore_n 1, 1) := by decide +kernel
theorem dX2_tallest_2 : decode cX2_tallest 2 = .ok (.iconst 0, 1) := by decide +kernel
theorem dX2_tallest_3 : decode cX2_tallest 3 = .ok (.istore_n 2, 1) := by decide +kernel
theorem dX2_tallest_4 : decode cX2_tallest 4 = .ok (.iload_n 2, 1) := by decide +kernel
theorem dX2_tallest_5 : decode cX2_tallest 5 = .ok (.aload_n 0, 1) := by decide +kernel
theorem dX2_tallest_6 : decode cX2_tallest 6 = .ok (.getfield 15, 3) := by decide +kernel
theorem dX2_tallest_9 : decode cX2_tallest 9 = .ok (.if_icmp .ge 29, 3) := by decide +kernel
theorem dX2_tallest_12 : decode cX2_tallest 12 = .ok (.aload_n 0, 1) := by decide +kernel
theorem dX2_tallest_13 : decode cX2_tallest 13 = .ok (.getfield 22, 3) := by decide +kernel
theorem dX2_tallest_16 : decode cX2_tallest 16 = .ok (.iload_n 2, 1) := by decide +kernel
theorem dX2_tallest_17 : decode cX2_tallest 17 = .ok (.iaload, 1) := by decide +kernel
theorem dX2_tallest_18 : decode cX2_tallest 18 = .ok (.ifCond .le 14, 3) := by decide +kernel
theorem dX2_tallest_21 : decode cX2_tallest 21 = .ok (.iload_n 1, 1) := by decide +kernel
theorem dX2_tallest_22 : decode cX2_tallest 22 = .ok (.aload_n 0, 1) := by decide +kernel
theorem dX2_tallest_23 : decode cX2_tallest 23 = .ok (.getfield 18, 3) := by decide +kernel
theorem dX2_tallest_26 : decode cX2_tallest 26 = .ok (.iload_n 2, 1) := by decide +kernel
theorem dX2_tallest_27 : decode cX2_tallest 27 = .ok (.iaload, 1) := by decide +kernel
theorem dX2_tallest_28 : decode cX2_tallest 28 = .ok (.invokestatic 34, 3) := by decide +kernel
theorem dX2_tallest_31 : decode cX2_tallest 31 = .ok (.istore_n 1, 1) := by decide +kernel
theorem dX2_tallest_32 : decode cX2_tallest 32 = .ok (.iinc 2 1, 3) := by decide +kernel
theorem dX2_tallest_35 : decode cX2_tallest 35 = .ok (.goto (-31), 3) := by decide +kernel
theorem dX2_tallest_38 : decode cX2_tallest 38 = .ok (.iload_n 1, 1) := by decide +kernel
theorem dX2_tallest_39 : decode cX2_tallest 39 = .ok (.ireturn, 1) := by decide +kernel
theorem dX2_weightOf_0 : decode cX2_weightOf 0 = .ok (.iconst 0, 1) := by decide +kernel
theorem dX2_weightOf_1 : decode cX2_weightOf 1 = .ok (.istore_n 2, 1) := by decide +kernel
theorem dX2_weightOf_2 : decode cX2_weightOf 2 = .ok (.iconst 0, 1) := by decide +kernel
theorem dX2_weightOf_3 : decode cX2_weightOf 3 = .ok (.istore_n 3, 1) := by decide +kernel
theorem dX2_weightOf_4 : decode cX2_weightOf 4 = .ok (.iload_n 3, 1) := by decide +kernel
theorem dX2_weightOf_5 : decode cX2_weightOf 5 = .ok (.aload_n 0, 1) := by decide +kernel
theorem dX2_weightOf_6 : decode cX2_weightOf 6 = .ok (.getfield 15, 3) := by decide +kernel
theorem dX2_weightOf_9 : decode cX2_weightOf 9 = .ok (.if_icmp .ge 28, 3) := by decide +kernel
theorem dX2_weightOf_12 : decode cX2_weightOf 12 = .ok (.iload_n 3, 1) := by decide +kernel
theorem dX2_weightOf_13 : decode cX2_weightOf 13 = .ok (.aload_n 1, 1) := by decide +kernel
theorem dX2_weightOf_14 : decode cX2_weightOf 14 = .ok (.arraylength, 1) := by decide +kernel
theorem dX2_weightOf_15 : decode cX2_weightOf 15 = .ok (.if_icmp .ge 22, 3) := by decide +kernel
theorem dX2_weightOf_18 : decode cX2_weightOf 18 = .ok (.iload_n 2, 1) := by decide +kernel
theorem dX2_weightOf_19 : decode cX2_weightOf 19 = .ok (.aload_n 0, 1) := by decide +kernel
theorem dX2_weightOf_20 : decode cX2_weightOf 20 = .ok (.getfield 18, 3) := by decide +kernel
theorem dX2_weightOf_23 : decode cX2_weightOf 23 = .ok (.iload_n 3, 1) := by decide +kernel
theorem dX2_weightOf_24 : decode cX2_weightOf 24 = .ok (.iaload, 1) := by decide +kernel
theorem dX2_weightOf_25 : decode cX2_weightOf 25 = .ok (.aload_n 1, 1) := by decide +kernel
theorem dX2_weightOf_26 : decode cX2_weightOf 26 = .ok (.iload_n 3, 1) := by decide +kernel
theorem dX2_weightOf_27 : decode cX2_weightOf 27 = .ok (.iaload, 1) := by decide +kernel
theorem dX2_weightOf_28 : decode cX2_weightOf 28 = .ok (.imul, 1) := by decide +kernel
theorem dX2_weightOf_29 : decode cX2_weightOf 29 = .ok (.iadd, 1) := by decide +kernel
theorem dX2_weightOf_30 : decode cX2_weightOf 30 = .ok (.istore_n 2, 1) := by decide +kernel
theorem dX2_weightOf_31 : decode cX2_weightOf 31 = .ok (.iinc 3 1, 3) := by decide +kernel
theorem dX2_weightOf_34 : decode cX2_weightOf 34 = .ok (.goto (-30), 3) := by decide +kernel
theorem dX2_weightOf_37 : decode cX2_weightOf 37 = .ok (.iload_n 2, 1) := by decide +kernel
theorem dX2_weightOf_38 : decode cX2_weightOf 38 = .ok (.ireturn, 1) := by decide +kernel
theorem dX2_weightOfBin_0 : decode cX2_weightOfBin 0 = .ok (.iconst 0, 1) := by decide +kernel
theorem dX2_weightOfBin_1 : decode cX2_weightOfBin 1 = .ok (.istore_n 3, 1) := by decide +kernel
theorem dX2_weightOfBin_2 : decode cX2_weightOfBin 2 = .ok (.iconst 0, 1) := by decide +kernel
theorem dX2_weightOfBin_3 : decode cX2_weightOfBin 3 = .ok (.istore 4, 2) := by decide +kernel
theorem dX2_weightOfBin_5 : decode cX2_weightOfBin 5 = .ok (.iload 4, 2) := by decide +kernel
theorem dX2_weightOfBin_7 : decode cX2_weightOfBin 7 = .ok (.aload_n 0, 1) := by decide +kernel
theorem dX2_weightOfBin_8 : decode cX2_weightOfBin 8 = .ok (.getfield 15, 3) := by decide +kernel
theorem dX2_weightOfBin_11 : decode cX2_weightOfBin 11 = .ok (.if_icmp .ge 26, 3) := by decide +kernel
theorem dX2_weightOfBin_14 : decode cX2_weightOfBin 14 = .ok (.iload_n 3, 1) := by decide +kernel
theorem dX2_weightOfBin_15 : decode cX2_weightOfBin 15 = .ok (.aload_n 0, 1) := by decide +kernel
theorem dX2_weightOfBin_16 : decode cX2_weightOfBin 16 = .ok (.getfield 18, 3) := by decide +kernel
theorem dX2_weightOfBin_19 : decode cX2_weightOfBin 19 = .ok (.iload 4, 2) := by decide +kernel
theorem dX2_weightOfBin_21 : decode cX2_weightOfBin 21 = .ok (.iaload, 1) := by decide +kernel
theorem dX2_weightOfBin_22 : decode cX2_weightOfBin 22 = .ok (.lload_n 1, 1) := by decide +kernel
theorem dX2_weightOfBin_23 : decode cX2_weightOfBin 23 = .ok (.iload 4, 2) := by decide +kernel
theorem dX2_weightOfBin_25 : decode cX2_weightOfBin 25 = .ok (.invokestatic 40, 3) := by decide +kernel
theorem dX2_weightOfBin_28 : decode cX2_weightOfBin 28 = .ok (.imul, 1) := by decide +kernel
theorem dX2_weightOfBin_29 : decode cX2_weightOfBin 29 = .ok (.iadd, 1) := by decide +kernel
theorem dX2_weightOfBin_30 : decode cX2_weightOfBin 30 = .ok (.istore_n 3, 1) := by decide +kernel
theorem dX2_weightOfBin_31 : decode cX2_weightOfBin 31 = .ok (.iinc 4 1, 3) := by decide +kernel
theorem dX2_weightOfBin_34 : decode cX2_weightOfBin 34 = .ok (.goto (-29), 3) := by decide +kernel
theorem dX2_weightOfBin_37 : decode cX2_weightOfBin 37 = .ok (.iload_n 3, 1) := by decide +kernel
theorem dX2_weightOfBin_38 : decode cX2_weightOfBin 38 = .ok (.ireturn, 1) := by decide +kernel
theorem dX3_init_0 : decode cX3_init 0 = .ok (.aload_n 0, 1) := by decide +kernel
theorem dX3_init_1 : decode cX3_init 1 = .ok (.invokespecial 3, 3) := by decide +kernel
theorem dX3_init_4 : decode cX3_init 4 = .ok (.aload_n 0, 1) := by decide +kernel
theorem dX3_init_5 : decode cX3_init 5 = .ok (.bipush 7, 2) := by decide +kernel
theorem dX3_init_7 : decode cX3_init 7 = .ok (.bipush 100, 2) := by decide +kernel
theorem dX3_init_9 : decode cX3_init 9 = .ok (.multianewarray 9 2, 4) := by decide +kernel
theorem dX3_init_13 : decode cX3_init 13 = .ok (.putfield 11, 3) := by decide +kernel
theorem dX3_init_16 : decode cX3_init 16 = .ok (.aload_n 0, 1) := by decide +kernel
theorem dX3_init_17 : decode cX3_init 17 = .ok (.bipush 7, 2) := by decide +kernel
theorem dX3_init_19 : decode cX3_init 19 = .ok (.bipush 100, 2) := by decide +kernel
theorem dX3_init_21 : decode cX3_init 21 = .ok (.multianewarray 9 2, 4) := by decide +kernel
theorem dX3_init_25 : decode cX3_init 25 = .ok (.putfield 16, 3) := by decide +kernel
theorem dX3_init_28 : decode cX3_init 28 = .ok (.aload_n 0, 1) := by decide +kernel
theorem dX3_init_29 : decode cX3_init 29 = .ok (.bipush 6, 2) := by decide +kernel
theorem dX3_init_31 : decode cX3_init 31 = .ok (.newarray .int, 2) := by decide +kernel
theorem dX3_init_33 : decode cX3_init 33 = .ok (.putfield 19, 3) := by decide +kernel
theorem dX3_init_36 : decode cX3_init 36 = .ok (.aload_n 0, 1) := by decide +kernel
theorem dX3_init_37 : decode cX3_init 37 = .ok (.iconst 0, 1) := by decide +kernel
theorem dX3_init_38 : decode cX3_init 38 = .ok (.putfield 23, 3) := by decide +kernel
theorem dX3_init_41 : decode cX3_init 41 = .ok (.return_, 1) := by decide +kernel
theorem dX3_waysThrough_0 : decode cX3_waysThrough 0 = .ok (.aload_n 0, 1) := by decide +kernel
theorem dX3_waysThrough_1 : decode cX3_waysThrough 1 = .ok (.aload_n 1, 1) := by decide +kernel
theorem dX3_waysThrough_2 : decode cX3_waysThrough 2 = .ok (.invokevirtual 27, 3) := by decide +kernel
theorem dX3_waysThrough_5 : decode cX3_waysThrough 5 = .ok (.iconst 0, 1) := by decide +kernel
theorem dX3_waysThrough_6 : decode cX3_waysThrough 6 = .ok (.istore_n 2, 1) := by decide +kernel
theorem dX3_waysThrough_7 : decode cX3_waysThrough 7 = .ok (.iload_n 2, 1) := by decide +kernel
theorem dX3_waysThrough_8 : decode cX3_waysThrough 8 = .ok (.aload_n 0, 1) := by decide +kernel
theorem dX3_waysThrough_9 : decode cX3_waysThrough 9 = .ok (.getfield 23, 3) := by decide +kernel
theorem dX3_waysThrough_12 : decode cX3_waysThrough 12 = .ok (.if_icmp .gt 32, 3) := by decide +kernel
theorem dX3_waysThrough_15 : decode cX3_waysThrough 15 = .ok (.iconst 0, 1) := by decide +kernel
theorem dX3_waysThrough_16 : decode cX3_waysThrough 16 = .ok (.istore_n 3, 1) := by decide +kernel
theorem dX3_waysThrough_17 : decode cX3_waysThrough 17 = .ok (.iload_n 3, 1) := by decide +kernel
theorem dX3_waysThrough_18 : decode cX3_waysThrough 18 = .ok (.bipush 99, 2) := by decide +kernel
theorem dX3_waysThrough_20 : decode cX3_waysThrough 20 = .ok (.if_icmp .gt 18, 3) := by decide +kernel
theorem dX3_waysThrough_23 : decode cX3_waysThrough 23 = .ok (.aload_n 0, 1) := by decide +kernel
theorem dX3_waysThrough_24 : decode cX3_waysThrough 24 = .ok (.getfield 11, 3) := by decide +kernel
theorem dX3_waysThrough_27 : decode cX3_waysThrough 27 = .ok (.iload_n 2, 1) := by decide +kernel
theorem dX3_waysThrough_28 : decode cX3_waysThrough 28 = .ok (.aaload, 1) := by decide +kernel
theorem dX3_waysThrough_29 : decode cX3_waysThrough 29 = .ok (.iload_n 3, 1) := by decide +kernel
theorem dX3_waysThrough_30 : decode cX3_waysThrough 30 = .ok (.iconst 0, 1) := by decide +kernel
theorem dX3_waysThrough_31 : decode cX3_waysThrough 31 = .ok (.iastore, 1) := by decide +kernel
theorem dX3_waysThrough_32 : decode cX3_waysThrough 32 = .ok (.iinc 3 1, 3) := by decide +kernel
theorem dX3_waysThrough_35 : decode cX3_waysThrough 35 = .ok (.goto (-18), 3) := by decide +kernel
theorem dX3_waysThrough_38 : decode cX3_waysThrough 38 = .ok (.iinc 2 1, 3) := by decide +kernel
theorem dX3_waysThrough_41 : decode cX3_waysThrough 41 = .ok (.goto (-34), 3) := by decide +kernel
theorem dX3_waysThrough_44 : decode cX3_waysThrough 44 = .ok (.aload_n 0, 1) := by decide +kernel
theorem dX3_waysThrough_45 : decode cX3_waysThrough 45 = .ok (.getfield 11, 3) := by decide +kernel
theorem dX3_waysThrough_48 : decode cX3_waysThrough 48 = .ok (.iconst 0, 1) := by decide +kernel
theorem dX3_waysThrough_49 : decode cX3_waysThrough 49 = .ok (.aaload, 1) := by decide +kernel
theorem dX3_waysThrough_50 : decode cX3_waysThrough 50 = .ok (.iconst 0, 1) := by decide +kernel
theorem dX3_waysThrough_51 : decode cX3_waysThrough 51 = .ok (.iconst 1, 1) := by decide +kernel
theorem dX3_waysThrough_52 : decode cX3_waysThrough 52 = .ok (.iastore, 1) := by decide +kernel
theorem dX3_waysThrough_53 : decode cX3_waysThrough 53 = .ok (.iconst 0, 1) := by decide +kernel
theorem dX3_waysThrough_54 : decode cX3_waysThrough 54 = .ok (.istore_n 2, 1) := by decide +kernel
theorem dX3_waysThrough_55 : decode cX3_waysThrough 55 = .ok (.iload_n 2, 1) := by decide +kernel
theorem dX3_waysThrough_56 : decode cX3_waysThrough 56 = .ok (.aload_n 0, 1) := by decide +kernel
theorem dX3_waysThrough_57 : decode cX3_waysThrough 57 = .ok (.getfield 23, 3) := by decide +kernel
theorem dX3_waysThrough_60 : decode cX3_waysThrough 60 = .ok (.if_icmp .ge 15, 3) := by decide +kernel
theorem dX3_waysThrough_63 : decode cX3_waysThrough 63 = .ok (.aload_n 0, 1) := by decide +kernel
theorem dX3_waysThrough_64 : decode cX3_waysThrough 64 = .ok (.aload_n 1, 1) := by decide +kernel
theorem dX3_waysThrough_65 : decode cX3_waysThrough 65 = .ok (.iload_n 2, 1) := by decide +kernel
theorem dX3_waysThrough_66 : decode cX3_waysThrough 66 = .ok (.invokevirtual 31, 3) := by decide +kernel
theorem dX3_waysThrough_69 : decode cX3_waysThrough 69 = .ok (.iinc 2 1, 3) := by decide +kernel
theorem dX3_waysThrough_72 : decode cX3_waysThrough 72 = .ok (.goto (-17), 3) := by decide +kernel
theorem dX3_waysThrough_75 : decode cX3_waysThrough 75 = .ok (.iconst 0, 1) := by decide +kernel
theorem dX3_waysThrough_76 : decode cX3_waysThrough 76 = .ok (.istore_n 2, 1) := by decide +kernel
theorem dX3_waysThrough_77 : decode cX3_waysThrough 77 = .ok (.iconst 0, 1) := by decide +kernel
theorem dX3_waysThrough_78 : decode cX3_waysThrough 78 = .ok (.istore_n 3, 1) := by decide +kernel
theorem dX3_waysThrough_79 : decode cX3_waysThrough 79 = .ok (.iload_n 3, 1) := by decide +kernel
theorem dX3_waysThrough_80 : decode cX3_waysThrough 80 = .ok (.bipush 99, 2) := by decide +kernel
theorem dX3_waysThrough_82 : decode cX3_waysThrough 82 = .ok (.if_icmp .gt 23, 3) := by decide +kernel
theorem dX3_waysThrough_85 : decode cX3_waysThrough 85 = .ok (.iload_n 2, 1) := by decide +kernel
theorem dX3_waysThrough_86 : decode cX3_waysThrough 86 = .ok (.aload_n 0, 1) := by decide +kernel
theorem dX3_waysThrough_87 : decode cX3_waysThrough 87 = .ok (.getfield 11, 3) := by decide +kernel
theorem dX3_waysThrough_90 : decode cX3_waysThrough 90 = .ok (.aload_n 0, 1) := by decide +kernel
theorem dX3_waysThrough_91 : decode cX3_waysThrough 91 = .ok (.getfield 23, 3) := by decide +kernel
theorem dX3_waysThrough_94 : decode cX3_waysThrough 94 = .ok (.aaload, 1) := by decide +kernel
theorem dX3_waysThrough_95 : decode cX3_waysThrough 95 = .ok (.iload_n 3, 1) := by decide +kernel
theorem dX3_waysThrough_96 : decode cX3_waysThrough 96 = .ok (.iaload, 1) := by decide +kernel
theorem dX3_waysThrough_97 : decode cX3_waysThrough 97 = .ok (.iadd, 1) := by decide +kernel
theorem dX3_waysThrough_98 : decode cX3_waysThrough 98 = .ok (.istore_n 2, 1) := by decide +kernel
theorem dX3_waysThrough_99 : decode cX3_waysThrough 99 = .ok (.iinc 3 1, 3) := by decide +kernel
theorem dX3_waysThrough_102 : decode cX3_waysThrough 102 = .ok (.goto (-23), 3) := by decide +kernel
theorem dX3_waysThrough_105 : decode cX3_waysThrough 105 = .ok (.iload_n 2, 1) := by decide +kernel
theorem dX3_waysThrough_106 : decode cX3_waysThrough 106 = .ok (.ireturn, 1) := by decide +kernel
theorem dX3_lay_0 : decode cX3_lay 0 = .ok (.aload_n 0, 1) := by decide +kernel
theorem dX3_lay_1 : decode cX3_lay 1 = .ok (.iconst 0, 1) := by decide +kernel
theorem dX3_lay_2 : decode cX3_lay 2 = .ok (.putfield 23, 3) := by decide +kernel
theorem dX3_lay_5 : decode cX3_lay 5 = .ok (.iconst 0, 1) := by decide +kernel
theorem dX3_lay_6 : decode cX3_lay 6 = .ok (.istore_n 2, 1) := by decide +kernel
theorem dX3_lay_7 : decode cX3_lay 7 = .ok (.iload_n 2, 1) := by decide +kernel
theorem dX3_lay_8 : decode cX3_lay 8 = .ok (.aload_n 1, 1) := by decide +kernel
theorem dX3_lay_9 : decode cX3_lay 9 = .ok (.getfield 35, 3) := by decide +kernel
theorem dX3_lay_12 : decode cX3_lay 12 = .ok (.if_icmp .ge 57, 3) := by decide +kernel
theorem dX3_lay_15 : decode cX3_lay 15 = .ok (.aload_n 0, 1) := by decide +kernel
theorem dX3_lay_16 : decode cX3_lay 16 = .ok (.getfield 23, 3) := by decide +kernel
theorem dX3_lay_19 : decode cX3_lay 19 = .ok (.bipush 6, 2) := by decide +kernel
theorem dX3_lay_21 : decode cX3_lay 21 = .ok (.if_icmp .ge 48, 3) := by decide +kernel
theorem dX3_lay_24 : decode cX3_lay 24 = .ok (.aload_n 1, 1) := by decide +kernel
theorem dX3_lay_25 : decode cX3_lay 25 = .ok (.getfield 40, 3) := by decide +kernel
theorem dX3_lay_28 : decode cX3_lay 28 = .ok (.aload_n 1, 1) := by decide +kernel
theorem dX3_lay_29 : decode cX3_lay 29 = .ok (.getfield 43, 3) := by decide +kernel
theorem dX3_lay_32 : decode cX3_lay 32 = .ok (.iload_n 2, 1) := by decide +kernel
theorem dX3_lay_33 : decode cX3_lay 33 = .ok (.iaload, 1) := by decide +kernel
theorem dX3_lay_34 : decode cX3_lay 34 = .ok (.iaload, 1) := by decide +kernel
theorem dX3_lay_35 : decode cX3_lay 35 = .ok (.ifCond .le 28, 3) := by decide +kernel
theorem dX3_lay_38 : decode cX3_lay 38 = .ok (.aload_n 0, 1) := by decide +kernel
theorem dX3_lay_39 : decode cX3_lay 39 = .ok (.getfield 19, 3) := by decide +kernel
theorem dX3_lay_42 : decode cX3_lay 42 = .ok (.aload_n 0, 1) := by decide +kernel
theorem dX3_lay_43 : decode cX3_lay 43 = .ok (.getfield 23, 3) := by decide +kernel
theorem dX3_lay_46 : decode cX3_lay 46 = .ok (.aload_n 1, 1) := by decide +kernel
theorem dX3_lay_47 : decode cX3_lay 47 = .ok (.getfield 43, 3) := by decide +kernel
theorem dX3_lay_50 : decode cX3_lay 50 = .ok (.iload_n 2, 1) := by decide +kernel
theorem dX3_lay_51 : decode cX3_lay 51 = .ok (.iaload, 1) := by decide +kernel
theorem dX3_lay_52 : decode cX3_lay 52 = .ok (.iastore, 1) := by decide +kernel
theorem dX3_lay_53 : decode cX3_lay 53 = .ok (.aload_n 0, 1) := by decide +kernel
theorem dX3_lay_54 : decode cX3_lay 54 = .ok (.dup, 1) := by decide +kernel
theorem dX3_lay_55 : decode cX3_lay 55 = .ok (.getfield 23, 3) := by decide +kernel
theorem dX3_lay_58 : decode cX3_lay 58 = .ok (.iconst 1, 1) := by decide +kernel
theorem dX3_lay_59 : decode cX3_lay 59 = .ok (.iadd, 1) := by decide +kernel
theorem dX3_lay_60 : decode cX3_lay 60 = .ok (.putfield 23, 3) := by decide +kernel
theorem dX3_lay_63 : decode cX3_lay 63 = .ok (.iinc 2 1, 3) := by decide +kernel
theorem dX3_lay_66 : decode cX3_lay 66 = .ok (.goto (-59), 3) := by decide +kernel
theorem dX3_lay_69 : decode cX3_lay 69 = .ok (.iconst 0, 1) := by decide +kernel
theorem dX3_lay_70 : decode cX3_lay 70 = .ok (.istore_n 2, 1) := by decide +kernel
theorem dX3_lay_71 : decode cX3_lay 71 = .ok (.iload_n 2, 1) := by decide +kernel
theorem dX3_lay_72 : decode cX3_lay 72 = .ok (.bipush 99, 2) := by decide +kernel
theorem dX3_lay_74 : decode cX3_lay 74 = .ok (.if_icmp .gt 21, 3) := by decide +kernel
theorem dX3_lay_77 : decode cX3_lay 77 = .ok (.aload_n 0, 1) := by decide +kernel
theorem dX3_lay_78 : decode cX3_lay 78 = .ok (.getfield 16, 3) := by decide +kernel
theorem dX3_lay_81 : decode cX3_lay 81 = .ok (.aload_n 0, 1) := by decide +kernel
theorem dX3_lay_82 : decode cX3_lay 82 = .ok (.getfield 23, 3) := by decide +kernel
theorem dX3_lay_85 : decode cX3_lay 85 = .ok (.aaload, 1) := by decide +kernel
theorem dX3_lay_86 : decode cX3_lay 86 = .ok (.iload_n 2, 1) := by decide +kernel
theorem dX3_lay_87 : decode cX3_lay 87 = .ok (.iconst 0, 1) := by decide +kernel
theorem dX3_lay_88 : decode cX3_lay 88 = .ok (.iastore, 1) := by decide +kernel
theorem dX3_lay_89 : decode cX3_lay 89 = .ok (.iinc 2 1, 3) := by decide +kernel
theorem dX3_lay_92 : decode cX3_lay 92 = .ok (.goto (-21), 3) := by decide +kernel
theorem dX3_lay_95 : decode cX3_lay 95 = .ok (.aload_n 0, 1) := by decide +kernel
theorem dX3_lay_96 : decode cX3_lay 96 = .ok (.getfield 23, 3) := by decide +kernel
theorem dX3_lay_99 : decode cX3_lay 99 = .ok (.iconst 1, 1) := by decide +kernel
theorem dX3_lay_100 : decode cX3_lay 100 = .ok (.isub, 1) := by decide +kernel
theorem dX3_lay_101 : decode cX3_lay 101 = .ok (.istore_n 2, 1) := by decide +kernel
theorem dX3_lay_102 : decode cX3_lay 102 = .ok (.iload_n 2, 1) := by decide +kernel
theorem dX3_lay_103 : decode cX3_lay 103 = .ok (.ifCond .lt 38, 3) := by decide +kernel
theorem dX3_lay_106 : decode cX3_lay 106 = .ok (.iconst 0, 1) := by decide +kernel
theorem dX3_lay_107 : decode cX3_lay 107 = .ok (.istore_n 3, 1) := by decide +kernel
theorem dX3_lay_108 : decode cX3_lay 108 = .ok (.iload_n 3, 1) := by decide +kernel
theorem dX3_lay_109 : decode cX3_lay 109 = .ok (.bipush 99, 2) := by decide +kernel
theorem dX3_lay_111 : decode cX3_lay 111 = .ok (.if_icmp .gt 24, 3) := by decide +kernel
theorem dX3_lay_114 : decode cX3_lay 114 = .ok (.aload_n 0, 1) := by decide +kernel
theorem dX3_lay_115 : decode cX3_lay 115 = .ok (.getfield 16, 3) := by decide +kernel
theorem dX3_lay_118 : decode cX3_lay 118 = .ok (.iload_n 2, 1) := by decide +kernel
theorem dX3_lay_119 : decode cX3_lay 119 = .ok (.aaload, 1) := by decide +kernel
theorem dX3_lay_120 : decode cX3_lay 120 = .ok (.iload_n 3, 1) := by decide +kernel
theorem dX3_lay_121 : decode cX3_lay 121 = .ok (.aload_n 0, 1) := by decide +kernel
theorem dX3_lay_122 : decode cX3_lay 122 = .ok (.aload_n 1, 1) := by decide +kernel
theorem dX3_lay_123 : decode cX3_lay 123 = .ok (.iload_n 2, 1) := by decide +kernel
theorem dX3_lay_124 : decode cX3_lay 124 = .ok (.iload_n 3, 1) := by decide +kernel
theorem dX3_lay_125 : decode cX3_lay 125 = .ok (.invokevirtual 46, 3) := by decide +kernel
theorem dX3_lay_128 : decode cX3_lay 128 = .ok (.iastore, 1) := by decide +kernel
theorem dX3_lay_129 : decode cX3_lay 129 = .ok (.iinc 3 1, 3) := by decide +kernel
theorem dX3_lay_132 : decode cX3_lay 132 = .ok (.goto (-24), 3) := by decide +kernel
theorem dX3_lay_135 : decode cX3_lay 135 = .ok (.iinc 2 (-1), 3) := by decide +kernel
theorem dX3_lay_138 : decode cX3_lay 138 = .ok (.goto (-36), 3) := by decide +kernel
theorem dX3_lay_141 : decode cX3_lay 141 = .ok (.return_, 1) := by decide +kernel
theorem dX3_reachOf_0 : decode cX3_reachOf 0 = .ok (.aload_n 0, 1) := by decide +kernel
theorem dX3_reachOf_1 : decode cX3_reachOf 1 = .ok (.getfield 19, 3) := by decide +kernel
theorem dX3_reachOf_4 : decode cX3_reachOf 4 = .ok (.iload_n 2, 1) := by decide +kernel
theorem dX3_reachOf_5 : decode cX3_reachOf 5 = .ok (.iaload, 1) := by decide +kernel
theorem dX3_reachOf_6 : decode cX3_reachOf 6 = .ok (.istore 4, 2) := by decide +kernel
theorem dX3_reachOf_8 : decode cX3_reachOf 8 = .ok (.iconst 0, 1) := by decide +kernel
theorem dX3_reachOf_9 : decode cX3_reachOf 9 = .ok (.istore 5, 2) := by decide +kernel
theorem dX3_reachOf_11 : decode cX3_reachOf 11 = .ok (.iconst 0, 1) := by decide +kernel
theorem dX3_reachOf_12 : decode cX3_reachOf 12 = .ok (.istore 6, 2) := by decide +kernel
theorem dX3_reachOf_14 : decode cX3_reachOf 14 = .ok (.iload 6, 2) := by decide +kernel
theorem dX3_reachOf_16 : decode cX3_reachOf 16 = .ok (.aload_n 1, 1) := by decide +kernel
theorem dX3_reachOf_17 : decode cX3_reachOf 17 = .ok (.getfield 40, 3) := by decide +kernel
theorem dX3_reachOf_20 : decode cX3_reachOf 20 = .ok (.iload 4, 2) := by decide +kernel
theorem dX3_reachOf_22 : decode cX3_reachOf 22 = .ok (.iaload, 1) := by decide +kernel
theorem dX3_reachOf_23 : decode cX3_reachOf 23 = .ok (.if_icmp .gt 58, 3) := by decide +kernel
theorem dX3_reachOf_26 : decode cX3_reachOf 26 = .ok (.iload 6, 2) := by decide +kernel
theorem dX3_reachOf_28 : decode cX3_reachOf 28 = .ok (.aload_n 1, 1) := by decide +kernel
theorem dX3_reachOf_29 : decode cX3_reachOf 29 = .ok (.getfield 50, 3) := by decide +kernel
theorem dX3_reachOf_32 : decode cX3_reachOf 32 = .ok (.iload 4, 2) := by decide +kernel
theorem dX3_reachOf_34 : decode cX3_reachOf 34 = .ok (.iaload, 1) := by decide +kernel
theorem dX3_reachOf_35 : decode cX3_reachOf 35 = .ok (.imul, 1) := by decide +kernel
theorem dX3_reachOf_36 : decode cX3_reachOf 36 = .ok (.iload_n 3, 1) := by decide +kernel
theorem dX3_reachOf_37 : decode cX3_reachOf 37 = .ok (.if_icmp .gt 44, 3) := by decide +kernel
theorem dX3_reachOf_40 : decode cX3_reachOf 40 = .ok (.iload 6, 2) := by decide +kernel
theorem dX3_reachOf_42 : decode cX3_reachOf 42 = .ok (.aload_n 1, 1) := by decide +kernel
theorem dX3_reachOf_43 : decode cX3_reachOf 43 = .ok (.getfield 50, 3) := by decide +kernel
theorem dX3_reachOf_46 : decode cX3_reachOf 46 = .ok (.iload 4, 2) := by decide +kernel
theorem dX3_reachOf_48 : decode cX3_reachOf 48 = .ok (.iaload, 1) := by decide +kernel
theorem dX3_reachOf_49 : decode cX3_reachOf 49 = .ok (.imul, 1) := by decide +kernel
theorem dX3_reachOf_50 : decode cX3_reachOf 50 = .ok (.istore 7, 2) := by decide +kernel
theorem dX3_reachOf_52 : decode cX3_reachOf 52 = .ok (.iload 5, 2) := by decide +kernel
theorem dX3_reachOf_54 : decode cX3_reachOf 54 = .ok (.iload 7, 2) := by decide +kernel
theorem dX3_reachOf_56 : decode cX3_reachOf 56 = .ok (.aload_n 0, 1) := by decide +kernel
theorem dX3_reachOf_57 : decode cX3_reachOf 57 = .ok (.getfield 16, 3) := by decide +kernel
theorem dX3_reachOf_60 : decode cX3_reachOf 60 = .ok (.iload_n 2, 1) := by decide +kernel
theorem dX3_reachOf_61 : decode cX3_reachOf 61 = .ok (.iconst 1, 1) := by decide +kernel
theorem dX3_reachOf_62 : decode cX3_reachOf 62 = .ok (.iadd, 1) := by decide +kernel
theorem dX3_reachOf_63 : decode cX3_reachOf 63 = .ok (.aaload, 1) := by decide +kernel
theorem dX3_reachOf_64 : decode cX3_reachOf 64 = .ok (.iload_n 3, 1) := by decide +kernel
theorem dX3_reachOf_65 : decode cX3_reachOf 65 = .ok (.iload 7, 2) := by decide +kernel
theorem dX3_reachOf_67 : decode cX3_reachOf 67 = .ok (.isub, 1) := by decide +kernel
theorem dX3_reachOf_68 : decode cX3_reachOf 68 = .ok (.iaload, 1) := by decide +kernel
theorem dX3_reachOf_69 : decode cX3_reachOf 69 = .ok (.iadd, 1) := by decide +kernel
theorem dX3_reachOf_70 : decode cX3_reachOf 70 = .ok (.invokestatic 53, 3) := by decide +kernel
theorem dX3_reachOf_73 : decode cX3_reachOf 73 = .ok (.istore 5, 2) := by decide +kernel
theorem dX3_reachOf_75 : decode cX3_reachOf 75 = .ok (.iinc 6 1, 3) := by decide +kernel
theorem dX3_reachOf_78 : decode cX3_reachOf 78 = .ok (.goto (-64), 3) := by decide +kernel
theorem dX3_reachOf_81 : decode cX3_reachOf 81 = .ok (.iload 5, 2) := by decide +kernel
theorem dX3_reachOf_83 : decode cX3_reachOf 83 = .ok (.ireturn, 1) := by decide +kernel
theorem dX3_goFrom_0 : decode cX3_goFrom 0 = .ok (.aload_n 0, 1) := by decide +kernel
theorem dX3_goFrom_1 : decode cX3_goFrom 1 = .ok (.getfield 19, 3) := by decide +kernel
theorem dX3_goFrom_4 : decode cX3_goFrom 4 = .ok (.iload_n 2, 1) := by decide +kernel
theorem dX3_goFrom_5 : decode cX3_goFrom 5 = .ok (.iaload, 1) := by decide +kernel
theorem dX3_goFrom_6 : decode cX3_goFrom 6 = .ok (.istore_n 3, 1) := by decide +kernel
theorem dX3_goFrom_7 : decode cX3_goFrom 7 = .ok (.iconst 0, 1) := by decide +kernel
theorem dX3_goFrom_8 : decode cX3_goFrom 8 = .ok (.istore 4, 2) := by decide +kernel
theorem dX3_goFrom_10 : decode cX3_goFrom 10 = .ok (.iload 4, 2) := by decide +kernel
theorem dX3_goFrom_12 : decode cX3_goFrom 12 = .ok (.aload_n 1, 1) := by decide +kernel
theorem dX3_goFrom_13 : decode cX3_goFrom 13 = .ok (.getfield 59, 3) := by decide +kernel
theorem dX3_goFrom_16 : decode cX3_goFrom 16 = .ok (.if_icmp .gt 102, 3) := by decide +kernel
theorem dX3_goFrom_19 : decode cX3_goFrom 19 = .ok (.iload 4, 2) := by decide +kernel
theorem dX3_goFrom_21 : decode cX3_goFrom 21 = .ok (.bipush 99, 2) := by decide +kernel
theorem dX3_goFrom_23 : decode cX3_goFrom 23 = .ok (.if_icmp .gt 95, 3) := by decide +kernel
theorem dX3_goFrom_26 : decode cX3_goFrom 26 = .ok (.aload_n 0, 1) := by decide +kernel
theorem dX3_goFrom_27 : decode cX3_goFrom 27 = .ok (.getfield 11, 3) := by decide +kernel
theorem dX3_goFrom_30 : decode cX3_goFrom 30 = .ok (.iload_n 2, 1) := by decide +kernel
theorem dX3_goFrom_31 : decode cX3_goFrom 31 = .ok (.aaload, 1) := by decide +kernel
theorem dX3_goFrom_32 : decode cX3_goFrom 32 = .ok (.iload 4, 2) := by decide +kernel
theorem dX3_goFrom_34 : decode cX3_goFrom 34 = .ok (.iaload, 1) := by decide +kernel
theorem dX3_goFrom_35 : decode cX3_goFrom 35 = .ok (.ifCond .le 14, 3) := by decide +kernel
theorem dX3_goFrom_38 : decode cX3_goFrom 38 = .ok (.aload_n 0, 1) := by decide +kernel
theorem dX3_goFrom_39 : decode cX3_goFrom 39 = .ok (.aload_n 1, 1) := by decide +kernel
theorem dX3_goFrom_40 : decode cX3_goFrom 40 = .ok (.iload_n 2, 1) := by decide +kernel
theorem dX3_goFrom_41 : decode cX3_goFrom 41 = .ok (.iload 4, 2) := by decide +kernel
theorem dX3_goFrom_43 : decode cX3_goFrom 43 = .ok (.invokevirtual 62, 3) := by decide +kernel
theorem dX3_goFrom_46 : decode cX3_goFrom 46 = .ok (.goto 4, 3) := by decide +kernel
theorem dX3_goFrom_49 : decode cX3_goFrom 49 = .ok (.iconst 0, 1) := by decide +kernel
theorem dX3_goFrom_50 : decode cX3_goFrom 50 = .ok (.istore 5, 2) := by decide +kernel
theorem dX3_goFrom_52 : decode cX3_goFrom 52 = .ok (.iconst 0, 1) := by decide +kernel
theorem dX3_goFrom_53 : decode cX3_goFrom 53 = .ok (.istore 6, 2) := by decide +kernel
theorem dX3_goFrom_55 : decode cX3_goFrom 55 = .ok (.iload 6, 2) := by decide +kernel
theorem dX3_goFrom_57 : decode cX3_goFrom 57 = .ok (.iload 5, 2) := by decide +kernel
theorem dX3_goFrom_59 : decode cX3_goFrom 59 = .ok (.if_icmp .ge 53, 3) := by decide +kernel
theorem dX3_goFrom_62 : decode cX3_goFrom 62 = .ok (.iload 4, 2) := by decide +kernel
theorem dX3_goFrom_64 : decode cX3_goFrom 64 = .ok (.iload 6, 2) := by decide +kernel
theorem dX3_goFrom_66 : decode cX3_goFrom 66 = .ok (.aload_n 1, 1) := by decide +kernel
theorem dX3_goFrom_67 : decode cX3_goFrom 67 = .ok (.getfield 50, 3) := by decide +kernel
theorem dX3_goFrom_70 : decode cX3_goFrom 70 = .ok (.iload_n 3, 1) := by decide +kernel
theorem dX3_goFrom_71 : decode cX3_goFrom 71 = .ok (.iaload, 1) := by decide +kernel
theorem dX3_goFrom_72 : decode cX3_goFrom 72 = .ok (.imul, 1) := by decide +kernel
theorem dX3_goFrom_73 : decode cX3_goFrom 73 = .ok (.iadd, 1) := by decide +kernel
theorem dX3_goFrom_74 : decode cX3_goFrom 74 = .ok (.istore 7, 2) := by decide +kernel
theorem dX3_goFrom_76 : decode cX3_goFrom 76 = .ok (.iload 7, 2) := by decide +kernel
theorem dX3_goFrom_78 : decode cX3_goFrom 78 = .ok (.bipush 99, 2) := by decide +kernel
theorem dX3_goFrom_80 : decode cX3_goFrom 80 = .ok (.if_icmp .gt 26, 3) := by decide +kernel
theorem dX3_goFrom_83 : decode cX3_goFrom 83 = .ok (.aload_n 0, 1) := by decide +kernel
theorem dX3_goFrom_84 : decode cX3_goFrom 84 = .ok (.getfield 11, 3) := by decide +kernel
theorem dX3_goFrom_87 : decode cX3_goFrom 87 = .ok (.iload_n 2, 1) := by decide +kernel
theorem dX3_goFrom_88 : decode cX3_goFrom 88 = .ok (.iconst 1, 1) := by decide +kernel
theorem dX3_goFrom_89 : decode cX3_goFrom 89 = .ok (.iadd, 1) := by decide +kernel
theorem dX3_goFrom_90 : decode cX3_goFrom 90 = .ok (.aaload, 1) := by decide +kernel
theorem dX3_goFrom_91 : decode cX3_goFrom 91 = .ok (.iload 7, 2) := by decide +kernel
theorem dX3_goFrom_93 : decode cX3_goFrom 93 = .ok (.dup2, 1) := by decide +kernel
theorem dX3_goFrom_94 : decode cX3_goFrom 94 = .ok (.iaload, 1) := by decide +kernel
theorem dX3_goFrom_95 : decode cX3_goFrom 95 = .ok (.aload_n 0, 1) := by decide +kernel
theorem dX3_goFrom_96 : decode cX3_goFrom 96 = .ok (.getfield 11, 3) := by decide +kernel
theorem dX3_goFrom_99 : decode cX3_goFrom 99 = .ok (.iload_n 2, 1) := by decide +kernel
theorem dX3_goFrom_100 : decode cX3_goFrom 100 = .ok (.aaload, 1) := by decide +kernel
theorem dX3_goFrom_101 : decode cX3_goFrom 101 = .ok (.iload 4, 2) := by decide +kernel
theorem dX3_goFrom_103 : decode cX3_goFrom 103 = .ok (.iaload, 1) := by decide +kernel
theorem dX3_goFrom_104 : decode cX3_goFrom 104 = .ok (.iadd, 1) := by decide +kernel
theorem dX3_goFrom_105 : decode cX3_goFrom 105 = .ok (.iastore, 1) := by decide +kernel
theorem dX3_goFrom_106 : decode cX3_goFrom 106 = .ok (.iinc 6 1, 3) := by decide +kernel
theorem dX3_goFrom_109 : decode cX3_goFrom 109 = .ok (.goto (-54), 3) := by decide +kernel
theorem dX3_goFrom_112 : decode cX3_goFrom 112 = .ok (.iinc 4 1, 3) := by decide +kernel
theorem dX3_goFrom_115 : decode cX3_goFrom 115 = .ok (.goto (-105), 3) := by decide +kernel
theorem dX3_goFrom_118 : decode cX3_goFrom 118 = .ok (.return_, 1) := by decide +kernel
theorem dX3_arcsFrom_0 : decode cX3_arcsFrom 0 = .ok (.aload_n 0, 1) := by decide +kernel
theorem dX3_arcsFrom_1 : decode cX3_arcsFrom 1 = .ok (.getfield 19, 3) := by decide +kernel
theorem dX3_arcsFrom_4 : decode cX3_arcsFrom 4 = .ok (.iload_n 2, 1) := by decide +kernel
theorem dX3_arcsFrom_5 : decode cX3_arcsFrom 5 = .ok (.iaload, 1) := by decide +kernel
theorem dX3_arcsFrom_6 : decode cX3_arcsFrom 6 = .ok (.istore 4, 2) := by decide +kernel
theorem dX3_arcsFrom_8 : decode cX3_arcsFrom 8 = .ok (.aload_n 1, 1) := by decide +kernel
theorem dX3_arcsFrom_9 : decode cX3_arcsFrom 9 = .ok (.getfield 40, 3) := by decide +kernel
theorem dX3_arcsFrom_12 : decode cX3_arcsFrom 12 = .ok (.iload 4, 2) := by decide +kernel
theorem dX3_arcsFrom_14 : decode cX3_arcsFrom 14 = .ok (.iaload, 1) := by decide +kernel
theorem dX3_arcsFrom_15 : decode cX3_arcsFrom 15 = .ok (.aload_n 1, 1) := by decide +kernel
theorem dX3_arcsFrom_16 : decode cX3_arcsFrom 16 = .ok (.getfield 59, 3) := by decide +kernel
theorem dX3_arcsFrom_19 : decode cX3_arcsFrom 19 = .ok (.iload_n 3, 1) := by decide +kernel
theorem dX3_arcsFrom_20 : decode cX3_arcsFrom 20 = .ok (.isub, 1) := by decide +kernel
theorem dX3_arcsFrom_21 : decode cX3_arcsFrom 21 = .ok (.aload_n 1, 1) := by decide +kernel
theorem dX3_arcsFrom_22 : decode cX3_arcsFrom 22 = .ok (.getfield 50, 3) := by decide +kernel
theorem dX3_arcsFrom_25 : decode cX3_arcsFrom 25 = .ok (.iload 4, 2) := by decide +kernel
theorem dX3_arcsFrom_27 : decode cX3_arcsFrom 27 = .ok (.iaload, 1) := by decide +kernel
theorem dX3_arcsFrom_28 : decode cX3_arcsFrom 28 = .ok (.invokestatic 65, 3) := by decide +kernel
theorem dX3_arcsFrom_31 : decode cX3_arcsFrom 31 = .ok (.invokestatic 68, 3) := by decide +kernel
theorem dX3_arcsFrom_34 : decode cX3_arcsFrom 34 = .ok (.iconst 1, 1) := by decide +kernel
theorem dX3_arcsFrom_35 : decode cX3_arcsFrom 35 = .ok (.iadd, 1) := by decide +kernel
theorem dX3_arcsFrom_36 : decode cX3_arcsFrom 36 = .ok (.ireturn, 1) := by decide +kernel
theorem dX3_isPoint_0 : decode cX3_isPoint 0 = .ok (.iload_n 1, 1) := by decide +kernel
theorem dX3_isPoint_1 : decode cX3_isPoint 1 = .ok (.ifCond .lt 41, 3) := by decide +kernel
theorem dX3_isPoint_4 : decode cX3_isPoint 4 = .ok (.iload_n 1, 1) := by decide +kernel
theorem dX3_isPoint_5 : decode cX3_isPoint 5 = .ok (.aload_n 0, 1) := by decide +kernel
theorem dX3_isPoint_6 : decode cX3_isPoint 6 = .ok (.getfield 23, 3) := by decide +kernel
theorem dX3_isPoint_9 : decode cX3_isPoint 9 = .ok (.if_icmp .gt 33, 3) := by decide +kernel
theorem dX3_isPoint_12 : decode cX3_isPoint 12 = .ok (.iload_n 2, 1) := by decide +kernel
theorem dX3_isPoint_13 : decode cX3_isPoint 13 = .ok (.ifCond .lt 29, 3) := by decide +kernel
theorem dX3_isPoint_16 : decode cX3_isPoint 16 = .ok (.iload_n 2, 1) := by decide +kernel
theorem dX3_isPoint_17 : decode cX3_isPoint 17 = .ok (.iload_n 3, 1) := by decide +kernel
theorem dX3_isPoint_18 : decode cX3_isPoint 18 = .ok (.if_icmp .gt 24, 3) := by decide +kernel
theorem dX3_isPoint_21 : decode cX3_isPoint 21 = .ok (.iload_n 2, 1) := by decide +kernel
theorem dX3_isPoint_22 : decode cX3_isPoint 22 = .ok (.bipush 99, 2) := by decide +kernel
theorem dX3_isPoint_24 : decode cX3_isPoint 24 = .ok (.if_icmp .gt 18, 3) := by decide +kernel
theorem dX3_isPoint_27 : decode cX3_isPoint 27 = .ok (.aload_n 0, 1) := by decide +kernel
theorem dX3_isPoint_28 : decode cX3_isPoint 28 = .ok (.getfield 11, 3) := by decide +kernel
theorem dX3_isPoint_31 : decode cX3_isPoint 31 = .ok (.iload_n 1, 1) := by decide +kernel
theorem dX3_isPoint_32 : decode cX3_isPoint 32 = .ok (.aaload, 1) := by decide +kernel
theorem dX3_isPoint_33 : decode cX3_isPoint 33 = .ok (.iload_n 2, 1) := by decide +kernel
theorem dX3_isPoint_34 : decode cX3_isPoint 34 = .ok (.iaload, 1) := by decide +kernel
theorem dX3_isPoint_35 : decode cX3_isPoint 35 = .ok (.ifCond .le 7, 3) := by decide +kernel
theorem dX3_isPoint_38 : decode cX3_isPoint 38 = .ok (.iconst 1, 1) := by decide +kernel
theorem dX3_isPoint_39 : decode cX3_isPoint 39 = .ok (.goto 4, 3) := by decide +kernel
theorem dX3_isPoint_42 : decode cX3_isPoint 42 = .ok (.iconst 0, 1) := by decide +kernel
theorem dX3_isPoint_43 : decode cX3_isPoint 43 = .ok (.ireturn, 1) := by decide +kernel
theorem dX3_highOf_0 : decode cX3_highOf 0 = .ok (.iload_n 3, 1) := by decide +kernel
theorem dX3_highOf_1 : decode cX3_highOf 1 = .ok (.iload_n 2, 1) := by decide +kernel
theorem dX3_highOf_2 : decode cX3_highOf 2 = .ok (.isub, 1) := by decide +kernel
theorem dX3_highOf_3 : decode cX3_highOf 3 = .ok (.istore 4, 2) := by decide +kernel
theorem dX3_highOf_5 : decode cX3_highOf 5 = .ok (.iload 4, 2) := by decide +kernel
theorem dX3_highOf_7 : decode cX3_highOf 7 = .ok (.ifCond .lt 10, 3) := by decide +kernel
theorem dX3_highOf_10 : decode cX3_highOf 10 = .ok (.iload 4, 2) := by decide +kernel
theorem dX3_highOf_12 : decode cX3_highOf 12 = .ok (.bipush 99, 2) := by decide +kernel
theorem dX3_highOf_14 : decode cX3_highOf 14 = .ok (.if_icmp .le 7, 3) := by decide +kernel
theorem dX3_highOf_17 : decode cX3_highOf 17 = .ok (.iload_n 3, 1) := by decide +kernel
theorem dX3_highOf_18 : decode cX3_highOf 18 = .ok (.goto 14, 3) := by decide +kernel
theorem dX3_highOf_21 : decode cX3_highOf 21 = .ok (.iload_n 3, 1) := by decide +kernel
theorem dX3_highOf_22 : decode cX3_highOf 22 = .ok (.aload_n 0, 1) := by decide +kernel
theorem dX3_highOf_23 : decode cX3_highOf 23 = .ok (.getfield 16, 3) := by decide +kernel
theorem dX3_highOf_26 : decode cX3_highOf 26 = .ok (.iload_n 1, 1) := by decide +kernel
theorem dX3_highOf_27 : decode cX3_highOf 27 = .ok (.aaload, 1) := by decide +kernel
theorem dX3_highOf_28 : decode cX3_highOf 28 = .ok (.iload 4, 2) := by decide +kernel
theorem dX3_highOf_30 : decode cX3_highOf 30 = .ok (.iaload, 1) := by decide +kernel
theorem dX3_highOf_31 : decode cX3_highOf 31 = .ok (.isub, 1) := by decide +kernel
theorem dX3_highOf_32 : decode cX3_highOf 32 = .ok (.ireturn, 1) := by decide +kernel
theorem dX3_countPoints_0 : decode cX3_countPoints 0 = .ok (.iconst 0, 1) := by decide +kernel
theorem dX3_countPoints_1 : decode cX3_countPoints 1 = .ok (.istore_n 3, 1) := by decide +kernel
theorem dX3_countPoints_2 : decode cX3_countPoints 2 = .ok (.iconst 0, 1) := by decide +kernel
theorem dX3_countPoints_3 : decode cX3_countPoints 3 = .ok (.istore 4, 2) := by decide +kernel
theorem dX3_countPoints_5 : decode cX3_countPoints 5 = .ok (.iload 4, 2) := by decide +kernel
theorem dX3_countPoints_7 : decode cX3_countPoints 7 = .ok (.aload_n 0, 1) := by decide +kernel
theorem dX3_countPoints_8 : decode cX3_countPoints 8 = .ok (.getfield 23, 3) := by decide +kernel
theorem dX3_countPoints_11 : decode cX3_countPoints 11 = .ok (.if_icmp .gt 82, 3) := by decide +kernel
theorem dX3_countPoints_14 : decode cX3_countPoints 14 = .ok (.iconst (-1), 1) := by decide +kernel
theorem dX3_countPoints_15 : decode cX3_countPoints 15 = .ok (.istore 5, 2) := by decide +kernel
theorem dX3_countPoints_17 : decode cX3_countPoints 17 = .ok (.iconst 0, 1) := by decide +kernel
theorem dX3_countPoints_18 : decode cX3_countPoints 18 = .ok (.istore 6, 2) := by decide +kernel
theorem dX3_countPoints_20 : decode cX3_countPoints 20 = .ok (.iload 6, 2) := by decide +kernel
theorem dX3_countPoints_22 : decode cX3_countPoints 22 = .ok (.aload_n 1, 1) := by decide +kernel
theorem dX3_countPoints_23 : decode cX3_countPoints 23 = .ok (.getfield 59, 3) := by decide +kernel
theorem dX3_countPoints_26 : decode cX3_countPoints 26 = .ok (.if_icmp .gt 61, 3) := by decide +kernel
theorem dX3_countPoints_29 : decode cX3_countPoints 29 = .ok (.aload_n 0, 1) := by decide +kernel
theorem dX3_countPoints_30 : decode cX3_countPoints 30 = .ok (.iload 4, 2) := by decide +kernel
theorem dX3_countPoints_32 : decode cX3_countPoints 32 = .ok (.iload 6, 2) := by decide +kernel
theorem dX3_countPoints_34 : decode cX3_countPoints 34 = .ok (.aload_n 1, 1) := by decide +kernel
theorem dX3_countPoints_35 : decode cX3_countPoints 35 = .ok (.getfield 59, 3) := by decide +kernel
theorem dX3_countPoints_38 : decode cX3_countPoints 38 = .ok (.invokevirtual 71, 3) := by decide +kernel
theorem dX3_countPoints_41 : decode cX3_countPoints 41 = .ok (.ifCond .eq 40, 3) := by decide +kernel
theorem dX3_countPoints_44 : decode cX3_countPoints 44 = .ok (.aload_n 0, 1) := by decide +kernel
theorem dX3_countPoints_45 : decode cX3_countPoints 45 = .ok (.iload 4, 2) := by decide +kernel
theorem dX3_countPoints_47 : decode cX3_countPoints 47 = .ok (.iload 6, 2) := by decide +kernel
theorem dX3_countPoints_49 : decode cX3_countPoints 49 = .ok (.aload_n 1, 1) := by decide +kernel
theorem dX3_countPoints_50 : decode cX3_countPoints 50 = .ok (.getfield 59, 3) := by decide +kernel
theorem dX3_countPoints_53 : decode cX3_countPoints 53 = .ok (.invokevirtual 75, 3) := by decide +kernel
theorem dX3_countPoints_56 : decode cX3_countPoints 56 = .ok (.istore 7, 2) := by decide +kernel
theorem dX3_countPoints_58 : decode cX3_countPoints 58 = .ok (.iload_n 3, 1) := by decide +kernel
theorem dX3_countPoints_59 : decode cX3_countPoints 59 = .ok (.iload_n 2, 1) := by decide +kernel
theorem dX3_countPoints_60 : decode cX3_countPoints 60 = .ok (.ifCond .eq 14, 3) := by decide +kernel
theorem dX3_countPoints_63 : decode cX3_countPoints 63 = .ok (.iload 7, 2) := by decide +kernel
theorem dX3_countPoints_65 : decode cX3_countPoints 65 = .ok (.iload 5, 2) := by decide +kernel
theorem dX3_countPoints_67 : decode cX3_countPoints 67 = .ok (.if_icmp .ne 7, 3) := by decide +kernel
theorem dX3_countPoints_70 : decode cX3_countPoints 70 = .ok (.iconst 0, 1) := by decide +kernel
theorem dX3_countPoints_71 : decode cX3_countPoints 71 = .ok (.goto 4, 3) := by decide +kernel
theorem dX3_countPoints_74 : decode cX3_countPoints 74 = .ok (.iconst 1, 1) := by decide +kernel
theorem dX3_countPoints_75 : decode cX3_countPoints 75 = .ok (.iadd, 1) := by decide +kernel
theorem dX3_countPoints_76 : decode cX3_countPoints 76 = .ok (.istore_n 3, 1) := by decide +kernel
theorem dX3_countPoints_77 : decode cX3_countPoints 77 = .ok (.iload 7, 2) := by decide +kernel
theorem dX3_countPoints_79 : decode cX3_countPoints 79 = .ok (.istore 5, 2) := by decide +kernel
theorem dX3_countPoints_81 : decode cX3_countPoints 81 = .ok (.iinc 6 1, 3) := by decide +kernel
theorem dX3_countPoints_84 : decode cX3_countPoints 84 = .ok (.goto (-64), 3) := by decide +kernel
theorem dX3_countPoints_87 : decode cX3_countPoints 87 = .ok (.iinc 4 1, 3) := by decide +kernel
theorem dX3_countPoints_90 : decode cX3_countPoints 90 = .ok (.goto (-85), 3) := by decide +kernel
theorem dX3_countPoints_93 : decode cX3_countPoints 93 = .ok (.iload_n 3, 1) := by decide +kernel
theorem dX3_countPoints_94 : decode cX3_countPoints 94 = .ok (.ireturn, 1) := by decide +kernel
theorem dX3_countArcs_0 : decode cX3_countArcs 0 = .ok (.iconst 0, 1) := by decide +kernel
theorem dX3_countArcs_1 : decode cX3_countArcs 1 = .ok (.istore_n 3, 1) := by decide +kernel
theorem dX3_countArcs_2 : decode cX3_countArcs 2 = .ok (.iconst 0, 1) := by decide +kernel
theorem dX3_countArcs_3 : decode cX3_countArcs 3 = .ok (.istore 4, 2) := by decide +kernel
theorem dX3_countArcs_5 : decode cX3_countArcs 5 = .ok (.iload 4, 2) := by decide +kernel
theorem dX3_countArcs_7 : decode cX3_countArcs 7 = .ok (.aload_n 0, 1) := by decide +kernel
theorem dX3_countArcs_8 : decode cX3_countArcs 8 = .ok (.getfield 23, 3) := by decide +kernel
theorem dX3_countArcs_11 : decode cX3_countArcs 11 = .ok (.if_icmp .ge 90, 3) := by decide +kernel
theorem dX3_countArcs_14 : decode cX3_countArcs 14 = .ok (.iconst (-1), 1) := by decide +kernel
theorem dX3_countArcs_15 : decode cX3_countArcs 15 = .ok (.istore 5, 2) := by decide +kernel
theorem dX3_countArcs_17 : decode cX3_countArcs 17 = .ok (.iconst 0, 1) := by decide +kernel
theorem dX3_countArcs_18 : decode cX3_countArcs 18 = .ok (.istore 6, 2) := by decide +kernel
theorem dX3_countArcs_20 : decode cX3_countArcs 20 = .ok (.iload 6, 2) := by decide +kernel
theorem dX3_countArcs_22 : decode cX3_countArcs 22 = .ok (.aload_n 1, 1) := by decide +kernel
theorem dX3_countArcs_23 : decode cX3_countArcs 23 = .ok (.getfield 59, 3) := by decide +kernel
theorem dX3_countArcs_26 : decode cX3_countArcs 26 = .ok (.if_icmp .gt 69, 3) := by decide +kernel
theorem dX3_countArcs_29 : decode cX3_countArcs 29 = .ok (.aload_n 0, 1) := by decide +kernel
theorem dX3_countArcs_30 : decode cX3_countArcs 30 = .ok (.iload 4, 2) := by decide +kernel
theorem dX3_countArcs_32 : decode cX3_countArcs 32 = .ok (.iload 6, 2) := by decide +kernel
theorem dX3_countArcs_34 : decode cX3_countArcs 34 = .ok (.aload_n 1, 1) := by decide +kernel
theorem dX3_countArcs_35 : decode cX3_countArcs 35 = .ok (.getfield 59, 3) := by decide +kernel
theorem dX3_countArcs_38 : decode cX3_countArcs 38 = .ok (.invokevirtual 71, 3) := by decide +kernel
theorem dX3_countArcs_41 : decode cX3_countArcs 41 = .ok (.ifCond .eq 48, 3) := by decide +kernel
theorem dX3_countArcs_44 : decode cX3_countArcs 44 = .ok (.aload_n 0, 1) := by decide +kernel
theorem dX3_countArcs_45 : decode cX3_countArcs 45 = .ok (.iload 4, 2) := by decide +kernel
theorem dX3_countArcs_47 : decode cX3_countArcs 47 = .ok (.iload 6, 2) := by decide +kernel
theorem dX3_countArcs_49 : decode cX3_countArcs 49 = .ok (.aload_n 1, 1) := by decide +kernel
theorem dX3_countArcs_50 : decode cX3_countArcs 50 = .ok (.getfield 59, 3) := by decide +kernel
theorem dX3_countArcs_53 : decode cX3_countArcs 53 = .ok (.invokevirtual 75, 3) := by decide +kernel
theorem dX3_countArcs_56 : decode cX3_countArcs 56 = .ok (.istore 7, 2) := by decide +kernel
theorem dX3_countArcs_58 : decode cX3_countArcs 58 = .ok (.iload_n 3, 1) := by decide +kernel
theorem dX3_countArcs_59 : decode cX3_countArcs 59 = .ok (.iload_n 2, 1) := by decide +kernel
theorem dX3_countArcs_60 : decode cX3_countArcs 60 = .ok (.ifCond .eq 14, 3) := by decide +kernel
theorem dX3_countArcs_63 : decode cX3_countArcs 63 = .ok (.iload 7, 2) := by decide +kernel
theorem dX3_countArcs_65 : decode cX3_countArcs 65 = .ok (.iload 5, 2) := by decide +kernel
theorem dX3_countArcs_67 : decode cX3_countArcs 67 = .ok (.if_icmp .ne 7, 3) := by decide +kernel
theorem dX3_countArcs_70 : decode cX3_countArcs 70 = .ok (.iconst 0, 1) := by decide +kernel
theorem dX3_countArcs_71 : decode cX3_countArcs 71 = .ok (.goto 12, 3) := by decide +kernel
theorem dX3_countArcs_74 : decode cX3_countArcs 74 = .ok (.aload_n 0, 1) := by decide +kernel
theorem dX3_countArcs_75 : decode cX3_countArcs 75 = .ok (.aload_n 1, 1) := by decide +kernel
theorem dX3_countArcs_76 : decode cX3_countArcs 76 = .ok (.iload 4, 2) := by decide +kernel
theorem dX3_countArcs_78 : decode cX3_countArcs 78 = .ok (.iload 6, 2) := by decide +kernel
theorem dX3_countArcs_80 : decode cX3_countArcs 80 = .ok (.invokevirtual 62, 3) := by decide +kernel
theorem dX3_countArcs_83 : decode cX3_countArcs 83 = .ok (.iadd, 1) := by decide +kernel
theorem dX3_countArcs_84 : decode cX3_countArcs 84 = .ok (.istore_n 3, 1) := by decide +kernel
theorem dX3_countArcs_85 : decode cX3_countArcs 85 = .ok (.iload 7, 2) := by decide +kernel
theorem dX3_countArcs_87 : decode cX3_countArcs 87 = .ok (.istore 5, 2) := by decide +kernel
theorem dX3_countArcs_89 : decode cX3_countArcs 89 = .ok (.iinc 6 1, 3) := by decide +kernel
theorem dX3_countArcs_92 : decode cX3_countArcs 92 = .ok (.goto (-72), 3) := by decide +kernel
theorem dX3_countArcs_95 : decode cX3_countArcs 95 = .ok (.iinc 4 1, 3) := by decide +kernel
theorem dX3_countArcs_98 : decode cX3_countArcs 98 = .ok (.goto (-93), 3) := by decide +kernel
theorem dX3_countArcs_101 : decode cX3_countArcs 101 = .ok (.iload_n 3, 1) := by decide +kernel
theorem dX3_countArcs_102 : decode cX3_countArcs 102 = .ok (.ireturn, 1) := by decide +kernel
theorem dX3_fillGreatest_0 : decode cX3_fillGreatest 0 = .ok (.aload_n 0, 1) := by decide +kernel
theorem dX3_fillGreatest_1 : decode cX3_fillGreatest 1 = .ok (.aload_n 1, 1) := by decide +kernel
theorem dX3_fillGreatest_2 : decode cX3_fillGreatest 2 = .ok (.invokevirtual 27, 3) := by decide +kernel
theorem dX3_fillGreatest_5 : decode cX3_fillGreatest 5 = .ok (.iconst 0, 1) := by decide +kernel
theorem dX3_fillGreatest_6 : decode cX3_fillGreatest 6 = .ok (.istore 4, 2) := by decide +kernel
theorem dX3_fillGreatest_8 : decode cX3_fillGreatest 8 = .ok (.iload 4, 2) := by decide +kernel
theorem dX3_fillGreatest_10 : decode cX3_fillGreatest 10 = .ok (.aload_n 3, 1) := by decide +kernel
theorem dX3_fillGreatest_11 : decode cX3_fillGreatest 11 = .ok (.arraylength, 1) := by decide +kernel
theorem dX3_fillGreatest_12 : decode cX3_fillGreatest 12 = .ok (.if_icmp .ge 14, 3) := by decide +kernel
theorem dX3_fillGreatest_15 : decode cX3_fillGreatest 15 = .ok (.aload_n 3, 1) := by decide +kernel
theorem dX3_fillGreatest_16 : decode cX3_fillGreatest 16 = .ok (.iload 4, 2) := by decide +kernel
theorem dX3_fillGreatest_18 : decode cX3_fillGreatest 18 = .ok (.iconst 0, 1) := by decide +kernel
theorem dX3_fillGreatest_19 : decode cX3_fillGreatest 19 = .ok (.iastore, 1) := by decide +kernel
theorem dX3_fillGreatest_20 : decode cX3_fillGreatest 20 = .ok (.iinc 4 1, 3) := by decide +kernel
theorem dX3_fillGreatest_23 : decode cX3_fillGreatest 23 = .ok (.goto (-15), 3) := by decide +kernel
theorem dX3_fillGreatest_26 : decode cX3_fillGreatest 26 = .ok (.iconst 0, 1) := by decide +kernel
theorem dX3_fillGreatest_27 : decode cX3_fillGreatest 27 = .ok (.iload_n 2, 1) := by decide +kernel
theorem dX3_fillGreatest_28 : decode cX3_fillGreatest 28 = .ok (.bipush 99, 2) := by decide +kernel
theorem dX3_fillGreatest_30 : decode cX3_fillGreatest 30 = .ok (.invokestatic 68, 3) := by decide +kernel
theorem dX3_fillGreatest_33 : decode cX3_fillGreatest 33 = .ok (.invokestatic 53, 3) := by decide +kernel
theorem dX3_fillGreatest_36 : decode cX3_fillGreatest 36 = .ok (.istore 4, 2) := by decide +kernel
theorem dX3_fillGreatest_38 : decode cX3_fillGreatest 38 = .ok (.iconst 0, 1) := by decide +kernel
theorem dX3_fillGreatest_39 : decode cX3_fillGreatest 39 = .ok (.istore 5, 2) := by decide +kernel
theorem dX3_fillGreatest_41 : decode cX3_fillGreatest 41 = .ok (.iload 5, 2) := by decide +kernel
theorem dX3_fillGreatest_43 : decode cX3_fillGreatest 43 = .ok (.aload_n 0, 1) := by decide +kernel
theorem dX3_fillGreatest_44 : decode cX3_fillGreatest 44 = .ok (.getfield 23, 3) := by decide +kernel
theorem dX3_fillGreatest_47 : decode cX3_fillGreatest 47 = .ok (.if_icmp .ge 110, 3) := by decide +kernel
theorem dX3_fillGreatest_50 : decode cX3_fillGreatest 50 = .ok (.aload_n 0, 1) := by decide +kernel
theorem dX3_fillGreatest_51 : decode cX3_fillGreatest 51 = .ok (.getfield 19, 3) := by decide +kernel
theorem dX3_fillGreatest_54 : decode cX3_fillGreatest 54 = .ok (.iload 5, 2) := by decide +kernel
theorem dX3_fillGreatest_56 : decode cX3_fillGreatest 56 = .ok (.iaload, 1) := by decide +kernel
theorem dX3_fillGreatest_57 : decode cX3_fillGreatest 57 = .ok (.istore 6, 2) := by decide +kernel
theorem dX3_fillGreatest_59 : decode cX3_fillGreatest 59 = .ok (.aload_n 1, 1) := by decide +kernel
theorem dX3_fillGreatest_60 : decode cX3_fillGreatest 60 = .ok (.getfield 50, 3) := by decide +kernel
theorem dX3_fillGreatest_63 : decode cX3_fillGreatest 63 = .ok (.iload 6, 2) := by decide +kernel
theorem dX3_fillGreatest_65 : decode cX3_fillGreatest 65 = .ok (.iaload, 1) := by decide +kernel
theorem dX3_fillGreatest_66 : decode cX3_fillGreatest 66 = .ok (.istore 7, 2) := by decide +kernel
theorem dX3_fillGreatest_68 : decode cX3_fillGreatest 68 = .ok (.aload_n 1, 1) := by decide +kernel
theorem dX3_fillGreatest_69 : decode cX3_fillGreatest 69 = .ok (.getfield 40, 3) := by decide +kernel
theorem dX3_fillGreatest_72 : decode cX3_fillGreatest 72 = .ok (.iload 6, 2) := by decide +kernel
theorem dX3_fillGreatest_74 : decode cX3_fillGreatest 74 = .ok (.iaload, 1) := by decide +kernel
theorem dX3_fillGreatest_75 : decode cX3_fillGreatest 75 = .ok (.iload 4, 2) := by decide +kernel
theorem dX3_fillGreatest_77 : decode cX3_fillGreatest 77 = .ok (.iload 7, 2) := by decide +kernel
theorem dX3_fillGreatest_79 : decode cX3_fillGreatest 79 = .ok (.invokestatic 65, 3) := by decide +kernel
theorem dX3_fillGreatest_82 : decode cX3_fillGreatest 82 = .ok (.invokestatic 68, 3) := by decide +kernel
theorem dX3_fillGreatest_85 : decode cX3_fillGreatest 85 = .ok (.istore 8, 2) := by decide +kernel
theorem dX3_fillGreatest_87 : decode cX3_fillGreatest 87 = .ok (.iload 8, 2) := by decide +kernel
theorem dX3_fillGreatest_89 : decode cX3_fillGreatest 89 = .ok (.ifCond .le 46, 3) := by decide +kernel
theorem dX3_fillGreatest_92 : decode cX3_fillGreatest 92 = .ok (.iload 8, 2) := by decide +kernel
theorem dX3_fillGreatest_94 : decode cX3_fillGreatest 94 = .ok (.iload 7, 2) := by decide +kernel
theorem dX3_fillGreatest_96 : decode cX3_fillGreatest 96 = .ok (.imul, 1) := by decide +kernel
theorem dX3_fillGreatest_97 : decode cX3_fillGreatest 97 = .ok (.aload_n 0, 1) := by decide +kernel
theorem dX3_fillGreatest_98 : decode cX3_fillGreatest 98 = .ok (.getfield 16, 3) := by decide +kernel
theorem dX3_fillGreatest_101 : decode cX3_fillGreatest 101 = .ok (.iload 5, 2) := by decide +kernel
theorem dX3_fillGreatest_103 : decode cX3_fillGreatest 103 = .ok (.iconst 1, 1) := by decide +kernel
theorem dX3_fillGreatest_104 : decode cX3_fillGreatest 104 = .ok (.iadd, 1) := by decide +kernel
theorem dX3_fillGreatest_105 : decode cX3_fillGreatest 105 = .ok (.aaload, 1) := by decide +kernel
theorem dX3_fillGreatest_106 : decode cX3_fillGreatest 106 = .ok (.iload 4, 2) := by decide +kernel
theorem dX3_fillGreatest_108 : decode cX3_fillGreatest 108 = .ok (.iload 8, 2) := by decide +kernel
theorem dX3_fillGreatest_110 : decode cX3_fillGreatest 110 = .ok (.iload 7, 2) := by decide +kernel
theorem dX3_fillGreatest_112 : decode cX3_fillGreatest 112 = .ok (.imul, 1) := by decide +kernel
theorem dX3_fillGreatest_113 : decode cX3_fillGreatest 113 = .ok (.isub, 1) := by decide +kernel
theorem dX3_fillGreatest_114 : decode cX3_fillGreatest 114 = .ok (.iaload, 1) := by decide +kernel
