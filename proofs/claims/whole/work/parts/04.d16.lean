theorem dX10_inBins_4 : decode cX10_inBins 4 = .ok (.iload_n 3, 1) := by decide +kernel
theorem dX10_inBins_5 : decode cX10_inBins 5 = .ok (.aload_n 0, 1) := by decide +kernel
theorem dX10_inBins_6 : decode cX10_inBins 6 = .ok (.invokevirtual 302, 3) := by decide +kernel
theorem dX10_inBins_9 : decode cX10_inBins 9 = .ok (.if_icmp .ge 23, 3) := by decide +kernel
theorem dX10_inBins_12 : decode cX10_inBins 12 = .ok (.iload_n 2, 1) := by decide +kernel
theorem dX10_inBins_13 : decode cX10_inBins 13 = .ok (.aload_n 0, 1) := by decide +kernel
theorem dX10_inBins_14 : decode cX10_inBins 14 = .ok (.getfield 9, 3) := by decide +kernel
theorem dX10_inBins_17 : decode cX10_inBins 17 = .ok (.iload_n 3, 1) := by decide +kernel
theorem dX10_inBins_18 : decode cX10_inBins 18 = .ok (.invokestatic 299, 3) := by decide +kernel
theorem dX10_inBins_21 : decode cX10_inBins 21 = .ok (.iload_n 1, 1) := by decide +kernel
theorem dX10_inBins_22 : decode cX10_inBins 22 = .ok (.iadd, 1) := by decide +kernel
theorem dX10_inBins_23 : decode cX10_inBins 23 = .ok (.iaload, 1) := by decide +kernel
theorem dX10_inBins_24 : decode cX10_inBins 24 = .ok (.iadd, 1) := by decide +kernel
theorem dX10_inBins_25 : decode cX10_inBins 25 = .ok (.istore_n 2, 1) := by decide +kernel
theorem dX10_inBins_26 : decode cX10_inBins 26 = .ok (.iinc 3 1, 3) := by decide +kernel
theorem dX10_inBins_29 : decode cX10_inBins 29 = .ok (.goto (-25), 3) := by decide +kernel
theorem dX10_inBins_32 : decode cX10_inBins 32 = .ok (.iload_n 2, 1) := by decide +kernel
theorem dX10_inBins_33 : decode cX10_inBins 33 = .ok (.ireturn, 1) := by decide +kernel
theorem dX10_waste_0 : decode cX10_waste 0 = .ok (.iconst 0, 1) := by decide +kernel
theorem dX10_waste_1 : decode cX10_waste 1 = .ok (.istore_n 1, 1) := by decide +kernel
theorem dX10_waste_2 : decode cX10_waste 2 = .ok (.iconst 0, 1) := by decide +kernel
theorem dX10_waste_3 : decode cX10_waste 3 = .ok (.istore_n 2, 1) := by decide +kernel
theorem dX10_waste_4 : decode cX10_waste 4 = .ok (.iload_n 2, 1) := by decide +kernel
theorem dX10_waste_5 : decode cX10_waste 5 = .ok (.aload_n 0, 1) := by decide +kernel
theorem dX10_waste_6 : decode cX10_waste 6 = .ok (.invokevirtual 302, 3) := by decide +kernel
theorem dX10_waste_9 : decode cX10_waste 9 = .ok (.if_icmp .ge 22, 3) := by decide +kernel
theorem dX10_waste_12 : decode cX10_waste 12 = .ok (.iload_n 1, 1) := by decide +kernel
theorem dX10_waste_13 : decode cX10_waste 13 = .ok (.aload_n 0, 1) := by decide +kernel
theorem dX10_waste_14 : decode cX10_waste 14 = .ok (.getfield 25, 3) := by decide +kernel
theorem dX10_waste_17 : decode cX10_waste 17 = .ok (.aload_n 0, 1) := by decide +kernel
theorem dX10_waste_18 : decode cX10_waste 18 = .ok (.iload_n 2, 1) := by decide +kernel
theorem dX10_waste_19 : decode cX10_waste 19 = .ok (.invokevirtual 305, 3) := by decide +kernel
theorem dX10_waste_22 : decode cX10_waste 22 = .ok (.isub, 1) := by decide +kernel
theorem dX10_waste_23 : decode cX10_waste 23 = .ok (.iadd, 1) := by decide +kernel
theorem dX10_waste_24 : decode cX10_waste 24 = .ok (.istore_n 1, 1) := by decide +kernel
theorem dX10_waste_25 : decode cX10_waste 25 = .ok (.iinc 2 1, 3) := by decide +kernel
theorem dX10_waste_28 : decode cX10_waste 28 = .ok (.goto (-24), 3) := by decide +kernel
theorem dX10_waste_31 : decode cX10_waste 31 = .ok (.iload_n 1, 1) := by decide +kernel
theorem dX10_waste_32 : decode cX10_waste 32 = .ok (.ireturn, 1) := by decide +kernel
theorem dX10_critical_0 : decode cX10_critical 0 = .ok (.aload_n 0, 1) := by decide +kernel
theorem dX10_critical_1 : decode cX10_critical 1 = .ok (.invokevirtual 308, 3) := by decide +kernel
theorem dX10_critical_4 : decode cX10_critical 4 = .ok (.istore_n 1, 1) := by decide +kernel
theorem dX10_critical_5 : decode cX10_critical 5 = .ok (.iconst 0, 1) := by decide +kernel
theorem dX10_critical_6 : decode cX10_critical 6 = .ok (.istore_n 2, 1) := by decide +kernel
theorem dX10_critical_7 : decode cX10_critical 7 = .ok (.iconst 0, 1) := by decide +kernel
theorem dX10_critical_8 : decode cX10_critical 8 = .ok (.istore_n 3, 1) := by decide +kernel
theorem dX10_critical_9 : decode cX10_critical 9 = .ok (.iload_n 3, 1) := by decide +kernel
theorem dX10_critical_10 : decode cX10_critical 10 = .ok (.aload_n 0, 1) := by decide +kernel
theorem dX10_critical_11 : decode cX10_critical 11 = .ok (.getfield 172, 3) := by decide +kernel
theorem dX10_critical_14 : decode cX10_critical 14 = .ok (.if_icmp .ge 49, 3) := by decide +kernel
theorem dX10_critical_17 : decode cX10_critical 17 = .ok (.aload_n 0, 1) := by decide +kernel
theorem dX10_critical_18 : decode cX10_critical 18 = .ok (.getfield 9, 3) := by decide +kernel
theorem dX10_critical_21 : decode cX10_critical 21 = .ok (.iload_n 3, 1) := by decide +kernel
theorem dX10_critical_22 : decode cX10_critical 22 = .ok (.iaload, 1) := by decide +kernel
theorem dX10_critical_23 : decode cX10_critical 23 = .ok (.ifCond .ne 6, 3) := by decide +kernel
theorem dX10_critical_26 : decode cX10_critical 26 = .ok (.goto 31, 3) := by decide +kernel
theorem dX10_critical_29 : decode cX10_critical 29 = .ok (.aload_n 0, 1) := by decide +kernel
theorem dX10_critical_30 : decode cX10_critical 30 = .ok (.invokevirtual 283, 3) := by decide +kernel
theorem dX10_critical_33 : decode cX10_critical 33 = .ok (.aload_n 0, 1) := by decide +kernel
theorem dX10_critical_34 : decode cX10_critical 34 = .ok (.getfield 41, 3) := by decide +kernel
theorem dX10_critical_37 : decode cX10_critical 37 = .ok (.iload_n 3, 1) := by decide +kernel
theorem dX10_critical_38 : decode cX10_critical 38 = .ok (.dup2, 1) := by decide +kernel
theorem dX10_critical_39 : decode cX10_critical 39 = .ok (.iaload, 1) := by decide +kernel
theorem dX10_critical_40 : decode cX10_critical 40 = .ok (.iconst 1, 1) := by decide +kernel
theorem dX10_critical_41 : decode cX10_critical 41 = .ok (.isub, 1) := by decide +kernel
theorem dX10_critical_42 : decode cX10_critical 42 = .ok (.iastore, 1) := by decide +kernel
theorem dX10_critical_43 : decode cX10_critical 43 = .ok (.aload_n 0, 1) := by decide +kernel
theorem dX10_critical_44 : decode cX10_critical 44 = .ok (.invokevirtual 286, 3) := by decide +kernel
theorem dX10_critical_47 : decode cX10_critical 47 = .ok (.iload_n 1, 1) := by decide +kernel
theorem dX10_critical_48 : decode cX10_critical 48 = .ok (.if_icmp .ge 9, 3) := by decide +kernel
theorem dX10_critical_51 : decode cX10_critical 51 = .ok (.iload_n 2, 1) := by decide +kernel
theorem dX10_critical_52 : decode cX10_critical 52 = .ok (.iconst 1, 1) := by decide +kernel
theorem dX10_critical_53 : decode cX10_critical 53 = .ok (.iload_n 3, 1) := by decide +kernel
theorem dX10_critical_54 : decode cX10_critical 54 = .ok (.ishl, 1) := by decide +kernel
theorem dX10_critical_55 : decode cX10_critical 55 = .ok (.ior, 1) := by decide +kernel
theorem dX10_critical_56 : decode cX10_critical 56 = .ok (.istore_n 2, 1) := by decide +kernel
theorem dX10_critical_57 : decode cX10_critical 57 = .ok (.iinc 3 1, 3) := by decide +kernel
theorem dX10_critical_60 : decode cX10_critical 60 = .ok (.goto (-51), 3) := by decide +kernel
theorem dX10_critical_63 : decode cX10_critical 63 = .ok (.iload_n 2, 1) := by decide +kernel
theorem dX10_critical_64 : decode cX10_critical 64 = .ok (.ireturn, 1) := by decide +kernel
theorem dX10_apart_0 : decode cX10_apart 0 = .ok (.iconst 0, 1) := by decide +kernel
theorem dX10_apart_1 : decode cX10_apart 1 = .ok (.istore_n 1, 1) := by decide +kernel
theorem dX10_apart_2 : decode cX10_apart 2 = .ok (.iconst 0, 1) := by decide +kernel
theorem dX10_apart_3 : decode cX10_apart 3 = .ok (.istore_n 2, 1) := by decide +kernel
theorem dX10_apart_4 : decode cX10_apart 4 = .ok (.iload_n 2, 1) := by decide +kernel
theorem dX10_apart_5 : decode cX10_apart 5 = .ok (.aload_n 0, 1) := by decide +kernel
theorem dX10_apart_6 : decode cX10_apart 6 = .ok (.getfield 172, 3) := by decide +kernel
theorem dX10_apart_9 : decode cX10_apart 9 = .ok (.if_icmp .ge 48, 3) := by decide +kernel
theorem dX10_apart_12 : decode cX10_apart 12 = .ok (.aload_n 0, 1) := by decide +kernel
theorem dX10_apart_13 : decode cX10_apart 13 = .ok (.invokevirtual 283, 3) := by decide +kernel
theorem dX10_apart_16 : decode cX10_apart 16 = .ok (.iconst 0, 1) := by decide +kernel
theorem dX10_apart_17 : decode cX10_apart 17 = .ok (.istore_n 3, 1) := by decide +kernel
theorem dX10_apart_18 : decode cX10_apart 18 = .ok (.iload_n 3, 1) := by decide +kernel
theorem dX10_apart_19 : decode cX10_apart 19 = .ok (.aload_n 0, 1) := by decide +kernel
theorem dX10_apart_20 : decode cX10_apart 20 = .ok (.getfield 172, 3) := by decide +kernel
theorem dX10_apart_23 : decode cX10_apart 23 = .ok (.if_icmp .ge 21, 3) := by decide +kernel
theorem dX10_apart_26 : decode cX10_apart 26 = .ok (.iload_n 3, 1) := by decide +kernel
theorem dX10_apart_27 : decode cX10_apart 27 = .ok (.iload_n 2, 1) := by decide +kernel
theorem dX10_apart_28 : decode cX10_apart 28 = .ok (.if_icmp .eq 10, 3) := by decide +kernel
theorem dX10_apart_31 : decode cX10_apart 31 = .ok (.aload_n 0, 1) := by decide +kernel
theorem dX10_apart_32 : decode cX10_apart 32 = .ok (.getfield 41, 3) := by decide +kernel
theorem dX10_apart_35 : decode cX10_apart 35 = .ok (.iload_n 3, 1) := by decide +kernel
theorem dX10_apart_36 : decode cX10_apart 36 = .ok (.iconst 0, 1) := by decide +kernel
theorem dX10_apart_37 : decode cX10_apart 37 = .ok (.iastore, 1) := by decide +kernel
theorem dX10_apart_38 : decode cX10_apart 38 = .ok (.iinc 3 1, 3) := by decide +kernel
theorem dX10_apart_41 : decode cX10_apart 41 = .ok (.goto (-23), 3) := by decide +kernel
theorem dX10_apart_44 : decode cX10_apart 44 = .ok (.iload_n 1, 1) := by decide +kernel
theorem dX10_apart_45 : decode cX10_apart 45 = .ok (.aload_n 0, 1) := by decide +kernel
theorem dX10_apart_46 : decode cX10_apart 46 = .ok (.invokevirtual 286, 3) := by decide +kernel
theorem dX10_apart_49 : decode cX10_apart 49 = .ok (.iadd, 1) := by decide +kernel
theorem dX10_apart_50 : decode cX10_apart 50 = .ok (.istore_n 1, 1) := by decide +kernel
theorem dX10_apart_51 : decode cX10_apart 51 = .ok (.iinc 2 1, 3) := by decide +kernel
theorem dX10_apart_54 : decode cX10_apart 54 = .ok (.goto (-50), 3) := by decide +kernel
theorem dX10_apart_57 : decode cX10_apart 57 = .ok (.iload_n 1, 1) := by decide +kernel
theorem dX10_apart_58 : decode cX10_apart 58 = .ok (.ireturn, 1) := by decide +kernel
theorem dX10_count_0 : decode cX10_count 0 = .ok (.aload_n 0, 1) := by decide +kernel
theorem dX10_count_1 : decode cX10_count 1 = .ok (.iconst 0, 1) := by decide +kernel
theorem dX10_count_2 : decode cX10_count 2 = .ok (.putfield 90, 3) := by decide +kernel
theorem dX10_count_5 : decode cX10_count 5 = .ok (.aload_n 0, 1) := by decide +kernel
theorem dX10_count_6 : decode cX10_count 6 = .ok (.iload_n 1, 1) := by decide +kernel
theorem dX10_count_7 : decode cX10_count 7 = .ok (.iconst 0, 1) := by decide +kernel
theorem dX10_count_8 : decode cX10_count 8 = .ok (.bipush 12, 2) := by decide +kernel
theorem dX10_count_10 : decode cX10_count 10 = .ok (.invokestatic 134, 3) := by decide +kernel
theorem dX10_count_13 : decode cX10_count 13 = .ok (.iconst 1, 1) := by decide +kernel
theorem dX10_count_14 : decode cX10_count 14 = .ok (.invokevirtual 166, 3) := by decide +kernel
theorem dX10_count_17 : decode cX10_count 17 = .ok (.ifCond .ne 5, 3) := by decide +kernel
theorem dX10_count_20 : decode cX10_count 20 = .ok (.iconst 0, 1) := by decide +kernel
theorem dX10_count_21 : decode cX10_count 21 = .ok (.ireturn, 1) := by decide +kernel
theorem dX10_count_22 : decode cX10_count 22 = .ok (.iload_n 1, 1) := by decide +kernel
theorem dX10_count_23 : decode cX10_count 23 = .ok (.tableswitch 103 0 9 #[53, 58, 63, 68, 73, 78, 83, 88, 93, 98], 53) := by decide +kernel
theorem dX10_count_76 : decode cX10_count 76 = .ok (.aload_n 0, 1) := by decide +kernel
theorem dX10_count_77 : decode cX10_count 77 = .ok (.getfield 25, 3) := by decide +kernel
theorem dX10_count_80 : decode cX10_count 80 = .ok (.ireturn, 1) := by decide +kernel
theorem dX10_count_81 : decode cX10_count 81 = .ok (.aload_n 0, 1) := by decide +kernel
theorem dX10_count_82 : decode cX10_count 82 = .ok (.getfield 172, 3) := by decide +kernel
theorem dX10_count_85 : decode cX10_count 85 = .ok (.ireturn, 1) := by decide +kernel
theorem dX10_count_86 : decode cX10_count 86 = .ok (.aload_n 0, 1) := by decide +kernel
theorem dX10_count_87 : decode cX10_count 87 = .ok (.invokevirtual 311, 3) := by decide +kernel
theorem dX10_count_90 : decode cX10_count 90 = .ok (.ireturn, 1) := by decide +kernel
theorem dX10_count_91 : decode cX10_count 91 = .ok (.aload_n 0, 1) := by decide +kernel
theorem dX10_count_92 : decode cX10_count 92 = .ok (.invokevirtual 302, 3) := by decide +kernel
theorem dX10_count_95 : decode cX10_count 95 = .ok (.ireturn, 1) := by decide +kernel
theorem dX10_count_96 : decode cX10_count 96 = .ok (.aload_n 0, 1) := by decide +kernel
theorem dX10_count_97 : decode cX10_count 97 = .ok (.invokevirtual 314, 3) := by decide +kernel
theorem dX10_count_100 : decode cX10_count 100 = .ok (.ireturn, 1) := by decide +kernel
theorem dX10_count_101 : decode cX10_count 101 = .ok (.aload_n 0, 1) := by decide +kernel
theorem dX10_count_102 : decode cX10_count 102 = .ok (.invokevirtual 317, 3) := by decide +kernel
theorem dX10_count_105 : decode cX10_count 105 = .ok (.ireturn, 1) := by decide +kernel
theorem dX10_count_106 : decode cX10_count 106 = .ok (.aload_n 0, 1) := by decide +kernel
theorem dX10_count_107 : decode cX10_count 107 = .ok (.invokevirtual 320, 3) := by decide +kernel
theorem dX10_count_110 : decode cX10_count 110 = .ok (.ireturn, 1) := by decide +kernel
theorem dX10_count_111 : decode cX10_count 111 = .ok (.aload_n 0, 1) := by decide +kernel
theorem dX10_count_112 : decode cX10_count 112 = .ok (.getfield 184, 3) := by decide +kernel
theorem dX10_count_115 : decode cX10_count 115 = .ok (.ireturn, 1) := by decide +kernel
theorem dX10_count_116 : decode cX10_count 116 = .ok (.aload_n 0, 1) := by decide +kernel
theorem dX10_count_117 : decode cX10_count 117 = .ok (.getfield 178, 3) := by decide +kernel
theorem dX10_count_120 : decode cX10_count 120 = .ok (.ireturn, 1) := by decide +kernel
theorem dX10_count_121 : decode cX10_count 121 = .ok (.aload_n 0, 1) := by decide +kernel
theorem dX10_count_122 : decode cX10_count 122 = .ok (.getfield 163, 3) := by decide +kernel
theorem dX10_count_125 : decode cX10_count 125 = .ok (.ireturn, 1) := by decide +kernel
theorem dX10_count_126 : decode cX10_count 126 = .ok (.aload_n 0, 1) := by decide +kernel
theorem dX10_count_127 : decode cX10_count 127 = .ok (.getfield 22, 3) := by decide +kernel
theorem dX10_count_130 : decode cX10_count 130 = .ok (.iload_n 1, 1) := by decide +kernel
theorem dX10_count_131 : decode cX10_count 131 = .ok (.bipush 10, 2) := by decide +kernel
theorem dX10_count_133 : decode cX10_count 133 = .ok (.isub, 1) := by decide +kernel
theorem dX10_count_134 : decode cX10_count 134 = .ok (.iaload, 1) := by decide +kernel
theorem dX10_count_135 : decode cX10_count 135 = .ok (.ireturn, 1) := by decide +kernel
theorem dX10_isSort_0 : decode cX10_isSort 0 = .ok (.aload_n 0, 1) := by decide +kernel
theorem dX10_isSort_1 : decode cX10_isSort 1 = .ok (.iload_n 1, 1) := by decide +kernel
theorem dX10_isSort_2 : decode cX10_isSort 2 = .ok (.iconst 0, 1) := by decide +kernel
theorem dX10_isSort_3 : decode cX10_isSort 3 = .ok (.aload_n 0, 1) := by decide +kernel
theorem dX10_isSort_4 : decode cX10_isSort 4 = .ok (.getfield 172, 3) := by decide +kernel
theorem dX10_isSort_7 : decode cX10_isSort 7 = .ok (.iconst 1, 1) := by decide +kernel
theorem dX10_isSort_8 : decode cX10_isSort 8 = .ok (.isub, 1) := by decide +kernel
theorem dX10_isSort_9 : decode cX10_isSort 9 = .ok (.invokestatic 134, 3) := by decide +kernel
theorem dX10_isSort_12 : decode cX10_isSort 12 = .ok (.iconst 1, 1) := by decide +kernel
theorem dX10_isSort_13 : decode cX10_isSort 13 = .ok (.invokevirtual 166, 3) := by decide +kernel
theorem dX10_isSort_16 : decode cX10_isSort 16 = .ok (.ireturn, 1) := by decide +kernel
theorem dX10_isBin_0 : decode cX10_isBin 0 = .ok (.aload_n 0, 1) := by decide +kernel
theorem dX10_isBin_1 : decode cX10_isBin 1 = .ok (.iload_n 1, 1) := by decide +kernel
theorem dX10_isBin_2 : decode cX10_isBin 2 = .ok (.iconst 0, 1) := by decide +kernel
theorem dX10_isBin_3 : decode cX10_isBin 3 = .ok (.aload_n 0, 1) := by decide +kernel
theorem dX10_isBin_4 : decode cX10_isBin 4 = .ok (.invokevirtual 302, 3) := by decide +kernel
theorem dX10_isBin_7 : decode cX10_isBin 7 = .ok (.iconst 1, 1) := by decide +kernel
theorem dX10_isBin_8 : decode cX10_isBin 8 = .ok (.isub, 1) := by decide +kernel
theorem dX10_isBin_9 : decode cX10_isBin 9 = .ok (.invokestatic 134, 3) := by decide +kernel
theorem dX10_isBin_12 : decode cX10_isBin 12 = .ok (.iconst 1, 1) := by decide +kernel
theorem dX10_isBin_13 : decode cX10_isBin 13 = .ok (.invokevirtual 166, 3) := by decide +kernel
theorem dX10_isBin_16 : decode cX10_isBin 16 = .ok (.ireturn, 1) := by decide +kernel
theorem dX10_placeInOrder_0 : decode cX10_placeInOrder 0 = .ok (.aload_n 0, 1) := by decide +kernel
theorem dX10_placeInOrder_1 : decode cX10_placeInOrder 1 = .ok (.invokevirtual 283, 3) := by decide +kernel
theorem dX10_placeInOrder_4 : decode cX10_placeInOrder 4 = .ok (.iconst 0, 1) := by decide +kernel
theorem dX10_placeInOrder_5 : decode cX10_placeInOrder 5 = .ok (.istore_n 2, 1) := by decide +kernel
theorem dX10_placeInOrder_6 : decode cX10_placeInOrder 6 = .ok (.aload_n 0, 1) := by decide +kernel
theorem dX10_placeInOrder_7 : decode cX10_placeInOrder 7 = .ok (.getfield 47, 3) := by decide +kernel
theorem dX10_placeInOrder_10 : decode cX10_placeInOrder 10 = .ok (.iload_n 2, 1) := by decide +kernel
theorem dX10_placeInOrder_11 : decode cX10_placeInOrder 11 = .ok (.iaload, 1) := by decide +kernel
theorem dX10_placeInOrder_12 : decode cX10_placeInOrder 12 = .ok (.iload_n 1, 1) := by decide +kernel
theorem dX10_placeInOrder_13 : decode cX10_placeInOrder 13 = .ok (.if_icmp .eq 9, 3) := by decide +kernel
theorem dX10_placeInOrder_16 : decode cX10_placeInOrder 16 = .ok (.iinc 2 1, 3) := by decide +kernel
theorem dX10_placeInOrder_19 : decode cX10_placeInOrder 19 = .ok (.goto (-13), 3) := by decide +kernel
theorem dX10_placeInOrder_22 : decode cX10_placeInOrder 22 = .ok (.iload_n 2, 1) := by decide +kernel
theorem dX10_placeInOrder_23 : decode cX10_placeInOrder 23 = .ok (.ireturn, 1) := by decide +kernel
theorem dX10_sort_0 : decode cX10_sort 0 = .ok (.aload_n 0, 1) := by decide +kernel
theorem dX10_sort_1 : decode cX10_sort 1 = .ok (.iconst 0, 1) := by decide +kernel
theorem dX10_sort_2 : decode cX10_sort 2 = .ok (.putfield 90, 3) := by decide +kernel
theorem dX10_sort_5 : decode cX10_sort 5 = .ok (.aload_n 0, 1) := by decide +kernel
theorem dX10_sort_6 : decode cX10_sort 6 = .ok (.iload_n 1, 1) := by decide +kernel
theorem dX10_sort_7 : decode cX10_sort 7 = .ok (.invokevirtual 323, 3) := by decide +kernel
theorem dX10_sort_10 : decode cX10_sort 10 = .ok (.ifCond .eq 17, 3) := by decide +kernel
theorem dX10_sort_13 : decode cX10_sort 13 = .ok (.aload_n 0, 1) := by decide +kernel
theorem dX10_sort_14 : decode cX10_sort 14 = .ok (.iload_n 2, 1) := by decide +kernel
theorem dX10_sort_15 : decode cX10_sort 15 = .ok (.iconst 0, 1) := by decide +kernel
theorem dX10_sort_16 : decode cX10_sort 16 = .ok (.iconst 3, 1) := by decide +kernel
theorem dX10_sort_17 : decode cX10_sort 17 = .ok (.invokestatic 134, 3) := by decide +kernel
theorem dX10_sort_20 : decode cX10_sort 20 = .ok (.iconst 1, 1) := by decide +kernel
theorem dX10_sort_21 : decode cX10_sort 21 = .ok (.invokevirtual 166, 3) := by decide +kernel
theorem dX10_sort_24 : decode cX10_sort 24 = .ok (.ifCond .ne 5, 3) := by decide +kernel
theorem dX10_sort_27 : decode cX10_sort 27 = .ok (.iconst 0, 1) := by decide +kernel
theorem dX10_sort_28 : decode cX10_sort 28 = .ok (.ireturn, 1) := by decide +kernel
theorem dX10_sort_29 : decode cX10_sort 29 = .ok (.iload_n 2, 1) := by decide +kernel
theorem dX10_sort_30 : decode cX10_sort 30 = .ok (.ifCond .ne 12, 3) := by decide +kernel
theorem dX10_sort_33 : decode cX10_sort 33 = .ok (.aload_n 0, 1) := by decide +kernel
theorem dX10_sort_34 : decode cX10_sort 34 = .ok (.getfield 13, 3) := by decide +kernel
theorem dX10_sort_37 : decode cX10_sort 37 = .ok (.iload_n 1, 1) := by decide +kernel
theorem dX10_sort_38 : decode cX10_sort 38 = .ok (.iaload, 1) := by decide +kernel
theorem dX10_sort_39 : decode cX10_sort 39 = .ok (.goto 35, 3) := by decide +kernel
theorem dX10_sort_42 : decode cX10_sort 42 = .ok (.iload_n 2, 1) := by decide +kernel
theorem dX10_sort_43 : decode cX10_sort 43 = .ok (.iconst 1, 1) := by decide +kernel
theorem dX10_sort_44 : decode cX10_sort 44 = .ok (.if_icmp .ne 12, 3) := by decide +kernel
theorem dX10_sort_47 : decode cX10_sort 47 = .ok (.aload_n 0, 1) := by decide +kernel
theorem dX10_sort_48 : decode cX10_sort 48 = .ok (.getfield 9, 3) := by decide +kernel
theorem dX10_sort_51 : decode cX10_sort 51 = .ok (.iload_n 1, 1) := by decide +kernel
theorem dX10_sort_52 : decode cX10_sort 52 = .ok (.iaload, 1) := by decide +kernel
theorem dX10_sort_53 : decode cX10_sort 53 = .ok (.goto 21, 3) := by decide +kernel
theorem dX10_sort_56 : decode cX10_sort 56 = .ok (.iload_n 2, 1) := by decide +kernel
theorem dX10_sort_57 : decode cX10_sort 57 = .ok (.iconst 2, 1) := by decide +kernel
theorem dX10_sort_58 : decode cX10_sort 58 = .ok (.if_icmp .ne 11, 3) := by decide +kernel
theorem dX10_sort_61 : decode cX10_sort 61 = .ok (.aload_n 0, 1) := by decide +kernel
theorem dX10_sort_62 : decode cX10_sort 62 = .ok (.iload_n 1, 1) := by decide +kernel
theorem dX10_sort_63 : decode cX10_sort 63 = .ok (.invokevirtual 326, 3) := by decide +kernel
theorem dX10_sort_66 : decode cX10_sort 66 = .ok (.goto 8, 3) := by decide +kernel
theorem dX10_sort_69 : decode cX10_sort 69 = .ok (.aload_n 0, 1) := by decide +kernel
theorem dX10_sort_70 : decode cX10_sort 70 = .ok (.iload_n 1, 1) := by decide +kernel
theorem dX10_sort_71 : decode cX10_sort 71 = .ok (.invokevirtual 329, 3) := by decide +kernel
theorem dX10_sort_74 : decode cX10_sort 74 = .ok (.ireturn, 1) := by decide +kernel
theorem dX10_bin_0 : decode cX10_bin 0 = .ok (.aload_n 0, 1) := by decide +kernel
theorem dX10_bin_1 : decode cX10_bin 1 = .ok (.iconst 0, 1) := by decide +kernel
theorem dX10_bin_2 : decode cX10_bin 2 = .ok (.putfield 90, 3) := by decide +kernel
theorem dX10_bin_5 : decode cX10_bin 5 = .ok (.aload_n 0, 1) := by decide +kernel
theorem dX10_bin_6 : decode cX10_bin 6 = .ok (.iload_n 1, 1) := by decide +kernel
theorem dX10_bin_7 : decode cX10_bin 7 = .ok (.invokevirtual 332, 3) := by decide +kernel
theorem dX10_bin_10 : decode cX10_bin 10 = .ok (.ifCond .eq 16, 3) := by decide +kernel
theorem dX10_bin_13 : decode cX10_bin 13 = .ok (.iload_n 2, 1) := by decide +kernel
theorem dX10_bin_14 : decode cX10_bin 14 = .ok (.iconst (-1), 1) := by decide +kernel
theorem dX10_bin_15 : decode cX10_bin 15 = .ok (.if_icmp .eq 13, 3) := by decide +kernel
theorem dX10_bin_18 : decode cX10_bin 18 = .ok (.aload_n 0, 1) := by decide +kernel
theorem dX10_bin_19 : decode cX10_bin 19 = .ok (.iload_n 2, 1) := by decide +kernel
theorem dX10_bin_20 : decode cX10_bin 20 = .ok (.invokevirtual 323, 3) := by decide +kernel
theorem dX10_bin_23 : decode cX10_bin 23 = .ok (.ifCond .ne 5, 3) := by decide +kernel
theorem dX10_bin_26 : decode cX10_bin 26 = .ok (.iconst 0, 1) := by decide +kernel
theorem dX10_bin_27 : decode cX10_bin 27 = .ok (.ireturn, 1) := by decide +kernel
theorem dX10_bin_28 : decode cX10_bin 28 = .ok (.iload_n 2, 1) := by decide +kernel
theorem dX10_bin_29 : decode cX10_bin 29 = .ok (.iconst (-1), 1) := by decide +kernel
theorem dX10_bin_30 : decode cX10_bin 30 = .ok (.if_icmp .ne 11, 3) := by decide +kernel
theorem dX10_bin_33 : decode cX10_bin 33 = .ok (.aload_n 0, 1) := by decide +kernel
theorem dX10_bin_34 : decode cX10_bin 34 = .ok (.iload_n 1, 1) := by decide +kernel
theorem dX10_bin_35 : decode cX10_bin 35 = .ok (.invokevirtual 305, 3) := by decide +kernel
theorem dX10_bin_38 : decode cX10_bin 38 = .ok (.goto 14, 3) := by decide +kernel
theorem dX10_bin_41 : decode cX10_bin 41 = .ok (.aload_n 0, 1) := by decide +kernel
theorem dX10_bin_42 : decode cX10_bin 42 = .ok (.getfield 9, 3) := by decide +kernel
theorem dX10_bin_45 : decode cX10_bin 45 = .ok (.iload_n 1, 1) := by decide +kernel
theorem dX10_bin_46 : decode cX10_bin 46 = .ok (.invokestatic 299, 3) := by decide +kernel
theorem dX10_bin_49 : decode cX10_bin 49 = .ok (.iload_n 2, 1) := by decide +kernel
theorem dX10_bin_50 : decode cX10_bin 50 = .ok (.iadd, 1) := by decide +kernel
theorem dX10_bin_51 : decode cX10_bin 51 = .ok (.iaload, 1) := by decide +kernel
theorem dX10_bin_52 : decode cX10_bin 52 = .ok (.ireturn, 1) := by decide +kernel
theorem dX10_isRule_0 : decode cX10_isRule 0 = .ok (.aload_n 0, 1) := by decide +kernel
theorem dX10_isRule_1 : decode cX10_isRule 1 = .ok (.iload_n 1, 1) := by decide +kernel
theorem dX10_isRule_2 : decode cX10_isRule 2 = .ok (.iconst 0, 1) := by decide +kernel
theorem dX10_isRule_3 : decode cX10_isRule 3 = .ok (.bipush 7, 2) := by decide +kernel
theorem dX10_isRule_5 : decode cX10_isRule 5 = .ok (.invokestatic 134, 3) := by decide +kernel
theorem dX10_isRule_8 : decode cX10_isRule 8 = .ok (.iconst 1, 1) := by decide +kernel
theorem dX10_isRule_9 : decode cX10_isRule 9 = .ok (.invokevirtual 166, 3) := by decide +kernel
theorem dX10_isRule_12 : decode cX10_isRule 12 = .ok (.ireturn, 1) := by decide +kernel
theorem dX10_rule_0 : decode cX10_rule 0 = .ok (.aload_n 0, 1) := by decide +kernel
theorem dX10_rule_1 : decode cX10_rule 1 = .ok (.iconst 0, 1) := by decide +kernel
theorem dX10_rule_2 : decode cX10_rule 2 = .ok (.putfield 90, 3) := by decide +kernel
theorem dX10_rule_5 : decode cX10_rule 5 = .ok (.aload_n 0, 1) := by decide +kernel
theorem dX10_rule_6 : decode cX10_rule 6 = .ok (.iload_n 1, 1) := by decide +kernel
theorem dX10_rule_7 : decode cX10_rule 7 = .ok (.invokevirtual 335, 3) := by decide +kernel
theorem dX10_rule_10 : decode cX10_rule 10 = .ok (.ifCond .ne 5, 3) := by decide +kernel
theorem dX10_rule_13 : decode cX10_rule 13 = .ok (.iconst 0, 1) := by decide +kernel
theorem dX10_rule_14 : decode cX10_rule 14 = .ok (.ireturn, 1) := by decide +kernel
theorem dX10_rule_15 : decode cX10_rule 15 = .ok (.aload_n 0, 1) := by decide +kernel
theorem dX10_rule_16 : decode cX10_rule 16 = .ok (.invokevirtual 283, 3) := by decide +kernel
theorem dX10_rule_19 : decode cX10_rule 19 = .ok (.aload_n 0, 1) := by decide +kernel
theorem dX10_rule_20 : decode cX10_rule 20 = .ok (.iload_n 1, 1) := by decide +kernel
theorem dX10_rule_21 : decode cX10_rule 21 = .ok (.invokevirtual 274, 3) := by decide +kernel
theorem dX10_rule_24 : decode cX10_rule 24 = .ok (.ireturn, 1) := by decide +kernel
theorem dX10_into_0 : decode cX10_into 0 = .ok (.aload_n 0, 1) := by decide +kernel
theorem dX10_into_1 : decode cX10_into 1 = .ok (.iconst 0, 1) := by decide +kernel
theorem dX10_into_2 : decode cX10_into 2 = .ok (.putfield 90, 3) := by decide +kernel
theorem dX10_into_5 : decode cX10_into 5 = .ok (.aload_n 0, 1) := by decide +kernel
theorem dX10_into_6 : decode cX10_into 6 = .ok (.iload_n 1, 1) := by decide +kernel
theorem dX10_into_7 : decode cX10_into 7 = .ok (.invokevirtual 335, 3) := by decide +kernel
theorem dX10_into_10 : decode cX10_into 10 = .ok (.ifCond .ne 5, 3) := by decide +kernel
theorem dX10_into_13 : decode cX10_into 13 = .ok (.iconst 0, 1) := by decide +kernel
theorem dX10_into_14 : decode cX10_into 14 = .ok (.ireturn, 1) := by decide +kernel
theorem dX10_into_15 : decode cX10_into 15 = .ok (.aload_n 0, 1) := by decide +kernel
theorem dX10_into_16 : decode cX10_into 16 = .ok (.invokevirtual 283, 3) := by decide +kernel
theorem dX10_into_19 : decode cX10_into 19 = .ok (.aload_n 0, 1) := by decide +kernel
theorem dX10_into_20 : decode cX10_into 20 = .ok (.iload_n 1, 1) := by decide +kernel
theorem dX10_into_21 : decode cX10_into 21 = .ok (.invokevirtual 274, 3) := by decide +kernel
theorem dX10_into_24 : decode cX10_into 24 = .ok (.pop, 1) := by decide +kernel
theorem dX10_into_25 : decode cX10_into 25 = .ok (.aload_n 0, 1) := by decide +kernel
theorem dX10_into_26 : decode cX10_into 26 = .ok (.iload_n 2, 1) := by decide +kernel
theorem dX10_into_27 : decode cX10_into 27 = .ok (.iconst 0, 1) := by decide +kernel
theorem dX10_into_28 : decode cX10_into 28 = .ok (.aload_n 0, 1) := by decide +kernel
theorem dX10_into_29 : decode cX10_into 29 = .ok (.getfield 199, 3) := by decide +kernel
theorem dX10_into_32 : decode cX10_into 32 = .ok (.iconst 1, 1) := by decide +kernel
theorem dX10_into_33 : decode cX10_into 33 = .ok (.isub, 1) := by decide +kernel
theorem dX10_into_34 : decode cX10_into 34 = .ok (.invokestatic 134, 3) := by decide +kernel
theorem dX10_into_37 : decode cX10_into 37 = .ok (.iconst 1, 1) := by decide +kernel
theorem dX10_into_38 : decode cX10_into 38 = .ok (.invokevirtual 166, 3) := by decide +kernel
theorem dX10_into_41 : decode cX10_into 41 = .ok (.ifCond .eq 12, 3) := by decide +kernel
theorem dX10_into_44 : decode cX10_into 44 = .ok (.aload_n 0, 1) := by decide +kernel
theorem dX10_into_45 : decode cX10_into 45 = .ok (.getfield 53, 3) := by decide +kernel
theorem dX10_into_48 : decode cX10_into 48 = .ok (.iload_n 2, 1) := by decide +kernel
theorem dX10_into_49 : decode cX10_into 49 = .ok (.iaload, 1) := by decide +kernel
theorem dX10_into_50 : decode cX10_into 50 = .ok (.goto 4, 3) := by decide +kernel
theorem dX10_into_53 : decode cX10_into 53 = .ok (.iconst 0, 1) := by decide +kernel
theorem dX10_into_54 : decode cX10_into 54 = .ok (.ireturn, 1) := by decide +kernel
theorem dX10_guaranteed_0 : decode cX10_guaranteed 0 = .ok (.aload_n 0, 1) := by decide +kernel
theorem dX10_guaranteed_1 : decode cX10_guaranteed 1 = .ok (.iconst 0, 1) := by decide +kernel
theorem dX10_guaranteed_2 : decode cX10_guaranteed 2 = .ok (.putfield 90, 3) := by decide +kernel
theorem dX10_guaranteed_5 : decode cX10_guaranteed 5 = .ok (.aload_n 0, 1) := by decide +kernel
theorem dX10_guaranteed_6 : decode cX10_guaranteed 6 = .ok (.iload_n 1, 1) := by decide +kernel
theorem dX10_guaranteed_7 : decode cX10_guaranteed 7 = .ok (.iconst 0, 1) := by decide +kernel
theorem dX10_guaranteed_8 : decode cX10_guaranteed 8 = .ok (.iconst 1, 1) := by decide +kernel
theorem dX10_guaranteed_9 : decode cX10_guaranteed 9 = .ok (.invokestatic 134, 3) := by decide +kernel
theorem dX10_guaranteed_12 : decode cX10_guaranteed 12 = .ok (.iconst 1, 1) := by decide +kernel
theorem dX10_guaranteed_13 : decode cX10_guaranteed 13 = .ok (.invokevirtual 166, 3) := by decide +kernel
theorem dX10_guaranteed_16 : decode cX10_guaranteed 16 = .ok (.ifCond .ne 5, 3) := by decide +kernel
theorem dX10_guaranteed_19 : decode cX10_guaranteed 19 = .ok (.iconst 0, 1) := by decide +kernel
theorem dX10_guaranteed_20 : decode cX10_guaranteed 20 = .ok (.ireturn, 1) := by decide +kernel
theorem dX10_guaranteed_21 : decode cX10_guaranteed 21 = .ok (.aload_n 0, 1) := by decide +kernel
theorem dX10_guaranteed_22 : decode cX10_guaranteed 22 = .ok (.invokevirtual 308, 3) := by decide +kernel
theorem dX10_guaranteed_25 : decode cX10_guaranteed 25 = .ok (.istore_n 2, 1) := by decide +kernel
theorem dX10_guaranteed_26 : decode cX10_guaranteed 26 = .ok (.aload_n 0, 1) := by decide +kernel
theorem dX10_guaranteed_27 : decode cX10_guaranteed 27 = .ok (.iload_n 1, 1) := by decide +kernel
theorem dX10_guaranteed_28 : decode cX10_guaranteed 28 = .ok (.ifCond .ne 7, 3) := by decide +kernel
theorem dX10_guaranteed_31 : decode cX10_guaranteed 31 = .ok (.iconst 1, 1) := by decide +kernel
theorem dX10_guaranteed_32 : decode cX10_guaranteed 32 = .ok (.goto 4, 3) := by decide +kernel
theorem dX10_guaranteed_35 : decode cX10_guaranteed 35 = .ok (.iconst 5, 1) := by decide +kernel
theorem dX10_guaranteed_36 : decode cX10_guaranteed 36 = .ok (.invokevirtual 274, 3) := by decide +kernel
theorem dX10_guaranteed_39 : decode cX10_guaranteed 39 = .ok (.istore_n 3, 1) := by decide +kernel
theorem dX10_guaranteed_40 : decode cX10_guaranteed 40 = .ok (.iload_n 1, 1) := by decide +kernel
theorem dX10_guaranteed_41 : decode cX10_guaranteed 41 = .ok (.ifCond .ne 22, 3) := by decide +kernel
theorem dX10_guaranteed_44 : decode cX10_guaranteed 44 = .ok (.bipush 10, 2) := by decide +kernel
theorem dX10_guaranteed_46 : decode cX10_guaranteed 46 = .ok (.iload_n 3, 1) := by decide +kernel
theorem dX10_guaranteed_47 : decode cX10_guaranteed 47 = .ok (.imul, 1) := by decide +kernel
theorem dX10_guaranteed_48 : decode cX10_guaranteed 48 = .ok (.bipush 17, 2) := by decide +kernel
theorem dX10_guaranteed_50 : decode cX10_guaranteed 50 = .ok (.iload_n 2, 1) := by decide +kernel
theorem dX10_guaranteed_51 : decode cX10_guaranteed 51 = .ok (.imul, 1) := by decide +kernel
theorem dX10_guaranteed_52 : decode cX10_guaranteed 52 = .ok (.if_icmp .gt 7, 3) := by decide +kernel
theorem dX10_guaranteed_55 : decode cX10_guaranteed 55 = .ok (.iconst 1, 1) := by decide +kernel
theorem dX10_guaranteed_56 : decode cX10_guaranteed 56 = .ok (.goto 26, 3) := by decide +kernel
theorem dX10_guaranteed_59 : decode cX10_guaranteed 59 = .ok (.iconst 0, 1) := by decide +kernel
theorem dX10_guaranteed_60 : decode cX10_guaranteed 60 = .ok (.goto 22, 3) := by decide +kernel
theorem dX10_guaranteed_63 : decode cX10_guaranteed 63 = .ok (.bipush 9, 2) := by decide +kernel
theorem dX10_guaranteed_65 : decode cX10_guaranteed 65 = .ok (.iload_n 3, 1) := by decide +kernel
theorem dX10_guaranteed_66 : decode cX10_guaranteed 66 = .ok (.imul, 1) := by decide +kernel
theorem dX10_guaranteed_67 : decode cX10_guaranteed 67 = .ok (.bipush 11, 2) := by decide +kernel
theorem dX10_guaranteed_69 : decode cX10_guaranteed 69 = .ok (.iload_n 2, 1) := by decide +kernel
theorem dX10_guaranteed_70 : decode cX10_guaranteed 70 = .ok (.imul, 1) := by decide +kernel
theorem dX10_guaranteed_71 : decode cX10_guaranteed 71 = .ok (.bipush 6, 2) := by decide +kernel
theorem dX10_guaranteed_73 : decode cX10_guaranteed 73 = .ok (.iadd, 1) := by decide +kernel
theorem dX10_guaranteed_74 : decode cX10_guaranteed 74 = .ok (.if_icmp .gt 7, 3) := by decide +kernel
theorem dX10_guaranteed_77 : decode cX10_guaranteed 77 = .ok (.iconst 1, 1) := by decide +kernel
theorem dX10_guaranteed_78 : decode cX10_guaranteed 78 = .ok (.goto 4, 3) := by decide +kernel
theorem dX10_guaranteed_81 : decode cX10_guaranteed 81 = .ok (.iconst 0, 1) := by decide +kernel
theorem dX10_guaranteed_82 : decode cX10_guaranteed 82 = .ok (.istore 4, 2) := by decide +kernel
theorem dX10_guaranteed_84 : decode cX10_guaranteed 84 = .ok (.iload 4, 2) := by decide +kernel
theorem dX10_guaranteed_86 : decode cX10_guaranteed 86 = .ok (.ifCond .eq 7, 3) := by decide +kernel
theorem dX10_guaranteed_89 : decode cX10_guaranteed 89 = .ok (.iconst 1, 1) := by decide +kernel
theorem dX10_guaranteed_90 : decode cX10_guaranteed 90 = .ok (.goto 4, 3) := by decide +kernel
theorem dX10_guaranteed_93 : decode cX10_guaranteed 93 = .ok (.iconst 0, 1) := by decide +kernel
theorem dX10_guaranteed_94 : decode cX10_guaranteed 94 = .ok (.ireturn, 1) := by decide +kernel
theorem dX10_bound_0 : decode cX10_bound 0 = .ok (.aload_n 0, 1) := by decide +kernel
theorem dX10_bound_1 : decode cX10_bound 1 = .ok (.iconst 0, 1) := by decide +kernel
theorem dX10_bound_2 : decode cX10_bound 2 = .ok (.putfield 90, 3) := by decide +kernel
theorem dX10_bound_5 : decode cX10_bound 5 = .ok (.aload_n 0, 1) := by decide +kernel
theorem dX10_bound_6 : decode cX10_bound 6 = .ok (.iload_n 1, 1) := by decide +kernel
theorem dX10_bound_7 : decode cX10_bound 7 = .ok (.iconst 0, 1) := by decide +kernel
theorem dX10_bound_8 : decode cX10_bound 8 = .ok (.iconst 5, 1) := by decide +kernel
theorem dX10_bound_9 : decode cX10_bound 9 = .ok (.invokestatic 134, 3) := by decide +kernel
theorem dX10_bound_12 : decode cX10_bound 12 = .ok (.iconst 1, 1) := by decide +kernel
theorem dX10_bound_13 : decode cX10_bound 13 = .ok (.invokevirtual 166, 3) := by decide +kernel
theorem dX10_bound_16 : decode cX10_bound 16 = .ok (.ifCond .ne 5, 3) := by decide +kernel
theorem dX10_bound_19 : decode cX10_bound 19 = .ok (.iconst 0, 1) := by decide +kernel
theorem dX10_bound_20 : decode cX10_bound 20 = .ok (.ireturn, 1) := by decide +kernel
theorem dX10_bound_21 : decode cX10_bound 21 = .ok (.aload_n 0, 1) := by decide +kernel
theorem dX10_bound_22 : decode cX10_bound 22 = .ok (.invokevirtual 283, 3) := by decide +kernel
theorem dX10_bound_25 : decode cX10_bound 25 = .ok (.iload_n 1, 1) := by decide +kernel
theorem dX10_bound_26 : decode cX10_bound 26 = .ok (.ifCond .ne 13, 3) := by decide +kernel
theorem dX10_bound_29 : decode cX10_bound 29 = .ok (.aload_n 0, 1) := by decide +kernel
theorem dX10_bound_30 : decode cX10_bound 30 = .ok (.aload_n 0, 1) := by decide +kernel
theorem dX10_bound_31 : decode cX10_bound 31 = .ok (.getfield 41, 3) := by decide +kernel
theorem dX10_bound_34 : decode cX10_bound 34 = .ok (.iconst 0, 1) := by decide +kernel
theorem dX10_bound_35 : decode cX10_bound 35 = .ok (.invokevirtual 218, 3) := by decide +kernel
theorem dX10_bound_38 : decode cX10_bound 38 = .ok (.ireturn, 1) := by decide +kernel
theorem dX10_bound_39 : decode cX10_bound 39 = .ok (.iload_n 1, 1) := by decide +kernel
theorem dX10_bound_40 : decode cX10_bound 40 = .ok (.iconst 5, 1) := by decide +kernel
theorem dX10_bound_41 : decode cX10_bound 41 = .ok (.if_icmp .ne 13, 3) := by decide +kernel
theorem dX10_bound_44 : decode cX10_bound 44 = .ok (.aload_n 0, 1) := by decide +kernel
theorem dX10_bound_45 : decode cX10_bound 45 = .ok (.aload_n 0, 1) := by decide +kernel
theorem dX10_bound_46 : decode cX10_bound 46 = .ok (.getfield 41, 3) := by decide +kernel
theorem dX10_bound_49 : decode cX10_bound 49 = .ok (.iconst 0, 1) := by decide +kernel
theorem dX10_bound_50 : decode cX10_bound 50 = .ok (.invokevirtual 257, 3) := by decide +kernel
theorem dX10_bound_53 : decode cX10_bound 53 = .ok (.ireturn, 1) := by decide +kernel
theorem dX10_bound_54 : decode cX10_bound 54 = .ok (.iload_n 1, 1) := by decide +kernel
theorem dX10_bound_55 : decode cX10_bound 55 = .ok (.iconst 3, 1) := by decide +kernel
theorem dX10_bound_56 : decode cX10_bound 56 = .ok (.if_icmp .ge 15, 3) := by decide +kernel
theorem dX10_bound_59 : decode cX10_bound 59 = .ok (.aload_n 0, 1) := by decide +kernel
theorem dX10_bound_60 : decode cX10_bound 60 = .ok (.aload_n 0, 1) := by decide +kernel
theorem dX10_bound_61 : decode cX10_bound 61 = .ok (.getfield 41, 3) := by decide +kernel
theorem dX10_bound_64 : decode cX10_bound 64 = .ok (.iconst 0, 1) := by decide +kernel
theorem dX10_bound_65 : decode cX10_bound 65 = .ok (.invokevirtual 222, 3) := by decide +kernel
theorem dX10_bound_68 : decode cX10_bound 68 = .ok (.goto 12, 3) := by decide +kernel
theorem dX10_bound_71 : decode cX10_bound 71 = .ok (.aload_n 0, 1) := by decide +kernel
theorem dX10_bound_72 : decode cX10_bound 72 = .ok (.aload_n 0, 1) := by decide +kernel
theorem dX10_bound_73 : decode cX10_bound 73 = .ok (.getfield 41, 3) := by decide +kernel
theorem dX10_bound_76 : decode cX10_bound 76 = .ok (.iconst 0, 1) := by decide +kernel
theorem dX10_bound_77 : decode cX10_bound 77 = .ok (.invokevirtual 225, 3) := by decide +kernel
theorem dX10_bound_80 : decode cX10_bound 80 = .ok (.istore_n 2, 1) := by decide +kernel
theorem dX10_bound_81 : decode cX10_bound 81 = .ok (.iload_n 1, 1) := by decide +kernel
theorem dX10_bound_82 : decode cX10_bound 82 = .ok (.iconst 1, 1) := by decide +kernel
theorem dX10_bound_83 : decode cX10_bound 83 = .ok (.if_icmp .eq 8, 3) := by decide +kernel
theorem dX10_bound_86 : decode cX10_bound 86 = .ok (.iload_n 1, 1) := by decide +kernel
theorem dX10_bound_87 : decode cX10_bound 87 = .ok (.iconst 3, 1) := by decide +kernel
theorem dX10_bound_88 : decode cX10_bound 88 = .ok (.if_icmp .ne 7, 3) := by decide +kernel
theorem dX10_bound_91 : decode cX10_bound 91 = .ok (.iload_n 2, 1) := by decide +kernel
theorem dX10_bound_92 : decode cX10_bound 92 = .ok (.goto 7, 3) := by decide +kernel
theorem dX10_bound_95 : decode cX10_bound 95 = .ok (.aload_n 0, 1) := by decide +kernel
theorem dX10_bound_96 : decode cX10_bound 96 = .ok (.getfield 212, 3) := by decide +kernel
theorem dX10_bound_99 : decode cX10_bound 99 = .ok (.ireturn, 1) := by decide +kernel
theorem dX10_split_0 : decode cX10_split 0 = .ok (.aload_n 0, 1) := by decide +kernel
theorem dX10_split_1 : decode cX10_split 1 = .ok (.iconst 0, 1) := by decide +kernel
theorem dX10_split_2 : decode cX10_split 2 = .ok (.putfield 90, 3) := by decide +kernel
theorem dX10_split_5 : decode cX10_split 5 = .ok (.aload_n 0, 1) := by decide +kernel
theorem dX10_split_6 : decode cX10_split 6 = .ok (.iload_n 1, 1) := by decide +kernel
theorem dX10_split_7 : decode cX10_split 7 = .ok (.iconst 0, 1) := by decide +kernel
theorem dX10_split_8 : decode cX10_split 8 = .ok (.aload_n 0, 1) := by decide +kernel
theorem dX10_split_9 : decode cX10_split 9 = .ok (.getfield 25, 3) := by decide +kernel
theorem dX10_split_12 : decode cX10_split 12 = .ok (.iconst 2, 1) := by decide +kernel
theorem dX10_split_13 : decode cX10_split 13 = .ok (.idiv, 1) := by decide +kernel
theorem dX10_split_14 : decode cX10_split 14 = .ok (.invokestatic 134, 3) := by decide +kernel
theorem dX10_split_17 : decode cX10_split 17 = .ok (.iconst 1, 1) := by decide +kernel
theorem dX10_split_18 : decode cX10_split 18 = .ok (.invokevirtual 166, 3) := by decide +kernel
theorem dX10_split_21 : decode cX10_split 21 = .ok (.ifCond .ne 5, 3) := by decide +kernel
theorem dX10_split_24 : decode cX10_split 24 = .ok (.iconst 0, 1) := by decide +kernel
theorem dX10_split_25 : decode cX10_split 25 = .ok (.ireturn, 1) := by decide +kernel
theorem dX10_split_26 : decode cX10_split 26 = .ok (.aload_n 0, 1) := by decide +kernel
theorem dX10_split_27 : decode cX10_split 27 = .ok (.invokevirtual 283, 3) := by decide +kernel
theorem dX10_split_30 : decode cX10_split 30 = .ok (.aload_n 0, 1) := by decide +kernel
theorem dX10_split_31 : decode cX10_split 31 = .ok (.aload_n 0, 1) := by decide +kernel
theorem dX10_split_32 : decode cX10_split 32 = .ok (.getfield 41, 3) := by decide +kernel
theorem dX10_split_35 : decode cX10_split 35 = .ok (.iconst 0, 1) := by decide +kernel
theorem dX10_split_36 : decode cX10_split 36 = .ok (.iload_n 1, 1) := by decide +kernel
theorem dX10_split_37 : decode cX10_split 37 = .ok (.invokevirtual 208, 3) := by decide +kernel
theorem dX10_split_40 : decode cX10_split 40 = .ok (.ireturn, 1) := by decide +kernel
theorem dX10_step_0 : decode cX10_step 0 = .ok (.aload_n 0, 1) := by decide +kernel
theorem dX10_step_1 : decode cX10_step 1 = .ok (.iconst 0, 1) := by decide +kernel
theorem dX10_step_2 : decode cX10_step 2 = .ok (.putfield 90, 3) := by decide +kernel
theorem dX10_step_5 : decode cX10_step 5 = .ok (.aload_n 0, 1) := by decide +kernel
theorem dX10_step_6 : decode cX10_step 6 = .ok (.iload_n 1, 1) := by decide +kernel
theorem dX10_step_7 : decode cX10_step 7 = .ok (.iconst 1, 1) := by decide +kernel
theorem dX10_step_8 : decode cX10_step 8 = .ok (.bipush 20, 2) := by decide +kernel
theorem dX10_step_10 : decode cX10_step 10 = .ok (.invokestatic 134, 3) := by decide +kernel
theorem dX10_step_13 : decode cX10_step 13 = .ok (.iconst 1, 1) := by decide +kernel
theorem dX10_step_14 : decode cX10_step 14 = .ok (.invokevirtual 166, 3) := by decide +kernel
theorem dX10_step_17 : decode cX10_step 17 = .ok (.ifCond .ne 5, 3) := by decide +kernel
theorem dX10_step_20 : decode cX10_step 20 = .ok (.iconst 0, 1) := by decide +kernel
theorem dX10_step_21 : decode cX10_step 21 = .ok (.ireturn, 1) := by decide +kernel
theorem dX10_step_22 : decode cX10_step 22 = .ok (.aload_n 0, 1) := by decide +kernel
theorem dX10_step_23 : decode cX10_step 23 = .ok (.invokevirtual 283, 3) := by decide +kernel
theorem dX10_step_26 : decode cX10_step 26 = .ok (.aload_n 0, 1) := by decide +kernel
theorem dX10_step_27 : decode cX10_step 27 = .ok (.aload_n 0, 1) := by decide +kernel
theorem dX10_step_28 : decode cX10_step 28 = .ok (.getfield 41, 3) := by decide +kernel
theorem dX10_step_31 : decode cX10_step 31 = .ok (.iconst 0, 1) := by decide +kernel
theorem dX10_step_32 : decode cX10_step 32 = .ok (.iload_n 1, 1) := by decide +kernel
theorem dX10_step_33 : decode cX10_step 33 = .ok (.invokevirtual 215, 3) := by decide +kernel
theorem dX10_step_36 : decode cX10_step 36 = .ok (.ireturn, 1) := by decide +kernel
theorem dX10_patterns_0 : decode cX10_patterns 0 = .ok (.aload_n 0, 1) := by decide +kernel
theorem dX10_patterns_1 : decode cX10_patterns 1 = .ok (.iconst 0, 1) := by decide +kernel
theorem dX10_patterns_2 : decode cX10_patterns 2 = .ok (.putfield 90, 3) := by decide +kernel
theorem dX10_patterns_5 : decode cX10_patterns 5 = .ok (.aload_n 0, 1) := by decide +kernel
theorem dX10_patterns_6 : decode cX10_patterns 6 = .ok (.iload_n 1, 1) := by decide +kernel
theorem dX10_patterns_7 : decode cX10_patterns 7 = .ok (.iconst 0, 1) := by decide +kernel
theorem dX10_patterns_8 : decode cX10_patterns 8 = .ok (.iconst 2, 1) := by decide +kernel
theorem dX10_patterns_9 : decode cX10_patterns 9 = .ok (.invokestatic 134, 3) := by decide +kernel
theorem dX10_patterns_12 : decode cX10_patterns 12 = .ok (.iconst 1, 1) := by decide +kernel
theorem dX10_patterns_13 : decode cX10_patterns 13 = .ok (.invokevirtual 166, 3) := by decide +kernel
theorem dX10_patterns_16 : decode cX10_patterns 16 = .ok (.ifCond .ne 5, 3) := by decide +kernel
theorem dX10_patterns_19 : decode cX10_patterns 19 = .ok (.iconst 0, 1) := by decide +kernel
theorem dX10_patterns_20 : decode cX10_patterns 20 = .ok (.ireturn, 1) := by decide +kernel
theorem dX10_patterns_21 : decode cX10_patterns 21 = .ok (.aload_n 0, 1) := by decide +kernel
theorem dX10_patterns_22 : decode cX10_patterns 22 = .ok (.invokevirtual 283, 3) := by decide +kernel
theorem dX10_patterns_25 : decode cX10_patterns 25 = .ok (.iconst 0, 1) := by decide +kernel
theorem dX10_patterns_26 : decode cX10_patterns 26 = .ok (.istore_n 2, 1) := by decide +kernel
theorem dX10_patterns_27 : decode cX10_patterns 27 = .ok (.aload_n 0, 1) := by decide +kernel
theorem dX10_patterns_28 : decode cX10_patterns 28 = .ok (.aload_n 0, 1) := by decide +kernel
theorem dX10_patterns_29 : decode cX10_patterns 29 = .ok (.getfield 41, 3) := by decide +kernel
theorem dX10_patterns_32 : decode cX10_patterns 32 = .ok (.iconst 0, 1) := by decide +kernel
theorem dX10_patterns_33 : decode cX10_patterns 33 = .ok (.aload_n 0, 1) := by decide +kernel
theorem dX10_patterns_34 : decode cX10_patterns 34 = .ok (.getfield 187, 3) := by decide +kernel
theorem dX10_patterns_37 : decode cX10_patterns 37 = .ok (.invokevirtual 267, 3) := by decide +kernel
theorem dX10_patterns_40 : decode cX10_patterns 40 = .ok (.iconst 1, 1) := by decide +kernel
theorem dX10_patterns_41 : decode cX10_patterns 41 = .ok (.istore_n 3, 1) := by decide +kernel
theorem dX10_patterns_42 : decode cX10_patterns 42 = .ok (.iload_n 3, 1) := by decide +kernel
theorem dX10_patterns_43 : decode cX10_patterns 43 = .ok (.ifCond .eq 77, 3) := by decide +kernel
theorem dX10_patterns_46 : decode cX10_patterns 46 = .ok (.iload_n 1, 1) := by decide +kernel
theorem dX10_patterns_47 : decode cX10_patterns 47 = .ok (.ifCond .eq 36, 3) := by decide +kernel
theorem dX10_patterns_50 : decode cX10_patterns 50 = .ok (.aload_n 0, 1) := by decide +kernel
theorem dX10_patterns_51 : decode cX10_patterns 51 = .ok (.aload_n 0, 1) := by decide +kernel
theorem dX10_patterns_52 : decode cX10_patterns 52 = .ok (.getfield 41, 3) := by decide +kernel
theorem dX10_patterns_55 : decode cX10_patterns 55 = .ok (.iconst 0, 1) := by decide +kernel
theorem dX10_patterns_56 : decode cX10_patterns 56 = .ok (.aload_n 0, 1) := by decide +kernel
theorem dX10_patterns_57 : decode cX10_patterns 57 = .ok (.getfield 187, 3) := by decide +kernel
theorem dX10_patterns_60 : decode cX10_patterns 60 = .ok (.invokevirtual 271, 3) := by decide +kernel
theorem dX10_patterns_63 : decode cX10_patterns 63 = .ok (.ifCond .eq 24, 3) := by decide +kernel
theorem dX10_patterns_66 : decode cX10_patterns 66 = .ok (.iload_n 1, 1) := by decide +kernel
theorem dX10_patterns_67 : decode cX10_patterns 67 = .ok (.iconst 1, 1) := by decide +kernel
theorem dX10_patterns_68 : decode cX10_patterns 68 = .ok (.if_icmp .eq 15, 3) := by decide +kernel
theorem dX10_patterns_71 : decode cX10_patterns 71 = .ok (.aload_n 0, 1) := by decide +kernel
theorem dX10_patterns_72 : decode cX10_patterns 72 = .ok (.iconst 0, 1) := by decide +kernel
theorem dX10_patterns_73 : decode cX10_patterns 73 = .ok (.invokevirtual 231, 3) := by decide +kernel
theorem dX10_patterns_76 : decode cX10_patterns 76 = .ok (.aload_n 0, 1) := by decide +kernel
theorem dX10_patterns_77 : decode cX10_patterns 77 = .ok (.getfield 187, 3) := by decide +kernel
theorem dX10_patterns_80 : decode cX10_patterns 80 = .ok (.if_icmp .ne 7, 3) := by decide +kernel
theorem dX10_patterns_83 : decode cX10_patterns 83 = .ok (.iconst 1, 1) := by decide +kernel
theorem dX10_patterns_84 : decode cX10_patterns 84 = .ok (.goto 4, 3) := by decide +kernel
theorem dX10_patterns_87 : decode cX10_patterns 87 = .ok (.iconst 0, 1) := by decide +kernel
theorem dX10_patterns_88 : decode cX10_patterns 88 = .ok (.istore 4, 2) := by decide +kernel
theorem dX10_patterns_90 : decode cX10_patterns 90 = .ok (.iload_n 2, 1) := by decide +kernel
theorem dX10_patterns_91 : decode cX10_patterns 91 = .ok (.iload 4, 2) := by decide +kernel
theorem dX10_patterns_93 : decode cX10_patterns 93 = .ok (.ifCond .eq 7, 3) := by decide +kernel
theorem dX10_patterns_96 : decode cX10_patterns 96 = .ok (.iconst 1, 1) := by decide +kernel
theorem dX10_patterns_97 : decode cX10_patterns 97 = .ok (.goto 4, 3) := by decide +kernel
theorem dX10_patterns_100 : decode cX10_patterns 100 = .ok (.iconst 0, 1) := by decide +kernel
theorem dX10_patterns_101 : decode cX10_patterns 101 = .ok (.iadd, 1) := by decide +kernel
theorem dX10_patterns_102 : decode cX10_patterns 102 = .ok (.istore_n 2, 1) := by decide +kernel
theorem dX10_patterns_103 : decode cX10_patterns 103 = .ok (.aload_n 0, 1) := by decide +kernel
theorem dX10_patterns_104 : decode cX10_patterns 104 = .ok (.aload_n 0, 1) := by decide +kernel
theorem dX10_patterns_105 : decode cX10_patterns 105 = .ok (.getfield 41, 3) := by decide +kernel
theorem dX10_patterns_108 : decode cX10_patterns 108 = .ok (.iconst 0, 1) := by decide +kernel
theorem dX10_patterns_109 : decode cX10_patterns 109 = .ok (.aload_n 0, 1) := by decide +kernel
theorem dX10_patterns_110 : decode cX10_patterns 110 = .ok (.getfield 187, 3) := by decide +kernel
theorem dX10_patterns_113 : decode cX10_patterns 113 = .ok (.invokevirtual 263, 3) := by decide +kernel
theorem dX10_patterns_116 : decode cX10_patterns 116 = .ok (.istore_n 3, 1) := by decide +kernel
theorem dX10_patterns_117 : decode cX10_patterns 117 = .ok (.goto (-75), 3) := by decide +kernel
theorem dX10_patterns_120 : decode cX10_patterns 120 = .ok (.iload_n 2, 1) := by decide +kernel
theorem dX10_patterns_121 : decode cX10_patterns 121 = .ok (.ireturn, 1) := by decide +kernel
theorem dX10_pattern_0 : decode cX10_pattern 0 = .ok (.aload_n 0, 1) := by decide +kernel
theorem dX10_pattern_1 : decode cX10_pattern 1 = .ok (.iconst 0, 1) := by decide +kernel
theorem dX10_pattern_2 : decode cX10_pattern 2 = .ok (.putfield 90, 3) := by decide +kernel
theorem dX10_pattern_5 : decode cX10_pattern 5 = .ok (.aload_n 0, 1) := by decide +kernel
theorem dX10_pattern_6 : decode cX10_pattern 6 = .ok (.iload_n 1, 1) := by decide +kernel
theorem dX10_pattern_7 : decode cX10_pattern 7 = .ok (.ifCond .lt 7, 3) := by decide +kernel
theorem dX10_pattern_10 : decode cX10_pattern 10 = .ok (.iconst 1, 1) := by decide +kernel
theorem dX10_pattern_11 : decode cX10_pattern 11 = .ok (.goto 4, 3) := by decide +kernel
theorem dX10_pattern_14 : decode cX10_pattern 14 = .ok (.iconst 0, 1) := by decide +kernel
theorem dX10_pattern_15 : decode cX10_pattern 15 = .ok (.iconst 1, 1) := by decide +kernel
theorem dX10_pattern_16 : decode cX10_pattern 16 = .ok (.invokevirtual 166, 3) := by decide +kernel
theorem dX10_pattern_19 : decode cX10_pattern 19 = .ok (.ifCond .eq 16, 3) := by decide +kernel
theorem dX10_pattern_22 : decode cX10_pattern 22 = .ok (.iload_n 2, 1) := by decide +kernel
theorem dX10_pattern_23 : decode cX10_pattern 23 = .ok (.iconst (-1), 1) := by decide +kernel
theorem dX10_pattern_24 : decode cX10_pattern 24 = .ok (.if_icmp .eq 13, 3) := by decide +kernel
theorem dX10_pattern_27 : decode cX10_pattern 27 = .ok (.aload_n 0, 1) := by decide +kernel
theorem dX10_pattern_28 : decode cX10_pattern 28 = .ok (.iload_n 2, 1) := by decide +kernel
theorem dX10_pattern_29 : decode cX10_pattern 29 = .ok (.invokevirtual 323, 3) := by decide +kernel
theorem dX10_pattern_32 : decode cX10_pattern 32 = .ok (.ifCond .ne 5, 3) := by decide +kernel
theorem dX10_pattern_35 : decode cX10_pattern 35 = .ok (.iconst 0, 1) := by decide +kernel
theorem dX10_pattern_36 : decode cX10_pattern 36 = .ok (.ireturn, 1) := by decide +kernel
theorem dX10_pattern_37 : decode cX10_pattern 37 = .ok (.aload_n 0, 1) := by decide +kernel
theorem dX10_pattern_38 : decode cX10_pattern 38 = .ok (.invokevirtual 283, 3) := by decide +kernel
theorem dX10_pattern_41 : decode cX10_pattern 41 = .ok (.iconst 0, 1) := by decide +kernel
theorem dX10_pattern_42 : decode cX10_pattern 42 = .ok (.istore_n 3, 1) := by decide +kernel
theorem dX10_pattern_43 : decode cX10_pattern 43 = .ok (.aload_n 0, 1) := by decide +kernel
theorem dX10_pattern_44 : decode cX10_pattern 44 = .ok (.aload_n 0, 1) := by decide +kernel
theorem dX10_pattern_45 : decode cX10_pattern 45 = .ok (.getfield 41, 3) := by decide +kernel
theorem dX10_pattern_48 : decode cX10_pattern 48 = .ok (.iconst 0, 1) := by decide +kernel
theorem dX10_pattern_49 : decode cX10_pattern 49 = .ok (.aload_n 0, 1) := by decide +kernel
theorem dX10_pattern_50 : decode cX10_pattern 50 = .ok (.getfield 187, 3) := by decide +kernel
theorem dX10_pattern_53 : decode cX10_pattern 53 = .ok (.invokevirtual 267, 3) := by decide +kernel
theorem dX10_pattern_56 : decode cX10_pattern 56 = .ok (.iconst 1, 1) := by decide +kernel
theorem dX10_pattern_57 : decode cX10_pattern 57 = .ok (.istore 4, 2) := by decide +kernel
theorem dX10_pattern_59 : decode cX10_pattern 59 = .ok (.iload 4, 2) := by decide +kernel
theorem dX10_pattern_61 : decode cX10_pattern 61 = .ok (.ifCond .eq 79, 3) := by decide +kernel
theorem dX10_pattern_64 : decode cX10_pattern 64 = .ok (.aload_n 0, 1) := by decide +kernel
theorem dX10_pattern_65 : decode cX10_pattern 65 = .ok (.aload_n 0, 1) := by decide +kernel
theorem dX10_pattern_66 : decode cX10_pattern 66 = .ok (.getfield 41, 3) := by decide +kernel
theorem dX10_pattern_69 : decode cX10_pattern 69 = .ok (.iconst 0, 1) := by decide +kernel
theorem dX10_pattern_70 : decode cX10_pattern 70 = .ok (.aload_n 0, 1) := by decide +kernel
theorem dX10_pattern_71 : decode cX10_pattern 71 = .ok (.getfield 187, 3) := by decide +kernel
theorem dX10_pattern_74 : decode cX10_pattern 74 = .ok (.invokevirtual 271, 3) := by decide +kernel
theorem dX10_pattern_77 : decode cX10_pattern 77 = .ok (.istore 5, 2) := by decide +kernel
theorem dX10_pattern_79 : decode cX10_pattern 79 = .ok (.iload 5, 2) := by decide +kernel
theorem dX10_pattern_81 : decode cX10_pattern 81 = .ok (.ifCond .eq 28, 3) := by decide +kernel
theorem dX10_pattern_84 : decode cX10_pattern 84 = .ok (.iload_n 3, 1) := by decide +kernel
theorem dX10_pattern_85 : decode cX10_pattern 85 = .ok (.iload_n 1, 1) := by decide +kernel
theorem dX10_pattern_86 : decode cX10_pattern 86 = .ok (.if_icmp .ne 23, 3) := by decide +kernel
theorem dX10_pattern_89 : decode cX10_pattern 89 = .ok (.iload_n 2, 1) := by decide +kernel
theorem dX10_pattern_90 : decode cX10_pattern 90 = .ok (.iconst (-1), 1) := by decide +kernel
theorem dX10_pattern_91 : decode cX10_pattern 91 = .ok (.if_icmp .ne 11, 3) := by decide +kernel
theorem dX10_pattern_94 : decode cX10_pattern 94 = .ok (.aload_n 0, 1) := by decide +kernel
theorem dX10_pattern_95 : decode cX10_pattern 95 = .ok (.iconst 0, 1) := by decide +kernel
theorem dX10_pattern_96 : decode cX10_pattern 96 = .ok (.invokevirtual 231, 3) := by decide +kernel
theorem dX10_pattern_99 : decode cX10_pattern 99 = .ok (.goto 9, 3) := by decide +kernel
theorem dX10_pattern_102 : decode cX10_pattern 102 = .ok (.aload_n 0, 1) := by decide +kernel
theorem dX10_pattern_103 : decode cX10_pattern 103 = .ok (.getfield 62, 3) := by decide +kernel
theorem dX10_pattern_106 : decode cX10_pattern 106 = .ok (.iload_n 2, 1) := by decide +kernel
theorem dX10_pattern_107 : decode cX10_pattern 107 = .ok (.iaload, 1) := by decide +kernel
theorem dX10_pattern_108 : decode cX10_pattern 108 = .ok (.ireturn, 1) := by decide +kernel
theorem dX10_pattern_109 : decode cX10_pattern 109 = .ok (.iload_n 3, 1) := by decide +kernel
theorem dX10_pattern_110 : decode cX10_pattern 110 = .ok (.iload 5, 2) := by decide +kernel
theorem dX10_pattern_112 : decode cX10_pattern 112 = .ok (.ifCond .eq 7, 3) := by decide +kernel
theorem dX10_pattern_115 : decode cX10_pattern 115 = .ok (.iconst 1, 1) := by decide +kernel
theorem dX10_pattern_116 : decode cX10_pattern 116 = .ok (.goto 4, 3) := by decide +kernel
theorem dX10_pattern_119 : decode cX10_pattern 119 = .ok (.iconst 0, 1) := by decide +kernel
theorem dX10_pattern_120 : decode cX10_pattern 120 = .ok (.iadd, 1) := by decide +kernel
theorem dX10_pattern_121 : decode cX10_pattern 121 = .ok (.istore_n 3, 1) := by decide +kernel
theorem dX10_pattern_122 : decode cX10_pattern 122 = .ok (.aload_n 0, 1) := by decide +kernel
theorem dX10_pattern_123 : decode cX10_pattern 123 = .ok (.aload_n 0, 1) := by decide +kernel
theorem dX10_pattern_124 : decode cX10_pattern 124 = .ok (.getfield 41, 3) := by decide +kernel
theorem dX10_pattern_127 : decode cX10_pattern 127 = .ok (.iconst 0, 1) := by decide +kernel
theorem dX10_pattern_128 : decode cX10_pattern 128 = .ok (.aload_n 0, 1) := by decide +kernel
theorem dX10_pattern_129 : decode cX10_pattern 129 = .ok (.getfield 187, 3) := by decide +kernel
theorem dX10_pattern_132 : decode cX10_pattern 132 = .ok (.invokevirtual 263, 3) := by decide +kernel
theorem dX10_pattern_135 : decode cX10_pattern 135 = .ok (.istore 4, 2) := by decide +kernel
theorem dX10_pattern_137 : decode cX10_pattern 137 = .ok (.goto (-78), 3) := by decide +kernel
theorem dX10_pattern_140 : decode cX10_pattern 140 = .ok (.aload_n 0, 1) := by decide +kernel
theorem dX10_pattern_141 : decode cX10_pattern 141 = .ok (.iconst 1, 1) := by decide +kernel
theorem dX10_pattern_142 : decode cX10_pattern 142 = .ok (.putfield 90, 3) := by decide +kernel
theorem dX10_pattern_145 : decode cX10_pattern 145 = .ok (.iconst 0, 1) := by decide +kernel
theorem dX10_pattern_146 : decode cX10_pattern 146 = .ok (.ireturn, 1) := by decide +kernel
theorem dX10_tree_0 : decode cX10_tree 0 = .ok (.aload_n 0, 1) := by decide +kernel
theorem dX10_tree_1 : decode cX10_tree 1 = .ok (.iconst 0, 1) := by decide +kernel
theorem dX10_tree_2 : decode cX10_tree 2 = .ok (.putfield 90, 3) := by decide +kernel
theorem dX10_tree_5 : decode cX10_tree 5 = .ok (.aload_n 0, 1) := by decide +kernel
theorem dX10_tree_6 : decode cX10_tree 6 = .ok (.iload_n 1, 1) := by decide +kernel
theorem dX10_tree_7 : decode cX10_tree 7 = .ok (.iconst 0, 1) := by decide +kernel
theorem dX10_tree_8 : decode cX10_tree 8 = .ok (.iconst 5, 1) := by decide +kernel
theorem dX10_tree_9 : decode cX10_tree 9 = .ok (.invokestatic 134, 3) := by decide +kernel
theorem dX10_tree_12 : decode cX10_tree 12 = .ok (.iconst 1, 1) := by decide +kernel
theorem dX10_tree_13 : decode cX10_tree 13 = .ok (.invokevirtual 166, 3) := by decide +kernel
theorem dX10_tree_16 : decode cX10_tree 16 = .ok (.ifCond .ne 5, 3) := by decide +kernel
theorem dX10_tree_19 : decode cX10_tree 19 = .ok (.iconst 0, 1) := by decide +kernel
theorem dX10_tree_20 : decode cX10_tree 20 = .ok (.ireturn, 1) := by decide +kernel
theorem dX10_tree_21 : decode cX10_tree 21 = .ok (.aload_n 0, 1) := by decide +kernel
theorem dX10_tree_22 : decode cX10_tree 22 = .ok (.invokevirtual 308, 3) := by decide +kernel
theorem dX10_tree_25 : decode cX10_tree 25 = .ok (.istore_n 2, 1) := by decide +kernel
theorem dX10_tree_26 : decode cX10_tree 26 = .ok (.iload_n 1, 1) := by decide +kernel
theorem dX10_tree_27 : decode cX10_tree 27 = .ok (.tableswitch 63 0 4 #[33, 35, 48, 53, 58], 33) := by decide +kernel
theorem dX10_tree_60 : decode cX10_tree 60 = .ok (.iload_n 2, 1) := by decide +kernel
theorem dX10_tree_61 : decode cX10_tree 61 = .ok (.ireturn, 1) := by decide +kernel
theorem dX10_tree_62 : decode cX10_tree 62 = .ok (.aload_n 0, 1) := by decide +kernel
theorem dX10_tree_63 : decode cX10_tree 63 = .ok (.getfield 241, 3) := by decide +kernel
theorem dX10_tree_66 : decode cX10_tree 66 = .ok (.ifCond .eq 7, 3) := by decide +kernel
theorem dX10_tree_69 : decode cX10_tree 69 = .ok (.iconst 0, 1) := by decide +kernel
theorem dX10_tree_70 : decode cX10_tree 70 = .ok (.goto 4, 3) := by decide +kernel
theorem dX10_tree_73 : decode cX10_tree 73 = .ok (.iconst 1, 1) := by decide +kernel
theorem dX10_tree_74 : decode cX10_tree 74 = .ok (.ireturn, 1) := by decide +kernel
theorem dX10_tree_75 : decode cX10_tree 75 = .ok (.aload_n 0, 1) := by decide +kernel
theorem dX10_tree_76 : decode cX10_tree 76 = .ok (.getfield 238, 3) := by decide +kernel
theorem dX10_tree_79 : decode cX10_tree 79 = .ok (.ireturn, 1) := by decide +kernel
theorem dX10_tree_80 : decode cX10_tree 80 = .ok (.aload_n 0, 1) := by decide +kernel
theorem dX10_tree_81 : decode cX10_tree 81 = .ok (.getfield 260, 3) := by decide +kernel
theorem dX10_tree_84 : decode cX10_tree 84 = .ok (.ireturn, 1) := by decide +kernel
theorem dX10_tree_85 : decode cX10_tree 85 = .ok (.aload_n 0, 1) := by decide +kernel
theorem dX10_tree_86 : decode cX10_tree 86 = .ok (.getfield 254, 3) := by decide +kernel
theorem dX10_tree_89 : decode cX10_tree 89 = .ok (.ireturn, 1) := by decide +kernel
theorem dX10_tree_90 : decode cX10_tree 90 = .ok (.aload_n 0, 1) := by decide +kernel
theorem dX10_tree_91 : decode cX10_tree 91 = .ok (.getfield 245, 3) := by decide +kernel
theorem dX10_tree_94 : decode cX10_tree 94 = .ok (.ireturn, 1) := by decide +kernel
theorem dX10_best_0 : decode cX10_best 0 = .ok (.aload_n 0, 1) := by decide +kernel
theorem dX10_best_1 : decode cX10_best 1 = .ok (.iconst 0, 1) := by decide +kernel
theorem dX10_best_2 : decode cX10_best 2 = .ok (.putfield 90, 3) := by decide +kernel
theorem dX10_best_5 : decode cX10_best 5 = .ok (.aload_n 0, 1) := by decide +kernel
theorem dX10_best_6 : decode cX10_best 6 = .ok (.iload_n 2, 1) := by decide +kernel
theorem dX10_best_7 : decode cX10_best 7 = .ok (.invokevirtual 323, 3) := by decide +kernel
theorem dX10_best_10 : decode cX10_best 10 = .ok (.ifCond .ne 5, 3) := by decide +kernel
theorem dX10_best_13 : decode cX10_best 13 = .ok (.iconst 0, 1) := by decide +kernel
theorem dX10_best_14 : decode cX10_best 14 = .ok (.ireturn, 1) := by decide +kernel
theorem dX10_best_15 : decode cX10_best 15 = .ok (.aload_n 0, 1) := by decide +kernel
theorem dX10_best_16 : decode cX10_best 16 = .ok (.iload_n 1, 1) := by decide +kernel
theorem dX10_best_17 : decode cX10_best 17 = .ok (.iconst 0, 1) := by decide +kernel
theorem dX10_best_18 : decode cX10_best 18 = .ok (.aload_n 0, 1) := by decide +kernel
theorem dX10_best_19 : decode cX10_best 19 = .ok (.invokevirtual 308, 3) := by decide +kernel
theorem dX10_best_22 : decode cX10_best 22 = .ok (.iconst 1, 1) := by decide +kernel
theorem dX10_best_23 : decode cX10_best 23 = .ok (.isub, 1) := by decide +kernel
theorem dX10_best_24 : decode cX10_best 24 = .ok (.invokestatic 134, 3) := by decide +kernel
theorem dX10_best_27 : decode cX10_best 27 = .ok (.iconst 1, 1) := by decide +kernel
theorem dX10_best_28 : decode cX10_best 28 = .ok (.invokevirtual 166, 3) := by decide +kernel
theorem dX10_best_31 : decode cX10_best 31 = .ok (.ifCond .eq 17, 3) := by decide +kernel
theorem dX10_best_34 : decode cX10_best 34 = .ok (.aload_n 0, 1) := by decide +kernel
theorem dX10_best_35 : decode cX10_best 35 = .ok (.getfield 65, 3) := by decide +kernel
theorem dX10_best_38 : decode cX10_best 38 = .ok (.bipush 6, 2) := by decide +kernel
theorem dX10_best_40 : decode cX10_best 40 = .ok (.iload_n 1, 1) := by decide +kernel
theorem dX10_best_41 : decode cX10_best 41 = .ok (.imul, 1) := by decide +kernel
theorem dX10_best_42 : decode cX10_best 42 = .ok (.iload_n 2, 1) := by decide +kernel
theorem dX10_best_43 : decode cX10_best 43 = .ok (.iadd, 1) := by decide +kernel
theorem dX10_best_44 : decode cX10_best 44 = .ok (.iaload, 1) := by decide +kernel
theorem dX10_best_45 : decode cX10_best 45 = .ok (.goto 4, 3) := by decide +kernel
theorem dX10_best_48 : decode cX10_best 48 = .ok (.iconst 0, 1) := by decide +kernel
theorem dX10_best_49 : decode cX10_best 49 = .ok (.ireturn, 1) := by decide +kernel
theorem dX10_net_0 : decode cX10_net 0 = .ok (.aload_n 0, 1) := by decide +kernel
theorem dX10_net_1 : decode cX10_net 1 = .ok (.iconst 0, 1) := by decide +kernel
theorem dX10_net_2 : decode cX10_net 2 = .ok (.putfield 90, 3) := by decide +kernel
theorem dX10_net_5 : decode cX10_net 5 = .ok (.aload_n 0, 1) := by decide +kernel
theorem dX10_net_6 : decode cX10_net 6 = .ok (.iload_n 1, 1) := by decide +kernel
theorem dX10_net_7 : decode cX10_net 7 = .ok (.iconst 0, 1) := by decide +kernel
theorem dX10_net_8 : decode cX10_net 8 = .ok (.iconst 5, 1) := by decide +kernel
theorem dX10_net_9 : decode cX10_net 9 = .ok (.invokestatic 134, 3) := by decide +kernel
theorem dX10_net_12 : decode cX10_net 12 = .ok (.iconst 1, 1) := by decide +kernel
theorem dX10_net_13 : decode cX10_net 13 = .ok (.invokevirtual 166, 3) := by decide +kernel
theorem dX10_net_16 : decode cX10_net 16 = .ok (.ifCond .ne 5, 3) := by decide +kernel
theorem dX10_net_19 : decode cX10_net 19 = .ok (.iconst 0, 1) := by decide +kernel
theorem dX10_net_20 : decode cX10_net 20 = .ok (.ireturn, 1) := by decide +kernel
theorem dX10_net_21 : decode cX10_net 21 = .ok (.aload_n 0, 1) := by decide +kernel
theorem dX10_net_22 : decode cX10_net 22 = .ok (.invokevirtual 338, 3) := by decide +kernel
theorem dX10_net_25 : decode cX10_net 25 = .ok (.iload_n 1, 1) := by decide +kernel
theorem dX10_net_26 : decode cX10_net 26 = .ok (.tableswitch 69 0 4 #[34, 49, 64, 34, 49], 34) := by decide +kernel
theorem dX10_net_60 : decode cX10_net 60 = .ok (.aload_n 0, 1) := by decide +kernel
theorem dX10_net_61 : decode cX10_net 61 = .ok (.iload_n 1, 1) := by decide +kernel
theorem dX10_net_62 : decode cX10_net 62 = .ok (.iconst 3, 1) := by decide +kernel
theorem dX10_net_63 : decode cX10_net 63 = .ok (.if_icmp .ne 7, 3) := by decide +kernel
theorem dX10_net_66 : decode cX10_net 66 = .ok (.iconst 1, 1) := by decide +kernel
theorem dX10_net_67 : decode cX10_net 67 = .ok (.goto 4, 3) := by decide +kernel
theorem dX10_net_70 : decode cX10_net 70 = .ok (.iconst 0, 1) := by decide +kernel
theorem dX10_net_71 : decode cX10_net 71 = .ok (.invokevirtual 341, 3) := by decide +kernel
theorem dX10_net_74 : decode cX10_net 74 = .ok (.ireturn, 1) := by decide +kernel
theorem dX10_net_75 : decode cX10_net 75 = .ok (.aload_n 0, 1) := by decide +kernel
theorem dX10_net_76 : decode cX10_net 76 = .ok (.iload_n 1, 1) := by decide +kernel
theorem dX10_net_77 : decode cX10_net 77 = .ok (.iconst 4, 1) := by decide +kernel
theorem dX10_net_78 : decode cX10_net 78 = .ok (.if_icmp .ne 7, 3) := by decide +kernel
theorem dX10_net_81 : decode cX10_net 81 = .ok (.iconst 1, 1) := by decide +kernel
theorem dX10_net_82 : decode cX10_net 82 = .ok (.goto 4, 3) := by decide +kernel
theorem dX10_net_85 : decode cX10_net 85 = .ok (.iconst 0, 1) := by decide +kernel
theorem dX10_net_86 : decode cX10_net 86 = .ok (.invokevirtual 345, 3) := by decide +kernel
theorem dX10_net_89 : decode cX10_net 89 = .ok (.ireturn, 1) := by decide +kernel
theorem dX10_net_90 : decode cX10_net 90 = .ok (.aload_n 0, 1) := by decide +kernel
theorem dX10_net_91 : decode cX10_net 91 = .ok (.invokevirtual 348, 3) := by decide +kernel
theorem dX10_net_94 : decode cX10_net 94 = .ok (.ireturn, 1) := by decide +kernel
theorem dX10_net_95 : decode cX10_net 95 = .ok (.aload_n 0, 1) := by decide +kernel
theorem dX10_net_96 : decode cX10_net 96 = .ok (.invokevirtual 351, 3) := by decide +kernel
theorem dX10_net_99 : decode cX10_net 99 = .ok (.ireturn, 1) := by decide +kernel
theorem dX10_high_0 : decode cX10_high 0 = .ok (.aload_n 0, 1) := by decide +kernel
theorem dX10_high_1 : decode cX10_high 1 = .ok (.iconst 0, 1) := by decide +kernel
theorem dX10_high_2 : decode cX10_high 2 = .ok (.putfield 90, 3) := by decide +kernel
theorem dX10_high_5 : decode cX10_high 5 = .ok (.aload_n 0, 1) := by decide +kernel
theorem dX10_high_6 : decode cX10_high 6 = .ok (.invokevirtual 338, 3) := by decide +kernel
theorem dX10_high_9 : decode cX10_high 9 = .ok (.aload_n 0, 1) := by decide +kernel
theorem dX10_high_10 : decode cX10_high 10 = .ok (.iload_n 1, 1) := by decide +kernel
theorem dX10_high_11 : decode cX10_high 11 = .ok (.iconst 0, 1) := by decide +kernel
theorem dX10_high_12 : decode cX10_high 12 = .ok (.aload_n 0, 1) := by decide +kernel
theorem dX10_high_13 : decode cX10_high 13 = .ok (.getfield 289, 3) := by decide +kernel
theorem dX10_high_16 : decode cX10_high 16 = .ok (.invokestatic 134, 3) := by decide +kernel
theorem dX10_high_19 : decode cX10_high 19 = .ok (.ifCond .eq 28, 3) := by decide +kernel
theorem dX10_high_22 : decode cX10_high 22 = .ok (.iload_n 2, 1) := by decide +kernel
theorem dX10_high_23 : decode cX10_high 23 = .ok (.iconst 0, 1) := by decide +kernel
theorem dX10_high_24 : decode cX10_high 24 = .ok (.aload_n 0, 1) := by decide +kernel
theorem dX10_high_25 : decode cX10_high 25 = .ok (.getfield 187, 3) := by decide +kernel
theorem dX10_high_28 : decode cX10_high 28 = .ok (.invokestatic 134, 3) := by decide +kernel
theorem dX10_high_31 : decode cX10_high 31 = .ok (.ifCond .eq 16, 3) := by decide +kernel
theorem dX10_high_34 : decode cX10_high 34 = .ok (.aload_n 0, 1) := by decide +kernel
theorem dX10_high_35 : decode cX10_high 35 = .ok (.iload_n 1, 1) := by decide +kernel
theorem dX10_high_36 : decode cX10_high 36 = .ok (.iload_n 2, 1) := by decide +kernel
theorem dX10_high_37 : decode cX10_high 37 = .ok (.invokevirtual 292, 3) := by decide +kernel
theorem dX10_high_40 : decode cX10_high 40 = .ok (.ifCond .eq 7, 3) := by decide +kernel
theorem dX10_high_43 : decode cX10_high 43 = .ok (.iconst 1, 1) := by decide +kernel
theorem dX10_high_44 : decode cX10_high 44 = .ok (.goto 4, 3) := by decide +kernel
theorem dX10_high_47 : decode cX10_high 47 = .ok (.iconst 0, 1) := by decide +kernel
theorem dX10_high_48 : decode cX10_high 48 = .ok (.iconst 1, 1) := by decide +kernel
theorem dX10_high_49 : decode cX10_high 49 = .ok (.invokevirtual 166, 3) := by decide +kernel
theorem dX10_high_52 : decode cX10_high 52 = .ok (.ifCond .eq 17, 3) := by decide +kernel
theorem dX10_high_55 : decode cX10_high 55 = .ok (.aload_n 0, 1) := by decide +kernel
theorem dX10_high_56 : decode cX10_high 56 = .ok (.getfield 78, 3) := by decide +kernel
theorem dX10_high_59 : decode cX10_high 59 = .ok (.bipush 100, 2) := by decide +kernel
theorem dX10_high_61 : decode cX10_high 61 = .ok (.iload_n 1, 1) := by decide +kernel
theorem dX10_high_62 : decode cX10_high 62 = .ok (.imul, 1) := by decide +kernel
theorem dX10_high_63 : decode cX10_high 63 = .ok (.iload_n 2, 1) := by decide +kernel
theorem dX10_high_64 : decode cX10_high 64 = .ok (.iadd, 1) := by decide +kernel
theorem dX10_high_65 : decode cX10_high 65 = .ok (.iaload, 1) := by decide +kernel
theorem dX10_high_66 : decode cX10_high 66 = .ok (.goto 4, 3) := by decide +kernel
theorem dX10_high_69 : decode cX10_high 69 = .ok (.iconst 0, 1) := by decide +kernel
theorem dX10_high_70 : decode cX10_high 70 = .ok (.ireturn, 1) := by decide +kernel
theorem dX10_keptAt_0 : decode cX10_keptAt 0 = .ok (.bipush 80, 2) := by decide +kernel
theorem dX10_keptAt_2 : decode cX10_keptAt 2 = .ok (.bipush 80, 2) := by decide +kernel
theorem dX10_keptAt_4 : decode cX10_keptAt 4 = .ok (.iload_n 0, 1) := by decide +kernel
theorem dX10_keptAt_5 : decode cX10_keptAt 5 = .ok (.iload_n 1, 1) := by decide +kernel
theorem dX10_keptAt_6 : decode cX10_keptAt 6 = .ok (.iadd, 1) := by decide +kernel
theorem dX10_keptAt_7 : decode cX10_keptAt 7 = .ok (.bipush 40, 2) := by decide +kernel
theorem dX10_keptAt_9 : decode cX10_keptAt 9 = .ok (.irem, 1) := by decide +kernel
theorem dX10_keptAt_10 : decode cX10_keptAt 10 = .ok (.imul, 1) := by decide +kernel
theorem dX10_keptAt_11 : decode cX10_keptAt 11 = .ok (.iadd, 1) := by decide +kernel
theorem dX10_keptAt_12 : decode cX10_keptAt 12 = .ok (.ireturn, 1) := by decide +kernel
theorem dX10_refuses_0 : decode cX10_refuses 0 = .ok (.aload_n 0, 1) := by decide +kernel
theorem dX10_refuses_1 : decode cX10_refuses 1 = .ok (.getfield 22, 3) := by decide +kernel
theorem dX10_refuses_4 : decode cX10_refuses 4 = .ok (.iload_n 1, 1) := by decide +kernel
theorem dX10_refuses_5 : decode cX10_refuses 5 = .ok (.dup2, 1) := by decide +kernel
theorem dX10_refuses_6 : decode cX10_refuses 6 = .ok (.iaload, 1) := by decide +kernel
theorem dX10_refuses_7 : decode cX10_refuses 7 = .ok (.iconst 1, 1) := by decide +kernel
theorem dX10_refuses_8 : decode cX10_refuses 8 = .ok (.iadd, 1) := by decide +kernel
theorem dX10_refuses_9 : decode cX10_refuses 9 = .ok (.iastore, 1) := by decide +kernel
theorem dX10_refuses_10 : decode cX10_refuses 10 = .ok (.iconst (-1), 1) := by decide +kernel
theorem dX10_refuses_11 : decode cX10_refuses 11 = .ok (.ireturn, 1) := by decide +kernel
theorem dX10_keeps_0 : decode cX10_keeps 0 = .ok (.aload_n 0, 1) := by decide +kernel
theorem dX10_keeps_1 : decode cX10_keeps 1 = .ok (.getfield 184, 3) := by decide +kernel
theorem dX10_keeps_4 : decode cX10_keeps 4 = .ok (.bipush 40, 2) := by decide +kernel
theorem dX10_keeps_6 : decode cX10_keeps 6 = .ok (.if_icmp .ne 26, 3) := by decide +kernel
theorem dX10_keeps_9 : decode cX10_keeps 9 = .ok (.aload_n 0, 1) := by decide +kernel
theorem dX10_keeps_10 : decode cX10_keeps 10 = .ok (.aload_n 0, 1) := by decide +kernel
theorem dX10_keeps_11 : decode cX10_keeps 11 = .ok (.getfield 181, 3) := by decide +kernel
theorem dX10_keeps_14 : decode cX10_keeps 14 = .ok (.iconst 1, 1) := by decide +kernel
theorem dX10_keeps_15 : decode cX10_keeps 15 = .ok (.iadd, 1) := by decide +kernel
theorem dX10_keeps_16 : decode cX10_keeps 16 = .ok (.bipush 40, 2) := by decide +kernel
theorem dX10_keeps_18 : decode cX10_keeps 18 = .ok (.irem, 1) := by decide +kernel
theorem dX10_keeps_19 : decode cX10_keeps 19 = .ok (.putfield 181, 3) := by decide +kernel
theorem dX10_keeps_22 : decode cX10_keeps 22 = .ok (.aload_n 0, 1) := by decide +kernel
theorem dX10_keeps_23 : decode cX10_keeps 23 = .ok (.dup, 1) := by decide +kernel
theorem dX10_keeps_24 : decode cX10_keeps 24 = .ok (.getfield 184, 3) := by decide +kernel
theorem dX10_keeps_27 : decode cX10_keeps 27 = .ok (.iconst 1, 1) := by decide +kernel
theorem dX10_keeps_28 : decode cX10_keeps 28 = .ok (.isub, 1) := by decide +kernel
theorem dX10_keeps_29 : decode cX10_keeps 29 = .ok (.putfield 184, 3) := by decide +kernel
theorem dX10_keeps_32 : decode cX10_keeps 32 = .ok (.aload_n 0, 1) := by decide +kernel
theorem dX10_keeps_33 : decode cX10_keeps 33 = .ok (.iconst 0, 1) := by decide +kernel
theorem dX10_keeps_34 : decode cX10_keeps 34 = .ok (.aload_n 0, 1) := by decide +kernel
theorem dX10_keeps_35 : decode cX10_keeps 35 = .ok (.getfield 181, 3) := by decide +kernel
theorem dX10_keeps_38 : decode cX10_keeps 38 = .ok (.aload_n 0, 1) := by decide +kernel
theorem dX10_keeps_39 : decode cX10_keeps 39 = .ok (.getfield 184, 3) := by decide +kernel
theorem dX10_keeps_42 : decode cX10_keeps 42 = .ok (.invokestatic 354, 3) := by decide +kernel
theorem dX10_keeps_45 : decode cX10_keeps 45 = .ok (.bipush 80, 2) := by decide +kernel
theorem dX10_keeps_47 : decode cX10_keeps 47 = .ok (.invokevirtual 357, 3) := by decide +kernel
theorem dX10_keeps_50 : decode cX10_keeps 50 = .ok (.aload_n 0, 1) := by decide +kernel
theorem dX10_keeps_51 : decode cX10_keeps 51 = .ok (.dup, 1) := by decide +kernel
theorem dX10_keeps_52 : decode cX10_keeps 52 = .ok (.getfield 184, 3) := by decide +kernel
theorem dX10_keeps_55 : decode cX10_keeps 55 = .ok (.iconst 1, 1) := by decide +kernel
theorem dX10_keeps_56 : decode cX10_keeps 56 = .ok (.iadd, 1) := by decide +kernel
theorem dX10_keeps_57 : decode cX10_keeps 57 = .ok (.putfield 184, 3) := by decide +kernel
theorem dX10_keeps_60 : decode cX10_keeps 60 = .ok (.return_, 1) := by decide +kernel
theorem dX10_laysFree_0 : decode cX10_laysFree 0 = .ok (.aload_n 0, 1) := by decide +kernel
theorem dX10_laysFree_1 : decode cX10_laysFree 1 = .ok (.aload_n 0, 1) := by decide +kernel
theorem dX10_laysFree_2 : decode cX10_laysFree 2 = .ok (.getfield 25, 3) := by decide +kernel
theorem dX10_laysFree_5 : decode cX10_laysFree 5 = .ok (.putfield 187, 3) := by decide +kernel
theorem dX10_laysFree_8 : decode cX10_laysFree 8 = .ok (.aload_n 0, 1) := by decide +kernel
theorem dX10_laysFree_9 : decode cX10_laysFree 9 = .ok (.aload_n 0, 1) := by decide +kernel
theorem dX10_laysFree_10 : decode cX10_laysFree 10 = .ok (.invokevirtual 302, 3) := by decide +kernel
theorem dX10_laysFree_13 : decode cX10_laysFree 13 = .ok (.putfield 193, 3) := by decide +kernel
theorem dX10_laysFree_16 : decode cX10_laysFree 16 = .ok (.iconst 0, 1) := by decide +kernel
theorem dX10_laysFree_17 : decode cX10_laysFree 17 = .ok (.istore_n 1, 1) := by decide +kernel
theorem dX10_laysFree_18 : decode cX10_laysFree 18 = .ok (.iload_n 1, 1) := by decide +kernel
theorem dX10_laysFree_19 : decode cX10_laysFree 19 = .ok (.aload_n 0, 1) := by decide +kernel
theorem dX10_laysFree_20 : decode cX10_laysFree 20 = .ok (.getfield 193, 3) := by decide +kernel
theorem dX10_laysFree_23 : decode cX10_laysFree 23 = .ok (.if_icmp .ge 25, 3) := by decide +kernel
theorem dX10_laysFree_26 : decode cX10_laysFree 26 = .ok (.aload_n 0, 1) := by decide +kernel
theorem dX10_laysFree_27 : decode cX10_laysFree 27 = .ok (.getfield 56, 3) := by decide +kernel
theorem dX10_laysFree_30 : decode cX10_laysFree 30 = .ok (.iload_n 1, 1) := by decide +kernel
theorem dX10_laysFree_31 : decode cX10_laysFree 31 = .ok (.aload_n 0, 1) := by decide +kernel
theorem dX10_laysFree_32 : decode cX10_laysFree 32 = .ok (.getfield 25, 3) := by decide +kernel
theorem dX10_laysFree_35 : decode cX10_laysFree 35 = .ok (.aload_n 0, 1) := by decide +kernel
theorem dX10_laysFree_36 : decode cX10_laysFree 36 = .ok (.iload_n 1, 1) := by decide +kernel
theorem dX10_laysFree_37 : decode cX10_laysFree 37 = .ok (.invokevirtual 305, 3) := by decide +kernel
theorem dX10_laysFree_40 : decode cX10_laysFree 40 = .ok (.isub, 1) := by decide +kernel
theorem dX10_laysFree_41 : decode cX10_laysFree 41 = .ok (.iastore, 1) := by decide +kernel
theorem dX10_laysFree_42 : decode cX10_laysFree 42 = .ok (.iinc 1 1, 3) := by decide +kernel
theorem dX10_laysFree_45 : decode cX10_laysFree 45 = .ok (.goto (-27), 3) := by decide +kernel
theorem dX10_laysFree_48 : decode cX10_laysFree 48 = .ok (.return_, 1) := by decide +kernel
theorem dX10_pack_0 : decode cX10_pack 0 = .ok (.aload_n 0, 1) := by decide +kernel
theorem dX10_pack_1 : decode cX10_pack 1 = .ok (.iconst 0, 1) := by decide +kernel
theorem dX10_pack_2 : decode cX10_pack 2 = .ok (.putfield 90, 3) := by decide +kernel
theorem dX10_pack_5 : decode cX10_pack 5 = .ok (.iload_n 1, 1) := by decide +kernel
theorem dX10_pack_6 : decode cX10_pack 6 = .ok (.iconst 0, 1) := by decide +kernel
theorem dX10_pack_7 : decode cX10_pack 7 = .ok (.aload_n 0, 1) := by decide +kernel
theorem dX10_pack_8 : decode cX10_pack 8 = .ok (.getfield 172, 3) := by decide +kernel
theorem dX10_pack_11 : decode cX10_pack 11 = .ok (.iconst 1, 1) := by decide +kernel
theorem dX10_pack_12 : decode cX10_pack 12 = .ok (.isub, 1) := by decide +kernel
theorem dX10_pack_13 : decode cX10_pack 13 = .ok (.invokestatic 134, 3) := by decide +kernel
theorem dX10_pack_16 : decode cX10_pack 16 = .ok (.ifCond .eq 21, 3) := by decide +kernel
theorem dX10_pack_19 : decode cX10_pack 19 = .ok (.iload_n 2, 1) := by decide +kernel
theorem dX10_pack_20 : decode cX10_pack 20 = .ok (.iconst 0, 1) := by decide +kernel
theorem dX10_pack_21 : decode cX10_pack 21 = .ok (.iconst 3, 1) := by decide +kernel
theorem dX10_pack_22 : decode cX10_pack 22 = .ok (.invokestatic 134, 3) := by decide +kernel
theorem dX10_pack_25 : decode cX10_pack 25 = .ok (.ifCond .eq 12, 3) := by decide +kernel
theorem dX10_pack_28 : decode cX10_pack 28 = .ok (.aload_n 0, 1) := by decide +kernel
theorem dX10_pack_29 : decode cX10_pack 29 = .ok (.getfield 9, 3) := by decide +kernel
theorem dX10_pack_32 : decode cX10_pack 32 = .ok (.iload_n 1, 1) := by decide +kernel
theorem dX10_pack_33 : decode cX10_pack 33 = .ok (.iaload, 1) := by decide +kernel
theorem dX10_pack_34 : decode cX10_pack 34 = .ok (.ifCond .ne 9, 3) := by decide +kernel
theorem dX10_pack_37 : decode cX10_pack 37 = .ok (.aload_n 0, 1) := by decide +kernel
theorem dX10_pack_38 : decode cX10_pack 38 = .ok (.iconst 1, 1) := by decide +kernel
theorem dX10_pack_39 : decode cX10_pack 39 = .ok (.invokevirtual 361, 3) := by decide +kernel
theorem dX10_pack_42 : decode cX10_pack 42 = .ok (.ireturn, 1) := by decide +kernel
theorem dX10_pack_43 : decode cX10_pack 43 = .ok (.aload_n 0, 1) := by decide +kernel
theorem dX10_pack_44 : decode cX10_pack 44 = .ok (.invokevirtual 283, 3) := by decide +kernel
theorem dX10_pack_47 : decode cX10_pack 47 = .ok (.aload_n 0, 1) := by decide +kernel
theorem dX10_pack_48 : decode cX10_pack 48 = .ok (.invokevirtual 364, 3) := by decide +kernel
theorem dX10_pack_51 : decode cX10_pack 51 = .ok (.aload_n 0, 1) := by decide +kernel
theorem dX10_pack_52 : decode cX10_pack 52 = .ok (.iload_n 2, 1) := by decide +kernel
theorem dX10_pack_53 : decode cX10_pack 53 = .ok (.aload_n 0, 1) := by decide +kernel
theorem dX10_pack_54 : decode cX10_pack 54 = .ok (.getfield 13, 3) := by decide +kernel
theorem dX10_pack_57 : decode cX10_pack 57 = .ok (.iload_n 1, 1) := by decide +kernel
theorem dX10_pack_58 : decode cX10_pack 58 = .ok (.iaload, 1) := by decide +kernel
theorem dX10_pack_59 : decode cX10_pack 59 = .ok (.invokevirtual 196, 3) := by decide +kernel
theorem dX10_pack_62 : decode cX10_pack 62 = .ok (.istore_n 3, 1) := by decide +kernel
theorem dX10_pack_63 : decode cX10_pack 63 = .ok (.iload_n 3, 1) := by decide +kernel
theorem dX10_pack_64 : decode cX10_pack 64 = .ok (.iconst (-1), 1) := by decide +kernel
theorem dX10_pack_65 : decode cX10_pack 65 = .ok (.if_icmp .ne 18, 3) := by decide +kernel
theorem dX10_pack_68 : decode cX10_pack 68 = .ok (.aload_n 0, 1) := by decide +kernel
theorem dX10_pack_69 : decode cX10_pack 69 = .ok (.invokevirtual 302, 3) := by decide +kernel
theorem dX10_pack_72 : decode cX10_pack 72 = .ok (.bipush 12, 2) := by decide +kernel
theorem dX10_pack_74 : decode cX10_pack 74 = .ok (.if_icmp .ne 9, 3) := by decide +kernel
theorem dX10_pack_77 : decode cX10_pack 77 = .ok (.aload_n 0, 1) := by decide +kernel
theorem dX10_pack_78 : decode cX10_pack 78 = .ok (.iconst 1, 1) := by decide +kernel
theorem dX10_pack_79 : decode cX10_pack 79 = .ok (.invokevirtual 361, 3) := by decide +kernel
theorem dX10_pack_82 : decode cX10_pack 82 = .ok (.ireturn, 1) := by decide +kernel
theorem dX10_pack_83 : decode cX10_pack 83 = .ok (.aload_n 0, 1) := by decide +kernel
theorem dX10_pack_84 : decode cX10_pack 84 = .ok (.invokevirtual 367, 3) := by decide +kernel
theorem dX10_pack_87 : decode cX10_pack 87 = .ok (.iload_n 3, 1) := by decide +kernel
theorem dX10_pack_88 : decode cX10_pack 88 = .ok (.iconst (-1), 1) := by decide +kernel
theorem dX10_pack_89 : decode cX10_pack 89 = .ok (.if_icmp .ne 48, 3) := by decide +kernel
theorem dX10_pack_92 : decode cX10_pack 92 = .ok (.aload_n 0, 1) := by decide +kernel
theorem dX10_pack_93 : decode cX10_pack 93 = .ok (.invokevirtual 302, 3) := by decide +kernel
theorem dX10_pack_96 : decode cX10_pack 96 = .ok (.istore_n 3, 1) := by decide +kernel
theorem dX10_pack_97 : decode cX10_pack 97 = .ok (.iconst 0, 1) := by decide +kernel
theorem dX10_pack_98 : decode cX10_pack 98 = .ok (.istore 4, 2) := by decide +kernel
theorem dX10_pack_100 : decode cX10_pack 100 = .ok (.iload 4, 2) := by decide +kernel
theorem dX10_pack_102 : decode cX10_pack 102 = .ok (.bipush 6, 2) := by decide +kernel
theorem dX10_pack_104 : decode cX10_pack 104 = .ok (.if_icmp .ge 22, 3) := by decide +kernel
theorem dX10_pack_107 : decode cX10_pack 107 = .ok (.aload_n 0, 1) := by decide +kernel
theorem dX10_pack_108 : decode cX10_pack 108 = .ok (.getfield 9, 3) := by decide +kernel
theorem dX10_pack_111 : decode cX10_pack 111 = .ok (.iload_n 3, 1) := by decide +kernel
theorem dX10_pack_112 : decode cX10_pack 112 = .ok (.invokestatic 299, 3) := by decide +kernel
theorem dX10_pack_115 : decode cX10_pack 115 = .ok (.iload 4, 2) := by decide +kernel
theorem dX10_pack_117 : decode cX10_pack 117 = .ok (.iadd, 1) := by decide +kernel
theorem dX10_pack_118 : decode cX10_pack 118 = .ok (.iconst 0, 1) := by decide +kernel
theorem dX10_pack_119 : decode cX10_pack 119 = .ok (.iastore, 1) := by decide +kernel
theorem dX10_pack_120 : decode cX10_pack 120 = .ok (.iinc 4 1, 3) := by decide +kernel
theorem dX10_pack_123 : decode cX10_pack 123 = .ok (.goto (-23), 3) := by decide +kernel
theorem dX10_pack_126 : decode cX10_pack 126 = .ok (.aload_n 0, 1) := by decide +kernel
theorem dX10_pack_127 : decode cX10_pack 127 = .ok (.getfield 9, 3) := by decide +kernel
theorem dX10_pack_130 : decode cX10_pack 130 = .ok (.bipush 6, 2) := by decide +kernel
theorem dX10_pack_132 : decode cX10_pack 132 = .ok (.dup2, 1) := by decide +kernel
theorem dX10_pack_133 : decode cX10_pack 133 = .ok (.iaload, 1) := by decide +kernel
theorem dX10_pack_134 : decode cX10_pack 134 = .ok (.iconst 1, 1) := by decide +kernel
theorem dX10_pack_135 : decode cX10_pack 135 = .ok (.iadd, 1) := by decide +kernel
theorem dX10_pack_136 : decode cX10_pack 136 = .ok (.iastore, 1) := by decide +kernel
theorem dX10_pack_137 : decode cX10_pack 137 = .ok (.aload_n 0, 1) := by decide +kernel
theorem dX10_pack_138 : decode cX10_pack 138 = .ok (.getfield 9, 3) := by decide +kernel
theorem dX10_pack_141 : decode cX10_pack 141 = .ok (.iload_n 3, 1) := by decide +kernel
theorem dX10_pack_142 : decode cX10_pack 142 = .ok (.invokestatic 299, 3) := by decide +kernel
theorem dX10_pack_145 : decode cX10_pack 145 = .ok (.iload_n 1, 1) := by decide +kernel
theorem dX10_pack_146 : decode cX10_pack 146 = .ok (.iadd, 1) := by decide +kernel
theorem dX10_pack_147 : decode cX10_pack 147 = .ok (.dup2, 1) := by decide +kernel
theorem dX10_pack_148 : decode cX10_pack 148 = .ok (.iaload, 1) := by decide +kernel
theorem dX10_pack_149 : decode cX10_pack 149 = .ok (.iconst 1, 1) := by decide +kernel
theorem dX10_pack_150 : decode cX10_pack 150 = .ok (.iadd, 1) := by decide +kernel
theorem dX10_pack_151 : decode cX10_pack 151 = .ok (.iastore, 1) := by decide +kernel
theorem dX10_pack_152 : decode cX10_pack 152 = .ok (.aload_n 0, 1) := by decide +kernel
theorem dX10_pack_153 : decode cX10_pack 153 = .ok (.getfield 9, 3) := by decide +kernel
theorem dX10_pack_156 : decode cX10_pack 156 = .ok (.iload_n 1, 1) := by decide +kernel
theorem dX10_pack_157 : decode cX10_pack 157 = .ok (.dup2, 1) := by decide +kernel
theorem dX10_pack_158 : decode cX10_pack 158 = .ok (.iaload, 1) := by decide +kernel
theorem dX10_pack_159 : decode cX10_pack 159 = .ok (.iconst 1, 1) := by decide +kernel
theorem dX10_pack_160 : decode cX10_pack 160 = .ok (.isub, 1) := by decide +kernel
theorem dX10_pack_161 : decode cX10_pack 161 = .ok (.iastore, 1) := by decide +kernel
theorem dX10_pack_162 : decode cX10_pack 162 = .ok (.iload_n 3, 1) := by decide +kernel
theorem dX10_pack_163 : decode cX10_pack 163 = .ok (.ireturn, 1) := by decide +kernel
theorem dX10_put_0 : decode cX10_put 0 = .ok (.aload_n 0, 1) := by decide +kernel
theorem dX10_put_1 : decode cX10_put 1 = .ok (.iconst 0, 1) := by decide +kernel
theorem dX10_put_2 : decode cX10_put 2 = .ok (.putfield 90, 3) := by decide +kernel
theorem dX10_put_5 : decode cX10_put 5 = .ok (.iload_n 1, 1) := by decide +kernel
theorem dX10_put_6 : decode cX10_put 6 = .ok (.iconst 0, 1) := by decide +kernel
theorem dX10_put_7 : decode cX10_put 7 = .ok (.aload_n 0, 1) := by decide +kernel
theorem dX10_put_8 : decode cX10_put 8 = .ok (.getfield 172, 3) := by decide +kernel
theorem dX10_put_11 : decode cX10_put 11 = .ok (.iconst 1, 1) := by decide +kernel
theorem dX10_put_12 : decode cX10_put 12 = .ok (.isub, 1) := by decide +kernel
theorem dX10_put_13 : decode cX10_put 13 = .ok (.invokestatic 134, 3) := by decide +kernel
theorem dX10_put_16 : decode cX10_put 16 = .ok (.ifCond .eq 45, 3) := by decide +kernel
theorem dX10_put_19 : decode cX10_put 19 = .ok (.iload_n 2, 1) := by decide +kernel
theorem dX10_put_20 : decode cX10_put 20 = .ok (.iconst 0, 1) := by decide +kernel
theorem dX10_put_21 : decode cX10_put 21 = .ok (.aload_n 0, 1) := by decide +kernel
theorem dX10_put_22 : decode cX10_put 22 = .ok (.invokevirtual 302, 3) := by decide +kernel
theorem dX10_put_25 : decode cX10_put 25 = .ok (.iconst 1, 1) := by decide +kernel
theorem dX10_put_26 : decode cX10_put 26 = .ok (.isub, 1) := by decide +kernel
theorem dX10_put_27 : decode cX10_put 27 = .ok (.invokestatic 134, 3) := by decide +kernel
theorem dX10_put_30 : decode cX10_put 30 = .ok (.ifCond .eq 31, 3) := by decide +kernel
theorem dX10_put_33 : decode cX10_put 33 = .ok (.aload_n 0, 1) := by decide +kernel
theorem dX10_put_34 : decode cX10_put 34 = .ok (.getfield 9, 3) := by decide +kernel
theorem dX10_put_37 : decode cX10_put 37 = .ok (.iload_n 1, 1) := by decide +kernel
theorem dX10_put_38 : decode cX10_put 38 = .ok (.iaload, 1) := by decide +kernel
theorem dX10_put_39 : decode cX10_put 39 = .ok (.ifCond .eq 22, 3) := by decide +kernel
theorem dX10_put_42 : decode cX10_put 42 = .ok (.aload_n 0, 1) := by decide +kernel
theorem dX10_put_43 : decode cX10_put 43 = .ok (.iload_n 2, 1) := by decide +kernel
theorem dX10_put_44 : decode cX10_put 44 = .ok (.invokevirtual 305, 3) := by decide +kernel
theorem dX10_put_47 : decode cX10_put 47 = .ok (.aload_n 0, 1) := by decide +kernel
theorem dX10_put_48 : decode cX10_put 48 = .ok (.getfield 13, 3) := by decide +kernel
theorem dX10_put_51 : decode cX10_put 51 = .ok (.iload_n 1, 1) := by decide +kernel
theorem dX10_put_52 : decode cX10_put 52 = .ok (.iaload, 1) := by decide +kernel
theorem dX10_put_53 : decode cX10_put 53 = .ok (.iadd, 1) := by decide +kernel
theorem dX10_put_54 : decode cX10_put 54 = .ok (.aload_n 0, 1) := by decide +kernel
theorem dX10_put_55 : decode cX10_put 55 = .ok (.getfield 25, 3) := by decide +kernel
theorem dX10_put_58 : decode cX10_put 58 = .ok (.if_icmp .le 9, 3) := by decide +kernel
theorem dX10_put_61 : decode cX10_put 61 = .ok (.aload_n 0, 1) := by decide +kernel
theorem dX10_put_62 : decode cX10_put 62 = .ok (.iconst 1, 1) := by decide +kernel
theorem dX10_put_63 : decode cX10_put 63 = .ok (.invokevirtual 361, 3) := by decide +kernel
theorem dX10_put_66 : decode cX10_put 66 = .ok (.ireturn, 1) := by decide +kernel
theorem dX10_put_67 : decode cX10_put 67 = .ok (.aload_n 0, 1) := by decide +kernel
theorem dX10_put_68 : decode cX10_put 68 = .ok (.invokevirtual 367, 3) := by decide +kernel
theorem dX10_put_71 : decode cX10_put 71 = .ok (.aload_n 0, 1) := by decide +kernel
theorem dX10_put_72 : decode cX10_put 72 = .ok (.getfield 9, 3) := by decide +kernel
theorem dX10_put_75 : decode cX10_put 75 = .ok (.iload_n 2, 1) := by decide +kernel
theorem dX10_put_76 : decode cX10_put 76 = .ok (.invokestatic 299, 3) := by decide +kernel
theorem dX10_put_79 : decode cX10_put 79 = .ok (.iload_n 1, 1) := by decide +kernel
theorem dX10_put_80 : decode cX10_put 80 = .ok (.iadd, 1) := by decide +kernel
theorem dX10_put_81 : decode cX10_put 81 = .ok (.dup2, 1) := by decide +kernel
theorem dX10_put_82 : decode cX10_put 82 = .ok (.iaload, 1) := by decide +kernel
theorem dX10_put_83 : decode cX10_put 83 = .ok (.iconst 1, 1) := by decide +kernel
theorem dX10_put_84 : decode cX10_put 84 = .ok (.iadd, 1) := by decide +kernel
theorem dX10_put_85 : decode cX10_put 85 = .ok (.iastore, 1) := by decide +kernel
theorem dX10_put_86 : decode cX10_put 86 = .ok (.aload_n 0, 1) := by decide +kernel
theorem dX10_put_87 : decode cX10_put 87 = .ok (.getfield 9, 3) := by decide +kernel
theorem dX10_put_90 : decode cX10_put 90 = .ok (.iload_n 1, 1) := by decide +kernel
theorem dX10_put_91 : decode cX10_put 91 = .ok (.dup2, 1) := by decide +kernel
theorem dX10_put_92 : decode cX10_put 92 = .ok (.iaload, 1) := by decide +kernel
theorem dX10_put_93 : decode cX10_put 93 = .ok (.iconst 1, 1) := by decide +kernel
theorem dX10_put_94 : decode cX10_put 94 = .ok (.isub, 1) := by decide +kernel
theorem dX10_put_95 : decode cX10_put 95 = .ok (.iastore, 1) := by decide +kernel
theorem dX10_put_96 : decode cX10_put 96 = .ok (.aload_n 0, 1) := by decide +kernel
theorem dX10_put_97 : decode cX10_put 97 = .ok (.getfield 25, 3) := by decide +kernel
theorem dX10_put_100 : decode cX10_put 100 = .ok (.aload_n 0, 1) := by decide +kernel
theorem dX10_put_101 : decode cX10_put 101 = .ok (.iload_n 2, 1) := by decide +kernel
theorem dX10_put_102 : decode cX10_put 102 = .ok (.invokevirtual 305, 3) := by decide +kernel
theorem dX10_put_105 : decode cX10_put 105 = .ok (.isub, 1) := by decide +kernel
theorem dX10_put_106 : decode cX10_put 106 = .ok (.ireturn, 1) := by decide +kernel
theorem dX10_dropsBin_0 : decode cX10_dropsBin 0 = .ok (.aload_n 0, 1) := by decide +kernel
theorem dX10_dropsBin_1 : decode cX10_dropsBin 1 = .ok (.getfield 9, 3) := by decide +kernel
theorem dX10_dropsBin_4 : decode cX10_dropsBin 4 = .ok (.bipush 6, 2) := by decide +kernel
theorem dX10_dropsBin_6 : decode cX10_dropsBin 6 = .ok (.dup2, 1) := by decide +kernel
theorem dX10_dropsBin_7 : decode cX10_dropsBin 7 = .ok (.iaload, 1) := by decide +kernel
theorem dX10_dropsBin_8 : decode cX10_dropsBin 8 = .ok (.iconst 1, 1) := by decide +kernel
theorem dX10_dropsBin_9 : decode cX10_dropsBin 9 = .ok (.isub, 1) := by decide +kernel
theorem dX10_dropsBin_10 : decode cX10_dropsBin 10 = .ok (.iastore, 1) := by decide +kernel
theorem dX10_dropsBin_11 : decode cX10_dropsBin 11 = .ok (.iload_n 1, 1) := by decide +kernel
theorem dX10_dropsBin_12 : decode cX10_dropsBin 12 = .ok (.invokestatic 299, 3) := by decide +kernel
theorem dX10_dropsBin_15 : decode cX10_dropsBin 15 = .ok (.istore_n 2, 1) := by decide +kernel
theorem dX10_dropsBin_16 : decode cX10_dropsBin 16 = .ok (.iload_n 2, 1) := by decide +kernel
theorem dX10_dropsBin_17 : decode cX10_dropsBin 17 = .ok (.aload_n 0, 1) := by decide +kernel
theorem dX10_dropsBin_18 : decode cX10_dropsBin 18 = .ok (.invokevirtual 302, 3) := by decide +kernel
theorem dX10_dropsBin_21 : decode cX10_dropsBin 21 = .ok (.invokestatic 299, 3) := by decide +kernel
theorem dX10_dropsBin_24 : decode cX10_dropsBin 24 = .ok (.if_icmp .ge 24, 3) := by decide +kernel
theorem dX10_dropsBin_27 : decode cX10_dropsBin 27 = .ok (.aload_n 0, 1) := by decide +kernel
theorem dX10_dropsBin_28 : decode cX10_dropsBin 28 = .ok (.getfield 9, 3) := by decide +kernel
theorem dX10_dropsBin_31 : decode cX10_dropsBin 31 = .ok (.iload_n 2, 1) := by decide +kernel
theorem dX10_dropsBin_32 : decode cX10_dropsBin 32 = .ok (.aload_n 0, 1) := by decide +kernel
theorem dX10_dropsBin_33 : decode cX10_dropsBin 33 = .ok (.getfield 9, 3) := by decide +kernel
theorem dX10_dropsBin_36 : decode cX10_dropsBin 36 = .ok (.iload_n 2, 1) := by decide +kernel
theorem dX10_dropsBin_37 : decode cX10_dropsBin 37 = .ok (.bipush 6, 2) := by decide +kernel
theorem dX10_dropsBin_39 : decode cX10_dropsBin 39 = .ok (.iadd, 1) := by decide +kernel
theorem dX10_dropsBin_40 : decode cX10_dropsBin 40 = .ok (.iaload, 1) := by decide +kernel
theorem dX10_dropsBin_41 : decode cX10_dropsBin 41 = .ok (.iastore, 1) := by decide +kernel
theorem dX10_dropsBin_42 : decode cX10_dropsBin 42 = .ok (.iinc 2 1, 3) := by decide +kernel
theorem dX10_dropsBin_45 : decode cX10_dropsBin 45 = .ok (.goto (-29), 3) := by decide +kernel
theorem dX10_dropsBin_48 : decode cX10_dropsBin 48 = .ok (.iconst 0, 1) := by decide +kernel
theorem dX10_dropsBin_49 : decode cX10_dropsBin 49 = .ok (.istore_n 2, 1) := by decide +kernel
theorem dX10_dropsBin_50 : decode cX10_dropsBin 50 = .ok (.iload_n 2, 1) := by decide +kernel
theorem dX10_dropsBin_51 : decode cX10_dropsBin 51 = .ok (.bipush 6, 2) := by decide +kernel
theorem dX10_dropsBin_53 : decode cX10_dropsBin 53 = .ok (.if_icmp .ge 24, 3) := by decide +kernel
theorem dX10_dropsBin_56 : decode cX10_dropsBin 56 = .ok (.aload_n 0, 1) := by decide +kernel
theorem dX10_dropsBin_57 : decode cX10_dropsBin 57 = .ok (.getfield 9, 3) := by decide +kernel
theorem dX10_dropsBin_60 : decode cX10_dropsBin 60 = .ok (.aload_n 0, 1) := by decide +kernel
theorem dX10_dropsBin_61 : decode cX10_dropsBin 61 = .ok (.invokevirtual 302, 3) := by decide +kernel
theorem dX10_dropsBin_64 : decode cX10_dropsBin 64 = .ok (.invokestatic 299, 3) := by decide +kernel
theorem dX10_dropsBin_67 : decode cX10_dropsBin 67 = .ok (.iload_n 2, 1) := by decide +kernel
theorem dX10_dropsBin_68 : decode cX10_dropsBin 68 = .ok (.iadd, 1) := by decide +kernel
theorem dX10_dropsBin_69 : decode cX10_dropsBin 69 = .ok (.iconst 0, 1) := by decide +kernel
theorem dX10_dropsBin_70 : decode cX10_dropsBin 70 = .ok (.iastore, 1) := by decide +kernel
theorem dX10_dropsBin_71 : decode cX10_dropsBin 71 = .ok (.iinc 2 1, 3) := by decide +kernel
theorem dX10_dropsBin_74 : decode cX10_dropsBin 74 = .ok (.goto (-24), 3) := by decide +kernel
theorem dX10_dropsBin_77 : decode cX10_dropsBin 77 = .ok (.return_, 1) := by decide +kernel
theorem dX10_take_0 : decode cX10_take 0 = .ok (.aload_n 0, 1) := by decide +kernel
theorem dX10_take_1 : decode cX10_take 1 = .ok (.iconst 0, 1) := by decide +kernel
theorem dX10_take_2 : decode cX10_take 2 = .ok (.putfield 90, 3) := by decide +kernel
theorem dX10_take_5 : decode cX10_take 5 = .ok (.iload_n 1, 1) := by decide +kernel
theorem dX10_take_6 : decode cX10_take 6 = .ok (.iconst 0, 1) := by decide +kernel
theorem dX10_take_7 : decode cX10_take 7 = .ok (.aload_n 0, 1) := by decide +kernel
theorem dX10_take_8 : decode cX10_take 8 = .ok (.getfield 172, 3) := by decide +kernel
theorem dX10_take_11 : decode cX10_take 11 = .ok (.iconst 1, 1) := by decide +kernel
theorem dX10_take_12 : decode cX10_take 12 = .ok (.isub, 1) := by decide +kernel
theorem dX10_take_13 : decode cX10_take 13 = .ok (.invokestatic 134, 3) := by decide +kernel
theorem dX10_take_16 : decode cX10_take 16 = .ok (.ifCond .eq 51, 3) := by decide +kernel
theorem dX10_take_19 : decode cX10_take 19 = .ok (.iload_n 2, 1) := by decide +kernel
theorem dX10_take_20 : decode cX10_take 20 = .ok (.iconst 0, 1) := by decide +kernel
theorem dX10_take_21 : decode cX10_take 21 = .ok (.aload_n 0, 1) := by decide +kernel
theorem dX10_take_22 : decode cX10_take 22 = .ok (.invokevirtual 302, 3) := by decide +kernel
theorem dX10_take_25 : decode cX10_take 25 = .ok (.iconst 1, 1) := by decide +kernel
theorem dX10_take_26 : decode cX10_take 26 = .ok (.isub, 1) := by decide +kernel
theorem dX10_take_27 : decode cX10_take 27 = .ok (.invokestatic 134, 3) := by decide +kernel
theorem dX10_take_30 : decode cX10_take 30 = .ok (.ifCond .eq 37, 3) := by decide +kernel
theorem dX10_take_33 : decode cX10_take 33 = .ok (.aload_n 0, 1) := by decide +kernel
theorem dX10_take_34 : decode cX10_take 34 = .ok (.getfield 9, 3) := by decide +kernel
theorem dX10_take_37 : decode cX10_take 37 = .ok (.iload_n 2, 1) := by decide +kernel
theorem dX10_take_38 : decode cX10_take 38 = .ok (.invokestatic 299, 3) := by decide +kernel
theorem dX10_take_41 : decode cX10_take 41 = .ok (.iload_n 1, 1) := by decide +kernel
theorem dX10_take_42 : decode cX10_take 42 = .ok (.iadd, 1) := by decide +kernel
theorem dX10_take_43 : decode cX10_take 43 = .ok (.iaload, 1) := by decide +kernel
theorem dX10_take_44 : decode cX10_take 44 = .ok (.ifCond .eq 23, 3) := by decide +kernel
theorem dX10_take_47 : decode cX10_take 47 = .ok (.aload_n 0, 1) := by decide +kernel
theorem dX10_take_48 : decode cX10_take 48 = .ok (.getfield 9, 3) := by decide +kernel
theorem dX10_take_51 : decode cX10_take 51 = .ok (.iload_n 1, 1) := by decide +kernel
theorem dX10_take_52 : decode cX10_take 52 = .ok (.iaload, 1) := by decide +kernel
theorem dX10_take_53 : decode cX10_take 53 = .ok (.bipush 12, 2) := by decide +kernel
theorem dX10_take_55 : decode cX10_take 55 = .ok (.if_icmp .eq 12, 3) := by decide +kernel
theorem dX10_take_58 : decode cX10_take 58 = .ok (.aload_n 0, 1) := by decide +kernel
theorem dX10_take_59 : decode cX10_take 59 = .ok (.invokevirtual 311, 3) := by decide +kernel
theorem dX10_take_62 : decode cX10_take 62 = .ok (.bipush 24, 2) := by decide +kernel
theorem dX10_take_64 : decode cX10_take 64 = .ok (.if_icmp .ne 9, 3) := by decide +kernel
theorem dX10_take_67 : decode cX10_take 67 = .ok (.aload_n 0, 1) := by decide +kernel
theorem dX10_take_68 : decode cX10_take 68 = .ok (.iconst 1, 1) := by decide +kernel
theorem dX10_take_69 : decode cX10_take 69 = .ok (.invokevirtual 361, 3) := by decide +kernel
theorem dX10_take_72 : decode cX10_take 72 = .ok (.ireturn, 1) := by decide +kernel
theorem dX10_take_73 : decode cX10_take 73 = .ok (.aload_n 0, 1) := by decide +kernel
theorem dX10_take_74 : decode cX10_take 74 = .ok (.invokevirtual 367, 3) := by decide +kernel
theorem dX10_take_77 : decode cX10_take 77 = .ok (.aload_n 0, 1) := by decide +kernel
theorem dX10_take_78 : decode cX10_take 78 = .ok (.getfield 9, 3) := by decide +kernel
theorem dX10_take_81 : decode cX10_take 81 = .ok (.iload_n 2, 1) := by decide +kernel
theorem dX10_take_82 : decode cX10_take 82 = .ok (.invokestatic 299, 3) := by decide +kernel
theorem dX10_take_85 : decode cX10_take 85 = .ok (.iload_n 1, 1) := by decide +kernel
theorem dX10_take_86 : decode cX10_take 86 = .ok (.iadd, 1) := by decide +kernel
theorem dX10_take_87 : decode cX10_take 87 = .ok (.dup2, 1) := by decide +kernel
theorem dX10_take_88 : decode cX10_take 88 = .ok (.iaload, 1) := by decide +kernel
theorem dX10_take_89 : decode cX10_take 89 = .ok (.iconst 1, 1) := by decide +kernel
theorem dX10_take_90 : decode cX10_take 90 = .ok (.isub, 1) := by decide +kernel
theorem dX10_take_91 : decode cX10_take 91 = .ok (.iastore, 1) := by decide +kernel
theorem dX10_take_92 : decode cX10_take 92 = .ok (.aload_n 0, 1) := by decide +kernel
theorem dX10_take_93 : decode cX10_take 93 = .ok (.getfield 9, 3) := by decide +kernel
theorem dX10_take_96 : decode cX10_take 96 = .ok (.iload_n 1, 1) := by decide +kernel
theorem dX10_take_97 : decode cX10_take 97 = .ok (.dup2, 1) := by decide +kernel
theorem dX10_take_98 : decode cX10_take 98 = .ok (.iaload, 1) := by decide +kernel
theorem dX10_take_99 : decode cX10_take 99 = .ok (.iconst 1, 1) := by decide +kernel
theorem dX10_take_100 : decode cX10_take 100 = .ok (.iadd, 1) := by decide +kernel
theorem dX10_take_101 : decode cX10_take 101 = .ok (.iastore, 1) := by decide +kernel
theorem dX10_take_102 : decode cX10_take 102 = .ok (.aload_n 0, 1) := by decide +kernel
theorem dX10_take_103 : decode cX10_take 103 = .ok (.iload_n 2, 1) := by decide +kernel
theorem dX10_take_104 : decode cX10_take 104 = .ok (.invokevirtual 305, 3) := by decide +kernel
theorem dX10_take_107 : decode cX10_take 107 = .ok (.ifCond .ne 8, 3) := by decide +kernel
theorem dX10_take_110 : decode cX10_take 110 = .ok (.aload_n 0, 1) := by decide +kernel
theorem dX10_take_111 : decode cX10_take 111 = .ok (.iload_n 2, 1) := by decide +kernel
theorem dX10_take_112 : decode cX10_take 112 = .ok (.invokevirtual 370, 3) := by decide +kernel
theorem dX10_take_115 : decode cX10_take 115 = .ok (.aload_n 0, 1) := by decide +kernel
theorem dX10_take_116 : decode cX10_take 116 = .ok (.invokevirtual 302, 3) := by decide +kernel
theorem dX10_take_119 : decode cX10_take 119 = .ok (.ireturn, 1) := by decide +kernel
theorem dX10_rest_0 : decode cX10_rest 0 = .ok (.aload_n 0, 1) := by decide +kernel
theorem dX10_rest_1 : decode cX10_rest 1 = .ok (.iconst 0, 1) := by decide +kernel
theorem dX10_rest_2 : decode cX10_rest 2 = .ok (.putfield 90, 3) := by decide +kernel
theorem dX10_rest_5 : decode cX10_rest 5 = .ok (.iload_n 1, 1) := by decide +kernel
theorem dX10_rest_6 : decode cX10_rest 6 = .ok (.iconst 0, 1) := by decide +kernel
theorem dX10_rest_7 : decode cX10_rest 7 = .ok (.aload_n 0, 1) := by decide +kernel
theorem dX10_rest_8 : decode cX10_rest 8 = .ok (.getfield 172, 3) := by decide +kernel
theorem dX10_rest_11 : decode cX10_rest 11 = .ok (.iconst 1, 1) := by decide +kernel
theorem dX10_rest_12 : decode cX10_rest 12 = .ok (.isub, 1) := by decide +kernel
theorem dX10_rest_13 : decode cX10_rest 13 = .ok (.invokestatic 134, 3) := by decide +kernel
theorem dX10_rest_16 : decode cX10_rest 16 = .ok (.ifCond .eq 31, 3) := by decide +kernel
theorem dX10_rest_19 : decode cX10_rest 19 = .ok (.iload_n 2, 1) := by decide +kernel
theorem dX10_rest_20 : decode cX10_rest 20 = .ok (.iconst 0, 1) := by decide +kernel
theorem dX10_rest_21 : decode cX10_rest 21 = .ok (.bipush 12, 2) := by decide +kernel
theorem dX10_rest_23 : decode cX10_rest 23 = .ok (.invokestatic 134, 3) := by decide +kernel
theorem dX10_rest_26 : decode cX10_rest 26 = .ok (.ifCond .eq 21, 3) := by decide +kernel
theorem dX10_rest_29 : decode cX10_rest 29 = .ok (.aload_n 0, 1) := by decide +kernel
theorem dX10_rest_30 : decode cX10_rest 30 = .ok (.invokevirtual 311, 3) := by decide +kernel
theorem dX10_rest_33 : decode cX10_rest 33 = .ok (.aload_n 0, 1) := by decide +kernel
theorem dX10_rest_34 : decode cX10_rest 34 = .ok (.getfield 9, 3) := by decide +kernel
theorem dX10_rest_37 : decode cX10_rest 37 = .ok (.iload_n 1, 1) := by decide +kernel
theorem dX10_rest_38 : decode cX10_rest 38 = .ok (.iaload, 1) := by decide +kernel
theorem dX10_rest_39 : decode cX10_rest 39 = .ok (.isub, 1) := by decide +kernel
theorem dX10_rest_40 : decode cX10_rest 40 = .ok (.iload_n 2, 1) := by decide +kernel
theorem dX10_rest_41 : decode cX10_rest 41 = .ok (.iadd, 1) := by decide +kernel
theorem dX10_rest_42 : decode cX10_rest 42 = .ok (.bipush 24, 2) := by decide +kernel
theorem dX10_rest_44 : decode cX10_rest 44 = .ok (.if_icmp .le 9, 3) := by decide +kernel
theorem dX10_rest_47 : decode cX10_rest 47 = .ok (.aload_n 0, 1) := by decide +kernel
theorem dX10_rest_48 : decode cX10_rest 48 = .ok (.iconst 1, 1) := by decide +kernel
theorem dX10_rest_49 : decode cX10_rest 49 = .ok (.invokevirtual 361, 3) := by decide +kernel
theorem dX10_rest_52 : decode cX10_rest 52 = .ok (.ireturn, 1) := by decide +kernel
theorem dX10_rest_53 : decode cX10_rest 53 = .ok (.aload_n 0, 1) := by decide +kernel
theorem dX10_rest_54 : decode cX10_rest 54 = .ok (.invokevirtual 367, 3) := by decide +kernel
theorem dX10_rest_57 : decode cX10_rest 57 = .ok (.aload_n 0, 1) := by decide +kernel
theorem dX10_rest_58 : decode cX10_rest 58 = .ok (.getfield 9, 3) := by decide +kernel
theorem dX10_rest_61 : decode cX10_rest 61 = .ok (.iload_n 1, 1) := by decide +kernel
theorem dX10_rest_62 : decode cX10_rest 62 = .ok (.iaload, 1) := by decide +kernel
