theorem dX9_pack_101 : decode cX9_pack 101 = .ok (.getfield 44, 3) := by decide +kernel
theorem dX9_pack_104 : decode cX9_pack 104 = .ok (.lconst 0, 1) := by decide +kernel
theorem dX9_pack_105 : decode cX9_pack 105 = .ok (.invokevirtual 327, 3) := by decide +kernel
theorem dX9_pack_108 : decode cX9_pack 108 = .ok (.aload_n 0, 1) := by decide +kernel
theorem dX9_pack_109 : decode cX9_pack 109 = .ok (.getfield 44, 3) := by decide +kernel
theorem dX9_pack_112 : decode cX9_pack 112 = .ok (.iload_n 1, 1) := by decide +kernel
theorem dX9_pack_113 : decode cX9_pack 113 = .ok (.iload 4, 2) := by decide +kernel
theorem dX9_pack_115 : decode cX9_pack 115 = .ok (.invokevirtual 331, 3) := by decide +kernel
theorem dX9_pack_118 : decode cX9_pack 118 = .ok (.iload 4, 2) := by decide +kernel
theorem dX9_pack_120 : decode cX9_pack 120 = .ok (.ireturn, 1) := by decide +kernel
theorem dX9_put_0 : decode cX9_put 0 = .ok (.aload_n 0, 1) := by decide +kernel
theorem dX9_put_1 : decode cX9_put 1 = .ok (.iload_n 1, 1) := by decide +kernel
theorem dX9_put_2 : decode cX9_put 2 = .ok (.invokevirtual 310, 3) := by decide +kernel
theorem dX9_put_5 : decode cX9_put 5 = .ok (.ifCond .eq 43, 3) := by decide +kernel
theorem dX9_put_8 : decode cX9_put 8 = .ok (.aload_n 0, 1) := by decide +kernel
theorem dX9_put_9 : decode cX9_put 9 = .ok (.getfield 44, 3) := by decide +kernel
theorem dX9_put_12 : decode cX9_put 12 = .ok (.iload_n 2, 1) := by decide +kernel
theorem dX9_put_13 : decode cX9_put 13 = .ok (.invokevirtual 335, 3) := by decide +kernel
theorem dX9_put_16 : decode cX9_put 16 = .ok (.ifCond .eq 32, 3) := by decide +kernel
theorem dX9_put_19 : decode cX9_put 19 = .ok (.aload_n 0, 1) := by decide +kernel
theorem dX9_put_20 : decode cX9_put 20 = .ok (.getfield 44, 3) := by decide +kernel
theorem dX9_put_23 : decode cX9_put 23 = .ok (.iload_n 1, 1) := by decide +kernel
theorem dX9_put_24 : decode cX9_put 24 = .ok (.invokevirtual 168, 3) := by decide +kernel
theorem dX9_put_27 : decode cX9_put 27 = .ok (.iconst 1, 1) := by decide +kernel
theorem dX9_put_28 : decode cX9_put 28 = .ok (.if_icmp .lt 20, 3) := by decide +kernel
theorem dX9_put_31 : decode cX9_put 31 = .ok (.aload_n 0, 1) := by decide +kernel
theorem dX9_put_32 : decode cX9_put 32 = .ok (.iload_n 2, 1) := by decide +kernel
theorem dX9_put_33 : decode cX9_put 33 = .ok (.invokevirtual 338, 3) := by decide +kernel
theorem dX9_put_36 : decode cX9_put 36 = .ok (.aload_n 0, 1) := by decide +kernel
theorem dX9_put_37 : decode cX9_put 37 = .ok (.getfield 34, 3) := by decide +kernel
theorem dX9_put_40 : decode cX9_put 40 = .ok (.getfield 165, 3) := by decide +kernel
theorem dX9_put_43 : decode cX9_put 43 = .ok (.iload_n 1, 1) := by decide +kernel
theorem dX9_put_44 : decode cX9_put 44 = .ok (.iaload, 1) := by decide +kernel
theorem dX9_put_45 : decode cX9_put 45 = .ok (.if_icmp .ge 8, 3) := by decide +kernel
theorem dX9_put_48 : decode cX9_put 48 = .ok (.aload_n 0, 1) := by decide +kernel
theorem dX9_put_49 : decode cX9_put 49 = .ok (.invokevirtual 314, 3) := by decide +kernel
theorem dX9_put_52 : decode cX9_put 52 = .ok (.ireturn, 1) := by decide +kernel
theorem dX9_put_53 : decode cX9_put 53 = .ok (.aload_n 0, 1) := by decide +kernel
theorem dX9_put_54 : decode cX9_put 54 = .ok (.getfield 44, 3) := by decide +kernel
theorem dX9_put_57 : decode cX9_put 57 = .ok (.invokevirtual 324, 3) := by decide +kernel
theorem dX9_put_60 : decode cX9_put 60 = .ok (.aload_n 0, 1) := by decide +kernel
theorem dX9_put_61 : decode cX9_put 61 = .ok (.getfield 44, 3) := by decide +kernel
theorem dX9_put_64 : decode cX9_put 64 = .ok (.iload_n 1, 1) := by decide +kernel
theorem dX9_put_65 : decode cX9_put 65 = .ok (.iload_n 2, 1) := by decide +kernel
theorem dX9_put_66 : decode cX9_put 66 = .ok (.invokevirtual 331, 3) := by decide +kernel
theorem dX9_put_69 : decode cX9_put 69 = .ok (.aload_n 0, 1) := by decide +kernel
theorem dX9_put_70 : decode cX9_put 70 = .ok (.iload_n 2, 1) := by decide +kernel
theorem dX9_put_71 : decode cX9_put 71 = .ok (.invokevirtual 338, 3) := by decide +kernel
theorem dX9_put_74 : decode cX9_put 74 = .ok (.ireturn, 1) := by decide +kernel
theorem dX9_take_0 : decode cX9_take 0 = .ok (.aload_n 0, 1) := by decide +kernel
theorem dX9_take_1 : decode cX9_take 1 = .ok (.iload_n 1, 1) := by decide +kernel
theorem dX9_take_2 : decode cX9_take 2 = .ok (.invokevirtual 310, 3) := by decide +kernel
theorem dX9_take_5 : decode cX9_take 5 = .ok (.ifCond .eq 56, 3) := by decide +kernel
theorem dX9_take_8 : decode cX9_take 8 = .ok (.aload_n 0, 1) := by decide +kernel
theorem dX9_take_9 : decode cX9_take 9 = .ok (.getfield 44, 3) := by decide +kernel
theorem dX9_take_12 : decode cX9_take 12 = .ok (.iload_n 2, 1) := by decide +kernel
theorem dX9_take_13 : decode cX9_take 13 = .ok (.invokevirtual 335, 3) := by decide +kernel
theorem dX9_take_16 : decode cX9_take 16 = .ok (.ifCond .eq 45, 3) := by decide +kernel
theorem dX9_take_19 : decode cX9_take 19 = .ok (.aload_n 0, 1) := by decide +kernel
theorem dX9_take_20 : decode cX9_take 20 = .ok (.getfield 44, 3) := by decide +kernel
theorem dX9_take_23 : decode cX9_take 23 = .ok (.getfield 183, 3) := by decide +kernel
theorem dX9_take_26 : decode cX9_take 26 = .ok (.iload_n 2, 1) := by decide +kernel
theorem dX9_take_27 : decode cX9_take 27 = .ok (.laload, 1) := by decide +kernel
theorem dX9_take_28 : decode cX9_take 28 = .ok (.iload_n 1, 1) := by decide +kernel
theorem dX9_take_29 : decode cX9_take 29 = .ok (.invokestatic 188, 3) := by decide +kernel
theorem dX9_take_32 : decode cX9_take 32 = .ok (.iconst 1, 1) := by decide +kernel
theorem dX9_take_33 : decode cX9_take 33 = .ok (.if_icmp .lt 28, 3) := by decide +kernel
theorem dX9_take_36 : decode cX9_take 36 = .ok (.aload_n 0, 1) := by decide +kernel
theorem dX9_take_37 : decode cX9_take 37 = .ok (.getfield 44, 3) := by decide +kernel
theorem dX9_take_40 : decode cX9_take 40 = .ok (.iload_n 1, 1) := by decide +kernel
theorem dX9_take_41 : decode cX9_take 41 = .ok (.invokevirtual 168, 3) := by decide +kernel
theorem dX9_take_44 : decode cX9_take 44 = .ok (.bipush 12, 2) := by decide +kernel
theorem dX9_take_46 : decode cX9_take 46 = .ok (.if_icmp .ge 15, 3) := by decide +kernel
theorem dX9_take_49 : decode cX9_take 49 = .ok (.aload_n 0, 1) := by decide +kernel
theorem dX9_take_50 : decode cX9_take 50 = .ok (.getfield 44, 3) := by decide +kernel
theorem dX9_take_53 : decode cX9_take 53 = .ok (.invokevirtual 130, 3) := by decide +kernel
theorem dX9_take_56 : decode cX9_take 56 = .ok (.bipush 24, 2) := by decide +kernel
theorem dX9_take_58 : decode cX9_take 58 = .ok (.if_icmp .lt 8, 3) := by decide +kernel
theorem dX9_take_61 : decode cX9_take 61 = .ok (.aload_n 0, 1) := by decide +kernel
theorem dX9_take_62 : decode cX9_take 62 = .ok (.invokevirtual 314, 3) := by decide +kernel
theorem dX9_take_65 : decode cX9_take 65 = .ok (.ireturn, 1) := by decide +kernel
theorem dX9_take_66 : decode cX9_take 66 = .ok (.aload_n 0, 1) := by decide +kernel
theorem dX9_take_67 : decode cX9_take 67 = .ok (.getfield 44, 3) := by decide +kernel
theorem dX9_take_70 : decode cX9_take 70 = .ok (.invokevirtual 324, 3) := by decide +kernel
theorem dX9_take_73 : decode cX9_take 73 = .ok (.aload_n 0, 1) := by decide +kernel
theorem dX9_take_74 : decode cX9_take 74 = .ok (.getfield 44, 3) := by decide +kernel
theorem dX9_take_77 : decode cX9_take 77 = .ok (.iload_n 1, 1) := by decide +kernel
theorem dX9_take_78 : decode cX9_take 78 = .ok (.iload_n 2, 1) := by decide +kernel
theorem dX9_take_79 : decode cX9_take 79 = .ok (.invokevirtual 341, 3) := by decide +kernel
theorem dX9_take_82 : decode cX9_take 82 = .ok (.aload_n 0, 1) := by decide +kernel
theorem dX9_take_83 : decode cX9_take 83 = .ok (.getfield 44, 3) := by decide +kernel
theorem dX9_take_86 : decode cX9_take 86 = .ok (.getfield 183, 3) := by decide +kernel
theorem dX9_take_89 : decode cX9_take 89 = .ok (.iload_n 2, 1) := by decide +kernel
theorem dX9_take_90 : decode cX9_take 90 = .ok (.laload, 1) := by decide +kernel
theorem dX9_take_91 : decode cX9_take 91 = .ok (.lconst 0, 1) := by decide +kernel
theorem dX9_take_92 : decode cX9_take 92 = .ok (.lcmp, 1) := by decide +kernel
theorem dX9_take_93 : decode cX9_take 93 = .ok (.ifCond .ne 11, 3) := by decide +kernel
theorem dX9_take_96 : decode cX9_take 96 = .ok (.aload_n 0, 1) := by decide +kernel
theorem dX9_take_97 : decode cX9_take 97 = .ok (.getfield 44, 3) := by decide +kernel
theorem dX9_take_100 : decode cX9_take 100 = .ok (.iload_n 2, 1) := by decide +kernel
theorem dX9_take_101 : decode cX9_take 101 = .ok (.invokevirtual 344, 3) := by decide +kernel
theorem dX9_take_104 : decode cX9_take 104 = .ok (.aload_n 0, 1) := by decide +kernel
theorem dX9_take_105 : decode cX9_take 105 = .ok (.getfield 44, 3) := by decide +kernel
theorem dX9_take_108 : decode cX9_take 108 = .ok (.invokevirtual 134, 3) := by decide +kernel
theorem dX9_take_111 : decode cX9_take 111 = .ok (.ireturn, 1) := by decide +kernel
theorem dX9_rest_0 : decode cX9_rest 0 = .ok (.aload_n 0, 1) := by decide +kernel
theorem dX9_rest_1 : decode cX9_rest 1 = .ok (.iload_n 1, 1) := by decide +kernel
theorem dX9_rest_2 : decode cX9_rest 2 = .ok (.invokevirtual 310, 3) := by decide +kernel
theorem dX9_rest_5 : decode cX9_rest 5 = .ok (.ifCond .eq 36, 3) := by decide +kernel
theorem dX9_rest_8 : decode cX9_rest 8 = .ok (.iload_n 2, 1) := by decide +kernel
theorem dX9_rest_9 : decode cX9_rest 9 = .ok (.ifCond .lt 32, 3) := by decide +kernel
theorem dX9_rest_12 : decode cX9_rest 12 = .ok (.iload_n 2, 1) := by decide +kernel
theorem dX9_rest_13 : decode cX9_rest 13 = .ok (.bipush 12, 2) := by decide +kernel
theorem dX9_rest_15 : decode cX9_rest 15 = .ok (.if_icmp .gt 26, 3) := by decide +kernel
theorem dX9_rest_18 : decode cX9_rest 18 = .ok (.aload_n 0, 1) := by decide +kernel
theorem dX9_rest_19 : decode cX9_rest 19 = .ok (.getfield 44, 3) := by decide +kernel
theorem dX9_rest_22 : decode cX9_rest 22 = .ok (.invokevirtual 130, 3) := by decide +kernel
theorem dX9_rest_25 : decode cX9_rest 25 = .ok (.aload_n 0, 1) := by decide +kernel
theorem dX9_rest_26 : decode cX9_rest 26 = .ok (.getfield 44, 3) := by decide +kernel
theorem dX9_rest_29 : decode cX9_rest 29 = .ok (.iload_n 1, 1) := by decide +kernel
theorem dX9_rest_30 : decode cX9_rest 30 = .ok (.invokevirtual 168, 3) := by decide +kernel
theorem dX9_rest_33 : decode cX9_rest 33 = .ok (.isub, 1) := by decide +kernel
theorem dX9_rest_34 : decode cX9_rest 34 = .ok (.iload_n 2, 1) := by decide +kernel
theorem dX9_rest_35 : decode cX9_rest 35 = .ok (.iadd, 1) := by decide +kernel
theorem dX9_rest_36 : decode cX9_rest 36 = .ok (.bipush 24, 2) := by decide +kernel
theorem dX9_rest_38 : decode cX9_rest 38 = .ok (.if_icmp .le 8, 3) := by decide +kernel
theorem dX9_rest_41 : decode cX9_rest 41 = .ok (.aload_n 0, 1) := by decide +kernel
theorem dX9_rest_42 : decode cX9_rest 42 = .ok (.invokevirtual 314, 3) := by decide +kernel
theorem dX9_rest_45 : decode cX9_rest 45 = .ok (.ireturn, 1) := by decide +kernel
theorem dX9_rest_46 : decode cX9_rest 46 = .ok (.aload_n 0, 1) := by decide +kernel
theorem dX9_rest_47 : decode cX9_rest 47 = .ok (.getfield 44, 3) := by decide +kernel
theorem dX9_rest_50 : decode cX9_rest 50 = .ok (.iload_n 1, 1) := by decide +kernel
theorem dX9_rest_51 : decode cX9_rest 51 = .ok (.invokevirtual 168, 3) := by decide +kernel
theorem dX9_rest_54 : decode cX9_rest 54 = .ok (.istore_n 3, 1) := by decide +kernel
theorem dX9_rest_55 : decode cX9_rest 55 = .ok (.aload_n 0, 1) := by decide +kernel
theorem dX9_rest_56 : decode cX9_rest 56 = .ok (.getfield 44, 3) := by decide +kernel
theorem dX9_rest_59 : decode cX9_rest 59 = .ok (.invokevirtual 324, 3) := by decide +kernel
theorem dX9_rest_62 : decode cX9_rest 62 = .ok (.aload_n 0, 1) := by decide +kernel
theorem dX9_rest_63 : decode cX9_rest 63 = .ok (.getfield 44, 3) := by decide +kernel
theorem dX9_rest_66 : decode cX9_rest 66 = .ok (.getfield 183, 3) := by decide +kernel
theorem dX9_rest_69 : decode cX9_rest 69 = .ok (.bipush 12, 2) := by decide +kernel
theorem dX9_rest_71 : decode cX9_rest 71 = .ok (.dup2, 1) := by decide +kernel
theorem dX9_rest_72 : decode cX9_rest 72 = .ok (.laload, 1) := by decide +kernel
theorem dX9_rest_73 : decode cX9_rest 73 = .ok (.iload_n 2, 1) := by decide +kernel
theorem dX9_rest_74 : decode cX9_rest 74 = .ok (.iload_n 3, 1) := by decide +kernel
theorem dX9_rest_75 : decode cX9_rest 75 = .ok (.isub, 1) := by decide +kernel
theorem dX9_rest_76 : decode cX9_rest 76 = .ok (.i2l, 1) := by decide +kernel
theorem dX9_rest_77 : decode cX9_rest 77 = .ok (.iload_n 1, 1) := by decide +kernel
theorem dX9_rest_78 : decode cX9_rest 78 = .ok (.invokestatic 347, 3) := by decide +kernel
theorem dX9_rest_81 : decode cX9_rest 81 = .ok (.lmul, 1) := by decide +kernel
theorem dX9_rest_82 : decode cX9_rest 82 = .ok (.ladd, 1) := by decide +kernel
theorem dX9_rest_83 : decode cX9_rest 83 = .ok (.lastore, 1) := by decide +kernel
theorem dX9_rest_84 : decode cX9_rest 84 = .ok (.iload_n 3, 1) := by decide +kernel
theorem dX9_rest_85 : decode cX9_rest 85 = .ok (.ireturn, 1) := by decide +kernel
theorem dX9_load_0 : decode cX9_load 0 = .ok (.aload_n 0, 1) := by decide +kernel
theorem dX9_load_1 : decode cX9_load 1 = .ok (.getfield 44, 3) := by decide +kernel
theorem dX9_load_4 : decode cX9_load 4 = .ok (.invokevirtual 130, 3) := by decide +kernel
theorem dX9_load_7 : decode cX9_load 7 = .ok (.iconst 1, 1) := by decide +kernel
theorem dX9_load_8 : decode cX9_load 8 = .ok (.if_icmp .lt 15, 3) := by decide +kernel
theorem dX9_load_11 : decode cX9_load 11 = .ok (.aload_n 0, 1) := by decide +kernel
theorem dX9_load_12 : decode cX9_load 12 = .ok (.getfield 44, 3) := by decide +kernel
theorem dX9_load_15 : decode cX9_load 15 = .ok (.invokevirtual 134, 3) := by decide +kernel
theorem dX9_load_18 : decode cX9_load 18 = .ok (.bipush 12, 2) := by decide +kernel
theorem dX9_load_20 : decode cX9_load 20 = .ok (.if_icmp .lt 8, 3) := by decide +kernel
theorem dX9_load_23 : decode cX9_load 23 = .ok (.aload_n 0, 1) := by decide +kernel
theorem dX9_load_24 : decode cX9_load 24 = .ok (.invokevirtual 314, 3) := by decide +kernel
theorem dX9_load_27 : decode cX9_load 27 = .ok (.ireturn, 1) := by decide +kernel
theorem dX9_load_28 : decode cX9_load 28 = .ok (.aload_n 0, 1) := by decide +kernel
theorem dX9_load_29 : decode cX9_load 29 = .ok (.getfield 61, 3) := by decide +kernel
theorem dX9_load_32 : decode cX9_load 32 = .ok (.aload_n 0, 1) := by decide +kernel
theorem dX9_load_33 : decode cX9_load 33 = .ok (.invokevirtual 140, 3) := by decide +kernel
theorem dX9_load_36 : decode cX9_load 36 = .ok (.invokevirtual 209, 3) := by decide +kernel
theorem dX9_load_39 : decode cX9_load 39 = .ok (.pop, 1) := by decide +kernel
theorem dX9_load_40 : decode cX9_load 40 = .ok (.aload_n 0, 1) := by decide +kernel
theorem dX9_load_41 : decode cX9_load 41 = .ok (.getfield 61, 3) := by decide +kernel
theorem dX9_load_44 : decode cX9_load 44 = .ok (.invokevirtual 351, 3) := by decide +kernel
theorem dX9_load_47 : decode cX9_load 47 = .ok (.lstore_n 1, 1) := by decide +kernel
theorem dX9_load_48 : decode cX9_load 48 = .ok (.aload_n 0, 1) := by decide +kernel
theorem dX9_load_49 : decode cX9_load 49 = .ok (.getfield 44, 3) := by decide +kernel
theorem dX9_load_52 : decode cX9_load 52 = .ok (.invokevirtual 324, 3) := by decide +kernel
theorem dX9_load_55 : decode cX9_load 55 = .ok (.aload_n 0, 1) := by decide +kernel
theorem dX9_load_56 : decode cX9_load 56 = .ok (.getfield 44, 3) := by decide +kernel
theorem dX9_load_59 : decode cX9_load 59 = .ok (.getfield 183, 3) := by decide +kernel
theorem dX9_load_62 : decode cX9_load 62 = .ok (.bipush 12, 2) := by decide +kernel
theorem dX9_load_64 : decode cX9_load 64 = .ok (.dup2, 1) := by decide +kernel
theorem dX9_load_65 : decode cX9_load 65 = .ok (.laload, 1) := by decide +kernel
theorem dX9_load_66 : decode cX9_load 66 = .ok (.lload_n 1, 1) := by decide +kernel
theorem dX9_load_67 : decode cX9_load 67 = .ok (.lsub, 1) := by decide +kernel
theorem dX9_load_68 : decode cX9_load 68 = .ok (.lastore, 1) := by decide +kernel
theorem dX9_load_69 : decode cX9_load 69 = .ok (.aload_n 0, 1) := by decide +kernel
theorem dX9_load_70 : decode cX9_load 70 = .ok (.getfield 44, 3) := by decide +kernel
theorem dX9_load_73 : decode cX9_load 73 = .ok (.lload_n 1, 1) := by decide +kernel
theorem dX9_load_74 : decode cX9_load 74 = .ok (.invokevirtual 327, 3) := by decide +kernel
theorem dX9_load_77 : decode cX9_load 77 = .ok (.aload_n 0, 1) := by decide +kernel
theorem dX9_load_78 : decode cX9_load 78 = .ok (.getfield 34, 3) := by decide +kernel
theorem dX9_load_81 : decode cX9_load 81 = .ok (.lload_n 1, 1) := by decide +kernel
theorem dX9_load_82 : decode cX9_load 82 = .ok (.invokevirtual 184, 3) := by decide +kernel
theorem dX9_load_85 : decode cX9_load 85 = .ok (.ireturn, 1) := by decide +kernel
theorem dX9_join_0 : decode cX9_join 0 = .ok (.aload_n 0, 1) := by decide +kernel
theorem dX9_join_1 : decode cX9_join 1 = .ok (.getfield 44, 3) := by decide +kernel
theorem dX9_join_4 : decode cX9_join 4 = .ok (.iload_n 1, 1) := by decide +kernel
theorem dX9_join_5 : decode cX9_join 5 = .ok (.invokevirtual 335, 3) := by decide +kernel
theorem dX9_join_8 : decode cX9_join 8 = .ok (.ifCond .eq 43, 3) := by decide +kernel
theorem dX9_join_11 : decode cX9_join 11 = .ok (.aload_n 0, 1) := by decide +kernel
theorem dX9_join_12 : decode cX9_join 12 = .ok (.getfield 44, 3) := by decide +kernel
theorem dX9_join_15 : decode cX9_join 15 = .ok (.iload_n 2, 1) := by decide +kernel
theorem dX9_join_16 : decode cX9_join 16 = .ok (.invokevirtual 335, 3) := by decide +kernel
theorem dX9_join_19 : decode cX9_join 19 = .ok (.ifCond .eq 32, 3) := by decide +kernel
theorem dX9_join_22 : decode cX9_join 22 = .ok (.iload_n 1, 1) := by decide +kernel
theorem dX9_join_23 : decode cX9_join 23 = .ok (.iload_n 2, 1) := by decide +kernel
theorem dX9_join_24 : decode cX9_join 24 = .ok (.if_icmp .eq 27, 3) := by decide +kernel
theorem dX9_join_27 : decode cX9_join 27 = .ok (.aload_n 0, 1) := by decide +kernel
theorem dX9_join_28 : decode cX9_join 28 = .ok (.iload_n 1, 1) := by decide +kernel
theorem dX9_join_29 : decode cX9_join 29 = .ok (.invokevirtual 338, 3) := by decide +kernel
theorem dX9_join_32 : decode cX9_join 32 = .ok (.aload_n 0, 1) := by decide +kernel
theorem dX9_join_33 : decode cX9_join 33 = .ok (.getfield 34, 3) := by decide +kernel
theorem dX9_join_36 : decode cX9_join 36 = .ok (.aload_n 0, 1) := by decide +kernel
theorem dX9_join_37 : decode cX9_join 37 = .ok (.getfield 44, 3) := by decide +kernel
theorem dX9_join_40 : decode cX9_join 40 = .ok (.getfield 183, 3) := by decide +kernel
theorem dX9_join_43 : decode cX9_join 43 = .ok (.iload_n 2, 1) := by decide +kernel
theorem dX9_join_44 : decode cX9_join 44 = .ok (.laload, 1) := by decide +kernel
theorem dX9_join_45 : decode cX9_join 45 = .ok (.invokevirtual 184, 3) := by decide +kernel
theorem dX9_join_48 : decode cX9_join 48 = .ok (.if_icmp .ge 8, 3) := by decide +kernel
theorem dX9_join_51 : decode cX9_join 51 = .ok (.aload_n 0, 1) := by decide +kernel
theorem dX9_join_52 : decode cX9_join 52 = .ok (.invokevirtual 314, 3) := by decide +kernel
theorem dX9_join_55 : decode cX9_join 55 = .ok (.ireturn, 1) := by decide +kernel
theorem dX9_join_56 : decode cX9_join 56 = .ok (.aload_n 0, 1) := by decide +kernel
theorem dX9_join_57 : decode cX9_join 57 = .ok (.iload_n 1, 1) := by decide +kernel
theorem dX9_join_58 : decode cX9_join 58 = .ok (.invokevirtual 338, 3) := by decide +kernel
theorem dX9_join_61 : decode cX9_join 61 = .ok (.aload_n 0, 1) := by decide +kernel
theorem dX9_join_62 : decode cX9_join 62 = .ok (.getfield 34, 3) := by decide +kernel
theorem dX9_join_65 : decode cX9_join 65 = .ok (.aload_n 0, 1) := by decide +kernel
theorem dX9_join_66 : decode cX9_join 66 = .ok (.getfield 44, 3) := by decide +kernel
theorem dX9_join_69 : decode cX9_join 69 = .ok (.getfield 183, 3) := by decide +kernel
theorem dX9_join_72 : decode cX9_join 72 = .ok (.iload_n 2, 1) := by decide +kernel
theorem dX9_join_73 : decode cX9_join 73 = .ok (.laload, 1) := by decide +kernel
theorem dX9_join_74 : decode cX9_join 74 = .ok (.invokevirtual 184, 3) := by decide +kernel
theorem dX9_join_77 : decode cX9_join 77 = .ok (.isub, 1) := by decide +kernel
theorem dX9_join_78 : decode cX9_join 78 = .ok (.istore_n 3, 1) := by decide +kernel
theorem dX9_join_79 : decode cX9_join 79 = .ok (.aload_n 0, 1) := by decide +kernel
theorem dX9_join_80 : decode cX9_join 80 = .ok (.getfield 44, 3) := by decide +kernel
theorem dX9_join_83 : decode cX9_join 83 = .ok (.invokevirtual 324, 3) := by decide +kernel
theorem dX9_join_86 : decode cX9_join 86 = .ok (.aload_n 0, 1) := by decide +kernel
theorem dX9_join_87 : decode cX9_join 87 = .ok (.getfield 44, 3) := by decide +kernel
theorem dX9_join_90 : decode cX9_join 90 = .ok (.getfield 183, 3) := by decide +kernel
theorem dX9_join_93 : decode cX9_join 93 = .ok (.iload_n 1, 1) := by decide +kernel
theorem dX9_join_94 : decode cX9_join 94 = .ok (.dup2, 1) := by decide +kernel
theorem dX9_join_95 : decode cX9_join 95 = .ok (.laload, 1) := by decide +kernel
theorem dX9_join_96 : decode cX9_join 96 = .ok (.aload_n 0, 1) := by decide +kernel
theorem dX9_join_97 : decode cX9_join 97 = .ok (.getfield 44, 3) := by decide +kernel
theorem dX9_join_100 : decode cX9_join 100 = .ok (.getfield 183, 3) := by decide +kernel
theorem dX9_join_103 : decode cX9_join 103 = .ok (.iload_n 2, 1) := by decide +kernel
theorem dX9_join_104 : decode cX9_join 104 = .ok (.laload, 1) := by decide +kernel
theorem dX9_join_105 : decode cX9_join 105 = .ok (.ladd, 1) := by decide +kernel
theorem dX9_join_106 : decode cX9_join 106 = .ok (.lastore, 1) := by decide +kernel
theorem dX9_join_107 : decode cX9_join 107 = .ok (.aload_n 0, 1) := by decide +kernel
theorem dX9_join_108 : decode cX9_join 108 = .ok (.getfield 44, 3) := by decide +kernel
theorem dX9_join_111 : decode cX9_join 111 = .ok (.iload_n 2, 1) := by decide +kernel
theorem dX9_join_112 : decode cX9_join 112 = .ok (.invokevirtual 344, 3) := by decide +kernel
theorem dX9_join_115 : decode cX9_join 115 = .ok (.iload_n 3, 1) := by decide +kernel
theorem dX9_join_116 : decode cX9_join 116 = .ok (.ireturn, 1) := by decide +kernel
theorem dX9_undo_0 : decode cX9_undo 0 = .ok (.aload_n 0, 1) := by decide +kernel
theorem dX9_undo_1 : decode cX9_undo 1 = .ok (.getfield 44, 3) := by decide +kernel
theorem dX9_undo_4 : decode cX9_undo 4 = .ok (.invokevirtual 355, 3) := by decide +kernel
theorem dX9_undo_7 : decode cX9_undo 7 = .ok (.ifCond .eq 13, 3) := by decide +kernel
theorem dX9_undo_10 : decode cX9_undo 10 = .ok (.aload_n 0, 1) := by decide +kernel
theorem dX9_undo_11 : decode cX9_undo 11 = .ok (.getfield 44, 3) := by decide +kernel
theorem dX9_undo_14 : decode cX9_undo 14 = .ok (.getfield 151, 3) := by decide +kernel
theorem dX9_undo_17 : decode cX9_undo 17 = .ok (.goto 4, 3) := by decide +kernel
theorem dX9_undo_20 : decode cX9_undo 20 = .ok (.iconst (-1), 1) := by decide +kernel
theorem dX9_undo_21 : decode cX9_undo 21 = .ok (.ireturn, 1) := by decide +kernel
theorem dX9_topUp_0 : decode cX9_topUp 0 = .ok (.aload_n 0, 1) := by decide +kernel
theorem dX9_topUp_1 : decode cX9_topUp 1 = .ok (.iload_n 1, 1) := by decide +kernel
theorem dX9_topUp_2 : decode cX9_topUp 2 = .ok (.invokevirtual 180, 3) := by decide +kernel
theorem dX9_topUp_5 : decode cX9_topUp 5 = .ok (.aload_n 0, 1) := by decide +kernel
theorem dX9_topUp_6 : decode cX9_topUp 6 = .ok (.iload_n 2, 1) := by decide +kernel
theorem dX9_topUp_7 : decode cX9_topUp 7 = .ok (.invokevirtual 254, 3) := by decide +kernel
theorem dX9_topUp_10 : decode cX9_topUp 10 = .ok (.aload_n 0, 1) := by decide +kernel
theorem dX9_topUp_11 : decode cX9_topUp 11 = .ok (.invokevirtual 140, 3) := by decide +kernel
theorem dX9_topUp_14 : decode cX9_topUp 14 = .ok (.astore_n 3, 1) := by decide +kernel
theorem dX9_topUp_15 : decode cX9_topUp 15 = .ok (.aload_n 0, 1) := by decide +kernel
theorem dX9_topUp_16 : decode cX9_topUp 16 = .ok (.getfield 68, 3) := by decide +kernel
theorem dX9_topUp_19 : decode cX9_topUp 19 = .ok (.aload_n 3, 1) := by decide +kernel
theorem dX9_topUp_20 : decode cX9_topUp 20 = .ok (.aload_n 0, 1) := by decide +kernel
theorem dX9_topUp_21 : decode cX9_topUp 21 = .ok (.iload_n 1, 1) := by decide +kernel
theorem dX9_topUp_22 : decode cX9_topUp 22 = .ok (.invokevirtual 338, 3) := by decide +kernel
theorem dX9_topUp_25 : decode cX9_topUp 25 = .ok (.aload_n 0, 1) := by decide +kernel
theorem dX9_topUp_26 : decode cX9_topUp 26 = .ok (.getfield 79, 3) := by decide +kernel
theorem dX9_topUp_29 : decode cX9_topUp 29 = .ok (.invokevirtual 359, 3) := by decide +kernel
theorem dX9_topUp_32 : decode cX9_topUp 32 = .ok (.iload_n 2, 1) := by decide +kernel
theorem dX9_topUp_33 : decode cX9_topUp 33 = .ok (.iconst (-1), 1) := by decide +kernel
theorem dX9_topUp_34 : decode cX9_topUp 34 = .ok (.if_icmp .ne 14, 3) := by decide +kernel
theorem dX9_topUp_37 : decode cX9_topUp 37 = .ok (.aload_n 3, 1) := by decide +kernel
theorem dX9_topUp_38 : decode cX9_topUp 38 = .ok (.aload_n 0, 1) := by decide +kernel
theorem dX9_topUp_39 : decode cX9_topUp 39 = .ok (.getfield 79, 3) := by decide +kernel
theorem dX9_topUp_42 : decode cX9_topUp 42 = .ok (.invokevirtual 263, 3) := by decide +kernel
theorem dX9_topUp_45 : decode cX9_topUp 45 = .ok (.goto 9, 3) := by decide +kernel
theorem dX9_topUp_48 : decode cX9_topUp 48 = .ok (.aload_n 0, 1) := by decide +kernel
theorem dX9_topUp_49 : decode cX9_topUp 49 = .ok (.getfield 79, 3) := by decide +kernel
theorem dX9_topUp_52 : decode cX9_topUp 52 = .ok (.iload_n 2, 1) := by decide +kernel
theorem dX9_topUp_53 : decode cX9_topUp 53 = .ok (.iaload, 1) := by decide +kernel
theorem dX9_topUp_54 : decode cX9_topUp 54 = .ok (.ireturn, 1) := by decide +kernel
theorem dX9_toHold_0 : decode cX9_toHold 0 = .ok (.iload_n 1, 1) := by decide +kernel
theorem dX9_toHold_1 : decode cX9_toHold 1 = .ok (.iconst 1, 1) := by decide +kernel
theorem dX9_toHold_2 : decode cX9_toHold 2 = .ok (.if_icmp .lt 9, 3) := by decide +kernel
theorem dX9_toHold_5 : decode cX9_toHold 5 = .ok (.iload_n 1, 1) := by decide +kernel
theorem dX9_toHold_6 : decode cX9_toHold 6 = .ok (.bipush 24, 2) := by decide +kernel
theorem dX9_toHold_8 : decode cX9_toHold 8 = .ok (.if_icmp .le 14, 3) := by decide +kernel
theorem dX9_toHold_11 : decode cX9_toHold 11 = .ok (.new 90, 3) := by decide +kernel
theorem dX9_toHold_14 : decode cX9_toHold 14 = .ok (.dup, 1) := by decide +kernel
theorem dX9_toHold_15 : decode cX9_toHold 15 = .ok (.ldc_w 363, 3) := by decide +kernel
theorem dX9_toHold_18 : decode cX9_toHold 18 = .ok (.invokespecial 94, 3) := by decide +kernel
theorem dX9_toHold_21 : decode cX9_toHold 21 = .ok (.athrow, 1) := by decide +kernel
theorem dX9_toHold_22 : decode cX9_toHold 22 = .ok (.aload_n 0, 1) := by decide +kernel
theorem dX9_toHold_23 : decode cX9_toHold 23 = .ok (.invokevirtual 140, 3) := by decide +kernel
theorem dX9_toHold_26 : decode cX9_toHold 26 = .ok (.astore_n 2, 1) := by decide +kernel
theorem dX9_toHold_27 : decode cX9_toHold 27 = .ok (.aload_n 2, 1) := by decide +kernel
theorem dX9_toHold_28 : decode cX9_toHold 28 = .ok (.aload_n 2, 1) := by decide +kernel
theorem dX9_toHold_29 : decode cX9_toHold 29 = .ok (.getfield 212, 3) := by decide +kernel
theorem dX9_toHold_32 : decode cX9_toHold 32 = .ok (.invokevirtual 263, 3) := by decide +kernel
theorem dX9_toHold_35 : decode cX9_toHold 35 = .ok (.iload_n 1, 1) := by decide +kernel
theorem dX9_toHold_36 : decode cX9_toHold 36 = .ok (.invokestatic 365, 3) := by decide +kernel
theorem dX9_toHold_39 : decode cX9_toHold 39 = .ok (.iconst 1, 1) := by decide +kernel
theorem dX9_toHold_40 : decode cX9_toHold 40 = .ok (.invokestatic 369, 3) := by decide +kernel
theorem dX9_toHold_43 : decode cX9_toHold 43 = .ok (.istore_n 3, 1) := by decide +kernel
theorem dX9_toHold_44 : decode cX9_toHold 44 = .ok (.iload_n 3, 1) := by decide +kernel
theorem dX9_toHold_45 : decode cX9_toHold 45 = .ok (.aload_n 2, 1) := by decide +kernel
theorem dX9_toHold_46 : decode cX9_toHold 46 = .ok (.invokevirtual 374, 3) := by decide +kernel
theorem dX9_toHold_49 : decode cX9_toHold 49 = .ok (.invokestatic 369, 3) := by decide +kernel
theorem dX9_toHold_52 : decode cX9_toHold 52 = .ok (.istore 4, 2) := by decide +kernel
theorem dX9_toHold_54 : decode cX9_toHold 54 = .ok (.iload 4, 2) := by decide +kernel
theorem dX9_toHold_56 : decode cX9_toHold 56 = .ok (.bipush 99, 2) := by decide +kernel
theorem dX9_toHold_58 : decode cX9_toHold 58 = .ok (.if_icmp .gt 30, 3) := by decide +kernel
theorem dX9_toHold_61 : decode cX9_toHold 61 = .ok (.aload_n 2, 1) := by decide +kernel
theorem dX9_toHold_62 : decode cX9_toHold 62 = .ok (.iload 4, 2) := by decide +kernel
theorem dX9_toHold_64 : decode cX9_toHold 64 = .ok (.putfield 124, 3) := by decide +kernel
theorem dX9_toHold_67 : decode cX9_toHold 67 = .ok (.aload_n 0, 1) := by decide +kernel
theorem dX9_toHold_68 : decode cX9_toHold 68 = .ok (.getfield 61, 3) := by decide +kernel
theorem dX9_toHold_71 : decode cX9_toHold 71 = .ok (.aload_n 2, 1) := by decide +kernel
theorem dX9_toHold_72 : decode cX9_toHold 72 = .ok (.invokevirtual 209, 3) := by decide +kernel
theorem dX9_toHold_75 : decode cX9_toHold 75 = .ok (.iload_n 1, 1) := by decide +kernel
theorem dX9_toHold_76 : decode cX9_toHold 76 = .ok (.if_icmp .gt 6, 3) := by decide +kernel
theorem dX9_toHold_79 : decode cX9_toHold 79 = .ok (.iload 4, 2) := by decide +kernel
theorem dX9_toHold_81 : decode cX9_toHold 81 = .ok (.ireturn, 1) := by decide +kernel
theorem dX9_toHold_82 : decode cX9_toHold 82 = .ok (.iinc 4 1, 3) := by decide +kernel
theorem dX9_toHold_85 : decode cX9_toHold 85 = .ok (.goto (-31), 3) := by decide +kernel
theorem dX9_toHold_88 : decode cX9_toHold 88 = .ok (.iconst (-1), 1) := by decide +kernel
theorem dX9_toHold_89 : decode cX9_toHold 89 = .ok (.ireturn, 1) := by decide +kernel
theorem dX9_spare_0 : decode cX9_spare 0 = .ok (.aload_n 0, 1) := by decide +kernel
theorem dX9_spare_1 : decode cX9_spare 1 = .ok (.iload_n 1, 1) := by decide +kernel
theorem dX9_spare_2 : decode cX9_spare 2 = .ok (.invokevirtual 162, 3) := by decide +kernel
theorem dX9_spare_5 : decode cX9_spare 5 = .ok (.aload_n 0, 1) := by decide +kernel
theorem dX9_spare_6 : decode cX9_spare 6 = .ok (.invokevirtual 140, 3) := by decide +kernel
theorem dX9_spare_9 : decode cX9_spare 9 = .ok (.astore_n 2, 1) := by decide +kernel
theorem dX9_spare_10 : decode cX9_spare 10 = .ok (.aload_n 0, 1) := by decide +kernel
theorem dX9_spare_11 : decode cX9_spare 11 = .ok (.getfield 61, 3) := by decide +kernel
theorem dX9_spare_14 : decode cX9_spare 14 = .ok (.aload_n 2, 1) := by decide +kernel
theorem dX9_spare_15 : decode cX9_spare 15 = .ok (.invokevirtual 209, 3) := by decide +kernel
theorem dX9_spare_18 : decode cX9_spare 18 = .ok (.istore_n 3, 1) := by decide +kernel
theorem dX9_spare_19 : decode cX9_spare 19 = .ok (.bipush 12, 2) := by decide +kernel
theorem dX9_spare_21 : decode cX9_spare 21 = .ok (.bipush 24, 2) := by decide +kernel
theorem dX9_spare_23 : decode cX9_spare 23 = .ok (.aload_n 2, 1) := by decide +kernel
theorem dX9_spare_24 : decode cX9_spare 24 = .ok (.invokevirtual 377, 3) := by decide +kernel
theorem dX9_spare_27 : decode cX9_spare 27 = .ok (.isub, 1) := by decide +kernel
theorem dX9_spare_28 : decode cX9_spare 28 = .ok (.invokestatic 379, 3) := by decide +kernel
theorem dX9_spare_31 : decode cX9_spare 31 = .ok (.istore 4, 2) := by decide +kernel
theorem dX9_spare_33 : decode cX9_spare 33 = .ok (.iconst 1, 1) := by decide +kernel
theorem dX9_spare_34 : decode cX9_spare 34 = .ok (.istore 5, 2) := by decide +kernel
theorem dX9_spare_36 : decode cX9_spare 36 = .ok (.iload 5, 2) := by decide +kernel
theorem dX9_spare_38 : decode cX9_spare 38 = .ok (.iload 4, 2) := by decide +kernel
theorem dX9_spare_40 : decode cX9_spare 40 = .ok (.if_icmp .gt 36, 3) := by decide +kernel
theorem dX9_spare_43 : decode cX9_spare 43 = .ok (.aload_n 2, 1) := by decide +kernel
theorem dX9_spare_44 : decode cX9_spare 44 = .ok (.getfield 212, 3) := by decide +kernel
theorem dX9_spare_47 : decode cX9_spare 47 = .ok (.iload_n 1, 1) := by decide +kernel
theorem dX9_spare_48 : decode cX9_spare 48 = .ok (.dup2, 1) := by decide +kernel
theorem dX9_spare_49 : decode cX9_spare 49 = .ok (.iaload, 1) := by decide +kernel
theorem dX9_spare_50 : decode cX9_spare 50 = .ok (.iconst 1, 1) := by decide +kernel
theorem dX9_spare_51 : decode cX9_spare 51 = .ok (.iadd, 1) := by decide +kernel
theorem dX9_spare_52 : decode cX9_spare 52 = .ok (.iastore, 1) := by decide +kernel
theorem dX9_spare_53 : decode cX9_spare 53 = .ok (.aload_n 0, 1) := by decide +kernel
theorem dX9_spare_54 : decode cX9_spare 54 = .ok (.getfield 61, 3) := by decide +kernel
theorem dX9_spare_57 : decode cX9_spare 57 = .ok (.aload_n 2, 1) := by decide +kernel
theorem dX9_spare_58 : decode cX9_spare 58 = .ok (.invokevirtual 209, 3) := by decide +kernel
theorem dX9_spare_61 : decode cX9_spare 61 = .ok (.iload_n 3, 1) := by decide +kernel
theorem dX9_spare_62 : decode cX9_spare 62 = .ok (.if_icmp .eq 8, 3) := by decide +kernel
theorem dX9_spare_65 : decode cX9_spare 65 = .ok (.iload 5, 2) := by decide +kernel
theorem dX9_spare_67 : decode cX9_spare 67 = .ok (.iconst 1, 1) := by decide +kernel
theorem dX9_spare_68 : decode cX9_spare 68 = .ok (.isub, 1) := by decide +kernel
theorem dX9_spare_69 : decode cX9_spare 69 = .ok (.ireturn, 1) := by decide +kernel
theorem dX9_spare_70 : decode cX9_spare 70 = .ok (.iinc 5 1, 3) := by decide +kernel
theorem dX9_spare_73 : decode cX9_spare 73 = .ok (.goto (-37), 3) := by decide +kernel
theorem dX9_spare_76 : decode cX9_spare 76 = .ok (.iload 4, 2) := by decide +kernel
theorem dX9_spare_78 : decode cX9_spare 78 = .ok (.iconst 0, 1) := by decide +kernel
theorem dX9_spare_79 : decode cX9_spare 79 = .ok (.invokestatic 369, 3) := by decide +kernel
theorem dX9_spare_82 : decode cX9_spare 82 = .ok (.ireturn, 1) := by decide +kernel
theorem dX9_note_0 : decode cX9_note 0 = .ok (.iload_n 1, 1) := by decide +kernel
theorem dX9_note_1 : decode cX9_note 1 = .ok (.ifCond .lt 31, 3) := by decide +kernel
theorem dX9_note_4 : decode cX9_note 4 = .ok (.iload_n 1, 1) := by decide +kernel
theorem dX9_note_5 : decode cX9_note 5 = .ok (.bipush 8, 2) := by decide +kernel
theorem dX9_note_7 : decode cX9_note 7 = .ok (.if_icmp .ge 25, 3) := by decide +kernel
theorem dX9_note_10 : decode cX9_note 10 = .ok (.iload_n 2, 1) := by decide +kernel
theorem dX9_note_11 : decode cX9_note 11 = .ok (.ifCond .lt 21, 3) := by decide +kernel
theorem dX9_note_14 : decode cX9_note 14 = .ok (.iload_n 2, 1) := by decide +kernel
theorem dX9_note_15 : decode cX9_note 15 = .ok (.bipush 24, 2) := by decide +kernel
theorem dX9_note_17 : decode cX9_note 17 = .ok (.if_icmp .gt 15, 3) := by decide +kernel
theorem dX9_note_20 : decode cX9_note 20 = .ok (.aload_n 0, 1) := by decide +kernel
theorem dX9_note_21 : decode cX9_note 21 = .ok (.getfield 44, 3) := by decide +kernel
theorem dX9_note_24 : decode cX9_note 24 = .ok (.iload_n 1, 1) := by decide +kernel
theorem dX9_note_25 : decode cX9_note 25 = .ok (.iload_n 2, 1) := by decide +kernel
theorem dX9_note_26 : decode cX9_note 26 = .ok (.invokevirtual 382, 3) := by decide +kernel
theorem dX9_note_29 : decode cX9_note 29 = .ok (.ifCond .ne 18, 3) := by decide +kernel
theorem dX9_note_32 : decode cX9_note 32 = .ok (.aload_n 0, 1) := by decide +kernel
theorem dX9_note_33 : decode cX9_note 33 = .ok (.getfield 44, 3) := by decide +kernel
theorem dX9_note_36 : decode cX9_note 36 = .ok (.getfield 104, 3) := by decide +kernel
theorem dX9_note_39 : decode cX9_note 39 = .ok (.iconst 2, 1) := by decide +kernel
theorem dX9_note_40 : decode cX9_note 40 = .ok (.dup2, 1) := by decide +kernel
theorem dX9_note_41 : decode cX9_note 41 = .ok (.iaload, 1) := by decide +kernel
theorem dX9_note_42 : decode cX9_note 42 = .ok (.iconst 1, 1) := by decide +kernel
theorem dX9_note_43 : decode cX9_note 43 = .ok (.iadd, 1) := by decide +kernel
theorem dX9_note_44 : decode cX9_note 44 = .ok (.iastore, 1) := by decide +kernel
theorem dX9_note_45 : decode cX9_note 45 = .ok (.iconst (-1), 1) := by decide +kernel
theorem dX9_note_46 : decode cX9_note 46 = .ok (.ireturn, 1) := by decide +kernel
theorem dX9_note_47 : decode cX9_note 47 = .ok (.aload_n 0, 1) := by decide +kernel
theorem dX9_note_48 : decode cX9_note 48 = .ok (.getfield 44, 3) := by decide +kernel
theorem dX9_note_51 : decode cX9_note 51 = .ok (.getfield 154, 3) := by decide +kernel
theorem dX9_note_54 : decode cX9_note 54 = .ok (.ireturn, 1) := by decide +kernel
theorem dX9_other_0 : decode cX9_other 0 = .ok (.iload_n 1, 1) := by decide +kernel
theorem dX9_other_1 : decode cX9_other 1 = .ok (.ifCond .lt 8, 3) := by decide +kernel
theorem dX9_other_4 : decode cX9_other 4 = .ok (.iload_n 1, 1) := by decide +kernel
theorem dX9_other_5 : decode cX9_other 5 = .ok (.iconst 2, 1) := by decide +kernel
theorem dX9_other_6 : decode cX9_other 6 = .ok (.if_icmp .le 14, 3) := by decide +kernel
theorem dX9_other_9 : decode cX9_other 9 = .ok (.new 157, 3) := by decide +kernel
theorem dX9_other_12 : decode cX9_other 12 = .ok (.dup, 1) := by decide +kernel
theorem dX9_other_13 : decode cX9_other 13 = .ok (.ldc_w 386, 3) := by decide +kernel
theorem dX9_other_16 : decode cX9_other 16 = .ok (.invokespecial 161, 3) := by decide +kernel
theorem dX9_other_19 : decode cX9_other 19 = .ok (.athrow, 1) := by decide +kernel
theorem dX9_other_20 : decode cX9_other 20 = .ok (.aload_n 0, 1) := by decide +kernel
theorem dX9_other_21 : decode cX9_other 21 = .ok (.invokevirtual 140, 3) := by decide +kernel
theorem dX9_other_24 : decode cX9_other 24 = .ok (.astore_n 2, 1) := by decide +kernel
theorem dX9_other_25 : decode cX9_other 25 = .ok (.iload_n 1, 1) := by decide +kernel
theorem dX9_other_26 : decode cX9_other 26 = .ok (.iconst 2, 1) := by decide +kernel
theorem dX9_other_27 : decode cX9_other 27 = .ok (.if_icmp .ne 28, 3) := by decide +kernel
theorem dX9_other_30 : decode cX9_other 30 = .ok (.aload_n 0, 1) := by decide +kernel
theorem dX9_other_31 : decode cX9_other 31 = .ok (.getfield 75, 3) := by decide +kernel
theorem dX9_other_34 : decode cX9_other 34 = .ok (.aload_n 2, 1) := by decide +kernel
theorem dX9_other_35 : decode cX9_other 35 = .ok (.aload_n 0, 1) := by decide +kernel
theorem dX9_other_36 : decode cX9_other 36 = .ok (.getfield 44, 3) := by decide +kernel
theorem dX9_other_39 : decode cX9_other 39 = .ok (.aload_n 0, 1) := by decide +kernel
theorem dX9_other_40 : decode cX9_other 40 = .ok (.getfield 54, 3) := by decide +kernel
theorem dX9_other_43 : decode cX9_other 43 = .ok (.invokevirtual 388, 3) := by decide +kernel
theorem dX9_other_46 : decode cX9_other 46 = .ok (.ifCond .eq 7, 3) := by decide +kernel
theorem dX9_other_49 : decode cX9_other 49 = .ok (.iconst 1, 1) := by decide +kernel
theorem dX9_other_50 : decode cX9_other 50 = .ok (.goto 4, 3) := by decide +kernel
theorem dX9_other_53 : decode cX9_other 53 = .ok (.iconst 0, 1) := by decide +kernel
theorem dX9_other_54 : decode cX9_other 54 = .ok (.ireturn, 1) := by decide +kernel
theorem dX9_other_55 : decode cX9_other 55 = .ok (.aload_n 0, 1) := by decide +kernel
theorem dX9_other_56 : decode cX9_other 56 = .ok (.getfield 75, 3) := by decide +kernel
theorem dX9_other_59 : decode cX9_other 59 = .ok (.aload_n 2, 1) := by decide +kernel
theorem dX9_other_60 : decode cX9_other 60 = .ok (.aload_n 0, 1) := by decide +kernel
theorem dX9_other_61 : decode cX9_other 61 = .ok (.getfield 44, 3) := by decide +kernel
theorem dX9_other_64 : decode cX9_other 64 = .ok (.aload_n 0, 1) := by decide +kernel
theorem dX9_other_65 : decode cX9_other 65 = .ok (.getfield 54, 3) := by decide +kernel
theorem dX9_other_68 : decode cX9_other 68 = .ok (.iconst 0, 1) := by decide +kernel
theorem dX9_other_69 : decode cX9_other 69 = .ok (.invokevirtual 392, 3) := by decide +kernel
theorem dX9_other_72 : decode cX9_other 72 = .ok (.iload_n 1, 1) := by decide +kernel
theorem dX9_other_73 : decode cX9_other 73 = .ok (.ifCond .ne 13, 3) := by decide +kernel
theorem dX9_other_76 : decode cX9_other 76 = .ok (.aload_n 0, 1) := by decide +kernel
theorem dX9_other_77 : decode cX9_other 77 = .ok (.getfield 75, 3) := by decide +kernel
theorem dX9_other_80 : decode cX9_other 80 = .ok (.getfield 396, 3) := by decide +kernel
theorem dX9_other_83 : decode cX9_other 83 = .ok (.goto 10, 3) := by decide +kernel
theorem dX9_other_86 : decode cX9_other 86 = .ok (.aload_n 0, 1) := by decide +kernel
theorem dX9_other_87 : decode cX9_other 87 = .ok (.getfield 75, 3) := by decide +kernel
theorem dX9_other_90 : decode cX9_other 90 = .ok (.getfield 399, 3) := by decide +kernel
theorem dX9_other_93 : decode cX9_other 93 = .ok (.ireturn, 1) := by decide +kernel
theorem dX9_look_0 : decode cX9_look 0 = .ok (.iload_n 1, 1) := by decide +kernel
theorem dX9_look_1 : decode cX9_look 1 = .ok (.ifCond .eq 19, 3) := by decide +kernel
theorem dX9_look_4 : decode cX9_look 4 = .ok (.iload_n 1, 1) := by decide +kernel
theorem dX9_look_5 : decode cX9_look 5 = .ok (.iconst 1, 1) := by decide +kernel
theorem dX9_look_6 : decode cX9_look 6 = .ok (.if_icmp .eq 14, 3) := by decide +kernel
theorem dX9_look_9 : decode cX9_look 9 = .ok (.new 157, 3) := by decide +kernel
theorem dX9_look_12 : decode cX9_look 12 = .ok (.dup, 1) := by decide +kernel
theorem dX9_look_13 : decode cX9_look 13 = .ok (.ldc_w 402, 3) := by decide +kernel
theorem dX9_look_16 : decode cX9_look 16 = .ok (.invokespecial 161, 3) := by decide +kernel
theorem dX9_look_19 : decode cX9_look 19 = .ok (.athrow, 1) := by decide +kernel
theorem dX9_look_20 : decode cX9_look 20 = .ok (.aload_n 0, 1) := by decide +kernel
theorem dX9_look_21 : decode cX9_look 21 = .ok (.getfield 75, 3) := by decide +kernel
theorem dX9_look_24 : decode cX9_look 24 = .ok (.aload_n 0, 1) := by decide +kernel
theorem dX9_look_25 : decode cX9_look 25 = .ok (.invokevirtual 140, 3) := by decide +kernel
theorem dX9_look_28 : decode cX9_look 28 = .ok (.aload_n 0, 1) := by decide +kernel
theorem dX9_look_29 : decode cX9_look 29 = .ok (.getfield 44, 3) := by decide +kernel
theorem dX9_look_32 : decode cX9_look 32 = .ok (.aload_n 0, 1) := by decide +kernel
theorem dX9_look_33 : decode cX9_look 33 = .ok (.getfield 54, 3) := by decide +kernel
theorem dX9_look_36 : decode cX9_look 36 = .ok (.iconst 1, 1) := by decide +kernel
theorem dX9_look_37 : decode cX9_look 37 = .ok (.invokevirtual 392, 3) := by decide +kernel
theorem dX9_look_40 : decode cX9_look 40 = .ok (.aload_n 0, 1) := by decide +kernel
theorem dX9_look_41 : decode cX9_look 41 = .ok (.getfield 75, 3) := by decide +kernel
theorem dX9_look_44 : decode cX9_look 44 = .ok (.getfield 396, 3) := by decide +kernel
theorem dX9_look_47 : decode cX9_look 47 = .ok (.ifCond .ne 13, 3) := by decide +kernel
theorem dX9_look_50 : decode cX9_look 50 = .ok (.iload_n 1, 1) := by decide +kernel
theorem dX9_look_51 : decode cX9_look 51 = .ok (.ifCond .ne 7, 3) := by decide +kernel
theorem dX9_look_54 : decode cX9_look 54 = .ok (.iconst (-1), 1) := by decide +kernel
theorem dX9_look_55 : decode cX9_look 55 = .ok (.goto 4, 3) := by decide +kernel
theorem dX9_look_58 : decode cX9_look 58 = .ok (.iconst 0, 1) := by decide +kernel
theorem dX9_look_59 : decode cX9_look 59 = .ok (.ireturn, 1) := by decide +kernel
theorem dX9_look_60 : decode cX9_look 60 = .ok (.aload_n 0, 1) := by decide +kernel
theorem dX9_look_61 : decode cX9_look 61 = .ok (.getfield 75, 3) := by decide +kernel
theorem dX9_look_64 : decode cX9_look 64 = .ok (.invokevirtual 404, 3) := by decide +kernel
theorem dX9_look_67 : decode cX9_look 67 = .ok (.istore_n 2, 1) := by decide +kernel
theorem dX9_look_68 : decode cX9_look 68 = .ok (.iload_n 1, 1) := by decide +kernel
theorem dX9_look_69 : decode cX9_look 69 = .ok (.ifCond .ne 7, 3) := by decide +kernel
theorem dX9_look_72 : decode cX9_look 72 = .ok (.iload_n 2, 1) := by decide +kernel
theorem dX9_look_73 : decode cX9_look 73 = .ok (.goto 11, 3) := by decide +kernel
theorem dX9_look_76 : decode cX9_look 76 = .ok (.aload_n 0, 1) := by decide +kernel
theorem dX9_look_77 : decode cX9_look 77 = .ok (.getfield 75, 3) := by decide +kernel
theorem dX9_look_80 : decode cX9_look 80 = .ok (.iload_n 2, 1) := by decide +kernel
theorem dX9_look_81 : decode cX9_look 81 = .ok (.invokevirtual 407, 3) := by decide +kernel
theorem dX9_look_84 : decode cX9_look 84 = .ok (.ireturn, 1) := by decide +kernel
theorem dX9_forget_0 : decode cX9_forget 0 = .ok (.aload_n 0, 1) := by decide +kernel
theorem dX9_forget_1 : decode cX9_forget 1 = .ok (.getfield 44, 3) := by decide +kernel
theorem dX9_forget_4 : decode cX9_forget 4 = .ok (.iconst 0, 1) := by decide +kernel
theorem dX9_forget_5 : decode cX9_forget 5 = .ok (.putfield 154, 3) := by decide +kernel
theorem dX9_forget_8 : decode cX9_forget 8 = .ok (.return_, 1) := by decide +kernel
theorem dX9_odds_0 : decode cX9_odds 0 = .ok (.aload_n 0, 1) := by decide +kernel
theorem dX9_odds_1 : decode cX9_odds 1 = .ok (.iload_n 1, 1) := by decide +kernel
theorem dX9_odds_2 : decode cX9_odds 2 = .ok (.invokevirtual 162, 3) := by decide +kernel
theorem dX9_odds_5 : decode cX9_odds 5 = .ok (.iload_n 2, 1) := by decide +kernel
theorem dX9_odds_6 : decode cX9_odds 6 = .ok (.ifCond .lt 9, 3) := by decide +kernel
theorem dX9_odds_9 : decode cX9_odds 9 = .ok (.iload_n 2, 1) := by decide +kernel
theorem dX9_odds_10 : decode cX9_odds 10 = .ok (.bipush 10, 2) := by decide +kernel
theorem dX9_odds_12 : decode cX9_odds 12 = .ok (.if_icmp .le 14, 3) := by decide +kernel
theorem dX9_odds_15 : decode cX9_odds 15 = .ok (.new 90, 3) := by decide +kernel
theorem dX9_odds_18 : decode cX9_odds 18 = .ok (.dup, 1) := by decide +kernel
theorem dX9_odds_19 : decode cX9_odds 19 = .ok (.ldc_w 410, 3) := by decide +kernel
theorem dX9_odds_22 : decode cX9_odds 22 = .ok (.invokespecial 94, 3) := by decide +kernel
theorem dX9_odds_25 : decode cX9_odds 25 = .ok (.athrow, 1) := by decide +kernel
theorem dX9_odds_26 : decode cX9_odds 26 = .ok (.aload_n 0, 1) := by decide +kernel
theorem dX9_odds_27 : decode cX9_odds 27 = .ok (.invokevirtual 140, 3) := by decide +kernel
theorem dX9_odds_30 : decode cX9_odds 30 = .ok (.astore_n 3, 1) := by decide +kernel
theorem dX9_odds_31 : decode cX9_odds 31 = .ok (.aload_n 0, 1) := by decide +kernel
theorem dX9_odds_32 : decode cX9_odds 32 = .ok (.getfield 61, 3) := by decide +kernel
theorem dX9_odds_35 : decode cX9_odds 35 = .ok (.aload_n 3, 1) := by decide +kernel
theorem dX9_odds_36 : decode cX9_odds 36 = .ok (.invokevirtual 209, 3) := by decide +kernel
theorem dX9_odds_39 : decode cX9_odds 39 = .ok (.istore 4, 2) := by decide +kernel
theorem dX9_odds_41 : decode cX9_odds 41 = .ok (.iconst 5, 1) := by decide +kernel
theorem dX9_odds_42 : decode cX9_odds 42 = .ok (.aload_n 3, 1) := by decide +kernel
theorem dX9_odds_43 : decode cX9_odds 43 = .ok (.getfield 212, 3) := by decide +kernel
theorem dX9_odds_46 : decode cX9_odds 46 = .ok (.iload_n 1, 1) := by decide +kernel
theorem dX9_odds_47 : decode cX9_odds 47 = .ok (.iaload, 1) := by decide +kernel
theorem dX9_odds_48 : decode cX9_odds 48 = .ok (.invokestatic 379, 3) := by decide +kernel
theorem dX9_odds_51 : decode cX9_odds 51 = .ok (.istore 5, 2) := by decide +kernel
theorem dX9_odds_53 : decode cX9_odds 53 = .ok (.iconst 0, 1) := by decide +kernel
theorem dX9_odds_54 : decode cX9_odds 54 = .ok (.istore 6, 2) := by decide +kernel
theorem dX9_odds_56 : decode cX9_odds 56 = .ok (.iconst 1, 1) := by decide +kernel
theorem dX9_odds_57 : decode cX9_odds 57 = .ok (.istore 7, 2) := by decide +kernel
theorem dX9_odds_59 : decode cX9_odds 59 = .ok (.iconst 1, 1) := by decide +kernel
theorem dX9_odds_60 : decode cX9_odds 60 = .ok (.istore 8, 2) := by decide +kernel
theorem dX9_odds_62 : decode cX9_odds 62 = .ok (.iload 8, 2) := by decide +kernel
theorem dX9_odds_64 : decode cX9_odds 64 = .ok (.iload 5, 2) := by decide +kernel
theorem dX9_odds_66 : decode cX9_odds 66 = .ok (.if_icmp .gt 74, 3) := by decide +kernel
theorem dX9_odds_69 : decode cX9_odds 69 = .ok (.iload 7, 2) := by decide +kernel
theorem dX9_odds_71 : decode cX9_odds 71 = .ok (.iload 5, 2) := by decide +kernel
theorem dX9_odds_73 : decode cX9_odds 73 = .ok (.iload 8, 2) := by decide +kernel
theorem dX9_odds_75 : decode cX9_odds 75 = .ok (.isub, 1) := by decide +kernel
theorem dX9_odds_76 : decode cX9_odds 76 = .ok (.iconst 1, 1) := by decide +kernel
theorem dX9_odds_77 : decode cX9_odds 77 = .ok (.iadd, 1) := by decide +kernel
theorem dX9_odds_78 : decode cX9_odds 78 = .ok (.imul, 1) := by decide +kernel
theorem dX9_odds_79 : decode cX9_odds 79 = .ok (.iload 8, 2) := by decide +kernel
theorem dX9_odds_81 : decode cX9_odds 81 = .ok (.idiv, 1) := by decide +kernel
theorem dX9_odds_82 : decode cX9_odds 82 = .ok (.istore 7, 2) := by decide +kernel
theorem dX9_odds_84 : decode cX9_odds 84 = .ok (.aload_n 3, 1) := by decide +kernel
theorem dX9_odds_85 : decode cX9_odds 85 = .ok (.getfield 212, 3) := by decide +kernel
theorem dX9_odds_88 : decode cX9_odds 88 = .ok (.iload_n 1, 1) := by decide +kernel
theorem dX9_odds_89 : decode cX9_odds 89 = .ok (.dup2, 1) := by decide +kernel
theorem dX9_odds_90 : decode cX9_odds 90 = .ok (.iaload, 1) := by decide +kernel
theorem dX9_odds_91 : decode cX9_odds 91 = .ok (.iconst 1, 1) := by decide +kernel
theorem dX9_odds_92 : decode cX9_odds 92 = .ok (.isub, 1) := by decide +kernel
theorem dX9_odds_93 : decode cX9_odds 93 = .ok (.iastore, 1) := by decide +kernel
theorem dX9_odds_94 : decode cX9_odds 94 = .ok (.aload_n 0, 1) := by decide +kernel
theorem dX9_odds_95 : decode cX9_odds 95 = .ok (.getfield 61, 3) := by decide +kernel
theorem dX9_odds_98 : decode cX9_odds 98 = .ok (.aload_n 3, 1) := by decide +kernel
theorem dX9_odds_99 : decode cX9_odds 99 = .ok (.invokevirtual 209, 3) := by decide +kernel
theorem dX9_odds_102 : decode cX9_odds 102 = .ok (.iload 4, 2) := by decide +kernel
theorem dX9_odds_104 : decode cX9_odds 104 = .ok (.if_icmp .ge 30, 3) := by decide +kernel
theorem dX9_odds_107 : decode cX9_odds 107 = .ok (.iload 6, 2) := by decide +kernel
theorem dX9_odds_109 : decode cX9_odds 109 = .ok (.iload 7, 2) := by decide +kernel
theorem dX9_odds_111 : decode cX9_odds 111 = .ok (.iload_n 2, 1) := by decide +kernel
theorem dX9_odds_112 : decode cX9_odds 112 = .ok (.iload 8, 2) := by decide +kernel
theorem dX9_odds_114 : decode cX9_odds 114 = .ok (.invokestatic 412, 3) := by decide +kernel
theorem dX9_odds_117 : decode cX9_odds 117 = .ok (.imul, 1) := by decide +kernel
theorem dX9_odds_118 : decode cX9_odds 118 = .ok (.bipush 10, 2) := by decide +kernel
theorem dX9_odds_120 : decode cX9_odds 120 = .ok (.iload_n 2, 1) := by decide +kernel
theorem dX9_odds_121 : decode cX9_odds 121 = .ok (.isub, 1) := by decide +kernel
theorem dX9_odds_122 : decode cX9_odds 122 = .ok (.iload 5, 2) := by decide +kernel
theorem dX9_odds_124 : decode cX9_odds 124 = .ok (.iload 8, 2) := by decide +kernel
theorem dX9_odds_126 : decode cX9_odds 126 = .ok (.isub, 1) := by decide +kernel
theorem dX9_odds_127 : decode cX9_odds 127 = .ok (.invokestatic 412, 3) := by decide +kernel
theorem dX9_odds_130 : decode cX9_odds 130 = .ok (.imul, 1) := by decide +kernel
theorem dX9_odds_131 : decode cX9_odds 131 = .ok (.iadd, 1) := by decide +kernel
theorem dX9_odds_132 : decode cX9_odds 132 = .ok (.istore 6, 2) := by decide +kernel
theorem dX9_odds_134 : decode cX9_odds 134 = .ok (.iinc 8 1, 3) := by decide +kernel
theorem dX9_odds_137 : decode cX9_odds 137 = .ok (.goto (-75), 3) := by decide +kernel
theorem dX9_odds_140 : decode cX9_odds 140 = .ok (.iload 6, 2) := by decide +kernel
theorem dX9_odds_142 : decode cX9_odds 142 = .ok (.bipush 10, 2) := by decide +kernel
theorem dX9_odds_144 : decode cX9_odds 144 = .ok (.iconst 5, 1) := by decide +kernel
theorem dX9_odds_145 : decode cX9_odds 145 = .ok (.iload 5, 2) := by decide +kernel
theorem dX9_odds_147 : decode cX9_odds 147 = .ok (.isub, 1) := by decide +kernel
theorem dX9_odds_148 : decode cX9_odds 148 = .ok (.invokestatic 412, 3) := by decide +kernel
theorem dX9_odds_151 : decode cX9_odds 151 = .ok (.imul, 1) := by decide +kernel
theorem dX9_odds_152 : decode cX9_odds 152 = .ok (.ireturn, 1) := by decide +kernel
theorem dX9_years_0 : decode cX9_years 0 = .ok (.iload 4, 2) := by decide +kernel
theorem dX9_years_2 : decode cX9_years 2 = .ok (.ifCond .lt 9, 3) := by decide +kernel
theorem dX9_years_5 : decode cX9_years 5 = .ok (.iload 4, 2) := by decide +kernel
theorem dX9_years_7 : decode cX9_years 7 = .ok (.iconst 2, 1) := by decide +kernel
theorem dX9_years_8 : decode cX9_years 8 = .ok (.if_icmp .le 14, 3) := by decide +kernel
theorem dX9_years_11 : decode cX9_years 11 = .ok (.new 157, 3) := by decide +kernel
theorem dX9_years_14 : decode cX9_years 14 = .ok (.dup, 1) := by decide +kernel
theorem dX9_years_15 : decode cX9_years 15 = .ok (.ldc_w 415, 3) := by decide +kernel
theorem dX9_years_18 : decode cX9_years 18 = .ok (.invokespecial 161, 3) := by decide +kernel
theorem dX9_years_21 : decode cX9_years 21 = .ok (.athrow, 1) := by decide +kernel
theorem dX9_years_22 : decode cX9_years 22 = .ok (.iload_n 2, 1) := by decide +kernel
theorem dX9_years_23 : decode cX9_years 23 = .ok (.ifCond .lt 18, 3) := by decide +kernel
theorem dX9_years_26 : decode cX9_years 26 = .ok (.iload_n 2, 1) := by decide +kernel
theorem dX9_years_27 : decode cX9_years 27 = .ok (.bipush 60, 2) := by decide +kernel
theorem dX9_years_29 : decode cX9_years 29 = .ok (.if_icmp .gt 12, 3) := by decide +kernel
theorem dX9_years_32 : decode cX9_years 32 = .ok (.iload_n 3, 1) := by decide +kernel
theorem dX9_years_33 : decode cX9_years 33 = .ok (.ifCond .lt 8, 3) := by decide +kernel
theorem dX9_years_36 : decode cX9_years 36 = .ok (.iload_n 3, 1) := by decide +kernel
theorem dX9_years_37 : decode cX9_years 37 = .ok (.iconst 4, 1) := by decide +kernel
theorem dX9_years_38 : decode cX9_years 38 = .ok (.if_icmp .lt 14, 3) := by decide +kernel
theorem dX9_years_41 : decode cX9_years 41 = .ok (.new 90, 3) := by decide +kernel
theorem dX9_years_44 : decode cX9_years 44 = .ok (.dup, 1) := by decide +kernel
theorem dX9_years_45 : decode cX9_years 45 = .ok (.ldc_w 417, 3) := by decide +kernel
theorem dX9_years_48 : decode cX9_years 48 = .ok (.invokespecial 94, 3) := by decide +kernel
theorem dX9_years_51 : decode cX9_years 51 = .ok (.athrow, 1) := by decide +kernel
theorem dX9_years_52 : decode cX9_years 52 = .ok (.aload_n 0, 1) := by decide +kernel
theorem dX9_years_53 : decode cX9_years 53 = .ok (.invokevirtual 317, 3) := by decide +kernel
theorem dX9_years_56 : decode cX9_years 56 = .ok (.istore 5, 2) := by decide +kernel
theorem dX9_years_58 : decode cX9_years 58 = .ok (.iload 5, 2) := by decide +kernel
theorem dX9_years_60 : decode cX9_years 60 = .ok (.istore 6, 2) := by decide +kernel
theorem dX9_years_62 : decode cX9_years 62 = .ok (.iconst 0, 1) := by decide +kernel
theorem dX9_years_63 : decode cX9_years 63 = .ok (.istore 7, 2) := by decide +kernel
theorem dX9_years_65 : decode cX9_years 65 = .ok (.iload_n 1, 1) := by decide +kernel
theorem dX9_years_66 : decode cX9_years 66 = .ok (.istore 8, 2) := by decide +kernel
theorem dX9_years_68 : decode cX9_years 68 = .ok (.iconst 0, 1) := by decide +kernel
theorem dX9_years_69 : decode cX9_years 69 = .ok (.istore 9, 2) := by decide +kernel
theorem dX9_years_71 : decode cX9_years 71 = .ok (.iload 9, 2) := by decide +kernel
theorem dX9_years_73 : decode cX9_years 73 = .ok (.iload_n 2, 1) := by decide +kernel
theorem dX9_years_74 : decode cX9_years 74 = .ok (.if_icmp .ge 145, 3) := by decide +kernel
theorem dX9_years_77 : decode cX9_years 77 = .ok (.aload_n 0, 1) := by decide +kernel
theorem dX9_years_78 : decode cX9_years 78 = .ok (.getfield 34, 3) := by decide +kernel
theorem dX9_years_81 : decode cX9_years 81 = .ok (.getfield 127, 3) := by decide +kernel
theorem dX9_years_84 : decode cX9_years 84 = .ok (.ifCond .le 135, 3) := by decide +kernel
theorem dX9_years_87 : decode cX9_years 87 = .ok (.iload 8, 2) := by decide +kernel
theorem dX9_years_89 : decode cX9_years 89 = .ok (.ldc_w 419, 3) := by decide +kernel
theorem dX9_years_92 : decode cX9_years 92 = .ok (.imul, 1) := by decide +kernel
theorem dX9_years_93 : decode cX9_years 93 = .ok (.sipush 12345, 3) := by decide +kernel
theorem dX9_years_96 : decode cX9_years 96 = .ok (.iadd, 1) := by decide +kernel
theorem dX9_years_97 : decode cX9_years 97 = .ok (.istore 8, 2) := by decide +kernel
theorem dX9_years_99 : decode cX9_years 99 = .ok (.aload_n 0, 1) := by decide +kernel
theorem dX9_years_100 : decode cX9_years 100 = .ok (.getfield 34, 3) := by decide +kernel
theorem dX9_years_103 : decode cX9_years 103 = .ok (.getfield 165, 3) := by decide +kernel
theorem dX9_years_106 : decode cX9_years 106 = .ok (.iload 8, 2) := by decide +kernel
theorem dX9_years_108 : decode cX9_years 108 = .ok (.bipush 16, 2) := by decide +kernel
theorem dX9_years_110 : decode cX9_years 110 = .ok (.iushr, 1) := by decide +kernel
theorem dX9_years_111 : decode cX9_years 111 = .ok (.sipush 32767, 3) := by decide +kernel
theorem dX9_years_114 : decode cX9_years 114 = .ok (.iand, 1) := by decide +kernel
theorem dX9_years_115 : decode cX9_years 115 = .ok (.aload_n 0, 1) := by decide +kernel
theorem dX9_years_116 : decode cX9_years 116 = .ok (.getfield 34, 3) := by decide +kernel
theorem dX9_years_119 : decode cX9_years 119 = .ok (.getfield 127, 3) := by decide +kernel
theorem dX9_years_122 : decode cX9_years 122 = .ok (.irem, 1) := by decide +kernel
theorem dX9_years_123 : decode cX9_years 123 = .ok (.iaload, 1) := by decide +kernel
theorem dX9_years_124 : decode cX9_years 124 = .ok (.istore 10, 2) := by decide +kernel
theorem dX9_years_126 : decode cX9_years 126 = .ok (.aload_n 0, 1) := by decide +kernel
theorem dX9_years_127 : decode cX9_years 127 = .ok (.getfield 83, 3) := by decide +kernel
theorem dX9_years_130 : decode cX9_years 130 = .ok (.iload 6, 2) := by decide +kernel
theorem dX9_years_132 : decode cX9_years 132 = .ok (.aload_n 0, 1) := by decide +kernel
theorem dX9_years_133 : decode cX9_years 133 = .ok (.getfield 34, 3) := by decide +kernel
theorem dX9_years_136 : decode cX9_years 136 = .ok (.getfield 124, 3) := by decide +kernel
theorem dX9_years_139 : decode cX9_years 139 = .ok (.iload 10, 2) := by decide +kernel
theorem dX9_years_141 : decode cX9_years 141 = .ok (.isub, 1) := by decide +kernel
theorem dX9_years_142 : decode cX9_years 142 = .ok (.iload_n 3, 1) := by decide +kernel
theorem dX9_years_143 : decode cX9_years 143 = .ok (.invokestatic 320, 3) := by decide +kernel
theorem dX9_years_146 : decode cX9_years 146 = .ok (.istore 11, 2) := by decide +kernel
theorem dX9_years_148 : decode cX9_years 148 = .ok (.iload 11, 2) := by decide +kernel
theorem dX9_years_150 : decode cX9_years 150 = .ok (.iconst (-1), 1) := by decide +kernel
theorem dX9_years_151 : decode cX9_years 151 = .ok (.if_icmp .ne 28, 3) := by decide +kernel
theorem dX9_years_154 : decode cX9_years 154 = .ok (.iload 6, 2) := by decide +kernel
theorem dX9_years_156 : decode cX9_years 156 = .ok (.aload_n 0, 1) := by decide +kernel
theorem dX9_years_157 : decode cX9_years 157 = .ok (.getfield 83, 3) := by decide +kernel
theorem dX9_years_160 : decode cX9_years 160 = .ok (.arraylength, 1) := by decide +kernel
theorem dX9_years_161 : decode cX9_years 161 = .ok (.if_icmp .ge 18, 3) := by decide +kernel
theorem dX9_years_164 : decode cX9_years 164 = .ok (.iload 6, 2) := by decide +kernel
theorem dX9_years_166 : decode cX9_years 166 = .ok (.istore 11, 2) := by decide +kernel
theorem dX9_years_168 : decode cX9_years 168 = .ok (.aload_n 0, 1) := by decide +kernel
theorem dX9_years_169 : decode cX9_years 169 = .ok (.getfield 83, 3) := by decide +kernel
theorem dX9_years_172 : decode cX9_years 172 = .ok (.iload 11, 2) := by decide +kernel
theorem dX9_years_174 : decode cX9_years 174 = .ok (.iconst 0, 1) := by decide +kernel
theorem dX9_years_175 : decode cX9_years 175 = .ok (.iastore, 1) := by decide +kernel
theorem dX9_years_176 : decode cX9_years 176 = .ok (.iinc 6 1, 3) := by decide +kernel
theorem dX9_years_179 : decode cX9_years 179 = .ok (.iload 11, 2) := by decide +kernel
theorem dX9_years_181 : decode cX9_years 181 = .ok (.ifCond .lt 32, 3) := by decide +kernel
theorem dX9_years_184 : decode cX9_years 184 = .ok (.aload_n 0, 1) := by decide +kernel
theorem dX9_years_185 : decode cX9_years 185 = .ok (.getfield 83, 3) := by decide +kernel
theorem dX9_years_188 : decode cX9_years 188 = .ok (.iload 11, 2) := by decide +kernel
theorem dX9_years_190 : decode cX9_years 190 = .ok (.dup2, 1) := by decide +kernel
theorem dX9_years_191 : decode cX9_years 191 = .ok (.iaload, 1) := by decide +kernel
theorem dX9_years_192 : decode cX9_years 192 = .ok (.iload 10, 2) := by decide +kernel
theorem dX9_years_194 : decode cX9_years 194 = .ok (.iadd, 1) := by decide +kernel
theorem dX9_years_195 : decode cX9_years 195 = .ok (.iastore, 1) := by decide +kernel
theorem dX9_years_196 : decode cX9_years 196 = .ok (.iload 7, 2) := by decide +kernel
theorem dX9_years_198 : decode cX9_years 198 = .ok (.iload 11, 2) := by decide +kernel
theorem dX9_years_200 : decode cX9_years 200 = .ok (.iload 5, 2) := by decide +kernel
theorem dX9_years_202 : decode cX9_years 202 = .ok (.if_icmp .ge 7, 3) := by decide +kernel
theorem dX9_years_205 : decode cX9_years 205 = .ok (.iconst 1, 1) := by decide +kernel
theorem dX9_years_206 : decode cX9_years 206 = .ok (.goto 4, 3) := by decide +kernel
theorem dX9_years_209 : decode cX9_years 209 = .ok (.iconst 0, 1) := by decide +kernel
theorem dX9_years_210 : decode cX9_years 210 = .ok (.iadd, 1) := by decide +kernel
theorem dX9_years_211 : decode cX9_years 211 = .ok (.istore 7, 2) := by decide +kernel
theorem dX9_years_213 : decode cX9_years 213 = .ok (.iinc 9 1, 3) := by decide +kernel
theorem dX9_years_216 : decode cX9_years 216 = .ok (.goto (-145), 3) := by decide +kernel
theorem dX9_years_219 : decode cX9_years 219 = .ok (.iload 4, 2) := by decide +kernel
theorem dX9_years_221 : decode cX9_years 221 = .ok (.ifCond .ne 6, 3) := by decide +kernel
theorem dX9_years_224 : decode cX9_years 224 = .ok (.iload 6, 2) := by decide +kernel
theorem dX9_years_226 : decode cX9_years 226 = .ok (.ireturn, 1) := by decide +kernel
theorem dX9_years_227 : decode cX9_years 227 = .ok (.iload 4, 2) := by decide +kernel
theorem dX9_years_229 : decode cX9_years 229 = .ok (.iconst 1, 1) := by decide +kernel
theorem dX9_years_230 : decode cX9_years 230 = .ok (.if_icmp .ne 12, 3) := by decide +kernel
theorem dX9_years_233 : decode cX9_years 233 = .ok (.aload_n 0, 1) := by decide +kernel
theorem dX9_years_234 : decode cX9_years 234 = .ok (.iload 6, 2) := by decide +kernel
theorem dX9_years_236 : decode cX9_years 236 = .ok (.invokevirtual 420, 3) := by decide +kernel
theorem dX9_years_239 : decode cX9_years 239 = .ok (.goto 5, 3) := by decide +kernel
theorem dX9_years_242 : decode cX9_years 242 = .ok (.iload 7, 2) := by decide +kernel
theorem dX9_years_244 : decode cX9_years 244 = .ok (.ireturn, 1) := by decide +kernel
theorem dX9_image_0 : decode cX9_image 0 = .ok (.aload_n 0, 1) := by decide +kernel
theorem dX9_image_1 : decode cX9_image 1 = .ok (.getfield 48, 3) := by decide +kernel
theorem dX9_image_4 : decode cX9_image 4 = .ok (.aload_n 0, 1) := by decide +kernel
theorem dX9_image_5 : decode cX9_image 5 = .ok (.getfield 44, 3) := by decide +kernel
theorem dX9_image_8 : decode cX9_image 8 = .ok (.invokevirtual 423, 3) := by decide +kernel
theorem dX9_image_11 : decode cX9_image 11 = .ok (.aload_n 0, 1) := by decide +kernel
theorem dX9_image_12 : decode cX9_image 12 = .ok (.iconst 1, 1) := by decide +kernel
theorem dX9_image_13 : decode cX9_image 13 = .ok (.putfield 20, 3) := by decide +kernel
theorem dX9_image_16 : decode cX9_image 16 = .ok (.return_, 1) := by decide +kernel
theorem dX9_restore_0 : decode cX9_restore 0 = .ok (.aload_n 0, 1) := by decide +kernel
theorem dX9_restore_1 : decode cX9_restore 1 = .ok (.getfield 20, 3) := by decide +kernel
theorem dX9_restore_4 : decode cX9_restore 4 = .ok (.ifCond .eq 14, 3) := by decide +kernel
theorem dX9_restore_7 : decode cX9_restore 7 = .ok (.aload_n 0, 1) := by decide +kernel
theorem dX9_restore_8 : decode cX9_restore 8 = .ok (.getfield 44, 3) := by decide +kernel
theorem dX9_restore_11 : decode cX9_restore 11 = .ok (.aload_n 0, 1) := by decide +kernel
theorem dX9_restore_12 : decode cX9_restore 12 = .ok (.getfield 48, 3) := by decide +kernel
theorem dX9_restore_15 : decode cX9_restore 15 = .ok (.invokevirtual 423, 3) := by decide +kernel
theorem dX9_restore_18 : decode cX9_restore 18 = .ok (.aload_n 0, 1) := by decide +kernel
theorem dX9_restore_19 : decode cX9_restore 19 = .ok (.getfield 20, 3) := by decide +kernel
theorem dX9_restore_22 : decode cX9_restore 22 = .ok (.ireturn, 1) := by decide +kernel
theorem dX9_tapeInt_0 : decode cX9_tapeInt 0 = .ok (.bipush 24, 2) := by decide +kernel
theorem dX9_tapeInt_2 : decode cX9_tapeInt 2 = .ok (.istore_n 2, 1) := by decide +kernel
theorem dX9_tapeInt_3 : decode cX9_tapeInt 3 = .ok (.iload_n 2, 1) := by decide +kernel
theorem dX9_tapeInt_4 : decode cX9_tapeInt 4 = .ok (.ifCond .lt 44, 3) := by decide +kernel
theorem dX9_tapeInt_7 : decode cX9_tapeInt 7 = .ok (.aload_n 0, 1) := by decide +kernel
theorem dX9_tapeInt_8 : decode cX9_tapeInt 8 = .ok (.getfield 13, 3) := by decide +kernel
theorem dX9_tapeInt_11 : decode cX9_tapeInt 11 = .ok (.aload_n 0, 1) := by decide +kernel
theorem dX9_tapeInt_12 : decode cX9_tapeInt 12 = .ok (.getfield 9, 3) := by decide +kernel
theorem dX9_tapeInt_15 : decode cX9_tapeInt 15 = .ok (.arraylength, 1) := by decide +kernel
theorem dX9_tapeInt_16 : decode cX9_tapeInt 16 = .ok (.if_icmp .ge 32, 3) := by decide +kernel
theorem dX9_tapeInt_19 : decode cX9_tapeInt 19 = .ok (.aload_n 0, 1) := by decide +kernel
theorem dX9_tapeInt_20 : decode cX9_tapeInt 20 = .ok (.getfield 9, 3) := by decide +kernel
theorem dX9_tapeInt_23 : decode cX9_tapeInt 23 = .ok (.aload_n 0, 1) := by decide +kernel
theorem dX9_tapeInt_24 : decode cX9_tapeInt 24 = .ok (.getfield 13, 3) := by decide +kernel
theorem dX9_tapeInt_27 : decode cX9_tapeInt 27 = .ok (.iload_n 1, 1) := by decide +kernel
theorem dX9_tapeInt_28 : decode cX9_tapeInt 28 = .ok (.iload_n 2, 1) := by decide +kernel
theorem dX9_tapeInt_29 : decode cX9_tapeInt 29 = .ok (.ishr, 1) := by decide +kernel
theorem dX9_tapeInt_30 : decode cX9_tapeInt 30 = .ok (.i2b, 1) := by decide +kernel
theorem dX9_tapeInt_31 : decode cX9_tapeInt 31 = .ok (.bastore, 1) := by decide +kernel
theorem dX9_tapeInt_32 : decode cX9_tapeInt 32 = .ok (.aload_n 0, 1) := by decide +kernel
theorem dX9_tapeInt_33 : decode cX9_tapeInt 33 = .ok (.dup, 1) := by decide +kernel
theorem dX9_tapeInt_34 : decode cX9_tapeInt 34 = .ok (.getfield 13, 3) := by decide +kernel
theorem dX9_tapeInt_37 : decode cX9_tapeInt 37 = .ok (.iconst 1, 1) := by decide +kernel
theorem dX9_tapeInt_38 : decode cX9_tapeInt 38 = .ok (.iadd, 1) := by decide +kernel
theorem dX9_tapeInt_39 : decode cX9_tapeInt 39 = .ok (.putfield 13, 3) := by decide +kernel
theorem dX9_tapeInt_42 : decode cX9_tapeInt 42 = .ok (.iinc 2 (-8), 3) := by decide +kernel
theorem dX9_tapeInt_45 : decode cX9_tapeInt 45 = .ok (.goto (-42), 3) := by decide +kernel
theorem dX9_tapeInt_48 : decode cX9_tapeInt 48 = .ok (.return_, 1) := by decide +kernel
theorem dX9_isSort_0 : decode cX9_isSort 0 = .ok (.iload_n 1, 1) := by decide +kernel
theorem dX9_isSort_1 : decode cX9_isSort 1 = .ok (.ifCond .lt 24, 3) := by decide +kernel
theorem dX9_isSort_4 : decode cX9_isSort 4 = .ok (.iload_n 1, 1) := by decide +kernel
theorem dX9_isSort_5 : decode cX9_isSort 5 = .ok (.aload_n 0, 1) := by decide +kernel
theorem dX9_isSort_6 : decode cX9_isSort 6 = .ok (.getfield 34, 3) := by decide +kernel
theorem dX9_isSort_9 : decode cX9_isSort 9 = .ok (.getfield 127, 3) := by decide +kernel
theorem dX9_isSort_12 : decode cX9_isSort 12 = .ok (.if_icmp .ge 13, 3) := by decide +kernel
theorem dX9_isSort_15 : decode cX9_isSort 15 = .ok (.iload_n 1, 1) := by decide +kernel
theorem dX9_isSort_16 : decode cX9_isSort 16 = .ok (.bipush 6, 2) := by decide +kernel
theorem dX9_isSort_18 : decode cX9_isSort 18 = .ok (.if_icmp .ge 7, 3) := by decide +kernel
theorem dX9_isSort_21 : decode cX9_isSort 21 = .ok (.iconst 1, 1) := by decide +kernel
theorem dX9_isSort_22 : decode cX9_isSort 22 = .ok (.goto 4, 3) := by decide +kernel
theorem dX9_isSort_25 : decode cX9_isSort 25 = .ok (.iconst 0, 1) := by decide +kernel
theorem dX9_isSort_26 : decode cX9_isSort 26 = .ok (.ireturn, 1) := by decide +kernel
theorem dX9_needSort_0 : decode cX9_needSort 0 = .ok (.aload_n 0, 1) := by decide +kernel
theorem dX9_needSort_1 : decode cX9_needSort 1 = .ok (.iload_n 1, 1) := by decide +kernel
theorem dX9_needSort_2 : decode cX9_needSort 2 = .ok (.invokevirtual 310, 3) := by decide +kernel
theorem dX9_needSort_5 : decode cX9_needSort 5 = .ok (.ifCond .ne 14, 3) := by decide +kernel
theorem dX9_needSort_8 : decode cX9_needSort 8 = .ok (.new 157, 3) := by decide +kernel
theorem dX9_needSort_11 : decode cX9_needSort 11 = .ok (.dup, 1) := by decide +kernel
theorem dX9_needSort_12 : decode cX9_needSort 12 = .ok (.ldc_w 426, 3) := by decide +kernel
theorem dX9_needSort_15 : decode cX9_needSort 15 = .ok (.invokespecial 161, 3) := by decide +kernel
theorem dX9_needSort_18 : decode cX9_needSort 18 = .ok (.athrow, 1) := by decide +kernel
theorem dX9_needSort_19 : decode cX9_needSort 19 = .ok (.return_, 1) := by decide +kernel
theorem dX9_needSortOrNone_0 : decode cX9_needSortOrNone 0 = .ok (.iload_n 1, 1) := by decide +kernel
theorem dX9_needSortOrNone_1 : decode cX9_needSortOrNone 1 = .ok (.iconst (-1), 1) := by decide +kernel
theorem dX9_needSortOrNone_2 : decode cX9_needSortOrNone 2 = .ok (.if_icmp .eq 8, 3) := by decide +kernel
theorem dX9_needSortOrNone_5 : decode cX9_needSortOrNone 5 = .ok (.aload_n 0, 1) := by decide +kernel
theorem dX9_needSortOrNone_6 : decode cX9_needSortOrNone 6 = .ok (.iload_n 1, 1) := by decide +kernel
theorem dX9_needSortOrNone_7 : decode cX9_needSortOrNone 7 = .ok (.invokevirtual 162, 3) := by decide +kernel
theorem dX9_needSortOrNone_10 : decode cX9_needSortOrNone 10 = .ok (.return_, 1) := by decide +kernel
theorem dX9_needBin_0 : decode cX9_needBin 0 = .ok (.aload_n 0, 1) := by decide +kernel
theorem dX9_needBin_1 : decode cX9_needBin 1 = .ok (.getfield 44, 3) := by decide +kernel
theorem dX9_needBin_4 : decode cX9_needBin 4 = .ok (.iload_n 1, 1) := by decide +kernel
theorem dX9_needBin_5 : decode cX9_needBin 5 = .ok (.invokevirtual 335, 3) := by decide +kernel
theorem dX9_needBin_8 : decode cX9_needBin 8 = .ok (.ifCond .ne 14, 3) := by decide +kernel
theorem dX9_needBin_11 : decode cX9_needBin 11 = .ok (.new 157, 3) := by decide +kernel
theorem dX9_needBin_14 : decode cX9_needBin 14 = .ok (.dup, 1) := by decide +kernel
theorem dX9_needBin_15 : decode cX9_needBin 15 = .ok (.ldc_w 428, 3) := by decide +kernel
theorem dX9_needBin_18 : decode cX9_needBin 18 = .ok (.invokespecial 161, 3) := by decide +kernel
theorem dX9_needBin_21 : decode cX9_needBin 21 = .ok (.athrow, 1) := by decide +kernel
theorem dX9_needBin_22 : decode cX9_needBin 22 = .ok (.return_, 1) := by decide +kernel
theorem dX9_needRule_0 : decode cX9_needRule 0 = .ok (.iload_n 1, 1) := by decide +kernel
theorem dX9_needRule_1 : decode cX9_needRule 1 = .ok (.ifCond .lt 9, 3) := by decide +kernel
theorem dX9_needRule_4 : decode cX9_needRule 4 = .ok (.iload_n 1, 1) := by decide +kernel
theorem dX9_needRule_5 : decode cX9_needRule 5 = .ok (.bipush 8, 2) := by decide +kernel
theorem dX9_needRule_7 : decode cX9_needRule 7 = .ok (.if_icmp .lt 14, 3) := by decide +kernel
theorem dX9_needRule_10 : decode cX9_needRule 10 = .ok (.new 157, 3) := by decide +kernel
theorem dX9_needRule_13 : decode cX9_needRule 13 = .ok (.dup, 1) := by decide +kernel
theorem dX9_needRule_14 : decode cX9_needRule 14 = .ok (.ldc_w 430, 3) := by decide +kernel
theorem dX9_needRule_17 : decode cX9_needRule 17 = .ok (.invokespecial 161, 3) := by decide +kernel
theorem dX9_needRule_20 : decode cX9_needRule 20 = .ok (.athrow, 1) := by decide +kernel
theorem dX9_needRule_21 : decode cX9_needRule 21 = .ok (.return_, 1) := by decide +kernel
theorem dX9_refuseAct_0 : decode cX9_refuseAct 0 = .ok (.aload_n 0, 1) := by decide +kernel
theorem dX9_refuseAct_1 : decode cX9_refuseAct 1 = .ok (.getfield 44, 3) := by decide +kernel
theorem dX9_refuseAct_4 : decode cX9_refuseAct 4 = .ok (.getfield 104, 3) := by decide +kernel
theorem dX9_refuseAct_7 : decode cX9_refuseAct 7 = .ok (.iconst 1, 1) := by decide +kernel
theorem dX9_refuseAct_8 : decode cX9_refuseAct 8 = .ok (.dup2, 1) := by decide +kernel
theorem dX9_refuseAct_9 : decode cX9_refuseAct 9 = .ok (.iaload, 1) := by decide +kernel
theorem dX9_refuseAct_10 : decode cX9_refuseAct 10 = .ok (.iconst 1, 1) := by decide +kernel
theorem dX9_refuseAct_11 : decode cX9_refuseAct 11 = .ok (.iadd, 1) := by decide +kernel
theorem dX9_refuseAct_12 : decode cX9_refuseAct 12 = .ok (.iastore, 1) := by decide +kernel
theorem dX9_refuseAct_13 : decode cX9_refuseAct 13 = .ok (.iconst (-1), 1) := by decide +kernel
theorem dX9_refuseAct_14 : decode cX9_refuseAct 14 = .ok (.ireturn, 1) := by decide +kernel
theorem dX9_restNow_0 : decode cX9_restNow 0 = .ok (.aload_n 0, 1) := by decide +kernel
theorem dX9_restNow_1 : decode cX9_restNow 1 = .ok (.getfield 38, 3) := by decide +kernel
theorem dX9_restNow_4 : decode cX9_restNow 4 = .ok (.aload_n 0, 1) := by decide +kernel
theorem dX9_restNow_5 : decode cX9_restNow 5 = .ok (.getfield 34, 3) := by decide +kernel
theorem dX9_restNow_8 : decode cX9_restNow 8 = .ok (.invokevirtual 110, 3) := by decide +kernel
theorem dX9_restNow_11 : decode cX9_restNow 11 = .ok (.iconst 0, 1) := by decide +kernel
theorem dX9_restNow_12 : decode cX9_restNow 12 = .ok (.istore_n 1, 1) := by decide +kernel
theorem dX9_restNow_13 : decode cX9_restNow 13 = .ok (.iload_n 1, 1) := by decide +kernel
theorem dX9_restNow_14 : decode cX9_restNow 14 = .ok (.bipush 6, 2) := by decide +kernel
theorem dX9_restNow_16 : decode cX9_restNow 16 = .ok (.if_icmp .ge 26, 3) := by decide +kernel
theorem dX9_restNow_19 : decode cX9_restNow 19 = .ok (.aload_n 0, 1) := by decide +kernel
theorem dX9_restNow_20 : decode cX9_restNow 20 = .ok (.getfield 38, 3) := by decide +kernel
theorem dX9_restNow_23 : decode cX9_restNow 23 = .ok (.getfield 212, 3) := by decide +kernel
theorem dX9_restNow_26 : decode cX9_restNow 26 = .ok (.iload_n 1, 1) := by decide +kernel
theorem dX9_restNow_27 : decode cX9_restNow 27 = .ok (.aload_n 0, 1) := by decide +kernel
theorem dX9_restNow_28 : decode cX9_restNow 28 = .ok (.getfield 44, 3) := by decide +kernel
theorem dX9_restNow_31 : decode cX9_restNow 31 = .ok (.iload_n 1, 1) := by decide +kernel
theorem dX9_restNow_32 : decode cX9_restNow 32 = .ok (.invokevirtual 168, 3) := by decide +kernel
theorem dX9_restNow_35 : decode cX9_restNow 35 = .ok (.iastore, 1) := by decide +kernel
theorem dX9_restNow_36 : decode cX9_restNow 36 = .ok (.iinc 1 1, 3) := by decide +kernel
theorem dX9_restNow_39 : decode cX9_restNow 39 = .ok (.goto (-26), 3) := by decide +kernel
theorem dX9_restNow_42 : decode cX9_restNow 42 = .ok (.aload_n 0, 1) := by decide +kernel
theorem dX9_restNow_43 : decode cX9_restNow 43 = .ok (.getfield 38, 3) := by decide +kernel
theorem dX9_restNow_46 : decode cX9_restNow 46 = .ok (.areturn, 1) := by decide +kernel
theorem dX9_freeIn_0 : decode cX9_freeIn 0 = .ok (.aload_n 0, 1) := by decide +kernel
theorem dX9_freeIn_1 : decode cX9_freeIn 1 = .ok (.getfield 44, 3) := by decide +kernel
theorem dX9_freeIn_4 : decode cX9_freeIn 4 = .ok (.iload_n 1, 1) := by decide +kernel
theorem dX9_freeIn_5 : decode cX9_freeIn 5 = .ok (.invokevirtual 335, 3) := by decide +kernel
theorem dX9_freeIn_8 : decode cX9_freeIn 8 = .ok (.ifCond .eq 30, 3) := by decide +kernel
theorem dX9_freeIn_11 : decode cX9_freeIn 11 = .ok (.aload_n 0, 1) := by decide +kernel
theorem dX9_freeIn_12 : decode cX9_freeIn 12 = .ok (.getfield 34, 3) := by decide +kernel
theorem dX9_freeIn_15 : decode cX9_freeIn 15 = .ok (.getfield 124, 3) := by decide +kernel
theorem dX9_freeIn_18 : decode cX9_freeIn 18 = .ok (.aload_n 0, 1) := by decide +kernel
theorem dX9_freeIn_19 : decode cX9_freeIn 19 = .ok (.getfield 34, 3) := by decide +kernel
theorem dX9_freeIn_22 : decode cX9_freeIn 22 = .ok (.aload_n 0, 1) := by decide +kernel
theorem dX9_freeIn_23 : decode cX9_freeIn 23 = .ok (.getfield 44, 3) := by decide +kernel
theorem dX9_freeIn_26 : decode cX9_freeIn 26 = .ok (.getfield 183, 3) := by decide +kernel
theorem dX9_freeIn_29 : decode cX9_freeIn 29 = .ok (.iload_n 1, 1) := by decide +kernel
theorem dX9_freeIn_30 : decode cX9_freeIn 30 = .ok (.laload, 1) := by decide +kernel
theorem dX9_freeIn_31 : decode cX9_freeIn 31 = .ok (.invokevirtual 184, 3) := by decide +kernel
theorem dX9_freeIn_34 : decode cX9_freeIn 34 = .ok (.isub, 1) := by decide +kernel
theorem dX9_freeIn_35 : decode cX9_freeIn 35 = .ok (.goto 4, 3) := by decide +kernel
theorem dX9_freeIn_38 : decode cX9_freeIn 38 = .ok (.iconst 0, 1) := by decide +kernel
theorem dX9_freeIn_39 : decode cX9_freeIn 39 = .ok (.ireturn, 1) := by decide +kernel
theorem dX9_wasteNow_0 : decode cX9_wasteNow 0 = .ok (.aload_n 0, 1) := by decide +kernel
theorem dX9_wasteNow_1 : decode cX9_wasteNow 1 = .ok (.aload_n 0, 1) := by decide +kernel
theorem dX9_wasteNow_2 : decode cX9_wasteNow 2 = .ok (.invokevirtual 317, 3) := by decide +kernel
theorem dX9_wasteNow_5 : decode cX9_wasteNow 5 = .ok (.invokevirtual 420, 3) := by decide +kernel
theorem dX9_wasteNow_8 : decode cX9_wasteNow 8 = .ok (.ireturn, 1) := by decide +kernel
theorem dX9_copyFilled_0 : decode cX9_copyFilled 0 = .ok (.aload_n 0, 1) := by decide +kernel
theorem dX9_copyFilled_1 : decode cX9_copyFilled 1 = .ok (.getfield 44, 3) := by decide +kernel
theorem dX9_copyFilled_4 : decode cX9_copyFilled 4 = .ok (.invokevirtual 134, 3) := by decide +kernel
theorem dX9_copyFilled_7 : decode cX9_copyFilled 7 = .ok (.istore_n 1, 1) := by decide +kernel
theorem dX9_copyFilled_8 : decode cX9_copyFilled 8 = .ok (.iconst 0, 1) := by decide +kernel
theorem dX9_copyFilled_9 : decode cX9_copyFilled 9 = .ok (.istore_n 2, 1) := by decide +kernel
theorem dX9_copyFilled_10 : decode cX9_copyFilled 10 = .ok (.iload_n 2, 1) := by decide +kernel
theorem dX9_copyFilled_11 : decode cX9_copyFilled 11 = .ok (.iload_n 1, 1) := by decide +kernel
theorem dX9_copyFilled_12 : decode cX9_copyFilled 12 = .ok (.if_icmp .ge 40, 3) := by decide +kernel
theorem dX9_copyFilled_15 : decode cX9_copyFilled 15 = .ok (.iload_n 2, 1) := by decide +kernel
theorem dX9_copyFilled_16 : decode cX9_copyFilled 16 = .ok (.aload_n 0, 1) := by decide +kernel
theorem dX9_copyFilled_17 : decode cX9_copyFilled 17 = .ok (.getfield 83, 3) := by decide +kernel
theorem dX9_copyFilled_20 : decode cX9_copyFilled 20 = .ok (.arraylength, 1) := by decide +kernel
theorem dX9_copyFilled_21 : decode cX9_copyFilled 21 = .ok (.if_icmp .ge 31, 3) := by decide +kernel
theorem dX9_copyFilled_24 : decode cX9_copyFilled 24 = .ok (.aload_n 0, 1) := by decide +kernel
theorem dX9_copyFilled_25 : decode cX9_copyFilled 25 = .ok (.getfield 83, 3) := by decide +kernel
theorem dX9_copyFilled_28 : decode cX9_copyFilled 28 = .ok (.iload_n 2, 1) := by decide +kernel
theorem dX9_copyFilled_29 : decode cX9_copyFilled 29 = .ok (.aload_n 0, 1) := by decide +kernel
theorem dX9_copyFilled_30 : decode cX9_copyFilled 30 = .ok (.getfield 34, 3) := by decide +kernel
theorem dX9_copyFilled_33 : decode cX9_copyFilled 33 = .ok (.aload_n 0, 1) := by decide +kernel
theorem dX9_copyFilled_34 : decode cX9_copyFilled 34 = .ok (.getfield 44, 3) := by decide +kernel
theorem dX9_copyFilled_37 : decode cX9_copyFilled 37 = .ok (.getfield 183, 3) := by decide +kernel
theorem dX9_copyFilled_40 : decode cX9_copyFilled 40 = .ok (.iload_n 2, 1) := by decide +kernel
theorem dX9_copyFilled_41 : decode cX9_copyFilled 41 = .ok (.laload, 1) := by decide +kernel
theorem dX9_copyFilled_42 : decode cX9_copyFilled 42 = .ok (.invokevirtual 184, 3) := by decide +kernel
theorem dX9_copyFilled_45 : decode cX9_copyFilled 45 = .ok (.iastore, 1) := by decide +kernel
theorem dX9_copyFilled_46 : decode cX9_copyFilled 46 = .ok (.iinc 2 1, 3) := by decide +kernel
theorem dX9_copyFilled_49 : decode cX9_copyFilled 49 = .ok (.goto (-39), 3) := by decide +kernel
theorem dX9_copyFilled_52 : decode cX9_copyFilled 52 = .ok (.iload_n 1, 1) := by decide +kernel
theorem dX9_copyFilled_53 : decode cX9_copyFilled 53 = .ok (.ireturn, 1) := by decide +kernel
theorem dX9_freeAbove_0 : decode cX9_freeAbove 0 = .ok (.iconst 0, 1) := by decide +kernel
theorem dX9_freeAbove_1 : decode cX9_freeAbove 1 = .ok (.istore_n 2, 1) := by decide +kernel
theorem dX9_freeAbove_2 : decode cX9_freeAbove 2 = .ok (.iconst 0, 1) := by decide +kernel
theorem dX9_freeAbove_3 : decode cX9_freeAbove 3 = .ok (.istore_n 3, 1) := by decide +kernel
theorem dX9_freeAbove_4 : decode cX9_freeAbove 4 = .ok (.iload_n 3, 1) := by decide +kernel
theorem dX9_freeAbove_5 : decode cX9_freeAbove 5 = .ok (.iload_n 1, 1) := by decide +kernel
theorem dX9_freeAbove_6 : decode cX9_freeAbove 6 = .ok (.if_icmp .ge 35, 3) := by decide +kernel
theorem dX9_freeAbove_9 : decode cX9_freeAbove 9 = .ok (.iload_n 3, 1) := by decide +kernel
theorem dX9_freeAbove_10 : decode cX9_freeAbove 10 = .ok (.aload_n 0, 1) := by decide +kernel
theorem dX9_freeAbove_11 : decode cX9_freeAbove 11 = .ok (.getfield 83, 3) := by decide +kernel
theorem dX9_freeAbove_14 : decode cX9_freeAbove 14 = .ok (.arraylength, 1) := by decide +kernel
theorem dX9_freeAbove_15 : decode cX9_freeAbove 15 = .ok (.if_icmp .ge 26, 3) := by decide +kernel
theorem dX9_freeAbove_18 : decode cX9_freeAbove 18 = .ok (.iload_n 2, 1) := by decide +kernel
theorem dX9_freeAbove_19 : decode cX9_freeAbove 19 = .ok (.aload_n 0, 1) := by decide +kernel
theorem dX9_freeAbove_20 : decode cX9_freeAbove 20 = .ok (.getfield 34, 3) := by decide +kernel
theorem dX9_freeAbove_23 : decode cX9_freeAbove 23 = .ok (.getfield 124, 3) := by decide +kernel
theorem dX9_freeAbove_26 : decode cX9_freeAbove 26 = .ok (.aload_n 0, 1) := by decide +kernel
theorem dX9_freeAbove_27 : decode cX9_freeAbove 27 = .ok (.getfield 83, 3) := by decide +kernel
theorem dX9_freeAbove_30 : decode cX9_freeAbove 30 = .ok (.iload_n 3, 1) := by decide +kernel
theorem dX9_freeAbove_31 : decode cX9_freeAbove 31 = .ok (.iaload, 1) := by decide +kernel
theorem dX9_freeAbove_32 : decode cX9_freeAbove 32 = .ok (.isub, 1) := by decide +kernel
theorem dX9_freeAbove_33 : decode cX9_freeAbove 33 = .ok (.iadd, 1) := by decide +kernel
theorem dX9_freeAbove_34 : decode cX9_freeAbove 34 = .ok (.istore_n 2, 1) := by decide +kernel
theorem dX9_freeAbove_35 : decode cX9_freeAbove 35 = .ok (.iinc 3 1, 3) := by decide +kernel
theorem dX9_freeAbove_38 : decode cX9_freeAbove 38 = .ok (.goto (-34), 3) := by decide +kernel
theorem dX9_freeAbove_41 : decode cX9_freeAbove 41 = .ok (.iload_n 2, 1) := by decide +kernel
theorem dX9_freeAbove_42 : decode cX9_freeAbove 42 = .ok (.ireturn, 1) := by decide +kernel
theorem dX9_critical_0 : decode cX9_critical 0 = .ok (.aload_n 0, 1) := by decide +kernel
theorem dX9_critical_1 : decode cX9_critical 1 = .ok (.getfield 61, 3) := by decide +kernel
theorem dX9_critical_4 : decode cX9_critical 4 = .ok (.aload_n 1, 1) := by decide +kernel
theorem dX9_critical_5 : decode cX9_critical 5 = .ok (.invokevirtual 209, 3) := by decide +kernel
theorem dX9_critical_8 : decode cX9_critical 8 = .ok (.istore_n 2, 1) := by decide +kernel
theorem dX9_critical_9 : decode cX9_critical 9 = .ok (.iconst 0, 1) := by decide +kernel
theorem dX9_critical_10 : decode cX9_critical 10 = .ok (.istore_n 3, 1) := by decide +kernel
theorem dX9_critical_11 : decode cX9_critical 11 = .ok (.iconst 0, 1) := by decide +kernel
theorem dX9_critical_12 : decode cX9_critical 12 = .ok (.istore 4, 2) := by decide +kernel
theorem dX9_critical_14 : decode cX9_critical 14 = .ok (.iload 4, 2) := by decide +kernel
theorem dX9_critical_16 : decode cX9_critical 16 = .ok (.aload_n 1, 1) := by decide +kernel
theorem dX9_critical_17 : decode cX9_critical 17 = .ok (.getfield 127, 3) := by decide +kernel
theorem dX9_critical_20 : decode cX9_critical 20 = .ok (.if_icmp .ge 64, 3) := by decide +kernel
theorem dX9_critical_23 : decode cX9_critical 23 = .ok (.aload_n 1, 1) := by decide +kernel
theorem dX9_critical_24 : decode cX9_critical 24 = .ok (.getfield 212, 3) := by decide +kernel
theorem dX9_critical_27 : decode cX9_critical 27 = .ok (.iload 4, 2) := by decide +kernel
theorem dX9_critical_29 : decode cX9_critical 29 = .ok (.iaload, 1) := by decide +kernel
theorem dX9_critical_30 : decode cX9_critical 30 = .ok (.ifCond .le 48, 3) := by decide +kernel
theorem dX9_critical_33 : decode cX9_critical 33 = .ok (.aload_n 1, 1) := by decide +kernel
theorem dX9_critical_34 : decode cX9_critical 34 = .ok (.getfield 212, 3) := by decide +kernel
theorem dX9_critical_37 : decode cX9_critical 37 = .ok (.iload 4, 2) := by decide +kernel
theorem dX9_critical_39 : decode cX9_critical 39 = .ok (.dup2, 1) := by decide +kernel
theorem dX9_critical_40 : decode cX9_critical 40 = .ok (.iaload, 1) := by decide +kernel
theorem dX9_critical_41 : decode cX9_critical 41 = .ok (.iconst 1, 1) := by decide +kernel
theorem dX9_critical_42 : decode cX9_critical 42 = .ok (.isub, 1) := by decide +kernel
theorem dX9_critical_43 : decode cX9_critical 43 = .ok (.iastore, 1) := by decide +kernel
theorem dX9_critical_44 : decode cX9_critical 44 = .ok (.iload_n 3, 1) := by decide +kernel
theorem dX9_critical_45 : decode cX9_critical 45 = .ok (.aload_n 0, 1) := by decide +kernel
theorem dX9_critical_46 : decode cX9_critical 46 = .ok (.getfield 61, 3) := by decide +kernel
theorem dX9_critical_49 : decode cX9_critical 49 = .ok (.aload_n 1, 1) := by decide +kernel
theorem dX9_critical_50 : decode cX9_critical 50 = .ok (.invokevirtual 209, 3) := by decide +kernel
theorem dX9_critical_53 : decode cX9_critical 53 = .ok (.iload_n 2, 1) := by decide +kernel
theorem dX9_critical_54 : decode cX9_critical 54 = .ok (.if_icmp .ge 10, 3) := by decide +kernel
theorem dX9_critical_57 : decode cX9_critical 57 = .ok (.iconst 1, 1) := by decide +kernel
theorem dX9_critical_58 : decode cX9_critical 58 = .ok (.iload 4, 2) := by decide +kernel
theorem dX9_critical_60 : decode cX9_critical 60 = .ok (.ishl, 1) := by decide +kernel
theorem dX9_critical_61 : decode cX9_critical 61 = .ok (.goto 4, 3) := by decide +kernel
theorem dX9_critical_64 : decode cX9_critical 64 = .ok (.iconst 0, 1) := by decide +kernel
theorem dX9_critical_65 : decode cX9_critical 65 = .ok (.ior, 1) := by decide +kernel
theorem dX9_critical_66 : decode cX9_critical 66 = .ok (.istore_n 3, 1) := by decide +kernel
theorem dX9_critical_67 : decode cX9_critical 67 = .ok (.aload_n 1, 1) := by decide +kernel
theorem dX9_critical_68 : decode cX9_critical 68 = .ok (.getfield 212, 3) := by decide +kernel
theorem dX9_critical_71 : decode cX9_critical 71 = .ok (.iload 4, 2) := by decide +kernel
theorem dX9_critical_73 : decode cX9_critical 73 = .ok (.dup2, 1) := by decide +kernel
theorem dX9_critical_74 : decode cX9_critical 74 = .ok (.iaload, 1) := by decide +kernel
theorem dX9_critical_75 : decode cX9_critical 75 = .ok (.iconst 1, 1) := by decide +kernel
theorem dX9_critical_76 : decode cX9_critical 76 = .ok (.iadd, 1) := by decide +kernel
theorem dX9_critical_77 : decode cX9_critical 77 = .ok (.iastore, 1) := by decide +kernel
theorem dX9_critical_78 : decode cX9_critical 78 = .ok (.iinc 4 1, 3) := by decide +kernel
theorem dX9_critical_81 : decode cX9_critical 81 = .ok (.goto (-67), 3) := by decide +kernel
theorem dX9_critical_84 : decode cX9_critical 84 = .ok (.iload_n 3, 1) := by decide +kernel
theorem dX9_critical_85 : decode cX9_critical 85 = .ok (.ireturn, 1) := by decide +kernel
theorem dX9_apart_0 : decode cX9_apart 0 = .ok (.iconst 0, 1) := by decide +kernel
theorem dX9_apart_1 : decode cX9_apart 1 = .ok (.istore_n 1, 1) := by decide +kernel
theorem dX9_apart_2 : decode cX9_apart 2 = .ok (.iconst 0, 1) := by decide +kernel
theorem dX9_apart_3 : decode cX9_apart 3 = .ok (.istore_n 2, 1) := by decide +kernel
theorem dX9_apart_4 : decode cX9_apart 4 = .ok (.iload_n 2, 1) := by decide +kernel
theorem dX9_apart_5 : decode cX9_apart 5 = .ok (.aload_n 0, 1) := by decide +kernel
theorem dX9_apart_6 : decode cX9_apart 6 = .ok (.getfield 127, 3) := by decide +kernel
theorem dX9_apart_9 : decode cX9_apart 9 = .ok (.if_icmp .ge 34, 3) := by decide +kernel
theorem dX9_apart_12 : decode cX9_apart 12 = .ok (.iload_n 1, 1) := by decide +kernel
theorem dX9_apart_13 : decode cX9_apart 13 = .ok (.aload_n 0, 1) := by decide +kernel
theorem dX9_apart_14 : decode cX9_apart 14 = .ok (.getfield 212, 3) := by decide +kernel
theorem dX9_apart_17 : decode cX9_apart 17 = .ok (.iload_n 2, 1) := by decide +kernel
theorem dX9_apart_18 : decode cX9_apart 18 = .ok (.iaload, 1) := by decide +kernel
theorem dX9_apart_19 : decode cX9_apart 19 = .ok (.aload_n 0, 1) := by decide +kernel
theorem dX9_apart_20 : decode cX9_apart 20 = .ok (.getfield 124, 3) := by decide +kernel
theorem dX9_apart_23 : decode cX9_apart 23 = .ok (.aload_n 0, 1) := by decide +kernel
theorem dX9_apart_24 : decode cX9_apart 24 = .ok (.getfield 165, 3) := by decide +kernel
theorem dX9_apart_27 : decode cX9_apart 27 = .ok (.iload_n 2, 1) := by decide +kernel
theorem dX9_apart_28 : decode cX9_apart 28 = .ok (.iaload, 1) := by decide +kernel
theorem dX9_apart_29 : decode cX9_apart 29 = .ok (.invokestatic 432, 3) := by decide +kernel
theorem dX9_apart_32 : decode cX9_apart 32 = .ok (.invokestatic 365, 3) := by decide +kernel
theorem dX9_apart_35 : decode cX9_apart 35 = .ok (.iadd, 1) := by decide +kernel
theorem dX9_apart_36 : decode cX9_apart 36 = .ok (.istore_n 1, 1) := by decide +kernel
theorem dX9_apart_37 : decode cX9_apart 37 = .ok (.iinc 2 1, 3) := by decide +kernel
theorem dX9_apart_40 : decode cX9_apart 40 = .ok (.goto (-36), 3) := by decide +kernel
theorem dX9_apart_43 : decode cX9_apart 43 = .ok (.iload_n 1, 1) := by decide +kernel
theorem dX9_apart_44 : decode cX9_apart 44 = .ok (.ireturn, 1) := by decide +kernel
theorem dX9_power_0 : decode cX9_power 0 = .ok (.iconst 1, 1) := by decide +kernel
theorem dX9_power_1 : decode cX9_power 1 = .ok (.istore_n 2, 1) := by decide +kernel
theorem dX9_power_2 : decode cX9_power 2 = .ok (.iconst 0, 1) := by decide +kernel
theorem dX9_power_3 : decode cX9_power 3 = .ok (.istore_n 3, 1) := by decide +kernel
theorem dX9_power_4 : decode cX9_power 4 = .ok (.iload_n 3, 1) := by decide +kernel
theorem dX9_power_5 : decode cX9_power 5 = .ok (.iload_n 1, 1) := by decide +kernel
theorem dX9_power_6 : decode cX9_power 6 = .ok (.if_icmp .ge 13, 3) := by decide +kernel
theorem dX9_power_9 : decode cX9_power 9 = .ok (.iload_n 2, 1) := by decide +kernel
theorem dX9_power_10 : decode cX9_power 10 = .ok (.iload_n 0, 1) := by decide +kernel
theorem dX9_power_11 : decode cX9_power 11 = .ok (.imul, 1) := by decide +kernel
theorem dX9_power_12 : decode cX9_power 12 = .ok (.istore_n 2, 1) := by decide +kernel
theorem dX9_power_13 : decode cX9_power 13 = .ok (.iinc 3 1, 3) := by decide +kernel
theorem dX9_power_16 : decode cX9_power 16 = .ok (.goto (-12), 3) := by decide +kernel
theorem dX9_power_19 : decode cX9_power 19 = .ok (.iload_n 2, 1) := by decide +kernel
theorem dX9_power_20 : decode cX9_power 20 = .ok (.ireturn, 1) := by decide +kernel
theorem dX10_init_0 : decode cX10_init 0 = .ok (.aload_n 0, 1) := by decide +kernel
theorem dX10_init_1 : decode cX10_init 1 = .ok (.invokespecial 3, 3) := by decide +kernel
theorem dX10_init_4 : decode cX10_init 4 = .ok (.aload_n 0, 1) := by decide +kernel
theorem dX10_init_5 : decode cX10_init 5 = .ok (.sipush 6800, 3) := by decide +kernel
theorem dX10_init_8 : decode cX10_init 8 = .ok (.newarray .int, 2) := by decide +kernel
theorem dX10_init_10 : decode cX10_init 10 = .ok (.putfield 9, 3) := by decide +kernel
theorem dX10_init_13 : decode cX10_init 13 = .ok (.aload_n 0, 1) := by decide +kernel
theorem dX10_init_14 : decode cX10_init 14 = .ok (.bipush 6, 2) := by decide +kernel
theorem dX10_init_16 : decode cX10_init 16 = .ok (.newarray .int, 2) := by decide +kernel
theorem dX10_init_18 : decode cX10_init 18 = .ok (.putfield 13, 3) := by decide +kernel
theorem dX10_init_21 : decode cX10_init 21 = .ok (.aload_n 0, 1) := by decide +kernel
theorem dX10_init_22 : decode cX10_init 22 = .ok (.bipush 16, 2) := by decide +kernel
theorem dX10_init_24 : decode cX10_init 24 = .ok (.newarray .int, 2) := by decide +kernel
theorem dX10_init_26 : decode cX10_init 26 = .ok (.putfield 16, 3) := by decide +kernel
theorem dX10_init_29 : decode cX10_init 29 = .ok (.aload_n 0, 1) := by decide +kernel
theorem dX10_init_30 : decode cX10_init 30 = .ok (.bipush 16, 2) := by decide +kernel
theorem dX10_init_32 : decode cX10_init 32 = .ok (.newarray .int, 2) := by decide +kernel
theorem dX10_init_34 : decode cX10_init 34 = .ok (.putfield 19, 3) := by decide +kernel
theorem dX10_init_37 : decode cX10_init 37 = .ok (.aload_n 0, 1) := by decide +kernel
theorem dX10_init_38 : decode cX10_init 38 = .ok (.bipush 6, 2) := by decide +kernel
theorem dX10_init_40 : decode cX10_init 40 = .ok (.newarray .int, 2) := by decide +kernel
theorem dX10_init_42 : decode cX10_init 42 = .ok (.putfield 22, 3) := by decide +kernel
theorem dX10_init_45 : decode cX10_init 45 = .ok (.aload_n 0, 1) := by decide +kernel
theorem dX10_init_46 : decode cX10_init 46 = .ok (.bipush 30, 2) := by decide +kernel
theorem dX10_init_48 : decode cX10_init 48 = .ok (.putfield 25, 3) := by decide +kernel
theorem dX10_init_51 : decode cX10_init 51 = .ok (.aload_n 0, 1) := by decide +kernel
theorem dX10_init_52 : decode cX10_init 52 = .ok (.sipush 700, 3) := by decide +kernel
theorem dX10_init_55 : decode cX10_init 55 = .ok (.newarray .int, 2) := by decide +kernel
theorem dX10_init_57 : decode cX10_init 57 = .ok (.putfield 29, 3) := by decide +kernel
theorem dX10_init_60 : decode cX10_init 60 = .ok (.aload_n 0, 1) := by decide +kernel
theorem dX10_init_61 : decode cX10_init 61 = .ok (.iconst (-1), 1) := by decide +kernel
theorem dX10_init_62 : decode cX10_init 62 = .ok (.putfield 32, 3) := by decide +kernel
theorem dX10_init_65 : decode cX10_init 65 = .ok (.aload_n 0, 1) := by decide +kernel
theorem dX10_init_66 : decode cX10_init 66 = .ok (.bipush 6, 2) := by decide +kernel
theorem dX10_init_68 : decode cX10_init 68 = .ok (.newarray .int, 2) := by decide +kernel
theorem dX10_init_70 : decode cX10_init 70 = .ok (.putfield 35, 3) := by decide +kernel
theorem dX10_init_73 : decode cX10_init 73 = .ok (.aload_n 0, 1) := by decide +kernel
theorem dX10_init_74 : decode cX10_init 74 = .ok (.bipush 80, 2) := by decide +kernel
theorem dX10_init_76 : decode cX10_init 76 = .ok (.newarray .int, 2) := by decide +kernel
theorem dX10_init_78 : decode cX10_init 78 = .ok (.putfield 38, 3) := by decide +kernel
theorem dX10_init_81 : decode cX10_init 81 = .ok (.aload_n 0, 1) := by decide +kernel
theorem dX10_init_82 : decode cX10_init 82 = .ok (.bipush 6, 2) := by decide +kernel
theorem dX10_init_84 : decode cX10_init 84 = .ok (.newarray .int, 2) := by decide +kernel
theorem dX10_init_86 : decode cX10_init 86 = .ok (.putfield 41, 3) := by decide +kernel
theorem dX10_init_89 : decode cX10_init 89 = .ok (.aload_n 0, 1) := by decide +kernel
theorem dX10_init_90 : decode cX10_init 90 = .ok (.bipush 6, 2) := by decide +kernel
theorem dX10_init_92 : decode cX10_init 92 = .ok (.newarray .int, 2) := by decide +kernel
theorem dX10_init_94 : decode cX10_init 94 = .ok (.putfield 44, 3) := by decide +kernel
theorem dX10_init_97 : decode cX10_init 97 = .ok (.aload_n 0, 1) := by decide +kernel
theorem dX10_init_98 : decode cX10_init 98 = .ok (.bipush 6, 2) := by decide +kernel
theorem dX10_init_100 : decode cX10_init 100 = .ok (.newarray .int, 2) := by decide +kernel
theorem dX10_init_102 : decode cX10_init 102 = .ok (.putfield 47, 3) := by decide +kernel
theorem dX10_init_105 : decode cX10_init 105 = .ok (.aload_n 0, 1) := by decide +kernel
theorem dX10_init_106 : decode cX10_init 106 = .ok (.bipush 24, 2) := by decide +kernel
theorem dX10_init_108 : decode cX10_init 108 = .ok (.newarray .int, 2) := by decide +kernel
theorem dX10_init_110 : decode cX10_init 110 = .ok (.putfield 50, 3) := by decide +kernel
theorem dX10_init_113 : decode cX10_init 113 = .ok (.aload_n 0, 1) := by decide +kernel
theorem dX10_init_114 : decode cX10_init 114 = .ok (.bipush 24, 2) := by decide +kernel
theorem dX10_init_116 : decode cX10_init 116 = .ok (.newarray .int, 2) := by decide +kernel
theorem dX10_init_118 : decode cX10_init 118 = .ok (.putfield 53, 3) := by decide +kernel
theorem dX10_init_121 : decode cX10_init 121 = .ok (.aload_n 0, 1) := by decide +kernel
theorem dX10_init_122 : decode cX10_init 122 = .ok (.bipush 100, 2) := by decide +kernel
theorem dX10_init_124 : decode cX10_init 124 = .ok (.newarray .int, 2) := by decide +kernel
theorem dX10_init_126 : decode cX10_init 126 = .ok (.putfield 56, 3) := by decide +kernel
theorem dX10_init_129 : decode cX10_init 129 = .ok (.aload_n 0, 1) := by decide +kernel
theorem dX10_init_130 : decode cX10_init 130 = .ok (.sipush 168, 3) := by decide +kernel
theorem dX10_init_133 : decode cX10_init 133 = .ok (.newarray .int, 2) := by decide +kernel
theorem dX10_init_135 : decode cX10_init 135 = .ok (.putfield 59, 3) := by decide +kernel
theorem dX10_init_138 : decode cX10_init 138 = .ok (.aload_n 0, 1) := by decide +kernel
theorem dX10_init_139 : decode cX10_init 139 = .ok (.sipush 168, 3) := by decide +kernel
theorem dX10_init_142 : decode cX10_init 142 = .ok (.newarray .int, 2) := by decide +kernel
theorem dX10_init_144 : decode cX10_init 144 = .ok (.putfield 62, 3) := by decide +kernel
theorem dX10_init_147 : decode cX10_init 147 = .ok (.aload_n 0, 1) := by decide +kernel
theorem dX10_init_148 : decode cX10_init 148 = .ok (.sipush 150, 3) := by decide +kernel
theorem dX10_init_151 : decode cX10_init 151 = .ok (.newarray .int, 2) := by decide +kernel
theorem dX10_init_153 : decode cX10_init 153 = .ok (.putfield 65, 3) := by decide +kernel
theorem dX10_init_156 : decode cX10_init 156 = .ok (.aload_n 0, 1) := by decide +kernel
theorem dX10_init_157 : decode cX10_init 157 = .ok (.bipush 28, 2) := by decide +kernel
theorem dX10_init_159 : decode cX10_init 159 = .ok (.newarray .boolean, 2) := by decide +kernel
theorem dX10_init_161 : decode cX10_init 161 = .ok (.putfield 68, 3) := by decide +kernel
theorem dX10_init_164 : decode cX10_init 164 = .ok (.aload_n 0, 1) := by decide +kernel
theorem dX10_init_165 : decode cX10_init 165 = .ok (.bipush 7, 2) := by decide +kernel
theorem dX10_init_167 : decode cX10_init 167 = .ok (.newarray .int, 2) := by decide +kernel
theorem dX10_init_169 : decode cX10_init 169 = .ok (.putfield 72, 3) := by decide +kernel
theorem dX10_init_172 : decode cX10_init 172 = .ok (.aload_n 0, 1) := by decide +kernel
theorem dX10_init_173 : decode cX10_init 173 = .ok (.sipush 700, 3) := by decide +kernel
theorem dX10_init_176 : decode cX10_init 176 = .ok (.newarray .int, 2) := by decide +kernel
theorem dX10_init_178 : decode cX10_init 178 = .ok (.putfield 75, 3) := by decide +kernel
theorem dX10_init_181 : decode cX10_init 181 = .ok (.aload_n 0, 1) := by decide +kernel
theorem dX10_init_182 : decode cX10_init 182 = .ok (.sipush 700, 3) := by decide +kernel
theorem dX10_init_185 : decode cX10_init 185 = .ok (.newarray .int, 2) := by decide +kernel
theorem dX10_init_187 : decode cX10_init 187 = .ok (.putfield 78, 3) := by decide +kernel
theorem dX10_init_190 : decode cX10_init 190 = .ok (.aload_n 0, 1) := by decide +kernel
theorem dX10_init_191 : decode cX10_init 191 = .ok (.sipush 700, 3) := by decide +kernel
theorem dX10_init_194 : decode cX10_init 194 = .ok (.newarray .int, 2) := by decide +kernel
theorem dX10_init_196 : decode cX10_init 196 = .ok (.putfield 81, 3) := by decide +kernel
theorem dX10_init_199 : decode cX10_init 199 = .ok (.aload_n 0, 1) := by decide +kernel
theorem dX10_init_200 : decode cX10_init 200 = .ok (.bipush 6, 2) := by decide +kernel
theorem dX10_init_202 : decode cX10_init 202 = .ok (.newarray .int, 2) := by decide +kernel
theorem dX10_init_204 : decode cX10_init 204 = .ok (.putfield 84, 3) := by decide +kernel
theorem dX10_init_207 : decode cX10_init 207 = .ok (.aload_n 0, 1) := by decide +kernel
theorem dX10_init_208 : decode cX10_init 208 = .ok (.sipush 4800, 3) := by decide +kernel
theorem dX10_init_211 : decode cX10_init 211 = .ok (.newarray .int, 2) := by decide +kernel
theorem dX10_init_213 : decode cX10_init 213 = .ok (.putfield 87, 3) := by decide +kernel
theorem dX10_init_216 : decode cX10_init 216 = .ok (.return_, 1) := by decide +kernel
theorem dX10_thrown_0 : decode cX10_thrown 0 = .ok (.aload_n 0, 1) := by decide +kernel
theorem dX10_thrown_1 : decode cX10_thrown 1 = .ok (.getfield 90, 3) := by decide +kernel
theorem dX10_thrown_4 : decode cX10_thrown 4 = .ok (.ireturn, 1) := by decide +kernel
theorem dX10_fine_0 : decode cX10_fine 0 = .ok (.aload_n 0, 1) := by decide +kernel
theorem dX10_fine_1 : decode cX10_fine 1 = .ok (.getfield 90, 3) := by decide +kernel
theorem dX10_fine_4 : decode cX10_fine 4 = .ok (.ifCond .ne 12, 3) := by decide +kernel
theorem dX10_fine_7 : decode cX10_fine 7 = .ok (.iload_n 1, 1) := by decide +kernel
theorem dX10_fine_8 : decode cX10_fine 8 = .ok (.ifCond .ne 8, 3) := by decide +kernel
theorem dX10_fine_11 : decode cX10_fine 11 = .ok (.aload_n 0, 1) := by decide +kernel
theorem dX10_fine_12 : decode cX10_fine 12 = .ok (.iload_n 2, 1) := by decide +kernel
theorem dX10_fine_13 : decode cX10_fine 13 = .ok (.putfield 90, 3) := by decide +kernel
theorem dX10_fine_16 : decode cX10_fine 16 = .ok (.aload_n 0, 1) := by decide +kernel
theorem dX10_fine_17 : decode cX10_fine 17 = .ok (.getfield 90, 3) := by decide +kernel
theorem dX10_fine_20 : decode cX10_fine 20 = .ok (.ifCond .ne 7, 3) := by decide +kernel
theorem dX10_fine_23 : decode cX10_fine 23 = .ok (.iconst 1, 1) := by decide +kernel
theorem dX10_fine_24 : decode cX10_fine 24 = .ok (.goto 4, 3) := by decide +kernel
theorem dX10_fine_27 : decode cX10_fine 27 = .ok (.iconst 0, 1) := by decide +kernel
theorem dX10_fine_28 : decode cX10_fine 28 = .ok (.ireturn, 1) := by decide +kernel
theorem dX10_within_0 : decode cX10_within 0 = .ok (.iload_n 0, 1) := by decide +kernel
theorem dX10_within_1 : decode cX10_within 1 = .ok (.iload_n 1, 1) := by decide +kernel
theorem dX10_within_2 : decode cX10_within 2 = .ok (.if_icmp .lt 12, 3) := by decide +kernel
theorem dX10_within_5 : decode cX10_within 5 = .ok (.iload_n 0, 1) := by decide +kernel
theorem dX10_within_6 : decode cX10_within 6 = .ok (.iload_n 2, 1) := by decide +kernel
theorem dX10_within_7 : decode cX10_within 7 = .ok (.if_icmp .gt 7, 3) := by decide +kernel
theorem dX10_within_10 : decode cX10_within 10 = .ok (.iconst 1, 1) := by decide +kernel
theorem dX10_within_11 : decode cX10_within 11 = .ok (.goto 4, 3) := by decide +kernel
theorem dX10_within_14 : decode cX10_within 14 = .ok (.iconst 0, 1) := by decide +kernel
theorem dX10_within_15 : decode cX10_within 15 = .ok (.ireturn, 1) := by decide +kernel
theorem dX10_copies_0 : decode cX10_copies 0 = .ok (.iconst 0, 1) := by decide +kernel
theorem dX10_copies_1 : decode cX10_copies 1 = .ok (.istore 4, 2) := by decide +kernel
theorem dX10_copies_3 : decode cX10_copies 3 = .ok (.iload 4, 2) := by decide +kernel
theorem dX10_copies_5 : decode cX10_copies 5 = .ok (.iload_n 3, 1) := by decide +kernel
theorem dX10_copies_6 : decode cX10_copies 6 = .ok (.if_icmp .ge 27, 3) := by decide +kernel
theorem dX10_copies_9 : decode cX10_copies 9 = .ok (.aload_n 0, 1) := by decide +kernel
theorem dX10_copies_10 : decode cX10_copies 10 = .ok (.getfield 9, 3) := by decide +kernel
theorem dX10_copies_13 : decode cX10_copies 13 = .ok (.iload_n 2, 1) := by decide +kernel
theorem dX10_copies_14 : decode cX10_copies 14 = .ok (.iload 4, 2) := by decide +kernel
theorem dX10_copies_16 : decode cX10_copies 16 = .ok (.iadd, 1) := by decide +kernel
theorem dX10_copies_17 : decode cX10_copies 17 = .ok (.aload_n 0, 1) := by decide +kernel
theorem dX10_copies_18 : decode cX10_copies 18 = .ok (.getfield 9, 3) := by decide +kernel
theorem dX10_copies_21 : decode cX10_copies 21 = .ok (.iload_n 1, 1) := by decide +kernel
theorem dX10_copies_22 : decode cX10_copies 22 = .ok (.iload 4, 2) := by decide +kernel
theorem dX10_copies_24 : decode cX10_copies 24 = .ok (.iadd, 1) := by decide +kernel
theorem dX10_copies_25 : decode cX10_copies 25 = .ok (.iaload, 1) := by decide +kernel
theorem dX10_copies_26 : decode cX10_copies 26 = .ok (.iastore, 1) := by decide +kernel
theorem dX10_copies_27 : decode cX10_copies 27 = .ok (.iinc 4 1, 3) := by decide +kernel
theorem dX10_copies_30 : decode cX10_copies 30 = .ok (.goto (-27), 3) := by decide +kernel
theorem dX10_copies_33 : decode cX10_copies 33 = .ok (.return_, 1) := by decide +kernel
theorem dX10_up_0 : decode cX10_up 0 = .ok (.iload_n 0, 1) := by decide +kernel
theorem dX10_up_1 : decode cX10_up 1 = .ok (.iload_n 1, 1) := by decide +kernel
