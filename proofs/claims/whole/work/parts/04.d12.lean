theorem dX7_dropBin_42 : decode cX7_dropBin 42 = .ok (.bipush 11, 2) := by decide +kernel
theorem dX7_dropBin_44 : decode cX7_dropBin 44 = .ok (.lconst 0, 1) := by decide +kernel
theorem dX7_dropBin_45 : decode cX7_dropBin 45 = .ok (.lastore, 1) := by decide +kernel
theorem dX7_dropBin_46 : decode cX7_dropBin 46 = .ok (.aload_n 0, 1) := by decide +kernel
theorem dX7_dropBin_47 : decode cX7_dropBin 47 = .ok (.getfield 11, 3) := by decide +kernel
theorem dX7_dropBin_50 : decode cX7_dropBin 50 = .ok (.bipush 13, 2) := by decide +kernel
theorem dX7_dropBin_52 : decode cX7_dropBin 52 = .ok (.dup2, 1) := by decide +kernel
theorem dX7_dropBin_53 : decode cX7_dropBin 53 = .ok (.laload, 1) := by decide +kernel
theorem dX7_dropBin_54 : decode cX7_dropBin 54 = .ok (.lconst 1, 1) := by decide +kernel
theorem dX7_dropBin_55 : decode cX7_dropBin 55 = .ok (.lsub, 1) := by decide +kernel
theorem dX7_dropBin_56 : decode cX7_dropBin 56 = .ok (.lastore, 1) := by decide +kernel
theorem dX7_dropBin_57 : decode cX7_dropBin 57 = .ok (.return_, 1) := by decide +kernel
theorem dX7_moveIn_0 : decode cX7_moveIn 0 = .ok (.aload_n 0, 1) := by decide +kernel
theorem dX7_moveIn_1 : decode cX7_moveIn 1 = .ok (.iload_n 2, 1) := by decide +kernel
theorem dX7_moveIn_2 : decode cX7_moveIn 2 = .ok (.invokevirtual 53, 3) := by decide +kernel
theorem dX7_moveIn_5 : decode cX7_moveIn 5 = .ok (.ifCond .eq 30, 3) := by decide +kernel
theorem dX7_moveIn_8 : decode cX7_moveIn 8 = .ok (.aload_n 0, 1) := by decide +kernel
theorem dX7_moveIn_9 : decode cX7_moveIn 9 = .ok (.getfield 11, 3) := by decide +kernel
theorem dX7_moveIn_12 : decode cX7_moveIn 12 = .ok (.iload_n 2, 1) := by decide +kernel
theorem dX7_moveIn_13 : decode cX7_moveIn 13 = .ok (.dup2, 1) := by decide +kernel
theorem dX7_moveIn_14 : decode cX7_moveIn 14 = .ok (.laload, 1) := by decide +kernel
theorem dX7_moveIn_15 : decode cX7_moveIn 15 = .ok (.iload_n 1, 1) := by decide +kernel
theorem dX7_moveIn_16 : decode cX7_moveIn 16 = .ok (.invokestatic 57, 3) := by decide +kernel
theorem dX7_moveIn_19 : decode cX7_moveIn 19 = .ok (.ladd, 1) := by decide +kernel
theorem dX7_moveIn_20 : decode cX7_moveIn 20 = .ok (.lastore, 1) := by decide +kernel
theorem dX7_moveIn_21 : decode cX7_moveIn 21 = .ok (.aload_n 0, 1) := by decide +kernel
theorem dX7_moveIn_22 : decode cX7_moveIn 22 = .ok (.getfield 11, 3) := by decide +kernel
theorem dX7_moveIn_25 : decode cX7_moveIn 25 = .ok (.bipush 12, 2) := by decide +kernel
theorem dX7_moveIn_27 : decode cX7_moveIn 27 = .ok (.dup2, 1) := by decide +kernel
theorem dX7_moveIn_28 : decode cX7_moveIn 28 = .ok (.laload, 1) := by decide +kernel
theorem dX7_moveIn_29 : decode cX7_moveIn 29 = .ok (.iload_n 1, 1) := by decide +kernel
theorem dX7_moveIn_30 : decode cX7_moveIn 30 = .ok (.invokestatic 57, 3) := by decide +kernel
theorem dX7_moveIn_33 : decode cX7_moveIn 33 = .ok (.lsub, 1) := by decide +kernel
theorem dX7_moveIn_34 : decode cX7_moveIn 34 = .ok (.lastore, 1) := by decide +kernel
theorem dX7_moveIn_35 : decode cX7_moveIn 35 = .ok (.return_, 1) := by decide +kernel
theorem dX7_moveOut_0 : decode cX7_moveOut 0 = .ok (.aload_n 0, 1) := by decide +kernel
theorem dX7_moveOut_1 : decode cX7_moveOut 1 = .ok (.iload_n 2, 1) := by decide +kernel
theorem dX7_moveOut_2 : decode cX7_moveOut 2 = .ok (.invokevirtual 53, 3) := by decide +kernel
theorem dX7_moveOut_5 : decode cX7_moveOut 5 = .ok (.ifCond .eq 30, 3) := by decide +kernel
theorem dX7_moveOut_8 : decode cX7_moveOut 8 = .ok (.aload_n 0, 1) := by decide +kernel
theorem dX7_moveOut_9 : decode cX7_moveOut 9 = .ok (.getfield 11, 3) := by decide +kernel
theorem dX7_moveOut_12 : decode cX7_moveOut 12 = .ok (.iload_n 2, 1) := by decide +kernel
theorem dX7_moveOut_13 : decode cX7_moveOut 13 = .ok (.dup2, 1) := by decide +kernel
theorem dX7_moveOut_14 : decode cX7_moveOut 14 = .ok (.laload, 1) := by decide +kernel
theorem dX7_moveOut_15 : decode cX7_moveOut 15 = .ok (.iload_n 1, 1) := by decide +kernel
theorem dX7_moveOut_16 : decode cX7_moveOut 16 = .ok (.invokestatic 57, 3) := by decide +kernel
theorem dX7_moveOut_19 : decode cX7_moveOut 19 = .ok (.lsub, 1) := by decide +kernel
theorem dX7_moveOut_20 : decode cX7_moveOut 20 = .ok (.lastore, 1) := by decide +kernel
theorem dX7_moveOut_21 : decode cX7_moveOut 21 = .ok (.aload_n 0, 1) := by decide +kernel
theorem dX7_moveOut_22 : decode cX7_moveOut 22 = .ok (.getfield 11, 3) := by decide +kernel
theorem dX7_moveOut_25 : decode cX7_moveOut 25 = .ok (.bipush 12, 2) := by decide +kernel
theorem dX7_moveOut_27 : decode cX7_moveOut 27 = .ok (.dup2, 1) := by decide +kernel
theorem dX7_moveOut_28 : decode cX7_moveOut 28 = .ok (.laload, 1) := by decide +kernel
theorem dX7_moveOut_29 : decode cX7_moveOut 29 = .ok (.iload_n 1, 1) := by decide +kernel
theorem dX7_moveOut_30 : decode cX7_moveOut 30 = .ok (.invokestatic 57, 3) := by decide +kernel
theorem dX7_moveOut_33 : decode cX7_moveOut 33 = .ok (.ladd, 1) := by decide +kernel
theorem dX7_moveOut_34 : decode cX7_moveOut 34 = .ok (.lastore, 1) := by decide +kernel
theorem dX7_moveOut_35 : decode cX7_moveOut 35 = .ok (.return_, 1) := by decide +kernel
theorem dX7_remember_0 : decode cX7_remember 0 = .ok (.aload_n 0, 1) := by decide +kernel
theorem dX7_remember_1 : decode cX7_remember 1 = .ok (.getfield 19, 3) := by decide +kernel
theorem dX7_remember_4 : decode cX7_remember 4 = .ok (.bipush 40, 2) := by decide +kernel
theorem dX7_remember_6 : decode cX7_remember 6 = .ok (.if_icmp .lt 26, 3) := by decide +kernel
theorem dX7_remember_9 : decode cX7_remember 9 = .ok (.aload_n 0, 1) := by decide +kernel
theorem dX7_remember_10 : decode cX7_remember 10 = .ok (.getfield 26, 3) := by decide +kernel
theorem dX7_remember_13 : decode cX7_remember 13 = .ok (.bipush 14, 2) := by decide +kernel
theorem dX7_remember_15 : decode cX7_remember 15 = .ok (.aload_n 0, 1) := by decide +kernel
theorem dX7_remember_16 : decode cX7_remember 16 = .ok (.getfield 26, 3) := by decide +kernel
theorem dX7_remember_19 : decode cX7_remember 19 = .ok (.iconst 0, 1) := by decide +kernel
theorem dX7_remember_20 : decode cX7_remember 20 = .ok (.sipush 546, 3) := by decide +kernel
theorem dX7_remember_23 : decode cX7_remember 23 = .ok (.invokestatic 35, 3) := by decide +kernel
theorem dX7_remember_26 : decode cX7_remember 26 = .ok (.aload_n 0, 1) := by decide +kernel
theorem dX7_remember_27 : decode cX7_remember 27 = .ok (.bipush 39, 2) := by decide +kernel
theorem dX7_remember_29 : decode cX7_remember 29 = .ok (.putfield 19, 3) := by decide +kernel
theorem dX7_remember_32 : decode cX7_remember 32 = .ok (.aload_n 0, 1) := by decide +kernel
theorem dX7_remember_33 : decode cX7_remember 33 = .ok (.getfield 11, 3) := by decide +kernel
theorem dX7_remember_36 : decode cX7_remember 36 = .ok (.iconst 0, 1) := by decide +kernel
theorem dX7_remember_37 : decode cX7_remember 37 = .ok (.aload_n 0, 1) := by decide +kernel
theorem dX7_remember_38 : decode cX7_remember 38 = .ok (.getfield 26, 3) := by decide +kernel
theorem dX7_remember_41 : decode cX7_remember 41 = .ok (.aload_n 0, 1) := by decide +kernel
theorem dX7_remember_42 : decode cX7_remember 42 = .ok (.getfield 19, 3) := by decide +kernel
theorem dX7_remember_45 : decode cX7_remember 45 = .ok (.bipush 14, 2) := by decide +kernel
theorem dX7_remember_47 : decode cX7_remember 47 = .ok (.imul, 1) := by decide +kernel
theorem dX7_remember_48 : decode cX7_remember 48 = .ok (.bipush 14, 2) := by decide +kernel
theorem dX7_remember_50 : decode cX7_remember 50 = .ok (.invokestatic 35, 3) := by decide +kernel
theorem dX7_remember_53 : decode cX7_remember 53 = .ok (.aload_n 0, 1) := by decide +kernel
theorem dX7_remember_54 : decode cX7_remember 54 = .ok (.dup, 1) := by decide +kernel
theorem dX7_remember_55 : decode cX7_remember 55 = .ok (.getfield 19, 3) := by decide +kernel
theorem dX7_remember_58 : decode cX7_remember 58 = .ok (.iconst 1, 1) := by decide +kernel
theorem dX7_remember_59 : decode cX7_remember 59 = .ok (.iadd, 1) := by decide +kernel
theorem dX7_remember_60 : decode cX7_remember 60 = .ok (.putfield 19, 3) := by decide +kernel
theorem dX7_remember_63 : decode cX7_remember 63 = .ok (.return_, 1) := by decide +kernel
theorem dX7_goBack_0 : decode cX7_goBack 0 = .ok (.aload_n 0, 1) := by decide +kernel
theorem dX7_goBack_1 : decode cX7_goBack 1 = .ok (.getfield 19, 3) := by decide +kernel
theorem dX7_goBack_4 : decode cX7_goBack 4 = .ok (.iconst 1, 1) := by decide +kernel
theorem dX7_goBack_5 : decode cX7_goBack 5 = .ok (.if_icmp .lt 12, 3) := by decide +kernel
theorem dX7_goBack_8 : decode cX7_goBack 8 = .ok (.aload_n 0, 1) := by decide +kernel
theorem dX7_goBack_9 : decode cX7_goBack 9 = .ok (.getfield 19, 3) := by decide +kernel
theorem dX7_goBack_12 : decode cX7_goBack 12 = .ok (.bipush 40, 2) := by decide +kernel
theorem dX7_goBack_14 : decode cX7_goBack 14 = .ok (.if_icmp .le 5, 3) := by decide +kernel
theorem dX7_goBack_17 : decode cX7_goBack 17 = .ok (.iconst 0, 1) := by decide +kernel
theorem dX7_goBack_18 : decode cX7_goBack 18 = .ok (.ireturn, 1) := by decide +kernel
theorem dX7_goBack_19 : decode cX7_goBack 19 = .ok (.aload_n 0, 1) := by decide +kernel
theorem dX7_goBack_20 : decode cX7_goBack 20 = .ok (.dup, 1) := by decide +kernel
theorem dX7_goBack_21 : decode cX7_goBack 21 = .ok (.getfield 19, 3) := by decide +kernel
theorem dX7_goBack_24 : decode cX7_goBack 24 = .ok (.iconst 1, 1) := by decide +kernel
theorem dX7_goBack_25 : decode cX7_goBack 25 = .ok (.isub, 1) := by decide +kernel
theorem dX7_goBack_26 : decode cX7_goBack 26 = .ok (.putfield 19, 3) := by decide +kernel
theorem dX7_goBack_29 : decode cX7_goBack 29 = .ok (.aload_n 0, 1) := by decide +kernel
theorem dX7_goBack_30 : decode cX7_goBack 30 = .ok (.getfield 26, 3) := by decide +kernel
theorem dX7_goBack_33 : decode cX7_goBack 33 = .ok (.aload_n 0, 1) := by decide +kernel
theorem dX7_goBack_34 : decode cX7_goBack 34 = .ok (.getfield 19, 3) := by decide +kernel
theorem dX7_goBack_37 : decode cX7_goBack 37 = .ok (.bipush 14, 2) := by decide +kernel
theorem dX7_goBack_39 : decode cX7_goBack 39 = .ok (.imul, 1) := by decide +kernel
theorem dX7_goBack_40 : decode cX7_goBack 40 = .ok (.aload_n 0, 1) := by decide +kernel
theorem dX7_goBack_41 : decode cX7_goBack 41 = .ok (.getfield 11, 3) := by decide +kernel
theorem dX7_goBack_44 : decode cX7_goBack 44 = .ok (.iconst 0, 1) := by decide +kernel
theorem dX7_goBack_45 : decode cX7_goBack 45 = .ok (.bipush 14, 2) := by decide +kernel
theorem dX7_goBack_47 : decode cX7_goBack 47 = .ok (.invokestatic 35, 3) := by decide +kernel
theorem dX7_goBack_50 : decode cX7_goBack 50 = .ok (.iconst 1, 1) := by decide +kernel
theorem dX7_goBack_51 : decode cX7_goBack 51 = .ok (.ireturn, 1) := by decide +kernel
theorem dX7_addNote_0 : decode cX7_addNote 0 = .ok (.aload_n 0, 1) := by decide +kernel
theorem dX7_addNote_1 : decode cX7_addNote 1 = .ok (.getfield 23, 3) := by decide +kernel
theorem dX7_addNote_4 : decode cX7_addNote 4 = .ok (.ifCond .lt 12, 3) := by decide +kernel
theorem dX7_addNote_7 : decode cX7_addNote 7 = .ok (.aload_n 0, 1) := by decide +kernel
theorem dX7_addNote_8 : decode cX7_addNote 8 = .ok (.getfield 23, 3) := by decide +kernel
theorem dX7_addNote_11 : decode cX7_addNote 11 = .ok (.bipush 8, 2) := by decide +kernel
theorem dX7_addNote_13 : decode cX7_addNote 13 = .ok (.if_icmp .lt 5, 3) := by decide +kernel
theorem dX7_addNote_16 : decode cX7_addNote 16 = .ok (.iconst 0, 1) := by decide +kernel
theorem dX7_addNote_17 : decode cX7_addNote 17 = .ok (.ireturn, 1) := by decide +kernel
theorem dX7_addNote_18 : decode cX7_addNote 18 = .ok (.aload_n 0, 1) := by decide +kernel
theorem dX7_addNote_19 : decode cX7_addNote 19 = .ok (.getfield 29, 3) := by decide +kernel
theorem dX7_addNote_22 : decode cX7_addNote 22 = .ok (.aload_n 0, 1) := by decide +kernel
theorem dX7_addNote_23 : decode cX7_addNote 23 = .ok (.getfield 23, 3) := by decide +kernel
theorem dX7_addNote_26 : decode cX7_addNote 26 = .ok (.iload_n 1, 1) := by decide +kernel
theorem dX7_addNote_27 : decode cX7_addNote 27 = .ok (.iastore, 1) := by decide +kernel
theorem dX7_addNote_28 : decode cX7_addNote 28 = .ok (.aload_n 0, 1) := by decide +kernel
theorem dX7_addNote_29 : decode cX7_addNote 29 = .ok (.getfield 32, 3) := by decide +kernel
theorem dX7_addNote_32 : decode cX7_addNote 32 = .ok (.aload_n 0, 1) := by decide +kernel
theorem dX7_addNote_33 : decode cX7_addNote 33 = .ok (.getfield 23, 3) := by decide +kernel
theorem dX7_addNote_36 : decode cX7_addNote 36 = .ok (.iload_n 2, 1) := by decide +kernel
theorem dX7_addNote_37 : decode cX7_addNote 37 = .ok (.iastore, 1) := by decide +kernel
theorem dX7_addNote_38 : decode cX7_addNote 38 = .ok (.aload_n 0, 1) := by decide +kernel
theorem dX7_addNote_39 : decode cX7_addNote 39 = .ok (.dup, 1) := by decide +kernel
theorem dX7_addNote_40 : decode cX7_addNote 40 = .ok (.getfield 23, 3) := by decide +kernel
theorem dX7_addNote_43 : decode cX7_addNote 43 = .ok (.iconst 1, 1) := by decide +kernel
theorem dX7_addNote_44 : decode cX7_addNote 44 = .ok (.iadd, 1) := by decide +kernel
theorem dX7_addNote_45 : decode cX7_addNote 45 = .ok (.putfield 23, 3) := by decide +kernel
theorem dX7_addNote_48 : decode cX7_addNote 48 = .ok (.iconst 1, 1) := by decide +kernel
theorem dX7_addNote_49 : decode cX7_addNote 49 = .ok (.ireturn, 1) := by decide +kernel
theorem dX7_ruleOfNote_0 : decode cX7_ruleOfNote 0 = .ok (.iload_n 1, 1) := by decide +kernel
theorem dX7_ruleOfNote_1 : decode cX7_ruleOfNote 1 = .ok (.ifCond .lt 18, 3) := by decide +kernel
theorem dX7_ruleOfNote_4 : decode cX7_ruleOfNote 4 = .ok (.iload_n 1, 1) := by decide +kernel
theorem dX7_ruleOfNote_5 : decode cX7_ruleOfNote 5 = .ok (.bipush 8, 2) := by decide +kernel
theorem dX7_ruleOfNote_7 : decode cX7_ruleOfNote 7 = .ok (.if_icmp .ge 12, 3) := by decide +kernel
theorem dX7_ruleOfNote_10 : decode cX7_ruleOfNote 10 = .ok (.aload_n 0, 1) := by decide +kernel
theorem dX7_ruleOfNote_11 : decode cX7_ruleOfNote 11 = .ok (.getfield 29, 3) := by decide +kernel
theorem dX7_ruleOfNote_14 : decode cX7_ruleOfNote 14 = .ok (.iload_n 1, 1) := by decide +kernel
theorem dX7_ruleOfNote_15 : decode cX7_ruleOfNote 15 = .ok (.iaload, 1) := by decide +kernel
theorem dX7_ruleOfNote_16 : decode cX7_ruleOfNote 16 = .ok (.goto 4, 3) := by decide +kernel
theorem dX7_ruleOfNote_19 : decode cX7_ruleOfNote 19 = .ok (.iconst 0, 1) := by decide +kernel
theorem dX7_ruleOfNote_20 : decode cX7_ruleOfNote 20 = .ok (.ireturn, 1) := by decide +kernel
theorem dX7_binsOfNote_0 : decode cX7_binsOfNote 0 = .ok (.iload_n 1, 1) := by decide +kernel
theorem dX7_binsOfNote_1 : decode cX7_binsOfNote 1 = .ok (.ifCond .lt 18, 3) := by decide +kernel
theorem dX7_binsOfNote_4 : decode cX7_binsOfNote 4 = .ok (.iload_n 1, 1) := by decide +kernel
theorem dX7_binsOfNote_5 : decode cX7_binsOfNote 5 = .ok (.bipush 8, 2) := by decide +kernel
theorem dX7_binsOfNote_7 : decode cX7_binsOfNote 7 = .ok (.if_icmp .ge 12, 3) := by decide +kernel
theorem dX7_binsOfNote_10 : decode cX7_binsOfNote 10 = .ok (.aload_n 0, 1) := by decide +kernel
theorem dX7_binsOfNote_11 : decode cX7_binsOfNote 11 = .ok (.getfield 32, 3) := by decide +kernel
theorem dX7_binsOfNote_14 : decode cX7_binsOfNote 14 = .ok (.iload_n 1, 1) := by decide +kernel
theorem dX7_binsOfNote_15 : decode cX7_binsOfNote 15 = .ok (.iaload, 1) := by decide +kernel
theorem dX7_binsOfNote_16 : decode cX7_binsOfNote 16 = .ok (.goto 4, 3) := by decide +kernel
theorem dX7_binsOfNote_19 : decode cX7_binsOfNote 19 = .ok (.iconst 0, 1) := by decide +kernel
theorem dX7_binsOfNote_20 : decode cX7_binsOfNote 20 = .ok (.ireturn, 1) := by decide +kernel
theorem dX8_init_0 : decode cX8_init 0 = .ok (.aload_n 0, 1) := by decide +kernel
theorem dX8_init_1 : decode cX8_init 1 = .ok (.invokespecial 3, 3) := by decide +kernel
theorem dX8_init_4 : decode cX8_init 4 = .ok (.aload_n 0, 1) := by decide +kernel
theorem dX8_init_5 : decode cX8_init 5 = .ok (.sipush 144, 3) := by decide +kernel
theorem dX8_init_8 : decode cX8_init 8 = .ok (.newarray .int, 2) := by decide +kernel
theorem dX8_init_10 : decode cX8_init 10 = .ok (.putfield 9, 3) := by decide +kernel
theorem dX8_init_13 : decode cX8_init 13 = .ok (.aload_n 0, 1) := by decide +kernel
theorem dX8_init_14 : decode cX8_init 14 = .ok (.iconst 0, 1) := by decide +kernel
theorem dX8_init_15 : decode cX8_init 15 = .ok (.putfield 15, 3) := by decide +kernel
theorem dX8_init_18 : decode cX8_init 18 = .ok (.aload_n 0, 1) := by decide +kernel
theorem dX8_init_19 : decode cX8_init 19 = .ok (.iconst 0, 1) := by decide +kernel
theorem dX8_init_20 : decode cX8_init 20 = .ok (.putfield 19, 3) := by decide +kernel
theorem dX8_init_23 : decode cX8_init 23 = .ok (.aload_n 0, 1) := by decide +kernel
theorem dX8_init_24 : decode cX8_init 24 = .ok (.iconst 0, 1) := by decide +kernel
theorem dX8_init_25 : decode cX8_init 25 = .ok (.putfield 22, 3) := by decide +kernel
theorem dX8_init_28 : decode cX8_init 28 = .ok (.aload_n 0, 1) := by decide +kernel
theorem dX8_init_29 : decode cX8_init 29 = .ok (.iconst 0, 1) := by decide +kernel
theorem dX8_init_30 : decode cX8_init 30 = .ok (.putfield 25, 3) := by decide +kernel
theorem dX8_init_33 : decode cX8_init 33 = .ok (.aload_n 0, 1) := by decide +kernel
theorem dX8_init_34 : decode cX8_init 34 = .ok (.iconst 0, 1) := by decide +kernel
theorem dX8_init_35 : decode cX8_init 35 = .ok (.putfield 28, 3) := by decide +kernel
theorem dX8_init_38 : decode cX8_init 38 = .ok (.aload_n 0, 1) := by decide +kernel
theorem dX8_init_39 : decode cX8_init 39 = .ok (.iconst 0, 1) := by decide +kernel
theorem dX8_init_40 : decode cX8_init 40 = .ok (.putfield 31, 3) := by decide +kernel
theorem dX8_init_43 : decode cX8_init 43 = .ok (.aload_n 0, 1) := by decide +kernel
theorem dX8_init_44 : decode cX8_init 44 = .ok (.new 35, 3) := by decide +kernel
theorem dX8_init_47 : decode cX8_init 47 = .ok (.dup, 1) := by decide +kernel
theorem dX8_init_48 : decode cX8_init 48 = .ok (.invokespecial 37, 3) := by decide +kernel
theorem dX8_init_51 : decode cX8_init 51 = .ok (.putfield 38, 3) := by decide +kernel
theorem dX8_init_54 : decode cX8_init 54 = .ok (.aload_n 0, 1) := by decide +kernel
theorem dX8_init_55 : decode cX8_init 55 = .ok (.bipush 25, 2) := by decide +kernel
theorem dX8_init_57 : decode cX8_init 57 = .ok (.bipush 6, 2) := by decide +kernel
theorem dX8_init_59 : decode cX8_init 59 = .ok (.multianewarray 42 2, 4) := by decide +kernel
theorem dX8_init_63 : decode cX8_init 63 = .ok (.putfield 44, 3) := by decide +kernel
theorem dX8_init_66 : decode cX8_init 66 = .ok (.aload_n 0, 1) := by decide +kernel
theorem dX8_init_67 : decode cX8_init 67 = .ok (.bipush 25, 2) := by decide +kernel
theorem dX8_init_69 : decode cX8_init 69 = .ok (.bipush 6, 2) := by decide +kernel
theorem dX8_init_71 : decode cX8_init 71 = .ok (.multianewarray 42 2, 4) := by decide +kernel
theorem dX8_init_75 : decode cX8_init 75 = .ok (.putfield 47, 3) := by decide +kernel
theorem dX8_init_78 : decode cX8_init 78 = .ok (.return_, 1) := by decide +kernel
theorem dX8_fewestOf_0 : decode cX8_fewestOf 0 = .ok (.aload_n 0, 1) := by decide +kernel
theorem dX8_fewestOf_1 : decode cX8_fewestOf 1 = .ok (.aload_n 0, 1) := by decide +kernel
theorem dX8_fewestOf_2 : decode cX8_fewestOf 2 = .ok (.getfield 38, 3) := by decide +kernel
theorem dX8_fewestOf_5 : decode cX8_fewestOf 5 = .ok (.aload_n 1, 1) := by decide +kernel
theorem dX8_fewestOf_6 : decode cX8_fewestOf 6 = .ok (.iconst 5, 1) := by decide +kernel
theorem dX8_fewestOf_7 : decode cX8_fewestOf 7 = .ok (.invokevirtual 50, 3) := by decide +kernel
theorem dX8_fewestOf_10 : decode cX8_fewestOf 10 = .ok (.putfield 15, 3) := by decide +kernel
theorem dX8_fewestOf_13 : decode cX8_fewestOf 13 = .ok (.aload_n 0, 1) := by decide +kernel
theorem dX8_fewestOf_14 : decode cX8_fewestOf 14 = .ok (.getfield 38, 3) := by decide +kernel
theorem dX8_fewestOf_17 : decode cX8_fewestOf 17 = .ok (.getfield 54, 3) := by decide +kernel
theorem dX8_fewestOf_20 : decode cX8_fewestOf 20 = .ok (.iconst 0, 1) := by decide +kernel
theorem dX8_fewestOf_21 : decode cX8_fewestOf 21 = .ok (.aload_n 0, 1) := by decide +kernel
theorem dX8_fewestOf_22 : decode cX8_fewestOf 22 = .ok (.getfield 9, 3) := by decide +kernel
theorem dX8_fewestOf_25 : decode cX8_fewestOf 25 = .ok (.iconst 0, 1) := by decide +kernel
theorem dX8_fewestOf_26 : decode cX8_fewestOf 26 = .ok (.sipush 144, 3) := by decide +kernel
theorem dX8_fewestOf_29 : decode cX8_fewestOf 29 = .ok (.invokestatic 57, 3) := by decide +kernel
theorem dX8_fewestOf_32 : decode cX8_fewestOf 32 = .ok (.aload_n 0, 1) := by decide +kernel
theorem dX8_fewestOf_33 : decode cX8_fewestOf 33 = .ok (.iconst 0, 1) := by decide +kernel
theorem dX8_fewestOf_34 : decode cX8_fewestOf 34 = .ok (.putfield 19, 3) := by decide +kernel
theorem dX8_fewestOf_37 : decode cX8_fewestOf 37 = .ok (.aload_n 0, 1) := by decide +kernel
theorem dX8_fewestOf_38 : decode cX8_fewestOf 38 = .ok (.iconst 0, 1) := by decide +kernel
theorem dX8_fewestOf_39 : decode cX8_fewestOf 39 = .ok (.putfield 22, 3) := by decide +kernel
theorem dX8_fewestOf_42 : decode cX8_fewestOf 42 = .ok (.aload_n 0, 1) := by decide +kernel
theorem dX8_fewestOf_43 : decode cX8_fewestOf 43 = .ok (.iconst 0, 1) := by decide +kernel
theorem dX8_fewestOf_44 : decode cX8_fewestOf 44 = .ok (.putfield 25, 3) := by decide +kernel
theorem dX8_fewestOf_47 : decode cX8_fewestOf 47 = .ok (.aload_n 0, 1) := by decide +kernel
theorem dX8_fewestOf_48 : decode cX8_fewestOf 48 = .ok (.iconst 0, 1) := by decide +kernel
theorem dX8_fewestOf_49 : decode cX8_fewestOf 49 = .ok (.putfield 28, 3) := by decide +kernel
theorem dX8_fewestOf_52 : decode cX8_fewestOf 52 = .ok (.aload_n 0, 1) := by decide +kernel
theorem dX8_fewestOf_53 : decode cX8_fewestOf 53 = .ok (.iconst 0, 1) := by decide +kernel
theorem dX8_fewestOf_54 : decode cX8_fewestOf 54 = .ok (.putfield 31, 3) := by decide +kernel
theorem dX8_fewestOf_57 : decode cX8_fewestOf 57 = .ok (.aload_n 1, 1) := by decide +kernel
theorem dX8_fewestOf_58 : decode cX8_fewestOf 58 = .ok (.getfield 63, 3) := by decide +kernel
theorem dX8_fewestOf_61 : decode cX8_fewestOf 61 = .ok (.iconst 0, 1) := by decide +kernel
theorem dX8_fewestOf_62 : decode cX8_fewestOf 62 = .ok (.aload_n 0, 1) := by decide +kernel
theorem dX8_fewestOf_63 : decode cX8_fewestOf 63 = .ok (.getfield 44, 3) := by decide +kernel
theorem dX8_fewestOf_66 : decode cX8_fewestOf 66 = .ok (.iconst 0, 1) := by decide +kernel
theorem dX8_fewestOf_67 : decode cX8_fewestOf 67 = .ok (.aaload, 1) := by decide +kernel
theorem dX8_fewestOf_68 : decode cX8_fewestOf 68 = .ok (.iconst 0, 1) := by decide +kernel
theorem dX8_fewestOf_69 : decode cX8_fewestOf 69 = .ok (.bipush 6, 2) := by decide +kernel
theorem dX8_fewestOf_71 : decode cX8_fewestOf 71 = .ok (.invokestatic 57, 3) := by decide +kernel
theorem dX8_fewestOf_74 : decode cX8_fewestOf 74 = .ok (.aload_n 0, 1) := by decide +kernel
theorem dX8_fewestOf_75 : decode cX8_fewestOf 75 = .ok (.aload_n 1, 1) := by decide +kernel
theorem dX8_fewestOf_76 : decode cX8_fewestOf 76 = .ok (.iconst 0, 1) := by decide +kernel
theorem dX8_fewestOf_77 : decode cX8_fewestOf 77 = .ok (.invokevirtual 68, 3) := by decide +kernel
theorem dX8_fewestOf_80 : decode cX8_fewestOf 80 = .ok (.aload_n 0, 1) := by decide +kernel
theorem dX8_fewestOf_81 : decode cX8_fewestOf 81 = .ok (.getfield 15, 3) := by decide +kernel
theorem dX8_fewestOf_84 : decode cX8_fewestOf 84 = .ok (.ireturn, 1) := by decide +kernel
theorem dX8_firstBin_0 : decode cX8_firstBin 0 = .ok (.lconst 0, 1) := by decide +kernel
theorem dX8_firstBin_1 : decode cX8_firstBin 1 = .ok (.lstore_n 1, 1) := by decide +kernel
theorem dX8_firstBin_2 : decode cX8_firstBin 2 = .ok (.iconst 0, 1) := by decide +kernel
theorem dX8_firstBin_3 : decode cX8_firstBin 3 = .ok (.istore_n 3, 1) := by decide +kernel
theorem dX8_firstBin_4 : decode cX8_firstBin 4 = .ok (.iload_n 3, 1) := by decide +kernel
theorem dX8_firstBin_5 : decode cX8_firstBin 5 = .ok (.bipush 6, 2) := by decide +kernel
theorem dX8_firstBin_7 : decode cX8_firstBin 7 = .ok (.if_icmp .ge 24, 3) := by decide +kernel
theorem dX8_firstBin_10 : decode cX8_firstBin 10 = .ok (.lload_n 1, 1) := by decide +kernel
theorem dX8_firstBin_11 : decode cX8_firstBin 11 = .ok (.aload_n 0, 1) := by decide +kernel
theorem dX8_firstBin_12 : decode cX8_firstBin 12 = .ok (.getfield 9, 3) := by decide +kernel
theorem dX8_firstBin_15 : decode cX8_firstBin 15 = .ok (.iload_n 3, 1) := by decide +kernel
theorem dX8_firstBin_16 : decode cX8_firstBin 16 = .ok (.iaload, 1) := by decide +kernel
theorem dX8_firstBin_17 : decode cX8_firstBin 17 = .ok (.i2l, 1) := by decide +kernel
theorem dX8_firstBin_18 : decode cX8_firstBin 18 = .ok (.iload_n 3, 1) := by decide +kernel
theorem dX8_firstBin_19 : decode cX8_firstBin 19 = .ok (.invokestatic 72, 3) := by decide +kernel
theorem dX8_firstBin_22 : decode cX8_firstBin 22 = .ok (.lmul, 1) := by decide +kernel
theorem dX8_firstBin_23 : decode cX8_firstBin 23 = .ok (.ladd, 1) := by decide +kernel
theorem dX8_firstBin_24 : decode cX8_firstBin 24 = .ok (.lstore_n 1, 1) := by decide +kernel
theorem dX8_firstBin_25 : decode cX8_firstBin 25 = .ok (.iinc 3 1, 3) := by decide +kernel
theorem dX8_firstBin_28 : decode cX8_firstBin 28 = .ok (.goto (-24), 3) := by decide +kernel
theorem dX8_firstBin_31 : decode cX8_firstBin 31 = .ok (.lload_n 1, 1) := by decide +kernel
theorem dX8_firstBin_32 : decode cX8_firstBin 32 = .ok (.lreturn, 1) := by decide +kernel
theorem dX8_meet_0 : decode cX8_meet 0 = .ok (.iload_n 2, 1) := by decide +kernel
theorem dX8_meet_1 : decode cX8_meet 1 = .ok (.ifCond .lt 9, 3) := by decide +kernel
theorem dX8_meet_4 : decode cX8_meet 4 = .ok (.iload_n 2, 1) := by decide +kernel
theorem dX8_meet_5 : decode cX8_meet 5 = .ok (.bipush 24, 2) := by decide +kernel
theorem dX8_meet_7 : decode cX8_meet 7 = .ok (.if_icmp .lt 4, 3) := by decide +kernel
theorem dX8_meet_10 : decode cX8_meet 10 = .ok (.return_, 1) := by decide +kernel
theorem dX8_meet_11 : decode cX8_meet 11 = .ok (.aload_n 0, 1) := by decide +kernel
theorem dX8_meet_12 : decode cX8_meet 12 = .ok (.getfield 19, 3) := by decide +kernel
theorem dX8_meet_15 : decode cX8_meet 15 = .ok (.bipush 60, 2) := by decide +kernel
theorem dX8_meet_17 : decode cX8_meet 17 = .ok (.if_icmp .lt 9, 3) := by decide +kernel
theorem dX8_meet_20 : decode cX8_meet 20 = .ok (.aload_n 0, 1) := by decide +kernel
theorem dX8_meet_21 : decode cX8_meet 21 = .ok (.iconst 1, 1) := by decide +kernel
theorem dX8_meet_22 : decode cX8_meet 22 = .ok (.putfield 31, 3) := by decide +kernel
theorem dX8_meet_25 : decode cX8_meet 25 = .ok (.return_, 1) := by decide +kernel
theorem dX8_meet_26 : decode cX8_meet 26 = .ok (.aload_n 0, 1) := by decide +kernel
theorem dX8_meet_27 : decode cX8_meet 27 = .ok (.dup, 1) := by decide +kernel
theorem dX8_meet_28 : decode cX8_meet 28 = .ok (.getfield 19, 3) := by decide +kernel
theorem dX8_meet_31 : decode cX8_meet 31 = .ok (.iconst 1, 1) := by decide +kernel
theorem dX8_meet_32 : decode cX8_meet 32 = .ok (.iadd, 1) := by decide +kernel
theorem dX8_meet_33 : decode cX8_meet 33 = .ok (.putfield 19, 3) := by decide +kernel
theorem dX8_meet_36 : decode cX8_meet 36 = .ok (.aload_n 0, 1) := by decide +kernel
theorem dX8_meet_37 : decode cX8_meet 37 = .ok (.aload_n 0, 1) := by decide +kernel
theorem dX8_meet_38 : decode cX8_meet 38 = .ok (.getfield 28, 3) := by decide +kernel
theorem dX8_meet_41 : decode cX8_meet 41 = .ok (.iload_n 2, 1) := by decide +kernel
theorem dX8_meet_42 : decode cX8_meet 42 = .ok (.invokestatic 78, 3) := by decide +kernel
theorem dX8_meet_45 : decode cX8_meet 45 = .ok (.putfield 28, 3) := by decide +kernel
theorem dX8_meet_48 : decode cX8_meet 48 = .ok (.aload_n 1, 1) := by decide +kernel
theorem dX8_meet_49 : decode cX8_meet 49 = .ok (.aload_n 0, 1) := by decide +kernel
theorem dX8_meet_50 : decode cX8_meet 50 = .ok (.getfield 44, 3) := by decide +kernel
theorem dX8_meet_53 : decode cX8_meet 53 = .ok (.iload_n 2, 1) := by decide +kernel
theorem dX8_meet_54 : decode cX8_meet 54 = .ok (.aaload, 1) := by decide +kernel
theorem dX8_meet_55 : decode cX8_meet 55 = .ok (.invokestatic 84, 3) := by decide +kernel
theorem dX8_meet_58 : decode cX8_meet 58 = .ok (.istore_n 3, 1) := by decide +kernel
theorem dX8_meet_59 : decode cX8_meet 59 = .ok (.iload_n 3, 1) := by decide +kernel
theorem dX8_meet_60 : decode cX8_meet 60 = .ok (.ifCond .ge 11, 3) := by decide +kernel
theorem dX8_meet_63 : decode cX8_meet 63 = .ok (.aload_n 0, 1) := by decide +kernel
theorem dX8_meet_64 : decode cX8_meet 64 = .ok (.iload_n 2, 1) := by decide +kernel
theorem dX8_meet_65 : decode cX8_meet 65 = .ok (.invokevirtual 88, 3) := by decide +kernel
theorem dX8_meet_68 : decode cX8_meet 68 = .ok (.goto 42, 3) := by decide +kernel
theorem dX8_meet_71 : decode cX8_meet 71 = .ok (.aload_n 1, 1) := by decide +kernel
theorem dX8_meet_72 : decode cX8_meet 72 = .ok (.aload_n 0, 1) := by decide +kernel
theorem dX8_meet_73 : decode cX8_meet 73 = .ok (.getfield 44, 3) := by decide +kernel
theorem dX8_meet_76 : decode cX8_meet 76 = .ok (.iload_n 2, 1) := by decide +kernel
theorem dX8_meet_77 : decode cX8_meet 77 = .ok (.aaload, 1) := by decide +kernel
theorem dX8_meet_78 : decode cX8_meet 78 = .ok (.aload_n 0, 1) := by decide +kernel
theorem dX8_meet_79 : decode cX8_meet 79 = .ok (.getfield 15, 3) := by decide +kernel
theorem dX8_meet_82 : decode cX8_meet 82 = .ok (.iload_n 2, 1) := by decide +kernel
theorem dX8_meet_83 : decode cX8_meet 83 = .ok (.isub, 1) := by decide +kernel
theorem dX8_meet_84 : decode cX8_meet 84 = .ok (.invokestatic 92, 3) := by decide +kernel
theorem dX8_meet_87 : decode cX8_meet 87 = .ok (.ifCond .eq 16, 3) := by decide +kernel
theorem dX8_meet_90 : decode cX8_meet 90 = .ok (.aload_n 0, 1) := by decide +kernel
theorem dX8_meet_91 : decode cX8_meet 91 = .ok (.dup, 1) := by decide +kernel
theorem dX8_meet_92 : decode cX8_meet 92 = .ok (.getfield 22, 3) := by decide +kernel
theorem dX8_meet_95 : decode cX8_meet 95 = .ok (.iconst 1, 1) := by decide +kernel
theorem dX8_meet_96 : decode cX8_meet 96 = .ok (.iadd, 1) := by decide +kernel
theorem dX8_meet_97 : decode cX8_meet 97 = .ok (.putfield 22, 3) := by decide +kernel
theorem dX8_meet_100 : decode cX8_meet 100 = .ok (.goto 10, 3) := by decide +kernel
theorem dX8_meet_103 : decode cX8_meet 103 = .ok (.aload_n 0, 1) := by decide +kernel
theorem dX8_meet_104 : decode cX8_meet 104 = .ok (.aload_n 1, 1) := by decide +kernel
theorem dX8_meet_105 : decode cX8_meet 105 = .ok (.iload_n 2, 1) := by decide +kernel
theorem dX8_meet_106 : decode cX8_meet 106 = .ok (.iload_n 3, 1) := by decide +kernel
theorem dX8_meet_107 : decode cX8_meet 107 = .ok (.invokevirtual 98, 3) := by decide +kernel
theorem dX8_meet_110 : decode cX8_meet 110 = .ok (.return_, 1) := by decide +kernel
theorem dX8_firstLeft_0 : decode cX8_firstLeft 0 = .ok (.iconst 0, 1) := by decide +kernel
theorem dX8_firstLeft_1 : decode cX8_firstLeft 1 = .ok (.istore_n 2, 1) := by decide +kernel
theorem dX8_firstLeft_2 : decode cX8_firstLeft 2 = .ok (.iload_n 2, 1) := by decide +kernel
theorem dX8_firstLeft_3 : decode cX8_firstLeft 3 = .ok (.aload_n 0, 1) := by decide +kernel
theorem dX8_firstLeft_4 : decode cX8_firstLeft 4 = .ok (.getfield 102, 3) := by decide +kernel
theorem dX8_firstLeft_7 : decode cX8_firstLeft 7 = .ok (.if_icmp .ge 27, 3) := by decide +kernel
theorem dX8_firstLeft_10 : decode cX8_firstLeft 10 = .ok (.aload_n 1, 1) := by decide +kernel
theorem dX8_firstLeft_11 : decode cX8_firstLeft 11 = .ok (.aload_n 0, 1) := by decide +kernel
theorem dX8_firstLeft_12 : decode cX8_firstLeft 12 = .ok (.getfield 105, 3) := by decide +kernel
theorem dX8_firstLeft_15 : decode cX8_firstLeft 15 = .ok (.iload_n 2, 1) := by decide +kernel
theorem dX8_firstLeft_16 : decode cX8_firstLeft 16 = .ok (.iaload, 1) := by decide +kernel
theorem dX8_firstLeft_17 : decode cX8_firstLeft 17 = .ok (.iaload, 1) := by decide +kernel
theorem dX8_firstLeft_18 : decode cX8_firstLeft 18 = .ok (.ifCond .le 10, 3) := by decide +kernel
theorem dX8_firstLeft_21 : decode cX8_firstLeft 21 = .ok (.aload_n 0, 1) := by decide +kernel
theorem dX8_firstLeft_22 : decode cX8_firstLeft 22 = .ok (.getfield 105, 3) := by decide +kernel
theorem dX8_firstLeft_25 : decode cX8_firstLeft 25 = .ok (.iload_n 2, 1) := by decide +kernel
theorem dX8_firstLeft_26 : decode cX8_firstLeft 26 = .ok (.iaload, 1) := by decide +kernel
theorem dX8_firstLeft_27 : decode cX8_firstLeft 27 = .ok (.ireturn, 1) := by decide +kernel
theorem dX8_firstLeft_28 : decode cX8_firstLeft 28 = .ok (.iinc 2 1, 3) := by decide +kernel
theorem dX8_firstLeft_31 : decode cX8_firstLeft 31 = .ok (.goto (-29), 3) := by decide +kernel
theorem dX8_firstLeft_34 : decode cX8_firstLeft 34 = .ok (.iconst (-1), 1) := by decide +kernel
theorem dX8_firstLeft_35 : decode cX8_firstLeft 35 = .ok (.ireturn, 1) := by decide +kernel
theorem dX8_finish_0 : decode cX8_finish 0 = .ok (.iload_n 1, 1) := by decide +kernel
theorem dX8_finish_1 : decode cX8_finish 1 = .ok (.aload_n 0, 1) := by decide +kernel
theorem dX8_finish_2 : decode cX8_finish 2 = .ok (.getfield 15, 3) := by decide +kernel
theorem dX8_finish_5 : decode cX8_finish 5 = .ok (.if_icmp .lt 4, 3) := by decide +kernel
theorem dX8_finish_8 : decode cX8_finish 8 = .ok (.return_, 1) := by decide +kernel
theorem dX8_finish_9 : decode cX8_finish 9 = .ok (.aload_n 0, 1) := by decide +kernel
theorem dX8_finish_10 : decode cX8_finish 10 = .ok (.dup, 1) := by decide +kernel
theorem dX8_finish_11 : decode cX8_finish 11 = .ok (.getfield 25, 3) := by decide +kernel
theorem dX8_finish_14 : decode cX8_finish 14 = .ok (.iconst 1, 1) := by decide +kernel
theorem dX8_finish_15 : decode cX8_finish 15 = .ok (.iadd, 1) := by decide +kernel
theorem dX8_finish_16 : decode cX8_finish 16 = .ok (.putfield 25, 3) := by decide +kernel
theorem dX8_finish_19 : decode cX8_finish 19 = .ok (.aload_n 0, 1) := by decide +kernel
theorem dX8_finish_20 : decode cX8_finish 20 = .ok (.iload_n 1, 1) := by decide +kernel
theorem dX8_finish_21 : decode cX8_finish 21 = .ok (.putfield 15, 3) := by decide +kernel
theorem dX8_finish_24 : decode cX8_finish 24 = .ok (.iconst 0, 1) := by decide +kernel
theorem dX8_finish_25 : decode cX8_finish 25 = .ok (.istore_n 2, 1) := by decide +kernel
theorem dX8_finish_26 : decode cX8_finish 26 = .ok (.iload_n 2, 1) := by decide +kernel
theorem dX8_finish_27 : decode cX8_finish 27 = .ok (.iload_n 1, 1) := by decide +kernel
theorem dX8_finish_28 : decode cX8_finish 28 = .ok (.if_icmp .ge 29, 3) := by decide +kernel
theorem dX8_finish_31 : decode cX8_finish 31 = .ok (.aload_n 0, 1) := by decide +kernel
theorem dX8_finish_32 : decode cX8_finish 32 = .ok (.getfield 47, 3) := by decide +kernel
theorem dX8_finish_35 : decode cX8_finish 35 = .ok (.iload_n 2, 1) := by decide +kernel
theorem dX8_finish_36 : decode cX8_finish 36 = .ok (.aaload, 1) := by decide +kernel
theorem dX8_finish_37 : decode cX8_finish 37 = .ok (.iconst 0, 1) := by decide +kernel
theorem dX8_finish_38 : decode cX8_finish 38 = .ok (.aload_n 0, 1) := by decide +kernel
theorem dX8_finish_39 : decode cX8_finish 39 = .ok (.getfield 9, 3) := by decide +kernel
theorem dX8_finish_42 : decode cX8_finish 42 = .ok (.iload_n 2, 1) := by decide +kernel
theorem dX8_finish_43 : decode cX8_finish 43 = .ok (.bipush 6, 2) := by decide +kernel
theorem dX8_finish_45 : decode cX8_finish 45 = .ok (.imul, 1) := by decide +kernel
theorem dX8_finish_46 : decode cX8_finish 46 = .ok (.bipush 6, 2) := by decide +kernel
theorem dX8_finish_48 : decode cX8_finish 48 = .ok (.invokestatic 57, 3) := by decide +kernel
theorem dX8_finish_51 : decode cX8_finish 51 = .ok (.iinc 2 1, 3) := by decide +kernel
theorem dX8_finish_54 : decode cX8_finish 54 = .ok (.goto (-28), 3) := by decide +kernel
theorem dX8_finish_57 : decode cX8_finish 57 = .ok (.return_, 1) := by decide +kernel
theorem dX8_branch_0 : decode cX8_branch 0 = .ok (.aload_n 0, 1) := by decide +kernel
theorem dX8_branch_1 : decode cX8_branch 1 = .ok (.getfield 47, 3) := by decide +kernel
theorem dX8_branch_4 : decode cX8_branch 4 = .ok (.iload_n 2, 1) := by decide +kernel
theorem dX8_branch_5 : decode cX8_branch 5 = .ok (.aaload, 1) := by decide +kernel
theorem dX8_branch_6 : decode cX8_branch 6 = .ok (.astore 4, 2) := by decide +kernel
theorem dX8_branch_8 : decode cX8_branch 8 = .ok (.aload_n 1, 1) := by decide +kernel
theorem dX8_branch_9 : decode cX8_branch 9 = .ok (.aload_n 0, 1) := by decide +kernel
theorem dX8_branch_10 : decode cX8_branch 10 = .ok (.getfield 44, 3) := by decide +kernel
theorem dX8_branch_13 : decode cX8_branch 13 = .ok (.iload_n 2, 1) := by decide +kernel
theorem dX8_branch_14 : decode cX8_branch 14 = .ok (.aaload, 1) := by decide +kernel
theorem dX8_branch_15 : decode cX8_branch 15 = .ok (.aload 4, 2) := by decide +kernel
theorem dX8_branch_17 : decode cX8_branch 17 = .ok (.invokestatic 108, 3) := by decide +kernel
theorem dX8_branch_20 : decode cX8_branch 20 = .ok (.iconst 0, 1) := by decide +kernel
theorem dX8_branch_21 : decode cX8_branch 21 = .ok (.istore 5, 2) := by decide +kernel
theorem dX8_branch_23 : decode cX8_branch 23 = .ok (.iload 5, 2) := by decide +kernel
theorem dX8_branch_25 : decode cX8_branch 25 = .ok (.bipush 60, 2) := by decide +kernel
theorem dX8_branch_27 : decode cX8_branch 27 = .ok (.if_icmp .gt 89, 3) := by decide +kernel
theorem dX8_branch_30 : decode cX8_branch 30 = .ok (.aload 4, 2) := by decide +kernel
theorem dX8_branch_32 : decode cX8_branch 32 = .ok (.iload_n 3, 1) := by decide +kernel
theorem dX8_branch_33 : decode cX8_branch 33 = .ok (.iaload, 1) := by decide +kernel
theorem dX8_branch_34 : decode cX8_branch 34 = .ok (.ifCond .le 82, 3) := by decide +kernel
theorem dX8_branch_37 : decode cX8_branch 37 = .ok (.iconst 0, 1) := by decide +kernel
theorem dX8_branch_38 : decode cX8_branch 38 = .ok (.istore 6, 2) := by decide +kernel
theorem dX8_branch_40 : decode cX8_branch 40 = .ok (.iload 6, 2) := by decide +kernel
theorem dX8_branch_42 : decode cX8_branch 42 = .ok (.bipush 6, 2) := by decide +kernel
theorem dX8_branch_44 : decode cX8_branch 44 = .ok (.if_icmp .ge 35, 3) := by decide +kernel
theorem dX8_branch_47 : decode cX8_branch 47 = .ok (.aload_n 0, 1) := by decide +kernel
theorem dX8_branch_48 : decode cX8_branch 48 = .ok (.getfield 44, 3) := by decide +kernel
theorem dX8_branch_51 : decode cX8_branch 51 = .ok (.iload_n 2, 1) := by decide +kernel
theorem dX8_branch_52 : decode cX8_branch 52 = .ok (.iconst 1, 1) := by decide +kernel
theorem dX8_branch_53 : decode cX8_branch 53 = .ok (.iadd, 1) := by decide +kernel
theorem dX8_branch_54 : decode cX8_branch 54 = .ok (.aaload, 1) := by decide +kernel
theorem dX8_branch_55 : decode cX8_branch 55 = .ok (.iload 6, 2) := by decide +kernel
theorem dX8_branch_57 : decode cX8_branch 57 = .ok (.aload_n 0, 1) := by decide +kernel
theorem dX8_branch_58 : decode cX8_branch 58 = .ok (.getfield 44, 3) := by decide +kernel
theorem dX8_branch_61 : decode cX8_branch 61 = .ok (.iload_n 2, 1) := by decide +kernel
theorem dX8_branch_62 : decode cX8_branch 62 = .ok (.aaload, 1) := by decide +kernel
theorem dX8_branch_63 : decode cX8_branch 63 = .ok (.iload 6, 2) := by decide +kernel
theorem dX8_branch_65 : decode cX8_branch 65 = .ok (.iaload, 1) := by decide +kernel
theorem dX8_branch_66 : decode cX8_branch 66 = .ok (.aload 4, 2) := by decide +kernel
theorem dX8_branch_68 : decode cX8_branch 68 = .ok (.iload 6, 2) := by decide +kernel
theorem dX8_branch_70 : decode cX8_branch 70 = .ok (.iaload, 1) := by decide +kernel
theorem dX8_branch_71 : decode cX8_branch 71 = .ok (.isub, 1) := by decide +kernel
theorem dX8_branch_72 : decode cX8_branch 72 = .ok (.iastore, 1) := by decide +kernel
theorem dX8_branch_73 : decode cX8_branch 73 = .ok (.iinc 6 1, 3) := by decide +kernel
theorem dX8_branch_76 : decode cX8_branch 76 = .ok (.goto (-36), 3) := by decide +kernel
theorem dX8_branch_79 : decode cX8_branch 79 = .ok (.aload_n 0, 1) := by decide +kernel
theorem dX8_branch_80 : decode cX8_branch 80 = .ok (.aload_n 1, 1) := by decide +kernel
theorem dX8_branch_81 : decode cX8_branch 81 = .ok (.iload_n 2, 1) := by decide +kernel
theorem dX8_branch_82 : decode cX8_branch 82 = .ok (.iconst 1, 1) := by decide +kernel
theorem dX8_branch_83 : decode cX8_branch 83 = .ok (.iadd, 1) := by decide +kernel
theorem dX8_branch_84 : decode cX8_branch 84 = .ok (.invokevirtual 68, 3) := by decide +kernel
theorem dX8_branch_87 : decode cX8_branch 87 = .ok (.aload_n 0, 1) := by decide +kernel
theorem dX8_branch_88 : decode cX8_branch 88 = .ok (.getfield 31, 3) := by decide +kernel
theorem dX8_branch_91 : decode cX8_branch 91 = .ok (.ifCond .ne 18, 3) := by decide +kernel
theorem dX8_branch_94 : decode cX8_branch 94 = .ok (.aload_n 1, 1) := by decide +kernel
theorem dX8_branch_95 : decode cX8_branch 95 = .ok (.aload_n 0, 1) := by decide +kernel
theorem dX8_branch_96 : decode cX8_branch 96 = .ok (.getfield 44, 3) := by decide +kernel
theorem dX8_branch_99 : decode cX8_branch 99 = .ok (.iload_n 2, 1) := by decide +kernel
theorem dX8_branch_100 : decode cX8_branch 100 = .ok (.aaload, 1) := by decide +kernel
theorem dX8_branch_101 : decode cX8_branch 101 = .ok (.aload 4, 2) := by decide +kernel
theorem dX8_branch_103 : decode cX8_branch 103 = .ok (.invokestatic 114, 3) := by decide +kernel
theorem dX8_branch_106 : decode cX8_branch 106 = .ok (.ifCond .ne 4, 3) := by decide +kernel
theorem dX8_branch_109 : decode cX8_branch 109 = .ok (.return_, 1) := by decide +kernel
theorem dX8_branch_110 : decode cX8_branch 110 = .ok (.iinc 5 1, 3) := by decide +kernel
theorem dX8_branch_113 : decode cX8_branch 113 = .ok (.goto (-90), 3) := by decide +kernel
theorem dX8_branch_116 : decode cX8_branch 116 = .ok (.return_, 1) := by decide +kernel
theorem dX9_init_0 : decode cX9_init 0 = .ok (.aload_n 0, 1) := by decide +kernel
theorem dX9_init_1 : decode cX9_init 1 = .ok (.invokespecial 1, 3) := by decide +kernel
theorem dX9_init_4 : decode cX9_init 4 = .ok (.aload_n 0, 1) := by decide +kernel
theorem dX9_init_5 : decode cX9_init 5 = .ok (.sipush 700, 3) := by decide +kernel
theorem dX9_init_8 : decode cX9_init 8 = .ok (.newarray .byte, 2) := by decide +kernel
theorem dX9_init_10 : decode cX9_init 10 = .ok (.putfield 9, 3) := by decide +kernel
theorem dX9_init_13 : decode cX9_init 13 = .ok (.aload_n 0, 1) := by decide +kernel
theorem dX9_init_14 : decode cX9_init 14 = .ok (.iconst 0, 1) := by decide +kernel
theorem dX9_init_15 : decode cX9_init 15 = .ok (.putfield 13, 3) := by decide +kernel
theorem dX9_init_18 : decode cX9_init 18 = .ok (.aload_n 0, 1) := by decide +kernel
theorem dX9_init_19 : decode cX9_init 19 = .ok (.iconst (-1), 1) := by decide +kernel
theorem dX9_init_20 : decode cX9_init 20 = .ok (.putfield 17, 3) := by decide +kernel
theorem dX9_init_23 : decode cX9_init 23 = .ok (.aload_n 0, 1) := by decide +kernel
theorem dX9_init_24 : decode cX9_init 24 = .ok (.iconst 0, 1) := by decide +kernel
theorem dX9_init_25 : decode cX9_init 25 = .ok (.putfield 20, 3) := by decide +kernel
theorem dX9_init_28 : decode cX9_init 28 = .ok (.aload_n 0, 1) := by decide +kernel
theorem dX9_init_29 : decode cX9_init 29 = .ok (.new 24, 3) := by decide +kernel
theorem dX9_init_32 : decode cX9_init 32 = .ok (.dup, 1) := by decide +kernel
theorem dX9_init_33 : decode cX9_init 33 = .ok (.invokespecial 26, 3) := by decide +kernel
theorem dX9_init_36 : decode cX9_init 36 = .ok (.putfield 27, 3) := by decide +kernel
theorem dX9_init_39 : decode cX9_init 39 = .ok (.aload_n 0, 1) := by decide +kernel
theorem dX9_init_40 : decode cX9_init 40 = .ok (.new 31, 3) := by decide +kernel
theorem dX9_init_43 : decode cX9_init 43 = .ok (.dup, 1) := by decide +kernel
theorem dX9_init_44 : decode cX9_init 44 = .ok (.invokespecial 33, 3) := by decide +kernel
theorem dX9_init_47 : decode cX9_init 47 = .ok (.putfield 34, 3) := by decide +kernel
theorem dX9_init_50 : decode cX9_init 50 = .ok (.aload_n 0, 1) := by decide +kernel
theorem dX9_init_51 : decode cX9_init 51 = .ok (.new 31, 3) := by decide +kernel
theorem dX9_init_54 : decode cX9_init 54 = .ok (.dup, 1) := by decide +kernel
theorem dX9_init_55 : decode cX9_init 55 = .ok (.invokespecial 33, 3) := by decide +kernel
theorem dX9_init_58 : decode cX9_init 58 = .ok (.putfield 38, 3) := by decide +kernel
theorem dX9_init_61 : decode cX9_init 61 = .ok (.aload_n 0, 1) := by decide +kernel
theorem dX9_init_62 : decode cX9_init 62 = .ok (.new 41, 3) := by decide +kernel
theorem dX9_init_65 : decode cX9_init 65 = .ok (.dup, 1) := by decide +kernel
theorem dX9_init_66 : decode cX9_init 66 = .ok (.invokespecial 43, 3) := by decide +kernel
theorem dX9_init_69 : decode cX9_init 69 = .ok (.putfield 44, 3) := by decide +kernel
theorem dX9_init_72 : decode cX9_init 72 = .ok (.aload_n 0, 1) := by decide +kernel
theorem dX9_init_73 : decode cX9_init 73 = .ok (.new 41, 3) := by decide +kernel
theorem dX9_init_76 : decode cX9_init 76 = .ok (.dup, 1) := by decide +kernel
theorem dX9_init_77 : decode cX9_init 77 = .ok (.invokespecial 43, 3) := by decide +kernel
theorem dX9_init_80 : decode cX9_init 80 = .ok (.putfield 48, 3) := by decide +kernel
theorem dX9_init_83 : decode cX9_init 83 = .ok (.aload_n 0, 1) := by decide +kernel
theorem dX9_init_84 : decode cX9_init 84 = .ok (.new 51, 3) := by decide +kernel
theorem dX9_init_87 : decode cX9_init 87 = .ok (.dup, 1) := by decide +kernel
theorem dX9_init_88 : decode cX9_init 88 = .ok (.invokespecial 53, 3) := by decide +kernel
theorem dX9_init_91 : decode cX9_init 91 = .ok (.putfield 54, 3) := by decide +kernel
theorem dX9_init_94 : decode cX9_init 94 = .ok (.aload_n 0, 1) := by decide +kernel
theorem dX9_init_95 : decode cX9_init 95 = .ok (.new 58, 3) := by decide +kernel
theorem dX9_init_98 : decode cX9_init 98 = .ok (.dup, 1) := by decide +kernel
theorem dX9_init_99 : decode cX9_init 99 = .ok (.invokespecial 60, 3) := by decide +kernel
theorem dX9_init_102 : decode cX9_init 102 = .ok (.putfield 61, 3) := by decide +kernel
theorem dX9_init_105 : decode cX9_init 105 = .ok (.aload_n 0, 1) := by decide +kernel
theorem dX9_init_106 : decode cX9_init 106 = .ok (.new 65, 3) := by decide +kernel
theorem dX9_init_109 : decode cX9_init 109 = .ok (.dup, 1) := by decide +kernel
theorem dX9_init_110 : decode cX9_init 110 = .ok (.invokespecial 67, 3) := by decide +kernel
theorem dX9_init_113 : decode cX9_init 113 = .ok (.putfield 68, 3) := by decide +kernel
theorem dX9_init_116 : decode cX9_init 116 = .ok (.aload_n 0, 1) := by decide +kernel
theorem dX9_init_117 : decode cX9_init 117 = .ok (.new 72, 3) := by decide +kernel
theorem dX9_init_120 : decode cX9_init 120 = .ok (.dup, 1) := by decide +kernel
theorem dX9_init_121 : decode cX9_init 121 = .ok (.invokespecial 74, 3) := by decide +kernel
theorem dX9_init_124 : decode cX9_init 124 = .ok (.putfield 75, 3) := by decide +kernel
theorem dX9_init_127 : decode cX9_init 127 = .ok (.aload_n 0, 1) := by decide +kernel
theorem dX9_init_128 : decode cX9_init 128 = .ok (.bipush 6, 2) := by decide +kernel
theorem dX9_init_130 : decode cX9_init 130 = .ok (.newarray .int, 2) := by decide +kernel
theorem dX9_init_132 : decode cX9_init 132 = .ok (.putfield 79, 3) := by decide +kernel
theorem dX9_init_135 : decode cX9_init 135 = .ok (.aload_n 0, 1) := by decide +kernel
theorem dX9_init_136 : decode cX9_init 136 = .ok (.bipush 72, 2) := by decide +kernel
theorem dX9_init_138 : decode cX9_init 138 = .ok (.newarray .int, 2) := by decide +kernel
theorem dX9_init_140 : decode cX9_init 140 = .ok (.putfield 83, 3) := by decide +kernel
theorem dX9_init_143 : decode cX9_init 143 = .ok (.return_, 1) := by decide +kernel
theorem dX9_feed_0 : decode cX9_feed 0 = .ok (.aload_n 0, 1) := by decide +kernel
theorem dX9_feed_1 : decode cX9_feed 1 = .ok (.getfield 13, 3) := by decide +kernel
theorem dX9_feed_4 : decode cX9_feed 4 = .ok (.bipush 20, 2) := by decide +kernel
theorem dX9_feed_6 : decode cX9_feed 6 = .ok (.iadd, 1) := by decide +kernel
theorem dX9_feed_7 : decode cX9_feed 7 = .ok (.sipush 700, 3) := by decide +kernel
theorem dX9_feed_10 : decode cX9_feed 10 = .ok (.if_icmp .le 5, 3) := by decide +kernel
theorem dX9_feed_13 : decode cX9_feed 13 = .ok (.iconst (-1), 1) := by decide +kernel
theorem dX9_feed_14 : decode cX9_feed 14 = .ok (.ireturn, 1) := by decide +kernel
theorem dX9_feed_15 : decode cX9_feed 15 = .ok (.aload_n 0, 1) := by decide +kernel
theorem dX9_feed_16 : decode cX9_feed 16 = .ok (.iload_n 1, 1) := by decide +kernel
theorem dX9_feed_17 : decode cX9_feed 17 = .ok (.invokevirtual 86, 3) := by decide +kernel
theorem dX9_feed_20 : decode cX9_feed 20 = .ok (.aload_n 0, 1) := by decide +kernel
theorem dX9_feed_21 : decode cX9_feed 21 = .ok (.iload_n 2, 1) := by decide +kernel
theorem dX9_feed_22 : decode cX9_feed 22 = .ok (.invokevirtual 86, 3) := by decide +kernel
theorem dX9_feed_25 : decode cX9_feed 25 = .ok (.aload_n 0, 1) := by decide +kernel
theorem dX9_feed_26 : decode cX9_feed 26 = .ok (.iload_n 3, 1) := by decide +kernel
theorem dX9_feed_27 : decode cX9_feed 27 = .ok (.invokevirtual 86, 3) := by decide +kernel
theorem dX9_feed_30 : decode cX9_feed 30 = .ok (.aload_n 0, 1) := by decide +kernel
theorem dX9_feed_31 : decode cX9_feed 31 = .ok (.iload 4, 2) := by decide +kernel
theorem dX9_feed_33 : decode cX9_feed 33 = .ok (.invokevirtual 86, 3) := by decide +kernel
theorem dX9_feed_36 : decode cX9_feed 36 = .ok (.aload_n 0, 1) := by decide +kernel
theorem dX9_feed_37 : decode cX9_feed 37 = .ok (.iload 5, 2) := by decide +kernel
theorem dX9_feed_39 : decode cX9_feed 39 = .ok (.invokevirtual 86, 3) := by decide +kernel
theorem dX9_feed_42 : decode cX9_feed 42 = .ok (.aload_n 0, 1) := by decide +kernel
theorem dX9_feed_43 : decode cX9_feed 43 = .ok (.getfield 13, 3) := by decide +kernel
theorem dX9_feed_46 : decode cX9_feed 46 = .ok (.ireturn, 1) := by decide +kernel
theorem dX9_goods_0 : decode cX9_goods 0 = .ok (.iload_n 1, 1) := by decide +kernel
theorem dX9_goods_1 : decode cX9_goods 1 = .ok (.ifCond .lt 11, 3) := by decide +kernel
theorem dX9_goods_4 : decode cX9_goods 4 = .ok (.iload_n 1, 1) := by decide +kernel
theorem dX9_goods_5 : decode cX9_goods 5 = .ok (.aload_n 0, 1) := by decide +kernel
theorem dX9_goods_6 : decode cX9_goods 6 = .ok (.getfield 13, 3) := by decide +kernel
theorem dX9_goods_9 : decode cX9_goods 9 = .ok (.if_icmp .le 13, 3) := by decide +kernel
theorem dX9_goods_12 : decode cX9_goods 12 = .ok (.new 90, 3) := by decide +kernel
theorem dX9_goods_15 : decode cX9_goods 15 = .ok (.dup, 1) := by decide +kernel
theorem dX9_goods_16 : decode cX9_goods 16 = .ok (.ldc 92, 2) := by decide +kernel
theorem dX9_goods_18 : decode cX9_goods 18 = .ok (.invokespecial 94, 3) := by decide +kernel
theorem dX9_goods_21 : decode cX9_goods 21 = .ok (.athrow, 1) := by decide +kernel
theorem dX9_goods_22 : decode cX9_goods 22 = .ok (.aload_n 0, 1) := by decide +kernel
theorem dX9_goods_23 : decode cX9_goods 23 = .ok (.iconst 0, 1) := by decide +kernel
theorem dX9_goods_24 : decode cX9_goods 24 = .ok (.putfield 13, 3) := by decide +kernel
theorem dX9_goods_27 : decode cX9_goods 27 = .ok (.aload_n 0, 1) := by decide +kernel
theorem dX9_goods_28 : decode cX9_goods 28 = .ok (.getfield 27, 3) := by decide +kernel
theorem dX9_goods_31 : decode cX9_goods 31 = .ok (.aload_n 0, 1) := by decide +kernel
theorem dX9_goods_32 : decode cX9_goods 32 = .ok (.getfield 9, 3) := by decide +kernel
theorem dX9_goods_35 : decode cX9_goods 35 = .ok (.iload_n 1, 1) := by decide +kernel
theorem dX9_goods_36 : decode cX9_goods 36 = .ok (.invokevirtual 97, 3) := by decide +kernel
theorem dX9_goods_39 : decode cX9_goods 39 = .ok (.istore_n 2, 1) := by decide +kernel
theorem dX9_goods_40 : decode cX9_goods 40 = .ok (.aload_n 0, 1) := by decide +kernel
theorem dX9_goods_41 : decode cX9_goods 41 = .ok (.aload_n 0, 1) := by decide +kernel
theorem dX9_goods_42 : decode cX9_goods 42 = .ok (.getfield 27, 3) := by decide +kernel
theorem dX9_goods_45 : decode cX9_goods 45 = .ok (.getfield 101, 3) := by decide +kernel
theorem dX9_goods_48 : decode cX9_goods 48 = .ok (.putfield 17, 3) := by decide +kernel
theorem dX9_goods_51 : decode cX9_goods 51 = .ok (.iload_n 2, 1) := by decide +kernel
theorem dX9_goods_52 : decode cX9_goods 52 = .ok (.ifCond .eq 18, 3) := by decide +kernel
theorem dX9_goods_55 : decode cX9_goods 55 = .ok (.aload_n 0, 1) := by decide +kernel
theorem dX9_goods_56 : decode cX9_goods 56 = .ok (.getfield 44, 3) := by decide +kernel
theorem dX9_goods_59 : decode cX9_goods 59 = .ok (.getfield 104, 3) := by decide +kernel
theorem dX9_goods_62 : decode cX9_goods 62 = .ok (.iconst 0, 1) := by decide +kernel
theorem dX9_goods_63 : decode cX9_goods 63 = .ok (.dup2, 1) := by decide +kernel
theorem dX9_goods_64 : decode cX9_goods 64 = .ok (.iaload, 1) := by decide +kernel
theorem dX9_goods_65 : decode cX9_goods 65 = .ok (.iconst 1, 1) := by decide +kernel
theorem dX9_goods_66 : decode cX9_goods 66 = .ok (.iadd, 1) := by decide +kernel
theorem dX9_goods_67 : decode cX9_goods 67 = .ok (.iastore, 1) := by decide +kernel
theorem dX9_goods_68 : decode cX9_goods 68 = .ok (.iload_n 2, 1) := by decide +kernel
theorem dX9_goods_69 : decode cX9_goods 69 = .ok (.ireturn, 1) := by decide +kernel
theorem dX9_goods_70 : decode cX9_goods 70 = .ok (.aload_n 0, 1) := by decide +kernel
theorem dX9_goods_71 : decode cX9_goods 71 = .ok (.getfield 34, 3) := by decide +kernel
theorem dX9_goods_74 : decode cX9_goods 74 = .ok (.aload_n 0, 1) := by decide +kernel
theorem dX9_goods_75 : decode cX9_goods 75 = .ok (.getfield 27, 3) := by decide +kernel
theorem dX9_goods_78 : decode cX9_goods 78 = .ok (.getfield 107, 3) := by decide +kernel
theorem dX9_goods_81 : decode cX9_goods 81 = .ok (.invokevirtual 110, 3) := by decide +kernel
theorem dX9_goods_84 : decode cX9_goods 84 = .ok (.aload_n 0, 1) := by decide +kernel
theorem dX9_goods_85 : decode cX9_goods 85 = .ok (.getfield 34, 3) := by decide +kernel
theorem dX9_goods_88 : decode cX9_goods 88 = .ok (.invokevirtual 114, 3) := by decide +kernel
theorem dX9_goods_91 : decode cX9_goods 91 = .ok (.aload_n 0, 1) := by decide +kernel
theorem dX9_goods_92 : decode cX9_goods 92 = .ok (.getfield 44, 3) := by decide +kernel
theorem dX9_goods_95 : decode cX9_goods 95 = .ok (.aload_n 0, 1) := by decide +kernel
theorem dX9_goods_96 : decode cX9_goods 96 = .ok (.getfield 27, 3) := by decide +kernel
theorem dX9_goods_99 : decode cX9_goods 99 = .ok (.getfield 117, 3) := by decide +kernel
theorem dX9_goods_102 : decode cX9_goods 102 = .ok (.invokevirtual 120, 3) := by decide +kernel
theorem dX9_goods_105 : decode cX9_goods 105 = .ok (.aload_n 0, 1) := by decide +kernel
theorem dX9_goods_106 : decode cX9_goods 106 = .ok (.iconst 0, 1) := by decide +kernel
theorem dX9_goods_107 : decode cX9_goods 107 = .ok (.putfield 20, 3) := by decide +kernel
theorem dX9_goods_110 : decode cX9_goods 110 = .ok (.iconst 0, 1) := by decide +kernel
theorem dX9_goods_111 : decode cX9_goods 111 = .ok (.ireturn, 1) := by decide +kernel
theorem dX9_fault_0 : decode cX9_fault 0 = .ok (.aload_n 0, 1) := by decide +kernel
theorem dX9_fault_1 : decode cX9_fault 1 = .ok (.getfield 17, 3) := by decide +kernel
theorem dX9_fault_4 : decode cX9_fault 4 = .ok (.ireturn, 1) := by decide +kernel
theorem dX9_count_0 : decode cX9_count 0 = .ok (.iload_n 1, 1) := by decide +kernel
theorem dX9_count_1 : decode cX9_count 1 = .ok (.tableswitch 172 0 12 #[67, 75, 83, 91, 99, 104, 113, 121, 129, 137, 142, 152, 162], 67) := by decide +kernel
theorem dX9_count_68 : decode cX9_count 68 = .ok (.aload_n 0, 1) := by decide +kernel
theorem dX9_count_69 : decode cX9_count 69 = .ok (.getfield 34, 3) := by decide +kernel
theorem dX9_count_72 : decode cX9_count 72 = .ok (.getfield 124, 3) := by decide +kernel
theorem dX9_count_75 : decode cX9_count 75 = .ok (.ireturn, 1) := by decide +kernel
theorem dX9_count_76 : decode cX9_count 76 = .ok (.aload_n 0, 1) := by decide +kernel
theorem dX9_count_77 : decode cX9_count 77 = .ok (.getfield 34, 3) := by decide +kernel
theorem dX9_count_80 : decode cX9_count 80 = .ok (.getfield 127, 3) := by decide +kernel
theorem dX9_count_83 : decode cX9_count 83 = .ok (.ireturn, 1) := by decide +kernel
theorem dX9_count_84 : decode cX9_count 84 = .ok (.aload_n 0, 1) := by decide +kernel
theorem dX9_count_85 : decode cX9_count 85 = .ok (.getfield 44, 3) := by decide +kernel
theorem dX9_count_88 : decode cX9_count 88 = .ok (.invokevirtual 130, 3) := by decide +kernel
theorem dX9_count_91 : decode cX9_count 91 = .ok (.ireturn, 1) := by decide +kernel
theorem dX9_count_92 : decode cX9_count 92 = .ok (.aload_n 0, 1) := by decide +kernel
theorem dX9_count_93 : decode cX9_count 93 = .ok (.getfield 44, 3) := by decide +kernel
theorem dX9_count_96 : decode cX9_count 96 = .ok (.invokevirtual 134, 3) := by decide +kernel
theorem dX9_count_99 : decode cX9_count 99 = .ok (.ireturn, 1) := by decide +kernel
theorem dX9_count_100 : decode cX9_count 100 = .ok (.aload_n 0, 1) := by decide +kernel
theorem dX9_count_101 : decode cX9_count 101 = .ok (.invokevirtual 137, 3) := by decide +kernel
theorem dX9_count_104 : decode cX9_count 104 = .ok (.ireturn, 1) := by decide +kernel
theorem dX9_count_105 : decode cX9_count 105 = .ok (.aload_n 0, 1) := by decide +kernel
theorem dX9_count_106 : decode cX9_count 106 = .ok (.aload_n 0, 1) := by decide +kernel
theorem dX9_count_107 : decode cX9_count 107 = .ok (.invokevirtual 140, 3) := by decide +kernel
theorem dX9_count_110 : decode cX9_count 110 = .ok (.invokevirtual 144, 3) := by decide +kernel
theorem dX9_count_113 : decode cX9_count 113 = .ok (.ireturn, 1) := by decide +kernel
theorem dX9_count_114 : decode cX9_count 114 = .ok (.aload_n 0, 1) := by decide +kernel
theorem dX9_count_115 : decode cX9_count 115 = .ok (.invokevirtual 140, 3) := by decide +kernel
theorem dX9_count_118 : decode cX9_count 118 = .ok (.invokestatic 148, 3) := by decide +kernel
theorem dX9_count_121 : decode cX9_count 121 = .ok (.ireturn, 1) := by decide +kernel
theorem dX9_count_122 : decode cX9_count 122 = .ok (.aload_n 0, 1) := by decide +kernel
theorem dX9_count_123 : decode cX9_count 123 = .ok (.getfield 44, 3) := by decide +kernel
theorem dX9_count_126 : decode cX9_count 126 = .ok (.getfield 151, 3) := by decide +kernel
theorem dX9_count_129 : decode cX9_count 129 = .ok (.ireturn, 1) := by decide +kernel
theorem dX9_count_130 : decode cX9_count 130 = .ok (.aload_n 0, 1) := by decide +kernel
theorem dX9_count_131 : decode cX9_count 131 = .ok (.getfield 44, 3) := by decide +kernel
theorem dX9_count_134 : decode cX9_count 134 = .ok (.getfield 154, 3) := by decide +kernel
theorem dX9_count_137 : decode cX9_count 137 = .ok (.ireturn, 1) := by decide +kernel
theorem dX9_count_138 : decode cX9_count 138 = .ok (.aload_n 0, 1) := by decide +kernel
theorem dX9_count_139 : decode cX9_count 139 = .ok (.getfield 13, 3) := by decide +kernel
theorem dX9_count_142 : decode cX9_count 142 = .ok (.ireturn, 1) := by decide +kernel
theorem dX9_count_143 : decode cX9_count 143 = .ok (.aload_n 0, 1) := by decide +kernel
theorem dX9_count_144 : decode cX9_count 144 = .ok (.getfield 44, 3) := by decide +kernel
theorem dX9_count_147 : decode cX9_count 147 = .ok (.getfield 104, 3) := by decide +kernel
theorem dX9_count_150 : decode cX9_count 150 = .ok (.iconst 0, 1) := by decide +kernel
theorem dX9_count_151 : decode cX9_count 151 = .ok (.iaload, 1) := by decide +kernel
theorem dX9_count_152 : decode cX9_count 152 = .ok (.ireturn, 1) := by decide +kernel
theorem dX9_count_153 : decode cX9_count 153 = .ok (.aload_n 0, 1) := by decide +kernel
theorem dX9_count_154 : decode cX9_count 154 = .ok (.getfield 44, 3) := by decide +kernel
theorem dX9_count_157 : decode cX9_count 157 = .ok (.getfield 104, 3) := by decide +kernel
theorem dX9_count_160 : decode cX9_count 160 = .ok (.iconst 1, 1) := by decide +kernel
theorem dX9_count_161 : decode cX9_count 161 = .ok (.iaload, 1) := by decide +kernel
theorem dX9_count_162 : decode cX9_count 162 = .ok (.ireturn, 1) := by decide +kernel
theorem dX9_count_163 : decode cX9_count 163 = .ok (.aload_n 0, 1) := by decide +kernel
theorem dX9_count_164 : decode cX9_count 164 = .ok (.getfield 44, 3) := by decide +kernel
theorem dX9_count_167 : decode cX9_count 167 = .ok (.getfield 104, 3) := by decide +kernel
theorem dX9_count_170 : decode cX9_count 170 = .ok (.iconst 2, 1) := by decide +kernel
theorem dX9_count_171 : decode cX9_count 171 = .ok (.iaload, 1) := by decide +kernel
theorem dX9_count_172 : decode cX9_count 172 = .ok (.ireturn, 1) := by decide +kernel
theorem dX9_count_173 : decode cX9_count 173 = .ok (.new 157, 3) := by decide +kernel
theorem dX9_count_176 : decode cX9_count 176 = .ok (.dup, 1) := by decide +kernel
theorem dX9_count_177 : decode cX9_count 177 = .ok (.ldc 159, 2) := by decide +kernel
theorem dX9_count_179 : decode cX9_count 179 = .ok (.invokespecial 161, 3) := by decide +kernel
theorem dX9_count_182 : decode cX9_count 182 = .ok (.athrow, 1) := by decide +kernel
theorem dX9_sort_0 : decode cX9_sort 0 = .ok (.aload_n 0, 1) := by decide +kernel
theorem dX9_sort_1 : decode cX9_sort 1 = .ok (.iload_n 1, 1) := by decide +kernel
theorem dX9_sort_2 : decode cX9_sort 2 = .ok (.invokevirtual 162, 3) := by decide +kernel
theorem dX9_sort_5 : decode cX9_sort 5 = .ok (.iload_n 2, 1) := by decide +kernel
theorem dX9_sort_6 : decode cX9_sort 6 = .ok (.tableswitch 67 0 3 #[30, 40, 49, 58], 30) := by decide +kernel
theorem dX9_sort_36 : decode cX9_sort 36 = .ok (.aload_n 0, 1) := by decide +kernel
theorem dX9_sort_37 : decode cX9_sort 37 = .ok (.getfield 34, 3) := by decide +kernel
theorem dX9_sort_40 : decode cX9_sort 40 = .ok (.getfield 165, 3) := by decide +kernel
theorem dX9_sort_43 : decode cX9_sort 43 = .ok (.iload_n 1, 1) := by decide +kernel
theorem dX9_sort_44 : decode cX9_sort 44 = .ok (.iaload, 1) := by decide +kernel
theorem dX9_sort_45 : decode cX9_sort 45 = .ok (.ireturn, 1) := by decide +kernel
theorem dX9_sort_46 : decode cX9_sort 46 = .ok (.aload_n 0, 1) := by decide +kernel
theorem dX9_sort_47 : decode cX9_sort 47 = .ok (.getfield 44, 3) := by decide +kernel
theorem dX9_sort_50 : decode cX9_sort 50 = .ok (.iload_n 1, 1) := by decide +kernel
theorem dX9_sort_51 : decode cX9_sort 51 = .ok (.invokevirtual 168, 3) := by decide +kernel
theorem dX9_sort_54 : decode cX9_sort 54 = .ok (.ireturn, 1) := by decide +kernel
theorem dX9_sort_55 : decode cX9_sort 55 = .ok (.aload_n 0, 1) := by decide +kernel
theorem dX9_sort_56 : decode cX9_sort 56 = .ok (.getfield 34, 3) := by decide +kernel
theorem dX9_sort_59 : decode cX9_sort 59 = .ok (.iload_n 1, 1) := by decide +kernel
theorem dX9_sort_60 : decode cX9_sort 60 = .ok (.invokevirtual 172, 3) := by decide +kernel
theorem dX9_sort_63 : decode cX9_sort 63 = .ok (.ireturn, 1) := by decide +kernel
theorem dX9_sort_64 : decode cX9_sort 64 = .ok (.aload_n 0, 1) := by decide +kernel
theorem dX9_sort_65 : decode cX9_sort 65 = .ok (.getfield 44, 3) := by decide +kernel
theorem dX9_sort_68 : decode cX9_sort 68 = .ok (.iload_n 1, 1) := by decide +kernel
theorem dX9_sort_69 : decode cX9_sort 69 = .ok (.invokevirtual 175, 3) := by decide +kernel
theorem dX9_sort_72 : decode cX9_sort 72 = .ok (.ireturn, 1) := by decide +kernel
theorem dX9_sort_73 : decode cX9_sort 73 = .ok (.new 157, 3) := by decide +kernel
theorem dX9_sort_76 : decode cX9_sort 76 = .ok (.dup, 1) := by decide +kernel
theorem dX9_sort_77 : decode cX9_sort 77 = .ok (.ldc 178, 2) := by decide +kernel
theorem dX9_sort_79 : decode cX9_sort 79 = .ok (.invokespecial 161, 3) := by decide +kernel
theorem dX9_sort_82 : decode cX9_sort 82 = .ok (.athrow, 1) := by decide +kernel
theorem dX9_bin_0 : decode cX9_bin 0 = .ok (.aload_n 0, 1) := by decide +kernel
theorem dX9_bin_1 : decode cX9_bin 1 = .ok (.iload_n 1, 1) := by decide +kernel
theorem dX9_bin_2 : decode cX9_bin 2 = .ok (.invokevirtual 180, 3) := by decide +kernel
theorem dX9_bin_5 : decode cX9_bin 5 = .ok (.iload_n 2, 1) := by decide +kernel
theorem dX9_bin_6 : decode cX9_bin 6 = .ok (.iconst (-1), 1) := by decide +kernel
theorem dX9_bin_7 : decode cX9_bin 7 = .ok (.if_icmp .ne 20, 3) := by decide +kernel
theorem dX9_bin_10 : decode cX9_bin 10 = .ok (.aload_n 0, 1) := by decide +kernel
theorem dX9_bin_11 : decode cX9_bin 11 = .ok (.getfield 34, 3) := by decide +kernel
theorem dX9_bin_14 : decode cX9_bin 14 = .ok (.aload_n 0, 1) := by decide +kernel
theorem dX9_bin_15 : decode cX9_bin 15 = .ok (.getfield 44, 3) := by decide +kernel
theorem dX9_bin_18 : decode cX9_bin 18 = .ok (.getfield 183, 3) := by decide +kernel
theorem dX9_bin_21 : decode cX9_bin 21 = .ok (.iload_n 1, 1) := by decide +kernel
theorem dX9_bin_22 : decode cX9_bin 22 = .ok (.laload, 1) := by decide +kernel
theorem dX9_bin_23 : decode cX9_bin 23 = .ok (.invokevirtual 184, 3) := by decide +kernel
theorem dX9_bin_26 : decode cX9_bin 26 = .ok (.ireturn, 1) := by decide +kernel
theorem dX9_bin_27 : decode cX9_bin 27 = .ok (.aload_n 0, 1) := by decide +kernel
theorem dX9_bin_28 : decode cX9_bin 28 = .ok (.iload_n 2, 1) := by decide +kernel
theorem dX9_bin_29 : decode cX9_bin 29 = .ok (.invokevirtual 162, 3) := by decide +kernel
theorem dX9_bin_32 : decode cX9_bin 32 = .ok (.aload_n 0, 1) := by decide +kernel
theorem dX9_bin_33 : decode cX9_bin 33 = .ok (.getfield 44, 3) := by decide +kernel
theorem dX9_bin_36 : decode cX9_bin 36 = .ok (.getfield 183, 3) := by decide +kernel
theorem dX9_bin_39 : decode cX9_bin 39 = .ok (.iload_n 1, 1) := by decide +kernel
theorem dX9_bin_40 : decode cX9_bin 40 = .ok (.laload, 1) := by decide +kernel
theorem dX9_bin_41 : decode cX9_bin 41 = .ok (.iload_n 2, 1) := by decide +kernel
theorem dX9_bin_42 : decode cX9_bin 42 = .ok (.invokestatic 188, 3) := by decide +kernel
theorem dX9_bin_45 : decode cX9_bin 45 = .ok (.ireturn, 1) := by decide +kernel
theorem dX9_rule_0 : decode cX9_rule 0 = .ok (.aload_n 0, 1) := by decide +kernel
theorem dX9_rule_1 : decode cX9_rule 1 = .ok (.iload_n 1, 1) := by decide +kernel
theorem dX9_rule_2 : decode cX9_rule 2 = .ok (.invokevirtual 192, 3) := by decide +kernel
theorem dX9_rule_5 : decode cX9_rule 5 = .ok (.aload_n 0, 1) := by decide +kernel
theorem dX9_rule_6 : decode cX9_rule 6 = .ok (.getfield 54, 3) := by decide +kernel
theorem dX9_rule_9 : decode cX9_rule 9 = .ok (.aload_n 0, 1) := by decide +kernel
theorem dX9_rule_10 : decode cX9_rule 10 = .ok (.invokevirtual 140, 3) := by decide +kernel
theorem dX9_rule_13 : decode cX9_rule 13 = .ok (.iload_n 1, 1) := by decide +kernel
theorem dX9_rule_14 : decode cX9_rule 14 = .ok (.invokevirtual 195, 3) := by decide +kernel
theorem dX9_rule_17 : decode cX9_rule 17 = .ok (.ireturn, 1) := by decide +kernel
theorem dX9_into_0 : decode cX9_into 0 = .ok (.aload_n 0, 1) := by decide +kernel
theorem dX9_into_1 : decode cX9_into 1 = .ok (.iload_n 1, 1) := by decide +kernel
theorem dX9_into_2 : decode cX9_into 2 = .ok (.invokevirtual 192, 3) := by decide +kernel
theorem dX9_into_5 : decode cX9_into 5 = .ok (.aload_n 0, 1) := by decide +kernel
theorem dX9_into_6 : decode cX9_into 6 = .ok (.getfield 54, 3) := by decide +kernel
theorem dX9_into_9 : decode cX9_into 9 = .ok (.aload_n 0, 1) := by decide +kernel
theorem dX9_into_10 : decode cX9_into 10 = .ok (.invokevirtual 140, 3) := by decide +kernel
theorem dX9_into_13 : decode cX9_into 13 = .ok (.iload_n 1, 1) := by decide +kernel
theorem dX9_into_14 : decode cX9_into 14 = .ok (.invokevirtual 195, 3) := by decide +kernel
theorem dX9_into_17 : decode cX9_into 17 = .ok (.pop, 1) := by decide +kernel
theorem dX9_into_18 : decode cX9_into 18 = .ok (.iload_n 2, 1) := by decide +kernel
theorem dX9_into_19 : decode cX9_into 19 = .ok (.ifCond .lt 26, 3) := by decide +kernel
theorem dX9_into_22 : decode cX9_into 22 = .ok (.iload_n 2, 1) := by decide +kernel
theorem dX9_into_23 : decode cX9_into 23 = .ok (.aload_n 0, 1) := by decide +kernel
theorem dX9_into_24 : decode cX9_into 24 = .ok (.getfield 54, 3) := by decide +kernel
theorem dX9_into_27 : decode cX9_into 27 = .ok (.getfield 199, 3) := by decide +kernel
theorem dX9_into_30 : decode cX9_into 30 = .ok (.if_icmp .ge 15, 3) := by decide +kernel
theorem dX9_into_33 : decode cX9_into 33 = .ok (.iload_n 2, 1) := by decide +kernel
theorem dX9_into_34 : decode cX9_into 34 = .ok (.aload_n 0, 1) := by decide +kernel
theorem dX9_into_35 : decode cX9_into 35 = .ok (.getfield 54, 3) := by decide +kernel
theorem dX9_into_38 : decode cX9_into 38 = .ok (.getfield 202, 3) := by decide +kernel
theorem dX9_into_41 : decode cX9_into 41 = .ok (.arraylength, 1) := by decide +kernel
theorem dX9_into_42 : decode cX9_into 42 = .ok (.if_icmp .lt 13, 3) := by decide +kernel
theorem dX9_into_45 : decode cX9_into 45 = .ok (.new 157, 3) := by decide +kernel
theorem dX9_into_48 : decode cX9_into 48 = .ok (.dup, 1) := by decide +kernel
theorem dX9_into_49 : decode cX9_into 49 = .ok (.ldc 205, 2) := by decide +kernel
theorem dX9_into_51 : decode cX9_into 51 = .ok (.invokespecial 161, 3) := by decide +kernel
theorem dX9_into_54 : decode cX9_into 54 = .ok (.athrow, 1) := by decide +kernel
theorem dX9_into_55 : decode cX9_into 55 = .ok (.aload_n 0, 1) := by decide +kernel
theorem dX9_into_56 : decode cX9_into 56 = .ok (.getfield 54, 3) := by decide +kernel
theorem dX9_into_59 : decode cX9_into 59 = .ok (.getfield 202, 3) := by decide +kernel
theorem dX9_into_62 : decode cX9_into 62 = .ok (.iload_n 2, 1) := by decide +kernel
theorem dX9_into_63 : decode cX9_into 63 = .ok (.iaload, 1) := by decide +kernel
theorem dX9_into_64 : decode cX9_into 64 = .ok (.ireturn, 1) := by decide +kernel
theorem dX9_guaranteed_0 : decode cX9_guaranteed 0 = .ok (.iload_n 1, 1) := by decide +kernel
theorem dX9_guaranteed_1 : decode cX9_guaranteed 1 = .ok (.ifCond .eq 18, 3) := by decide +kernel
theorem dX9_guaranteed_4 : decode cX9_guaranteed 4 = .ok (.iload_n 1, 1) := by decide +kernel
theorem dX9_guaranteed_5 : decode cX9_guaranteed 5 = .ok (.iconst 1, 1) := by decide +kernel
theorem dX9_guaranteed_6 : decode cX9_guaranteed 6 = .ok (.if_icmp .eq 13, 3) := by decide +kernel
theorem dX9_guaranteed_9 : decode cX9_guaranteed 9 = .ok (.new 157, 3) := by decide +kernel
theorem dX9_guaranteed_12 : decode cX9_guaranteed 12 = .ok (.dup, 1) := by decide +kernel
theorem dX9_guaranteed_13 : decode cX9_guaranteed 13 = .ok (.ldc 207, 2) := by decide +kernel
theorem dX9_guaranteed_15 : decode cX9_guaranteed 15 = .ok (.invokespecial 161, 3) := by decide +kernel
theorem dX9_guaranteed_18 : decode cX9_guaranteed 18 = .ok (.athrow, 1) := by decide +kernel
theorem dX9_guaranteed_19 : decode cX9_guaranteed 19 = .ok (.aload_n 0, 1) := by decide +kernel
theorem dX9_guaranteed_20 : decode cX9_guaranteed 20 = .ok (.invokevirtual 140, 3) := by decide +kernel
theorem dX9_guaranteed_23 : decode cX9_guaranteed 23 = .ok (.astore_n 2, 1) := by decide +kernel
theorem dX9_guaranteed_24 : decode cX9_guaranteed 24 = .ok (.aload_n 0, 1) := by decide +kernel
theorem dX9_guaranteed_25 : decode cX9_guaranteed 25 = .ok (.getfield 61, 3) := by decide +kernel
theorem dX9_guaranteed_28 : decode cX9_guaranteed 28 = .ok (.aload_n 2, 1) := by decide +kernel
theorem dX9_guaranteed_29 : decode cX9_guaranteed 29 = .ok (.invokevirtual 209, 3) := by decide +kernel
theorem dX9_guaranteed_32 : decode cX9_guaranteed 32 = .ok (.istore_n 3, 1) := by decide +kernel
theorem dX9_guaranteed_33 : decode cX9_guaranteed 33 = .ok (.iload_n 1, 1) := by decide +kernel
theorem dX9_guaranteed_34 : decode cX9_guaranteed 34 = .ok (.ifCond .ne 28, 3) := by decide +kernel
theorem dX9_guaranteed_37 : decode cX9_guaranteed 37 = .ok (.bipush 10, 2) := by decide +kernel
theorem dX9_guaranteed_39 : decode cX9_guaranteed 39 = .ok (.aload_n 0, 1) := by decide +kernel
theorem dX9_guaranteed_40 : decode cX9_guaranteed 40 = .ok (.getfield 54, 3) := by decide +kernel
theorem dX9_guaranteed_43 : decode cX9_guaranteed 43 = .ok (.aload_n 2, 1) := by decide +kernel
theorem dX9_guaranteed_44 : decode cX9_guaranteed 44 = .ok (.iconst 1, 1) := by decide +kernel
theorem dX9_guaranteed_45 : decode cX9_guaranteed 45 = .ok (.invokevirtual 195, 3) := by decide +kernel
theorem dX9_guaranteed_48 : decode cX9_guaranteed 48 = .ok (.imul, 1) := by decide +kernel
theorem dX9_guaranteed_49 : decode cX9_guaranteed 49 = .ok (.bipush 17, 2) := by decide +kernel
theorem dX9_guaranteed_51 : decode cX9_guaranteed 51 = .ok (.iload_n 3, 1) := by decide +kernel
theorem dX9_guaranteed_52 : decode cX9_guaranteed 52 = .ok (.imul, 1) := by decide +kernel
theorem dX9_guaranteed_53 : decode cX9_guaranteed 53 = .ok (.if_icmp .gt 7, 3) := by decide +kernel
theorem dX9_guaranteed_56 : decode cX9_guaranteed 56 = .ok (.iconst 1, 1) := by decide +kernel
theorem dX9_guaranteed_57 : decode cX9_guaranteed 57 = .ok (.goto 4, 3) := by decide +kernel
theorem dX9_guaranteed_60 : decode cX9_guaranteed 60 = .ok (.iconst 0, 1) := by decide +kernel
theorem dX9_guaranteed_61 : decode cX9_guaranteed 61 = .ok (.ireturn, 1) := by decide +kernel
theorem dX9_guaranteed_62 : decode cX9_guaranteed 62 = .ok (.bipush 9, 2) := by decide +kernel
theorem dX9_guaranteed_64 : decode cX9_guaranteed 64 = .ok (.aload_n 0, 1) := by decide +kernel
theorem dX9_guaranteed_65 : decode cX9_guaranteed 65 = .ok (.getfield 54, 3) := by decide +kernel
theorem dX9_guaranteed_68 : decode cX9_guaranteed 68 = .ok (.aload_n 2, 1) := by decide +kernel
theorem dX9_guaranteed_69 : decode cX9_guaranteed 69 = .ok (.iconst 5, 1) := by decide +kernel
theorem dX9_guaranteed_70 : decode cX9_guaranteed 70 = .ok (.invokevirtual 195, 3) := by decide +kernel
theorem dX9_guaranteed_73 : decode cX9_guaranteed 73 = .ok (.imul, 1) := by decide +kernel
theorem dX9_guaranteed_74 : decode cX9_guaranteed 74 = .ok (.bipush 11, 2) := by decide +kernel
theorem dX9_guaranteed_76 : decode cX9_guaranteed 76 = .ok (.iload_n 3, 1) := by decide +kernel
theorem dX9_guaranteed_77 : decode cX9_guaranteed 77 = .ok (.imul, 1) := by decide +kernel
theorem dX9_guaranteed_78 : decode cX9_guaranteed 78 = .ok (.bipush 6, 2) := by decide +kernel
theorem dX9_guaranteed_80 : decode cX9_guaranteed 80 = .ok (.iadd, 1) := by decide +kernel
theorem dX9_guaranteed_81 : decode cX9_guaranteed 81 = .ok (.if_icmp .gt 7, 3) := by decide +kernel
theorem dX9_guaranteed_84 : decode cX9_guaranteed 84 = .ok (.iconst 1, 1) := by decide +kernel
theorem dX9_guaranteed_85 : decode cX9_guaranteed 85 = .ok (.goto 4, 3) := by decide +kernel
theorem dX9_guaranteed_88 : decode cX9_guaranteed 88 = .ok (.iconst 0, 1) := by decide +kernel
theorem dX9_guaranteed_89 : decode cX9_guaranteed 89 = .ok (.ireturn, 1) := by decide +kernel
theorem dX9_bound_0 : decode cX9_bound 0 = .ok (.aload_n 0, 1) := by decide +kernel
theorem dX9_bound_1 : decode cX9_bound 1 = .ok (.invokevirtual 140, 3) := by decide +kernel
theorem dX9_bound_4 : decode cX9_bound 4 = .ok (.astore_n 2, 1) := by decide +kernel
theorem dX9_bound_5 : decode cX9_bound 5 = .ok (.iload_n 1, 1) := by decide +kernel
theorem dX9_bound_6 : decode cX9_bound 6 = .ok (.tableswitch 108 0 5 #[38, 47, 64, 73, 90, 99], 38) := by decide +kernel
theorem dX9_bound_44 : decode cX9_bound 44 = .ok (.aload_n 2, 1) := by decide +kernel
theorem dX9_bound_45 : decode cX9_bound 45 = .ok (.aload_n 2, 1) := by decide +kernel
theorem dX9_bound_46 : decode cX9_bound 46 = .ok (.getfield 212, 3) := by decide +kernel
theorem dX9_bound_49 : decode cX9_bound 49 = .ok (.invokestatic 215, 3) := by decide +kernel
theorem dX9_bound_52 : decode cX9_bound 52 = .ok (.ireturn, 1) := by decide +kernel
theorem dX9_bound_53 : decode cX9_bound 53 = .ok (.aload_n 2, 1) := by decide +kernel
theorem dX9_bound_54 : decode cX9_bound 54 = .ok (.aload_n 2, 1) := by decide +kernel
theorem dX9_bound_55 : decode cX9_bound 55 = .ok (.getfield 212, 3) := by decide +kernel
theorem dX9_bound_58 : decode cX9_bound 58 = .ok (.aload_n 2, 1) := by decide +kernel
theorem dX9_bound_59 : decode cX9_bound 59 = .ok (.aload_n 2, 1) := by decide +kernel
theorem dX9_bound_60 : decode cX9_bound 60 = .ok (.getfield 212, 3) := by decide +kernel
theorem dX9_bound_63 : decode cX9_bound 63 = .ok (.invokestatic 221, 3) := by decide +kernel
theorem dX9_bound_66 : decode cX9_bound 66 = .ok (.invokestatic 224, 3) := by decide +kernel
theorem dX9_bound_69 : decode cX9_bound 69 = .ok (.ireturn, 1) := by decide +kernel
theorem dX9_bound_70 : decode cX9_bound 70 = .ok (.aload_n 2, 1) := by decide +kernel
theorem dX9_bound_71 : decode cX9_bound 71 = .ok (.aload_n 2, 1) := by decide +kernel
theorem dX9_bound_72 : decode cX9_bound 72 = .ok (.getfield 212, 3) := by decide +kernel
theorem dX9_bound_75 : decode cX9_bound 75 = .ok (.invokestatic 221, 3) := by decide +kernel
theorem dX9_bound_78 : decode cX9_bound 78 = .ok (.ireturn, 1) := by decide +kernel
theorem dX9_bound_79 : decode cX9_bound 79 = .ok (.aload_n 2, 1) := by decide +kernel
theorem dX9_bound_80 : decode cX9_bound 80 = .ok (.aload_n 2, 1) := by decide +kernel
theorem dX9_bound_81 : decode cX9_bound 81 = .ok (.getfield 212, 3) := by decide +kernel
theorem dX9_bound_84 : decode cX9_bound 84 = .ok (.aload_n 2, 1) := by decide +kernel
theorem dX9_bound_85 : decode cX9_bound 85 = .ok (.aload_n 2, 1) := by decide +kernel
theorem dX9_bound_86 : decode cX9_bound 86 = .ok (.getfield 212, 3) := by decide +kernel
theorem dX9_bound_89 : decode cX9_bound 89 = .ok (.invokestatic 228, 3) := by decide +kernel
theorem dX9_bound_92 : decode cX9_bound 92 = .ok (.invokestatic 231, 3) := by decide +kernel
theorem dX9_bound_95 : decode cX9_bound 95 = .ok (.ireturn, 1) := by decide +kernel
theorem dX9_bound_96 : decode cX9_bound 96 = .ok (.aload_n 2, 1) := by decide +kernel
theorem dX9_bound_97 : decode cX9_bound 97 = .ok (.aload_n 2, 1) := by decide +kernel
theorem dX9_bound_98 : decode cX9_bound 98 = .ok (.getfield 212, 3) := by decide +kernel
theorem dX9_bound_101 : decode cX9_bound 101 = .ok (.invokestatic 228, 3) := by decide +kernel
theorem dX9_bound_104 : decode cX9_bound 104 = .ok (.ireturn, 1) := by decide +kernel
theorem dX9_bound_105 : decode cX9_bound 105 = .ok (.aload_n 2, 1) := by decide +kernel
theorem dX9_bound_106 : decode cX9_bound 106 = .ok (.aload_n 2, 1) := by decide +kernel
theorem dX9_bound_107 : decode cX9_bound 107 = .ok (.getfield 212, 3) := by decide +kernel
theorem dX9_bound_110 : decode cX9_bound 110 = .ok (.invokestatic 234, 3) := by decide +kernel
theorem dX9_bound_113 : decode cX9_bound 113 = .ok (.ireturn, 1) := by decide +kernel
theorem dX9_bound_114 : decode cX9_bound 114 = .ok (.new 157, 3) := by decide +kernel
theorem dX9_bound_117 : decode cX9_bound 117 = .ok (.dup, 1) := by decide +kernel
theorem dX9_bound_118 : decode cX9_bound 118 = .ok (.ldc 237, 2) := by decide +kernel
theorem dX9_bound_120 : decode cX9_bound 120 = .ok (.invokespecial 161, 3) := by decide +kernel
theorem dX9_bound_123 : decode cX9_bound 123 = .ok (.athrow, 1) := by decide +kernel
theorem dX9_split_0 : decode cX9_split 0 = .ok (.iload_n 1, 1) := by decide +kernel
theorem dX9_split_1 : decode cX9_split 1 = .ok (.ifCond .lt 16, 3) := by decide +kernel
theorem dX9_split_4 : decode cX9_split 4 = .ok (.iload_n 1, 1) := by decide +kernel
theorem dX9_split_5 : decode cX9_split 5 = .ok (.aload_n 0, 1) := by decide +kernel
theorem dX9_split_6 : decode cX9_split 6 = .ok (.getfield 34, 3) := by decide +kernel
theorem dX9_split_9 : decode cX9_split 9 = .ok (.getfield 124, 3) := by decide +kernel
theorem dX9_split_12 : decode cX9_split 12 = .ok (.iconst 2, 1) := by decide +kernel
theorem dX9_split_13 : decode cX9_split 13 = .ok (.idiv, 1) := by decide +kernel
theorem dX9_split_14 : decode cX9_split 14 = .ok (.if_icmp .le 13, 3) := by decide +kernel
theorem dX9_split_17 : decode cX9_split 17 = .ok (.new 90, 3) := by decide +kernel
theorem dX9_split_20 : decode cX9_split 20 = .ok (.dup, 1) := by decide +kernel
theorem dX9_split_21 : decode cX9_split 21 = .ok (.ldc 239, 2) := by decide +kernel
theorem dX9_split_23 : decode cX9_split 23 = .ok (.invokespecial 94, 3) := by decide +kernel
theorem dX9_split_26 : decode cX9_split 26 = .ok (.athrow, 1) := by decide +kernel
theorem dX9_split_27 : decode cX9_split 27 = .ok (.aload_n 0, 1) := by decide +kernel
theorem dX9_split_28 : decode cX9_split 28 = .ok (.invokevirtual 140, 3) := by decide +kernel
theorem dX9_split_31 : decode cX9_split 31 = .ok (.astore_n 2, 1) := by decide +kernel
theorem dX9_split_32 : decode cX9_split 32 = .ok (.aload_n 2, 1) := by decide +kernel
theorem dX9_split_33 : decode cX9_split 33 = .ok (.aload_n 2, 1) := by decide +kernel
theorem dX9_split_34 : decode cX9_split 34 = .ok (.getfield 212, 3) := by decide +kernel
theorem dX9_split_37 : decode cX9_split 37 = .ok (.iload_n 1, 1) := by decide +kernel
theorem dX9_split_38 : decode cX9_split 38 = .ok (.invokestatic 224, 3) := by decide +kernel
theorem dX9_split_41 : decode cX9_split 41 = .ok (.ireturn, 1) := by decide +kernel
theorem dX9_step_0 : decode cX9_step 0 = .ok (.iload_n 1, 1) := by decide +kernel
theorem dX9_step_1 : decode cX9_step 1 = .ok (.iconst 1, 1) := by decide +kernel
theorem dX9_step_2 : decode cX9_step 2 = .ok (.if_icmp .lt 9, 3) := by decide +kernel
theorem dX9_step_5 : decode cX9_step 5 = .ok (.iload_n 1, 1) := by decide +kernel
theorem dX9_step_6 : decode cX9_step 6 = .ok (.bipush 20, 2) := by decide +kernel
theorem dX9_step_8 : decode cX9_step 8 = .ok (.if_icmp .le 13, 3) := by decide +kernel
theorem dX9_step_11 : decode cX9_step 11 = .ok (.new 90, 3) := by decide +kernel
theorem dX9_step_14 : decode cX9_step 14 = .ok (.dup, 1) := by decide +kernel
theorem dX9_step_15 : decode cX9_step 15 = .ok (.ldc 241, 2) := by decide +kernel
theorem dX9_step_17 : decode cX9_step 17 = .ok (.invokespecial 94, 3) := by decide +kernel
theorem dX9_step_20 : decode cX9_step 20 = .ok (.athrow, 1) := by decide +kernel
theorem dX9_step_21 : decode cX9_step 21 = .ok (.aload_n 0, 1) := by decide +kernel
theorem dX9_step_22 : decode cX9_step 22 = .ok (.invokevirtual 140, 3) := by decide +kernel
theorem dX9_step_25 : decode cX9_step 25 = .ok (.astore_n 2, 1) := by decide +kernel
theorem dX9_step_26 : decode cX9_step 26 = .ok (.aload_n 2, 1) := by decide +kernel
theorem dX9_step_27 : decode cX9_step 27 = .ok (.aload_n 2, 1) := by decide +kernel
theorem dX9_step_28 : decode cX9_step 28 = .ok (.getfield 212, 3) := by decide +kernel
theorem dX9_step_31 : decode cX9_step 31 = .ok (.iload_n 1, 1) := by decide +kernel
theorem dX9_step_32 : decode cX9_step 32 = .ok (.invokestatic 231, 3) := by decide +kernel
theorem dX9_step_35 : decode cX9_step 35 = .ok (.ireturn, 1) := by decide +kernel
theorem dX9_patterns_0 : decode cX9_patterns 0 = .ok (.aload_n 0, 1) := by decide +kernel
theorem dX9_patterns_1 : decode cX9_patterns 1 = .ok (.invokevirtual 140, 3) := by decide +kernel
theorem dX9_patterns_4 : decode cX9_patterns 4 = .ok (.astore_n 2, 1) := by decide +kernel
theorem dX9_patterns_5 : decode cX9_patterns 5 = .ok (.iload_n 1, 1) := by decide +kernel
theorem dX9_patterns_6 : decode cX9_patterns 6 = .ok (.tableswitch 55 0 2 #[26, 35, 45], 26) := by decide +kernel
theorem dX9_patterns_32 : decode cX9_patterns 32 = .ok (.aload_n 0, 1) := by decide +kernel
theorem dX9_patterns_33 : decode cX9_patterns 33 = .ok (.getfield 68, 3) := by decide +kernel
theorem dX9_patterns_36 : decode cX9_patterns 36 = .ok (.aload_n 2, 1) := by decide +kernel
theorem dX9_patterns_37 : decode cX9_patterns 37 = .ok (.invokevirtual 243, 3) := by decide +kernel
theorem dX9_patterns_40 : decode cX9_patterns 40 = .ok (.ireturn, 1) := by decide +kernel
theorem dX9_patterns_41 : decode cX9_patterns 41 = .ok (.aload_n 2, 1) := by decide +kernel
theorem dX9_patterns_42 : decode cX9_patterns 42 = .ok (.aload_n 0, 1) := by decide +kernel
theorem dX9_patterns_43 : decode cX9_patterns 43 = .ok (.getfield 79, 3) := by decide +kernel
theorem dX9_patterns_46 : decode cX9_patterns 46 = .ok (.iconst 0, 1) := by decide +kernel
theorem dX9_patterns_47 : decode cX9_patterns 47 = .ok (.invokestatic 246, 3) := by decide +kernel
theorem dX9_patterns_50 : decode cX9_patterns 50 = .ok (.ireturn, 1) := by decide +kernel
theorem dX9_patterns_51 : decode cX9_patterns 51 = .ok (.aload_n 2, 1) := by decide +kernel
theorem dX9_patterns_52 : decode cX9_patterns 52 = .ok (.aload_n 0, 1) := by decide +kernel
theorem dX9_patterns_53 : decode cX9_patterns 53 = .ok (.getfield 79, 3) := by decide +kernel
theorem dX9_patterns_56 : decode cX9_patterns 56 = .ok (.iconst 1, 1) := by decide +kernel
theorem dX9_patterns_57 : decode cX9_patterns 57 = .ok (.invokestatic 246, 3) := by decide +kernel
theorem dX9_patterns_60 : decode cX9_patterns 60 = .ok (.ireturn, 1) := by decide +kernel
theorem dX9_patterns_61 : decode cX9_patterns 61 = .ok (.new 157, 3) := by decide +kernel
theorem dX9_patterns_64 : decode cX9_patterns 64 = .ok (.dup, 1) := by decide +kernel
theorem dX9_patterns_65 : decode cX9_patterns 65 = .ok (.ldc 252, 2) := by decide +kernel
theorem dX9_patterns_67 : decode cX9_patterns 67 = .ok (.invokespecial 161, 3) := by decide +kernel
theorem dX9_patterns_70 : decode cX9_patterns 70 = .ok (.athrow, 1) := by decide +kernel
theorem dX9_pattern_0 : decode cX9_pattern 0 = .ok (.aload_n 0, 1) := by decide +kernel
theorem dX9_pattern_1 : decode cX9_pattern 1 = .ok (.iload_n 2, 1) := by decide +kernel
theorem dX9_pattern_2 : decode cX9_pattern 2 = .ok (.invokevirtual 254, 3) := by decide +kernel
theorem dX9_pattern_5 : decode cX9_pattern 5 = .ok (.aload_n 0, 1) := by decide +kernel
theorem dX9_pattern_6 : decode cX9_pattern 6 = .ok (.invokevirtual 140, 3) := by decide +kernel
theorem dX9_pattern_9 : decode cX9_pattern 9 = .ok (.astore_n 3, 1) := by decide +kernel
theorem dX9_pattern_10 : decode cX9_pattern 10 = .ok (.iload_n 1, 1) := by decide +kernel
theorem dX9_pattern_11 : decode cX9_pattern 11 = .ok (.ifCond .lt 15, 3) := by decide +kernel
theorem dX9_pattern_14 : decode cX9_pattern 14 = .ok (.aload_n 3, 1) := by decide +kernel
theorem dX9_pattern_15 : decode cX9_pattern 15 = .ok (.aload_n 0, 1) := by decide +kernel
theorem dX9_pattern_16 : decode cX9_pattern 16 = .ok (.getfield 79, 3) := by decide +kernel
theorem dX9_pattern_19 : decode cX9_pattern 19 = .ok (.iload_n 1, 1) := by decide +kernel
theorem dX9_pattern_20 : decode cX9_pattern 20 = .ok (.invokestatic 257, 3) := by decide +kernel
theorem dX9_pattern_23 : decode cX9_pattern 23 = .ok (.ifCond .ne 14, 3) := by decide +kernel
theorem dX9_pattern_26 : decode cX9_pattern 26 = .ok (.new 157, 3) := by decide +kernel
theorem dX9_pattern_29 : decode cX9_pattern 29 = .ok (.dup, 1) := by decide +kernel
theorem dX9_pattern_30 : decode cX9_pattern 30 = .ok (.ldc_w 261, 3) := by decide +kernel
theorem dX9_pattern_33 : decode cX9_pattern 33 = .ok (.invokespecial 161, 3) := by decide +kernel
theorem dX9_pattern_36 : decode cX9_pattern 36 = .ok (.athrow, 1) := by decide +kernel
theorem dX9_pattern_37 : decode cX9_pattern 37 = .ok (.iload_n 2, 1) := by decide +kernel
theorem dX9_pattern_38 : decode cX9_pattern 38 = .ok (.iconst (-1), 1) := by decide +kernel
theorem dX9_pattern_39 : decode cX9_pattern 39 = .ok (.if_icmp .ne 14, 3) := by decide +kernel
theorem dX9_pattern_42 : decode cX9_pattern 42 = .ok (.aload_n 3, 1) := by decide +kernel
theorem dX9_pattern_43 : decode cX9_pattern 43 = .ok (.aload_n 0, 1) := by decide +kernel
theorem dX9_pattern_44 : decode cX9_pattern 44 = .ok (.getfield 79, 3) := by decide +kernel
theorem dX9_pattern_47 : decode cX9_pattern 47 = .ok (.invokevirtual 263, 3) := by decide +kernel
theorem dX9_pattern_50 : decode cX9_pattern 50 = .ok (.goto 9, 3) := by decide +kernel
theorem dX9_pattern_53 : decode cX9_pattern 53 = .ok (.aload_n 0, 1) := by decide +kernel
theorem dX9_pattern_54 : decode cX9_pattern 54 = .ok (.getfield 79, 3) := by decide +kernel
theorem dX9_pattern_57 : decode cX9_pattern 57 = .ok (.iload_n 2, 1) := by decide +kernel
theorem dX9_pattern_58 : decode cX9_pattern 58 = .ok (.iaload, 1) := by decide +kernel
theorem dX9_pattern_59 : decode cX9_pattern 59 = .ok (.ireturn, 1) := by decide +kernel
theorem dX9_tree_0 : decode cX9_tree 0 = .ok (.iload_n 1, 1) := by decide +kernel
theorem dX9_tree_1 : decode cX9_tree 1 = .ok (.ifCond .lt 8, 3) := by decide +kernel
theorem dX9_tree_4 : decode cX9_tree 4 = .ok (.iload_n 1, 1) := by decide +kernel
theorem dX9_tree_5 : decode cX9_tree 5 = .ok (.iconst 5, 1) := by decide +kernel
theorem dX9_tree_6 : decode cX9_tree 6 = .ok (.if_icmp .le 14, 3) := by decide +kernel
theorem dX9_tree_9 : decode cX9_tree 9 = .ok (.new 157, 3) := by decide +kernel
theorem dX9_tree_12 : decode cX9_tree 12 = .ok (.dup, 1) := by decide +kernel
theorem dX9_tree_13 : decode cX9_tree 13 = .ok (.ldc_w 267, 3) := by decide +kernel
theorem dX9_tree_16 : decode cX9_tree 16 = .ok (.invokespecial 161, 3) := by decide +kernel
theorem dX9_tree_19 : decode cX9_tree 19 = .ok (.athrow, 1) := by decide +kernel
theorem dX9_tree_20 : decode cX9_tree 20 = .ok (.aload_n 0, 1) := by decide +kernel
theorem dX9_tree_21 : decode cX9_tree 21 = .ok (.getfield 61, 3) := by decide +kernel
theorem dX9_tree_24 : decode cX9_tree 24 = .ok (.aload_n 0, 1) := by decide +kernel
theorem dX9_tree_25 : decode cX9_tree 25 = .ok (.invokevirtual 140, 3) := by decide +kernel
theorem dX9_tree_28 : decode cX9_tree 28 = .ok (.invokevirtual 209, 3) := by decide +kernel
theorem dX9_tree_31 : decode cX9_tree 31 = .ok (.pop, 1) := by decide +kernel
theorem dX9_tree_32 : decode cX9_tree 32 = .ok (.iload_n 1, 1) := by decide +kernel
theorem dX9_tree_33 : decode cX9_tree 33 = .ok (.tableswitch 83 0 4 #[35, 43, 59, 67, 75], 35) := by decide +kernel
theorem dX9_tree_68 : decode cX9_tree 68 = .ok (.aload_n 0, 1) := by decide +kernel
theorem dX9_tree_69 : decode cX9_tree 69 = .ok (.getfield 61, 3) := by decide +kernel
theorem dX9_tree_72 : decode cX9_tree 72 = .ok (.getfield 269, 3) := by decide +kernel
theorem dX9_tree_75 : decode cX9_tree 75 = .ok (.ireturn, 1) := by decide +kernel
theorem dX9_tree_76 : decode cX9_tree 76 = .ok (.aload_n 0, 1) := by decide +kernel
theorem dX9_tree_77 : decode cX9_tree 77 = .ok (.getfield 61, 3) := by decide +kernel
theorem dX9_tree_80 : decode cX9_tree 80 = .ok (.getfield 271, 3) := by decide +kernel
theorem dX9_tree_83 : decode cX9_tree 83 = .ok (.ifCond .eq 7, 3) := by decide +kernel
theorem dX9_tree_86 : decode cX9_tree 86 = .ok (.iconst 0, 1) := by decide +kernel
theorem dX9_tree_87 : decode cX9_tree 87 = .ok (.goto 4, 3) := by decide +kernel
theorem dX9_tree_90 : decode cX9_tree 90 = .ok (.iconst 1, 1) := by decide +kernel
theorem dX9_tree_91 : decode cX9_tree 91 = .ok (.ireturn, 1) := by decide +kernel
theorem dX9_tree_92 : decode cX9_tree 92 = .ok (.aload_n 0, 1) := by decide +kernel
theorem dX9_tree_93 : decode cX9_tree 93 = .ok (.getfield 61, 3) := by decide +kernel
theorem dX9_tree_96 : decode cX9_tree 96 = .ok (.getfield 274, 3) := by decide +kernel
theorem dX9_tree_99 : decode cX9_tree 99 = .ok (.ireturn, 1) := by decide +kernel
theorem dX9_tree_100 : decode cX9_tree 100 = .ok (.aload_n 0, 1) := by decide +kernel
theorem dX9_tree_101 : decode cX9_tree 101 = .ok (.getfield 61, 3) := by decide +kernel
theorem dX9_tree_104 : decode cX9_tree 104 = .ok (.getfield 277, 3) := by decide +kernel
theorem dX9_tree_107 : decode cX9_tree 107 = .ok (.ireturn, 1) := by decide +kernel
theorem dX9_tree_108 : decode cX9_tree 108 = .ok (.aload_n 0, 1) := by decide +kernel
theorem dX9_tree_109 : decode cX9_tree 109 = .ok (.getfield 61, 3) := by decide +kernel
theorem dX9_tree_112 : decode cX9_tree 112 = .ok (.getfield 280, 3) := by decide +kernel
theorem dX9_tree_115 : decode cX9_tree 115 = .ok (.ireturn, 1) := by decide +kernel
theorem dX9_tree_116 : decode cX9_tree 116 = .ok (.aload_n 0, 1) := by decide +kernel
theorem dX9_tree_117 : decode cX9_tree 117 = .ok (.getfield 61, 3) := by decide +kernel
theorem dX9_tree_120 : decode cX9_tree 120 = .ok (.getfield 283, 3) := by decide +kernel
theorem dX9_tree_123 : decode cX9_tree 123 = .ok (.ireturn, 1) := by decide +kernel
theorem dX9_best_0 : decode cX9_best 0 = .ok (.aload_n 0, 1) := by decide +kernel
theorem dX9_best_1 : decode cX9_best 1 = .ok (.iload_n 2, 1) := by decide +kernel
theorem dX9_best_2 : decode cX9_best 2 = .ok (.invokevirtual 162, 3) := by decide +kernel
theorem dX9_best_5 : decode cX9_best 5 = .ok (.aload_n 0, 1) := by decide +kernel
theorem dX9_best_6 : decode cX9_best 6 = .ok (.getfield 61, 3) := by decide +kernel
theorem dX9_best_9 : decode cX9_best 9 = .ok (.aload_n 0, 1) := by decide +kernel
theorem dX9_best_10 : decode cX9_best 10 = .ok (.invokevirtual 140, 3) := by decide +kernel
theorem dX9_best_13 : decode cX9_best 13 = .ok (.invokevirtual 209, 3) := by decide +kernel
theorem dX9_best_16 : decode cX9_best 16 = .ok (.istore_n 3, 1) := by decide +kernel
theorem dX9_best_17 : decode cX9_best 17 = .ok (.iload_n 1, 1) := by decide +kernel
theorem dX9_best_18 : decode cX9_best 18 = .ok (.ifCond .lt 14, 3) := by decide +kernel
theorem dX9_best_21 : decode cX9_best 21 = .ok (.iload_n 1, 1) := by decide +kernel
theorem dX9_best_22 : decode cX9_best 22 = .ok (.iload_n 3, 1) := by decide +kernel
theorem dX9_best_23 : decode cX9_best 23 = .ok (.if_icmp .ge 9, 3) := by decide +kernel
theorem dX9_best_26 : decode cX9_best 26 = .ok (.iload_n 1, 1) := by decide +kernel
theorem dX9_best_27 : decode cX9_best 27 = .ok (.bipush 24, 2) := by decide +kernel
theorem dX9_best_29 : decode cX9_best 29 = .ok (.if_icmp .lt 14, 3) := by decide +kernel
theorem dX9_best_32 : decode cX9_best 32 = .ok (.new 157, 3) := by decide +kernel
theorem dX9_best_35 : decode cX9_best 35 = .ok (.dup, 1) := by decide +kernel
theorem dX9_best_36 : decode cX9_best 36 = .ok (.ldc_w 286, 3) := by decide +kernel
theorem dX9_best_39 : decode cX9_best 39 = .ok (.invokespecial 161, 3) := by decide +kernel
theorem dX9_best_42 : decode cX9_best 42 = .ok (.athrow, 1) := by decide +kernel
theorem dX9_best_43 : decode cX9_best 43 = .ok (.aload_n 0, 1) := by decide +kernel
theorem dX9_best_44 : decode cX9_best 44 = .ok (.getfield 61, 3) := by decide +kernel
theorem dX9_best_47 : decode cX9_best 47 = .ok (.getfield 288, 3) := by decide +kernel
theorem dX9_best_50 : decode cX9_best 50 = .ok (.iload_n 1, 1) := by decide +kernel
theorem dX9_best_51 : decode cX9_best 51 = .ok (.bipush 6, 2) := by decide +kernel
theorem dX9_best_53 : decode cX9_best 53 = .ok (.imul, 1) := by decide +kernel
theorem dX9_best_54 : decode cX9_best 54 = .ok (.iload_n 2, 1) := by decide +kernel
theorem dX9_best_55 : decode cX9_best 55 = .ok (.iadd, 1) := by decide +kernel
theorem dX9_best_56 : decode cX9_best 56 = .ok (.iaload, 1) := by decide +kernel
theorem dX9_best_57 : decode cX9_best 57 = .ok (.ireturn, 1) := by decide +kernel
theorem dX9_net_0 : decode cX9_net 0 = .ok (.iload_n 1, 1) := by decide +kernel
theorem dX9_net_1 : decode cX9_net 1 = .ok (.ifCond .lt 8, 3) := by decide +kernel
theorem dX9_net_4 : decode cX9_net 4 = .ok (.iload_n 1, 1) := by decide +kernel
theorem dX9_net_5 : decode cX9_net 5 = .ok (.iconst 5, 1) := by decide +kernel
theorem dX9_net_6 : decode cX9_net 6 = .ok (.if_icmp .le 14, 3) := by decide +kernel
theorem dX9_net_9 : decode cX9_net 9 = .ok (.new 157, 3) := by decide +kernel
theorem dX9_net_12 : decode cX9_net 12 = .ok (.dup, 1) := by decide +kernel
theorem dX9_net_13 : decode cX9_net 13 = .ok (.ldc_w 291, 3) := by decide +kernel
theorem dX9_net_16 : decode cX9_net 16 = .ok (.invokespecial 161, 3) := by decide +kernel
theorem dX9_net_19 : decode cX9_net 19 = .ok (.athrow, 1) := by decide +kernel
theorem dX9_net_20 : decode cX9_net 20 = .ok (.aload_n 0, 1) := by decide +kernel
theorem dX9_net_21 : decode cX9_net 21 = .ok (.invokevirtual 140, 3) := by decide +kernel
theorem dX9_net_24 : decode cX9_net 24 = .ok (.astore_n 2, 1) := by decide +kernel
theorem dX9_net_25 : decode cX9_net 25 = .ok (.aload_n 0, 1) := by decide +kernel
theorem dX9_net_26 : decode cX9_net 26 = .ok (.getfield 68, 3) := by decide +kernel
theorem dX9_net_29 : decode cX9_net 29 = .ok (.aload_n 2, 1) := by decide +kernel
theorem dX9_net_30 : decode cX9_net 30 = .ok (.invokevirtual 243, 3) := by decide +kernel
theorem dX9_net_33 : decode cX9_net 33 = .ok (.istore_n 3, 1) := by decide +kernel
theorem dX9_net_34 : decode cX9_net 34 = .ok (.iload_n 1, 1) := by decide +kernel
theorem dX9_net_35 : decode cX9_net 35 = .ok (.tableswitch 73 0 4 #[33, 43, 73, 53, 63], 33) := by decide +kernel
theorem dX9_net_68 : decode cX9_net 68 = .ok (.aload_n 0, 1) := by decide +kernel
theorem dX9_net_69 : decode cX9_net 69 = .ok (.getfield 68, 3) := by decide +kernel
theorem dX9_net_72 : decode cX9_net 72 = .ok (.aload_n 2, 1) := by decide +kernel
theorem dX9_net_73 : decode cX9_net 73 = .ok (.iconst 0, 1) := by decide +kernel
theorem dX9_net_74 : decode cX9_net 74 = .ok (.invokevirtual 293, 3) := by decide +kernel
theorem dX9_net_77 : decode cX9_net 77 = .ok (.ireturn, 1) := by decide +kernel
theorem dX9_net_78 : decode cX9_net 78 = .ok (.aload_n 0, 1) := by decide +kernel
theorem dX9_net_79 : decode cX9_net 79 = .ok (.getfield 68, 3) := by decide +kernel
theorem dX9_net_82 : decode cX9_net 82 = .ok (.aload_n 2, 1) := by decide +kernel
theorem dX9_net_83 : decode cX9_net 83 = .ok (.iconst 0, 1) := by decide +kernel
theorem dX9_net_84 : decode cX9_net 84 = .ok (.invokevirtual 297, 3) := by decide +kernel
theorem dX9_net_87 : decode cX9_net 87 = .ok (.ireturn, 1) := by decide +kernel
theorem dX9_net_88 : decode cX9_net 88 = .ok (.aload_n 0, 1) := by decide +kernel
theorem dX9_net_89 : decode cX9_net 89 = .ok (.getfield 68, 3) := by decide +kernel
theorem dX9_net_92 : decode cX9_net 92 = .ok (.aload_n 2, 1) := by decide +kernel
theorem dX9_net_93 : decode cX9_net 93 = .ok (.iconst 1, 1) := by decide +kernel
theorem dX9_net_94 : decode cX9_net 94 = .ok (.invokevirtual 293, 3) := by decide +kernel
theorem dX9_net_97 : decode cX9_net 97 = .ok (.ireturn, 1) := by decide +kernel
theorem dX9_net_98 : decode cX9_net 98 = .ok (.aload_n 0, 1) := by decide +kernel
theorem dX9_net_99 : decode cX9_net 99 = .ok (.getfield 68, 3) := by decide +kernel
theorem dX9_net_102 : decode cX9_net 102 = .ok (.aload_n 2, 1) := by decide +kernel
theorem dX9_net_103 : decode cX9_net 103 = .ok (.iconst 1, 1) := by decide +kernel
theorem dX9_net_104 : decode cX9_net 104 = .ok (.invokevirtual 297, 3) := by decide +kernel
theorem dX9_net_107 : decode cX9_net 107 = .ok (.ireturn, 1) := by decide +kernel
theorem dX9_net_108 : decode cX9_net 108 = .ok (.iload_n 3, 1) := by decide +kernel
theorem dX9_net_109 : decode cX9_net 109 = .ok (.ireturn, 1) := by decide +kernel
theorem dX9_high_0 : decode cX9_high 0 = .ok (.aload_n 0, 1) := by decide +kernel
theorem dX9_high_1 : decode cX9_high 1 = .ok (.invokevirtual 140, 3) := by decide +kernel
theorem dX9_high_4 : decode cX9_high 4 = .ok (.astore_n 3, 1) := by decide +kernel
theorem dX9_high_5 : decode cX9_high 5 = .ok (.aload_n 0, 1) := by decide +kernel
theorem dX9_high_6 : decode cX9_high 6 = .ok (.getfield 68, 3) := by decide +kernel
theorem dX9_high_9 : decode cX9_high 9 = .ok (.aload_n 3, 1) := by decide +kernel
theorem dX9_high_10 : decode cX9_high 10 = .ok (.invokevirtual 243, 3) := by decide +kernel
theorem dX9_high_13 : decode cX9_high 13 = .ok (.pop, 1) := by decide +kernel
theorem dX9_high_14 : decode cX9_high 14 = .ok (.aload_n 0, 1) := by decide +kernel
theorem dX9_high_15 : decode cX9_high 15 = .ok (.getfield 68, 3) := by decide +kernel
theorem dX9_high_18 : decode cX9_high 18 = .ok (.iload_n 1, 1) := by decide +kernel
theorem dX9_high_19 : decode cX9_high 19 = .ok (.iload_n 2, 1) := by decide +kernel
theorem dX9_high_20 : decode cX9_high 20 = .ok (.aload_n 3, 1) := by decide +kernel
theorem dX9_high_21 : decode cX9_high 21 = .ok (.getfield 124, 3) := by decide +kernel
theorem dX9_high_24 : decode cX9_high 24 = .ok (.invokevirtual 300, 3) := by decide +kernel
theorem dX9_high_27 : decode cX9_high 27 = .ok (.ifCond .ne 14, 3) := by decide +kernel
theorem dX9_high_30 : decode cX9_high 30 = .ok (.new 157, 3) := by decide +kernel
theorem dX9_high_33 : decode cX9_high 33 = .ok (.dup, 1) := by decide +kernel
theorem dX9_high_34 : decode cX9_high 34 = .ok (.ldc_w 304, 3) := by decide +kernel
theorem dX9_high_37 : decode cX9_high 37 = .ok (.invokespecial 161, 3) := by decide +kernel
theorem dX9_high_40 : decode cX9_high 40 = .ok (.athrow, 1) := by decide +kernel
theorem dX9_high_41 : decode cX9_high 41 = .ok (.aload_n 0, 1) := by decide +kernel
theorem dX9_high_42 : decode cX9_high 42 = .ok (.getfield 68, 3) := by decide +kernel
theorem dX9_high_45 : decode cX9_high 45 = .ok (.iload_n 1, 1) := by decide +kernel
theorem dX9_high_46 : decode cX9_high 46 = .ok (.iload_n 2, 1) := by decide +kernel
theorem dX9_high_47 : decode cX9_high 47 = .ok (.aload_n 3, 1) := by decide +kernel
theorem dX9_high_48 : decode cX9_high 48 = .ok (.getfield 124, 3) := by decide +kernel
theorem dX9_high_51 : decode cX9_high 51 = .ok (.invokevirtual 306, 3) := by decide +kernel
theorem dX9_high_54 : decode cX9_high 54 = .ok (.ireturn, 1) := by decide +kernel
theorem dX9_pack_0 : decode cX9_pack 0 = .ok (.aload_n 0, 1) := by decide +kernel
theorem dX9_pack_1 : decode cX9_pack 1 = .ok (.iload_n 1, 1) := by decide +kernel
theorem dX9_pack_2 : decode cX9_pack 2 = .ok (.invokevirtual 310, 3) := by decide +kernel
theorem dX9_pack_5 : decode cX9_pack 5 = .ok (.ifCond .eq 24, 3) := by decide +kernel
theorem dX9_pack_8 : decode cX9_pack 8 = .ok (.iload_n 2, 1) := by decide +kernel
theorem dX9_pack_9 : decode cX9_pack 9 = .ok (.ifCond .lt 20, 3) := by decide +kernel
theorem dX9_pack_12 : decode cX9_pack 12 = .ok (.iload_n 2, 1) := by decide +kernel
theorem dX9_pack_13 : decode cX9_pack 13 = .ok (.iconst 4, 1) := by decide +kernel
theorem dX9_pack_14 : decode cX9_pack 14 = .ok (.if_icmp .ge 15, 3) := by decide +kernel
theorem dX9_pack_17 : decode cX9_pack 17 = .ok (.aload_n 0, 1) := by decide +kernel
theorem dX9_pack_18 : decode cX9_pack 18 = .ok (.getfield 44, 3) := by decide +kernel
theorem dX9_pack_21 : decode cX9_pack 21 = .ok (.iload_n 1, 1) := by decide +kernel
theorem dX9_pack_22 : decode cX9_pack 22 = .ok (.invokevirtual 168, 3) := by decide +kernel
theorem dX9_pack_25 : decode cX9_pack 25 = .ok (.iconst 1, 1) := by decide +kernel
theorem dX9_pack_26 : decode cX9_pack 26 = .ok (.if_icmp .ge 8, 3) := by decide +kernel
theorem dX9_pack_29 : decode cX9_pack 29 = .ok (.aload_n 0, 1) := by decide +kernel
theorem dX9_pack_30 : decode cX9_pack 30 = .ok (.invokevirtual 314, 3) := by decide +kernel
theorem dX9_pack_33 : decode cX9_pack 33 = .ok (.ireturn, 1) := by decide +kernel
theorem dX9_pack_34 : decode cX9_pack 34 = .ok (.aload_n 0, 1) := by decide +kernel
theorem dX9_pack_35 : decode cX9_pack 35 = .ok (.invokevirtual 317, 3) := by decide +kernel
theorem dX9_pack_38 : decode cX9_pack 38 = .ok (.istore_n 3, 1) := by decide +kernel
theorem dX9_pack_39 : decode cX9_pack 39 = .ok (.aload_n 0, 1) := by decide +kernel
theorem dX9_pack_40 : decode cX9_pack 40 = .ok (.getfield 83, 3) := by decide +kernel
theorem dX9_pack_43 : decode cX9_pack 43 = .ok (.iload_n 3, 1) := by decide +kernel
theorem dX9_pack_44 : decode cX9_pack 44 = .ok (.aload_n 0, 1) := by decide +kernel
theorem dX9_pack_45 : decode cX9_pack 45 = .ok (.getfield 34, 3) := by decide +kernel
theorem dX9_pack_48 : decode cX9_pack 48 = .ok (.getfield 124, 3) := by decide +kernel
theorem dX9_pack_51 : decode cX9_pack 51 = .ok (.aload_n 0, 1) := by decide +kernel
theorem dX9_pack_52 : decode cX9_pack 52 = .ok (.getfield 34, 3) := by decide +kernel
theorem dX9_pack_55 : decode cX9_pack 55 = .ok (.getfield 165, 3) := by decide +kernel
theorem dX9_pack_58 : decode cX9_pack 58 = .ok (.iload_n 1, 1) := by decide +kernel
theorem dX9_pack_59 : decode cX9_pack 59 = .ok (.iaload, 1) := by decide +kernel
theorem dX9_pack_60 : decode cX9_pack 60 = .ok (.isub, 1) := by decide +kernel
theorem dX9_pack_61 : decode cX9_pack 61 = .ok (.iload_n 2, 1) := by decide +kernel
theorem dX9_pack_62 : decode cX9_pack 62 = .ok (.invokestatic 320, 3) := by decide +kernel
theorem dX9_pack_65 : decode cX9_pack 65 = .ok (.istore 4, 2) := by decide +kernel
theorem dX9_pack_67 : decode cX9_pack 67 = .ok (.iload 4, 2) := by decide +kernel
theorem dX9_pack_69 : decode cX9_pack 69 = .ok (.iconst (-1), 1) := by decide +kernel
theorem dX9_pack_70 : decode cX9_pack 70 = .ok (.if_icmp .ne 14, 3) := by decide +kernel
theorem dX9_pack_73 : decode cX9_pack 73 = .ok (.iload_n 3, 1) := by decide +kernel
theorem dX9_pack_74 : decode cX9_pack 74 = .ok (.bipush 12, 2) := by decide +kernel
theorem dX9_pack_76 : decode cX9_pack 76 = .ok (.if_icmp .lt 8, 3) := by decide +kernel
theorem dX9_pack_79 : decode cX9_pack 79 = .ok (.aload_n 0, 1) := by decide +kernel
theorem dX9_pack_80 : decode cX9_pack 80 = .ok (.invokevirtual 314, 3) := by decide +kernel
theorem dX9_pack_83 : decode cX9_pack 83 = .ok (.ireturn, 1) := by decide +kernel
theorem dX9_pack_84 : decode cX9_pack 84 = .ok (.aload_n 0, 1) := by decide +kernel
theorem dX9_pack_85 : decode cX9_pack 85 = .ok (.getfield 44, 3) := by decide +kernel
theorem dX9_pack_88 : decode cX9_pack 88 = .ok (.invokevirtual 324, 3) := by decide +kernel
theorem dX9_pack_91 : decode cX9_pack 91 = .ok (.iload 4, 2) := by decide +kernel
theorem dX9_pack_93 : decode cX9_pack 93 = .ok (.iconst (-1), 1) := by decide +kernel
theorem dX9_pack_94 : decode cX9_pack 94 = .ok (.if_icmp .ne 14, 3) := by decide +kernel
theorem dX9_pack_97 : decode cX9_pack 97 = .ok (.iload_n 3, 1) := by decide +kernel
theorem dX9_pack_98 : decode cX9_pack 98 = .ok (.istore 4, 2) := by decide +kernel
theorem dX9_pack_100 : decode cX9_pack 100 = .ok (.aload_n 0, 1) := by decide +kernel
