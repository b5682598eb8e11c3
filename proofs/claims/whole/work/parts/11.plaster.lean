/-! printed by gen1.py -/
theorem dX8_isKind_0 : decode cX8_isKind 0 = .ok (.iload_n 0, 1) := by decide +kernel
theorem dX8_isKind_1 : decode cX8_isKind 1 = .ok (.ifCond .lt 13, 3) := by decide +kernel
theorem dX8_isKind_4 : decode cX8_isKind 4 = .ok (.iload_n 0, 1) := by decide +kernel
theorem dX8_isKind_5 : decode cX8_isKind 5 = .ok (.bipush 6, 2) := by decide +kernel
theorem dX8_isKind_7 : decode cX8_isKind 7 = .ok (.if_icmp .ge 7, 3) := by decide +kernel
theorem dX8_isKind_10 : decode cX8_isKind 10 = .ok (.iconst 1, 1) := by decide +kernel
theorem dX8_isKind_11 : decode cX8_isKind 11 = .ok (.goto 4, 3) := by decide +kernel
theorem dX8_isKind_14 : decode cX8_isKind 14 = .ok (.iconst 0, 1) := by decide +kernel
theorem dX8_isKind_15 : decode cX8_isKind 15 = .ok (.ireturn, 1) := by decide +kernel
theorem dX8_sheetAt_0 : decode cX8_sheetAt 0 = .ok (.iload_n 1, 1) := by decide +kernel
theorem dX8_sheetAt_1 : decode cX8_sheetAt 1 = .ok (.ifCond .lt 17, 3) := by decide +kernel
theorem dX8_sheetAt_4 : decode cX8_sheetAt 4 = .ok (.iload_n 1, 1) := by decide +kernel
theorem dX8_sheetAt_5 : decode cX8_sheetAt 5 = .ok (.iconst 4, 1) := by decide +kernel
theorem dX8_sheetAt_6 : decode cX8_sheetAt 6 = .ok (.if_icmp .ge 12, 3) := by decide +kernel
theorem dX8_sheetAt_9 : decode cX8_sheetAt 9 = .ok (.aload_n 0, 1) := by decide +kernel
theorem dX8_sheetAt_10 : decode cX8_sheetAt 10 = .ok (.getfield 67, 3) := by decide +kernel
theorem dX8_sheetAt_13 : decode cX8_sheetAt 13 = .ok (.iload_n 1, 1) := by decide +kernel
theorem dX8_sheetAt_14 : decode cX8_sheetAt 14 = .ok (.aaload, 1) := by decide +kernel
theorem dX8_sheetAt_15 : decode cX8_sheetAt 15 = .ok (.goto 4, 3) := by decide +kernel
theorem dX8_sheetAt_18 : decode cX8_sheetAt 18 = .ok (.aconst_null, 1) := by decide +kernel
theorem dX8_sheetAt_19 : decode cX8_sheetAt 19 = .ok (.areturn, 1) := by decide +kernel
theorem dX8_warmOf_0 : decode cX8_warmOf 0 = .ok (.iload_n 0, 1) := by decide +kernel
theorem dX8_warmOf_1 : decode cX8_warmOf 1 = .ok (.ldc_w 292, 3) := by decide +kernel
theorem dX8_warmOf_4 : decode cX8_warmOf 4 = .ok (.imul, 1) := by decide +kernel
theorem dX8_warmOf_5 : decode cX8_warmOf 5 = .ok (.sipush 12345, 3) := by decide +kernel
theorem dX8_warmOf_8 : decode cX8_warmOf 8 = .ok (.iadd, 1) := by decide +kernel
theorem dX8_warmOf_9 : decode cX8_warmOf 9 = .ok (.istore_n 1, 1) := by decide +kernel
theorem dX8_warmOf_10 : decode cX8_warmOf 10 = .ok (.iload_n 1, 1) := by decide +kernel
theorem dX8_warmOf_11 : decode cX8_warmOf 11 = .ok (.bipush 9, 2) := by decide +kernel
theorem dX8_warmOf_13 : decode cX8_warmOf 13 = .ok (.iushr, 1) := by decide +kernel
theorem dX8_warmOf_14 : decode cX8_warmOf 14 = .ok (.getstatic 96, 3) := by decide +kernel
theorem dX8_warmOf_17 : decode cX8_warmOf 17 = .ok (.iconst 0, 1) := by decide +kernel
theorem dX8_warmOf_18 : decode cX8_warmOf 18 = .ok (.iaload, 1) := by decide +kernel
theorem dX8_warmOf_19 : decode cX8_warmOf 19 = .ok (.iconst 1, 1) := by decide +kernel
theorem dX8_warmOf_20 : decode cX8_warmOf 20 = .ok (.iadd, 1) := by decide +kernel
theorem dX8_warmOf_21 : decode cX8_warmOf 21 = .ok (.irem, 1) := by decide +kernel
theorem dX8_warmOf_22 : decode cX8_warmOf 22 = .ok (.ireturn, 1) := by decide +kernel
theorem dX8_commonDivisor_0 : decode cX8_commonDivisor 0 = .ok (.iload_n 0, 1) := by decide +kernel
theorem dX8_commonDivisor_1 : decode cX8_commonDivisor 1 = .ok (.istore_n 2, 1) := by decide +kernel
theorem dX8_commonDivisor_2 : decode cX8_commonDivisor 2 = .ok (.iload_n 2, 1) := by decide +kernel
theorem dX8_commonDivisor_3 : decode cX8_commonDivisor 3 = .ok (.iconst 1, 1) := by decide +kernel
theorem dX8_commonDivisor_4 : decode cX8_commonDivisor 4 = .ok (.if_icmp .le 23, 3) := by decide +kernel
theorem dX8_commonDivisor_7 : decode cX8_commonDivisor 7 = .ok (.iload_n 0, 1) := by decide +kernel
theorem dX8_commonDivisor_8 : decode cX8_commonDivisor 8 = .ok (.iload_n 2, 1) := by decide +kernel
theorem dX8_commonDivisor_9 : decode cX8_commonDivisor 9 = .ok (.irem, 1) := by decide +kernel
theorem dX8_commonDivisor_10 : decode cX8_commonDivisor 10 = .ok (.ifCond .ne 11, 3) := by decide +kernel
theorem dX8_commonDivisor_13 : decode cX8_commonDivisor 13 = .ok (.iload_n 1, 1) := by decide +kernel
theorem dX8_commonDivisor_14 : decode cX8_commonDivisor 14 = .ok (.iload_n 2, 1) := by decide +kernel
theorem dX8_commonDivisor_15 : decode cX8_commonDivisor 15 = .ok (.irem, 1) := by decide +kernel
theorem dX8_commonDivisor_16 : decode cX8_commonDivisor 16 = .ok (.ifCond .ne 5, 3) := by decide +kernel
theorem dX8_commonDivisor_19 : decode cX8_commonDivisor 19 = .ok (.iload_n 2, 1) := by decide +kernel
theorem dX8_commonDivisor_20 : decode cX8_commonDivisor 20 = .ok (.ireturn, 1) := by decide +kernel
theorem dX8_commonDivisor_21 : decode cX8_commonDivisor 21 = .ok (.iinc 2 (-1), 3) := by decide +kernel
theorem dX8_commonDivisor_24 : decode cX8_commonDivisor 24 = .ok (.goto (-22), 3) := by decide +kernel
theorem dX8_commonDivisor_27 : decode cX8_commonDivisor 27 = .ok (.iconst 1, 1) := by decide +kernel
theorem dX8_commonDivisor_28 : decode cX8_commonDivisor 28 = .ok (.ireturn, 1) := by decide +kernel
theorem dX8_startTrial_0 : decode cX8_startTrial 0 = .ok (.aload_n 0, 1) := by decide +kernel
theorem dX8_startTrial_1 : decode cX8_startTrial 1 = .ok (.getfield 54, 3) := by decide +kernel
theorem dX8_startTrial_4 : decode cX8_startTrial 4 = .ok (.getfield 224, 3) := by decide +kernel
theorem dX8_startTrial_7 : decode cX8_startTrial 7 = .ok (.aload_n 0, 1) := by decide +kernel
theorem dX8_startTrial_8 : decode cX8_startTrial 8 = .ok (.getfield 10, 3) := by decide +kernel
theorem dX8_startTrial_11 : decode cX8_startTrial 11 = .ok (.invokevirtual 225, 3) := by decide +kernel
theorem dX8_startTrial_14 : decode cX8_startTrial 14 = .ok (.iconst 0, 1) := by decide +kernel
theorem dX8_startTrial_15 : decode cX8_startTrial 15 = .ok (.istore_n 1, 1) := by decide +kernel
theorem dX8_startTrial_16 : decode cX8_startTrial 16 = .ok (.iload_n 1, 1) := by decide +kernel
theorem dX8_startTrial_17 : decode cX8_startTrial 17 = .ok (.bipush 6, 2) := by decide +kernel
theorem dX8_startTrial_19 : decode cX8_startTrial 19 = .ok (.if_icmp .ge 18, 3) := by decide +kernel
theorem dX8_startTrial_22 : decode cX8_startTrial 22 = .ok (.aload_n 0, 1) := by decide +kernel
theorem dX8_startTrial_23 : decode cX8_startTrial 23 = .ok (.getfield 54, 3) := by decide +kernel
theorem dX8_startTrial_26 : decode cX8_startTrial 26 = .ok (.iload_n 1, 1) := by decide +kernel
theorem dX8_startTrial_27 : decode cX8_startTrial 27 = .ok (.iload_n 1, 1) := by decide +kernel
theorem dX8_startTrial_28 : decode cX8_startTrial 28 = .ok (.invokevirtual 190, 3) := by decide +kernel
theorem dX8_startTrial_31 : decode cX8_startTrial 31 = .ok (.iinc 1 1, 3) := by decide +kernel
theorem dX8_startTrial_34 : decode cX8_startTrial 34 = .ok (.goto (-18), 3) := by decide +kernel
theorem dX8_startTrial_37 : decode cX8_startTrial 37 = .ok (.return_, 1) := by decide +kernel
theorem dX8_liveWith_0 : decode cX8_liveWith 0 = .ok (.aload_n 0, 1) := by decide +kernel
theorem dX8_liveWith_1 : decode cX8_liveWith 1 = .ok (.invokevirtual 129, 3) := by decide +kernel
theorem dX8_liveWith_4 : decode cX8_liveWith 4 = .ok (.aload_n 0, 1) := by decide +kernel
theorem dX8_liveWith_5 : decode cX8_liveWith 5 = .ok (.getfield 54, 3) := by decide +kernel
theorem dX8_liveWith_8 : decode cX8_liveWith 8 = .ok (.getfield 224, 3) := by decide +kernel
theorem dX8_liveWith_11 : decode cX8_liveWith 11 = .ok (.iload_n 1, 1) := by decide +kernel
theorem dX8_liveWith_12 : decode cX8_liveWith 12 = .ok (.iload_n 2, 1) := by decide +kernel
theorem dX8_liveWith_13 : decode cX8_liveWith 13 = .ok (.invokevirtual 228, 3) := by decide +kernel
theorem dX8_liveWith_16 : decode cX8_liveWith 16 = .ok (.aload_n 0, 1) := by decide +kernel
theorem dX8_liveWith_17 : decode cX8_liveWith 17 = .ok (.getfield 54, 3) := by decide +kernel
theorem dX8_liveWith_20 : decode cX8_liveWith 20 = .ok (.invokevirtual 132, 3) := by decide +kernel
theorem dX8_liveWith_23 : decode cX8_liveWith 23 = .ok (.aload_n 0, 1) := by decide +kernel
theorem dX8_liveWith_24 : decode cX8_liveWith 24 = .ok (.getfield 54, 3) := by decide +kernel
theorem dX8_liveWith_27 : decode cX8_liveWith 27 = .ok (.invokevirtual 165, 3) := by decide +kernel
theorem dX8_liveWith_30 : decode cX8_liveWith 30 = .ok (.return_, 1) := by decide +kernel
theorem dX8_reckoned_0 : decode cX8_reckoned 0 = .ok (.aload_n 0, 1) := by decide +kernel
theorem dX8_reckoned_1 : decode cX8_reckoned 1 = .ok (.invokevirtual 129, 3) := by decide +kernel
theorem dX8_reckoned_4 : decode cX8_reckoned 4 = .ok (.aload_n 0, 1) := by decide +kernel
theorem dX8_reckoned_5 : decode cX8_reckoned 5 = .ok (.getfield 54, 3) := by decide +kernel
theorem dX8_reckoned_8 : decode cX8_reckoned 8 = .ok (.invokevirtual 132, 3) := by decide +kernel
theorem dX8_reckoned_11 : decode cX8_reckoned 11 = .ok (.iload_n 2, 1) := by decide +kernel
theorem dX8_reckoned_12 : decode cX8_reckoned 12 = .ok (.tableswitch 58 4 6 #[28, 38, 48], 28) := by decide +kernel
theorem dX8_reckoned_40 : decode cX8_reckoned 40 = .ok (.aload_n 0, 1) := by decide +kernel
theorem dX8_reckoned_41 : decode cX8_reckoned 41 = .ok (.getfield 54, 3) := by decide +kernel
theorem dX8_reckoned_44 : decode cX8_reckoned 44 = .ok (.getfield 135, 3) := by decide +kernel
theorem dX8_reckoned_47 : decode cX8_reckoned 47 = .ok (.iload_n 1, 1) := by decide +kernel
theorem dX8_reckoned_48 : decode cX8_reckoned 48 = .ok (.iaload, 1) := by decide +kernel
theorem dX8_reckoned_49 : decode cX8_reckoned 49 = .ok (.ireturn, 1) := by decide +kernel
theorem dX8_reckoned_50 : decode cX8_reckoned 50 = .ok (.aload_n 0, 1) := by decide +kernel
theorem dX8_reckoned_51 : decode cX8_reckoned 51 = .ok (.getfield 54, 3) := by decide +kernel
theorem dX8_reckoned_54 : decode cX8_reckoned 54 = .ok (.getfield 138, 3) := by decide +kernel
theorem dX8_reckoned_57 : decode cX8_reckoned 57 = .ok (.iload_n 1, 1) := by decide +kernel
theorem dX8_reckoned_58 : decode cX8_reckoned 58 = .ok (.iaload, 1) := by decide +kernel
theorem dX8_reckoned_59 : decode cX8_reckoned 59 = .ok (.ireturn, 1) := by decide +kernel
theorem dX8_reckoned_60 : decode cX8_reckoned 60 = .ok (.aload_n 0, 1) := by decide +kernel
theorem dX8_reckoned_61 : decode cX8_reckoned 61 = .ok (.getfield 54, 3) := by decide +kernel
theorem dX8_reckoned_64 : decode cX8_reckoned 64 = .ok (.getfield 141, 3) := by decide +kernel
theorem dX8_reckoned_67 : decode cX8_reckoned 67 = .ok (.iload_n 1, 1) := by decide +kernel
theorem dX8_reckoned_68 : decode cX8_reckoned 68 = .ok (.iaload, 1) := by decide +kernel
theorem dX8_reckoned_69 : decode cX8_reckoned 69 = .ok (.ireturn, 1) := by decide +kernel
theorem dX8_reckoned_70 : decode cX8_reckoned 70 = .ok (.bipush (-2), 2) := by decide +kernel
theorem dX8_reckoned_72 : decode cX8_reckoned 72 = .ok (.ireturn, 1) := by decide +kernel
theorem dX8_learn_0 : decode cX8_learn 0 = .ok (.aload_n 0, 1) := by decide +kernel
theorem dX8_learn_1 : decode cX8_learn 1 = .ok (.getfield 35, 3) := by decide +kernel
theorem dX8_learn_4 : decode cX8_learn 4 = .ok (.invokevirtual 144, 3) := by decide +kernel
theorem dX8_learn_7 : decode cX8_learn 7 = .ok (.istore_n 1, 1) := by decide +kernel
theorem dX8_learn_8 : decode cX8_learn 8 = .ok (.aload_n 0, 1) := by decide +kernel
theorem dX8_learn_9 : decode cX8_learn 9 = .ok (.getfield 26, 3) := by decide +kernel
theorem dX8_learn_12 : decode cX8_learn 12 = .ok (.invokevirtual 147, 3) := by decide +kernel
theorem dX8_learn_15 : decode cX8_learn 15 = .ok (.iload_n 1, 1) := by decide +kernel
theorem dX8_learn_16 : decode cX8_learn 16 = .ok (.iconst (-1), 1) := by decide +kernel
theorem dX8_learn_17 : decode cX8_learn 17 = .ok (.if_icmp .eq 8, 3) := by decide +kernel
theorem dX8_learn_20 : decode cX8_learn 20 = .ok (.bipush (-100), 2) := by decide +kernel
theorem dX8_learn_22 : decode cX8_learn 22 = .ok (.iload_n 1, 1) := by decide +kernel
theorem dX8_learn_23 : decode cX8_learn 23 = .ok (.isub, 1) := by decide +kernel
theorem dX8_learn_24 : decode cX8_learn 24 = .ok (.ireturn, 1) := by decide +kernel
theorem dX8_learn_25 : decode cX8_learn 25 = .ok (.aload_n 0, 1) := by decide +kernel
theorem dX8_learn_26 : decode cX8_learn 26 = .ok (.getfield 45, 3) := by decide +kernel
theorem dX8_learn_29 : decode cX8_learn 29 = .ok (.ifCond .lt 24, 3) := by decide +kernel
theorem dX8_learn_32 : decode cX8_learn 32 = .ok (.aload_n 0, 1) := by decide +kernel
theorem dX8_learn_33 : decode cX8_learn 33 = .ok (.getfield 45, 3) := by decide +kernel
theorem dX8_learn_36 : decode cX8_learn 36 = .ok (.bipush 6, 2) := by decide +kernel
theorem dX8_learn_38 : decode cX8_learn 38 = .ok (.if_icmp .ge 15, 3) := by decide +kernel
theorem dX8_learn_41 : decode cX8_learn 41 = .ok (.aload_n 0, 1) := by decide +kernel
theorem dX8_learn_42 : decode cX8_learn 42 = .ok (.getfield 41, 3) := by decide +kernel
theorem dX8_learn_45 : decode cX8_learn 45 = .ok (.aload_n 0, 1) := by decide +kernel
theorem dX8_learn_46 : decode cX8_learn 46 = .ok (.getfield 45, 3) := by decide +kernel
theorem dX8_learn_49 : decode cX8_learn 49 = .ok (.aaload, 1) := by decide +kernel
theorem dX8_learn_50 : decode cX8_learn 50 = .ok (.ifnonnull 6, 3) := by decide +kernel
theorem dX8_learn_53 : decode cX8_learn 53 = .ok (.bipush (-4), 2) := by decide +kernel
theorem dX8_learn_55 : decode cX8_learn 55 = .ok (.ireturn, 1) := by decide +kernel
theorem dX8_learn_56 : decode cX8_learn 56 = .ok (.aload_n 0, 1) := by decide +kernel
theorem dX8_learn_57 : decode cX8_learn 57 = .ok (.getfield 41, 3) := by decide +kernel
theorem dX8_learn_60 : decode cX8_learn 60 = .ok (.aload_n 0, 1) := by decide +kernel
theorem dX8_learn_61 : decode cX8_learn 61 = .ok (.getfield 45, 3) := by decide +kernel
theorem dX8_learn_64 : decode cX8_learn 64 = .ok (.aaload, 1) := by decide +kernel
theorem dX8_learn_65 : decode cX8_learn 65 = .ok (.aload_n 0, 1) := by decide +kernel
theorem dX8_learn_66 : decode cX8_learn 66 = .ok (.getfield 35, 3) := by decide +kernel
theorem dX8_learn_69 : decode cX8_learn 69 = .ok (.getfield 150, 3) := by decide +kernel
theorem dX8_learn_72 : decode cX8_learn 72 = .ok (.invokevirtual 154, 3) := by decide +kernel
theorem dX8_learn_75 : decode cX8_learn 75 = .ok (.aload_n 0, 1) := by decide +kernel
theorem dX8_learn_76 : decode cX8_learn 76 = .ok (.dup, 1) := by decide +kernel
theorem dX8_learn_77 : decode cX8_learn 77 = .ok (.getfield 45, 3) := by decide +kernel
theorem dX8_learn_80 : decode cX8_learn 80 = .ok (.iconst 1, 1) := by decide +kernel
theorem dX8_learn_81 : decode cX8_learn 81 = .ok (.iadd, 1) := by decide +kernel
theorem dX8_learn_82 : decode cX8_learn 82 = .ok (.putfield 45, 3) := by decide +kernel
theorem dX8_learn_85 : decode cX8_learn 85 = .ok (.aload_n 0, 1) := by decide +kernel
theorem dX8_learn_86 : decode cX8_learn 86 = .ok (.getfield 45, 3) := by decide +kernel
theorem dX8_learn_89 : decode cX8_learn 89 = .ok (.iconst 1, 1) := by decide +kernel
theorem dX8_learn_90 : decode cX8_learn 90 = .ok (.isub, 1) := by decide +kernel
theorem dX8_learn_91 : decode cX8_learn 91 = .ok (.ireturn, 1) := by decide +kernel
theorem dX8_startOrder_0 : decode cX8_startOrder 0 = .ok (.aload_n 1, 1) := by decide +kernel
theorem dX8_startOrder_1 : decode cX8_startOrder 1 = .ok (.invokevirtual 179, 3) := by decide +kernel
theorem dX8_startOrder_4 : decode cX8_startOrder 4 = .ok (.ifCond .ne 17, 3) := by decide +kernel
theorem dX8_startOrder_7 : decode cX8_startOrder 7 = .ok (.aload_n 1, 1) := by decide +kernel
theorem dX8_startOrder_8 : decode cX8_startOrder 8 = .ok (.getfield 183, 3) := by decide +kernel
theorem dX8_startOrder_11 : decode cX8_startOrder 11 = .ok (.aload_n 0, 1) := by decide +kernel
theorem dX8_startOrder_12 : decode cX8_startOrder 12 = .ok (.getfield 10, 3) := by decide +kernel
theorem dX8_startOrder_15 : decode cX8_startOrder 15 = .ok (.getfield 186, 3) := by decide +kernel
theorem dX8_startOrder_18 : decode cX8_startOrder 18 = .ok (.if_icmp .eq 5, 3) := by decide +kernel
theorem dX8_startOrder_21 : decode cX8_startOrder 21 = .ok (.iconst 0, 1) := by decide +kernel
theorem dX8_startOrder_22 : decode cX8_startOrder 22 = .ok (.ireturn, 1) := by decide +kernel
theorem dX8_startOrder_23 : decode cX8_startOrder 23 = .ok (.aload_n 0, 1) := by decide +kernel
theorem dX8_startOrder_24 : decode cX8_startOrder 24 = .ok (.invokevirtual 129, 3) := by decide +kernel
theorem dX8_startOrder_27 : decode cX8_startOrder 27 = .ok (.iconst 0, 1) := by decide +kernel
theorem dX8_startOrder_28 : decode cX8_startOrder 28 = .ok (.istore_n 2, 1) := by decide +kernel
theorem dX8_startOrder_29 : decode cX8_startOrder 29 = .ok (.iconst 0, 1) := by decide +kernel
theorem dX8_startOrder_30 : decode cX8_startOrder 30 = .ok (.istore_n 3, 1) := by decide +kernel
theorem dX8_startOrder_31 : decode cX8_startOrder 31 = .ok (.iload_n 3, 1) := by decide +kernel
theorem dX8_startOrder_32 : decode cX8_startOrder 32 = .ok (.aload_n 0, 1) := by decide +kernel
theorem dX8_startOrder_33 : decode cX8_startOrder 33 = .ok (.getfield 10, 3) := by decide +kernel
theorem dX8_startOrder_36 : decode cX8_startOrder 36 = .ok (.getfield 186, 3) := by decide +kernel
theorem dX8_startOrder_39 : decode cX8_startOrder 39 = .ok (.if_icmp .ge 58, 3) := by decide +kernel
theorem dX8_startOrder_42 : decode cX8_startOrder 42 = .ok (.aload_n 1, 1) := by decide +kernel
theorem dX8_startOrder_43 : decode cX8_startOrder 43 = .ok (.getfield 187, 3) := by decide +kernel
theorem dX8_startOrder_46 : decode cX8_startOrder 46 = .ok (.iload_n 3, 1) := by decide +kernel
theorem dX8_startOrder_47 : decode cX8_startOrder 47 = .ok (.iaload, 1) := by decide +kernel
theorem dX8_startOrder_48 : decode cX8_startOrder 48 = .ok (.istore 4, 2) := by decide +kernel
theorem dX8_startOrder_50 : decode cX8_startOrder 50 = .ok (.aload_n 0, 1) := by decide +kernel
theorem dX8_startOrder_51 : decode cX8_startOrder 51 = .ok (.getfield 10, 3) := by decide +kernel
theorem dX8_startOrder_54 : decode cX8_startOrder 54 = .ok (.iload 4, 2) := by decide +kernel
theorem dX8_startOrder_56 : decode cX8_startOrder 56 = .ok (.invokevirtual 99, 3) := by decide +kernel
theorem dX8_startOrder_59 : decode cX8_startOrder 59 = .ok (.ifCond .eq 13, 3) := by decide +kernel
theorem dX8_startOrder_62 : decode cX8_startOrder 62 = .ok (.iload_n 2, 1) := by decide +kernel
theorem dX8_startOrder_63 : decode cX8_startOrder 63 = .ok (.iload 4, 2) := by decide +kernel
theorem dX8_startOrder_65 : decode cX8_startOrder 65 = .ok (.ishr, 1) := by decide +kernel
theorem dX8_startOrder_66 : decode cX8_startOrder 66 = .ok (.iconst 1, 1) := by decide +kernel
theorem dX8_startOrder_67 : decode cX8_startOrder 67 = .ok (.iand, 1) := by decide +kernel
theorem dX8_startOrder_68 : decode cX8_startOrder 68 = .ok (.iconst 1, 1) := by decide +kernel
theorem dX8_startOrder_69 : decode cX8_startOrder 69 = .ok (.if_icmp .ne 5, 3) := by decide +kernel
theorem dX8_startOrder_72 : decode cX8_startOrder 72 = .ok (.iconst 0, 1) := by decide +kernel
theorem dX8_startOrder_73 : decode cX8_startOrder 73 = .ok (.ireturn, 1) := by decide +kernel
theorem dX8_startOrder_74 : decode cX8_startOrder 74 = .ok (.iload_n 2, 1) := by decide +kernel
theorem dX8_startOrder_75 : decode cX8_startOrder 75 = .ok (.iconst 1, 1) := by decide +kernel
theorem dX8_startOrder_76 : decode cX8_startOrder 76 = .ok (.iload 4, 2) := by decide +kernel
theorem dX8_startOrder_78 : decode cX8_startOrder 78 = .ok (.ishl, 1) := by decide +kernel
theorem dX8_startOrder_79 : decode cX8_startOrder 79 = .ok (.ior, 1) := by decide +kernel
theorem dX8_startOrder_80 : decode cX8_startOrder 80 = .ok (.istore_n 2, 1) := by decide +kernel
theorem dX8_startOrder_81 : decode cX8_startOrder 81 = .ok (.aload_n 0, 1) := by decide +kernel
theorem dX8_startOrder_82 : decode cX8_startOrder 82 = .ok (.getfield 54, 3) := by decide +kernel
theorem dX8_startOrder_85 : decode cX8_startOrder 85 = .ok (.iload_n 3, 1) := by decide +kernel
theorem dX8_startOrder_86 : decode cX8_startOrder 86 = .ok (.iload 4, 2) := by decide +kernel
theorem dX8_startOrder_88 : decode cX8_startOrder 88 = .ok (.invokevirtual 190, 3) := by decide +kernel
theorem dX8_startOrder_91 : decode cX8_startOrder 91 = .ok (.iinc 3 1, 3) := by decide +kernel
theorem dX8_startOrder_94 : decode cX8_startOrder 94 = .ok (.goto (-63), 3) := by decide +kernel
theorem dX8_startOrder_97 : decode cX8_startOrder 97 = .ok (.iconst 1, 1) := by decide +kernel
theorem dX8_startOrder_98 : decode cX8_startOrder 98 = .ok (.ireturn, 1) := by decide +kernel
theorem dX8_isOfDay_0 : decode cX8_isOfDay 0 = .ok (.iload_n 1, 1) := by decide +kernel
theorem dX8_isOfDay_1 : decode cX8_isOfDay 1 = .ok (.bipush 10, 2) := by decide +kernel
theorem dX8_isOfDay_3 : decode cX8_isOfDay 3 = .ok (.if_icmp .ge 18, 3) := by decide +kernel
theorem dX8_isOfDay_6 : decode cX8_isOfDay 6 = .ok (.iload_n 1, 1) := by decide +kernel
theorem dX8_isOfDay_7 : decode cX8_isOfDay 7 = .ok (.ifCond .lt 12, 3) := by decide +kernel
theorem dX8_isOfDay_10 : decode cX8_isOfDay 10 = .ok (.iload_n 1, 1) := by decide +kernel
theorem dX8_isOfDay_11 : decode cX8_isOfDay 11 = .ok (.iconst 4, 1) := by decide +kernel
theorem dX8_isOfDay_12 : decode cX8_isOfDay 12 = .ok (.if_icmp .gt 7, 3) := by decide +kernel
theorem dX8_isOfDay_15 : decode cX8_isOfDay 15 = .ok (.iconst 1, 1) := by decide +kernel
theorem dX8_isOfDay_16 : decode cX8_isOfDay 16 = .ok (.goto 4, 3) := by decide +kernel
theorem dX8_isOfDay_19 : decode cX8_isOfDay 19 = .ok (.iconst 0, 1) := by decide +kernel
theorem dX8_isOfDay_20 : decode cX8_isOfDay 20 = .ok (.ireturn, 1) := by decide +kernel
theorem dX8_isOfDay_21 : decode cX8_isOfDay 21 = .ok (.iload_n 1, 1) := by decide +kernel
theorem dX8_isOfDay_22 : decode cX8_isOfDay 22 = .ok (.bipush 50, 2) := by decide +kernel
theorem dX8_isOfDay_24 : decode cX8_isOfDay 24 = .ok (.if_icmp .ge 21, 3) := by decide +kernel
theorem dX8_isOfDay_27 : decode cX8_isOfDay 27 = .ok (.aload_n 0, 1) := by decide +kernel
theorem dX8_isOfDay_28 : decode cX8_isOfDay 28 = .ok (.getfield 10, 3) := by decide +kernel
theorem dX8_isOfDay_31 : decode cX8_isOfDay 31 = .ok (.iload_n 1, 1) := by decide +kernel
theorem dX8_isOfDay_32 : decode cX8_isOfDay 32 = .ok (.bipush 10, 2) := by decide +kernel
theorem dX8_isOfDay_34 : decode cX8_isOfDay 34 = .ok (.irem, 1) := by decide +kernel
theorem dX8_isOfDay_35 : decode cX8_isOfDay 35 = .ok (.invokevirtual 99, 3) := by decide +kernel
theorem dX8_isOfDay_38 : decode cX8_isOfDay 38 = .ok (.ifCond .eq 7, 3) := by decide +kernel
theorem dX8_isOfDay_41 : decode cX8_isOfDay 41 = .ok (.iconst 1, 1) := by decide +kernel
theorem dX8_isOfDay_42 : decode cX8_isOfDay 42 = .ok (.goto 4, 3) := by decide +kernel
theorem dX8_isOfDay_45 : decode cX8_isOfDay 45 = .ok (.iconst 0, 1) := by decide +kernel
theorem dX8_isOfDay_46 : decode cX8_isOfDay 46 = .ok (.ireturn, 1) := by decide +kernel
theorem dX8_ofWallsDay_0 : decode cX8_ofWallsDay 0 = .ok (.aload_n 0, 1) := by decide +kernel
theorem dX8_ofWallsDay_1 : decode cX8_ofWallsDay 1 = .ok (.getfield 10, 3) := by decide +kernel
theorem dX8_ofWallsDay_4 : decode cX8_ofWallsDay 4 = .ok (.iload_n 1, 1) := by decide +kernel
theorem dX8_ofWallsDay_5 : decode cX8_ofWallsDay 5 = .ok (.invokevirtual 99, 3) := by decide +kernel
theorem dX8_ofWallsDay_8 : decode cX8_ofWallsDay 8 = .ok (.ifCond .ne 6, 3) := by decide +kernel
theorem dX8_ofWallsDay_11 : decode cX8_ofWallsDay 11 = .ok (.ldc 164, 2) := by decide +kernel
theorem dX8_ofWallsDay_13 : decode cX8_ofWallsDay 13 = .ok (.ireturn, 1) := by decide +kernel
theorem dX8_ofWallsDay_14 : decode cX8_ofWallsDay 14 = .ok (.iload_n 2, 1) := by decide +kernel
theorem dX8_ofWallsDay_15 : decode cX8_ofWallsDay 15 = .ok (.tableswitch 69 1 4 #[29, 39, 49, 59], 29) := by decide +kernel
theorem dX8_ofWallsDay_44 : decode cX8_ofWallsDay 44 = .ok (.aload_n 0, 1) := by decide +kernel
theorem dX8_ofWallsDay_45 : decode cX8_ofWallsDay 45 = .ok (.getfield 54, 3) := by decide +kernel
theorem dX8_ofWallsDay_48 : decode cX8_ofWallsDay 48 = .ok (.getfield 212, 3) := by decide +kernel
theorem dX8_ofWallsDay_51 : decode cX8_ofWallsDay 51 = .ok (.iload_n 1, 1) := by decide +kernel
theorem dX8_ofWallsDay_52 : decode cX8_ofWallsDay 52 = .ok (.iaload, 1) := by decide +kernel
theorem dX8_ofWallsDay_53 : decode cX8_ofWallsDay 53 = .ok (.ireturn, 1) := by decide +kernel
theorem dX8_ofWallsDay_54 : decode cX8_ofWallsDay 54 = .ok (.aload_n 0, 1) := by decide +kernel
theorem dX8_ofWallsDay_55 : decode cX8_ofWallsDay 55 = .ok (.getfield 54, 3) := by decide +kernel
theorem dX8_ofWallsDay_58 : decode cX8_ofWallsDay 58 = .ok (.getfield 215, 3) := by decide +kernel
theorem dX8_ofWallsDay_61 : decode cX8_ofWallsDay 61 = .ok (.iload_n 1, 1) := by decide +kernel
theorem dX8_ofWallsDay_62 : decode cX8_ofWallsDay 62 = .ok (.iaload, 1) := by decide +kernel
theorem dX8_ofWallsDay_63 : decode cX8_ofWallsDay 63 = .ok (.ireturn, 1) := by decide +kernel
theorem dX8_ofWallsDay_64 : decode cX8_ofWallsDay 64 = .ok (.aload_n 0, 1) := by decide +kernel
theorem dX8_ofWallsDay_65 : decode cX8_ofWallsDay 65 = .ok (.getfield 54, 3) := by decide +kernel
theorem dX8_ofWallsDay_68 : decode cX8_ofWallsDay 68 = .ok (.getfield 218, 3) := by decide +kernel
theorem dX8_ofWallsDay_71 : decode cX8_ofWallsDay 71 = .ok (.iload_n 1, 1) := by decide +kernel
theorem dX8_ofWallsDay_72 : decode cX8_ofWallsDay 72 = .ok (.iaload, 1) := by decide +kernel
theorem dX8_ofWallsDay_73 : decode cX8_ofWallsDay 73 = .ok (.ireturn, 1) := by decide +kernel
theorem dX8_ofWallsDay_74 : decode cX8_ofWallsDay 74 = .ok (.aload_n 0, 1) := by decide +kernel
theorem dX8_ofWallsDay_75 : decode cX8_ofWallsDay 75 = .ok (.getfield 54, 3) := by decide +kernel
theorem dX8_ofWallsDay_78 : decode cX8_ofWallsDay 78 = .ok (.getfield 221, 3) := by decide +kernel
theorem dX8_ofWallsDay_81 : decode cX8_ofWallsDay 81 = .ok (.iload_n 1, 1) := by decide +kernel
theorem dX8_ofWallsDay_82 : decode cX8_ofWallsDay 82 = .ok (.iaload, 1) := by decide +kernel
theorem dX8_ofWallsDay_83 : decode cX8_ofWallsDay 83 = .ok (.ireturn, 1) := by decide +kernel
theorem dX8_ofWallsDay_84 : decode cX8_ofWallsDay 84 = .ok (.ldc 164, 2) := by decide +kernel
theorem dX8_ofWallsDay_86 : decode cX8_ofWallsDay 86 = .ok (.ireturn, 1) := by decide +kernel
theorem dX8_ofDay_0 : decode cX8_ofDay 0 = .ok (.iload_n 1, 1) := by decide +kernel
theorem dX8_ofDay_1 : decode cX8_ofDay 1 = .ok (.tableswitch 75 0 4 #[35, 43, 51, 59, 67], 35) := by decide +kernel
theorem dX8_ofDay_36 : decode cX8_ofDay 36 = .ok (.aload_n 0, 1) := by decide +kernel
theorem dX8_ofDay_37 : decode cX8_ofDay 37 = .ok (.getfield 54, 3) := by decide +kernel
theorem dX8_ofDay_40 : decode cX8_ofDay 40 = .ok (.getfield 194, 3) := by decide +kernel
theorem dX8_ofDay_43 : decode cX8_ofDay 43 = .ok (.ireturn, 1) := by decide +kernel
theorem dX8_ofDay_44 : decode cX8_ofDay 44 = .ok (.aload_n 0, 1) := by decide +kernel
theorem dX8_ofDay_45 : decode cX8_ofDay 45 = .ok (.getfield 54, 3) := by decide +kernel
theorem dX8_ofDay_48 : decode cX8_ofDay 48 = .ok (.getfield 197, 3) := by decide +kernel
theorem dX8_ofDay_51 : decode cX8_ofDay 51 = .ok (.ireturn, 1) := by decide +kernel
theorem dX8_ofDay_52 : decode cX8_ofDay 52 = .ok (.aload_n 0, 1) := by decide +kernel
theorem dX8_ofDay_53 : decode cX8_ofDay 53 = .ok (.getfield 54, 3) := by decide +kernel
theorem dX8_ofDay_56 : decode cX8_ofDay 56 = .ok (.getfield 200, 3) := by decide +kernel
theorem dX8_ofDay_59 : decode cX8_ofDay 59 = .ok (.ireturn, 1) := by decide +kernel
theorem dX8_ofDay_60 : decode cX8_ofDay 60 = .ok (.aload_n 0, 1) := by decide +kernel
theorem dX8_ofDay_61 : decode cX8_ofDay 61 = .ok (.getfield 54, 3) := by decide +kernel
theorem dX8_ofDay_64 : decode cX8_ofDay 64 = .ok (.invokevirtual 203, 3) := by decide +kernel
theorem dX8_ofDay_67 : decode cX8_ofDay 67 = .ok (.ireturn, 1) := by decide +kernel
theorem dX8_ofDay_68 : decode cX8_ofDay 68 = .ok (.aload_n 0, 1) := by decide +kernel
theorem dX8_ofDay_69 : decode cX8_ofDay 69 = .ok (.getfield 54, 3) := by decide +kernel
theorem dX8_ofDay_72 : decode cX8_ofDay 72 = .ok (.invokevirtual 206, 3) := by decide +kernel
theorem dX8_ofDay_75 : decode cX8_ofDay 75 = .ok (.ireturn, 1) := by decide +kernel
theorem dX8_ofDay_76 : decode cX8_ofDay 76 = .ok (.aload_n 0, 1) := by decide +kernel
theorem dX8_ofDay_77 : decode cX8_ofDay 77 = .ok (.iload_n 1, 1) := by decide +kernel
theorem dX8_ofDay_78 : decode cX8_ofDay 78 = .ok (.bipush 10, 2) := by decide +kernel
theorem dX8_ofDay_80 : decode cX8_ofDay 80 = .ok (.irem, 1) := by decide +kernel
theorem dX8_ofDay_81 : decode cX8_ofDay 81 = .ok (.iload_n 1, 1) := by decide +kernel
theorem dX8_ofDay_82 : decode cX8_ofDay 82 = .ok (.bipush 10, 2) := by decide +kernel
theorem dX8_ofDay_84 : decode cX8_ofDay 84 = .ok (.idiv, 1) := by decide +kernel
theorem dX8_ofDay_85 : decode cX8_ofDay 85 = .ok (.invokevirtual 209, 3) := by decide +kernel
theorem dX8_ofDay_88 : decode cX8_ofDay 88 = .ok (.ireturn, 1) := by decide +kernel
theorem dX8_notSo_0 : decode cX8_notSo 0 = .ok (.aload_n 0, 1) := by decide +kernel
theorem dX8_notSo_1 : decode cX8_notSo 1 = .ok (.invokevirtual 129, 3) := by decide +kernel
theorem dX8_notSo_4 : decode cX8_notSo 4 = .ok (.aload_n 0, 1) := by decide +kernel
theorem dX8_notSo_5 : decode cX8_notSo 5 = .ok (.getfield 54, 3) := by decide +kernel
theorem dX8_notSo_8 : decode cX8_notSo 8 = .ok (.invokevirtual 132, 3) := by decide +kernel
theorem dX8_notSo_11 : decode cX8_notSo 11 = .ok (.aload_n 0, 1) := by decide +kernel
theorem dX8_notSo_12 : decode cX8_notSo 12 = .ok (.getfield 54, 3) := by decide +kernel
theorem dX8_notSo_15 : decode cX8_notSo 15 = .ok (.invokevirtual 165, 3) := by decide +kernel
theorem dX8_notSo_18 : decode cX8_notSo 18 = .ok (.aload_n 0, 1) := by decide +kernel
theorem dX8_notSo_19 : decode cX8_notSo 19 = .ok (.getfield 54, 3) := by decide +kernel
theorem dX8_notSo_22 : decode cX8_notSo 22 = .ok (.aload_n 1, 1) := by decide +kernel
theorem dX8_notSo_23 : decode cX8_notSo 23 = .ok (.invokevirtual 278, 3) := by decide +kernel
theorem dX8_notSo_26 : decode cX8_notSo 26 = .ok (.ireturn, 1) := by decide +kernel
theorem dX8_dialsOf_0 : decode cX8_dialsOf 0 = .ok (.lconst 0, 1) := by decide +kernel
theorem dX8_dialsOf_1 : decode cX8_dialsOf 1 = .ok (.lstore_n 3, 1) := by decide +kernel
theorem dX8_dialsOf_2 : decode cX8_dialsOf 2 = .ok (.iconst 0, 1) := by decide +kernel
theorem dX8_dialsOf_3 : decode cX8_dialsOf 3 = .ok (.istore 5, 2) := by decide +kernel
theorem dX8_dialsOf_5 : decode cX8_dialsOf 5 = .ok (.iload 5, 2) := by decide +kernel
theorem dX8_dialsOf_7 : decode cX8_dialsOf 7 = .ok (.getstatic 96, 3) := by decide +kernel
theorem dX8_dialsOf_10 : decode cX8_dialsOf 10 = .ok (.iload_n 2, 1) := by decide +kernel
theorem dX8_dialsOf_11 : decode cX8_dialsOf 11 = .ok (.iaload, 1) := by decide +kernel
theorem dX8_dialsOf_12 : decode cX8_dialsOf 12 = .ok (.if_icmp .gt 58, 3) := by decide +kernel
theorem dX8_dialsOf_15 : decode cX8_dialsOf 15 = .ok (.aload_n 0, 1) := by decide +kernel
theorem dX8_dialsOf_16 : decode cX8_dialsOf 16 = .ok (.invokevirtual 129, 3) := by decide +kernel
theorem dX8_dialsOf_19 : decode cX8_dialsOf 19 = .ok (.aload_n 0, 1) := by decide +kernel
theorem dX8_dialsOf_20 : decode cX8_dialsOf 20 = .ok (.getfield 54, 3) := by decide +kernel
theorem dX8_dialsOf_23 : decode cX8_dialsOf 23 = .ok (.getfield 224, 3) := by decide +kernel
theorem dX8_dialsOf_26 : decode cX8_dialsOf 26 = .ok (.iload_n 2, 1) := by decide +kernel
theorem dX8_dialsOf_27 : decode cX8_dialsOf 27 = .ok (.iload 5, 2) := by decide +kernel
theorem dX8_dialsOf_29 : decode cX8_dialsOf 29 = .ok (.invokevirtual 228, 3) := by decide +kernel
theorem dX8_dialsOf_32 : decode cX8_dialsOf 32 = .ok (.aload_n 0, 1) := by decide +kernel
theorem dX8_dialsOf_33 : decode cX8_dialsOf 33 = .ok (.getfield 54, 3) := by decide +kernel
theorem dX8_dialsOf_36 : decode cX8_dialsOf 36 = .ok (.invokevirtual 132, 3) := by decide +kernel
theorem dX8_dialsOf_39 : decode cX8_dialsOf 39 = .ok (.aload_n 0, 1) := by decide +kernel
theorem dX8_dialsOf_40 : decode cX8_dialsOf 40 = .ok (.getfield 54, 3) := by decide +kernel
theorem dX8_dialsOf_43 : decode cX8_dialsOf 43 = .ok (.invokevirtual 165, 3) := by decide +kernel
theorem dX8_dialsOf_46 : decode cX8_dialsOf 46 = .ok (.aload_n 0, 1) := by decide +kernel
theorem dX8_dialsOf_47 : decode cX8_dialsOf 47 = .ok (.getfield 54, 3) := by decide +kernel
theorem dX8_dialsOf_50 : decode cX8_dialsOf 50 = .ok (.aload_n 1, 1) := by decide +kernel
theorem dX8_dialsOf_51 : decode cX8_dialsOf 51 = .ok (.invokevirtual 278, 3) := by decide +kernel
theorem dX8_dialsOf_54 : decode cX8_dialsOf 54 = .ok (.ifCond .ne 10, 3) := by decide +kernel
theorem dX8_dialsOf_57 : decode cX8_dialsOf 57 = .ok (.lload_n 3, 1) := by decide +kernel
theorem dX8_dialsOf_58 : decode cX8_dialsOf 58 = .ok (.lconst 1, 1) := by decide +kernel
theorem dX8_dialsOf_59 : decode cX8_dialsOf 59 = .ok (.iload 5, 2) := by decide +kernel
theorem dX8_dialsOf_61 : decode cX8_dialsOf 61 = .ok (.lshl, 1) := by decide +kernel
theorem dX8_dialsOf_62 : decode cX8_dialsOf 62 = .ok (.lor, 1) := by decide +kernel
theorem dX8_dialsOf_63 : decode cX8_dialsOf 63 = .ok (.lstore_n 3, 1) := by decide +kernel
theorem dX8_dialsOf_64 : decode cX8_dialsOf 64 = .ok (.iinc 5 1, 3) := by decide +kernel
theorem dX8_dialsOf_67 : decode cX8_dialsOf 67 = .ok (.goto (-62), 3) := by decide +kernel
theorem dX8_dialsOf_70 : decode cX8_dialsOf 70 = .ok (.lload_n 3, 1) := by decide +kernel
theorem dX8_dialsOf_71 : decode cX8_dialsOf 71 = .ok (.lreturn, 1) := by decide +kernel
theorem dX8_textsOf_0 : decode cX8_textsOf 0 = .ok (.iconst 0, 1) := by decide +kernel
theorem dX8_textsOf_1 : decode cX8_textsOf 1 = .ok (.istore_n 2, 1) := by decide +kernel
theorem dX8_textsOf_2 : decode cX8_textsOf 2 = .ok (.iconst 0, 1) := by decide +kernel
theorem dX8_textsOf_3 : decode cX8_textsOf 3 = .ok (.istore_n 3, 1) := by decide +kernel
theorem dX8_textsOf_4 : decode cX8_textsOf 4 = .ok (.iload_n 3, 1) := by decide +kernel
theorem dX8_textsOf_5 : decode cX8_textsOf 5 = .ok (.aload_n 0, 1) := by decide +kernel
theorem dX8_textsOf_6 : decode cX8_textsOf 6 = .ok (.getfield 45, 3) := by decide +kernel
theorem dX8_textsOf_9 : decode cX8_textsOf 9 = .ok (.if_icmp .ge 55, 3) := by decide +kernel
theorem dX8_textsOf_12 : decode cX8_textsOf 12 = .ok (.aload_n 0, 1) := by decide +kernel
theorem dX8_textsOf_13 : decode cX8_textsOf 13 = .ok (.invokevirtual 129, 3) := by decide +kernel
theorem dX8_textsOf_16 : decode cX8_textsOf 16 = .ok (.aload_n 0, 1) := by decide +kernel
theorem dX8_textsOf_17 : decode cX8_textsOf 17 = .ok (.getfield 54, 3) := by decide +kernel
theorem dX8_textsOf_20 : decode cX8_textsOf 20 = .ok (.getfield 224, 3) := by decide +kernel
theorem dX8_textsOf_23 : decode cX8_textsOf 23 = .ok (.iload_n 3, 1) := by decide +kernel
theorem dX8_textsOf_24 : decode cX8_textsOf 24 = .ok (.putfield 158, 3) := by decide +kernel
theorem dX8_textsOf_27 : decode cX8_textsOf 27 = .ok (.aload_n 0, 1) := by decide +kernel
theorem dX8_textsOf_28 : decode cX8_textsOf 28 = .ok (.getfield 54, 3) := by decide +kernel
theorem dX8_textsOf_31 : decode cX8_textsOf 31 = .ok (.invokevirtual 132, 3) := by decide +kernel
theorem dX8_textsOf_34 : decode cX8_textsOf 34 = .ok (.aload_n 0, 1) := by decide +kernel
theorem dX8_textsOf_35 : decode cX8_textsOf 35 = .ok (.getfield 54, 3) := by decide +kernel
theorem dX8_textsOf_38 : decode cX8_textsOf 38 = .ok (.invokevirtual 165, 3) := by decide +kernel
theorem dX8_textsOf_41 : decode cX8_textsOf 41 = .ok (.aload_n 0, 1) := by decide +kernel
theorem dX8_textsOf_42 : decode cX8_textsOf 42 = .ok (.getfield 54, 3) := by decide +kernel
theorem dX8_textsOf_45 : decode cX8_textsOf 45 = .ok (.aload_n 1, 1) := by decide +kernel
theorem dX8_textsOf_46 : decode cX8_textsOf 46 = .ok (.invokevirtual 278, 3) := by decide +kernel
theorem dX8_textsOf_49 : decode cX8_textsOf 49 = .ok (.ifCond .ne 9, 3) := by decide +kernel
theorem dX8_textsOf_52 : decode cX8_textsOf 52 = .ok (.iload_n 2, 1) := by decide +kernel
theorem dX8_textsOf_53 : decode cX8_textsOf 53 = .ok (.iconst 1, 1) := by decide +kernel
theorem dX8_textsOf_54 : decode cX8_textsOf 54 = .ok (.iload_n 3, 1) := by decide +kernel
theorem dX8_textsOf_55 : decode cX8_textsOf 55 = .ok (.ishl, 1) := by decide +kernel
theorem dX8_textsOf_56 : decode cX8_textsOf 56 = .ok (.ior, 1) := by decide +kernel
theorem dX8_textsOf_57 : decode cX8_textsOf 57 = .ok (.istore_n 2, 1) := by decide +kernel
theorem dX8_textsOf_58 : decode cX8_textsOf 58 = .ok (.iinc 3 1, 3) := by decide +kernel
theorem dX8_textsOf_61 : decode cX8_textsOf 61 = .ok (.goto (-57), 3) := by decide +kernel
theorem dX8_textsOf_64 : decode cX8_textsOf 64 = .ok (.iload_n 2, 1) := by decide +kernel
theorem dX8_textsOf_65 : decode cX8_textsOf 65 = .ok (.ireturn, 1) := by decide +kernel
theorem dX8_kindsOf_0 : decode cX8_kindsOf 0 = .ok (.iconst 0, 1) := by decide +kernel
theorem dX8_kindsOf_1 : decode cX8_kindsOf 1 = .ok (.istore_n 3, 1) := by decide +kernel
theorem dX8_kindsOf_2 : decode cX8_kindsOf 2 = .ok (.iconst 0, 1) := by decide +kernel
theorem dX8_kindsOf_3 : decode cX8_kindsOf 3 = .ok (.istore 4, 2) := by decide +kernel
theorem dX8_kindsOf_5 : decode cX8_kindsOf 5 = .ok (.iload 4, 2) := by decide +kernel
theorem dX8_kindsOf_7 : decode cX8_kindsOf 7 = .ok (.bipush 6, 2) := by decide +kernel
theorem dX8_kindsOf_9 : decode cX8_kindsOf 9 = .ok (.if_icmp .ge 70, 3) := by decide +kernel
theorem dX8_kindsOf_12 : decode cX8_kindsOf 12 = .ok (.aload_n 0, 1) := by decide +kernel
theorem dX8_kindsOf_13 : decode cX8_kindsOf 13 = .ok (.invokevirtual 129, 3) := by decide +kernel
theorem dX8_kindsOf_16 : decode cX8_kindsOf 16 = .ok (.aload_n 0, 1) := by decide +kernel
theorem dX8_kindsOf_17 : decode cX8_kindsOf 17 = .ok (.getfield 10, 3) := by decide +kernel
theorem dX8_kindsOf_20 : decode cX8_kindsOf 20 = .ok (.iload_n 2, 1) := by decide +kernel
theorem dX8_kindsOf_21 : decode cX8_kindsOf 21 = .ok (.invokevirtual 99, 3) := by decide +kernel
theorem dX8_kindsOf_24 : decode cX8_kindsOf 24 = .ok (.ifCond .eq 17, 3) := by decide +kernel
theorem dX8_kindsOf_27 : decode cX8_kindsOf 27 = .ok (.aload_n 0, 1) := by decide +kernel
theorem dX8_kindsOf_28 : decode cX8_kindsOf 28 = .ok (.getfield 54, 3) := by decide +kernel
theorem dX8_kindsOf_31 : decode cX8_kindsOf 31 = .ok (.getfield 224, 3) := by decide +kernel
theorem dX8_kindsOf_34 : decode cX8_kindsOf 34 = .ok (.getfield 113, 3) := by decide +kernel
theorem dX8_kindsOf_37 : decode cX8_kindsOf 37 = .ok (.iload_n 2, 1) := by decide +kernel
theorem dX8_kindsOf_38 : decode cX8_kindsOf 38 = .ok (.iload 4, 2) := by decide +kernel
theorem dX8_kindsOf_40 : decode cX8_kindsOf 40 = .ok (.iastore, 1) := by decide +kernel
theorem dX8_kindsOf_41 : decode cX8_kindsOf 41 = .ok (.aload_n 0, 1) := by decide +kernel
theorem dX8_kindsOf_42 : decode cX8_kindsOf 42 = .ok (.getfield 54, 3) := by decide +kernel
theorem dX8_kindsOf_45 : decode cX8_kindsOf 45 = .ok (.invokevirtual 132, 3) := by decide +kernel
theorem dX8_kindsOf_48 : decode cX8_kindsOf 48 = .ok (.aload_n 0, 1) := by decide +kernel
theorem dX8_kindsOf_49 : decode cX8_kindsOf 49 = .ok (.getfield 54, 3) := by decide +kernel
theorem dX8_kindsOf_52 : decode cX8_kindsOf 52 = .ok (.invokevirtual 165, 3) := by decide +kernel
theorem dX8_kindsOf_55 : decode cX8_kindsOf 55 = .ok (.aload_n 0, 1) := by decide +kernel
theorem dX8_kindsOf_56 : decode cX8_kindsOf 56 = .ok (.getfield 54, 3) := by decide +kernel
theorem dX8_kindsOf_59 : decode cX8_kindsOf 59 = .ok (.aload_n 1, 1) := by decide +kernel
theorem dX8_kindsOf_60 : decode cX8_kindsOf 60 = .ok (.invokevirtual 278, 3) := by decide +kernel
theorem dX8_kindsOf_63 : decode cX8_kindsOf 63 = .ok (.ifCond .ne 10, 3) := by decide +kernel
theorem dX8_kindsOf_66 : decode cX8_kindsOf 66 = .ok (.iload_n 3, 1) := by decide +kernel
theorem dX8_kindsOf_67 : decode cX8_kindsOf 67 = .ok (.iconst 1, 1) := by decide +kernel
theorem dX8_kindsOf_68 : decode cX8_kindsOf 68 = .ok (.iload 4, 2) := by decide +kernel
theorem dX8_kindsOf_70 : decode cX8_kindsOf 70 = .ok (.ishl, 1) := by decide +kernel
theorem dX8_kindsOf_71 : decode cX8_kindsOf 71 = .ok (.ior, 1) := by decide +kernel
theorem dX8_kindsOf_72 : decode cX8_kindsOf 72 = .ok (.istore_n 3, 1) := by decide +kernel
theorem dX8_kindsOf_73 : decode cX8_kindsOf 73 = .ok (.iinc 4 1, 3) := by decide +kernel
theorem dX8_kindsOf_76 : decode cX8_kindsOf 76 = .ok (.goto (-71), 3) := by decide +kernel
theorem dX8_kindsOf_79 : decode cX8_kindsOf 79 = .ok (.iload_n 3, 1) := by decide +kernel
theorem dX8_kindsOf_80 : decode cX8_kindsOf 80 = .ok (.ireturn, 1) := by decide +kernel
theorem dX8_set_0 : decode cX8_set 0 = .ok (.iload_n 1, 1) := by decide +kernel
theorem dX8_set_1 : decode cX8_set 1 = .ok (.ifCond .lt 27, 3) := by decide +kernel
theorem dX8_set_4 : decode cX8_set 4 = .ok (.iload_n 1, 1) := by decide +kernel
theorem dX8_set_5 : decode cX8_set 5 = .ok (.bipush 8, 2) := by decide +kernel
theorem dX8_set_7 : decode cX8_set 7 = .ok (.if_icmp .gt 21, 3) := by decide +kernel
theorem dX8_set_10 : decode cX8_set 10 = .ok (.iload_n 3, 1) := by decide +kernel
theorem dX8_set_11 : decode cX8_set 11 = .ok (.getstatic 92, 3) := by decide +kernel
theorem dX8_set_14 : decode cX8_set 14 = .ok (.iload_n 1, 1) := by decide +kernel
theorem dX8_set_15 : decode cX8_set 15 = .ok (.iaload, 1) := by decide +kernel
theorem dX8_set_16 : decode cX8_set 16 = .ok (.if_icmp .lt 12, 3) := by decide +kernel
theorem dX8_set_19 : decode cX8_set 19 = .ok (.iload_n 3, 1) := by decide +kernel
theorem dX8_set_20 : decode cX8_set 20 = .ok (.getstatic 96, 3) := by decide +kernel
theorem dX8_set_23 : decode cX8_set 23 = .ok (.iload_n 1, 1) := by decide +kernel
theorem dX8_set_24 : decode cX8_set 24 = .ok (.iaload, 1) := by decide +kernel
theorem dX8_set_25 : decode cX8_set 25 = .ok (.if_icmp .le 6, 3) := by decide +kernel
theorem dX8_set_28 : decode cX8_set 28 = .ok (.bipush (-2), 2) := by decide +kernel
theorem dX8_set_30 : decode cX8_set 30 = .ok (.ireturn, 1) := by decide +kernel
theorem dX8_set_31 : decode cX8_set 31 = .ok (.iload_n 1, 1) := by decide +kernel
theorem dX8_set_32 : decode cX8_set 32 = .ok (.iconst 5, 1) := by decide +kernel
theorem dX8_set_33 : decode cX8_set 33 = .ok (.if_icmp .le 7, 3) := by decide +kernel
theorem dX8_set_36 : decode cX8_set 36 = .ok (.iconst 1, 1) := by decide +kernel
theorem dX8_set_37 : decode cX8_set 37 = .ok (.goto 4, 3) := by decide +kernel
theorem dX8_set_40 : decode cX8_set 40 = .ok (.iconst 0, 1) := by decide +kernel
theorem dX8_set_41 : decode cX8_set 41 = .ok (.istore 4, 2) := by decide +kernel
theorem dX8_set_43 : decode cX8_set 43 = .ok (.iload 4, 2) := by decide +kernel
theorem dX8_set_45 : decode cX8_set 45 = .ok (.ifCond .eq 17, 3) := by decide +kernel
theorem dX8_set_48 : decode cX8_set 48 = .ok (.aload_n 0, 1) := by decide +kernel
theorem dX8_set_49 : decode cX8_set 49 = .ok (.getfield 10, 3) := by decide +kernel
theorem dX8_set_52 : decode cX8_set 52 = .ok (.iload_n 2, 1) := by decide +kernel
theorem dX8_set_53 : decode cX8_set 53 = .ok (.invokevirtual 99, 3) := by decide +kernel
theorem dX8_set_56 : decode cX8_set 56 = .ok (.ifCond .ne 6, 3) := by decide +kernel
theorem dX8_set_59 : decode cX8_set 59 = .ok (.bipush (-2), 2) := by decide +kernel
theorem dX8_set_61 : decode cX8_set 61 = .ok (.ireturn, 1) := by decide +kernel
theorem dX8_set_62 : decode cX8_set 62 = .ok (.aload_n 0, 1) := by decide +kernel
theorem dX8_set_63 : decode cX8_set 63 = .ok (.getfield 10, 3) := by decide +kernel
theorem dX8_set_66 : decode cX8_set 66 = .ok (.iload_n 1, 1) := by decide +kernel
theorem dX8_set_67 : decode cX8_set 67 = .ok (.invokevirtual 103, 3) := by decide +kernel
theorem dX8_set_70 : decode cX8_set 70 = .ok (.astore 5, 2) := by decide +kernel
theorem dX8_set_72 : decode cX8_set 72 = .ok (.iload 4, 2) := by decide +kernel
theorem dX8_set_74 : decode cX8_set 74 = .ok (.ifCond .eq 7, 3) := by decide +kernel
theorem dX8_set_77 : decode cX8_set 77 = .ok (.iload_n 2, 1) := by decide +kernel
theorem dX8_set_78 : decode cX8_set 78 = .ok (.goto 4, 3) := by decide +kernel
theorem dX8_set_81 : decode cX8_set 81 = .ok (.iload_n 1, 1) := by decide +kernel
theorem dX8_set_82 : decode cX8_set 82 = .ok (.istore 6, 2) := by decide +kernel
theorem dX8_set_84 : decode cX8_set 84 = .ok (.aload 5, 2) := by decide +kernel
theorem dX8_set_86 : decode cX8_set 86 = .ok (.iload 6, 2) := by decide +kernel
theorem dX8_set_88 : decode cX8_set 88 = .ok (.iaload, 1) := by decide +kernel
theorem dX8_set_89 : decode cX8_set 89 = .ok (.istore 7, 2) := by decide +kernel
theorem dX8_set_91 : decode cX8_set 91 = .ok (.aload 5, 2) := by decide +kernel
theorem dX8_set_93 : decode cX8_set 93 = .ok (.iload 6, 2) := by decide +kernel
theorem dX8_set_95 : decode cX8_set 95 = .ok (.iload_n 3, 1) := by decide +kernel
theorem dX8_set_96 : decode cX8_set 96 = .ok (.iastore, 1) := by decide +kernel
theorem dX8_set_97 : decode cX8_set 97 = .ok (.iload 7, 2) := by decide +kernel
theorem dX8_set_99 : decode cX8_set 99 = .ok (.ireturn, 1) := by decide +kernel
theorem dX8_wall_0 : decode cX8_wall 0 = .ok (.iload_n 1, 1) := by decide +kernel
theorem dX8_wall_1 : decode cX8_wall 1 = .ok (.invokestatic 107, 3) := by decide +kernel
theorem dX8_wall_4 : decode cX8_wall 4 = .ok (.ifCond .eq 43, 3) := by decide +kernel
theorem dX8_wall_7 : decode cX8_wall 7 = .ok (.iload_n 2, 1) := by decide +kernel
theorem dX8_wall_8 : decode cX8_wall 8 = .ok (.getstatic 92, 3) := by decide +kernel
theorem dX8_wall_11 : decode cX8_wall 11 = .ok (.bipush 6, 2) := by decide +kernel
theorem dX8_wall_13 : decode cX8_wall 13 = .ok (.iaload, 1) := by decide +kernel
theorem dX8_wall_14 : decode cX8_wall 14 = .ok (.if_icmp .lt 33, 3) := by decide +kernel
theorem dX8_wall_17 : decode cX8_wall 17 = .ok (.iload_n 2, 1) := by decide +kernel
theorem dX8_wall_18 : decode cX8_wall 18 = .ok (.getstatic 96, 3) := by decide +kernel
theorem dX8_wall_21 : decode cX8_wall 21 = .ok (.bipush 6, 2) := by decide +kernel
theorem dX8_wall_23 : decode cX8_wall 23 = .ok (.iaload, 1) := by decide +kernel
theorem dX8_wall_24 : decode cX8_wall 24 = .ok (.if_icmp .gt 23, 3) := by decide +kernel
theorem dX8_wall_27 : decode cX8_wall 27 = .ok (.iload_n 3, 1) := by decide +kernel
theorem dX8_wall_28 : decode cX8_wall 28 = .ok (.getstatic 92, 3) := by decide +kernel
theorem dX8_wall_31 : decode cX8_wall 31 = .ok (.bipush 7, 2) := by decide +kernel
theorem dX8_wall_33 : decode cX8_wall 33 = .ok (.iaload, 1) := by decide +kernel
theorem dX8_wall_34 : decode cX8_wall 34 = .ok (.if_icmp .lt 13, 3) := by decide +kernel
theorem dX8_wall_37 : decode cX8_wall 37 = .ok (.iload_n 3, 1) := by decide +kernel
theorem dX8_wall_38 : decode cX8_wall 38 = .ok (.getstatic 96, 3) := by decide +kernel
theorem dX8_wall_41 : decode cX8_wall 41 = .ok (.bipush 7, 2) := by decide +kernel
theorem dX8_wall_43 : decode cX8_wall 43 = .ok (.iaload, 1) := by decide +kernel
theorem dX8_wall_44 : decode cX8_wall 44 = .ok (.if_icmp .le 6, 3) := by decide +kernel
theorem dX8_wall_47 : decode cX8_wall 47 = .ok (.bipush (-2), 2) := by decide +kernel
theorem dX8_wall_49 : decode cX8_wall 49 = .ok (.ireturn, 1) := by decide +kernel
theorem dX8_wall_50 : decode cX8_wall 50 = .ok (.aload_n 0, 1) := by decide +kernel
theorem dX8_wall_51 : decode cX8_wall 51 = .ok (.getfield 10, 3) := by decide +kernel
theorem dX8_wall_54 : decode cX8_wall 54 = .ok (.iload_n 1, 1) := by decide +kernel
theorem dX8_wall_55 : decode cX8_wall 55 = .ok (.iload_n 2, 1) := by decide +kernel
theorem dX8_wall_56 : decode cX8_wall 56 = .ok (.iload_n 3, 1) := by decide +kernel
theorem dX8_wall_57 : decode cX8_wall 57 = .ok (.invokevirtual 110, 3) := by decide +kernel
theorem dX8_wall_60 : decode cX8_wall 60 = .ok (.ireturn, 1) := by decide +kernel
theorem dX8_told_0 : decode cX8_told 0 = .ok (.aload_n 0, 1) := by decide +kernel
theorem dX8_told_1 : decode cX8_told 1 = .ok (.getfield 10, 3) := by decide +kernel
theorem dX8_told_4 : decode cX8_told 4 = .ok (.iload_n 1, 1) := by decide +kernel
theorem dX8_told_5 : decode cX8_told 5 = .ok (.invokevirtual 99, 3) := by decide +kernel
theorem dX8_told_8 : decode cX8_told 8 = .ok (.ifCond .ne 6, 3) := by decide +kernel
theorem dX8_told_11 : decode cX8_told 11 = .ok (.bipush (-2), 2) := by decide +kernel
theorem dX8_told_13 : decode cX8_told 13 = .ok (.ireturn, 1) := by decide +kernel
theorem dX8_told_14 : decode cX8_told 14 = .ok (.iload_n 2, 1) := by decide +kernel
theorem dX8_told_15 : decode cX8_told 15 = .ok (.tableswitch 69 0 3 #[29, 39, 49, 59], 29) := by decide +kernel
theorem dX8_told_44 : decode cX8_told 44 = .ok (.aload_n 0, 1) := by decide +kernel
theorem dX8_told_45 : decode cX8_told 45 = .ok (.getfield 10, 3) := by decide +kernel
theorem dX8_told_48 : decode cX8_told 48 = .ok (.getfield 113, 3) := by decide +kernel
theorem dX8_told_51 : decode cX8_told 51 = .ok (.iload_n 1, 1) := by decide +kernel
theorem dX8_told_52 : decode cX8_told 52 = .ok (.iaload, 1) := by decide +kernel
theorem dX8_told_53 : decode cX8_told 53 = .ok (.ireturn, 1) := by decide +kernel
theorem dX8_told_54 : decode cX8_told 54 = .ok (.aload_n 0, 1) := by decide +kernel
theorem dX8_told_55 : decode cX8_told 55 = .ok (.getfield 10, 3) := by decide +kernel
theorem dX8_told_58 : decode cX8_told 58 = .ok (.getfield 116, 3) := by decide +kernel
theorem dX8_told_61 : decode cX8_told 61 = .ok (.iload_n 1, 1) := by decide +kernel
theorem dX8_told_62 : decode cX8_told 62 = .ok (.iaload, 1) := by decide +kernel
theorem dX8_told_63 : decode cX8_told 63 = .ok (.ireturn, 1) := by decide +kernel
theorem dX8_told_64 : decode cX8_told 64 = .ok (.aload_n 0, 1) := by decide +kernel
theorem dX8_told_65 : decode cX8_told 65 = .ok (.getfield 10, 3) := by decide +kernel
theorem dX8_told_68 : decode cX8_told 68 = .ok (.getfield 119, 3) := by decide +kernel
theorem dX8_told_71 : decode cX8_told 71 = .ok (.iload_n 1, 1) := by decide +kernel
theorem dX8_told_72 : decode cX8_told 72 = .ok (.iaload, 1) := by decide +kernel
theorem dX8_told_73 : decode cX8_told 73 = .ok (.ireturn, 1) := by decide +kernel
theorem dX8_told_74 : decode cX8_told 74 = .ok (.aload_n 0, 1) := by decide +kernel
theorem dX8_told_75 : decode cX8_told 75 = .ok (.getfield 10, 3) := by decide +kernel
theorem dX8_told_78 : decode cX8_told 78 = .ok (.getfield 122, 3) := by decide +kernel
theorem dX8_told_81 : decode cX8_told 81 = .ok (.iload_n 1, 1) := by decide +kernel
theorem dX8_told_82 : decode cX8_told 82 = .ok (.iaload, 1) := by decide +kernel
theorem dX8_told_83 : decode cX8_told 83 = .ok (.ireturn, 1) := by decide +kernel
theorem dX8_told_84 : decode cX8_told 84 = .ok (.aload_n 0, 1) := by decide +kernel
theorem dX8_told_85 : decode cX8_told 85 = .ok (.iload_n 1, 1) := by decide +kernel
theorem dX8_told_86 : decode cX8_told 86 = .ok (.iload_n 2, 1) := by decide +kernel
theorem dX8_told_87 : decode cX8_told 87 = .ok (.invokevirtual 125, 3) := by decide +kernel
theorem dX8_told_90 : decode cX8_told 90 = .ok (.ireturn, 1) := by decide +kernel
theorem dX8_feed_0 : decode cX8_feed 0 = .ok (.iload_n 1, 1) := by decide +kernel
theorem dX8_feed_1 : decode cX8_feed 1 = .ok (.ifCond .lt 10, 3) := by decide +kernel
theorem dX8_feed_4 : decode cX8_feed 4 = .ok (.iload_n 1, 1) := by decide +kernel
theorem dX8_feed_5 : decode cX8_feed 5 = .ok (.sipush 255, 3) := by decide +kernel
theorem dX8_feed_8 : decode cX8_feed 8 = .ok (.if_icmp .le 6, 3) := by decide +kernel
theorem dX8_feed_11 : decode cX8_feed 11 = .ok (.bipush (-2), 2) := by decide +kernel
theorem dX8_feed_13 : decode cX8_feed 13 = .ok (.ireturn, 1) := by decide +kernel
theorem dX8_feed_14 : decode cX8_feed 14 = .ok (.aload_n 0, 1) := by decide +kernel
theorem dX8_feed_15 : decode cX8_feed 15 = .ok (.getfield 26, 3) := by decide +kernel
theorem dX8_feed_18 : decode cX8_feed 18 = .ok (.iload_n 1, 1) := by decide +kernel
theorem dX8_feed_19 : decode cX8_feed 19 = .ok (.invokevirtual 85, 3) := by decide +kernel
theorem dX8_feed_22 : decode cX8_feed 22 = .ok (.ireturn, 1) := by decide +kernel
theorem dX8_text_0 : decode cX8_text 0 = .ok (.aload_n 0, 1) := by decide +kernel
theorem dX8_text_1 : decode cX8_text 1 = .ok (.getfield 45, 3) := by decide +kernel
theorem dX8_text_4 : decode cX8_text 4 = .ok (.bipush 6, 2) := by decide +kernel
theorem dX8_text_6 : decode cX8_text 6 = .ok (.if_icmp .lt 6, 3) := by decide +kernel
theorem dX8_text_9 : decode cX8_text 9 = .ok (.bipush (-4), 2) := by decide +kernel
theorem dX8_text_11 : decode cX8_text 11 = .ok (.ireturn, 1) := by decide +kernel
theorem dX8_text_12 : decode cX8_text 12 = .ok (.aload_n 0, 1) := by decide +kernel
theorem dX8_text_13 : decode cX8_text 13 = .ok (.invokevirtual 89, 3) := by decide +kernel
theorem dX8_text_16 : decode cX8_text 16 = .ok (.ireturn, 1) := by decide +kernel
theorem dX8_force_0 : decode cX8_force 0 = .ok (.iload_n 1, 1) := by decide +kernel
theorem dX8_force_1 : decode cX8_force 1 = .ok (.ifCond .lt 11, 3) := by decide +kernel
theorem dX8_force_4 : decode cX8_force 4 = .ok (.iload_n 1, 1) := by decide +kernel
theorem dX8_force_5 : decode cX8_force 5 = .ok (.aload_n 0, 1) := by decide +kernel
theorem dX8_force_6 : decode cX8_force 6 = .ok (.getfield 45, 3) := by decide +kernel
theorem dX8_force_9 : decode cX8_force 9 = .ok (.if_icmp .lt 6, 3) := by decide +kernel
theorem dX8_force_12 : decode cX8_force 12 = .ok (.bipush (-2), 2) := by decide +kernel
theorem dX8_force_14 : decode cX8_force 14 = .ok (.ireturn, 1) := by decide +kernel
theorem dX8_force_15 : decode cX8_force 15 = .ok (.aload_n 0, 1) := by decide +kernel
theorem dX8_force_16 : decode cX8_force 16 = .ok (.getfield 10, 3) := by decide +kernel
theorem dX8_force_19 : decode cX8_force 19 = .ok (.getfield 158, 3) := by decide +kernel
theorem dX8_force_22 : decode cX8_force 22 = .ok (.istore_n 2, 1) := by decide +kernel
theorem dX8_force_23 : decode cX8_force 23 = .ok (.aload_n 0, 1) := by decide +kernel
theorem dX8_force_24 : decode cX8_force 24 = .ok (.getfield 10, 3) := by decide +kernel
theorem dX8_force_27 : decode cX8_force 27 = .ok (.iload_n 1, 1) := by decide +kernel
theorem dX8_force_28 : decode cX8_force 28 = .ok (.putfield 158, 3) := by decide +kernel
theorem dX8_force_31 : decode cX8_force 31 = .ok (.iload_n 2, 1) := by decide +kernel
theorem dX8_force_32 : decode cX8_force 32 = .ok (.ireturn, 1) := by decide +kernel
theorem dX8_day_0 : decode cX8_day 0 = .ok (.aload_n 0, 1) := by decide +kernel
theorem dX8_day_1 : decode cX8_day 1 = .ok (.iload_n 1, 1) := by decide +kernel
theorem dX8_day_2 : decode cX8_day 2 = .ok (.invokevirtual 161, 3) := by decide +kernel
theorem dX8_day_5 : decode cX8_day 5 = .ok (.ifCond .ne 6, 3) := by decide +kernel
theorem dX8_day_8 : decode cX8_day 8 = .ok (.ldc 164, 2) := by decide +kernel
theorem dX8_day_10 : decode cX8_day 10 = .ok (.ireturn, 1) := by decide +kernel
theorem dX8_day_11 : decode cX8_day 11 = .ok (.aload_n 0, 1) := by decide +kernel
theorem dX8_day_12 : decode cX8_day 12 = .ok (.invokevirtual 129, 3) := by decide +kernel
theorem dX8_day_15 : decode cX8_day 15 = .ok (.aload_n 0, 1) := by decide +kernel
theorem dX8_day_16 : decode cX8_day 16 = .ok (.getfield 54, 3) := by decide +kernel
theorem dX8_day_19 : decode cX8_day 19 = .ok (.invokevirtual 132, 3) := by decide +kernel
theorem dX8_day_22 : decode cX8_day 22 = .ok (.aload_n 0, 1) := by decide +kernel
theorem dX8_day_23 : decode cX8_day 23 = .ok (.getfield 54, 3) := by decide +kernel
theorem dX8_day_26 : decode cX8_day 26 = .ok (.invokevirtual 165, 3) := by decide +kernel
theorem dX8_day_29 : decode cX8_day 29 = .ok (.aload_n 0, 1) := by decide +kernel
theorem dX8_day_30 : decode cX8_day 30 = .ok (.iload_n 1, 1) := by decide +kernel
theorem dX8_day_31 : decode cX8_day 31 = .ok (.invokevirtual 168, 3) := by decide +kernel
theorem dX8_day_34 : decode cX8_day 34 = .ok (.ireturn, 1) := by decide +kernel
theorem dX8_order_0 : decode cX8_order 0 = .ok (.aload_n 0, 1) := by decide +kernel
theorem dX8_order_1 : decode cX8_order 1 = .ok (.iload_n 1, 1) := by decide +kernel
theorem dX8_order_2 : decode cX8_order 2 = .ok (.invokevirtual 171, 3) := by decide +kernel
theorem dX8_order_5 : decode cX8_order 5 = .ok (.astore_n 3, 1) := by decide +kernel
theorem dX8_order_6 : decode cX8_order 6 = .ok (.aload_n 3, 1) := by decide +kernel
theorem dX8_order_7 : decode cX8_order 7 = .ok (.ifnull 19, 3) := by decide +kernel
theorem dX8_order_10 : decode cX8_order 10 = .ok (.aload_n 0, 1) := by decide +kernel
theorem dX8_order_11 : decode cX8_order 11 = .ok (.iload_n 2, 1) := by decide +kernel
theorem dX8_order_12 : decode cX8_order 12 = .ok (.invokevirtual 161, 3) := by decide +kernel
theorem dX8_order_15 : decode cX8_order 15 = .ok (.ifCond .eq 11, 3) := by decide +kernel
theorem dX8_order_18 : decode cX8_order 18 = .ok (.aload_n 0, 1) := by decide +kernel
theorem dX8_order_19 : decode cX8_order 19 = .ok (.aload_n 3, 1) := by decide +kernel
theorem dX8_order_20 : decode cX8_order 20 = .ok (.invokevirtual 175, 3) := by decide +kernel
theorem dX8_order_23 : decode cX8_order 23 = .ok (.ifCond .ne 6, 3) := by decide +kernel
theorem dX8_order_26 : decode cX8_order 26 = .ok (.ldc 164, 2) := by decide +kernel
theorem dX8_order_28 : decode cX8_order 28 = .ok (.ireturn, 1) := by decide +kernel
theorem dX8_order_29 : decode cX8_order 29 = .ok (.aload_n 0, 1) := by decide +kernel
theorem dX8_order_30 : decode cX8_order 30 = .ok (.getfield 54, 3) := by decide +kernel
theorem dX8_order_33 : decode cX8_order 33 = .ok (.invokevirtual 132, 3) := by decide +kernel
theorem dX8_order_36 : decode cX8_order 36 = .ok (.aload_n 0, 1) := by decide +kernel
theorem dX8_order_37 : decode cX8_order 37 = .ok (.getfield 54, 3) := by decide +kernel
theorem dX8_order_40 : decode cX8_order 40 = .ok (.invokevirtual 165, 3) := by decide +kernel
theorem dX8_order_43 : decode cX8_order 43 = .ok (.aload_n 0, 1) := by decide +kernel
theorem dX8_order_44 : decode cX8_order 44 = .ok (.iload_n 2, 1) := by decide +kernel
theorem dX8_order_45 : decode cX8_order 45 = .ok (.invokevirtual 168, 3) := by decide +kernel
theorem dX8_order_48 : decode cX8_order 48 = .ok (.ireturn, 1) := by decide +kernel
theorem dX8_best_0 : decode cX8_best 0 = .ok (.iload_n 1, 1) := by decide +kernel
theorem dX8_best_1 : decode cX8_best 1 = .ok (.ifCond .lt 8, 3) := by decide +kernel
theorem dX8_best_4 : decode cX8_best 4 = .ok (.iload_n 1, 1) := by decide +kernel
theorem dX8_best_5 : decode cX8_best 5 = .ok (.iconst 2, 1) := by decide +kernel
theorem dX8_best_6 : decode cX8_best 6 = .ok (.if_icmp .le 6, 3) := by decide +kernel
theorem dX8_best_9 : decode cX8_best 9 = .ok (.bipush (-2), 2) := by decide +kernel
theorem dX8_best_11 : decode cX8_best 11 = .ok (.ireturn, 1) := by decide +kernel
theorem dX8_best_12 : decode cX8_best 12 = .ok (.aload_n 0, 1) := by decide +kernel
theorem dX8_best_13 : decode cX8_best 13 = .ok (.invokevirtual 129, 3) := by decide +kernel
theorem dX8_best_16 : decode cX8_best 16 = .ok (.aload_n 0, 1) := by decide +kernel
theorem dX8_best_17 : decode cX8_best 17 = .ok (.getfield 54, 3) := by decide +kernel
theorem dX8_best_20 : decode cX8_best 20 = .ok (.invokevirtual 132, 3) := by decide +kernel
theorem dX8_best_23 : decode cX8_best 23 = .ok (.aload_n 0, 1) := by decide +kernel
theorem dX8_best_24 : decode cX8_best 24 = .ok (.getfield 61, 3) := by decide +kernel
theorem dX8_best_27 : decode cX8_best 27 = .ok (.invokevirtual 231, 3) := by decide +kernel
theorem dX8_best_30 : decode cX8_best 30 = .ok (.iconst 1, 1) := by decide +kernel
theorem dX8_best_31 : decode cX8_best 31 = .ok (.istore_n 2, 1) := by decide +kernel
theorem dX8_best_32 : decode cX8_best 32 = .ok (.iconst 0, 1) := by decide +kernel
theorem dX8_best_33 : decode cX8_best 33 = .ok (.istore_n 3, 1) := by decide +kernel
theorem dX8_best_34 : decode cX8_best 34 = .ok (.iload_n 3, 1) := by decide +kernel
theorem dX8_best_35 : decode cX8_best 35 = .ok (.sipush 720, 3) := by decide +kernel
theorem dX8_best_38 : decode cX8_best 38 = .ok (.if_icmp .ge 56, 3) := by decide +kernel
theorem dX8_best_41 : decode cX8_best 41 = .ok (.iload_n 2, 1) := by decide +kernel
theorem dX8_best_42 : decode cX8_best 42 = .ok (.ifCond .eq 52, 3) := by decide +kernel
theorem dX8_best_45 : decode cX8_best 45 = .ok (.aload_n 0, 1) := by decide +kernel
theorem dX8_best_46 : decode cX8_best 46 = .ok (.getfield 54, 3) := by decide +kernel
theorem dX8_best_49 : decode cX8_best 49 = .ok (.invokevirtual 165, 3) := by decide +kernel
theorem dX8_best_52 : decode cX8_best 52 = .ok (.aload_n 0, 1) := by decide +kernel
theorem dX8_best_53 : decode cX8_best 53 = .ok (.getfield 61, 3) := by decide +kernel
theorem dX8_best_56 : decode cX8_best 56 = .ok (.aload_n 0, 1) := by decide +kernel
theorem dX8_best_57 : decode cX8_best 57 = .ok (.getfield 54, 3) := by decide +kernel
theorem dX8_best_60 : decode cX8_best 60 = .ok (.invokevirtual 232, 3) := by decide +kernel
theorem dX8_best_63 : decode cX8_best 63 = .ok (.aload_n 0, 1) := by decide +kernel
theorem dX8_best_64 : decode cX8_best 64 = .ok (.getfield 54, 3) := by decide +kernel
theorem dX8_best_67 : decode cX8_best 67 = .ok (.getfield 194, 3) := by decide +kernel
theorem dX8_best_70 : decode cX8_best 70 = .ok (.aload_n 0, 1) := by decide +kernel
theorem dX8_best_71 : decode cX8_best 71 = .ok (.getfield 54, 3) := by decide +kernel
theorem dX8_best_74 : decode cX8_best 74 = .ok (.getfield 197, 3) := by decide +kernel
theorem dX8_best_77 : decode cX8_best 77 = .ok (.invokevirtual 235, 3) := by decide +kernel
theorem dX8_best_80 : decode cX8_best 80 = .ok (.aload_n 0, 1) := by decide +kernel
theorem dX8_best_81 : decode cX8_best 81 = .ok (.getfield 54, 3) := by decide +kernel
theorem dX8_best_84 : decode cX8_best 84 = .ok (.invokevirtual 239, 3) := by decide +kernel
theorem dX8_best_87 : decode cX8_best 87 = .ok (.istore_n 2, 1) := by decide +kernel
theorem dX8_best_88 : decode cX8_best 88 = .ok (.iinc 3 1, 3) := by decide +kernel
theorem dX8_best_91 : decode cX8_best 91 = .ok (.goto (-57), 3) := by decide +kernel
theorem dX8_best_94 : decode cX8_best 94 = .ok (.iload_n 1, 1) := by decide +kernel
theorem dX8_best_95 : decode cX8_best 95 = .ok (.lookupswitch 41 #[(0, 25), (1, 33)], 25) := by decide +kernel
theorem dX8_best_120 : decode cX8_best 120 = .ok (.aload_n 0, 1) := by decide +kernel
theorem dX8_best_121 : decode cX8_best 121 = .ok (.getfield 61, 3) := by decide +kernel
theorem dX8_best_124 : decode cX8_best 124 = .ok (.getfield 242, 3) := by decide +kernel
theorem dX8_best_127 : decode cX8_best 127 = .ok (.ireturn, 1) := by decide +kernel
theorem dX8_best_128 : decode cX8_best 128 = .ok (.aload_n 0, 1) := by decide +kernel
theorem dX8_best_129 : decode cX8_best 129 = .ok (.getfield 61, 3) := by decide +kernel
theorem dX8_best_132 : decode cX8_best 132 = .ok (.getfield 243, 3) := by decide +kernel
theorem dX8_best_135 : decode cX8_best 135 = .ok (.ireturn, 1) := by decide +kernel
theorem dX8_best_136 : decode cX8_best 136 = .ok (.aload_n 0, 1) := by decide +kernel
theorem dX8_best_137 : decode cX8_best 137 = .ok (.getfield 61, 3) := by decide +kernel
theorem dX8_best_140 : decode cX8_best 140 = .ok (.getfield 246, 3) := by decide +kernel
theorem dX8_best_143 : decode cX8_best 143 = .ok (.ireturn, 1) := by decide +kernel
theorem dX8_good_0 : decode cX8_good 0 = .ok (.iload_n 1, 1) := by decide +kernel
theorem dX8_good_1 : decode cX8_good 1 = .ok (.ifCond .lt 17, 3) := by decide +kernel
theorem dX8_good_4 : decode cX8_good 4 = .ok (.iload_n 1, 1) := by decide +kernel
theorem dX8_good_5 : decode cX8_good 5 = .ok (.iconst 1, 1) := by decide +kernel
theorem dX8_good_6 : decode cX8_good 6 = .ok (.if_icmp .gt 12, 3) := by decide +kernel
theorem dX8_good_9 : decode cX8_good 9 = .ok (.iload_n 2, 1) := by decide +kernel
theorem dX8_good_10 : decode cX8_good 10 = .ok (.ifCond .lt 8, 3) := by decide +kernel
theorem dX8_good_13 : decode cX8_good 13 = .ok (.iload_n 2, 1) := by decide +kernel
theorem dX8_good_14 : decode cX8_good 14 = .ok (.iconst 2, 1) := by decide +kernel
theorem dX8_good_15 : decode cX8_good 15 = .ok (.if_icmp .le 6, 3) := by decide +kernel
theorem dX8_good_18 : decode cX8_good 18 = .ok (.bipush (-2), 2) := by decide +kernel
theorem dX8_good_20 : decode cX8_good 20 = .ok (.ireturn, 1) := by decide +kernel
theorem dX8_good_21 : decode cX8_good 21 = .ok (.iload_n 1, 1) := by decide +kernel
theorem dX8_good_22 : decode cX8_good 22 = .ok (.ifCond .ne 7, 3) := by decide +kernel
theorem dX8_good_25 : decode cX8_good 25 = .ok (.iconst 4, 1) := by decide +kernel
theorem dX8_good_26 : decode cX8_good 26 = .ok (.goto 4, 3) := by decide +kernel
theorem dX8_good_29 : decode cX8_good 29 = .ok (.iconst 5, 1) := by decide +kernel
theorem dX8_good_30 : decode cX8_good 30 = .ok (.istore_n 3, 1) := by decide +kernel
theorem dX8_good_31 : decode cX8_good 31 = .ok (.aload_n 0, 1) := by decide +kernel
theorem dX8_good_32 : decode cX8_good 32 = .ok (.getfield 61, 3) := by decide +kernel
theorem dX8_good_35 : decode cX8_good 35 = .ok (.invokevirtual 231, 3) := by decide +kernel
theorem dX8_good_38 : decode cX8_good 38 = .ok (.iconst 0, 1) := by decide +kernel
theorem dX8_good_39 : decode cX8_good 39 = .ok (.istore 4, 2) := by decide +kernel
theorem dX8_good_41 : decode cX8_good 41 = .ok (.iload 4, 2) := by decide +kernel
theorem dX8_good_43 : decode cX8_good 43 = .ok (.getstatic 96, 3) := by decide +kernel
theorem dX8_good_46 : decode cX8_good 46 = .ok (.iload_n 3, 1) := by decide +kernel
theorem dX8_good_47 : decode cX8_good 47 = .ok (.iaload, 1) := by decide +kernel
theorem dX8_good_48 : decode cX8_good 48 = .ok (.if_icmp .gt 39, 3) := by decide +kernel
theorem dX8_good_51 : decode cX8_good 51 = .ok (.aload_n 0, 1) := by decide +kernel
theorem dX8_good_52 : decode cX8_good 52 = .ok (.iload_n 3, 1) := by decide +kernel
theorem dX8_good_53 : decode cX8_good 53 = .ok (.iload 4, 2) := by decide +kernel
theorem dX8_good_55 : decode cX8_good 55 = .ok (.invokevirtual 249, 3) := by decide +kernel
theorem dX8_good_58 : decode cX8_good 58 = .ok (.aload_n 0, 1) := by decide +kernel
theorem dX8_good_59 : decode cX8_good 59 = .ok (.getfield 61, 3) := by decide +kernel
theorem dX8_good_62 : decode cX8_good 62 = .ok (.iload 4, 2) := by decide +kernel
theorem dX8_good_64 : decode cX8_good 64 = .ok (.aload_n 0, 1) := by decide +kernel
theorem dX8_good_65 : decode cX8_good 65 = .ok (.getfield 54, 3) := by decide +kernel
theorem dX8_good_68 : decode cX8_good 68 = .ok (.getfield 194, 3) := by decide +kernel
theorem dX8_good_71 : decode cX8_good 71 = .ok (.aload_n 0, 1) := by decide +kernel
theorem dX8_good_72 : decode cX8_good 72 = .ok (.getfield 54, 3) := by decide +kernel
theorem dX8_good_75 : decode cX8_good 75 = .ok (.getfield 197, 3) := by decide +kernel
theorem dX8_good_78 : decode cX8_good 78 = .ok (.invokevirtual 235, 3) := by decide +kernel
theorem dX8_good_81 : decode cX8_good 81 = .ok (.iinc 4 1, 3) := by decide +kernel
theorem dX8_good_84 : decode cX8_good 84 = .ok (.goto (-43), 3) := by decide +kernel
theorem dX8_good_87 : decode cX8_good 87 = .ok (.iload_n 2, 1) := by decide +kernel
theorem dX8_good_88 : decode cX8_good 88 = .ok (.lookupswitch 44 #[(0, 28), (1, 36)], 28) := by decide +kernel
theorem dX8_good_116 : decode cX8_good 116 = .ok (.aload_n 0, 1) := by decide +kernel
theorem dX8_good_117 : decode cX8_good 117 = .ok (.getfield 61, 3) := by decide +kernel
theorem dX8_good_120 : decode cX8_good 120 = .ok (.getfield 246, 3) := by decide +kernel
theorem dX8_good_123 : decode cX8_good 123 = .ok (.ireturn, 1) := by decide +kernel
theorem dX8_good_124 : decode cX8_good 124 = .ok (.aload_n 0, 1) := by decide +kernel
theorem dX8_good_125 : decode cX8_good 125 = .ok (.getfield 61, 3) := by decide +kernel
theorem dX8_good_128 : decode cX8_good 128 = .ok (.getfield 242, 3) := by decide +kernel
theorem dX8_good_131 : decode cX8_good 131 = .ok (.ireturn, 1) := by decide +kernel
theorem dX8_good_132 : decode cX8_good 132 = .ok (.aload_n 0, 1) := by decide +kernel
theorem dX8_good_133 : decode cX8_good 133 = .ok (.getfield 61, 3) := by decide +kernel
theorem dX8_good_136 : decode cX8_good 136 = .ok (.getfield 243, 3) := by decide +kernel
theorem dX8_good_139 : decode cX8_good 139 = .ok (.ireturn, 1) := by decide +kernel
theorem dX8_wetting_0 : decode cX8_wetting 0 = .ok (.iload_n 1, 1) := by decide +kernel
theorem dX8_wetting_1 : decode cX8_wetting 1 = .ok (.ifCond .lt 18, 3) := by decide +kernel
theorem dX8_wetting_4 : decode cX8_wetting 4 = .ok (.iload_n 1, 1) := by decide +kernel
theorem dX8_wetting_5 : decode cX8_wetting 5 = .ok (.bipush 99, 2) := by decide +kernel
theorem dX8_wetting_7 : decode cX8_wetting 7 = .ok (.if_icmp .gt 12, 3) := by decide +kernel
theorem dX8_wetting_10 : decode cX8_wetting 10 = .ok (.iload_n 2, 1) := by decide +kernel
theorem dX8_wetting_11 : decode cX8_wetting 11 = .ok (.ifCond .lt 8, 3) := by decide +kernel
theorem dX8_wetting_14 : decode cX8_wetting 14 = .ok (.iload_n 2, 1) := by decide +kernel
theorem dX8_wetting_15 : decode cX8_wetting 15 = .ok (.iconst 1, 1) := by decide +kernel
theorem dX8_wetting_16 : decode cX8_wetting 16 = .ok (.if_icmp .le 6, 3) := by decide +kernel
theorem dX8_wetting_19 : decode cX8_wetting 19 = .ok (.bipush (-2), 2) := by decide +kernel
theorem dX8_wetting_21 : decode cX8_wetting 21 = .ok (.ireturn, 1) := by decide +kernel
theorem dX8_wetting_22 : decode cX8_wetting 22 = .ok (.aload_n 0, 1) := by decide +kernel
theorem dX8_wetting_23 : decode cX8_wetting 23 = .ok (.getfield 61, 3) := by decide +kernel
theorem dX8_wetting_26 : decode cX8_wetting 26 = .ok (.invokevirtual 231, 3) := by decide +kernel
theorem dX8_wetting_29 : decode cX8_wetting 29 = .ok (.iconst 0, 1) := by decide +kernel
theorem dX8_wetting_30 : decode cX8_wetting 30 = .ok (.istore_n 3, 1) := by decide +kernel
theorem dX8_wetting_31 : decode cX8_wetting 31 = .ok (.iload_n 3, 1) := by decide +kernel
theorem dX8_wetting_32 : decode cX8_wetting 32 = .ok (.iconst 1, 1) := by decide +kernel
theorem dX8_wetting_33 : decode cX8_wetting 33 = .ok (.aload_n 0, 1) := by decide +kernel
theorem dX8_wetting_34 : decode cX8_wetting 34 = .ok (.getfield 10, 3) := by decide +kernel
theorem dX8_wetting_37 : decode cX8_wetting 37 = .ok (.getfield 186, 3) := by decide +kernel
theorem dX8_wetting_40 : decode cX8_wetting 40 = .ok (.ishl, 1) := by decide +kernel
theorem dX8_wetting_41 : decode cX8_wetting 41 = .ok (.if_icmp .ge 61, 3) := by decide +kernel
theorem dX8_wetting_44 : decode cX8_wetting 44 = .ok (.aload_n 0, 1) := by decide +kernel
theorem dX8_wetting_45 : decode cX8_wetting 45 = .ok (.invokevirtual 129, 3) := by decide +kernel
theorem dX8_wetting_48 : decode cX8_wetting 48 = .ok (.aload_n 0, 1) := by decide +kernel
theorem dX8_wetting_49 : decode cX8_wetting 49 = .ok (.getfield 54, 3) := by decide +kernel
theorem dX8_wetting_52 : decode cX8_wetting 52 = .ok (.getfield 224, 3) := by decide +kernel
theorem dX8_wetting_55 : decode cX8_wetting 55 = .ok (.iload_n 3, 1) := by decide +kernel
theorem dX8_wetting_56 : decode cX8_wetting 56 = .ok (.invokevirtual 252, 3) := by decide +kernel
theorem dX8_wetting_59 : decode cX8_wetting 59 = .ok (.aload_n 0, 1) := by decide +kernel
theorem dX8_wetting_60 : decode cX8_wetting 60 = .ok (.getfield 54, 3) := by decide +kernel
theorem dX8_wetting_63 : decode cX8_wetting 63 = .ok (.invokevirtual 132, 3) := by decide +kernel
theorem dX8_wetting_66 : decode cX8_wetting 66 = .ok (.aload_n 0, 1) := by decide +kernel
theorem dX8_wetting_67 : decode cX8_wetting 67 = .ok (.getfield 54, 3) := by decide +kernel
theorem dX8_wetting_70 : decode cX8_wetting 70 = .ok (.invokevirtual 165, 3) := by decide +kernel
theorem dX8_wetting_73 : decode cX8_wetting 73 = .ok (.aload_n 0, 1) := by decide +kernel
theorem dX8_wetting_74 : decode cX8_wetting 74 = .ok (.getfield 61, 3) := by decide +kernel
theorem dX8_wetting_77 : decode cX8_wetting 77 = .ok (.iload_n 3, 1) := by decide +kernel
theorem dX8_wetting_78 : decode cX8_wetting 78 = .ok (.aload_n 0, 1) := by decide +kernel
theorem dX8_wetting_79 : decode cX8_wetting 79 = .ok (.getfield 54, 3) := by decide +kernel
theorem dX8_wetting_82 : decode cX8_wetting 82 = .ok (.getfield 194, 3) := by decide +kernel
theorem dX8_wetting_85 : decode cX8_wetting 85 = .ok (.iload_n 1, 1) := by decide +kernel
theorem dX8_wetting_86 : decode cX8_wetting 86 = .ok (.iload_n 3, 1) := by decide +kernel
theorem dX8_wetting_87 : decode cX8_wetting 87 = .ok (.invokestatic 256, 3) := by decide +kernel
theorem dX8_wetting_90 : decode cX8_wetting 90 = .ok (.imul, 1) := by decide +kernel
theorem dX8_wetting_91 : decode cX8_wetting 91 = .ok (.iadd, 1) := by decide +kernel
theorem dX8_wetting_92 : decode cX8_wetting 92 = .ok (.iconst 0, 1) := by decide +kernel
theorem dX8_wetting_93 : decode cX8_wetting 93 = .ok (.invokevirtual 235, 3) := by decide +kernel
theorem dX8_wetting_96 : decode cX8_wetting 96 = .ok (.iinc 3 1, 3) := by decide +kernel
theorem dX8_wetting_99 : decode cX8_wetting 99 = .ok (.goto (-68), 3) := by decide +kernel
theorem dX8_wetting_102 : decode cX8_wetting 102 = .ok (.iload_n 2, 1) := by decide +kernel
theorem dX8_wetting_103 : decode cX8_wetting 103 = .ok (.ifCond .ne 13, 3) := by decide +kernel
theorem dX8_wetting_106 : decode cX8_wetting 106 = .ok (.aload_n 0, 1) := by decide +kernel
theorem dX8_wetting_107 : decode cX8_wetting 107 = .ok (.getfield 61, 3) := by decide +kernel
theorem dX8_wetting_110 : decode cX8_wetting 110 = .ok (.getfield 246, 3) := by decide +kernel
theorem dX8_wetting_113 : decode cX8_wetting 113 = .ok (.goto 10, 3) := by decide +kernel
theorem dX8_wetting_116 : decode cX8_wetting 116 = .ok (.aload_n 0, 1) := by decide +kernel
theorem dX8_wetting_117 : decode cX8_wetting 117 = .ok (.getfield 61, 3) := by decide +kernel
theorem dX8_wetting_120 : decode cX8_wetting 120 = .ok (.getfield 242, 3) := by decide +kernel
theorem dX8_wetting_123 : decode cX8_wetting 123 = .ok (.ireturn, 1) := by decide +kernel
theorem dX8_alone_0 : decode cX8_alone 0 = .ok (.aload_n 0, 1) := by decide +kernel
theorem dX8_alone_1 : decode cX8_alone 1 = .ok (.getfield 10, 3) := by decide +kernel
theorem dX8_alone_4 : decode cX8_alone 4 = .ok (.getfield 186, 3) := by decide +kernel
theorem dX8_alone_7 : decode cX8_alone 7 = .ok (.istore_n 1, 1) := by decide +kernel
theorem dX8_alone_8 : decode cX8_alone 8 = .ok (.iload_n 1, 1) := by decide +kernel
theorem dX8_alone_9 : decode cX8_alone 9 = .ok (.ifCond .le 50, 3) := by decide +kernel
theorem dX8_alone_12 : decode cX8_alone 12 = .ok (.aload_n 0, 1) := by decide +kernel
theorem dX8_alone_13 : decode cX8_alone 13 = .ok (.invokevirtual 129, 3) := by decide +kernel
theorem dX8_alone_16 : decode cX8_alone 16 = .ok (.aload_n 0, 1) := by decide +kernel
theorem dX8_alone_17 : decode cX8_alone 17 = .ok (.getfield 54, 3) := by decide +kernel
theorem dX8_alone_20 : decode cX8_alone 20 = .ok (.getfield 224, 3) := by decide +kernel
theorem dX8_alone_23 : decode cX8_alone 23 = .ok (.iload_n 1, 1) := by decide +kernel
theorem dX8_alone_24 : decode cX8_alone 24 = .ok (.putfield 186, 3) := by decide +kernel
theorem dX8_alone_27 : decode cX8_alone 27 = .ok (.aload_n 0, 1) := by decide +kernel
theorem dX8_alone_28 : decode cX8_alone 28 = .ok (.getfield 54, 3) := by decide +kernel
theorem dX8_alone_31 : decode cX8_alone 31 = .ok (.invokevirtual 132, 3) := by decide +kernel
theorem dX8_alone_34 : decode cX8_alone 34 = .ok (.aload_n 0, 1) := by decide +kernel
theorem dX8_alone_35 : decode cX8_alone 35 = .ok (.getfield 54, 3) := by decide +kernel
theorem dX8_alone_38 : decode cX8_alone 38 = .ok (.invokevirtual 165, 3) := by decide +kernel
theorem dX8_alone_41 : decode cX8_alone 41 = .ok (.aload_n 0, 1) := by decide +kernel
theorem dX8_alone_42 : decode cX8_alone 42 = .ok (.getfield 54, 3) := by decide +kernel
theorem dX8_alone_45 : decode cX8_alone 45 = .ok (.getfield 194, 3) := by decide +kernel
theorem dX8_alone_48 : decode cX8_alone 48 = .ok (.ifCond .ne 5, 3) := by decide +kernel
theorem dX8_alone_51 : decode cX8_alone 51 = .ok (.iload_n 1, 1) := by decide +kernel
theorem dX8_alone_52 : decode cX8_alone 52 = .ok (.ireturn, 1) := by decide +kernel
theorem dX8_alone_53 : decode cX8_alone 53 = .ok (.iinc 1 (-1), 3) := by decide +kernel
theorem dX8_alone_56 : decode cX8_alone 56 = .ok (.goto (-48), 3) := by decide +kernel
theorem dX8_alone_59 : decode cX8_alone 59 = .ok (.iconst 0, 1) := by decide +kernel
theorem dX8_alone_60 : decode cX8_alone 60 = .ok (.ireturn, 1) := by decide +kernel
theorem dX8_tooWarm_0 : decode cX8_tooWarm 0 = .ok (.iconst (-1), 1) := by decide +kernel
theorem dX8_tooWarm_1 : decode cX8_tooWarm 1 = .ok (.istore_n 1, 1) := by decide +kernel
theorem dX8_tooWarm_2 : decode cX8_tooWarm 2 = .ok (.getstatic 96, 3) := by decide +kernel
theorem dX8_tooWarm_5 : decode cX8_tooWarm 5 = .ok (.iconst 0, 1) := by decide +kernel
theorem dX8_tooWarm_6 : decode cX8_tooWarm 6 = .ok (.iaload, 1) := by decide +kernel
theorem dX8_tooWarm_7 : decode cX8_tooWarm 7 = .ok (.istore_n 2, 1) := by decide +kernel
theorem dX8_tooWarm_8 : decode cX8_tooWarm 8 = .ok (.iload_n 2, 1) := by decide +kernel
theorem dX8_tooWarm_9 : decode cX8_tooWarm 9 = .ok (.ifCond .lt 29, 3) := by decide +kernel
theorem dX8_tooWarm_12 : decode cX8_tooWarm 12 = .ok (.aload_n 0, 1) := by decide +kernel
theorem dX8_tooWarm_13 : decode cX8_tooWarm 13 = .ok (.iconst 0, 1) := by decide +kernel
theorem dX8_tooWarm_14 : decode cX8_tooWarm 14 = .ok (.iload_n 2, 1) := by decide +kernel
theorem dX8_tooWarm_15 : decode cX8_tooWarm 15 = .ok (.invokevirtual 249, 3) := by decide +kernel
theorem dX8_tooWarm_18 : decode cX8_tooWarm 18 = .ok (.aload_n 0, 1) := by decide +kernel
theorem dX8_tooWarm_19 : decode cX8_tooWarm 19 = .ok (.getfield 54, 3) := by decide +kernel
theorem dX8_tooWarm_22 : decode cX8_tooWarm 22 = .ok (.invokevirtual 203, 3) := by decide +kernel
theorem dX8_tooWarm_25 : decode cX8_tooWarm 25 = .ok (.ifCond .ne 5, 3) := by decide +kernel
theorem dX8_tooWarm_28 : decode cX8_tooWarm 28 = .ok (.iload_n 1, 1) := by decide +kernel
theorem dX8_tooWarm_29 : decode cX8_tooWarm 29 = .ok (.ireturn, 1) := by decide +kernel
theorem dX8_tooWarm_30 : decode cX8_tooWarm 30 = .ok (.iload_n 2, 1) := by decide +kernel
theorem dX8_tooWarm_31 : decode cX8_tooWarm 31 = .ok (.istore_n 1, 1) := by decide +kernel
theorem dX8_tooWarm_32 : decode cX8_tooWarm 32 = .ok (.iinc 2 (-1), 3) := by decide +kernel
theorem dX8_tooWarm_35 : decode cX8_tooWarm 35 = .ok (.goto (-27), 3) := by decide +kernel
theorem dX8_tooWarm_38 : decode cX8_tooWarm 38 = .ok (.iload_n 1, 1) := by decide +kernel
theorem dX8_tooWarm_39 : decode cX8_tooWarm 39 = .ok (.ireturn, 1) := by decide +kernel
theorem dX8_gains_0 : decode cX8_gains 0 = .ok (.iload_n 1, 1) := by decide +kernel
theorem dX8_gains_1 : decode cX8_gains 1 = .ok (.lookupswitch 95 #[(0, 27), (1, 65)], 27) := by decide +kernel
theorem dX8_gains_28 : decode cX8_gains 28 = .ok (.aload_n 0, 1) := by decide +kernel
theorem dX8_gains_29 : decode cX8_gains 29 = .ok (.iconst 2, 1) := by decide +kernel
theorem dX8_gains_30 : decode cX8_gains 30 = .ok (.getstatic 96, 3) := by decide +kernel
theorem dX8_gains_33 : decode cX8_gains 33 = .ok (.iconst 2, 1) := by decide +kernel
theorem dX8_gains_34 : decode cX8_gains 34 = .ok (.iaload, 1) := by decide +kernel
theorem dX8_gains_35 : decode cX8_gains 35 = .ok (.invokevirtual 249, 3) := by decide +kernel
theorem dX8_gains_38 : decode cX8_gains 38 = .ok (.aload_n 0, 1) := by decide +kernel
theorem dX8_gains_39 : decode cX8_gains 39 = .ok (.getfield 54, 3) := by decide +kernel
theorem dX8_gains_42 : decode cX8_gains 42 = .ok (.getfield 194, 3) := by decide +kernel
theorem dX8_gains_45 : decode cX8_gains 45 = .ok (.istore_n 2, 1) := by decide +kernel
theorem dX8_gains_46 : decode cX8_gains 46 = .ok (.aload_n 0, 1) := by decide +kernel
theorem dX8_gains_47 : decode cX8_gains 47 = .ok (.iconst 2, 1) := by decide +kernel
theorem dX8_gains_48 : decode cX8_gains 48 = .ok (.getstatic 92, 3) := by decide +kernel
theorem dX8_gains_51 : decode cX8_gains 51 = .ok (.iconst 2, 1) := by decide +kernel
theorem dX8_gains_52 : decode cX8_gains 52 = .ok (.iaload, 1) := by decide +kernel
theorem dX8_gains_53 : decode cX8_gains 53 = .ok (.invokevirtual 249, 3) := by decide +kernel
theorem dX8_gains_56 : decode cX8_gains 56 = .ok (.iload_n 2, 1) := by decide +kernel
theorem dX8_gains_57 : decode cX8_gains 57 = .ok (.aload_n 0, 1) := by decide +kernel
theorem dX8_gains_58 : decode cX8_gains 58 = .ok (.getfield 54, 3) := by decide +kernel
theorem dX8_gains_61 : decode cX8_gains 61 = .ok (.getfield 194, 3) := by decide +kernel
theorem dX8_gains_64 : decode cX8_gains 64 = .ok (.isub, 1) := by decide +kernel
theorem dX8_gains_65 : decode cX8_gains 65 = .ok (.ireturn, 1) := by decide +kernel
theorem dX8_gains_66 : decode cX8_gains 66 = .ok (.aload_n 0, 1) := by decide +kernel
theorem dX8_gains_67 : decode cX8_gains 67 = .ok (.iconst 3, 1) := by decide +kernel
theorem dX8_gains_68 : decode cX8_gains 68 = .ok (.iconst 1, 1) := by decide +kernel
theorem dX8_gains_69 : decode cX8_gains 69 = .ok (.invokevirtual 249, 3) := by decide +kernel
theorem dX8_gains_72 : decode cX8_gains 72 = .ok (.aload_n 0, 1) := by decide +kernel
theorem dX8_gains_73 : decode cX8_gains 73 = .ok (.getfield 54, 3) := by decide +kernel
theorem dX8_gains_76 : decode cX8_gains 76 = .ok (.getfield 197, 3) := by decide +kernel
theorem dX8_gains_79 : decode cX8_gains 79 = .ok (.istore_n 3, 1) := by decide +kernel
theorem dX8_gains_80 : decode cX8_gains 80 = .ok (.aload_n 0, 1) := by decide +kernel
theorem dX8_gains_81 : decode cX8_gains 81 = .ok (.iconst 3, 1) := by decide +kernel
theorem dX8_gains_82 : decode cX8_gains 82 = .ok (.iconst 2, 1) := by decide +kernel
theorem dX8_gains_83 : decode cX8_gains 83 = .ok (.invokevirtual 249, 3) := by decide +kernel
theorem dX8_gains_86 : decode cX8_gains 86 = .ok (.iload_n 3, 1) := by decide +kernel
theorem dX8_gains_87 : decode cX8_gains 87 = .ok (.aload_n 0, 1) := by decide +kernel
theorem dX8_gains_88 : decode cX8_gains 88 = .ok (.getfield 54, 3) := by decide +kernel
theorem dX8_gains_91 : decode cX8_gains 91 = .ok (.getfield 197, 3) := by decide +kernel
theorem dX8_gains_94 : decode cX8_gains 94 = .ok (.isub, 1) := by decide +kernel
theorem dX8_gains_95 : decode cX8_gains 95 = .ok (.ireturn, 1) := by decide +kernel
theorem dX8_gains_96 : decode cX8_gains 96 = .ok (.ldc 164, 2) := by decide +kernel
theorem dX8_gains_98 : decode cX8_gains 98 = .ok (.ireturn, 1) := by decide +kernel
theorem dX8_buckets_0 : decode cX8_buckets 0 = .ok (.iload_n 1, 1) := by decide +kernel
theorem dX8_buckets_1 : decode cX8_buckets 1 = .ok (.iconst 1, 1) := by decide +kernel
theorem dX8_buckets_2 : decode cX8_buckets 2 = .ok (.if_icmp .lt 18, 3) := by decide +kernel
theorem dX8_buckets_5 : decode cX8_buckets 5 = .ok (.iload_n 1, 1) := by decide +kernel
theorem dX8_buckets_6 : decode cX8_buckets 6 = .ok (.bipush 40, 2) := by decide +kernel
theorem dX8_buckets_8 : decode cX8_buckets 8 = .ok (.if_icmp .gt 12, 3) := by decide +kernel
theorem dX8_buckets_11 : decode cX8_buckets 11 = .ok (.iload_n 2, 1) := by decide +kernel
theorem dX8_buckets_12 : decode cX8_buckets 12 = .ok (.ifCond .lt 8, 3) := by decide +kernel
theorem dX8_buckets_15 : decode cX8_buckets 15 = .ok (.iload_n 2, 1) := by decide +kernel
theorem dX8_buckets_16 : decode cX8_buckets 16 = .ok (.iconst 1, 1) := by decide +kernel
theorem dX8_buckets_17 : decode cX8_buckets 17 = .ok (.if_icmp .le 6, 3) := by decide +kernel
theorem dX8_buckets_20 : decode cX8_buckets 20 = .ok (.bipush (-2), 2) := by decide +kernel
theorem dX8_buckets_22 : decode cX8_buckets 22 = .ok (.ireturn, 1) := by decide +kernel
theorem dX8_buckets_23 : decode cX8_buckets 23 = .ok (.aload_n 0, 1) := by decide +kernel
theorem dX8_buckets_24 : decode cX8_buckets 24 = .ok (.invokevirtual 129, 3) := by decide +kernel
theorem dX8_buckets_27 : decode cX8_buckets 27 = .ok (.aload_n 0, 1) := by decide +kernel
theorem dX8_buckets_28 : decode cX8_buckets 28 = .ok (.getfield 54, 3) := by decide +kernel
theorem dX8_buckets_31 : decode cX8_buckets 31 = .ok (.invokevirtual 132, 3) := by decide +kernel
theorem dX8_buckets_34 : decode cX8_buckets 34 = .ok (.aload_n 0, 1) := by decide +kernel
theorem dX8_buckets_35 : decode cX8_buckets 35 = .ok (.getfield 54, 3) := by decide +kernel
theorem dX8_buckets_38 : decode cX8_buckets 38 = .ok (.invokevirtual 165, 3) := by decide +kernel
theorem dX8_buckets_41 : decode cX8_buckets 41 = .ok (.iconst 0, 1) := by decide +kernel
theorem dX8_buckets_42 : decode cX8_buckets 42 = .ok (.istore_n 3, 1) := by decide +kernel
theorem dX8_buckets_43 : decode cX8_buckets 43 = .ok (.iconst 0, 1) := by decide +kernel
theorem dX8_buckets_44 : decode cX8_buckets 44 = .ok (.istore 4, 2) := by decide +kernel
theorem dX8_buckets_46 : decode cX8_buckets 46 = .ok (.iconst 0, 1) := by decide +kernel
theorem dX8_buckets_47 : decode cX8_buckets 47 = .ok (.istore 5, 2) := by decide +kernel
theorem dX8_buckets_49 : decode cX8_buckets 49 = .ok (.iconst 0, 1) := by decide +kernel
theorem dX8_buckets_50 : decode cX8_buckets 50 = .ok (.istore 6, 2) := by decide +kernel
theorem dX8_buckets_52 : decode cX8_buckets 52 = .ok (.iconst 0, 1) := by decide +kernel
theorem dX8_buckets_53 : decode cX8_buckets 53 = .ok (.istore 7, 2) := by decide +kernel
theorem dX8_buckets_55 : decode cX8_buckets 55 = .ok (.iload 7, 2) := by decide +kernel
theorem dX8_buckets_57 : decode cX8_buckets 57 = .ok (.aload_n 0, 1) := by decide +kernel
theorem dX8_buckets_58 : decode cX8_buckets 58 = .ok (.getfield 10, 3) := by decide +kernel
theorem dX8_buckets_61 : decode cX8_buckets 61 = .ok (.getfield 186, 3) := by decide +kernel
theorem dX8_buckets_64 : decode cX8_buckets 64 = .ok (.if_icmp .ge 106, 3) := by decide +kernel
theorem dX8_buckets_67 : decode cX8_buckets 67 = .ok (.aload_n 0, 1) := by decide +kernel
theorem dX8_buckets_68 : decode cX8_buckets 68 = .ok (.getfield 54, 3) := by decide +kernel
theorem dX8_buckets_71 : decode cX8_buckets 71 = .ok (.getfield 212, 3) := by decide +kernel
theorem dX8_buckets_74 : decode cX8_buckets 74 = .ok (.iload 7, 2) := by decide +kernel
theorem dX8_buckets_76 : decode cX8_buckets 76 = .ok (.iaload, 1) := by decide +kernel
theorem dX8_buckets_77 : decode cX8_buckets 77 = .ok (.istore 8, 2) := by decide +kernel
theorem dX8_buckets_79 : decode cX8_buckets 79 = .ok (.aload_n 0, 1) := by decide +kernel
theorem dX8_buckets_80 : decode cX8_buckets 80 = .ok (.getfield 10, 3) := by decide +kernel
theorem dX8_buckets_83 : decode cX8_buckets 83 = .ok (.getfield 119, 3) := by decide +kernel
theorem dX8_buckets_86 : decode cX8_buckets 86 = .ok (.iload 7, 2) := by decide +kernel
theorem dX8_buckets_88 : decode cX8_buckets 88 = .ok (.iaload, 1) := by decide +kernel
theorem dX8_buckets_89 : decode cX8_buckets 89 = .ok (.istore 9, 2) := by decide +kernel
theorem dX8_buckets_91 : decode cX8_buckets 91 = .ok (.iload 8, 2) := by decide +kernel
theorem dX8_buckets_93 : decode cX8_buckets 93 = .ok (.iconst (-1), 1) := by decide +kernel
theorem dX8_buckets_94 : decode cX8_buckets 94 = .ok (.if_icmp .ne 6, 3) := by decide +kernel
theorem dX8_buckets_97 : decode cX8_buckets 97 = .ok (.goto 67, 3) := by decide +kernel
theorem dX8_buckets_100 : decode cX8_buckets 100 = .ok (.iload 5, 2) := by decide +kernel
theorem dX8_buckets_102 : decode cX8_buckets 102 = .ok (.iload 9, 2) := by decide +kernel
theorem dX8_buckets_104 : decode cX8_buckets 104 = .ok (.if_icmp .lt 21, 3) := by decide +kernel
theorem dX8_buckets_107 : decode cX8_buckets 107 = .ok (.iload 8, 2) := by decide +kernel
theorem dX8_buckets_109 : decode cX8_buckets 109 = .ok (.iload 6, 2) := by decide +kernel
theorem dX8_buckets_111 : decode cX8_buckets 111 = .ok (.isub, 1) := by decide +kernel
theorem dX8_buckets_112 : decode cX8_buckets 112 = .ok (.aload_n 0, 1) := by decide +kernel
theorem dX8_buckets_113 : decode cX8_buckets 113 = .ok (.getfield 54, 3) := by decide +kernel
theorem dX8_buckets_116 : decode cX8_buckets 116 = .ok (.getfield 135, 3) := by decide +kernel
theorem dX8_buckets_119 : decode cX8_buckets 119 = .ok (.iload 7, 2) := by decide +kernel
theorem dX8_buckets_121 : decode cX8_buckets 121 = .ok (.iaload, 1) := by decide +kernel
theorem dX8_buckets_122 : decode cX8_buckets 122 = .ok (.if_icmp .le 35, 3) := by decide +kernel
theorem dX8_buckets_125 : decode cX8_buckets 125 = .ok (.iload 9, 2) := by decide +kernel
theorem dX8_buckets_127 : decode cX8_buckets 127 = .ok (.iload_n 1, 1) := by decide +kernel
theorem dX8_buckets_128 : decode cX8_buckets 128 = .ok (.iadd, 1) := by decide +kernel
theorem dX8_buckets_129 : decode cX8_buckets 129 = .ok (.iconst 1, 1) := by decide +kernel
theorem dX8_buckets_130 : decode cX8_buckets 130 = .ok (.isub, 1) := by decide +kernel
theorem dX8_buckets_131 : decode cX8_buckets 131 = .ok (.iload_n 1, 1) := by decide +kernel
theorem dX8_buckets_132 : decode cX8_buckets 132 = .ok (.idiv, 1) := by decide +kernel
theorem dX8_buckets_133 : decode cX8_buckets 133 = .ok (.istore 10, 2) := by decide +kernel
theorem dX8_buckets_135 : decode cX8_buckets 135 = .ok (.iload 4, 2) := by decide +kernel
theorem dX8_buckets_137 : decode cX8_buckets 137 = .ok (.iload 5, 2) := by decide +kernel
theorem dX8_buckets_139 : decode cX8_buckets 139 = .ok (.iadd, 1) := by decide +kernel
theorem dX8_buckets_140 : decode cX8_buckets 140 = .ok (.istore 4, 2) := by decide +kernel
theorem dX8_buckets_142 : decode cX8_buckets 142 = .ok (.iload_n 3, 1) := by decide +kernel
theorem dX8_buckets_143 : decode cX8_buckets 143 = .ok (.iload 10, 2) := by decide +kernel
theorem dX8_buckets_145 : decode cX8_buckets 145 = .ok (.iadd, 1) := by decide +kernel
theorem dX8_buckets_146 : decode cX8_buckets 146 = .ok (.istore_n 3, 1) := by decide +kernel
theorem dX8_buckets_147 : decode cX8_buckets 147 = .ok (.iload 10, 2) := by decide +kernel
theorem dX8_buckets_149 : decode cX8_buckets 149 = .ok (.iload_n 1, 1) := by decide +kernel
theorem dX8_buckets_150 : decode cX8_buckets 150 = .ok (.imul, 1) := by decide +kernel
theorem dX8_buckets_151 : decode cX8_buckets 151 = .ok (.istore 5, 2) := by decide +kernel
theorem dX8_buckets_153 : decode cX8_buckets 153 = .ok (.iload 8, 2) := by decide +kernel
theorem dX8_buckets_155 : decode cX8_buckets 155 = .ok (.istore 6, 2) := by decide +kernel
theorem dX8_buckets_157 : decode cX8_buckets 157 = .ok (.iload 5, 2) := by decide +kernel
theorem dX8_buckets_159 : decode cX8_buckets 159 = .ok (.iload 9, 2) := by decide +kernel
theorem dX8_buckets_161 : decode cX8_buckets 161 = .ok (.isub, 1) := by decide +kernel
theorem dX8_buckets_162 : decode cX8_buckets 162 = .ok (.istore 5, 2) := by decide +kernel
theorem dX8_buckets_164 : decode cX8_buckets 164 = .ok (.iinc 7 1, 3) := by decide +kernel
theorem dX8_buckets_167 : decode cX8_buckets 167 = .ok (.goto (-112), 3) := by decide +kernel
theorem dX8_buckets_170 : decode cX8_buckets 170 = .ok (.iload_n 2, 1) := by decide +kernel
theorem dX8_buckets_171 : decode cX8_buckets 171 = .ok (.ifCond .ne 7, 3) := by decide +kernel
theorem dX8_buckets_174 : decode cX8_buckets 174 = .ok (.iload_n 3, 1) := by decide +kernel
theorem dX8_buckets_175 : decode cX8_buckets 175 = .ok (.goto 8, 3) := by decide +kernel
theorem dX8_buckets_178 : decode cX8_buckets 178 = .ok (.iload 4, 2) := by decide +kernel
theorem dX8_buckets_180 : decode cX8_buckets 180 = .ok (.iload 5, 2) := by decide +kernel
theorem dX8_buckets_182 : decode cX8_buckets 182 = .ok (.iadd, 1) := by decide +kernel
theorem dX8_buckets_183 : decode cX8_buckets 183 = .ok (.ireturn, 1) := by decide +kernel
theorem dX8_books_0 : decode cX8_books 0 = .ok (.aload_n 0, 1) := by decide +kernel
theorem dX8_books_1 : decode cX8_books 1 = .ok (.iload_n 1, 1) := by decide +kernel
theorem dX8_books_2 : decode cX8_books 2 = .ok (.invokevirtual 171, 3) := by decide +kernel
theorem dX8_books_5 : decode cX8_books 5 = .ok (.astore_n 3, 1) := by decide +kernel
theorem dX8_books_6 : decode cX8_books 6 = .ok (.aload_n 3, 1) := by decide +kernel
theorem dX8_books_7 : decode cX8_books 7 = .ok (.ifnull 37, 3) := by decide +kernel
theorem dX8_books_10 : decode cX8_books 10 = .ok (.iload_n 2, 1) := by decide +kernel
theorem dX8_books_11 : decode cX8_books 11 = .ok (.ifCond .lt 33, 3) := by decide +kernel
theorem dX8_books_14 : decode cX8_books 14 = .ok (.iload_n 2, 1) := by decide +kernel
theorem dX8_books_15 : decode cX8_books 15 = .ok (.iconst 3, 1) := by decide +kernel
theorem dX8_books_16 : decode cX8_books 16 = .ok (.if_icmp .le 9, 3) := by decide +kernel
theorem dX8_books_19 : decode cX8_books 19 = .ok (.iload_n 2, 1) := by decide +kernel
theorem dX8_books_20 : decode cX8_books 20 = .ok (.bipush 10, 2) := by decide +kernel
theorem dX8_books_22 : decode cX8_books 22 = .ok (.if_icmp .lt 22, 3) := by decide +kernel
theorem dX8_books_25 : decode cX8_books 25 = .ok (.iload_n 2, 1) := by decide +kernel
theorem dX8_books_26 : decode cX8_books 26 = .ok (.iconst 3, 1) := by decide +kernel
theorem dX8_books_27 : decode cX8_books 27 = .ok (.if_icmp .le 20, 3) := by decide +kernel
theorem dX8_books_30 : decode cX8_books 30 = .ok (.aload_n 0, 1) := by decide +kernel
theorem dX8_books_31 : decode cX8_books 31 = .ok (.getfield 10, 3) := by decide +kernel
theorem dX8_books_34 : decode cX8_books 34 = .ok (.iload_n 2, 1) := by decide +kernel
theorem dX8_books_35 : decode cX8_books 35 = .ok (.bipush 10, 2) := by decide +kernel
theorem dX8_books_37 : decode cX8_books 37 = .ok (.isub, 1) := by decide +kernel
theorem dX8_books_38 : decode cX8_books 38 = .ok (.invokevirtual 99, 3) := by decide +kernel
theorem dX8_books_41 : decode cX8_books 41 = .ok (.ifCond .ne 6, 3) := by decide +kernel
theorem dX8_books_44 : decode cX8_books 44 = .ok (.bipush (-2), 2) := by decide +kernel
theorem dX8_books_46 : decode cX8_books 46 = .ok (.ireturn, 1) := by decide +kernel
theorem dX8_books_47 : decode cX8_books 47 = .ok (.aload_n 3, 1) := by decide +kernel
theorem dX8_books_48 : decode cX8_books 48 = .ok (.invokevirtual 179, 3) := by decide +kernel
theorem dX8_books_51 : decode cX8_books 51 = .ok (.ifCond .eq 6, 3) := by decide +kernel
theorem dX8_books_54 : decode cX8_books 54 = .ok (.bipush (-11), 2) := by decide +kernel
theorem dX8_books_56 : decode cX8_books 56 = .ok (.ireturn, 1) := by decide +kernel
theorem dX8_books_57 : decode cX8_books 57 = .ok (.aload_n 3, 1) := by decide +kernel
theorem dX8_books_58 : decode cX8_books 58 = .ok (.getfield 183, 3) := by decide +kernel
theorem dX8_books_61 : decode cX8_books 61 = .ok (.aload_n 0, 1) := by decide +kernel
theorem dX8_books_62 : decode cX8_books 62 = .ok (.getfield 10, 3) := by decide +kernel
theorem dX8_books_65 : decode cX8_books 65 = .ok (.getfield 186, 3) := by decide +kernel
theorem dX8_books_68 : decode cX8_books 68 = .ok (.if_icmp .eq 6, 3) := by decide +kernel
theorem dX8_books_71 : decode cX8_books 71 = .ok (.bipush (-2), 2) := by decide +kernel
theorem dX8_books_73 : decode cX8_books 73 = .ok (.ireturn, 1) := by decide +kernel
theorem dX8_books_74 : decode cX8_books 74 = .ok (.iload_n 2, 1) := by decide +kernel
theorem dX8_books_75 : decode cX8_books 75 = .ok (.tableswitch 57 0 3 #[29, 35, 43, 51], 29) := by decide +kernel
theorem dX8_books_104 : decode cX8_books 104 = .ok (.aload_n 0, 1) := by decide +kernel
theorem dX8_books_105 : decode cX8_books 105 = .ok (.aload_n 3, 1) := by decide +kernel
theorem dX8_books_106 : decode cX8_books 106 = .ok (.invokevirtual 261, 3) := by decide +kernel
theorem dX8_books_109 : decode cX8_books 109 = .ok (.ireturn, 1) := by decide +kernel
theorem dX8_books_110 : decode cX8_books 110 = .ok (.aload_n 0, 1) := by decide +kernel
theorem dX8_books_111 : decode cX8_books 111 = .ok (.aload_n 3, 1) := by decide +kernel
theorem dX8_books_112 : decode cX8_books 112 = .ok (.iconst 2, 1) := by decide +kernel
theorem dX8_books_113 : decode cX8_books 113 = .ok (.invokevirtual 265, 3) := by decide +kernel
theorem dX8_books_116 : decode cX8_books 116 = .ok (.l2i, 1) := by decide +kernel
theorem dX8_books_117 : decode cX8_books 117 = .ok (.ireturn, 1) := by decide +kernel
theorem dX8_books_118 : decode cX8_books 118 = .ok (.aload_n 0, 1) := by decide +kernel
theorem dX8_books_119 : decode cX8_books 119 = .ok (.aload_n 3, 1) := by decide +kernel
theorem dX8_books_120 : decode cX8_books 120 = .ok (.iconst 1, 1) := by decide +kernel
theorem dX8_books_121 : decode cX8_books 121 = .ok (.invokevirtual 265, 3) := by decide +kernel
theorem dX8_books_124 : decode cX8_books 124 = .ok (.l2i, 1) := by decide +kernel
theorem dX8_books_125 : decode cX8_books 125 = .ok (.ireturn, 1) := by decide +kernel
theorem dX8_books_126 : decode cX8_books 126 = .ok (.aload_n 0, 1) := by decide +kernel
theorem dX8_books_127 : decode cX8_books 127 = .ok (.aload_n 3, 1) := by decide +kernel
theorem dX8_books_128 : decode cX8_books 128 = .ok (.invokevirtual 269, 3) := by decide +kernel
theorem dX8_books_131 : decode cX8_books 131 = .ok (.ireturn, 1) := by decide +kernel
theorem dX8_books_132 : decode cX8_books 132 = .ok (.aload_n 0, 1) := by decide +kernel
theorem dX8_books_133 : decode cX8_books 133 = .ok (.aload_n 3, 1) := by decide +kernel
theorem dX8_books_134 : decode cX8_books 134 = .ok (.iload_n 2, 1) := by decide +kernel
theorem dX8_books_135 : decode cX8_books 135 = .ok (.bipush 10, 2) := by decide +kernel
theorem dX8_books_137 : decode cX8_books 137 = .ok (.isub, 1) := by decide +kernel
theorem dX8_books_138 : decode cX8_books 138 = .ok (.invokevirtual 272, 3) := by decide +kernel
theorem dX8_books_141 : decode cX8_books 141 = .ok (.ireturn, 1) := by decide +kernel
theorem dX8_warms_0 : decode cX8_warms 0 = .ok (.aload_n 0, 1) := by decide +kernel
theorem dX8_warms_1 : decode cX8_warms 1 = .ok (.iload_n 1, 1) := by decide +kernel
theorem dX8_warms_2 : decode cX8_warms 2 = .ok (.invokevirtual 171, 3) := by decide +kernel
theorem dX8_warms_5 : decode cX8_warms 5 = .ok (.astore_n 2, 1) := by decide +kernel
theorem dX8_warms_6 : decode cX8_warms 6 = .ok (.aload_n 2, 1) := by decide +kernel
theorem dX8_warms_7 : decode cX8_warms 7 = .ok (.ifnull 24, 3) := by decide +kernel
theorem dX8_warms_10 : decode cX8_warms 10 = .ok (.aload_n 2, 1) := by decide +kernel
theorem dX8_warms_11 : decode cX8_warms 11 = .ok (.invokevirtual 179, 3) := by decide +kernel
theorem dX8_warms_14 : decode cX8_warms 14 = .ok (.ifCond .ne 17, 3) := by decide +kernel
theorem dX8_warms_17 : decode cX8_warms 17 = .ok (.aload_n 2, 1) := by decide +kernel
theorem dX8_warms_18 : decode cX8_warms 18 = .ok (.getfield 183, 3) := by decide +kernel
theorem dX8_warms_21 : decode cX8_warms 21 = .ok (.aload_n 0, 1) := by decide +kernel
theorem dX8_warms_22 : decode cX8_warms 22 = .ok (.getfield 10, 3) := by decide +kernel
theorem dX8_warms_25 : decode cX8_warms 25 = .ok (.getfield 186, 3) := by decide +kernel
theorem dX8_warms_28 : decode cX8_warms 28 = .ok (.if_icmp .eq 7, 3) := by decide +kernel
theorem dX8_warms_31 : decode cX8_warms 31 = .ok (.ldc2_w 276, 3) := by decide +kernel
theorem dX8_warms_34 : decode cX8_warms 34 = .ok (.lreturn, 1) := by decide +kernel
theorem dX8_warms_35 : decode cX8_warms 35 = .ok (.aload_n 0, 1) := by decide +kernel
theorem dX8_warms_36 : decode cX8_warms 36 = .ok (.aload_n 2, 1) := by decide +kernel
theorem dX8_warms_37 : decode cX8_warms 37 = .ok (.iconst 0, 1) := by decide +kernel
theorem dX8_warms_38 : decode cX8_warms 38 = .ok (.invokevirtual 265, 3) := by decide +kernel
theorem dX8_warms_41 : decode cX8_warms 41 = .ok (.lreturn, 1) := by decide +kernel
theorem dX8_film_0 : decode cX8_film 0 = .ok (.aload_n 0, 1) := by decide +kernel
theorem dX8_film_1 : decode cX8_film 1 = .ok (.iload_n 1, 1) := by decide +kernel
theorem dX8_film_2 : decode cX8_film 2 = .ok (.invokevirtual 171, 3) := by decide +kernel
theorem dX8_film_5 : decode cX8_film 5 = .ok (.astore_n 2, 1) := by decide +kernel
theorem dX8_film_6 : decode cX8_film 6 = .ok (.aload_n 2, 1) := by decide +kernel
theorem dX8_film_7 : decode cX8_film 7 = .ok (.ifnonnull 6, 3) := by decide +kernel
theorem dX8_film_10 : decode cX8_film 10 = .ok (.bipush (-2), 2) := by decide +kernel
theorem dX8_film_12 : decode cX8_film 12 = .ok (.ireturn, 1) := by decide +kernel
theorem dX8_film_13 : decode cX8_film 13 = .ok (.aload_n 0, 1) := by decide +kernel
theorem dX8_film_14 : decode cX8_film 14 = .ok (.invokevirtual 129, 3) := by decide +kernel
theorem dX8_film_17 : decode cX8_film 17 = .ok (.aload_n 0, 1) := by decide +kernel
theorem dX8_film_18 : decode cX8_film 18 = .ok (.getfield 54, 3) := by decide +kernel
theorem dX8_film_21 : decode cX8_film 21 = .ok (.invokevirtual 132, 3) := by decide +kernel
theorem dX8_film_24 : decode cX8_film 24 = .ok (.aload_n 0, 1) := by decide +kernel
theorem dX8_film_25 : decode cX8_film 25 = .ok (.getfield 54, 3) := by decide +kernel
theorem dX8_film_28 : decode cX8_film 28 = .ok (.invokevirtual 165, 3) := by decide +kernel
theorem dX8_film_31 : decode cX8_film 31 = .ok (.aload_n 2, 1) := by decide +kernel
theorem dX8_film_32 : decode cX8_film 32 = .ok (.iconst 2, 1) := by decide +kernel
theorem dX8_film_33 : decode cX8_film 33 = .ok (.aload_n 0, 1) := by decide +kernel
theorem dX8_film_34 : decode cX8_film 34 = .ok (.getfield 10, 3) := by decide +kernel
theorem dX8_film_37 : decode cX8_film 37 = .ok (.getfield 186, 3) := by decide +kernel
theorem dX8_film_40 : decode cX8_film 40 = .ok (.invokevirtual 281, 3) := by decide +kernel
theorem dX8_film_43 : decode cX8_film 43 = .ok (.iconst 0, 1) := by decide +kernel
theorem dX8_film_44 : decode cX8_film 44 = .ok (.istore_n 3, 1) := by decide +kernel
theorem dX8_film_45 : decode cX8_film 45 = .ok (.iload_n 3, 1) := by decide +kernel
theorem dX8_film_46 : decode cX8_film 46 = .ok (.aload_n 0, 1) := by decide +kernel
theorem dX8_film_47 : decode cX8_film 47 = .ok (.getfield 10, 3) := by decide +kernel
theorem dX8_film_50 : decode cX8_film 50 = .ok (.getfield 186, 3) := by decide +kernel
theorem dX8_film_53 : decode cX8_film 53 = .ok (.if_icmp .ge 23, 3) := by decide +kernel
theorem dX8_film_56 : decode cX8_film 56 = .ok (.aload_n 2, 1) := by decide +kernel
theorem dX8_film_57 : decode cX8_film 57 = .ok (.iload_n 3, 1) := by decide +kernel
theorem dX8_film_58 : decode cX8_film 58 = .ok (.aload_n 0, 1) := by decide +kernel
theorem dX8_film_59 : decode cX8_film 59 = .ok (.getfield 54, 3) := by decide +kernel
theorem dX8_film_62 : decode cX8_film 62 = .ok (.getfield 218, 3) := by decide +kernel
theorem dX8_film_65 : decode cX8_film 65 = .ok (.iload_n 3, 1) := by decide +kernel
theorem dX8_film_66 : decode cX8_film 66 = .ok (.iaload, 1) := by decide +kernel
theorem dX8_film_67 : decode cX8_film 67 = .ok (.invokevirtual 283, 3) := by decide +kernel
theorem dX8_film_70 : decode cX8_film 70 = .ok (.iinc 3 1, 3) := by decide +kernel
theorem dX8_film_73 : decode cX8_film 73 = .ok (.goto (-28), 3) := by decide +kernel
theorem dX8_film_76 : decode cX8_film 76 = .ok (.aload_n 0, 1) := by decide +kernel
theorem dX8_film_77 : decode cX8_film 77 = .ok (.getfield 10, 3) := by decide +kernel
theorem dX8_film_80 : decode cX8_film 80 = .ok (.getfield 186, 3) := by decide +kernel
theorem dX8_film_83 : decode cX8_film 83 = .ok (.ireturn, 1) := by decide +kernel
theorem dX8_drawn_0 : decode cX8_drawn 0 = .ok (.aload_n 0, 1) := by decide +kernel
theorem dX8_drawn_1 : decode cX8_drawn 1 = .ok (.iconst 0, 1) := by decide +kernel
theorem dX8_drawn_2 : decode cX8_drawn 2 = .ok (.iload_n 1, 1) := by decide +kernel
theorem dX8_drawn_3 : decode cX8_drawn 3 = .ok (.invokestatic 286, 3) := by decide +kernel
theorem dX8_drawn_6 : decode cX8_drawn 6 = .ok (.invokevirtual 249, 3) := by decide +kernel
theorem dX8_drawn_9 : decode cX8_drawn 9 = .ok (.aload_n 0, 1) := by decide +kernel
theorem dX8_drawn_10 : decode cX8_drawn 10 = .ok (.getfield 54, 3) := by decide +kernel
theorem dX8_drawn_13 : decode cX8_drawn 13 = .ok (.getfield 194, 3) := by decide +kernel
theorem dX8_drawn_16 : decode cX8_drawn 16 = .ok (.ireturn, 1) := by decide +kernel
theorem dX8_chance_0 : decode cX8_chance 0 = .ok (.iload_n 2, 1) := by decide +kernel
theorem dX8_chance_1 : decode cX8_chance 1 = .ok (.iconst 1, 1) := by decide +kernel
theorem dX8_chance_2 : decode cX8_chance 2 = .ok (.if_icmp .lt 18, 3) := by decide +kernel
theorem dX8_chance_5 : decode cX8_chance 5 = .ok (.iload_n 2, 1) := by decide +kernel
theorem dX8_chance_6 : decode cX8_chance 6 = .ok (.bipush 20, 2) := by decide +kernel
theorem dX8_chance_8 : decode cX8_chance 8 = .ok (.if_icmp .gt 12, 3) := by decide +kernel
theorem dX8_chance_11 : decode cX8_chance 11 = .ok (.iload_n 3, 1) := by decide +kernel
theorem dX8_chance_12 : decode cX8_chance 12 = .ok (.ifCond .lt 8, 3) := by decide +kernel
theorem dX8_chance_15 : decode cX8_chance 15 = .ok (.iload_n 3, 1) := by decide +kernel
theorem dX8_chance_16 : decode cX8_chance 16 = .ok (.iconst 1, 1) := by decide +kernel
theorem dX8_chance_17 : decode cX8_chance 17 = .ok (.if_icmp .le 7, 3) := by decide +kernel
theorem dX8_chance_20 : decode cX8_chance 20 = .ok (.ldc2_w 276, 3) := by decide +kernel
theorem dX8_chance_23 : decode cX8_chance 23 = .ok (.lreturn, 1) := by decide +kernel
theorem dX8_chance_24 : decode cX8_chance 24 = .ok (.iconst 0, 1) := by decide +kernel
theorem dX8_chance_25 : decode cX8_chance 25 = .ok (.istore 4, 2) := by decide +kernel
theorem dX8_chance_27 : decode cX8_chance 27 = .ok (.iconst 0, 1) := by decide +kernel
theorem dX8_chance_28 : decode cX8_chance 28 = .ok (.istore 5, 2) := by decide +kernel
theorem dX8_chance_30 : decode cX8_chance 30 = .ok (.iload 5, 2) := by decide +kernel
theorem dX8_chance_32 : decode cX8_chance 32 = .ok (.iload_n 2, 1) := by decide +kernel
theorem dX8_chance_33 : decode cX8_chance 33 = .ok (.if_icmp .ge 34, 3) := by decide +kernel
theorem dX8_chance_36 : decode cX8_chance 36 = .ok (.aload_n 0, 1) := by decide +kernel
theorem dX8_chance_37 : decode cX8_chance 37 = .ok (.iconst 0, 1) := by decide +kernel
theorem dX8_chance_38 : decode cX8_chance 38 = .ok (.iload_n 1, 1) := by decide +kernel
theorem dX8_chance_39 : decode cX8_chance 39 = .ok (.iload 5, 2) := by decide +kernel
theorem dX8_chance_41 : decode cX8_chance 41 = .ok (.iadd, 1) := by decide +kernel
theorem dX8_chance_42 : decode cX8_chance 42 = .ok (.invokestatic 286, 3) := by decide +kernel
theorem dX8_chance_45 : decode cX8_chance 45 = .ok (.invokevirtual 249, 3) := by decide +kernel
theorem dX8_chance_48 : decode cX8_chance 48 = .ok (.aload_n 0, 1) := by decide +kernel
theorem dX8_chance_49 : decode cX8_chance 49 = .ok (.getfield 54, 3) := by decide +kernel
theorem dX8_chance_52 : decode cX8_chance 52 = .ok (.invokevirtual 203, 3) := by decide +kernel
theorem dX8_chance_55 : decode cX8_chance 55 = .ok (.ifCond .ne 6, 3) := by decide +kernel
theorem dX8_chance_58 : decode cX8_chance 58 = .ok (.iinc 4 1, 3) := by decide +kernel
theorem dX8_chance_61 : decode cX8_chance 61 = .ok (.iinc 5 1, 3) := by decide +kernel
theorem dX8_chance_64 : decode cX8_chance 64 = .ok (.goto (-34), 3) := by decide +kernel
theorem dX8_chance_67 : decode cX8_chance 67 = .ok (.iload_n 2, 1) := by decide +kernel
theorem dX8_chance_68 : decode cX8_chance 68 = .ok (.iload 4, 2) := by decide +kernel
theorem dX8_chance_70 : decode cX8_chance 70 = .ok (.invokestatic 289, 3) := by decide +kernel
theorem dX8_chance_73 : decode cX8_chance 73 = .ok (.istore 5, 2) := by decide +kernel
theorem dX8_chance_75 : decode cX8_chance 75 = .ok (.iload_n 3, 1) := by decide +kernel
theorem dX8_chance_76 : decode cX8_chance 76 = .ok (.ifCond .ne 12, 3) := by decide +kernel
theorem dX8_chance_79 : decode cX8_chance 79 = .ok (.iload 4, 2) := by decide +kernel
theorem dX8_chance_81 : decode cX8_chance 81 = .ok (.iload 5, 2) := by decide +kernel
theorem dX8_chance_83 : decode cX8_chance 83 = .ok (.idiv, 1) := by decide +kernel
theorem dX8_chance_84 : decode cX8_chance 84 = .ok (.i2l, 1) := by decide +kernel
theorem dX8_chance_85 : decode cX8_chance 85 = .ok (.goto 8, 3) := by decide +kernel
theorem dX8_chance_88 : decode cX8_chance 88 = .ok (.iload_n 2, 1) := by decide +kernel
theorem dX8_chance_89 : decode cX8_chance 89 = .ok (.iload 5, 2) := by decide +kernel
theorem dX8_chance_91 : decode cX8_chance 91 = .ok (.idiv, 1) := by decide +kernel
theorem dX8_chance_92 : decode cX8_chance 92 = .ok (.i2l, 1) := by decide +kernel
theorem dX8_chance_93 : decode cX8_chance 93 = .ok (.lreturn, 1) := by decide +kernel
theorem dX8_image_0 : decode cX8_image 0 = .ok (.aload_n 0, 1) := by decide +kernel
theorem dX8_image_1 : decode cX8_image 1 = .ok (.getfield 16, 3) := by decide +kernel
theorem dX8_image_4 : decode cX8_image 4 = .ok (.aload_n 0, 1) := by decide +kernel
theorem dX8_image_5 : decode cX8_image 5 = .ok (.getfield 10, 3) := by decide +kernel
theorem dX8_image_8 : decode cX8_image 8 = .ok (.invokevirtual 225, 3) := by decide +kernel
theorem dX8_image_11 : decode cX8_image 11 = .ok (.aload_n 0, 1) := by decide +kernel
theorem dX8_image_12 : decode cX8_image 12 = .ok (.iconst 1, 1) := by decide +kernel
theorem dX8_image_13 : decode cX8_image 13 = .ok (.putfield 19, 3) := by decide +kernel
theorem dX8_image_16 : decode cX8_image 16 = .ok (.aload_n 0, 1) := by decide +kernel
theorem dX8_image_17 : decode cX8_image 17 = .ok (.getfield 10, 3) := by decide +kernel
theorem dX8_image_20 : decode cX8_image 20 = .ok (.getfield 186, 3) := by decide +kernel
theorem dX8_image_23 : decode cX8_image 23 = .ok (.ireturn, 1) := by decide +kernel
theorem dX8_back_0 : decode cX8_back 0 = .ok (.aload_n 0, 1) := by decide +kernel
theorem dX8_back_1 : decode cX8_back 1 = .ok (.getfield 19, 3) := by decide +kernel
theorem dX8_back_4 : decode cX8_back 4 = .ok (.ifCond .ne 6, 3) := by decide +kernel
theorem dX8_back_7 : decode cX8_back 7 = .ok (.bipush (-3), 2) := by decide +kernel
theorem dX8_back_9 : decode cX8_back 9 = .ok (.ireturn, 1) := by decide +kernel
theorem dX8_back_10 : decode cX8_back 10 = .ok (.aload_n 0, 1) := by decide +kernel
theorem dX8_back_11 : decode cX8_back 11 = .ok (.getfield 10, 3) := by decide +kernel
theorem dX8_back_14 : decode cX8_back 14 = .ok (.aload_n 0, 1) := by decide +kernel
theorem dX8_back_15 : decode cX8_back 15 = .ok (.getfield 16, 3) := by decide +kernel
theorem dX8_back_18 : decode cX8_back 18 = .ok (.invokevirtual 225, 3) := by decide +kernel
theorem dX8_back_21 : decode cX8_back 21 = .ok (.aload_n 0, 1) := by decide +kernel
theorem dX8_back_22 : decode cX8_back 22 = .ok (.getfield 10, 3) := by decide +kernel
theorem dX8_back_25 : decode cX8_back 25 = .ok (.getfield 186, 3) := by decide +kernel
theorem dX8_back_28 : decode cX8_back 28 = .ok (.ireturn, 1) := by decide +kernel
theorem dX8_count_0 : decode cX8_count 0 = .ok (.iload_n 1, 1) := by decide +kernel
theorem dX8_count_1 : decode cX8_count 1 = .ok (.tableswitch 144 0 9 #[55, 63, 73, 83, 93, 103, 113, 123, 128, 136], 55) := by decide +kernel
theorem dX8_count_56 : decode cX8_count 56 = .ok (.aload_n 0, 1) := by decide +kernel
theorem dX8_count_57 : decode cX8_count 57 = .ok (.getfield 10, 3) := by decide +kernel
theorem dX8_count_60 : decode cX8_count 60 = .ok (.getfield 186, 3) := by decide +kernel
theorem dX8_count_63 : decode cX8_count 63 = .ok (.ireturn, 1) := by decide +kernel
theorem dX8_count_64 : decode cX8_count 64 = .ok (.aload_n 0, 1) := by decide +kernel
theorem dX8_count_65 : decode cX8_count 65 = .ok (.getfield 10, 3) := by decide +kernel
theorem dX8_count_68 : decode cX8_count 68 = .ok (.getfield 293, 3) := by decide +kernel
theorem dX8_count_71 : decode cX8_count 71 = .ok (.iconst 0, 1) := by decide +kernel
theorem dX8_count_72 : decode cX8_count 72 = .ok (.iaload, 1) := by decide +kernel
theorem dX8_count_73 : decode cX8_count 73 = .ok (.ireturn, 1) := by decide +kernel
theorem dX8_count_74 : decode cX8_count 74 = .ok (.aload_n 0, 1) := by decide +kernel
theorem dX8_count_75 : decode cX8_count 75 = .ok (.getfield 10, 3) := by decide +kernel
theorem dX8_count_78 : decode cX8_count 78 = .ok (.getfield 293, 3) := by decide +kernel
theorem dX8_count_81 : decode cX8_count 81 = .ok (.iconst 1, 1) := by decide +kernel
theorem dX8_count_82 : decode cX8_count 82 = .ok (.iaload, 1) := by decide +kernel
theorem dX8_count_83 : decode cX8_count 83 = .ok (.ireturn, 1) := by decide +kernel
theorem dX8_count_84 : decode cX8_count 84 = .ok (.aload_n 0, 1) := by decide +kernel
theorem dX8_count_85 : decode cX8_count 85 = .ok (.getfield 10, 3) := by decide +kernel
theorem dX8_count_88 : decode cX8_count 88 = .ok (.getfield 293, 3) := by decide +kernel
theorem dX8_count_91 : decode cX8_count 91 = .ok (.iconst 2, 1) := by decide +kernel
theorem dX8_count_92 : decode cX8_count 92 = .ok (.iaload, 1) := by decide +kernel
theorem dX8_count_93 : decode cX8_count 93 = .ok (.ireturn, 1) := by decide +kernel
theorem dX8_count_94 : decode cX8_count 94 = .ok (.aload_n 0, 1) := by decide +kernel
theorem dX8_count_95 : decode cX8_count 95 = .ok (.getfield 10, 3) := by decide +kernel
theorem dX8_count_98 : decode cX8_count 98 = .ok (.getfield 293, 3) := by decide +kernel
theorem dX8_count_101 : decode cX8_count 101 = .ok (.iconst 3, 1) := by decide +kernel
theorem dX8_count_102 : decode cX8_count 102 = .ok (.iaload, 1) := by decide +kernel
theorem dX8_count_103 : decode cX8_count 103 = .ok (.ireturn, 1) := by decide +kernel
theorem dX8_count_104 : decode cX8_count 104 = .ok (.aload_n 0, 1) := by decide +kernel
theorem dX8_count_105 : decode cX8_count 105 = .ok (.getfield 10, 3) := by decide +kernel
theorem dX8_count_108 : decode cX8_count 108 = .ok (.getfield 293, 3) := by decide +kernel
theorem dX8_count_111 : decode cX8_count 111 = .ok (.iconst 4, 1) := by decide +kernel
theorem dX8_count_112 : decode cX8_count 112 = .ok (.iaload, 1) := by decide +kernel
theorem dX8_count_113 : decode cX8_count 113 = .ok (.ireturn, 1) := by decide +kernel
theorem dX8_count_114 : decode cX8_count 114 = .ok (.aload_n 0, 1) := by decide +kernel
theorem dX8_count_115 : decode cX8_count 115 = .ok (.getfield 10, 3) := by decide +kernel
theorem dX8_count_118 : decode cX8_count 118 = .ok (.getfield 293, 3) := by decide +kernel
theorem dX8_count_121 : decode cX8_count 121 = .ok (.iconst 5, 1) := by decide +kernel
theorem dX8_count_122 : decode cX8_count 122 = .ok (.iaload, 1) := by decide +kernel
theorem dX8_count_123 : decode cX8_count 123 = .ok (.ireturn, 1) := by decide +kernel
theorem dX8_count_124 : decode cX8_count 124 = .ok (.aload_n 0, 1) := by decide +kernel
theorem dX8_count_125 : decode cX8_count 125 = .ok (.getfield 45, 3) := by decide +kernel
theorem dX8_count_128 : decode cX8_count 128 = .ok (.ireturn, 1) := by decide +kernel
theorem dX8_count_129 : decode cX8_count 129 = .ok (.aload_n 0, 1) := by decide +kernel
theorem dX8_count_130 : decode cX8_count 130 = .ok (.getfield 26, 3) := by decide +kernel
theorem dX8_count_133 : decode cX8_count 133 = .ok (.getfield 296, 3) := by decide +kernel
theorem dX8_count_136 : decode cX8_count 136 = .ok (.ireturn, 1) := by decide +kernel
theorem dX8_count_137 : decode cX8_count 137 = .ok (.aload_n 0, 1) := by decide +kernel
theorem dX8_count_138 : decode cX8_count 138 = .ok (.getfield 10, 3) := by decide +kernel
theorem dX8_count_141 : decode cX8_count 141 = .ok (.getfield 158, 3) := by decide +kernel
theorem dX8_count_144 : decode cX8_count 144 = .ok (.ireturn, 1) := by decide +kernel
theorem dX8_count_145 : decode cX8_count 145 = .ok (.bipush (-2), 2) := by decide +kernel
theorem dX8_count_147 : decode cX8_count 147 = .ok (.ireturn, 1) := by decide +kernel
theorem dX8_sheet_0 : decode cX8_sheet 0 = .ok (.aload_n 0, 1) := by decide +kernel
theorem dX8_sheet_1 : decode cX8_sheet 1 = .ok (.iload_n 1, 1) := by decide +kernel
theorem dX8_sheet_2 : decode cX8_sheet 2 = .ok (.invokevirtual 171, 3) := by decide +kernel
theorem dX8_sheet_5 : decode cX8_sheet 5 = .ok (.astore 4, 2) := by decide +kernel
theorem dX8_sheet_7 : decode cX8_sheet 7 = .ok (.aload 4, 2) := by decide +kernel
theorem dX8_sheet_9 : decode cX8_sheet 9 = .ok (.ifnull 13, 3) := by decide +kernel
theorem dX8_sheet_12 : decode cX8_sheet 12 = .ok (.iload_n 2, 1) := by decide +kernel
theorem dX8_sheet_13 : decode cX8_sheet 13 = .ok (.iconst (-1), 1) := by decide +kernel
theorem dX8_sheet_14 : decode cX8_sheet 14 = .ok (.if_icmp .lt 8, 3) := by decide +kernel
theorem dX8_sheet_17 : decode cX8_sheet 17 = .ok (.iload_n 2, 1) := by decide +kernel
theorem dX8_sheet_18 : decode cX8_sheet 18 = .ok (.iconst 3, 1) := by decide +kernel
theorem dX8_sheet_19 : decode cX8_sheet 19 = .ok (.if_icmp .lt 6, 3) := by decide +kernel
theorem dX8_sheet_22 : decode cX8_sheet 22 = .ok (.bipush (-2), 2) := by decide +kernel
theorem dX8_sheet_24 : decode cX8_sheet 24 = .ok (.ireturn, 1) := by decide +kernel
theorem dX8_sheet_25 : decode cX8_sheet 25 = .ok (.iload_n 2, 1) := by decide +kernel
theorem dX8_sheet_26 : decode cX8_sheet 26 = .ok (.iconst (-1), 1) := by decide +kernel
theorem dX8_sheet_27 : decode cX8_sheet 27 = .ok (.if_icmp .ne 12, 3) := by decide +kernel
theorem dX8_sheet_30 : decode cX8_sheet 30 = .ok (.aload 4, 2) := by decide +kernel
theorem dX8_sheet_32 : decode cX8_sheet 32 = .ok (.iconst (-1), 1) := by decide +kernel
theorem dX8_sheet_33 : decode cX8_sheet 33 = .ok (.iconst 0, 1) := by decide +kernel
theorem dX8_sheet_34 : decode cX8_sheet 34 = .ok (.invokevirtual 281, 3) := by decide +kernel
theorem dX8_sheet_37 : decode cX8_sheet 37 = .ok (.iconst 1, 1) := by decide +kernel
theorem dX8_sheet_38 : decode cX8_sheet 38 = .ok (.ireturn, 1) := by decide +kernel
theorem dX8_sheet_39 : decode cX8_sheet 39 = .ok (.iload_n 3, 1) := by decide +kernel
theorem dX8_sheet_40 : decode cX8_sheet 40 = .ok (.bipush 40, 2) := by decide +kernel
theorem dX8_sheet_42 : decode cX8_sheet 42 = .ok (.if_icmp .le 6, 3) := by decide +kernel
theorem dX8_sheet_45 : decode cX8_sheet 45 = .ok (.bipush (-2), 2) := by decide +kernel
theorem dX8_sheet_47 : decode cX8_sheet 47 = .ok (.ireturn, 1) := by decide +kernel
theorem dX8_sheet_48 : decode cX8_sheet 48 = .ok (.iload_n 3, 1) := by decide +kernel
theorem dX8_sheet_49 : decode cX8_sheet 49 = .ok (.ifCond .ge 6, 3) := by decide +kernel
theorem dX8_sheet_52 : decode cX8_sheet 52 = .ok (.bipush (-14), 2) := by decide +kernel
theorem dX8_sheet_54 : decode cX8_sheet 54 = .ok (.ireturn, 1) := by decide +kernel
theorem dX8_sheet_55 : decode cX8_sheet 55 = .ok (.aload 4, 2) := by decide +kernel
theorem dX8_sheet_57 : decode cX8_sheet 57 = .ok (.iload_n 2, 1) := by decide +kernel
theorem dX8_sheet_58 : decode cX8_sheet 58 = .ok (.iload_n 3, 1) := by decide +kernel
theorem dX8_sheet_59 : decode cX8_sheet 59 = .ok (.invokevirtual 281, 3) := by decide +kernel
theorem dX8_sheet_62 : decode cX8_sheet 62 = .ok (.iconst 1, 1) := by decide +kernel
theorem dX8_sheet_63 : decode cX8_sheet 63 = .ok (.ireturn, 1) := by decide +kernel
theorem dX8_cell_0 : decode cX8_cell 0 = .ok (.aload_n 0, 1) := by decide +kernel
theorem dX8_cell_1 : decode cX8_cell 1 = .ok (.iload_n 1, 1) := by decide +kernel
theorem dX8_cell_2 : decode cX8_cell 2 = .ok (.invokevirtual 171, 3) := by decide +kernel
theorem dX8_cell_5 : decode cX8_cell 5 = .ok (.astore 4, 2) := by decide +kernel
theorem dX8_cell_7 : decode cX8_cell 7 = .ok (.aload 4, 2) := by decide +kernel
theorem dX8_cell_9 : decode cX8_cell 9 = .ok (.ifnonnull 6, 3) := by decide +kernel
theorem dX8_cell_12 : decode cX8_cell 12 = .ok (.bipush (-2), 2) := by decide +kernel
theorem dX8_cell_14 : decode cX8_cell 14 = .ok (.ireturn, 1) := by decide +kernel
theorem dX8_cell_15 : decode cX8_cell 15 = .ok (.aload 4, 2) := by decide +kernel
theorem dX8_cell_17 : decode cX8_cell 17 = .ok (.invokevirtual 179, 3) := by decide +kernel
theorem dX8_cell_20 : decode cX8_cell 20 = .ok (.ifCond .eq 6, 3) := by decide +kernel
theorem dX8_cell_23 : decode cX8_cell 23 = .ok (.bipush (-11), 2) := by decide +kernel
theorem dX8_cell_25 : decode cX8_cell 25 = .ok (.ireturn, 1) := by decide +kernel
theorem dX8_cell_26 : decode cX8_cell 26 = .ok (.aload 4, 2) := by decide +kernel
theorem dX8_cell_28 : decode cX8_cell 28 = .ok (.iload_n 2, 1) := by decide +kernel
theorem dX8_cell_29 : decode cX8_cell 29 = .ok (.invokevirtual 297, 3) := by decide +kernel
theorem dX8_cell_32 : decode cX8_cell 32 = .ok (.ifCond .ne 6, 3) := by decide +kernel
theorem dX8_cell_35 : decode cX8_cell 35 = .ok (.bipush (-12), 2) := by decide +kernel
theorem dX8_cell_37 : decode cX8_cell 37 = .ok (.ireturn, 1) := by decide +kernel
theorem dX8_cell_38 : decode cX8_cell 38 = .ok (.aload 4, 2) := by decide +kernel
theorem dX8_cell_40 : decode cX8_cell 40 = .ok (.iload_n 2, 1) := by decide +kernel
theorem dX8_cell_41 : decode cX8_cell 41 = .ok (.iload_n 3, 1) := by decide +kernel
theorem dX8_cell_42 : decode cX8_cell 42 = .ok (.invokevirtual 283, 3) := by decide +kernel
theorem dX8_cell_45 : decode cX8_cell 45 = .ok (.iconst 1, 1) := by decide +kernel
theorem dX8_cell_46 : decode cX8_cell 46 = .ok (.ireturn, 1) := by decide +kernel
theorem dX8_copy_0 : decode cX8_copy 0 = .ok (.aload_n 0, 1) := by decide +kernel
theorem dX8_copy_1 : decode cX8_copy 1 = .ok (.iload_n 1, 1) := by decide +kernel
theorem dX8_copy_2 : decode cX8_copy 2 = .ok (.invokevirtual 171, 3) := by decide +kernel
theorem dX8_copy_5 : decode cX8_copy 5 = .ok (.astore 6, 2) := by decide +kernel
theorem dX8_copy_7 : decode cX8_copy 7 = .ok (.aload_n 0, 1) := by decide +kernel
theorem dX8_copy_8 : decode cX8_copy 8 = .ok (.iload_n 3, 1) := by decide +kernel
theorem dX8_copy_9 : decode cX8_copy 9 = .ok (.invokevirtual 171, 3) := by decide +kernel
theorem dX8_copy_12 : decode cX8_copy 12 = .ok (.astore 7, 2) := by decide +kernel
theorem dX8_copy_14 : decode cX8_copy 14 = .ok (.aload 6, 2) := by decide +kernel
theorem dX8_copy_16 : decode cX8_copy 16 = .ok (.ifnull 8, 3) := by decide +kernel
theorem dX8_copy_19 : decode cX8_copy 19 = .ok (.aload 7, 2) := by decide +kernel
theorem dX8_copy_21 : decode cX8_copy 21 = .ok (.ifnonnull 6, 3) := by decide +kernel
theorem dX8_copy_24 : decode cX8_copy 24 = .ok (.bipush (-2), 2) := by decide +kernel
theorem dX8_copy_26 : decode cX8_copy 26 = .ok (.ireturn, 1) := by decide +kernel
theorem dX8_copy_27 : decode cX8_copy 27 = .ok (.aload 6, 2) := by decide +kernel
theorem dX8_copy_29 : decode cX8_copy 29 = .ok (.invokevirtual 179, 3) := by decide +kernel
theorem dX8_copy_32 : decode cX8_copy 32 = .ok (.ifCond .ne 11, 3) := by decide +kernel
theorem dX8_copy_35 : decode cX8_copy 35 = .ok (.aload 7, 2) := by decide +kernel
theorem dX8_copy_37 : decode cX8_copy 37 = .ok (.invokevirtual 179, 3) := by decide +kernel
theorem dX8_copy_40 : decode cX8_copy 40 = .ok (.ifCond .eq 6, 3) := by decide +kernel
theorem dX8_copy_43 : decode cX8_copy 43 = .ok (.bipush (-11), 2) := by decide +kernel
theorem dX8_copy_45 : decode cX8_copy 45 = .ok (.ireturn, 1) := by decide +kernel
theorem dX8_copy_46 : decode cX8_copy 46 = .ok (.aload 6, 2) := by decide +kernel
theorem dX8_copy_48 : decode cX8_copy 48 = .ok (.getfield 298, 3) := by decide +kernel
theorem dX8_copy_51 : decode cX8_copy 51 = .ok (.aload 7, 2) := by decide +kernel
theorem dX8_copy_53 : decode cX8_copy 53 = .ok (.getfield 298, 3) := by decide +kernel
theorem dX8_copy_56 : decode cX8_copy 56 = .ok (.if_icmp .eq 6, 3) := by decide +kernel
theorem dX8_copy_59 : decode cX8_copy 59 = .ok (.bipush (-13), 2) := by decide +kernel
theorem dX8_copy_61 : decode cX8_copy 61 = .ok (.ireturn, 1) := by decide +kernel
theorem dX8_copy_62 : decode cX8_copy 62 = .ok (.aload 6, 2) := by decide +kernel
theorem dX8_copy_64 : decode cX8_copy 64 = .ok (.iload_n 2, 1) := by decide +kernel
theorem dX8_copy_65 : decode cX8_copy 65 = .ok (.iload 5, 2) := by decide +kernel
theorem dX8_copy_67 : decode cX8_copy 67 = .ok (.invokevirtual 301, 3) := by decide +kernel
theorem dX8_copy_70 : decode cX8_copy 70 = .ok (.ifCond .eq 15, 3) := by decide +kernel
theorem dX8_copy_73 : decode cX8_copy 73 = .ok (.aload 7, 2) := by decide +kernel
theorem dX8_copy_75 : decode cX8_copy 75 = .ok (.iload 4, 2) := by decide +kernel
theorem dX8_copy_77 : decode cX8_copy 77 = .ok (.iload 5, 2) := by decide +kernel
theorem dX8_copy_79 : decode cX8_copy 79 = .ok (.invokevirtual 301, 3) := by decide +kernel
theorem dX8_copy_82 : decode cX8_copy 82 = .ok (.ifCond .ne 6, 3) := by decide +kernel
theorem dX8_copy_85 : decode cX8_copy 85 = .ok (.bipush (-12), 2) := by decide +kernel
theorem dX8_copy_87 : decode cX8_copy 87 = .ok (.ireturn, 1) := by decide +kernel
theorem dX8_copy_88 : decode cX8_copy 88 = .ok (.aload 6, 2) := by decide +kernel
theorem dX8_copy_90 : decode cX8_copy 90 = .ok (.getfield 187, 3) := by decide +kernel
theorem dX8_copy_93 : decode cX8_copy 93 = .ok (.iload_n 2, 1) := by decide +kernel
theorem dX8_copy_94 : decode cX8_copy 94 = .ok (.aload 7, 2) := by decide +kernel
theorem dX8_copy_96 : decode cX8_copy 96 = .ok (.getfield 187, 3) := by decide +kernel
theorem dX8_copy_99 : decode cX8_copy 99 = .ok (.iload 4, 2) := by decide +kernel
theorem dX8_copy_101 : decode cX8_copy 101 = .ok (.iload 5, 2) := by decide +kernel
theorem dX8_copy_103 : decode cX8_copy 103 = .ok (.invokestatic 305, 3) := by decide +kernel
theorem dX8_copy_106 : decode cX8_copy 106 = .ok (.iload 5, 2) := by decide +kernel
theorem dX8_copy_108 : decode cX8_copy 108 = .ok (.ireturn, 1) := by decide +kernel
theorem dX8_walls_0 : decode cX8_walls 0 = .ok (.aload_n 0, 1) := by decide +kernel
theorem dX8_walls_1 : decode cX8_walls 1 = .ok (.iload_n 1, 1) := by decide +kernel
theorem dX8_walls_2 : decode cX8_walls 2 = .ok (.invokevirtual 171, 3) := by decide +kernel
theorem dX8_walls_5 : decode cX8_walls 5 = .ok (.astore 5, 2) := by decide +kernel
theorem dX8_walls_7 : decode cX8_walls 7 = .ok (.aload 5, 2) := by decide +kernel
theorem dX8_walls_9 : decode cX8_walls 9 = .ok (.ifnull 24, 3) := by decide +kernel
theorem dX8_walls_12 : decode cX8_walls 12 = .ok (.iload_n 2, 1) := by decide +kernel
theorem dX8_walls_13 : decode cX8_walls 13 = .ok (.ifCond .lt 20, 3) := by decide +kernel
theorem dX8_walls_16 : decode cX8_walls 16 = .ok (.iload_n 2, 1) := by decide +kernel
theorem dX8_walls_17 : decode cX8_walls 17 = .ok (.iconst 3, 1) := by decide +kernel
theorem dX8_walls_18 : decode cX8_walls 18 = .ok (.if_icmp .ge 15, 3) := by decide +kernel
theorem dX8_walls_21 : decode cX8_walls 21 = .ok (.iload 4, 2) := by decide +kernel
theorem dX8_walls_23 : decode cX8_walls 23 = .ok (.ifCond .lt 10, 3) := by decide +kernel
theorem dX8_walls_26 : decode cX8_walls 26 = .ok (.iload 4, 2) := by decide +kernel
theorem dX8_walls_28 : decode cX8_walls 28 = .ok (.bipush 6, 2) := by decide +kernel
theorem dX8_walls_30 : decode cX8_walls 30 = .ok (.if_icmp .le 6, 3) := by decide +kernel
theorem dX8_walls_33 : decode cX8_walls 33 = .ok (.bipush (-2), 2) := by decide +kernel
theorem dX8_walls_35 : decode cX8_walls 35 = .ok (.ireturn, 1) := by decide +kernel
theorem dX8_walls_36 : decode cX8_walls 36 = .ok (.aload 5, 2) := by decide +kernel
theorem dX8_walls_38 : decode cX8_walls 38 = .ok (.invokevirtual 179, 3) := by decide +kernel
theorem dX8_walls_41 : decode cX8_walls 41 = .ok (.ifCond .eq 6, 3) := by decide +kernel
theorem dX8_walls_44 : decode cX8_walls 44 = .ok (.bipush (-11), 2) := by decide +kernel
theorem dX8_walls_46 : decode cX8_walls 46 = .ok (.ireturn, 1) := by decide +kernel
theorem dX8_walls_47 : decode cX8_walls 47 = .ok (.aload 5, 2) := by decide +kernel
theorem dX8_walls_49 : decode cX8_walls 49 = .ok (.getfield 298, 3) := by decide +kernel
theorem dX8_walls_52 : decode cX8_walls 52 = .ok (.iload_n 2, 1) := by decide +kernel
theorem dX8_walls_53 : decode cX8_walls 53 = .ok (.if_icmp .eq 6, 3) := by decide +kernel
theorem dX8_walls_56 : decode cX8_walls 56 = .ok (.bipush (-13), 2) := by decide +kernel
theorem dX8_walls_58 : decode cX8_walls 58 = .ok (.ireturn, 1) := by decide +kernel
theorem dX8_walls_59 : decode cX8_walls 59 = .ok (.iconst 0, 1) := by decide +kernel
theorem dX8_walls_60 : decode cX8_walls 60 = .ok (.istore 6, 2) := by decide +kernel
theorem dX8_walls_62 : decode cX8_walls 62 = .ok (.iconst 0, 1) := by decide +kernel
theorem dX8_walls_63 : decode cX8_walls 63 = .ok (.istore 7, 2) := by decide +kernel
theorem dX8_walls_65 : decode cX8_walls 65 = .ok (.iload 7, 2) := by decide +kernel
theorem dX8_walls_67 : decode cX8_walls 67 = .ok (.iload 4, 2) := by decide +kernel
theorem dX8_walls_69 : decode cX8_walls 69 = .ok (.if_icmp .ge 69, 3) := by decide +kernel
theorem dX8_walls_72 : decode cX8_walls 72 = .ok (.iload_n 3, 1) := by decide +kernel
theorem dX8_walls_73 : decode cX8_walls 73 = .ok (.iconst 3, 1) := by decide +kernel
theorem dX8_walls_74 : decode cX8_walls 74 = .ok (.iload 7, 2) := by decide +kernel
theorem dX8_walls_76 : decode cX8_walls 76 = .ok (.imul, 1) := by decide +kernel
theorem dX8_walls_77 : decode cX8_walls 77 = .ok (.iadd, 1) := by decide +kernel
theorem dX8_walls_78 : decode cX8_walls 78 = .ok (.istore 8, 2) := by decide +kernel
theorem dX8_walls_80 : decode cX8_walls 80 = .ok (.aload 5, 2) := by decide +kernel
theorem dX8_walls_82 : decode cX8_walls 82 = .ok (.iload 8, 2) := by decide +kernel
theorem dX8_walls_84 : decode cX8_walls 84 = .ok (.iconst 3, 1) := by decide +kernel
theorem dX8_walls_85 : decode cX8_walls 85 = .ok (.invokevirtual 301, 3) := by decide +kernel
theorem dX8_walls_88 : decode cX8_walls 88 = .ok (.ifCond .ne 6, 3) := by decide +kernel
theorem dX8_walls_91 : decode cX8_walls 91 = .ok (.bipush (-12), 2) := by decide +kernel
theorem dX8_walls_93 : decode cX8_walls 93 = .ok (.ireturn, 1) := by decide +kernel
theorem dX8_walls_94 : decode cX8_walls 94 = .ok (.aload_n 0, 1) := by decide +kernel
theorem dX8_walls_95 : decode cX8_walls 95 = .ok (.aload 5, 2) := by decide +kernel
theorem dX8_walls_97 : decode cX8_walls 97 = .ok (.getfield 187, 3) := by decide +kernel
theorem dX8_walls_100 : decode cX8_walls 100 = .ok (.iload 8, 2) := by decide +kernel
theorem dX8_walls_102 : decode cX8_walls 102 = .ok (.iaload, 1) := by decide +kernel
theorem dX8_walls_103 : decode cX8_walls 103 = .ok (.aload 5, 2) := by decide +kernel
theorem dX8_walls_105 : decode cX8_walls 105 = .ok (.getfield 187, 3) := by decide +kernel
theorem dX8_walls_108 : decode cX8_walls 108 = .ok (.iload 8, 2) := by decide +kernel
theorem dX8_walls_110 : decode cX8_walls 110 = .ok (.iconst 1, 1) := by decide +kernel
theorem dX8_walls_111 : decode cX8_walls 111 = .ok (.iadd, 1) := by decide +kernel
theorem dX8_walls_112 : decode cX8_walls 112 = .ok (.iaload, 1) := by decide +kernel
theorem dX8_walls_113 : decode cX8_walls 113 = .ok (.aload 5, 2) := by decide +kernel
theorem dX8_walls_115 : decode cX8_walls 115 = .ok (.getfield 187, 3) := by decide +kernel
theorem dX8_walls_118 : decode cX8_walls 118 = .ok (.iload 8, 2) := by decide +kernel
theorem dX8_walls_120 : decode cX8_walls 120 = .ok (.iconst 2, 1) := by decide +kernel
theorem dX8_walls_121 : decode cX8_walls 121 = .ok (.iadd, 1) := by decide +kernel
theorem dX8_walls_122 : decode cX8_walls 122 = .ok (.iaload, 1) := by decide +kernel
theorem dX8_walls_123 : decode cX8_walls 123 = .ok (.invokevirtual 311, 3) := by decide +kernel
theorem dX8_walls_126 : decode cX8_walls 126 = .ok (.ifCond .lt 6, 3) := by decide +kernel
theorem dX8_walls_129 : decode cX8_walls 129 = .ok (.iinc 6 1, 3) := by decide +kernel
theorem dX8_walls_132 : decode cX8_walls 132 = .ok (.iinc 7 1, 3) := by decide +kernel
theorem dX8_walls_135 : decode cX8_walls 135 = .ok (.goto (-70), 3) := by decide +kernel
theorem dX8_walls_138 : decode cX8_walls 138 = .ok (.iload 6, 2) := by decide +kernel
theorem dX8_walls_140 : decode cX8_walls 140 = .ok (.ireturn, 1) := by decide +kernel
theorem dX8_taken_0 : decode cX8_taken 0 = .ok (.iload_n 2, 1) := by decide +kernel
theorem dX8_taken_1 : decode cX8_taken 1 = .ok (.invokestatic 107, 3) := by decide +kernel
theorem dX8_taken_4 : decode cX8_taken 4 = .ok (.ifCond .ne 6, 3) := by decide +kernel
theorem dX8_taken_7 : decode cX8_taken 7 = .ok (.bipush (-2), 2) := by decide +kernel
theorem dX8_taken_9 : decode cX8_taken 9 = .ok (.ireturn, 1) := by decide +kernel
theorem dX8_taken_10 : decode cX8_taken 10 = .ok (.aload_n 0, 1) := by decide +kernel
theorem dX8_taken_11 : decode cX8_taken 11 = .ok (.getfield 10, 3) := by decide +kernel
theorem dX8_taken_14 : decode cX8_taken 14 = .ok (.iload_n 1, 1) := by decide +kernel
theorem dX8_taken_15 : decode cX8_taken 15 = .ok (.invokevirtual 99, 3) := by decide +kernel
theorem dX8_taken_18 : decode cX8_taken 18 = .ok (.ifCond .ne 6, 3) := by decide +kernel
theorem dX8_taken_21 : decode cX8_taken 21 = .ok (.bipush (-11), 2) := by decide +kernel
theorem dX8_taken_23 : decode cX8_taken 23 = .ok (.ireturn, 1) := by decide +kernel
theorem dX8_taken_24 : decode cX8_taken 24 = .ok (.aload_n 0, 1) := by decide +kernel
theorem dX8_taken_25 : decode cX8_taken 25 = .ok (.getfield 10, 3) := by decide +kernel
theorem dX8_taken_28 : decode cX8_taken 28 = .ok (.getfield 113, 3) := by decide +kernel
theorem dX8_taken_31 : decode cX8_taken 31 = .ok (.iload_n 1, 1) := by decide +kernel
theorem dX8_taken_32 : decode cX8_taken 32 = .ok (.iaload, 1) := by decide +kernel
theorem dX8_taken_33 : decode cX8_taken 33 = .ok (.iload_n 2, 1) := by decide +kernel
theorem dX8_taken_34 : decode cX8_taken 34 = .ok (.invokestatic 314, 3) := by decide +kernel
theorem dX8_taken_37 : decode cX8_taken 37 = .ok (.ifCond .eq 15, 3) := by decide +kernel
theorem dX8_taken_40 : decode cX8_taken 40 = .ok (.aload_n 0, 1) := by decide +kernel
theorem dX8_taken_41 : decode cX8_taken 41 = .ok (.getfield 10, 3) := by decide +kernel
theorem dX8_taken_44 : decode cX8_taken 44 = .ok (.getfield 116, 3) := by decide +kernel
theorem dX8_taken_47 : decode cX8_taken 47 = .ok (.iload_n 1, 1) := by decide +kernel
theorem dX8_taken_48 : decode cX8_taken 48 = .ok (.iaload, 1) := by decide +kernel
theorem dX8_taken_49 : decode cX8_taken 49 = .ok (.goto 5, 3) := by decide +kernel
theorem dX8_taken_52 : decode cX8_taken 52 = .ok (.bipush (-13), 2) := by decide +kernel
theorem dX8_taken_54 : decode cX8_taken 54 = .ok (.ireturn, 1) := by decide +kernel
def x_isKind (a1 : Int32) : Option Bool :=
if a1 < 0 then
(some false)
else
(if 6 ≤ a1 then
(some false)
else
(some true))
def x_sheetAt (a1 : Int32) : Option (Option Nat) :=
jp (fun (u1 : Unit) =>
some none) fun j2 =>
if a1 < 0 then
(j2 ())
else
(if 4 ≤ a1 then
(j2 ())
else
(ck a1 4 <|
some (some (60 + 2 * a1.toNatClampNeg))))
theorem sheetAt_is {a : Int32} {t : Nat} (h : x_sheetAt a = some (some t)) : isSheet t := by
  unfold x_sheetAt at h
  split at h
  · cases h
  · split at h
    · cases h
    · rw [← oi (oi (ck_e h).2)]
      exact isSheet_in (ck_e h).1
def x_warmOf (M : Mem) (a1 : Int32) : Option Int32 :=
bnd (((a1 * 1103515245) + 12345)) fun (v1 : Int32) =>
ck 0 9 <|
nz ((tb 1 (0 : Int32).toNatClampNeg) + 1) <|
some ((v1.toUInt32 >>> ((9 : Int32).toUInt32 &&& Int32.toUInt32 31)).toInt32 - (v1.toUInt32 >>> ((9 : Int32).toUInt32 &&& Int32.toUInt32 31)).toInt32 / ((tb 1 (0 : Int32).toNatClampNeg) + 1) * ((tb 1 (0 : Int32).toNatClampNeg) + 1))
def x_commonDivisor_L2 (a1 : Int32) (a2 : Int32) (j2 : Unit → Option Int32) : Nat → Int32 → Option Int32
  | 0, _ => none
  | fu4 + 1, v3 =>
    if v3 ≤ 1 then
    (j2 ())
    else
    (nz v3 <|
    if (a1 - a1 / v3 * v3) = 0 then
    (nz v3 <|
    if (a2 - a2 / v3 * v3) = 0 then
    (some v3)
    else
    (bnd (v3 + (-1)) fun (v6 : Int32) =>
    x_commonDivisor_L2 a1 a2 j2 fu4 v6))
    else
    (bnd (v3 + (-1)) fun (v5 : Int32) =>
    x_commonDivisor_L2 a1 a2 j2 fu4 v5))
def x_commonDivisor (a1 : Int32) (a2 : Int32) : Option Int32 :=
jp (fun (u1 : Unit) =>
some 1) fun j2 =>
x_commonDivisor_L2 a1 a2 j2 FU a1
def x_startTrial_L16 (j4 : Mem → Option Mem) : Nat → Int32 → Mem → Option Mem
  | 0, _, _ => none
  | fu7 + 1, v5, M6 =>
    if 6 ≤ v5 then
    (j4 M6)
    else
    (ob (f_Day_place M6 v5 v5) fun (M9 : Mem) =>
    bnd (v5 + 1) fun (v10 : Int32) =>
    x_startTrial_L16 j4 fu7 v10 M9)
def x_startTrial (M : Mem) : Option Mem :=
ob (f_Site_become M 24 1) fun (M2 : Mem) =>
jp (fun (M3 : Mem) =>
some M3) fun j4 =>
x_startTrial_L16 j4 FU 0 M2
def x_liveWith (M : Mem) (a1 : Int32) (a2 : Int32) : Option Mem :=
ob (x_startTrial M) fun (M2 : Mem) =>
ob (f_Site_turn M2 24 a1 a2) fun (M4 : Mem) =>
ob (f_Day_reckon M4) fun (M6 : Mem) =>
ob (f_Day_live M6) fun (M8 : Mem) =>
some M8
def x_reckoned (M : Mem) (a1 : Int32) (a2 : Int32) : Option (Mem × Int32) :=
ob (x_startTrial M) fun (M2 : Mem) =>
ob (f_Day_reckon M2) fun (M4 : Mem) =>
if a2 = 4 then
(ck a1 6 <|
some (M4, (M4 33 a1.toNatClampNeg)))
else
(if a2 = 5 then
(ck a1 6 <|
some (M4, (M4 34 a1.toNatClampNeg)))
else
(if a2 = 6 then
(ck a1 6 <|
some (M4, (M4 35 a1.toNatClampNeg)))
else
(some (M4, (-2)))))
def x_learn (M : Mem) : Option (Mem × Int32) :=
ob2 (f_Reader_read M) fun (M2 : Mem) (v3 : Int32) =>
ob (f_Tape_clear M2) fun (M5 : Mem) =>
if v3 = (-1) then
(if (M5 0 6) < 0 then
(some (M5, (-4)))
else
(if 6 ≤ (M5 0 6) then
(some (M5, (-4)))
else
(ck (M5 0 6) 6 <|
ck (M5 0 6) 6 <|
ob (f_Text_become M5 (42 + 3 * (M5 0 6).toNatClampNeg) 19) fun (M9 : Mem) =>
bnd (wr M9 0 6 ((M9 0 6) + 1)) fun (M10 : Mem) =>
some (M10, ((M10 0 6) - 1)))))
else
(some (M5, ((-100) - v3)))
def x_startOrder_L31 (t1 : Nat) (j6 : Mem → Option (Mem × Bool)) : Nat → Int32 → Int32 → Mem → Option (Mem × Bool)
  | 0, _, _, _ => none
  | fu10 + 1, v7, v8, M9 =>
    if (M9 1 5) ≤ v8 then
    (j6 M9)
    else
    (ck v8 40 <|
    bnd ((M9 (t1 + 1) v8.toNatClampNeg)) fun (v11 : Int32) =>
    ob (f_Site_has M9 1 v11) fun (v13 : Bool) =>
    if v13 = true then
    (if ((v7 >>> (v11 &&& 31)) &&& 1) = 1 then
    (some (M9, false))
    else
    (bnd ((v7 ||| (1 <<< (v11 &&& 31)))) fun (v14 : Int32) =>
    ob (f_Day_place M9 v8 v11) fun (M16 : Mem) =>
    bnd (v8 + 1) fun (v17 : Int32) =>
    x_startOrder_L31 t1 j6 fu10 v14 v17 M16))
    else
    (some (M9, false)))
def x_startOrder (M : Mem) (t1 : Nat) : Option (Mem × Bool) :=
ob (f_Sheet_isMissing M t1) fun (v2 : Bool) =>
if v2 = true then
(some (M, false))
else
(if (M t1 2) = (M 1 5) then
(ob (x_startTrial M) fun (M4 : Mem) =>
jp (fun (M5 : Mem) =>
some (M5, true)) fun j6 =>
x_startOrder_L31 t1 j6 FU 0 0 M4)
else
(some (M, false)))
def x_isOfDay (M : Mem) (a1 : Int32) : Option Bool :=
if 10 ≤ a1 then
(if 50 ≤ a1 then
(some false)
else
(ob (f_Site_has M 1 (a1 - a1 / 10 * 10)) fun (v2 : Bool) =>
if v2 = true then
(some true)
else
(some false)))
else
(if a1 < 0 then
(some false)
else
(if 4 < a1 then
(some false)
else
(some true)))
def x_ofWallsDay (M : Mem) (a1 : Int32) (a2 : Int32) : Option Int32 :=
ob (f_Site_has M 1 a1) fun (v2 : Bool) =>
if v2 = true then
(if a2 = 1 then
(ck a1 6 <|
some (M 36 a1.toNatClampNeg))
else
(if a2 = 2 then
(ck a1 6 <|
some (M 37 a1.toNatClampNeg))
else
(if a2 = 3 then
(ck a1 6 <|
some (M 38 a1.toNatClampNeg))
else
(if a2 = 4 then
(ck a1 6 <|
some (M 39 a1.toNatClampNeg))
else
(some (-100000))))))
else
(some (-100000))
def x_ofDay (M : Mem) (a1 : Int32) : Option Int32 :=
if a1 = 0 then
(some (M 23 16))
else
(if a1 = 1 then
(some (M 23 14))
else
(if a1 = 2 then
(some (M 23 15))
else
(if a1 = 3 then
(ob (f_Day_late M) fun (v2 : Int32) =>
some v2)
else
(if a1 = 4 then
(ob (f_Day_early M) fun (v4 : Int32) =>
some v4)
else
(ob (x_ofWallsDay M (a1 - a1 / 10 * 10) (a1 / 10)) fun (v6 : Int32) =>
some v6)))))
def x_notSo (M : Mem) (t1 : Nat) : Option (Mem × Int32) :=
ob (x_startTrial M) fun (M2 : Mem) =>
ob (f_Day_reckon M2) fun (M4 : Mem) =>
ob (f_Day_live M4) fun (M6 : Mem) =>
ob (f_Day_unlike M6 t1) fun (v8 : Int32) =>
some (M6, v8)
def x_dialsOf_L5 (t1 : Nat) (a2 : Int32) (j3 : Int64 → Mem → Option (Mem × Int64)) : Nat → Int64 → Int32 → Mem → Option (Mem × Int64)
  | 0, _, _, _ => none
  | fu7 + 1, v4, v5, M6 =>
    ck a2 9 <|
    if (tb 1 a2.toNatClampNeg) < v5 then
    (j3 v4 M6)
    else
    (ob (x_startTrial M6) fun (M9 : Mem) =>
    ob (f_Site_turn M9 24 a2 v5) fun (M11 : Mem) =>
    ob (f_Day_reckon M11) fun (M13 : Mem) =>
    ob (f_Day_live M13) fun (M15 : Mem) =>
    ob (f_Day_unlike M15 t1) fun (v17 : Int32) =>
    if v17 = 0 then
    (bnd ((v4 ||| ((1 : Int64) <<< ((v5 : Int32).toInt64 &&& 63)))) fun (v19 : Int64) =>
    bnd (v5 + 1) fun (v20 : Int32) =>
    x_dialsOf_L5 t1 a2 j3 fu7 v19 v20 M15)
    else
    (bnd (v5 + 1) fun (v18 : Int32) =>
    x_dialsOf_L5 t1 a2 j3 fu7 v4 v18 M15))
def x_dialsOf (M : Mem) (t1 : Nat) (a2 : Int32) : Option (Mem × Int64) :=
jp (fun (v1 : Int64) (M2 : Mem) =>
some (M2, v1)) fun j3 =>
x_dialsOf_L5 t1 a2 j3 FU 0 0 M
def x_textsOf_L4 (t1 : Nat) (j3 : Int32 → Mem → Option (Mem × Int32)) : Nat → Int32 → Int32 → Mem → Option (Mem × Int32)
  | 0, _, _, _ => none
  | fu7 + 1, v4, v5, M6 =>
    if (M6 0 6) ≤ v5 then
    (j3 v4 M6)
    else
    (ob (x_startTrial M6) fun (M9 : Mem) =>
    bnd (wr M9 24 6 v5) fun (M10 : Mem) =>
    ob (f_Day_reckon M10) fun (M12 : Mem) =>
    ob (f_Day_live M12) fun (M14 : Mem) =>
    ob (f_Day_unlike M14 t1) fun (v16 : Int32) =>
    if v16 = 0 then
    (bnd ((v4 ||| (1 <<< (v5 &&& 31)))) fun (v18 : Int32) =>
    bnd (v5 + 1) fun (v19 : Int32) =>
    x_textsOf_L4 t1 j3 fu7 v18 v19 M14)
    else
    (bnd (v5 + 1) fun (v17 : Int32) =>
    x_textsOf_L4 t1 j3 fu7 v4 v17 M14))
def x_textsOf (M : Mem) (t1 : Nat) : Option (Mem × Int32) :=
jp (fun (v1 : Int32) (M2 : Mem) =>
some (M2, v1)) fun j3 =>
x_textsOf_L4 t1 j3 FU 0 0 M
def x_kindsOf_L5 (t1 : Nat) (a2 : Int32) (j3 : Int32 → Mem → Option (Mem × Int32)) : Nat → Int32 → Int32 → Mem → Option (Mem × Int32)
  | 0, _, _, _ => none
  | fu7 + 1, v4, v5, M6 =>
    if 6 ≤ v5 then
    (j3 v4 M6)
    else
    (ob (x_startTrial M6) fun (M9 : Mem) =>
    ob (f_Site_has M9 1 a2) fun (v11 : Bool) =>
    jp (fun (M12 : Mem) =>
    ob (f_Day_reckon M12) fun (M15 : Mem) =>
    ob (f_Day_live M15) fun (M17 : Mem) =>
    ob (f_Day_unlike M17 t1) fun (v19 : Int32) =>
    if v19 = 0 then
    (bnd ((v4 ||| (1 <<< (v5 &&& 31)))) fun (v21 : Int32) =>
    bnd (v5 + 1) fun (v22 : Int32) =>
    x_kindsOf_L5 t1 a2 j3 fu7 v21 v22 M17)
    else
    (bnd (v5 + 1) fun (v20 : Int32) =>
    x_kindsOf_L5 t1 a2 j3 fu7 v4 v20 M17)) fun j13 =>
    if v11 = true then
    (ck a2 6 <|
    bnd (wr M9 26 a2.toNatClampNeg v5) fun (M23 : Mem) =>
    j13 M23)
    else
    (j13 M9))
def x_kindsOf (M : Mem) (t1 : Nat) (a2 : Int32) : Option (Mem × Int32) :=
jp (fun (v1 : Int32) (M2 : Mem) =>
some (M2, v1)) fun j3 =>
x_kindsOf_L5 t1 a2 j3 FU 0 0 M
def x_set (M : Mem) (a1 : Int32) (a2 : Int32) (a3 : Int32) : Option (Mem × Int32) :=
if a1 < 0 then
(some (M, (-2)))
else
(if 8 < a1 then
(some (M, (-2)))
else
(ck a1 9 <|
if a3 < (tb 0 a1.toNatClampNeg) then
(some (M, (-2)))
else
(ck a1 9 <|
if a3 ≤ (tb 1 a1.toNatClampNeg) then
(jp (fun (v1 : Int32) =>
jp (fun (u3 : Unit) =>
ob (f_Site_rowOf 1 a1) fun (v6 : Nat) =>
jp (fun (v7 : Int32) =>
ck v7 6 <|
bnd ((M v6 v7.toNatClampNeg)) fun (v9 : Int32) =>
ck v7 6 <|
bnd (wr M v6 v7.toNatClampNeg a3) fun (M10 : Mem) =>
some (M10, v9)) fun j8 =>
if v1 = 0 then
(j8 a1)
else
(j8 a2)) fun j4 =>
if v1 = 0 then
(j4 ())
else
(ob (f_Site_has M 1 a2) fun (v12 : Bool) =>
if v12 = true then
(j4 ())
else
(some (M, (-2))))) fun j2 =>
if a1 ≤ 5 then
(j2 0)
else
(j2 1))
else
(some (M, (-2))))))
def x_wall (M : Mem) (a1 : Int32) (a2 : Int32) (a3 : Int32) : Option (Mem × Int32) :=
ob (x_isKind a1) fun (v2 : Bool) =>
if v2 = true then
(ck 6 9 <|
if a2 < (tb 0 (6 : Int32).toNatClampNeg) then
(some (M, (-2)))
else
(ck 6 9 <|
if (tb 1 (6 : Int32).toNatClampNeg) < a2 then
(some (M, (-2)))
else
(ck 7 9 <|
if a3 < (tb 0 (7 : Int32).toNatClampNeg) then
(some (M, (-2)))
else
(ck 7 9 <|
if a3 ≤ (tb 1 (7 : Int32).toNatClampNeg) then
(ob2 (f_Site_add M 1 a1 a2 a3) fun (M4 : Mem) (v5 : Int32) =>
some (M4, v5))
else
(some (M, (-2)))))))
else
(some (M, (-2)))
def x_told (M : Mem) (a1 : Int32) (a2 : Int32) : Option (Mem × Int32) :=
ob (f_Site_has M 1 a1) fun (v2 : Bool) =>
if v2 = true then
(if a2 = 0 then
(ck a1 6 <|
some (M, (M 3 a1.toNatClampNeg)))
else
(if a2 = 1 then
(ck a1 6 <|
some (M, (M 4 a1.toNatClampNeg)))
else
(if a2 = 2 then
(ck a1 6 <|
some (M, (M 5 a1.toNatClampNeg)))
else
(if a2 = 3 then
(ck a1 6 <|
some (M, (M 6 a1.toNatClampNeg)))
else
(ob2 (x_reckoned M a1 a2) fun (M4 : Mem) (v5 : Int32) =>
some (M4, v5))))))
else
(some (M, (-2)))
def x_feed (M : Mem) (a1 : Int32) : Option (Mem × Int32) :=
if a1 < 0 then
(some (M, (-2)))
else
(if a1 ≤ 255 then
(ob2 (f_Tape_add M a1) fun (M2 : Mem) (v3 : Int32) =>
some (M2, v3))
else
(some (M, (-2))))
def x_text (M : Mem) : Option (Mem × Int32) :=
if (M 0 6) < 6 then
(ob2 (x_learn M) fun (M2 : Mem) (v3 : Int32) =>
some (M2, v3))
else
(some (M, (-4)))
def x_force (M : Mem) (a1 : Int32) : Option (Mem × Int32) :=
if a1 < 0 then
(some (M, (-2)))
else
(if a1 < (M 0 6) then
(bnd ((M 1 6)) fun (v1 : Int32) =>
bnd (wr M 1 6 a1) fun (M2 : Mem) =>
some (M2, v1))
else
(some (M, (-2))))
def x_day (M : Mem) (a1 : Int32) : Option (Mem × Int32) :=
ob (x_isOfDay M a1) fun (v2 : Bool) =>
if v2 = true then
(ob (x_startTrial M) fun (M4 : Mem) =>
ob (f_Day_reckon M4) fun (M6 : Mem) =>
ob (f_Day_live M6) fun (M8 : Mem) =>
ob (x_ofDay M8 a1) fun (v10 : Int32) =>
some (M8, v10))
else
(some (M, (-100000)))
def x_order (M : Mem) (a1 : Int32) (a2 : Int32) : Option (Mem × Int32) :=
ob (x_sheetAt a1) fun (v2 : Option Nat) =>
oc v2 (some (M, (-100000))) fun (t3 : Nat) =>
ob (x_isOfDay M a2) fun (v5 : Bool) =>
if v5 = true then
(ob2 (x_startOrder M t3) fun (M7 : Mem) (v8 : Bool) =>
if v8 = true then
(ob (f_Day_reckon M7) fun (M10 : Mem) =>
ob (f_Day_live M10) fun (M12 : Mem) =>
ob (x_ofDay M12 a2) fun (v14 : Int32) =>
some (M12, v14))
else
(some (M7, (-100000))))
else
(some (M, (-100000)))
def x_best_L34 (j8 : Mem → Option (Mem × Int32)) : Nat → Int32 → Int32 → Mem → Option (Mem × Int32)
  | 0, _, _, _ => none
  | fu12 + 1, v9, v10, M11 =>
    if 720 ≤ v10 then
    (j8 M11)
    else
    (if v9 = 0 then
    (j8 M11)
    else
    (ob (f_Day_live M11) fun (M14 : Mem) =>
    ob (f_Day_rowAsDigits M14) fun (v16 : Int32) =>
    ob (f_Pick_offer M14 v16 (M14 23 16) (M14 23 14)) fun (M18 : Mem) =>
    ob2 (f_Day_nextRow M18) fun (M20 : Mem) (v21 : Bool) =>
    bnd (v10 + 1) fun (v22 : Int32) =>
    x_best_L34 j8 fu12 (b2i v21) v22 M20))
def x_best (M : Mem) (a1 : Int32) : Option (Mem × Int32) :=
if a1 < 0 then
(some (M, (-2)))
else
(if a1 ≤ 2 then
(ob (x_startTrial M) fun (M2 : Mem) =>
ob (f_Day_reckon M2) fun (M4 : Mem) =>
ob (f_Pick_clear M4) fun (M6 : Mem) =>
jp (fun (M7 : Mem) =>
if a1 = 0 then
(some (M7, (M7 40 2)))
else
(if a1 = 1 then
(some (M7, (M7 40 3)))
else
(some (M7, (M7 40 1))))) fun j8 =>
x_best_L34 j8 FU 1 0 M6)
else
(some (M, (-2))))
def x_good_L41 (v1 : Int32) (j6 : Mem → Option (Mem × Int32)) : Nat → Int32 → Mem → Option (Mem × Int32)
  | 0, _, _ => none
  | fu9 + 1, v7, M8 =>
    ck v1 9 <|
    if (tb 1 v1.toNatClampNeg) < v7 then
    (j6 M8)
    else
    (ob (x_liveWith M8 v1 v7) fun (M11 : Mem) =>
    ob (f_Pick_offer M11 v7 (M11 23 16) (M11 23 14)) fun (M13 : Mem) =>
    bnd (v7 + 1) fun (v14 : Int32) =>
    x_good_L41 v1 j6 fu9 v14 M13)
def x_good (M : Mem) (a1 : Int32) (a2 : Int32) : Option (Mem × Int32) :=
if a1 < 0 then
(some (M, (-2)))
else
(if 1 < a1 then
(some (M, (-2)))
else
(if a2 < 0 then
(some (M, (-2)))
else
(if a2 ≤ 2 then
(jp (fun (v1 : Int32) =>
ob (f_Pick_clear M) fun (M4 : Mem) =>
jp (fun (M5 : Mem) =>
if a2 = 0 then
(some (M5, (M5 40 1)))
else
(if a2 = 1 then
(some (M5, (M5 40 2)))
else
(some (M5, (M5 40 3))))) fun j6 =>
x_good_L41 v1 j6 FU 0 M4) fun j2 =>
if a1 = 0 then
(j2 4)
else
(j2 5))
else
(some (M, (-2))))))
def x_wetting_L31 (a1 : Int32) (j4 : Mem → Option (Mem × Int32)) : Nat → Int32 → Mem → Option (Mem × Int32)
  | 0, _, _ => none
  | fu7 + 1, v5, M6 =>
    if (1 <<< ((M6 1 5) &&& 31)) ≤ v5 then
    (j4 M6)
    else
    (ob (x_startTrial M6) fun (M9 : Mem) =>
    ob (f_Site_wetJust M9 24 v5) fun (M11 : Mem) =>
    ob (f_Day_reckon M11) fun (M13 : Mem) =>
    ob (f_Day_live M13) fun (M15 : Mem) =>
    ob (f_JI_bitCount1 v5) fun (v17 : Int32) =>
    ob (f_Pick_offer M15 v5 ((M15 23 16) + (a1 * v17)) 0) fun (M19 : Mem) =>
    bnd (v5 + 1) fun (v20 : Int32) =>
    x_wetting_L31 a1 j4 fu7 v20 M19)
def x_wetting (M : Mem) (a1 : Int32) (a2 : Int32) : Option (Mem × Int32) :=
if a1 < 0 then
(some (M, (-2)))
else
(if 99 < a1 then
(some (M, (-2)))
else
(if a2 < 0 then
(some (M, (-2)))
else
(if a2 ≤ 1 then
(ob (f_Pick_clear M) fun (M2 : Mem) =>
jp (fun (M3 : Mem) =>
if a2 = 0 then
(some (M3, (M3 40 1)))
else
(some (M3, (M3 40 2)))) fun j4 =>
x_wetting_L31 a1 j4 FU 0 M2)
else
(some (M, (-2))))))
def x_alone_L8 (j3 : Mem → Option (Mem × Int32)) : Nat → Int32 → Mem → Option (Mem × Int32)
  | 0, _, _ => none
  | fu6 + 1, v4, M5 =>
    if v4 ≤ 0 then
    (j3 M5)
    else
    (ob (x_startTrial M5) fun (M8 : Mem) =>
    bnd (wr M8 24 5 v4) fun (M9 : Mem) =>
    ob (f_Day_reckon M9) fun (M11 : Mem) =>
    ob (f_Day_live M11) fun (M13 : Mem) =>
    if (M13 23 16) = 0 then
    (some (M13, v4))
    else
    (bnd (v4 + (-1)) fun (v14 : Int32) =>
    x_alone_L8 j3 fu6 v14 M13))
def x_alone (M : Mem) : Option (Mem × Int32) :=
bnd ((M 1 5)) fun (v1 : Int32) =>
jp (fun (M2 : Mem) =>
some (M2, 0)) fun j3 =>
x_alone_L8 j3 FU v1 M
def x_tooWarm_L8 (j4 : Int32 → Mem → Option (Mem × Int32)) : Nat → Int32 → Int32 → Mem → Option (Mem × Int32)
  | 0, _, _, _ => none
  | fu8 + 1, v5, v6, M7 =>
    if v6 < 0 then
    (j4 v5 M7)
    else
    (ob (x_liveWith M7 0 v6) fun (M10 : Mem) =>
    ob (f_Day_late M10) fun (v12 : Int32) =>
    if v12 = 0 then
    (some (M10, v5))
    else
    (bnd (v6 + (-1)) fun (v13 : Int32) =>
    x_tooWarm_L8 j4 fu8 v6 v13 M10))
def x_tooWarm (M : Mem) : Option (Mem × Int32) :=
ck 0 9 <|
bnd ((tb 1 (0 : Int32).toNatClampNeg)) fun (v1 : Int32) =>
jp (fun (v2 : Int32) (M3 : Mem) =>
some (M3, v2)) fun j4 =>
x_tooWarm_L8 j4 FU (-1) v1 M
def x_gains (M : Mem) (a1 : Int32) : Option (Mem × Int32) :=
if a1 = 0 then
(ck 2 9 <|
ob (x_liveWith M 2 (tb 1 (2 : Int32).toNatClampNeg)) fun (M2 : Mem) =>
bnd ((M2 23 16)) fun (v3 : Int32) =>
ck 2 9 <|
ob (x_liveWith M2 2 (tb 0 (2 : Int32).toNatClampNeg)) fun (M5 : Mem) =>
some (M5, (v3 - (M5 23 16))))
else
(if a1 = 1 then
(ob (x_liveWith M 3 1) fun (M7 : Mem) =>
bnd ((M7 23 14)) fun (v8 : Int32) =>
ob (x_liveWith M7 3 2) fun (M10 : Mem) =>
some (M10, (v8 - (M10 23 14))))
else
(some (M, (-100000))))
def x_buckets_L55 (a1 : Int32) (M6 : Mem) (j10 : Int32 → Int32 → Int32 → Option (Mem × Int32)) : Nat → Int32 → Int32 → Int32 → Int32 → Int32 → Option (Mem × Int32)
  | 0, _, _, _, _, _ => none
  | fu16 + 1, v11, v12, v13, v14, v15 =>
    if (M6 1 5) ≤ v15 then
    (j10 v11 v12 v13)
    else
    (ck v15 6 <|
    bnd ((M6 36 v15.toNatClampNeg)) fun (v17 : Int32) =>
    ck v15 6 <|
    bnd ((M6 5 v15.toNatClampNeg)) fun (v18 : Int32) =>
    if v17 = (-1) then
    (bnd (v15 + 1) fun (v32 : Int32) =>
    x_buckets_L55 a1 M6 j10 fu16 v11 v12 v13 v14 v32)
    else
    (jp (fun (v19 : Int32) (v20 : Int32) (v21 : Int32) (v22 : Int32) =>
    bnd ((v21 - v18)) fun (v24 : Int32) =>
    bnd (v15 + 1) fun (v25 : Int32) =>
    x_buckets_L55 a1 M6 j10 fu16 v19 v20 v24 v22 v25) fun j23 =>
    jp (fun (u26 : Unit) =>
    nz a1 <|
    bnd ((((v18 + a1) - 1) / a1)) fun (v28 : Int32) =>
    bnd ((v12 + v13)) fun (v29 : Int32) =>
    bnd ((v11 + v28)) fun (v30 : Int32) =>
    bnd ((v28 * a1)) fun (v31 : Int32) =>
    j23 v30 v29 v31 v17) fun j27 =>
    if v13 < v18 then
    (j27 ())
    else
    (ck v15 6 <|
    if (v17 - v14) ≤ (M6 33 v15.toNatClampNeg) then
    (j23 v11 v12 v13 v14)
    else
    (j27 ()))))
def x_buckets (M : Mem) (a1 : Int32) (a2 : Int32) : Option (Mem × Int32) :=
if a1 < 1 then
(some (M, (-2)))
else
(if 40 < a1 then
(some (M, (-2)))
else
(if a2 < 0 then
(some (M, (-2)))
else
(if a2 ≤ 1 then
(ob (x_startTrial M) fun (M2 : Mem) =>
ob (f_Day_reckon M2) fun (M4 : Mem) =>
ob (f_Day_live M4) fun (M6 : Mem) =>
jp (fun (v7 : Int32) (v8 : Int32) (v9 : Int32) =>
if a2 = 0 then
(some (M6, v7))
else
(some (M6, (v8 + v9)))) fun j10 =>
x_buckets_L55 a1 M6 j10 FU 0 0 0 0 0)
else
(some (M, (-2))))))
def x_books (M : Mem) (a1 : Int32) (a2 : Int32) : Option (Mem × Int32) :=
ob (x_sheetAt a1) fun (v2 : Option Nat) =>
oc v2 (some (M, (-2))) fun (t3 : Nat) =>
if a2 < 0 then
(some (M, (-2)))
else
(jp (fun (u4 : Unit) =>
jp (fun (u6 : Unit) =>
ob (f_Sheet_isMissing M t3) fun (v9 : Bool) =>
if v9 = true then
(some (M, (-11)))
else
(if (M t3 2) = (M 1 5) then
(if a2 = 0 then
(ob2 (x_notSo M t3) fun (M11 : Mem) (v12 : Int32) =>
some (M11, v12))
else
(if a2 = 1 then
(ob2 (x_dialsOf M t3 2) fun (M14 : Mem) (v15 : Int64) =>
some (M14, v15.toInt32))
else
(if a2 = 2 then
(ob2 (x_dialsOf M t3 1) fun (M17 : Mem) (v18 : Int64) =>
some (M17, v18.toInt32))
else
(if a2 = 3 then
(ob2 (x_textsOf M t3) fun (M20 : Mem) (v21 : Int32) =>
some (M20, v21))
else
(ob2 (x_kindsOf M t3 (a2 - 10)) fun (M23 : Mem) (v24 : Int32) =>
some (M23, v24))))))
else
(some (M, (-2))))) fun j7 =>
if a2 ≤ 3 then
(j7 ())
else
(ob (f_Site_has M 1 (a2 - 10)) fun (v26 : Bool) =>
if v26 = true then
(j7 ())
else
(some (M, (-2))))) fun j5 =>
if a2 ≤ 3 then
(j5 ())
else
(if a2 < 10 then
(some (M, (-2)))
else
(j5 ())))
def x_warms (M : Mem) (a1 : Int32) : Option (Mem × Int64) :=
ob (x_sheetAt a1) fun (v2 : Option Nat) =>
oc v2 (some (M, (-4611686018427387904))) fun (t3 : Nat) =>
ob (f_Sheet_isMissing M t3) fun (v5 : Bool) =>
if v5 = true then
(some (M, (-4611686018427387904)))
else
(if (M t3 2) = (M 1 5) then
(ob2 (x_dialsOf M t3 0) fun (M7 : Mem) (v8 : Int64) =>
some (M7, v8))
else
(some (M, (-4611686018427387904))))
def x_film_L45 (t3 : Nat) (j13 : Mem → Option (Mem × Int32)) : Nat → Int32 → Mem → Option (Mem × Int32)
  | 0, _, _ => none
  | fu16 + 1, v14, M15 =>
    if (M15 1 5) ≤ v14 then
    (j13 M15)
    else
    (ck v14 6 <|
    ob (f_Sheet_put M15 t3 v14 (M15 38 v14.toNatClampNeg)) fun (M18 : Mem) =>
    bnd (v14 + 1) fun (v19 : Int32) =>
    x_film_L45 t3 j13 fu16 v19 M18)
def x_film (M : Mem) (a1 : Int32) : Option (Mem × Int32) :=
ob (x_sheetAt a1) fun (v2 : Option Nat) =>
oc v2 (some (M, (-2))) fun (t3 : Nat) =>
ob (x_startTrial M) fun (M5 : Mem) =>
ob (f_Day_reckon M5) fun (M7 : Mem) =>
ob (f_Day_live M7) fun (M9 : Mem) =>
ob (f_Sheet_become M9 t3 2 (M9 1 5)) fun (M11 : Mem) =>
jp (fun (M12 : Mem) =>
some (M12, (M12 1 5))) fun j13 =>
x_film_L45 t3 j13 FU 0 M11
def x_drawn (M : Mem) (a1 : Int32) : Option (Mem × Int32) :=
ob (x_warmOf M a1) fun (v2 : Int32) =>
ob (x_liveWith M 0 v2) fun (M4 : Mem) =>
some (M4, (M4 23 16))
def x_chance_L30 (a1 : Int32) (a2 : Int32) (j5 : Int32 → Mem → Option (Mem × Int64)) : Nat → Int32 → Int32 → Mem → Option (Mem × Int64)
  | 0, _, _, _ => none
  | fu11 + 1, v8, v9, M10 =>
    if a2 ≤ v9 then
    (j5 v8 M10)
    else
    (ob (x_warmOf M10 (a1 + v9)) fun (v13 : Int32) =>
    ob (x_liveWith M10 0 v13) fun (M15 : Mem) =>
    ob (f_Day_late M15) fun (v17 : Int32) =>
    if v17 = 0 then
    (bnd (v8 + 1) fun (v19 : Int32) =>
    bnd (v9 + 1) fun (v20 : Int32) =>
    x_chance_L30 a1 a2 j5 fu11 v19 v20 M15)
    else
    (bnd (v9 + 1) fun (v18 : Int32) =>
    x_chance_L30 a1 a2 j5 fu11 v8 v18 M15))
def x_chance (M : Mem) (a1 : Int32) (a2 : Int32) (a3 : Int32) : Option (Mem × Int64) :=
jp (fun (u1 : Unit) =>
some (M, (-4611686018427387904))) fun j2 =>
if a2 < 1 then
(j2 ())
else
(if 20 < a2 then
(j2 ())
else
(if a3 < 0 then
(j2 ())
else
(if a3 ≤ 1 then
(jp (fun (v3 : Int32) (M4 : Mem) =>
ob (x_commonDivisor a2 v3) fun (v7 : Int32) =>
if a3 = 0 then
(nz v7 <|
some (M4, (v3 / v7).toInt64))
else
(nz v7 <|
some (M4, (a2 / v7).toInt64))) fun j5 =>
x_chance_L30 a1 a2 j5 FU 0 0 M)
else
(j2 ()))))
def x_image (M : Mem) : Option (Mem × Int32) :=
ob (f_Site_become M 7 1) fun (M2 : Mem) =>
bnd (wr M2 0 2 1) fun (M3 : Mem) =>
some (M3, (M3 1 5))
def x_back (M : Mem) : Option (Mem × Int32) :=
if (M 0 2) = 0 then
(some (M, (-3)))
else
(ob (f_Site_become M 1 7) fun (M2 : Mem) =>
some (M2, (M2 1 5)))
def x_count (M : Mem) (a1 : Int32) : Option Int32 :=
if a1 = 0 then
(some (M 1 5))
else
(if a1 = 1 then
(ck 0 6 <|
some (M 2 (0 : Int32).toNatClampNeg))
else
(if a1 = 2 then
(ck 1 6 <|
some (M 2 (1 : Int32).toNatClampNeg))
else
(if a1 = 3 then
(ck 2 6 <|
some (M 2 (2 : Int32).toNatClampNeg))
else
(if a1 = 4 then
(ck 3 6 <|
some (M 2 (3 : Int32).toNatClampNeg))
else
(if a1 = 5 then
(ck 4 6 <|
some (M 2 (4 : Int32).toNatClampNeg))
else
(if a1 = 6 then
(ck 5 6 <|
some (M 2 (5 : Int32).toNatClampNeg))
else
(if a1 = 7 then
(some (M 0 6))
else
(if a1 = 8 then
(some (M 13 1))
else
(if a1 = 9 then
(some (M 1 6))
else
(some (-2)))))))))))
def x_sheet (M : Mem) (a1 : Int32) (a2 : Int32) (a3 : Int32) : Option (Mem × Int32) :=
ob (x_sheetAt a1) fun (v2 : Option Nat) =>
oc v2 (some (M, (-2))) fun (t3 : Nat) =>
if a2 < (-1) then
(some (M, (-2)))
else
(if a2 < 3 then
(if a2 = (-1) then
(ob (f_Sheet_become M t3 (-1) 0) fun (M7 : Mem) =>
some (M7, 1))
else
(if a3 ≤ 40 then
(if 0 ≤ a3 then
(ob (f_Sheet_become M t3 a2 a3) fun (M5 : Mem) =>
some (M5, 1))
else
(some (M, (-14))))
else
(some (M, (-2)))))
else
(some (M, (-2))))
def x_cell (M : Mem) (a1 : Int32) (a2 : Int32) (a3 : Int32) : Option (Mem × Int32) :=
ob (x_sheetAt a1) fun (v2 : Option Nat) =>
oc v2 (some (M, (-2))) fun (t3 : Nat) =>
ob (f_Sheet_isMissing M t3) fun (v5 : Bool) =>
if v5 = true then
(some (M, (-11)))
else
(ob (f_Sheet_has M t3 a2) fun (v7 : Bool) =>
if v7 = true then
(ob (f_Sheet_put M t3 a2 a3) fun (M9 : Mem) =>
some (M9, 1))
else
(some (M, (-12))))
def x_copy (M : Mem) (a1 : Int32) (a2 : Int32) (a3 : Int32) (a4 : Int32) (a5 : Int32) : Option (Mem × Int32) :=
ob (x_sheetAt a1) fun (v2 : Option Nat) =>
oc v2 (ob (x_sheetAt a3) fun (v5 : Option Nat) =>
oc v5 (some (M, (-2))) fun (t6 : Nat) =>
some (M, (-2))) fun (t3 : Nat) =>
ob (x_sheetAt a3) fun (v8 : Option Nat) =>
oc v8 (some (M, (-2))) fun (t9 : Nat) =>
ob (f_Sheet_isMissing M t3) fun (v11 : Bool) =>
if v11 = true then
(some (M, (-11)))
else
(ob (f_Sheet_isMissing M t9) fun (v13 : Bool) =>
if v13 = true then
(some (M, (-11)))
else
(if (M t3 1) = (M t9 1) then
(ob (f_Sheet_hasRun M t3 a2 a5) fun (v15 : Bool) =>
if v15 = true then
(ob (f_Sheet_hasRun M t9 a4 a5) fun (v17 : Bool) =>
if v17 = true then
(rq (¬ a2 < 0 ∧ ¬ a4 < 0 ∧ ¬ a5 < 0 ∧ a2.toNatClampNeg + a5.toNatClampNeg ≤ 40 ∧ a4.toNatClampNeg + a5.toNatClampNeg ≤ 40) <|
bnd (wrA M (t9 + 1) (va_cpy (M (t3 + 1)) (M (t9 + 1)) a2.toNatClampNeg a4.toNatClampNeg a5.toNatClampNeg)) fun (M18 : Mem) =>
some (M18, a5))
else
(some (M, (-12))))
else
(some (M, (-12))))
else
(some (M, (-13)))))
def x_walls_L65 (a3 : Int32) (a4 : Int32) (t3 : Nat) (j8 : Int32 → Mem → Option (Mem × Int32)) : Nat → Int32 → Int32 → Mem → Option (Mem × Int32)
  | 0, _, _, _ => none
  | fu12 + 1, v9, v10, M11 =>
    if a4 ≤ v10 then
    (j8 v9 M11)
    else
    (bnd ((a3 + (3 * v10))) fun (v13 : Int32) =>
    ob (f_Sheet_hasRun M11 t3 v13 3) fun (v15 : Bool) =>
    if v15 = true then
    (ck v13 40 <|
    ck (v13 + 1) 40 <|
    ck (v13 + 2) 40 <|
    ob2 (x_wall M11 (M11 (t3 + 1) v13.toNatClampNeg) (M11 (t3 + 1) (v13 + 1).toNatClampNeg) (M11 (t3 + 1) (v13 + 2).toNatClampNeg)) fun (M17 : Mem) (v18 : Int32) =>
    if v18 < 0 then
    (bnd (v10 + 1) fun (v19 : Int32) =>
    x_walls_L65 a3 a4 t3 j8 fu12 v9 v19 M17)
    else
    (bnd (v9 + 1) fun (v20 : Int32) =>
    bnd (v10 + 1) fun (v21 : Int32) =>
    x_walls_L65 a3 a4 t3 j8 fu12 v20 v21 M17))
    else
    (some (M11, (-12))))
def x_walls (M : Mem) (a1 : Int32) (a2 : Int32) (a3 : Int32) (a4 : Int32) : Option (Mem × Int32) :=
ob (x_sheetAt a1) fun (v2 : Option Nat) =>
oc v2 (some (M, (-2))) fun (t3 : Nat) =>
if a2 < 0 then
(some (M, (-2)))
else
(if 3 ≤ a2 then
(some (M, (-2)))
else
(if a4 < 0 then
(some (M, (-2)))
else
(if a4 ≤ 6 then
(ob (f_Sheet_isMissing M t3) fun (v5 : Bool) =>
if v5 = true then
(some (M, (-11)))
else
(if (M t3 1) = a2 then
(jp (fun (v6 : Int32) (M7 : Mem) =>
some (M7, v6)) fun j8 =>
x_walls_L65 a3 a4 t3 j8 FU 0 0 M)
else
(some (M, (-13)))))
else
(some (M, (-2))))))
def x_taken (M : Mem) (a1 : Int32) (a2 : Int32) : Option Int32 :=
ob (x_isKind a2) fun (v2 : Bool) =>
if v2 = true then
(ob (f_Site_has M 1 a1) fun (v4 : Bool) =>
if v4 = true then
(ck a1 6 <|
ob (f_Kind_isUnder (M 3 a1.toNatClampNeg) a2) fun (v6 : Bool) =>
if v6 = true then
(ck a1 6 <|
some (M 4 a1.toNatClampNeg))
else
(some (-13)))
else
(some (-11)))
else
(some (-2))
set_option maxHeartbeats 4000000 in
set_option maxRecDepth 20000 in
theorem w_x_isKind {X : XT} {M : Mem} {a1 : Int32} {r : Bool}   (h : x_isKind a1 = some r) : CT layX X 0 yX8_isKind cX8_isKind 1 (some .boolean) [.int a1] M M (some (.int (b2i r))) := by
  refine CT.of rfl (Nat.le_of_ble_eq_true rfl) (lv := [(0, .int a1)]) rfl (fun Γ K => ?_)
  have K : Kx layX X Γ RX8 cX8_isKind 1 0 (some .boolean) := K
  unfold x_isKind at h
  refine g_iload_n (pn := 1) K rfl 0 rfl dX8_isKind_0 ?_
  refine g_if_lt (tgt := 14) (pn := 4) K rfl (by decide) dX8_isKind_1 h (fun h => ?_) (fun h => ?_)
  · refine g_iconst (pn := 15) (v := 0) K rfl ic_0 dX8_isKind_14 ?_
    exact g_zret K rfl dX8_isKind_15 (bq0 (oi h)) rfl
  · refine g_iload_n (pn := 5) K rfl 0 rfl dX8_isKind_4 ?_
    refine g_bipush (pn := 7) (v := 6) K rfl bp_6 dX8_isKind_5 ?_
    refine g_icmp_ge (tgt := 14) (pn := 10) K rfl (by decide) dX8_isKind_7 h (fun h => ?_) (fun h => ?_)
    · refine g_iconst (pn := 15) (v := 0) K rfl ic_0 dX8_isKind_14 ?_
      exact g_zret K rfl dX8_isKind_15 (bq0 (oi h)) rfl
    · refine g_iconst (pn := 11) (v := 1) K rfl ic_1 dX8_isKind_10 ?_
      refine g_goto (tgt := 15) K (by decide) dX8_isKind_11 ?_
      exact g_zret K rfl dX8_isKind_15 (bq1 (oi h)) rfl
set_option maxHeartbeats 4000000 in
set_option maxRecDepth 20000 in
theorem w_x_sheetAt {X : XT} {M : Mem} {a1 : Int32} {r : (Option Nat)}   (h : x_sheetAt a1 = some r) : CT layX X 0 yX8_sheetAt cX8_sheetAt 2 (some (.object "BeforeItGoes$Sheet")) [.ref (X.2.2.2.1 0), .int a1] M M (some (rv X.2.2.2.1 r)) := by
  refine CT.of rfl (Nat.le_of_ble_eq_true rfl) (lv := [(0, .ref (X.2.2.2.1 0)), (1, .int a1)]) rfl (fun Γ K => ?_)
  have K : Kx layX X Γ RX8 cX8_sheetAt 2 0 (some (.object "BeforeItGoes$Sheet")) := K
  unfold x_sheetAt at h
  refine g_iload_n (pn := 1) K rfl 1 rfl dX8_sheetAt_0 ?_
  refine jp_e1 h (fun u1 => G layX X Γ 2 (QM layX X Γ (some (rv X.2.2.2.1 r)) M) 18 [] [] M) (fun u1 h => ?_) (fun j2 hj2 h => ?_)
  · refine g_null (pn := 19) K rfl dX8_sheetAt_18 ?_
    exact g_aret K (Or.inl ⟨_, rfl⟩) (Or.inl rfl) dX8_sheetAt_19 (by rw [← oi h]; rfl) rfl
  refine g_if_lt (tgt := 18) (pn := 4) K rfl (by decide) dX8_sheetAt_1 h (fun h => ?_) (fun h => ?_)
  · refine g_sub [] rfl ?_
    exact hj2 _ h
  · refine g_iload_n (pn := 5) K rfl 1 rfl dX8_sheetAt_4 ?_
    refine g_iconst (pn := 6) (v := 4) K rfl ic_4 dX8_sheetAt_5 ?_
    refine g_icmp_ge (tgt := 18) (pn := 9) K rfl (by decide) dX8_sheetAt_6 h (fun h => ?_) (fun h => ?_)
    · refine g_sub [] rfl ?_
      exact hj2 _ h
    · refine g_aload_n (pn := 10) K rfl 0 rfl dX8_sheetAt_9 ?_
      refine g_getr (pn := 13) (j := 41) K rfl fl_X8_67 lx_0 rfl dX8_sheetAt_10 ?_
      refine g_iload_n (pn := 14) K rfl 1 rfl dX8_sheetAt_13 ?_
      refine g_aald (pn := 15) (ty := 1) K rfl lx_41 rfl dX8_sheetAt_14 h (fun hi3 h => ?_)
      refine g_goto (tgt := 19) K (by decide) dX8_sheetAt_15 ?_
      exact g_aret K (Or.inl ⟨_, rfl⟩) (Or.inr ⟨_, rfl⟩) dX8_sheetAt_19 (by rw [← oi h]; rfl) rfl
set_option maxHeartbeats 4000000 in
set_option maxRecDepth 20000 in
theorem w_x_warmOf {X : XT} {M : Mem} {a1 : Int32} {r : Int32}   (h : x_warmOf M a1 = some r) : CT layX X 0 yX8_warmOf cX8_warmOf 2 (some .int) [.int a1] M M (some (.int r)) := by
  refine CT.of rfl (Nat.le_of_ble_eq_true rfl) (lv := [(0, .int a1)]) rfl (fun Γ K => ?_)
  have K : Kx layX X Γ RX8 cX8_warmOf 2 0 (some .int) := K
  unfold x_warmOf at h
  refine g_iload_n (pn := 1) K rfl 0 rfl dX8_warmOf_0 ?_
  refine g_ldcw (pn := 4) (v := 1103515245) K rfl cn_X8_292 dX8_warmOf_1 ?_
  refine g_imul (pn := 5) K rfl dX8_warmOf_4 ?_
  refine g_sipush (pn := 8) (v := 12345) K rfl sp_12345 dX8_warmOf_5 ?_
  refine g_iadd (pn := 9) K rfl dX8_warmOf_8 ?_
  refine g_nmi h (fun v1 h => ?_)
  refine g_istore_n (pn := 10) (lv' := [(1, .int v1), (0, .int a1)]) K rfl dX8_warmOf_9 rfl (Nat.le_of_ble_eq_true rfl) rfl ?_
  refine g_iload_n (pn := 11) K rfl 0 rfl dX8_warmOf_10 ?_
  refine g_bipush (pn := 13) (v := 9) K rfl bp_9 dX8_warmOf_11 ?_
  refine g_iushr (pn := 14) K rfl dX8_warmOf_13 ?_
  refine g_gets (pn := 17) (j := 1) K rfl (by decide) fs_X8_96 dX8_warmOf_14 ?_
  refine g_iconst (pn := 18) (v := 0) K rfl ic_0 dX8_warmOf_17 ?_
  refine g_tald (pn := 19) (n := 9) K rfl (by decide) rfl dX8_warmOf_18 h (fun h => ?_)
  refine g_iconst (pn := 20) (v := 1) K rfl ic_1 dX8_warmOf_19 ?_
  refine g_iadd (pn := 21) K rfl dX8_warmOf_20 ?_
  obtain ⟨hz, h⟩ := nz_e h
  refine g_irem (pn := 22) K rfl hz dX8_warmOf_21 ?_
  exact g_iret K dX8_warmOf_22 (oi h) rfl
set_option maxHeartbeats 4000000 in
set_option maxRecDepth 20000 in
theorem w_x_commonDivisor {X : XT} {M : Mem} {a1 : Int32} {a2 : Int32} {r : Int32}   (h : x_commonDivisor a1 a2 = some r) : CT layX X 0 yX8_commonDivisor cX8_commonDivisor 3 (some .int) [.int a1, .int a2] M M (some (.int r)) := by
  refine CT.of rfl (Nat.le_of_ble_eq_true rfl) (lv := [(0, .int a1), (1, .int a2)]) rfl (fun Γ K => ?_)
  have K : Kx layX X Γ RX8 cX8_commonDivisor 3 0 (some .int) := K
  unfold x_commonDivisor at h
  refine g_iload_n (pn := 1) K rfl 0 rfl dX8_commonDivisor_0 ?_
  refine g_istore_n (pn := 2) (lv' := [(2, .int a1), (0, .int a1), (1, .int a2)]) K rfl dX8_commonDivisor_1 rfl (Nat.le_of_ble_eq_true rfl) rfl ?_
  refine jp_e1 h (fun u1 => G layX X Γ 3 (QM layX X Γ (some (.int r)) M) 27 [] [] M) (fun u1 h => ?_) (fun j2 hj2 h => ?_)
  · refine g_iconst (pn := 28) (v := 1) K rfl ic_1 dX8_commonDivisor_27 ?_
    exact g_iret K dX8_commonDivisor_28 (oi h) rfl
  have LP2 : ∀ (fu4 : Nat) (v3 : Int32), x_commonDivisor_L2 a1 a2 j2 fu4 v3 = some r → G layX X Γ 3 (QM layX X Γ (some (.int r)) M) 2 [(0, .int a1), (1, .int a2), (2, .int v3)] [] M := by
    intro fu4
    induction fu4 with
    | zero =>
      intro v3 h
      rw [x_commonDivisor_L2] at h
      cases h
    | succ fu4 ih4 =>
      intro v3 h
      rw [x_commonDivisor_L2] at h
      refine g_iload_n (pn := 3) K rfl 2 rfl dX8_commonDivisor_2 ?_
      refine g_iconst (pn := 4) (v := 1) K rfl ic_1 dX8_commonDivisor_3 ?_
      refine g_icmp_le (tgt := 27) (pn := 7) K rfl (by decide) dX8_commonDivisor_4 h (fun h => ?_) (fun h => ?_)
      · refine g_sub [] rfl ?_
        exact hj2 _ h
      · refine g_iload_n (pn := 8) K rfl 0 rfl dX8_commonDivisor_7 ?_
        refine g_iload_n (pn := 9) K rfl 2 rfl dX8_commonDivisor_8 ?_
        obtain ⟨hz, h⟩ := nz_e h
        refine g_irem (pn := 10) K rfl hz dX8_commonDivisor_9 ?_
        refine g_if_ne (tgt := 21) (pn := 13) K rfl (by decide) dX8_commonDivisor_10 h (fun h => ?_) (fun h => ?_)
        · obtain ⟨v5, ev5, h⟩ := bnd_e h
          refine g_iinc (pn := 24) (v := v5) (lv' := [(2, .int v5), (0, .int a1), (1, .int a2)]) K rfl 2 rfl ii_m1 ev5 dX8_commonDivisor_21 (Nat.le_of_ble_eq_true rfl) rfl ?_
          refine g_goto (tgt := 2) K (by decide) dX8_commonDivisor_24 ?_
          refine g_sub [1, 2, 0] rfl ?_
          exact ih4 _ h
        · refine g_iload_n (pn := 14) K rfl 1 rfl dX8_commonDivisor_13 ?_
          refine g_iload_n (pn := 15) K rfl 2 rfl dX8_commonDivisor_14 ?_
          obtain ⟨hz, h⟩ := nz_e h
          refine g_irem (pn := 16) K rfl hz dX8_commonDivisor_15 ?_
          refine g_if_ne (tgt := 21) (pn := 19) K rfl (by decide) dX8_commonDivisor_16 h (fun h => ?_) (fun h => ?_)
          · obtain ⟨v6, ev6, h⟩ := bnd_e h
            refine g_iinc (pn := 24) (v := v6) (lv' := [(2, .int v6), (0, .int a1), (1, .int a2)]) K rfl 2 rfl ii_m1 ev6 dX8_commonDivisor_21 (Nat.le_of_ble_eq_true rfl) rfl ?_
            refine g_goto (tgt := 2) K (by decide) dX8_commonDivisor_24 ?_
            refine g_sub [1, 2, 0] rfl ?_
            exact ih4 _ h
          · refine g_iload_n (pn := 20) K rfl 2 rfl dX8_commonDivisor_19 ?_
            exact g_iret K dX8_commonDivisor_20 (oi h) rfl
  refine g_sub [1, 2, 0] rfl ?_
  exact LP2 FU _ h
set_option maxHeartbeats 4000000 in
set_option maxRecDepth 20000 in
theorem w_x_startTrial {X : XT} {M : Mem}  {M' : Mem}   (h : x_startTrial M = some M') : CT layX X 1 yX8_startTrial cX8_startTrial 2 none [.ref (X.2.2.2.1 0)] M M' none := by
  refine CT.of rfl (Nat.le_of_ble_eq_true rfl) (lv := [(0, .ref (X.2.2.2.1 0))]) rfl (fun Γ K => ?_)
  have K : Kx layX X Γ RX8 cX8_startTrial 2 1 none := K
  unfold x_startTrial at h
  refine g_aload_n (pn := 1) K rfl 0 rfl dX8_startTrial_0 ?_
  refine g_getr (pn := 4) (j := 23) K rfl fl_X8_54 lx_0 rfl dX8_startTrial_1 ?_
  refine g_getr (pn := 7) (j := 24) K rfl fl_X8_224 lx_23 rfl dX8_startTrial_4 ?_
  refine g_aload_n (pn := 8) K rfl 0 rfl dX8_startTrial_7 ?_
  refine g_getr (pn := 11) (j := 1) K rfl fl_X8_10 lx_0 rfl dX8_startTrial_8 ?_
  obtain ⟨M2, hc1, h⟩ := ob_e h
  refine g_callV0 (pn := 14) (As := [.ref (X.2.2.2.1 1)]) (rest := []) (a := 24) K rfl (d' := 0) (Nat.le_of_ble_eq_true rfl) mv_X8_225 (recvO K lx_24 rfl) (w_f_Site_become (Or.inr (Or.inr rfl)) (Or.inl rfl) hc1) rfl rfl (Nat.le_of_ble_eq_true rfl) dX8_startTrial_11 ?_
  refine g_iconst (pn := 15) (v := 0) K rfl ic_0 dX8_startTrial_14 ?_
  refine g_istore_n (pn := 16) (lv' := [(1, .int 0), (0, .ref (X.2.2.2.1 0))]) K rfl dX8_startTrial_15 rfl (Nat.le_of_ble_eq_true rfl) rfl ?_
  refine jp_e1 h (fun M3 => G layX X Γ 2 (QM layX X Γ none M') 37 [] [] M3) (fun M3 h => ?_) (fun j4 hj4 h => ?_)
  · exact g_vret K dX8_startTrial_37 (oi h)
  have LP16 : ∀ (fu7 : Nat) (v5 : Int32) (M6 : Mem), x_startTrial_L16 j4 fu7 v5 M6 = some M' → G layX X Γ 2 (QM layX X Γ none M') 16 [(0, .ref (X.2.2.2.1 0)), (1, .int v5)] [] M6 := by
    intro fu7
    induction fu7 with
    | zero =>
      intro v5 M6 h
      rw [x_startTrial_L16] at h
      cases h
    | succ fu7 ih7 =>
      intro v5 M6 h
      rw [x_startTrial_L16] at h
      refine g_iload_n (pn := 17) K rfl 1 rfl dX8_startTrial_16 ?_
      refine g_bipush (pn := 19) (v := 6) K rfl bp_6 dX8_startTrial_17 ?_
      refine g_icmp_ge (tgt := 37) (pn := 22) K rfl (by decide) dX8_startTrial_19 h (fun h => ?_) (fun h => ?_)
      · refine g_sub [] rfl ?_
        exact hj4 _ h
      · refine g_aload_n (pn := 23) K rfl 0 rfl dX8_startTrial_22 ?_
        refine g_getr (pn := 26) (j := 23) K rfl fl_X8_54 lx_0 rfl dX8_startTrial_23 ?_
        refine g_iload_n (pn := 27) K rfl 1 rfl dX8_startTrial_26 ?_
        refine g_iload_n (pn := 28) K rfl 1 rfl dX8_startTrial_27 ?_
        obtain ⟨M9, hc8, h⟩ := ob_e h
        refine g_callV0 (pn := 31) (As := [.int v5, .int v5]) (rest := []) (a := 23) K rfl (d' := 0) (Nat.le_of_ble_eq_true rfl) mv_X8_190 (recvO K lx_23 rfl) (w_f_Day_place hc8) rfl rfl (Nat.le_of_ble_eq_true rfl) dX8_startTrial_28 ?_
        obtain ⟨v10, ev10, h⟩ := bnd_e h
        refine g_iinc (pn := 34) (v := v10) (lv' := [(1, .int v10), (0, .ref (X.2.2.2.1 0))]) K rfl 1 rfl ii_1 ev10 dX8_startTrial_31 (Nat.le_of_ble_eq_true rfl) rfl ?_
        refine g_goto (tgt := 16) K (by decide) dX8_startTrial_34 ?_
        refine g_sub [1, 0] rfl ?_
        exact ih7 _ _ h
  refine g_sub [1, 0] rfl ?_
  exact LP16 FU _ _ h
set_option maxHeartbeats 4000000 in
set_option maxRecDepth 20000 in
theorem w_x_liveWith {X : XT} {M : Mem} {a1 : Int32} {a2 : Int32} {M' : Mem}   (h : x_liveWith M a1 a2 = some M') : CT layX X 5 yX8_liveWith cX8_liveWith 3 none [.ref (X.2.2.2.1 0), .int a1, .int a2] M M' none := by
  refine CT.of rfl (Nat.le_of_ble_eq_true rfl) (lv := [(0, .ref (X.2.2.2.1 0)), (1, .int a1), (2, .int a2)]) rfl (fun Γ K => ?_)
  have K : Kx layX X Γ RX8 cX8_liveWith 3 5 none := K
  unfold x_liveWith at h
  refine g_aload_n (pn := 1) K rfl 0 rfl dX8_liveWith_0 ?_
  obtain ⟨M2, hc1, h⟩ := ob_e h
  refine g_callV0 (pn := 4) (As := []) (rest := []) (a := 0) K rfl (d' := 1) (Nat.le_of_ble_eq_true rfl) mv_X8_129 (recvO K lx_0 rfl) (w_x_startTrial hc1) rfl rfl (Nat.le_of_ble_eq_true rfl) dX8_liveWith_1 ?_
  refine g_aload_n (pn := 5) K rfl 0 rfl dX8_liveWith_4 ?_
  refine g_getr (pn := 8) (j := 23) K rfl fl_X8_54 lx_0 rfl dX8_liveWith_5 ?_
  refine g_getr (pn := 11) (j := 24) K rfl fl_X8_224 lx_23 rfl dX8_liveWith_8 ?_
  refine g_iload_n (pn := 12) K rfl 1 rfl dX8_liveWith_11 ?_
  refine g_iload_n (pn := 13) K rfl 2 rfl dX8_liveWith_12 ?_
  obtain ⟨M4, hc3, h⟩ := ob_e h
  refine g_callV0 (pn := 16) (As := [.int a1, .int a2]) (rest := []) (a := 24) K rfl (d' := 0) (Nat.le_of_ble_eq_true rfl) mv_X8_228 (recvO K lx_24 rfl) (w_f_Site_turn (Or.inr (Or.inr rfl)) hc3) rfl rfl (Nat.le_of_ble_eq_true rfl) dX8_liveWith_13 ?_
  refine g_aload_n (pn := 17) K rfl 0 rfl dX8_liveWith_16 ?_
  refine g_getr (pn := 20) (j := 23) K rfl fl_X8_54 lx_0 rfl dX8_liveWith_17 ?_
  obtain ⟨M6, hc5, h⟩ := ob_e h
  refine g_callV0 (pn := 23) (As := []) (rest := []) (a := 23) K rfl (d' := 3) (Nat.le_of_ble_eq_true rfl) mv_X8_132 (recvO K lx_23 rfl) (w_f_Day_reckon hc5) rfl rfl (Nat.le_of_ble_eq_true rfl) dX8_liveWith_20 ?_
  refine g_aload_n (pn := 24) K rfl 0 rfl dX8_liveWith_23 ?_
  refine g_getr (pn := 27) (j := 23) K rfl fl_X8_54 lx_0 rfl dX8_liveWith_24 ?_
  obtain ⟨M8, hc7, h⟩ := ob_e h
  refine g_callV0 (pn := 30) (As := []) (rest := []) (a := 23) K rfl (d' := 4) (Nat.le_of_ble_eq_true rfl) mv_X8_165 (recvO K lx_23 rfl) (w_f_Day_live hc7) rfl rfl (Nat.le_of_ble_eq_true rfl) dX8_liveWith_27 ?_
  exact g_vret K dX8_liveWith_30 (oi h)
set_option maxHeartbeats 4000000 in
set_option maxRecDepth 20000 in
theorem w_x_reckoned {X : XT} {M : Mem} {a1 : Int32} {a2 : Int32} {M' : Mem} {r : Int32}   (h : x_reckoned M a1 a2 = some (M', r)) : CT layX X 4 yX8_reckoned cX8_reckoned 3 (some .int) [.ref (X.2.2.2.1 0), .int a1, .int a2] M M' (some (.int r)) := by
  refine CT.of rfl (Nat.le_of_ble_eq_true rfl) (lv := [(0, .ref (X.2.2.2.1 0)), (1, .int a1), (2, .int a2)]) rfl (fun Γ K => ?_)
  have K : Kx layX X Γ RX8 cX8_reckoned 3 4 (some .int) := K
  unfold x_reckoned at h
  refine g_aload_n (pn := 1) K rfl 0 rfl dX8_reckoned_0 ?_
  obtain ⟨M2, hc1, h⟩ := ob_e h
  refine g_callV0 (pn := 4) (As := []) (rest := []) (a := 0) K rfl (d' := 1) (Nat.le_of_ble_eq_true rfl) mv_X8_129 (recvO K lx_0 rfl) (w_x_startTrial hc1) rfl rfl (Nat.le_of_ble_eq_true rfl) dX8_reckoned_1 ?_
  refine g_aload_n (pn := 5) K rfl 0 rfl dX8_reckoned_4 ?_
  refine g_getr (pn := 8) (j := 23) K rfl fl_X8_54 lx_0 rfl dX8_reckoned_5 ?_
  obtain ⟨M4, hc3, h⟩ := ob_e h
  refine g_callV0 (pn := 11) (As := []) (rest := []) (a := 23) K rfl (d' := 3) (Nat.le_of_ble_eq_true rfl) mv_X8_132 (recvO K lx_23 rfl) (w_f_Day_reckon hc3) rfl rfl (Nat.le_of_ble_eq_true rfl) dX8_reckoned_8 ?_
  refine g_iload_n (pn := 12) K rfl 2 rfl dX8_reckoned_11 ?_
  rcases Decidable.em (a2 = 4) with hs | hs0
  · replace h := (ite_e h).1 hs
    refine g_tsw (tgt := 40) (v := 4) (off := 28) K hs (by decide) (by decide) (by decide) (by decide) dX8_reckoned_12 ?_
    refine g_aload_n (pn := 41) K rfl 0 rfl dX8_reckoned_40 ?_
    refine g_getr (pn := 44) (j := 23) K rfl fl_X8_54 lx_0 rfl dX8_reckoned_41 ?_
    refine g_getr (pn := 47) (j := 33) K rfl fl_X8_135 lx_23 rfl dX8_reckoned_44 ?_
    refine g_iload_n (pn := 48) K rfl 1 rfl dX8_reckoned_47 ?_
    refine g_iald (pn := 49) K rfl lx_33 dX8_reckoned_48 h (fun h => ?_)
    exact g_iret K dX8_reckoned_49 (oi2 h).2 (oi2 h).1
  · replace h := (ite_e h).2 hs0
    rcases Decidable.em (a2 = 5) with hs | hs1
    · replace h := (ite_e h).1 hs
      refine g_tsw (tgt := 50) (v := 5) (off := 38) K hs (by decide) (by decide) (by decide) (by decide) dX8_reckoned_12 ?_
      refine g_aload_n (pn := 51) K rfl 0 rfl dX8_reckoned_50 ?_
      refine g_getr (pn := 54) (j := 23) K rfl fl_X8_54 lx_0 rfl dX8_reckoned_51 ?_
      refine g_getr (pn := 57) (j := 34) K rfl fl_X8_138 lx_23 rfl dX8_reckoned_54 ?_
      refine g_iload_n (pn := 58) K rfl 1 rfl dX8_reckoned_57 ?_
      refine g_iald (pn := 59) K rfl lx_34 dX8_reckoned_58 h (fun h => ?_)
      exact g_iret K dX8_reckoned_59 (oi2 h).2 (oi2 h).1
    · replace h := (ite_e h).2 hs1
      rcases Decidable.em (a2 = 6) with hs | hs2
      · replace h := (ite_e h).1 hs
        refine g_tsw (tgt := 60) (v := 6) (off := 48) K hs (by decide) (by decide) (by decide) (by decide) dX8_reckoned_12 ?_
        refine g_aload_n (pn := 61) K rfl 0 rfl dX8_reckoned_60 ?_
        refine g_getr (pn := 64) (j := 23) K rfl fl_X8_54 lx_0 rfl dX8_reckoned_61 ?_
        refine g_getr (pn := 67) (j := 35) K rfl fl_X8_141 lx_23 rfl dX8_reckoned_64 ?_
        refine g_iload_n (pn := 68) K rfl 1 rfl dX8_reckoned_67 ?_
        refine g_iald (pn := 69) K rfl lx_35 dX8_reckoned_68 h (fun h => ?_)
        exact g_iret K dX8_reckoned_69 (oi2 h).2 (oi2 h).1
      · replace h := (ite_e h).2 hs2
        refine g_tswD (tgt := 70) K [4, 5, 6] (by decide) (by decide) (by simp only [List.forall_mem_cons]; exact ⟨hs0, hs1, hs2, fun _ h => absurd h List.not_mem_nil⟩) (by decide) dX8_reckoned_12 ?_
        refine g_bipush (pn := 72) (v := (-2)) K rfl bp_m2 dX8_reckoned_70 ?_
        exact g_iret K dX8_reckoned_72 (oi2 h).2 (oi2 h).1
set_option maxHeartbeats 4000000 in
set_option maxRecDepth 20000 in
theorem w_x_learn {X : XT} {M : Mem}  {M' : Mem} {r : Int32}   (h : x_learn M = some (M', r)) : CT layX X 166 yX8_learn cX8_learn 2 (some .int) [.ref (X.2.2.2.1 0)] M M' (some (.int r)) := by
  refine CT.of rfl (Nat.le_of_ble_eq_true rfl) (lv := [(0, .ref (X.2.2.2.1 0))]) rfl (fun Γ K => ?_)
  have K : Kx layX X Γ RX8 cX8_learn 2 166 (some .int) := K
  unfold x_learn at h
  refine g_aload_n (pn := 1) K rfl 0 rfl dX8_learn_0 ?_
  refine g_getr (pn := 4) (j := 18) K rfl fl_X8_35 lx_0 rfl dX8_learn_1 ?_
  obtain ⟨M2, v3, hc1, h⟩ := ob2_e h
  refine g_callV1 (pn := 7) (As := []) (rest := []) (a := 18) K rfl (d' := 165) (Nat.le_of_ble_eq_true rfl) mv_X8_144 (recvO K lx_18 rfl) (w_f_Reader_read hc1) rfl rfl (Nat.le_of_ble_eq_true rfl) dX8_learn_4 ?_
  refine g_istore_n (pn := 8) (lv' := [(1, .int v3), (0, .ref (X.2.2.2.1 0))]) K rfl dX8_learn_7 rfl (Nat.le_of_ble_eq_true rfl) rfl ?_
  refine g_aload_n (pn := 9) K rfl 1 rfl dX8_learn_8 ?_
  refine g_getr (pn := 12) (j := 13) K rfl fl_X8_26 lx_0 rfl dX8_learn_9 ?_
  obtain ⟨M5, hc4, h⟩ := ob_e h
  refine g_callV0 (pn := 15) (As := []) (rest := []) (a := 13) K rfl (d' := 0) (Nat.le_of_ble_eq_true rfl) mv_X8_147 (recvO K lx_13 rfl) (w_f_Tape_clear hc4) rfl rfl (Nat.le_of_ble_eq_true rfl) dX8_learn_12 ?_
  refine g_iload_n (pn := 16) K rfl 0 rfl dX8_learn_15 ?_
  refine g_iconst (pn := 17) (v := (-1)) K rfl ic_m1 dX8_learn_16 ?_
  refine g_icmp_eq (tgt := 25) (pn := 20) K rfl (by decide) dX8_learn_17 h (fun h => ?_) (fun h => ?_)
  · refine g_aload_n (pn := 26) K rfl 1 rfl dX8_learn_25 ?_
    refine g_geti (pn := 29) K rfl fl_X8_45 lx_0 rfl dX8_learn_26 ?_
    refine g_if_lt (tgt := 53) (pn := 32) K rfl (by decide) dX8_learn_29 h (fun h => ?_) (fun h => ?_)
    · refine g_bipush (pn := 55) (v := (-4)) K rfl bp_m4 dX8_learn_53 ?_
      exact g_iret K dX8_learn_55 (oi2 h).2 (oi2 h).1
    · refine g_aload_n (pn := 33) K rfl 1 rfl dX8_learn_32 ?_
      refine g_geti (pn := 36) K rfl fl_X8_45 lx_0 rfl dX8_learn_33 ?_
      refine g_bipush (pn := 38) (v := 6) K rfl bp_6 dX8_learn_36 ?_
      refine g_icmp_ge (tgt := 53) (pn := 41) K rfl (by decide) dX8_learn_38 h (fun h => ?_) (fun h => ?_)
      · refine g_bipush (pn := 55) (v := (-4)) K rfl bp_m4 dX8_learn_53 ?_
        exact g_iret K dX8_learn_55 (oi2 h).2 (oi2 h).1
      · refine g_aload_n (pn := 42) K rfl 1 rfl dX8_learn_41 ?_
        refine g_getr (pn := 45) (j := 22) K rfl fl_X8_41 lx_0 rfl dX8_learn_42 ?_
        refine g_aload_n (pn := 46) K rfl 1 rfl dX8_learn_45 ?_
        refine g_geti (pn := 49) K rfl fl_X8_45 lx_0 rfl dX8_learn_46 ?_
        refine g_aald (pn := 50) (ty := 0) K rfl lx_22 rfl dX8_learn_49 h (fun hi6 h => ?_)
        refine g_ifnonnull (tgt := 56) K (by decide) dX8_learn_50 ?_
        refine g_aload_n (pn := 57) K rfl 1 rfl dX8_learn_56 ?_
        refine g_getr (pn := 60) (j := 22) K rfl fl_X8_41 lx_0 rfl dX8_learn_57 ?_
        refine g_aload_n (pn := 61) K rfl 1 rfl dX8_learn_60 ?_
        refine g_geti (pn := 64) K rfl fl_X8_45 lx_0 rfl dX8_learn_61 ?_
        refine g_aald (pn := 65) (ty := 0) K rfl lx_22 rfl dX8_learn_64 h (fun hi7 h => ?_)
        refine g_aload_n (pn := 66) K rfl 1 rfl dX8_learn_65 ?_
        refine g_getr (pn := 69) (j := 18) K rfl fl_X8_35 lx_0 rfl dX8_learn_66 ?_
        refine g_getr (pn := 72) (j := 19) K rfl fl_X8_150 lx_18 rfl dX8_learn_69 ?_
        obtain ⟨M9, hc8, h⟩ := ob_e h
        refine g_callV0 (pn := 75) (As := [.ref (X.2.2.2.1 19)]) (rest := []) (a := (42 + 3 * (M5 0 6).toNatClampNeg)) K rfl (d' := 0) (Nat.le_of_ble_eq_true rfl) mv_X8_154 (recvO K (lxText (isText_in hi7)) rfl) (w_f_Text_become (isText_in hi7) (Or.inl rfl) hc8) rfl rfl (Nat.le_of_ble_eq_true rfl) dX8_learn_72 ?_
        refine g_aload_n (pn := 76) K rfl 1 rfl dX8_learn_75 ?_
        refine g_dup (pn := 77) K rfl rfl dX8_learn_76 ?_
        refine g_geti (pn := 80) K rfl fl_X8_45 lx_0 rfl dX8_learn_77 ?_
        refine g_iconst (pn := 81) (v := 1) K rfl ic_1 dX8_learn_80 ?_
        refine g_iadd (pn := 82) K rfl dX8_learn_81 ?_
        refine g_puti (pn := 85) K rfl fp_X8_45 lx_0 rfl dX8_learn_82 h (fun M10 h => ?_)
        refine g_aload_n (pn := 86) K rfl 1 rfl dX8_learn_85 ?_
        refine g_geti (pn := 89) K rfl fl_X8_45 lx_0 rfl dX8_learn_86 ?_
        refine g_iconst (pn := 90) (v := 1) K rfl ic_1 dX8_learn_89 ?_
        refine g_isub (pn := 91) K rfl dX8_learn_90 ?_
        exact g_iret K dX8_learn_91 (oi2 h).2 (oi2 h).1
  · refine g_bipush (pn := 22) (v := (-100)) K rfl bp_m100 dX8_learn_20 ?_
    refine g_iload_n (pn := 23) K rfl 0 rfl dX8_learn_22 ?_
    refine g_isub (pn := 24) K rfl dX8_learn_23 ?_
    exact g_iret K dX8_learn_24 (oi2 h).2 (oi2 h).1
set_option maxHeartbeats 4000000 in
set_option maxRecDepth 20000 in
theorem w_x_startOrder {X : XT} {M : Mem} {t1 : Nat} {M' : Mem} {r : Bool} (ht1 : isSheet t1)  (h : x_startOrder M t1 = some (M', r)) : CT layX X 2 yX8_startOrder cX8_startOrder 5 (some .boolean) [.ref (X.2.2.2.1 0), .ref (X.2.2.2.1 t1)] M M' (some (.int (b2i r))) := by
  refine CT.of rfl (Nat.le_of_ble_eq_true rfl) (lv := [(0, .ref (X.2.2.2.1 0)), (1, .ref (X.2.2.2.1 t1))]) rfl (fun Γ K => ?_)
  have K : Kx layX X Γ RX8 cX8_startOrder 5 2 (some .boolean) := K
  unfold x_startOrder at h
  refine g_aload_n (pn := 1) K rfl 1 rfl dX8_startOrder_0 ?_
  obtain ⟨v2, hc1, h⟩ := ob_e h
  refine g_callV1 (pn := 4) (As := []) (rest := []) (a := t1) K rfl (d' := 0) (Nat.le_of_ble_eq_true rfl) mv_X8_179 (recvO K (lxSheet ht1) rfl) (w_f_Sheet_isMissing ht1 hc1) rfl rfl (Nat.le_of_ble_eq_true rfl) dX8_startOrder_1 ?_
  refine g_ifB_ne (tgt := 21) (pn := 7) K rfl (by decide) dX8_startOrder_4 h (fun h => ?_) (fun h => ?_)
  · refine g_iconst (pn := 22) (v := 0) K rfl ic_0 dX8_startOrder_21 ?_
    exact g_zret K rfl dX8_startOrder_22 (bq0 (oi2 h).2) (oi2 h).1
  · refine g_aload_n (pn := 8) K rfl 1 rfl dX8_startOrder_7 ?_
    refine g_geti (pn := 11) K rfl fl_X8_183 (lxSheet ht1) rfl dX8_startOrder_8 ?_
    refine g_aload_n (pn := 12) K rfl 0 rfl dX8_startOrder_11 ?_
    refine g_getr (pn := 15) (j := 1) K rfl fl_X8_10 lx_0 rfl dX8_startOrder_12 ?_
    refine g_geti (pn := 18) K rfl fl_X8_186 lx_1 rfl dX8_startOrder_15 ?_
    refine g_icmp_eq (tgt := 23) (pn := 21) K rfl (by decide) dX8_startOrder_18 h (fun h => ?_) (fun h => ?_)
    · refine g_aload_n (pn := 24) K rfl 0 rfl dX8_startOrder_23 ?_
      obtain ⟨M4, hc3, h⟩ := ob_e h
      refine g_callV0 (pn := 27) (As := []) (rest := []) (a := 0) K rfl (d' := 1) (Nat.le_of_ble_eq_true rfl) mv_X8_129 (recvO K lx_0 rfl) (w_x_startTrial hc3) rfl rfl (Nat.le_of_ble_eq_true rfl) dX8_startOrder_24 ?_
      refine g_iconst (pn := 28) (v := 0) K rfl ic_0 dX8_startOrder_27 ?_
      refine g_istore_n (pn := 29) (lv' := [(2, .int 0), (0, .ref (X.2.2.2.1 0)), (1, .ref (X.2.2.2.1 t1))]) K rfl dX8_startOrder_28 rfl (Nat.le_of_ble_eq_true rfl) rfl ?_
      refine g_iconst (pn := 30) (v := 0) K rfl ic_0 dX8_startOrder_29 ?_
      refine g_istore_n (pn := 31) (lv' := [(3, .int 0), (2, .int 0), (0, .ref (X.2.2.2.1 0)), (1, .ref (X.2.2.2.1 t1))]) K rfl dX8_startOrder_30 rfl (Nat.le_of_ble_eq_true rfl) rfl ?_
      refine jp_e1 h (fun M5 => G layX X Γ 5 (QM layX X Γ (some (.int (b2i r))) M') 97 [] [] M5) (fun M5 h => ?_) (fun j6 hj6 h => ?_)
      · refine g_iconst (pn := 98) (v := 1) K rfl ic_1 dX8_startOrder_97 ?_
        exact g_zret K rfl dX8_startOrder_98 (bq1 (oi2 h).2) (oi2 h).1
      have LP31 : ∀ (fu10 : Nat) (v7 : Int32) (v8 : Int32) (M9 : Mem), x_startOrder_L31 t1 j6 fu10 v7 v8 M9 = some (M', r) → G layX X Γ 5 (QM layX X Γ (some (.int (b2i r))) M') 31 [(0, .ref (X.2.2.2.1 0)), (1, .ref (X.2.2.2.1 t1)), (2, .int v7), (3, .int v8)] [] M9 := by
        intro fu10
        induction fu10 with
        | zero =>
          intro v7 v8 M9 h
          rw [x_startOrder_L31] at h
          cases h
        | succ fu10 ih10 =>
          intro v7 v8 M9 h
          rw [x_startOrder_L31] at h
          refine g_iload_n (pn := 32) K rfl 3 rfl dX8_startOrder_31 ?_
          refine g_aload_n (pn := 33) K rfl 0 rfl dX8_startOrder_32 ?_
          refine g_getr (pn := 36) (j := 1) K rfl fl_X8_10 lx_0 rfl dX8_startOrder_33 ?_
          refine g_geti (pn := 39) K rfl fl_X8_186 lx_1 rfl dX8_startOrder_36 ?_
          refine g_icmp_ge (tgt := 97) (pn := 42) K rfl (by decide) dX8_startOrder_39 h (fun h => ?_) (fun h => ?_)
          · refine g_sub [] rfl ?_
            exact hj6 _ h
          · refine g_aload_n (pn := 43) K rfl 1 rfl dX8_startOrder_42 ?_
            refine g_getr (pn := 46) (j := (t1 + 1)) K rfl fl_X8_187 (lxSheet ht1) rfl dX8_startOrder_43 ?_
            refine g_iload_n (pn := 47) K rfl 3 rfl dX8_startOrder_46 ?_
            refine g_iald (pn := 48) K rfl (lxSheet1 ht1) dX8_startOrder_47 h (fun h => ?_)
            refine g_nmi h (fun v11 h => ?_)
            refine g_istore (pn := 50) (lv' := [(4, .int v11), (0, .ref (X.2.2.2.1 0)), (1, .ref (X.2.2.2.1 t1)), (2, .int v7), (3, .int v8)]) K rfl dX8_startOrder_48 (Nat.le_of_ble_eq_true rfl) rfl ?_
            refine g_aload_n (pn := 51) K rfl 1 rfl dX8_startOrder_50 ?_
            refine g_getr (pn := 54) (j := 1) K rfl fl_X8_10 lx_0 rfl dX8_startOrder_51 ?_
            refine g_iload (pn := 56) K rfl 0 rfl dX8_startOrder_54 ?_
            obtain ⟨v13, hc12, h⟩ := ob_e h
            refine g_callV1 (pn := 59) (As := [.int v11]) (rest := []) (a := 1) K rfl (d' := 0) (Nat.le_of_ble_eq_true rfl) mv_X8_99 (recvO K lx_1 rfl) (w_f_Site_has (Or.inl rfl) hc12) rfl rfl (Nat.le_of_ble_eq_true rfl) dX8_startOrder_56 ?_
            refine g_ifB_eq (tgt := 72) (pn := 62) K rfl (by decide) dX8_startOrder_59 h (fun h => ?_) (fun h => ?_)
            · refine g_iconst (pn := 73) (v := 0) K rfl ic_0 dX8_startOrder_72 ?_
              exact g_zret K rfl dX8_startOrder_73 (bq0 (oi2 h).2) (oi2 h).1
            · refine g_iload_n (pn := 63) K rfl 3 rfl dX8_startOrder_62 ?_
              refine g_iload (pn := 65) K rfl 0 rfl dX8_startOrder_63 ?_
              refine g_ishr (pn := 66) K rfl dX8_startOrder_65 ?_
              refine g_iconst (pn := 67) (v := 1) K rfl ic_1 dX8_startOrder_66 ?_
              refine g_iand (pn := 68) K rfl dX8_startOrder_67 ?_
              refine g_iconst (pn := 69) (v := 1) K rfl ic_1 dX8_startOrder_68 ?_
              refine g_icmp_ne (tgt := 74) (pn := 72) K rfl (by decide) dX8_startOrder_69 h (fun h => ?_) (fun h => ?_)
              · refine g_iload_n (pn := 75) K rfl 3 rfl dX8_startOrder_74 ?_
                refine g_iconst (pn := 76) (v := 1) K rfl ic_1 dX8_startOrder_75 ?_
                refine g_iload (pn := 78) K rfl 0 rfl dX8_startOrder_76 ?_
                refine g_ishl (pn := 79) K rfl dX8_startOrder_78 ?_
                refine g_ior (pn := 80) K rfl dX8_startOrder_79 ?_
                refine g_nmi h (fun v14 h => ?_)
                refine g_istore_n (pn := 81) (lv' := [(2, .int v14), (4, .int v11), (0, .ref (X.2.2.2.1 0)), (1, .ref (X.2.2.2.1 t1)), (3, .int v8)]) K rfl dX8_startOrder_80 rfl (Nat.le_of_ble_eq_true rfl) rfl ?_
                refine g_aload_n (pn := 82) K rfl 2 rfl dX8_startOrder_81 ?_
                refine g_getr (pn := 85) (j := 23) K rfl fl_X8_54 lx_0 rfl dX8_startOrder_82 ?_
                refine g_iload_n (pn := 86) K rfl 4 rfl dX8_startOrder_85 ?_
                refine g_iload (pn := 88) K rfl 1 rfl dX8_startOrder_86 ?_
                obtain ⟨M16, hc15, h⟩ := ob_e h
                refine g_callV0 (pn := 91) (As := [.int v8, .int v11]) (rest := []) (a := 23) K rfl (d' := 0) (Nat.le_of_ble_eq_true rfl) mv_X8_190 (recvO K lx_23 rfl) (w_f_Day_place hc15) rfl rfl (Nat.le_of_ble_eq_true rfl) dX8_startOrder_88 ?_
                obtain ⟨v17, ev17, h⟩ := bnd_e h
                refine g_iinc (pn := 94) (v := v17) (lv' := [(3, .int v17), (2, .int v14), (4, .int v11), (0, .ref (X.2.2.2.1 0)), (1, .ref (X.2.2.2.1 t1))]) K rfl 4 rfl ii_1 ev17 dX8_startOrder_91 (Nat.le_of_ble_eq_true rfl) rfl ?_
                refine g_goto (tgt := 31) K (by decide) dX8_startOrder_94 ?_
                refine g_sub [3, 4, 1, 0] rfl ?_
                exact ih10 _ _ _ h
              · refine g_iconst (pn := 73) (v := 0) K rfl ic_0 dX8_startOrder_72 ?_
                exact g_zret K rfl dX8_startOrder_73 (bq0 (oi2 h).2) (oi2 h).1
      refine g_sub [2, 3, 1, 0] rfl ?_
      exact LP31 FU _ _ _ h
    · refine g_iconst (pn := 22) (v := 0) K rfl ic_0 dX8_startOrder_21 ?_
      exact g_zret K rfl dX8_startOrder_22 (bq0 (oi2 h).2) (oi2 h).1
set_option maxHeartbeats 4000000 in
set_option maxRecDepth 20000 in
theorem w_x_isOfDay {X : XT} {M : Mem} {a1 : Int32} {r : Bool}   (h : x_isOfDay M a1 = some r) : CT layX X 1 yX8_isOfDay cX8_isOfDay 2 (some .boolean) [.ref (X.2.2.2.1 0), .int a1] M M (some (.int (b2i r))) := by
  refine CT.of rfl (Nat.le_of_ble_eq_true rfl) (lv := [(0, .ref (X.2.2.2.1 0)), (1, .int a1)]) rfl (fun Γ K => ?_)
  have K : Kx layX X Γ RX8 cX8_isOfDay 2 1 (some .boolean) := K
  unfold x_isOfDay at h
  refine g_iload_n (pn := 1) K rfl 1 rfl dX8_isOfDay_0 ?_
  refine g_bipush (pn := 3) (v := 10) K rfl bp_10 dX8_isOfDay_1 ?_
  refine g_icmp_ge (tgt := 21) (pn := 6) K rfl (by decide) dX8_isOfDay_3 h (fun h => ?_) (fun h => ?_)
  · refine g_iload_n (pn := 22) K rfl 1 rfl dX8_isOfDay_21 ?_
    refine g_bipush (pn := 24) (v := 50) K rfl bp_50 dX8_isOfDay_22 ?_
    refine g_icmp_ge (tgt := 45) (pn := 27) K rfl (by decide) dX8_isOfDay_24 h (fun h => ?_) (fun h => ?_)
    · refine g_iconst (pn := 46) (v := 0) K rfl ic_0 dX8_isOfDay_45 ?_
      exact g_zret K rfl dX8_isOfDay_46 (bq0 (oi h)) rfl
    · refine g_aload_n (pn := 28) K rfl 0 rfl dX8_isOfDay_27 ?_
      refine g_getr (pn := 31) (j := 1) K rfl fl_X8_10 lx_0 rfl dX8_isOfDay_28 ?_
      refine g_iload_n (pn := 32) K rfl 1 rfl dX8_isOfDay_31 ?_
      refine g_bipush (pn := 34) (v := 10) K rfl bp_10 dX8_isOfDay_32 ?_
      refine g_irem (pn := 35) K rfl (by decide) dX8_isOfDay_34 ?_
      obtain ⟨v2, hc1, h⟩ := ob_e h
      refine g_callV1 (pn := 38) (As := [.int (a1 - a1 / 10 * 10)]) (rest := []) (a := 1) K rfl (d' := 0) (Nat.le_of_ble_eq_true rfl) mv_X8_99 (recvO K lx_1 rfl) (w_f_Site_has (Or.inl rfl) hc1) rfl rfl (Nat.le_of_ble_eq_true rfl) dX8_isOfDay_35 ?_
      refine g_ifB_eq (tgt := 45) (pn := 41) K rfl (by decide) dX8_isOfDay_38 h (fun h => ?_) (fun h => ?_)
      · refine g_iconst (pn := 46) (v := 0) K rfl ic_0 dX8_isOfDay_45 ?_
        exact g_zret K rfl dX8_isOfDay_46 (bq0 (oi h)) rfl
      · refine g_iconst (pn := 42) (v := 1) K rfl ic_1 dX8_isOfDay_41 ?_
        refine g_goto (tgt := 46) K (by decide) dX8_isOfDay_42 ?_
        exact g_zret K rfl dX8_isOfDay_46 (bq1 (oi h)) rfl
  · refine g_iload_n (pn := 7) K rfl 1 rfl dX8_isOfDay_6 ?_
    refine g_if_lt (tgt := 19) (pn := 10) K rfl (by decide) dX8_isOfDay_7 h (fun h => ?_) (fun h => ?_)
    · refine g_iconst (pn := 20) (v := 0) K rfl ic_0 dX8_isOfDay_19 ?_
      exact g_zret K rfl dX8_isOfDay_20 (bq0 (oi h)) rfl
    · refine g_iload_n (pn := 11) K rfl 1 rfl dX8_isOfDay_10 ?_
      refine g_iconst (pn := 12) (v := 4) K rfl ic_4 dX8_isOfDay_11 ?_
      refine g_icmp_gt (tgt := 19) (pn := 15) K rfl (by decide) dX8_isOfDay_12 h (fun h => ?_) (fun h => ?_)
      · refine g_iconst (pn := 20) (v := 0) K rfl ic_0 dX8_isOfDay_19 ?_
        exact g_zret K rfl dX8_isOfDay_20 (bq0 (oi h)) rfl
      · refine g_iconst (pn := 16) (v := 1) K rfl ic_1 dX8_isOfDay_15 ?_
        refine g_goto (tgt := 20) K (by decide) dX8_isOfDay_16 ?_
        exact g_zret K rfl dX8_isOfDay_20 (bq1 (oi h)) rfl
set_option maxHeartbeats 4000000 in
set_option maxRecDepth 20000 in
theorem w_x_ofWallsDay {X : XT} {M : Mem} {a1 : Int32} {a2 : Int32} {r : Int32}   (h : x_ofWallsDay M a1 a2 = some r) : CT layX X 1 yX8_ofWallsDay cX8_ofWallsDay 3 (some .int) [.ref (X.2.2.2.1 0), .int a1, .int a2] M M (some (.int r)) := by
  refine CT.of rfl (Nat.le_of_ble_eq_true rfl) (lv := [(0, .ref (X.2.2.2.1 0)), (1, .int a1), (2, .int a2)]) rfl (fun Γ K => ?_)
  have K : Kx layX X Γ RX8 cX8_ofWallsDay 3 1 (some .int) := K
  unfold x_ofWallsDay at h
  refine g_aload_n (pn := 1) K rfl 0 rfl dX8_ofWallsDay_0 ?_
  refine g_getr (pn := 4) (j := 1) K rfl fl_X8_10 lx_0 rfl dX8_ofWallsDay_1 ?_
  refine g_iload_n (pn := 5) K rfl 1 rfl dX8_ofWallsDay_4 ?_
  obtain ⟨v2, hc1, h⟩ := ob_e h
  refine g_callV1 (pn := 8) (As := [.int a1]) (rest := []) (a := 1) K rfl (d' := 0) (Nat.le_of_ble_eq_true rfl) mv_X8_99 (recvO K lx_1 rfl) (w_f_Site_has (Or.inl rfl) hc1) rfl rfl (Nat.le_of_ble_eq_true rfl) dX8_ofWallsDay_5 ?_
  refine g_ifB_ne (tgt := 14) (pn := 11) K rfl (by decide) dX8_ofWallsDay_8 h (fun h => ?_) (fun h => ?_)
  · refine g_iload_n (pn := 15) K rfl 2 rfl dX8_ofWallsDay_14 ?_
    rcases Decidable.em (a2 = 1) with hs | hs0
    · replace h := (ite_e h).1 hs
      refine g_tsw (tgt := 44) (v := 1) (off := 29) K hs (by decide) (by decide) (by decide) (by decide) dX8_ofWallsDay_15 ?_
      refine g_aload_n (pn := 45) K rfl 0 rfl dX8_ofWallsDay_44 ?_
      refine g_getr (pn := 48) (j := 23) K rfl fl_X8_54 lx_0 rfl dX8_ofWallsDay_45 ?_
      refine g_getr (pn := 51) (j := 36) K rfl fl_X8_212 lx_23 rfl dX8_ofWallsDay_48 ?_
      refine g_iload_n (pn := 52) K rfl 1 rfl dX8_ofWallsDay_51 ?_
      refine g_iald (pn := 53) K rfl lx_36 dX8_ofWallsDay_52 h (fun h => ?_)
      exact g_iret K dX8_ofWallsDay_53 (oi h) rfl
    · replace h := (ite_e h).2 hs0
      rcases Decidable.em (a2 = 2) with hs | hs1
      · replace h := (ite_e h).1 hs
        refine g_tsw (tgt := 54) (v := 2) (off := 39) K hs (by decide) (by decide) (by decide) (by decide) dX8_ofWallsDay_15 ?_
        refine g_aload_n (pn := 55) K rfl 0 rfl dX8_ofWallsDay_54 ?_
        refine g_getr (pn := 58) (j := 23) K rfl fl_X8_54 lx_0 rfl dX8_ofWallsDay_55 ?_
        refine g_getr (pn := 61) (j := 37) K rfl fl_X8_215 lx_23 rfl dX8_ofWallsDay_58 ?_
        refine g_iload_n (pn := 62) K rfl 1 rfl dX8_ofWallsDay_61 ?_
        refine g_iald (pn := 63) K rfl lx_37 dX8_ofWallsDay_62 h (fun h => ?_)
        exact g_iret K dX8_ofWallsDay_63 (oi h) rfl
      · replace h := (ite_e h).2 hs1
        rcases Decidable.em (a2 = 3) with hs | hs2
        · replace h := (ite_e h).1 hs
          refine g_tsw (tgt := 64) (v := 3) (off := 49) K hs (by decide) (by decide) (by decide) (by decide) dX8_ofWallsDay_15 ?_
          refine g_aload_n (pn := 65) K rfl 0 rfl dX8_ofWallsDay_64 ?_
          refine g_getr (pn := 68) (j := 23) K rfl fl_X8_54 lx_0 rfl dX8_ofWallsDay_65 ?_
          refine g_getr (pn := 71) (j := 38) K rfl fl_X8_218 lx_23 rfl dX8_ofWallsDay_68 ?_
          refine g_iload_n (pn := 72) K rfl 1 rfl dX8_ofWallsDay_71 ?_
          refine g_iald (pn := 73) K rfl lx_38 dX8_ofWallsDay_72 h (fun h => ?_)
          exact g_iret K dX8_ofWallsDay_73 (oi h) rfl
        · replace h := (ite_e h).2 hs2
          rcases Decidable.em (a2 = 4) with hs | hs3
          · replace h := (ite_e h).1 hs
            refine g_tsw (tgt := 74) (v := 4) (off := 59) K hs (by decide) (by decide) (by decide) (by decide) dX8_ofWallsDay_15 ?_
            refine g_aload_n (pn := 75) K rfl 0 rfl dX8_ofWallsDay_74 ?_
            refine g_getr (pn := 78) (j := 23) K rfl fl_X8_54 lx_0 rfl dX8_ofWallsDay_75 ?_
            refine g_getr (pn := 81) (j := 39) K rfl fl_X8_221 lx_23 rfl dX8_ofWallsDay_78 ?_
            refine g_iload_n (pn := 82) K rfl 1 rfl dX8_ofWallsDay_81 ?_
            refine g_iald (pn := 83) K rfl lx_39 dX8_ofWallsDay_82 h (fun h => ?_)
            exact g_iret K dX8_ofWallsDay_83 (oi h) rfl
          · replace h := (ite_e h).2 hs3
            refine g_tswD (tgt := 84) K [1, 2, 3, 4] (by decide) (by decide) (by simp only [List.forall_mem_cons]; exact ⟨hs0, hs1, hs2, hs3, fun _ h => absurd h List.not_mem_nil⟩) (by decide) dX8_ofWallsDay_15 ?_
            refine g_ldc (pn := 86) (v := (-100000)) K rfl cn_X8_164 dX8_ofWallsDay_84 ?_
            exact g_iret K dX8_ofWallsDay_86 (oi h) rfl
  · refine g_ldc (pn := 13) (v := (-100000)) K rfl cn_X8_164 dX8_ofWallsDay_11 ?_
    exact g_iret K dX8_ofWallsDay_13 (oi h) rfl
set_option maxHeartbeats 4000000 in
set_option maxRecDepth 20000 in
theorem w_x_ofDay {X : XT} {M : Mem} {a1 : Int32} {r : Int32}   (h : x_ofDay M a1 = some r) : CT layX X 2 yX8_ofDay cX8_ofDay 2 (some .int) [.ref (X.2.2.2.1 0), .int a1] M M (some (.int r)) := by
  refine CT.of rfl (Nat.le_of_ble_eq_true rfl) (lv := [(0, .ref (X.2.2.2.1 0)), (1, .int a1)]) rfl (fun Γ K => ?_)
  have K : Kx layX X Γ RX8 cX8_ofDay 2 2 (some .int) := K
  unfold x_ofDay at h
  refine g_iload_n (pn := 1) K rfl 1 rfl dX8_ofDay_0 ?_
  rcases Decidable.em (a1 = 0) with hs | hs0
  · replace h := (ite_e h).1 hs
    refine g_tsw (tgt := 36) (v := 0) (off := 35) K hs (by decide) (by decide) (by decide) (by decide) dX8_ofDay_1 ?_
    refine g_aload_n (pn := 37) K rfl 0 rfl dX8_ofDay_36 ?_
    refine g_getr (pn := 40) (j := 23) K rfl fl_X8_54 lx_0 rfl dX8_ofDay_37 ?_
    refine g_geti (pn := 43) K rfl fl_X8_194 lx_23 rfl dX8_ofDay_40 ?_
    exact g_iret K dX8_ofDay_43 (oi h) rfl
  · replace h := (ite_e h).2 hs0
    rcases Decidable.em (a1 = 1) with hs | hs1
    · replace h := (ite_e h).1 hs
      refine g_tsw (tgt := 44) (v := 1) (off := 43) K hs (by decide) (by decide) (by decide) (by decide) dX8_ofDay_1 ?_
      refine g_aload_n (pn := 45) K rfl 0 rfl dX8_ofDay_44 ?_
      refine g_getr (pn := 48) (j := 23) K rfl fl_X8_54 lx_0 rfl dX8_ofDay_45 ?_
      refine g_geti (pn := 51) K rfl fl_X8_197 lx_23 rfl dX8_ofDay_48 ?_
      exact g_iret K dX8_ofDay_51 (oi h) rfl
    · replace h := (ite_e h).2 hs1
      rcases Decidable.em (a1 = 2) with hs | hs2
      · replace h := (ite_e h).1 hs
        refine g_tsw (tgt := 52) (v := 2) (off := 51) K hs (by decide) (by decide) (by decide) (by decide) dX8_ofDay_1 ?_
        refine g_aload_n (pn := 53) K rfl 0 rfl dX8_ofDay_52 ?_
        refine g_getr (pn := 56) (j := 23) K rfl fl_X8_54 lx_0 rfl dX8_ofDay_53 ?_
        refine g_geti (pn := 59) K rfl fl_X8_200 lx_23 rfl dX8_ofDay_56 ?_
        exact g_iret K dX8_ofDay_59 (oi h) rfl
      · replace h := (ite_e h).2 hs2
        rcases Decidable.em (a1 = 3) with hs | hs3
        · replace h := (ite_e h).1 hs
          refine g_tsw (tgt := 60) (v := 3) (off := 59) K hs (by decide) (by decide) (by decide) (by decide) dX8_ofDay_1 ?_
          refine g_aload_n (pn := 61) K rfl 0 rfl dX8_ofDay_60 ?_
          refine g_getr (pn := 64) (j := 23) K rfl fl_X8_54 lx_0 rfl dX8_ofDay_61 ?_
          obtain ⟨v2, hc1, h⟩ := ob_e h
          refine g_callV1 (pn := 67) (As := []) (rest := []) (a := 23) K rfl (d' := 0) (Nat.le_of_ble_eq_true rfl) mv_X8_203 (recvO K lx_23 rfl) (w_f_Day_late hc1) rfl rfl (Nat.le_of_ble_eq_true rfl) dX8_ofDay_64 ?_
          exact g_iret K dX8_ofDay_67 (oi h) rfl
        · replace h := (ite_e h).2 hs3
          rcases Decidable.em (a1 = 4) with hs | hs4
          · replace h := (ite_e h).1 hs
            refine g_tsw (tgt := 68) (v := 4) (off := 67) K hs (by decide) (by decide) (by decide) (by decide) dX8_ofDay_1 ?_
            refine g_aload_n (pn := 69) K rfl 0 rfl dX8_ofDay_68 ?_
            refine g_getr (pn := 72) (j := 23) K rfl fl_X8_54 lx_0 rfl dX8_ofDay_69 ?_
            obtain ⟨v4, hc3, h⟩ := ob_e h
            refine g_callV1 (pn := 75) (As := []) (rest := []) (a := 23) K rfl (d' := 0) (Nat.le_of_ble_eq_true rfl) mv_X8_206 (recvO K lx_23 rfl) (w_f_Day_early hc3) rfl rfl (Nat.le_of_ble_eq_true rfl) dX8_ofDay_72 ?_
            exact g_iret K dX8_ofDay_75 (oi h) rfl
          · replace h := (ite_e h).2 hs4
            refine g_tswD (tgt := 76) K [0, 1, 2, 3, 4] (by decide) (by decide) (by simp only [List.forall_mem_cons]; exact ⟨hs0, hs1, hs2, hs3, hs4, fun _ h => absurd h List.not_mem_nil⟩) (by decide) dX8_ofDay_1 ?_
            refine g_aload_n (pn := 77) K rfl 0 rfl dX8_ofDay_76 ?_
            refine g_iload_n (pn := 78) K rfl 1 rfl dX8_ofDay_77 ?_
            refine g_bipush (pn := 80) (v := 10) K rfl bp_10 dX8_ofDay_78 ?_
            refine g_irem (pn := 81) K rfl (by decide) dX8_ofDay_80 ?_
            refine g_iload_n (pn := 82) K rfl 1 rfl dX8_ofDay_81 ?_
            refine g_bipush (pn := 84) (v := 10) K rfl bp_10 dX8_ofDay_82 ?_
            refine g_idiv (pn := 85) K rfl (by decide) dX8_ofDay_84 ?_
            obtain ⟨v6, hc5, h⟩ := ob_e h
            refine g_callV1 (pn := 88) (As := [.int (a1 - a1 / 10 * 10), .int (a1 / 10)]) (rest := []) (a := 0) K rfl (d' := 1) (Nat.le_of_ble_eq_true rfl) mv_X8_209 (recvO K lx_0 rfl) (w_x_ofWallsDay hc5) rfl rfl (Nat.le_of_ble_eq_true rfl) dX8_ofDay_85 ?_
            exact g_iret K dX8_ofDay_88 (oi h) rfl
set_option maxHeartbeats 4000000 in
set_option maxRecDepth 20000 in
theorem w_x_notSo {X : XT} {M : Mem} {t1 : Nat} {M' : Mem} {r : Int32} (ht1 : isSheet t1)  (h : x_notSo M t1 = some (M', r)) : CT layX X 5 yX8_notSo cX8_notSo 2 (some .int) [.ref (X.2.2.2.1 0), .ref (X.2.2.2.1 t1)] M M' (some (.int r)) := by
  refine CT.of rfl (Nat.le_of_ble_eq_true rfl) (lv := [(0, .ref (X.2.2.2.1 0)), (1, .ref (X.2.2.2.1 t1))]) rfl (fun Γ K => ?_)
  have K : Kx layX X Γ RX8 cX8_notSo 2 5 (some .int) := K
  unfold x_notSo at h
  refine g_aload_n (pn := 1) K rfl 0 rfl dX8_notSo_0 ?_
  obtain ⟨M2, hc1, h⟩ := ob_e h
  refine g_callV0 (pn := 4) (As := []) (rest := []) (a := 0) K rfl (d' := 1) (Nat.le_of_ble_eq_true rfl) mv_X8_129 (recvO K lx_0 rfl) (w_x_startTrial hc1) rfl rfl (Nat.le_of_ble_eq_true rfl) dX8_notSo_1 ?_
  refine g_aload_n (pn := 5) K rfl 0 rfl dX8_notSo_4 ?_
  refine g_getr (pn := 8) (j := 23) K rfl fl_X8_54 lx_0 rfl dX8_notSo_5 ?_
  obtain ⟨M4, hc3, h⟩ := ob_e h
  refine g_callV0 (pn := 11) (As := []) (rest := []) (a := 23) K rfl (d' := 3) (Nat.le_of_ble_eq_true rfl) mv_X8_132 (recvO K lx_23 rfl) (w_f_Day_reckon hc3) rfl rfl (Nat.le_of_ble_eq_true rfl) dX8_notSo_8 ?_
  refine g_aload_n (pn := 12) K rfl 0 rfl dX8_notSo_11 ?_
  refine g_getr (pn := 15) (j := 23) K rfl fl_X8_54 lx_0 rfl dX8_notSo_12 ?_
  obtain ⟨M6, hc5, h⟩ := ob_e h
  refine g_callV0 (pn := 18) (As := []) (rest := []) (a := 23) K rfl (d' := 4) (Nat.le_of_ble_eq_true rfl) mv_X8_165 (recvO K lx_23 rfl) (w_f_Day_live hc5) rfl rfl (Nat.le_of_ble_eq_true rfl) dX8_notSo_15 ?_
  refine g_aload_n (pn := 19) K rfl 0 rfl dX8_notSo_18 ?_
  refine g_getr (pn := 22) (j := 23) K rfl fl_X8_54 lx_0 rfl dX8_notSo_19 ?_
  refine g_aload_n (pn := 23) K rfl 1 rfl dX8_notSo_22 ?_
  obtain ⟨v8, hc7, h⟩ := ob_e h
  refine g_callV1 (pn := 26) (As := [.ref (X.2.2.2.1 t1)]) (rest := []) (a := 23) K rfl (d' := 0) (Nat.le_of_ble_eq_true rfl) mv_X8_278 (recvO K lx_23 rfl) (w_f_Day_unlike ht1 hc7) rfl rfl (Nat.le_of_ble_eq_true rfl) dX8_notSo_23 ?_
  exact g_iret K dX8_notSo_26 (oi2 h).2 (oi2 h).1
set_option maxHeartbeats 4000000 in
set_option maxRecDepth 20000 in
theorem w_x_dialsOf {X : XT} {M : Mem} {t1 : Nat} {a2 : Int32} {M' : Mem} {r : Int64} (ht1 : isSheet t1)  (h : x_dialsOf M t1 a2 = some (M', r)) : CT layX X 5 yX8_dialsOf cX8_dialsOf 6 (some .long) [.ref (X.2.2.2.1 0), .ref (X.2.2.2.1 t1), .int a2] M M' (some (.long r)) := by
  refine CT.of rfl (Nat.le_of_ble_eq_true rfl) (lv := [(0, .ref (X.2.2.2.1 0)), (1, .ref (X.2.2.2.1 t1)), (2, .int a2)]) rfl (fun Γ K => ?_)
  have K : Kx layX X Γ RX8 cX8_dialsOf 6 5 (some .long) := K
  unfold x_dialsOf at h
  refine g_lconst (pn := 1) (v := 0) K rfl lc_0 dX8_dialsOf_0 ?_
  refine g_lstore_n (pn := 2) (lv' := [(3, .long 0), (0, .ref (X.2.2.2.1 0)), (1, .ref (X.2.2.2.1 t1)), (2, .int a2)]) K rfl dX8_dialsOf_1 rfl (Nat.le_of_ble_eq_true rfl) rfl ?_
  refine g_iconst (pn := 3) (v := 0) K rfl ic_0 dX8_dialsOf_2 ?_
  refine g_istore (pn := 5) (lv' := [(5, .int 0), (3, .long 0), (0, .ref (X.2.2.2.1 0)), (1, .ref (X.2.2.2.1 t1)), (2, .int a2)]) K rfl dX8_dialsOf_3 (Nat.le_of_ble_eq_true rfl) rfl ?_
  refine jp_e2 h (fun v1 M2 => G layX X Γ 6 (QM layX X Γ (some (.long r)) M') 70 [(3, .long v1)] [] M2) (fun v1 M2 h => ?_) (fun j3 hj3 h => ?_)
  · refine g_lload_n (pn := 71) K rfl 0 rfl dX8_dialsOf_70 ?_
    exact g_lret K dX8_dialsOf_71 (oi2 h).2 (oi2 h).1
  have LP5 : ∀ (fu7 : Nat) (v4 : Int64) (v5 : Int32) (M6 : Mem), x_dialsOf_L5 t1 a2 j3 fu7 v4 v5 M6 = some (M', r) → G layX X Γ 6 (QM layX X Γ (some (.long r)) M') 5 [(0, .ref (X.2.2.2.1 0)), (1, .ref (X.2.2.2.1 t1)), (2, .int a2), (3, .long v4), (5, .int v5)] [] M6 := by
    intro fu7
    induction fu7 with
    | zero =>
      intro v4 v5 M6 h
      rw [x_dialsOf_L5] at h
      cases h
    | succ fu7 ih7 =>
      intro v4 v5 M6 h
      rw [x_dialsOf_L5] at h
      refine g_iload (pn := 7) K rfl 4 rfl dX8_dialsOf_5 ?_
      refine g_gets (pn := 10) (j := 1) K rfl (by decide) fs_X8_96 dX8_dialsOf_7 ?_
      refine g_iload_n (pn := 11) K rfl 2 rfl dX8_dialsOf_10 ?_
      refine g_tald (pn := 12) (n := 9) K rfl (by decide) rfl dX8_dialsOf_11 h (fun h => ?_)
      refine g_icmp_gt (tgt := 70) (pn := 15) K rfl (by decide) dX8_dialsOf_12 h (fun h => ?_) (fun h => ?_)
      · refine g_sub [3] rfl ?_
        exact hj3 _ _ h
      · refine g_aload_n (pn := 16) K rfl 0 rfl dX8_dialsOf_15 ?_
        obtain ⟨M9, hc8, h⟩ := ob_e h
        refine g_callV0 (pn := 19) (As := []) (rest := []) (a := 0) K rfl (d' := 1) (Nat.le_of_ble_eq_true rfl) mv_X8_129 (recvO K lx_0 rfl) (w_x_startTrial hc8) rfl rfl (Nat.le_of_ble_eq_true rfl) dX8_dialsOf_16 ?_
        refine g_aload_n (pn := 20) K rfl 0 rfl dX8_dialsOf_19 ?_
        refine g_getr (pn := 23) (j := 23) K rfl fl_X8_54 lx_0 rfl dX8_dialsOf_20 ?_
        refine g_getr (pn := 26) (j := 24) K rfl fl_X8_224 lx_23 rfl dX8_dialsOf_23 ?_
        refine g_iload_n (pn := 27) K rfl 2 rfl dX8_dialsOf_26 ?_
        refine g_iload (pn := 29) K rfl 4 rfl dX8_dialsOf_27 ?_
        obtain ⟨M11, hc10, h⟩ := ob_e h
        refine g_callV0 (pn := 32) (As := [.int a2, .int v5]) (rest := []) (a := 24) K rfl (d' := 0) (Nat.le_of_ble_eq_true rfl) mv_X8_228 (recvO K lx_24 rfl) (w_f_Site_turn (Or.inr (Or.inr rfl)) hc10) rfl rfl (Nat.le_of_ble_eq_true rfl) dX8_dialsOf_29 ?_
        refine g_aload_n (pn := 33) K rfl 0 rfl dX8_dialsOf_32 ?_
        refine g_getr (pn := 36) (j := 23) K rfl fl_X8_54 lx_0 rfl dX8_dialsOf_33 ?_
        obtain ⟨M13, hc12, h⟩ := ob_e h
        refine g_callV0 (pn := 39) (As := []) (rest := []) (a := 23) K rfl (d' := 3) (Nat.le_of_ble_eq_true rfl) mv_X8_132 (recvO K lx_23 rfl) (w_f_Day_reckon hc12) rfl rfl (Nat.le_of_ble_eq_true rfl) dX8_dialsOf_36 ?_
        refine g_aload_n (pn := 40) K rfl 0 rfl dX8_dialsOf_39 ?_
        refine g_getr (pn := 43) (j := 23) K rfl fl_X8_54 lx_0 rfl dX8_dialsOf_40 ?_
        obtain ⟨M15, hc14, h⟩ := ob_e h
        refine g_callV0 (pn := 46) (As := []) (rest := []) (a := 23) K rfl (d' := 4) (Nat.le_of_ble_eq_true rfl) mv_X8_165 (recvO K lx_23 rfl) (w_f_Day_live hc14) rfl rfl (Nat.le_of_ble_eq_true rfl) dX8_dialsOf_43 ?_
        refine g_aload_n (pn := 47) K rfl 0 rfl dX8_dialsOf_46 ?_
        refine g_getr (pn := 50) (j := 23) K rfl fl_X8_54 lx_0 rfl dX8_dialsOf_47 ?_
        refine g_aload_n (pn := 51) K rfl 1 rfl dX8_dialsOf_50 ?_
        obtain ⟨v17, hc16, h⟩ := ob_e h
        refine g_callV1 (pn := 54) (As := [.ref (X.2.2.2.1 t1)]) (rest := []) (a := 23) K rfl (d' := 0) (Nat.le_of_ble_eq_true rfl) mv_X8_278 (recvO K lx_23 rfl) (w_f_Day_unlike ht1 hc16) rfl rfl (Nat.le_of_ble_eq_true rfl) dX8_dialsOf_51 ?_
        refine g_if_ne (tgt := 64) (pn := 57) K rfl (by decide) dX8_dialsOf_54 h (fun h => ?_) (fun h => ?_)
        · obtain ⟨v18, ev18, h⟩ := bnd_e h
          refine g_iinc (pn := 67) (v := v18) (lv' := [(5, .int v18), (0, .ref (X.2.2.2.1 0)), (1, .ref (X.2.2.2.1 t1)), (2, .int a2), (3, .long v4)]) K rfl 4 rfl ii_1 ev18 dX8_dialsOf_64 (Nat.le_of_ble_eq_true rfl) rfl ?_
          refine g_goto (tgt := 5) K (by decide) dX8_dialsOf_67 ?_
          refine g_sub [1, 2, 3, 4, 0] rfl ?_
          exact ih7 _ _ _ h
        · refine g_lload_n (pn := 58) K rfl 3 rfl dX8_dialsOf_57 ?_
          refine g_lconst (pn := 59) (v := 1) K rfl lc_1 dX8_dialsOf_58 ?_
          refine g_iload (pn := 61) K rfl 4 rfl dX8_dialsOf_59 ?_
          refine g_lshl (pn := 62) K rfl dX8_dialsOf_61 ?_
          refine g_lor (pn := 63) K rfl dX8_dialsOf_62 ?_
          refine g_nml h (fun v19 h => ?_)
          refine g_lstore_n (pn := 64) (lv' := [(3, .long v19), (0, .ref (X.2.2.2.1 0)), (1, .ref (X.2.2.2.1 t1)), (2, .int a2), (5, .int v5)]) K rfl dX8_dialsOf_63 rfl (Nat.le_of_ble_eq_true rfl) rfl ?_
          obtain ⟨v20, ev20, h⟩ := bnd_e h
          refine g_iinc (pn := 67) (v := v20) (lv' := [(5, .int v20), (3, .long v19), (0, .ref (X.2.2.2.1 0)), (1, .ref (X.2.2.2.1 t1)), (2, .int a2)]) K rfl 4 rfl ii_1 ev20 dX8_dialsOf_64 (Nat.le_of_ble_eq_true rfl) rfl ?_
          refine g_goto (tgt := 5) K (by decide) dX8_dialsOf_67 ?_
          refine g_sub [2, 3, 4, 1, 0] rfl ?_
          exact ih7 _ _ _ h
  refine g_sub [2, 3, 4, 1, 0] rfl ?_
  exact LP5 FU _ _ _ h
set_option maxHeartbeats 4000000 in
set_option maxRecDepth 20000 in
theorem w_x_textsOf {X : XT} {M : Mem} {t1 : Nat} {M' : Mem} {r : Int32} (ht1 : isSheet t1)  (h : x_textsOf M t1 = some (M', r)) : CT layX X 5 yX8_textsOf cX8_textsOf 4 (some .int) [.ref (X.2.2.2.1 0), .ref (X.2.2.2.1 t1)] M M' (some (.int r)) := by
  refine CT.of rfl (Nat.le_of_ble_eq_true rfl) (lv := [(0, .ref (X.2.2.2.1 0)), (1, .ref (X.2.2.2.1 t1))]) rfl (fun Γ K => ?_)
  have K : Kx layX X Γ RX8 cX8_textsOf 4 5 (some .int) := K
  unfold x_textsOf at h
  refine g_iconst (pn := 1) (v := 0) K rfl ic_0 dX8_textsOf_0 ?_
  refine g_istore_n (pn := 2) (lv' := [(2, .int 0), (0, .ref (X.2.2.2.1 0)), (1, .ref (X.2.2.2.1 t1))]) K rfl dX8_textsOf_1 rfl (Nat.le_of_ble_eq_true rfl) rfl ?_
  refine g_iconst (pn := 3) (v := 0) K rfl ic_0 dX8_textsOf_2 ?_
  refine g_istore_n (pn := 4) (lv' := [(3, .int 0), (2, .int 0), (0, .ref (X.2.2.2.1 0)), (1, .ref (X.2.2.2.1 t1))]) K rfl dX8_textsOf_3 rfl (Nat.le_of_ble_eq_true rfl) rfl ?_
  refine jp_e2 h (fun v1 M2 => G layX X Γ 4 (QM layX X Γ (some (.int r)) M') 64 [(2, .int v1)] [] M2) (fun v1 M2 h => ?_) (fun j3 hj3 h => ?_)
  · refine g_iload_n (pn := 65) K rfl 0 rfl dX8_textsOf_64 ?_
    exact g_iret K dX8_textsOf_65 (oi2 h).2 (oi2 h).1
  have LP4 : ∀ (fu7 : Nat) (v4 : Int32) (v5 : Int32) (M6 : Mem), x_textsOf_L4 t1 j3 fu7 v4 v5 M6 = some (M', r) → G layX X Γ 4 (QM layX X Γ (some (.int r)) M') 4 [(0, .ref (X.2.2.2.1 0)), (1, .ref (X.2.2.2.1 t1)), (2, .int v4), (3, .int v5)] [] M6 := by
    intro fu7
    induction fu7 with
    | zero =>
      intro v4 v5 M6 h
      rw [x_textsOf_L4] at h
      cases h
    | succ fu7 ih7 =>
      intro v4 v5 M6 h
      rw [x_textsOf_L4] at h
      refine g_iload_n (pn := 5) K rfl 3 rfl dX8_textsOf_4 ?_
      refine g_aload_n (pn := 6) K rfl 0 rfl dX8_textsOf_5 ?_
      refine g_geti (pn := 9) K rfl fl_X8_45 lx_0 rfl dX8_textsOf_6 ?_
      refine g_icmp_ge (tgt := 64) (pn := 12) K rfl (by decide) dX8_textsOf_9 h (fun h => ?_) (fun h => ?_)
      · refine g_sub [2] rfl ?_
        exact hj3 _ _ h
      · refine g_aload_n (pn := 13) K rfl 0 rfl dX8_textsOf_12 ?_
        obtain ⟨M9, hc8, h⟩ := ob_e h
        refine g_callV0 (pn := 16) (As := []) (rest := []) (a := 0) K rfl (d' := 1) (Nat.le_of_ble_eq_true rfl) mv_X8_129 (recvO K lx_0 rfl) (w_x_startTrial hc8) rfl rfl (Nat.le_of_ble_eq_true rfl) dX8_textsOf_13 ?_
        refine g_aload_n (pn := 17) K rfl 0 rfl dX8_textsOf_16 ?_
        refine g_getr (pn := 20) (j := 23) K rfl fl_X8_54 lx_0 rfl dX8_textsOf_17 ?_
        refine g_getr (pn := 23) (j := 24) K rfl fl_X8_224 lx_23 rfl dX8_textsOf_20 ?_
        refine g_iload_n (pn := 24) K rfl 3 rfl dX8_textsOf_23 ?_
        refine g_puti (pn := 27) K rfl fp_X8_158 lx_24 rfl dX8_textsOf_24 h (fun M10 h => ?_)
        refine g_aload_n (pn := 28) K rfl 0 rfl dX8_textsOf_27 ?_
        refine g_getr (pn := 31) (j := 23) K rfl fl_X8_54 lx_0 rfl dX8_textsOf_28 ?_
        obtain ⟨M12, hc11, h⟩ := ob_e h
        refine g_callV0 (pn := 34) (As := []) (rest := []) (a := 23) K rfl (d' := 3) (Nat.le_of_ble_eq_true rfl) mv_X8_132 (recvO K lx_23 rfl) (w_f_Day_reckon hc11) rfl rfl (Nat.le_of_ble_eq_true rfl) dX8_textsOf_31 ?_
        refine g_aload_n (pn := 35) K rfl 0 rfl dX8_textsOf_34 ?_
        refine g_getr (pn := 38) (j := 23) K rfl fl_X8_54 lx_0 rfl dX8_textsOf_35 ?_
        obtain ⟨M14, hc13, h⟩ := ob_e h
        refine g_callV0 (pn := 41) (As := []) (rest := []) (a := 23) K rfl (d' := 4) (Nat.le_of_ble_eq_true rfl) mv_X8_165 (recvO K lx_23 rfl) (w_f_Day_live hc13) rfl rfl (Nat.le_of_ble_eq_true rfl) dX8_textsOf_38 ?_
        refine g_aload_n (pn := 42) K rfl 0 rfl dX8_textsOf_41 ?_
        refine g_getr (pn := 45) (j := 23) K rfl fl_X8_54 lx_0 rfl dX8_textsOf_42 ?_
        refine g_aload_n (pn := 46) K rfl 1 rfl dX8_textsOf_45 ?_
        obtain ⟨v16, hc15, h⟩ := ob_e h
        refine g_callV1 (pn := 49) (As := [.ref (X.2.2.2.1 t1)]) (rest := []) (a := 23) K rfl (d' := 0) (Nat.le_of_ble_eq_true rfl) mv_X8_278 (recvO K lx_23 rfl) (w_f_Day_unlike ht1 hc15) rfl rfl (Nat.le_of_ble_eq_true rfl) dX8_textsOf_46 ?_
        refine g_if_ne (tgt := 58) (pn := 52) K rfl (by decide) dX8_textsOf_49 h (fun h => ?_) (fun h => ?_)
        · obtain ⟨v17, ev17, h⟩ := bnd_e h
          refine g_iinc (pn := 61) (v := v17) (lv' := [(3, .int v17), (0, .ref (X.2.2.2.1 0)), (1, .ref (X.2.2.2.1 t1)), (2, .int v4)]) K rfl 3 rfl ii_1 ev17 dX8_textsOf_58 (Nat.le_of_ble_eq_true rfl) rfl ?_
          refine g_goto (tgt := 4) K (by decide) dX8_textsOf_61 ?_
          refine g_sub [1, 2, 3, 0] rfl ?_
          exact ih7 _ _ _ h
        · refine g_iload_n (pn := 53) K rfl 2 rfl dX8_textsOf_52 ?_
          refine g_iconst (pn := 54) (v := 1) K rfl ic_1 dX8_textsOf_53 ?_
          refine g_iload_n (pn := 55) K rfl 3 rfl dX8_textsOf_54 ?_
          refine g_ishl (pn := 56) K rfl dX8_textsOf_55 ?_
          refine g_ior (pn := 57) K rfl dX8_textsOf_56 ?_
          refine g_nmi h (fun v18 h => ?_)
          refine g_istore_n (pn := 58) (lv' := [(2, .int v18), (0, .ref (X.2.2.2.1 0)), (1, .ref (X.2.2.2.1 t1)), (3, .int v5)]) K rfl dX8_textsOf_57 rfl (Nat.le_of_ble_eq_true rfl) rfl ?_
          obtain ⟨v19, ev19, h⟩ := bnd_e h
          refine g_iinc (pn := 61) (v := v19) (lv' := [(3, .int v19), (2, .int v18), (0, .ref (X.2.2.2.1 0)), (1, .ref (X.2.2.2.1 t1))]) K rfl 3 rfl ii_1 ev19 dX8_textsOf_58 (Nat.le_of_ble_eq_true rfl) rfl ?_
          refine g_goto (tgt := 4) K (by decide) dX8_textsOf_61 ?_
          refine g_sub [2, 3, 1, 0] rfl ?_
          exact ih7 _ _ _ h
  refine g_sub [2, 3, 1, 0] rfl ?_
  exact LP4 FU _ _ _ h
set_option maxHeartbeats 4000000 in
set_option maxRecDepth 20000 in
theorem w_x_kindsOf {X : XT} {M : Mem} {t1 : Nat} {a2 : Int32} {M' : Mem} {r : Int32} (ht1 : isSheet t1)  (h : x_kindsOf M t1 a2 = some (M', r)) : CT layX X 5 yX8_kindsOf cX8_kindsOf 5 (some .int) [.ref (X.2.2.2.1 0), .ref (X.2.2.2.1 t1), .int a2] M M' (some (.int r)) := by
  refine CT.of rfl (Nat.le_of_ble_eq_true rfl) (lv := [(0, .ref (X.2.2.2.1 0)), (1, .ref (X.2.2.2.1 t1)), (2, .int a2)]) rfl (fun Γ K => ?_)
  have K : Kx layX X Γ RX8 cX8_kindsOf 5 5 (some .int) := K
  unfold x_kindsOf at h
  refine g_iconst (pn := 1) (v := 0) K rfl ic_0 dX8_kindsOf_0 ?_
  refine g_istore_n (pn := 2) (lv' := [(3, .int 0), (0, .ref (X.2.2.2.1 0)), (1, .ref (X.2.2.2.1 t1)), (2, .int a2)]) K rfl dX8_kindsOf_1 rfl (Nat.le_of_ble_eq_true rfl) rfl ?_
  refine g_iconst (pn := 3) (v := 0) K rfl ic_0 dX8_kindsOf_2 ?_
  refine g_istore (pn := 5) (lv' := [(4, .int 0), (3, .int 0), (0, .ref (X.2.2.2.1 0)), (1, .ref (X.2.2.2.1 t1)), (2, .int a2)]) K rfl dX8_kindsOf_3 (Nat.le_of_ble_eq_true rfl) rfl ?_
  refine jp_e2 h (fun v1 M2 => G layX X Γ 5 (QM layX X Γ (some (.int r)) M') 79 [(3, .int v1)] [] M2) (fun v1 M2 h => ?_) (fun j3 hj3 h => ?_)
  · refine g_iload_n (pn := 80) K rfl 0 rfl dX8_kindsOf_79 ?_
    exact g_iret K dX8_kindsOf_80 (oi2 h).2 (oi2 h).1
  have LP5 : ∀ (fu7 : Nat) (v4 : Int32) (v5 : Int32) (M6 : Mem), x_kindsOf_L5 t1 a2 j3 fu7 v4 v5 M6 = some (M', r) → G layX X Γ 5 (QM layX X Γ (some (.int r)) M') 5 [(0, .ref (X.2.2.2.1 0)), (1, .ref (X.2.2.2.1 t1)), (2, .int a2), (3, .int v4), (4, .int v5)] [] M6 := by
    intro fu7
    induction fu7 with
    | zero =>
      intro v4 v5 M6 h
      rw [x_kindsOf_L5] at h
      cases h
    | succ fu7 ih7 =>
      intro v4 v5 M6 h
      rw [x_kindsOf_L5] at h
      refine g_iload (pn := 7) K rfl 4 rfl dX8_kindsOf_5 ?_
      refine g_bipush (pn := 9) (v := 6) K rfl bp_6 dX8_kindsOf_7 ?_
      refine g_icmp_ge (tgt := 79) (pn := 12) K rfl (by decide) dX8_kindsOf_9 h (fun h => ?_) (fun h => ?_)
      · refine g_sub [3] rfl ?_
        exact hj3 _ _ h
      · refine g_aload_n (pn := 13) K rfl 0 rfl dX8_kindsOf_12 ?_
        obtain ⟨M9, hc8, h⟩ := ob_e h
        refine g_callV0 (pn := 16) (As := []) (rest := []) (a := 0) K rfl (d' := 1) (Nat.le_of_ble_eq_true rfl) mv_X8_129 (recvO K lx_0 rfl) (w_x_startTrial hc8) rfl rfl (Nat.le_of_ble_eq_true rfl) dX8_kindsOf_13 ?_
        refine g_aload_n (pn := 17) K rfl 0 rfl dX8_kindsOf_16 ?_
        refine g_getr (pn := 20) (j := 1) K rfl fl_X8_10 lx_0 rfl dX8_kindsOf_17 ?_
        refine g_iload_n (pn := 21) K rfl 2 rfl dX8_kindsOf_20 ?_
        obtain ⟨v11, hc10, h⟩ := ob_e h
        refine g_callV1 (pn := 24) (As := [.int a2]) (rest := []) (a := 1) K rfl (d' := 0) (Nat.le_of_ble_eq_true rfl) mv_X8_99 (recvO K lx_1 rfl) (w_f_Site_has (Or.inl rfl) hc10) rfl rfl (Nat.le_of_ble_eq_true rfl) dX8_kindsOf_21 ?_
        refine jp_e1 h (fun M12 => G layX X Γ 5 (QM layX X Γ (some (.int r)) M') 41 [(0, .ref (X.2.2.2.1 0)), (1, .ref (X.2.2.2.1 t1)), (2, .int a2), (3, .int v4), (4, .int v5)] [] M12) (fun M12 h => ?_) (fun j13 hj13 h => ?_)
        · refine g_aload_n (pn := 42) K rfl 0 rfl dX8_kindsOf_41 ?_
          refine g_getr (pn := 45) (j := 23) K rfl fl_X8_54 lx_0 rfl dX8_kindsOf_42 ?_
          obtain ⟨M15, hc14, h⟩ := ob_e h
          refine g_callV0 (pn := 48) (As := []) (rest := []) (a := 23) K rfl (d' := 3) (Nat.le_of_ble_eq_true rfl) mv_X8_132 (recvO K lx_23 rfl) (w_f_Day_reckon hc14) rfl rfl (Nat.le_of_ble_eq_true rfl) dX8_kindsOf_45 ?_
          refine g_aload_n (pn := 49) K rfl 0 rfl dX8_kindsOf_48 ?_
          refine g_getr (pn := 52) (j := 23) K rfl fl_X8_54 lx_0 rfl dX8_kindsOf_49 ?_
          obtain ⟨M17, hc16, h⟩ := ob_e h
          refine g_callV0 (pn := 55) (As := []) (rest := []) (a := 23) K rfl (d' := 4) (Nat.le_of_ble_eq_true rfl) mv_X8_165 (recvO K lx_23 rfl) (w_f_Day_live hc16) rfl rfl (Nat.le_of_ble_eq_true rfl) dX8_kindsOf_52 ?_
          refine g_aload_n (pn := 56) K rfl 0 rfl dX8_kindsOf_55 ?_
          refine g_getr (pn := 59) (j := 23) K rfl fl_X8_54 lx_0 rfl dX8_kindsOf_56 ?_
          refine g_aload_n (pn := 60) K rfl 1 rfl dX8_kindsOf_59 ?_
          obtain ⟨v19, hc18, h⟩ := ob_e h
          refine g_callV1 (pn := 63) (As := [.ref (X.2.2.2.1 t1)]) (rest := []) (a := 23) K rfl (d' := 0) (Nat.le_of_ble_eq_true rfl) mv_X8_278 (recvO K lx_23 rfl) (w_f_Day_unlike ht1 hc18) rfl rfl (Nat.le_of_ble_eq_true rfl) dX8_kindsOf_60 ?_
          refine g_if_ne (tgt := 73) (pn := 66) K rfl (by decide) dX8_kindsOf_63 h (fun h => ?_) (fun h => ?_)
          · obtain ⟨v20, ev20, h⟩ := bnd_e h
            refine g_iinc (pn := 76) (v := v20) (lv' := [(4, .int v20), (0, .ref (X.2.2.2.1 0)), (1, .ref (X.2.2.2.1 t1)), (2, .int a2), (3, .int v4)]) K rfl 4 rfl ii_1 ev20 dX8_kindsOf_73 (Nat.le_of_ble_eq_true rfl) rfl ?_
            refine g_goto (tgt := 5) K (by decide) dX8_kindsOf_76 ?_
            refine g_sub [1, 2, 3, 4, 0] rfl ?_
            exact ih7 _ _ _ h
          · refine g_iload_n (pn := 67) K rfl 3 rfl dX8_kindsOf_66 ?_
            refine g_iconst (pn := 68) (v := 1) K rfl ic_1 dX8_kindsOf_67 ?_
            refine g_iload (pn := 70) K rfl 4 rfl dX8_kindsOf_68 ?_
            refine g_ishl (pn := 71) K rfl dX8_kindsOf_70 ?_
            refine g_ior (pn := 72) K rfl dX8_kindsOf_71 ?_
            refine g_nmi h (fun v21 h => ?_)
            refine g_istore_n (pn := 73) (lv' := [(3, .int v21), (0, .ref (X.2.2.2.1 0)), (1, .ref (X.2.2.2.1 t1)), (2, .int a2), (4, .int v5)]) K rfl dX8_kindsOf_72 rfl (Nat.le_of_ble_eq_true rfl) rfl ?_
            obtain ⟨v22, ev22, h⟩ := bnd_e h
            refine g_iinc (pn := 76) (v := v22) (lv' := [(4, .int v22), (3, .int v21), (0, .ref (X.2.2.2.1 0)), (1, .ref (X.2.2.2.1 t1)), (2, .int a2)]) K rfl 4 rfl ii_1 ev22 dX8_kindsOf_73 (Nat.le_of_ble_eq_true rfl) rfl ?_
            refine g_goto (tgt := 5) K (by decide) dX8_kindsOf_76 ?_
            refine g_sub [2, 3, 4, 1, 0] rfl ?_
            exact ih7 _ _ _ h
        refine g_ifB_eq (tgt := 41) (pn := 27) K rfl (by decide) dX8_kindsOf_24 h (fun h => ?_) (fun h => ?_)
        · exact hj13 _ h
        · refine g_aload_n (pn := 28) K rfl 0 rfl dX8_kindsOf_27 ?_
          refine g_getr (pn := 31) (j := 23) K rfl fl_X8_54 lx_0 rfl dX8_kindsOf_28 ?_
          refine g_getr (pn := 34) (j := 24) K rfl fl_X8_224 lx_23 rfl dX8_kindsOf_31 ?_
          refine g_getr (pn := 37) (j := 26) K rfl fl_X8_113 lx_24 rfl dX8_kindsOf_34 ?_
          refine g_iload_n (pn := 38) K rfl 2 rfl dX8_kindsOf_37 ?_
          refine g_iload (pn := 40) K rfl 4 rfl dX8_kindsOf_38 ?_
          refine g_iast (pn := 41) K rfl lx_26 dX8_kindsOf_40 h (fun M23 h => ?_)
          exact hj13 _ h
  refine g_sub [2, 3, 4, 1, 0] rfl ?_
  exact LP5 FU _ _ _ h
set_option maxHeartbeats 4000000 in
set_option maxRecDepth 20000 in
theorem w_x_set {X : XT} {M : Mem} {a1 : Int32} {a2 : Int32} {a3 : Int32} {M' : Mem} {r : Int32}   (h : x_set M a1 a2 a3 = some (M', r)) : CT layX X 1 yX8_set cX8_set 8 (some .int) [.ref (X.2.2.2.1 0), .int a1, .int a2, .int a3] M M' (some (.int r)) := by
  refine CT.of rfl (Nat.le_of_ble_eq_true rfl) (lv := [(0, .ref (X.2.2.2.1 0)), (1, .int a1), (2, .int a2), (3, .int a3)]) rfl (fun Γ K => ?_)
  have K : Kx layX X Γ RX8 cX8_set 8 1 (some .int) := K
  unfold x_set at h
  refine g_iload_n (pn := 1) K rfl 1 rfl dX8_set_0 ?_
  refine g_if_lt (tgt := 28) (pn := 4) K rfl (by decide) dX8_set_1 h (fun h => ?_) (fun h => ?_)
  · refine g_bipush (pn := 30) (v := (-2)) K rfl bp_m2 dX8_set_28 ?_
    exact g_iret K dX8_set_30 (oi2 h).2 (oi2 h).1
  · refine g_iload_n (pn := 5) K rfl 1 rfl dX8_set_4 ?_
    refine g_bipush (pn := 7) (v := 8) K rfl bp_8 dX8_set_5 ?_
    refine g_icmp_gt (tgt := 28) (pn := 10) K rfl (by decide) dX8_set_7 h (fun h => ?_) (fun h => ?_)
    · refine g_bipush (pn := 30) (v := (-2)) K rfl bp_m2 dX8_set_28 ?_
      exact g_iret K dX8_set_30 (oi2 h).2 (oi2 h).1
    · refine g_iload_n (pn := 11) K rfl 3 rfl dX8_set_10 ?_
      refine g_gets (pn := 14) (j := 0) K rfl (by decide) fs_X8_92 dX8_set_11 ?_
      refine g_iload_n (pn := 15) K rfl 1 rfl dX8_set_14 ?_
      refine g_tald (pn := 16) (n := 9) K rfl (by decide) rfl dX8_set_15 h (fun h => ?_)
      refine g_icmp_lt (tgt := 28) (pn := 19) K rfl (by decide) dX8_set_16 h (fun h => ?_) (fun h => ?_)
      · refine g_bipush (pn := 30) (v := (-2)) K rfl bp_m2 dX8_set_28 ?_
        exact g_iret K dX8_set_30 (oi2 h).2 (oi2 h).1
      · refine g_iload_n (pn := 20) K rfl 3 rfl dX8_set_19 ?_
        refine g_gets (pn := 23) (j := 1) K rfl (by decide) fs_X8_96 dX8_set_20 ?_
        refine g_iload_n (pn := 24) K rfl 1 rfl dX8_set_23 ?_
        refine g_tald (pn := 25) (n := 9) K rfl (by decide) rfl dX8_set_24 h (fun h => ?_)
        refine g_icmp_le (tgt := 31) (pn := 28) K rfl (by decide) dX8_set_25 h (fun h => ?_) (fun h => ?_)
        · refine g_iload_n (pn := 32) K rfl 1 rfl dX8_set_31 ?_
          refine g_iconst (pn := 33) (v := 5) K rfl ic_5 dX8_set_32 ?_
          refine jp_e1 h (fun v1 => G layX X Γ 8 (QM layX X Γ (some (.int r)) M') 41 [(0, .ref (X.2.2.2.1 0)), (1, .int a1), (2, .int a2), (3, .int a3)] [.int v1] M) (fun v1 h => ?_) (fun j2 hj2 h => ?_)
          · refine g_istore (pn := 43) (lv' := [(4, .int v1), (0, .ref (X.2.2.2.1 0)), (1, .int a1), (2, .int a2), (3, .int a3)]) K rfl dX8_set_41 (Nat.le_of_ble_eq_true rfl) rfl ?_
            refine g_iload (pn := 45) K rfl 0 rfl dX8_set_43 ?_
            refine jp_e1 h (fun u3 => G layX X Γ 8 (QM layX X Γ (some (.int r)) M') 62 [(4, .int v1), (0, .ref (X.2.2.2.1 0)), (1, .int a1), (2, .int a2), (3, .int a3)] [] M) (fun u3 h => ?_) (fun j4 hj4 h => ?_)
            · refine g_aload_n (pn := 63) K rfl 1 rfl dX8_set_62 ?_
              refine g_getr (pn := 66) (j := 1) K rfl fl_X8_10 lx_0 rfl dX8_set_63 ?_
              refine g_iload_n (pn := 67) K rfl 2 rfl dX8_set_66 ?_
              obtain ⟨v6, hc5, h⟩ := ob_e h
              refine g_callV1 (pn := 70) (As := [.int a1]) (rest := []) (a := 1) K rfl (d' := 0) (Nat.le_of_ble_eq_true rfl) mv_X8_103 (recvO K lx_1 rfl) (w_f_Site_rowOf (Or.inl rfl) hc5) rfl rfl (Nat.le_of_ble_eq_true rfl) dX8_set_67 ?_
              refine g_astore (pn := 72) (lv' := [(5, .ref (X.2.2.2.1 v6)), (4, .int v1), (0, .ref (X.2.2.2.1 0)), (1, .int a1), (2, .int a2), (3, .int a3)]) K rfl dX8_set_70 (Nat.le_of_ble_eq_true rfl) rfl ?_
              refine g_iload (pn := 74) K rfl 1 rfl dX8_set_72 ?_
              refine jp_e1 h (fun v7 => G layX X Γ 8 (QM layX X Γ (some (.int r)) M') 82 [(5, .ref (X.2.2.2.1 v6)), (3, .int a3)] [.int v7] M) (fun v7 h => ?_) (fun j8 hj8 h => ?_)
              · refine g_istore (pn := 84) (lv' := [(6, .int v7), (5, .ref (X.2.2.2.1 v6)), (3, .int a3)]) K rfl dX8_set_82 (Nat.le_of_ble_eq_true rfl) rfl ?_
                refine g_aload (pn := 86) K rfl 1 rfl dX8_set_84 ?_
                refine g_iload (pn := 88) K rfl 0 rfl dX8_set_86 ?_
                refine g_iald (pn := 89) K rfl (rowOf_lay (Or.inl rfl) hc5) dX8_set_88 h (fun h => ?_)
                refine g_nmi h (fun v9 h => ?_)
                refine g_istore (pn := 91) (lv' := [(7, .int v9), (6, .int v7), (5, .ref (X.2.2.2.1 v6)), (3, .int a3)]) K rfl dX8_set_89 (Nat.le_of_ble_eq_true rfl) rfl ?_
                refine g_aload (pn := 93) K rfl 2 rfl dX8_set_91 ?_
                refine g_iload (pn := 95) K rfl 1 rfl dX8_set_93 ?_
                refine g_iload_n (pn := 96) K rfl 3 rfl dX8_set_95 ?_
                refine g_iast (pn := 97) K rfl (rowOf_lay (Or.inl rfl) hc5) dX8_set_96 h (fun M10 h => ?_)
                refine g_iload (pn := 99) K rfl 0 rfl dX8_set_97 ?_
                exact g_iret K dX8_set_99 (oi2 h).2 (oi2 h).1
              refine g_if_eq (tgt := 81) (pn := 77) K rfl (by decide) dX8_set_74 h (fun h => ?_) (fun h => ?_)
              · refine g_iload_n (pn := 82) K rfl 3 rfl dX8_set_81 ?_
                refine g_sub [0, 5] rfl ?_
                exact hj8 _ h
              · refine g_iload_n (pn := 78) K rfl 4 rfl dX8_set_77 ?_
                refine g_goto (tgt := 82) K (by decide) dX8_set_78 ?_
                refine g_sub [0, 5] rfl ?_
                exact hj8 _ h
            refine g_if_eq (tgt := 62) (pn := 48) K rfl (by decide) dX8_set_45 h (fun h => ?_) (fun h => ?_)
            · exact hj4 _ h
            · refine g_aload_n (pn := 49) K rfl 1 rfl dX8_set_48 ?_
              refine g_getr (pn := 52) (j := 1) K rfl fl_X8_10 lx_0 rfl dX8_set_49 ?_
              refine g_iload_n (pn := 53) K rfl 3 rfl dX8_set_52 ?_
              obtain ⟨v12, hc11, h⟩ := ob_e h
              refine g_callV1 (pn := 56) (As := [.int a2]) (rest := []) (a := 1) K rfl (d' := 0) (Nat.le_of_ble_eq_true rfl) mv_X8_99 (recvO K lx_1 rfl) (w_f_Site_has (Or.inl rfl) hc11) rfl rfl (Nat.le_of_ble_eq_true rfl) dX8_set_53 ?_
              refine g_ifB_ne (tgt := 62) (pn := 59) K rfl (by decide) dX8_set_56 h (fun h => ?_) (fun h => ?_)
              · exact hj4 _ h
              · refine g_bipush (pn := 61) (v := (-2)) K rfl bp_m2 dX8_set_59 ?_
                exact g_iret K dX8_set_61 (oi2 h).2 (oi2 h).1
          refine g_icmp_le (tgt := 40) (pn := 36) K rfl (by decide) dX8_set_33 h (fun h => ?_) (fun h => ?_)
          · refine g_iconst (pn := 41) (v := 0) K rfl ic_0 dX8_set_40 ?_
            exact hj2 _ h
          · refine g_iconst (pn := 37) (v := 1) K rfl ic_1 dX8_set_36 ?_
            refine g_goto (tgt := 41) K (by decide) dX8_set_37 ?_
            exact hj2 _ h
        · refine g_bipush (pn := 30) (v := (-2)) K rfl bp_m2 dX8_set_28 ?_
          exact g_iret K dX8_set_30 (oi2 h).2 (oi2 h).1
set_option maxHeartbeats 4000000 in
set_option maxRecDepth 20000 in
theorem w_x_wall {X : XT} {M : Mem} {a1 : Int32} {a2 : Int32} {a3 : Int32} {M' : Mem} {r : Int32}   (h : x_wall M a1 a2 a3 = some (M', r)) : CT layX X 1 yX8_wall cX8_wall 4 (some .int) [.ref (X.2.2.2.1 0), .int a1, .int a2, .int a3] M M' (some (.int r)) := by
  refine CT.of rfl (Nat.le_of_ble_eq_true rfl) (lv := [(0, .ref (X.2.2.2.1 0)), (1, .int a1), (2, .int a2), (3, .int a3)]) rfl (fun Γ K => ?_)
  have K : Kx layX X Γ RX8 cX8_wall 4 1 (some .int) := K
  unfold x_wall at h
  refine g_iload_n (pn := 1) K rfl 1 rfl dX8_wall_0 ?_
  obtain ⟨v2, hc1, h⟩ := ob_e h
  refine g_callS1 (pn := 4) (As := [.int a1]) (rest := []) K rfl (d' := 0) (Nat.le_of_ble_eq_true rfl) ms_X8_107 (w_x_isKind hc1) rfl rfl (Nat.le_of_ble_eq_true rfl) dX8_wall_1 ?_
  refine g_ifB_eq (tgt := 47) (pn := 7) K rfl (by decide) dX8_wall_4 h (fun h => ?_) (fun h => ?_)
  · refine g_bipush (pn := 49) (v := (-2)) K rfl bp_m2 dX8_wall_47 ?_
    exact g_iret K dX8_wall_49 (oi2 h).2 (oi2 h).1
  · refine g_iload_n (pn := 8) K rfl 2 rfl dX8_wall_7 ?_
    refine g_gets (pn := 11) (j := 0) K rfl (by decide) fs_X8_92 dX8_wall_8 ?_
    refine g_bipush (pn := 13) (v := 6) K rfl bp_6 dX8_wall_11 ?_
    refine g_tald (pn := 14) (n := 9) K rfl (by decide) rfl dX8_wall_13 h (fun h => ?_)
    refine g_icmp_lt (tgt := 47) (pn := 17) K rfl (by decide) dX8_wall_14 h (fun h => ?_) (fun h => ?_)
    · refine g_bipush (pn := 49) (v := (-2)) K rfl bp_m2 dX8_wall_47 ?_
      exact g_iret K dX8_wall_49 (oi2 h).2 (oi2 h).1
    · refine g_iload_n (pn := 18) K rfl 2 rfl dX8_wall_17 ?_
      refine g_gets (pn := 21) (j := 1) K rfl (by decide) fs_X8_96 dX8_wall_18 ?_
      refine g_bipush (pn := 23) (v := 6) K rfl bp_6 dX8_wall_21 ?_
      refine g_tald (pn := 24) (n := 9) K rfl (by decide) rfl dX8_wall_23 h (fun h => ?_)
      refine g_icmp_gt (tgt := 47) (pn := 27) K rfl (by decide) dX8_wall_24 h (fun h => ?_) (fun h => ?_)
      · refine g_bipush (pn := 49) (v := (-2)) K rfl bp_m2 dX8_wall_47 ?_
        exact g_iret K dX8_wall_49 (oi2 h).2 (oi2 h).1
      · refine g_iload_n (pn := 28) K rfl 3 rfl dX8_wall_27 ?_
        refine g_gets (pn := 31) (j := 0) K rfl (by decide) fs_X8_92 dX8_wall_28 ?_
        refine g_bipush (pn := 33) (v := 7) K rfl bp_7 dX8_wall_31 ?_
        refine g_tald (pn := 34) (n := 9) K rfl (by decide) rfl dX8_wall_33 h (fun h => ?_)
        refine g_icmp_lt (tgt := 47) (pn := 37) K rfl (by decide) dX8_wall_34 h (fun h => ?_) (fun h => ?_)
        · refine g_bipush (pn := 49) (v := (-2)) K rfl bp_m2 dX8_wall_47 ?_
          exact g_iret K dX8_wall_49 (oi2 h).2 (oi2 h).1
        · refine g_iload_n (pn := 38) K rfl 3 rfl dX8_wall_37 ?_
          refine g_gets (pn := 41) (j := 1) K rfl (by decide) fs_X8_96 dX8_wall_38 ?_
          refine g_bipush (pn := 43) (v := 7) K rfl bp_7 dX8_wall_41 ?_
          refine g_tald (pn := 44) (n := 9) K rfl (by decide) rfl dX8_wall_43 h (fun h => ?_)
          refine g_icmp_le (tgt := 50) (pn := 47) K rfl (by decide) dX8_wall_44 h (fun h => ?_) (fun h => ?_)
          · refine g_aload_n (pn := 51) K rfl 0 rfl dX8_wall_50 ?_
            refine g_getr (pn := 54) (j := 1) K rfl fl_X8_10 lx_0 rfl dX8_wall_51 ?_
            refine g_iload_n (pn := 55) K rfl 1 rfl dX8_wall_54 ?_
            refine g_iload_n (pn := 56) K rfl 2 rfl dX8_wall_55 ?_
            refine g_iload_n (pn := 57) K rfl 3 rfl dX8_wall_56 ?_
            obtain ⟨M4, v5, hc3, h⟩ := ob2_e h
            refine g_callV1 (pn := 60) (As := [.int a1, .int a2, .int a3]) (rest := []) (a := 1) K rfl (d' := 0) (Nat.le_of_ble_eq_true rfl) mv_X8_110 (recvO K lx_1 rfl) (w_f_Site_add (Or.inl rfl) hc3) rfl rfl (Nat.le_of_ble_eq_true rfl) dX8_wall_57 ?_
            exact g_iret K dX8_wall_60 (oi2 h).2 (oi2 h).1
          · refine g_bipush (pn := 49) (v := (-2)) K rfl bp_m2 dX8_wall_47 ?_
            exact g_iret K dX8_wall_49 (oi2 h).2 (oi2 h).1
set_option maxHeartbeats 4000000 in
set_option maxRecDepth 20000 in
theorem w_x_told {X : XT} {M : Mem} {a1 : Int32} {a2 : Int32} {M' : Mem} {r : Int32}   (h : x_told M a1 a2 = some (M', r)) : CT layX X 5 yX8_told cX8_told 3 (some .int) [.ref (X.2.2.2.1 0), .int a1, .int a2] M M' (some (.int r)) := by
  refine CT.of rfl (Nat.le_of_ble_eq_true rfl) (lv := [(0, .ref (X.2.2.2.1 0)), (1, .int a1), (2, .int a2)]) rfl (fun Γ K => ?_)
  have K : Kx layX X Γ RX8 cX8_told 3 5 (some .int) := K
  unfold x_told at h
  refine g_aload_n (pn := 1) K rfl 0 rfl dX8_told_0 ?_
  refine g_getr (pn := 4) (j := 1) K rfl fl_X8_10 lx_0 rfl dX8_told_1 ?_
  refine g_iload_n (pn := 5) K rfl 1 rfl dX8_told_4 ?_
  obtain ⟨v2, hc1, h⟩ := ob_e h
  refine g_callV1 (pn := 8) (As := [.int a1]) (rest := []) (a := 1) K rfl (d' := 0) (Nat.le_of_ble_eq_true rfl) mv_X8_99 (recvO K lx_1 rfl) (w_f_Site_has (Or.inl rfl) hc1) rfl rfl (Nat.le_of_ble_eq_true rfl) dX8_told_5 ?_
  refine g_ifB_ne (tgt := 14) (pn := 11) K rfl (by decide) dX8_told_8 h (fun h => ?_) (fun h => ?_)
  · refine g_iload_n (pn := 15) K rfl 2 rfl dX8_told_14 ?_
    rcases Decidable.em (a2 = 0) with hs | hs0
    · replace h := (ite_e h).1 hs
      refine g_tsw (tgt := 44) (v := 0) (off := 29) K hs (by decide) (by decide) (by decide) (by decide) dX8_told_15 ?_
      refine g_aload_n (pn := 45) K rfl 0 rfl dX8_told_44 ?_
      refine g_getr (pn := 48) (j := 1) K rfl fl_X8_10 lx_0 rfl dX8_told_45 ?_
      refine g_getr (pn := 51) (j := 3) K rfl fl_X8_113 lx_1 rfl dX8_told_48 ?_
      refine g_iload_n (pn := 52) K rfl 1 rfl dX8_told_51 ?_
      refine g_iald (pn := 53) K rfl lx_3 dX8_told_52 h (fun h => ?_)
      exact g_iret K dX8_told_53 (oi2 h).2 (oi2 h).1
    · replace h := (ite_e h).2 hs0
      rcases Decidable.em (a2 = 1) with hs | hs1
      · replace h := (ite_e h).1 hs
        refine g_tsw (tgt := 54) (v := 1) (off := 39) K hs (by decide) (by decide) (by decide) (by decide) dX8_told_15 ?_
        refine g_aload_n (pn := 55) K rfl 0 rfl dX8_told_54 ?_
        refine g_getr (pn := 58) (j := 1) K rfl fl_X8_10 lx_0 rfl dX8_told_55 ?_
        refine g_getr (pn := 61) (j := 4) K rfl fl_X8_116 lx_1 rfl dX8_told_58 ?_
        refine g_iload_n (pn := 62) K rfl 1 rfl dX8_told_61 ?_
        refine g_iald (pn := 63) K rfl lx_4 dX8_told_62 h (fun h => ?_)
        exact g_iret K dX8_told_63 (oi2 h).2 (oi2 h).1
      · replace h := (ite_e h).2 hs1
        rcases Decidable.em (a2 = 2) with hs | hs2
        · replace h := (ite_e h).1 hs
          refine g_tsw (tgt := 64) (v := 2) (off := 49) K hs (by decide) (by decide) (by decide) (by decide) dX8_told_15 ?_
          refine g_aload_n (pn := 65) K rfl 0 rfl dX8_told_64 ?_
          refine g_getr (pn := 68) (j := 1) K rfl fl_X8_10 lx_0 rfl dX8_told_65 ?_
          refine g_getr (pn := 71) (j := 5) K rfl fl_X8_119 lx_1 rfl dX8_told_68 ?_
          refine g_iload_n (pn := 72) K rfl 1 rfl dX8_told_71 ?_
          refine g_iald (pn := 73) K rfl lx_5 dX8_told_72 h (fun h => ?_)
          exact g_iret K dX8_told_73 (oi2 h).2 (oi2 h).1
        · replace h := (ite_e h).2 hs2
          rcases Decidable.em (a2 = 3) with hs | hs3
          · replace h := (ite_e h).1 hs
            refine g_tsw (tgt := 74) (v := 3) (off := 59) K hs (by decide) (by decide) (by decide) (by decide) dX8_told_15 ?_
            refine g_aload_n (pn := 75) K rfl 0 rfl dX8_told_74 ?_
            refine g_getr (pn := 78) (j := 1) K rfl fl_X8_10 lx_0 rfl dX8_told_75 ?_
            refine g_getr (pn := 81) (j := 6) K rfl fl_X8_122 lx_1 rfl dX8_told_78 ?_
            refine g_iload_n (pn := 82) K rfl 1 rfl dX8_told_81 ?_
            refine g_iald (pn := 83) K rfl lx_6 dX8_told_82 h (fun h => ?_)
            exact g_iret K dX8_told_83 (oi2 h).2 (oi2 h).1
          · replace h := (ite_e h).2 hs3
            refine g_tswD (tgt := 84) K [0, 1, 2, 3] (by decide) (by decide) (by simp only [List.forall_mem_cons]; exact ⟨hs0, hs1, hs2, hs3, fun _ h => absurd h List.not_mem_nil⟩) (by decide) dX8_told_15 ?_
            refine g_aload_n (pn := 85) K rfl 0 rfl dX8_told_84 ?_
            refine g_iload_n (pn := 86) K rfl 1 rfl dX8_told_85 ?_
            refine g_iload_n (pn := 87) K rfl 2 rfl dX8_told_86 ?_
            obtain ⟨M4, v5, hc3, h⟩ := ob2_e h
            refine g_callV1 (pn := 90) (As := [.int a1, .int a2]) (rest := []) (a := 0) K rfl (d' := 4) (Nat.le_of_ble_eq_true rfl) mv_X8_125 (recvO K lx_0 rfl) (w_x_reckoned hc3) rfl rfl (Nat.le_of_ble_eq_true rfl) dX8_told_87 ?_
            exact g_iret K dX8_told_90 (oi2 h).2 (oi2 h).1
  · refine g_bipush (pn := 13) (v := (-2)) K rfl bp_m2 dX8_told_11 ?_
    exact g_iret K dX8_told_13 (oi2 h).2 (oi2 h).1
set_option maxHeartbeats 4000000 in
set_option maxRecDepth 20000 in
theorem w_x_feed {X : XT} {M : Mem} {a1 : Int32} {M' : Mem} {r : Int32}   (h : x_feed M a1 = some (M', r)) : CT layX X 1 yX8_feed cX8_feed 2 (some .int) [.ref (X.2.2.2.1 0), .int a1] M M' (some (.int r)) := by
  refine CT.of rfl (Nat.le_of_ble_eq_true rfl) (lv := [(0, .ref (X.2.2.2.1 0)), (1, .int a1)]) rfl (fun Γ K => ?_)
  have K : Kx layX X Γ RX8 cX8_feed 2 1 (some .int) := K
  unfold x_feed at h
  refine g_iload_n (pn := 1) K rfl 1 rfl dX8_feed_0 ?_
  refine g_if_lt (tgt := 11) (pn := 4) K rfl (by decide) dX8_feed_1 h (fun h => ?_) (fun h => ?_)
  · refine g_bipush (pn := 13) (v := (-2)) K rfl bp_m2 dX8_feed_11 ?_
    exact g_iret K dX8_feed_13 (oi2 h).2 (oi2 h).1
  · refine g_iload_n (pn := 5) K rfl 1 rfl dX8_feed_4 ?_
    refine g_sipush (pn := 8) (v := 255) K rfl sp_255 dX8_feed_5 ?_
    refine g_icmp_le (tgt := 14) (pn := 11) K rfl (by decide) dX8_feed_8 h (fun h => ?_) (fun h => ?_)
    · refine g_aload_n (pn := 15) K rfl 0 rfl dX8_feed_14 ?_
      refine g_getr (pn := 18) (j := 13) K rfl fl_X8_26 lx_0 rfl dX8_feed_15 ?_
      refine g_iload_n (pn := 19) K rfl 1 rfl dX8_feed_18 ?_
      obtain ⟨M2, v3, hc1, h⟩ := ob2_e h
      refine g_callV1 (pn := 22) (As := [.int a1]) (rest := []) (a := 13) K rfl (d' := 0) (Nat.le_of_ble_eq_true rfl) mv_X8_85 (recvO K lx_13 rfl) (w_f_Tape_add hc1) rfl rfl (Nat.le_of_ble_eq_true rfl) dX8_feed_19 ?_
      exact g_iret K dX8_feed_22 (oi2 h).2 (oi2 h).1
    · refine g_bipush (pn := 13) (v := (-2)) K rfl bp_m2 dX8_feed_11 ?_
      exact g_iret K dX8_feed_13 (oi2 h).2 (oi2 h).1
set_option maxHeartbeats 4000000 in
set_option maxRecDepth 20000 in
theorem w_x_text {X : XT} {M : Mem}  {M' : Mem} {r : Int32}   (h : x_text M = some (M', r)) : CT layX X 167 yX8_text cX8_text 1 (some .int) [.ref (X.2.2.2.1 0)] M M' (some (.int r)) := by
  refine CT.of rfl (Nat.le_of_ble_eq_true rfl) (lv := [(0, .ref (X.2.2.2.1 0))]) rfl (fun Γ K => ?_)
  have K : Kx layX X Γ RX8 cX8_text 1 167 (some .int) := K
  unfold x_text at h
  refine g_aload_n (pn := 1) K rfl 0 rfl dX8_text_0 ?_
  refine g_geti (pn := 4) K rfl fl_X8_45 lx_0 rfl dX8_text_1 ?_
  refine g_bipush (pn := 6) (v := 6) K rfl bp_6 dX8_text_4 ?_
  refine g_icmp_lt (tgt := 12) (pn := 9) K rfl (by decide) dX8_text_6 h (fun h => ?_) (fun h => ?_)
  · refine g_aload_n (pn := 13) K rfl 0 rfl dX8_text_12 ?_
    obtain ⟨M2, v3, hc1, h⟩ := ob2_e h
    refine g_callV1 (pn := 16) (As := []) (rest := []) (a := 0) K rfl (d' := 166) (Nat.le_of_ble_eq_true rfl) mv_X8_89 (recvO K lx_0 rfl) (w_x_learn hc1) rfl rfl (Nat.le_of_ble_eq_true rfl) dX8_text_13 ?_
    exact g_iret K dX8_text_16 (oi2 h).2 (oi2 h).1
  · refine g_bipush (pn := 11) (v := (-4)) K rfl bp_m4 dX8_text_9 ?_
    exact g_iret K dX8_text_11 (oi2 h).2 (oi2 h).1
set_option maxHeartbeats 4000000 in
set_option maxRecDepth 20000 in
theorem w_x_force {X : XT} {M : Mem} {a1 : Int32} {M' : Mem} {r : Int32}   (h : x_force M a1 = some (M', r)) : CT layX X 0 yX8_force cX8_force 3 (some .int) [.ref (X.2.2.2.1 0), .int a1] M M' (some (.int r)) := by
  refine CT.of rfl (Nat.le_of_ble_eq_true rfl) (lv := [(0, .ref (X.2.2.2.1 0)), (1, .int a1)]) rfl (fun Γ K => ?_)
  have K : Kx layX X Γ RX8 cX8_force 3 0 (some .int) := K
  unfold x_force at h
  refine g_iload_n (pn := 1) K rfl 1 rfl dX8_force_0 ?_
  refine g_if_lt (tgt := 12) (pn := 4) K rfl (by decide) dX8_force_1 h (fun h => ?_) (fun h => ?_)
  · refine g_bipush (pn := 14) (v := (-2)) K rfl bp_m2 dX8_force_12 ?_
    exact g_iret K dX8_force_14 (oi2 h).2 (oi2 h).1
  · refine g_iload_n (pn := 5) K rfl 1 rfl dX8_force_4 ?_
    refine g_aload_n (pn := 6) K rfl 0 rfl dX8_force_5 ?_
    refine g_geti (pn := 9) K rfl fl_X8_45 lx_0 rfl dX8_force_6 ?_
    refine g_icmp_lt (tgt := 15) (pn := 12) K rfl (by decide) dX8_force_9 h (fun h => ?_) (fun h => ?_)
    · refine g_aload_n (pn := 16) K rfl 0 rfl dX8_force_15 ?_
      refine g_getr (pn := 19) (j := 1) K rfl fl_X8_10 lx_0 rfl dX8_force_16 ?_
      refine g_geti (pn := 22) K rfl fl_X8_158 lx_1 rfl dX8_force_19 ?_
      refine g_nmi h (fun v1 h => ?_)
      refine g_istore_n (pn := 23) (lv' := [(2, .int v1), (0, .ref (X.2.2.2.1 0)), (1, .int a1)]) K rfl dX8_force_22 rfl (Nat.le_of_ble_eq_true rfl) rfl ?_
      refine g_aload_n (pn := 24) K rfl 1 rfl dX8_force_23 ?_
      refine g_getr (pn := 27) (j := 1) K rfl fl_X8_10 lx_0 rfl dX8_force_24 ?_
      refine g_iload_n (pn := 28) K rfl 2 rfl dX8_force_27 ?_
      refine g_puti (pn := 31) K rfl fp_X8_158 lx_1 rfl dX8_force_28 h (fun M2 h => ?_)
      refine g_iload_n (pn := 32) K rfl 0 rfl dX8_force_31 ?_
      exact g_iret K dX8_force_32 (oi2 h).2 (oi2 h).1
    · refine g_bipush (pn := 14) (v := (-2)) K rfl bp_m2 dX8_force_12 ?_
      exact g_iret K dX8_force_14 (oi2 h).2 (oi2 h).1
set_option maxHeartbeats 4000000 in
set_option maxRecDepth 20000 in
theorem w_x_day {X : XT} {M : Mem} {a1 : Int32} {M' : Mem} {r : Int32}   (h : x_day M a1 = some (M', r)) : CT layX X 5 yX8_day cX8_day 2 (some .int) [.ref (X.2.2.2.1 0), .int a1] M M' (some (.int r)) := by
  refine CT.of rfl (Nat.le_of_ble_eq_true rfl) (lv := [(0, .ref (X.2.2.2.1 0)), (1, .int a1)]) rfl (fun Γ K => ?_)
  have K : Kx layX X Γ RX8 cX8_day 2 5 (some .int) := K
  unfold x_day at h
  refine g_aload_n (pn := 1) K rfl 0 rfl dX8_day_0 ?_
  refine g_iload_n (pn := 2) K rfl 1 rfl dX8_day_1 ?_
  obtain ⟨v2, hc1, h⟩ := ob_e h
  refine g_callV1 (pn := 5) (As := [.int a1]) (rest := []) (a := 0) K rfl (d' := 1) (Nat.le_of_ble_eq_true rfl) mv_X8_161 (recvO K lx_0 rfl) (w_x_isOfDay hc1) rfl rfl (Nat.le_of_ble_eq_true rfl) dX8_day_2 ?_
  refine g_ifB_ne (tgt := 11) (pn := 8) K rfl (by decide) dX8_day_5 h (fun h => ?_) (fun h => ?_)
  · refine g_aload_n (pn := 12) K rfl 0 rfl dX8_day_11 ?_
    obtain ⟨M4, hc3, h⟩ := ob_e h
    refine g_callV0 (pn := 15) (As := []) (rest := []) (a := 0) K rfl (d' := 1) (Nat.le_of_ble_eq_true rfl) mv_X8_129 (recvO K lx_0 rfl) (w_x_startTrial hc3) rfl rfl (Nat.le_of_ble_eq_true rfl) dX8_day_12 ?_
    refine g_aload_n (pn := 16) K rfl 0 rfl dX8_day_15 ?_
    refine g_getr (pn := 19) (j := 23) K rfl fl_X8_54 lx_0 rfl dX8_day_16 ?_
    obtain ⟨M6, hc5, h⟩ := ob_e h
    refine g_callV0 (pn := 22) (As := []) (rest := []) (a := 23) K rfl (d' := 3) (Nat.le_of_ble_eq_true rfl) mv_X8_132 (recvO K lx_23 rfl) (w_f_Day_reckon hc5) rfl rfl (Nat.le_of_ble_eq_true rfl) dX8_day_19 ?_
    refine g_aload_n (pn := 23) K rfl 0 rfl dX8_day_22 ?_
    refine g_getr (pn := 26) (j := 23) K rfl fl_X8_54 lx_0 rfl dX8_day_23 ?_
    obtain ⟨M8, hc7, h⟩ := ob_e h
    refine g_callV0 (pn := 29) (As := []) (rest := []) (a := 23) K rfl (d' := 4) (Nat.le_of_ble_eq_true rfl) mv_X8_165 (recvO K lx_23 rfl) (w_f_Day_live hc7) rfl rfl (Nat.le_of_ble_eq_true rfl) dX8_day_26 ?_
    refine g_aload_n (pn := 30) K rfl 0 rfl dX8_day_29 ?_
    refine g_iload_n (pn := 31) K rfl 1 rfl dX8_day_30 ?_
    obtain ⟨v10, hc9, h⟩ := ob_e h
    refine g_callV1 (pn := 34) (As := [.int a1]) (rest := []) (a := 0) K rfl (d' := 2) (Nat.le_of_ble_eq_true rfl) mv_X8_168 (recvO K lx_0 rfl) (w_x_ofDay hc9) rfl rfl (Nat.le_of_ble_eq_true rfl) dX8_day_31 ?_
    exact g_iret K dX8_day_34 (oi2 h).2 (oi2 h).1
  · refine g_ldc (pn := 10) (v := (-100000)) K rfl cn_X8_164 dX8_day_8 ?_
    exact g_iret K dX8_day_10 (oi2 h).2 (oi2 h).1
set_option maxHeartbeats 4000000 in
set_option maxRecDepth 20000 in
theorem w_x_order {X : XT} {M : Mem} {a1 : Int32} {a2 : Int32} {M' : Mem} {r : Int32}   (h : x_order M a1 a2 = some (M', r)) : CT layX X 5 yX8_order cX8_order 4 (some .int) [.ref (X.2.2.2.1 0), .int a1, .int a2] M M' (some (.int r)) := by
  refine CT.of rfl (Nat.le_of_ble_eq_true rfl) (lv := [(0, .ref (X.2.2.2.1 0)), (1, .int a1), (2, .int a2)]) rfl (fun Γ K => ?_)
  have K : Kx layX X Γ RX8 cX8_order 4 5 (some .int) := K
  unfold x_order at h
  refine g_aload_n (pn := 1) K rfl 0 rfl dX8_order_0 ?_
  refine g_iload_n (pn := 2) K rfl 1 rfl dX8_order_1 ?_
  obtain ⟨v2, hc1, h⟩ := ob_e h
  refine g_callV1 (pn := 5) (As := [.int a1]) (rest := []) (a := 0) K rfl (d' := 0) (Nat.le_of_ble_eq_true rfl) mv_X8_171 (recvO K lx_0 rfl) (w_x_sheetAt hc1) rfl rfl (Nat.le_of_ble_eq_true rfl) dX8_order_2 ?_
  rcases v2 with _ | t3
  · replace h := oc_n h
    refine g_astore_nN (pn := 6) (lv' := [(3, .null), (0, .ref (X.2.2.2.1 0)), (1, .int a1), (2, .int a2)]) K rfl dX8_order_5 rfl (Nat.le_of_ble_eq_true rfl) rfl ?_
    refine g_aload_nN (pn := 7) K rfl 0 rfl dX8_order_6 ?_
    refine g_ifnullN (tgt := 26) K (by decide) dX8_order_7 ?_
    refine g_ldc (pn := 28) (v := (-100000)) K rfl cn_X8_164 dX8_order_26 ?_
    exact g_iret K dX8_order_28 (oi2 h).2 (oi2 h).1
  · replace h := oc_s h
    have ht3 : isSheet t3 := sheetAt_is hc1
    refine g_astore_n (pn := 6) (lv' := [(3, .ref (X.2.2.2.1 t3)), (0, .ref (X.2.2.2.1 0)), (1, .int a1), (2, .int a2)]) K rfl dX8_order_5 rfl (Nat.le_of_ble_eq_true rfl) rfl ?_
    refine g_aload_n (pn := 7) K rfl 0 rfl dX8_order_6 ?_
    refine g_ifnull (pn := 10) K rfl dX8_order_7 ?_
    refine g_aload_n (pn := 11) K rfl 1 rfl dX8_order_10 ?_
    refine g_iload_n (pn := 12) K rfl 3 rfl dX8_order_11 ?_
    obtain ⟨v5, hc4, h⟩ := ob_e h
    refine g_callV1 (pn := 15) (As := [.int a2]) (rest := []) (a := 0) K rfl (d' := 1) (Nat.le_of_ble_eq_true rfl) mv_X8_161 (recvO K lx_0 rfl) (w_x_isOfDay hc4) rfl rfl (Nat.le_of_ble_eq_true rfl) dX8_order_12 ?_
    refine g_ifB_eq (tgt := 26) (pn := 18) K rfl (by decide) dX8_order_15 h (fun h => ?_) (fun h => ?_)
    · refine g_ldc (pn := 28) (v := (-100000)) K rfl cn_X8_164 dX8_order_26 ?_
      exact g_iret K dX8_order_28 (oi2 h).2 (oi2 h).1
    · refine g_aload_n (pn := 19) K rfl 1 rfl dX8_order_18 ?_
      refine g_aload_n (pn := 20) K rfl 0 rfl dX8_order_19 ?_
      obtain ⟨M7, v8, hc6, h⟩ := ob2_e h
      refine g_callV1 (pn := 23) (As := [.ref (X.2.2.2.1 t3)]) (rest := []) (a := 0) K rfl (d' := 2) (Nat.le_of_ble_eq_true rfl) mv_X8_175 (recvO K lx_0 rfl) (w_x_startOrder ht3 hc6) rfl rfl (Nat.le_of_ble_eq_true rfl) dX8_order_20 ?_
      refine g_ifB_ne (tgt := 29) (pn := 26) K rfl (by decide) dX8_order_23 h (fun h => ?_) (fun h => ?_)
      · refine g_aload_n (pn := 30) K rfl 1 rfl dX8_order_29 ?_
        refine g_getr (pn := 33) (j := 23) K rfl fl_X8_54 lx_0 rfl dX8_order_30 ?_
        obtain ⟨M10, hc9, h⟩ := ob_e h
        refine g_callV0 (pn := 36) (As := []) (rest := []) (a := 23) K rfl (d' := 3) (Nat.le_of_ble_eq_true rfl) mv_X8_132 (recvO K lx_23 rfl) (w_f_Day_reckon hc9) rfl rfl (Nat.le_of_ble_eq_true rfl) dX8_order_33 ?_
        refine g_aload_n (pn := 37) K rfl 1 rfl dX8_order_36 ?_
        refine g_getr (pn := 40) (j := 23) K rfl fl_X8_54 lx_0 rfl dX8_order_37 ?_
        obtain ⟨M12, hc11, h⟩ := ob_e h
        refine g_callV0 (pn := 43) (As := []) (rest := []) (a := 23) K rfl (d' := 4) (Nat.le_of_ble_eq_true rfl) mv_X8_165 (recvO K lx_23 rfl) (w_f_Day_live hc11) rfl rfl (Nat.le_of_ble_eq_true rfl) dX8_order_40 ?_
        refine g_aload_n (pn := 44) K rfl 1 rfl dX8_order_43 ?_
        refine g_iload_n (pn := 45) K rfl 3 rfl dX8_order_44 ?_
        obtain ⟨v14, hc13, h⟩ := ob_e h
        refine g_callV1 (pn := 48) (As := [.int a2]) (rest := []) (a := 0) K rfl (d' := 2) (Nat.le_of_ble_eq_true rfl) mv_X8_168 (recvO K lx_0 rfl) (w_x_ofDay hc13) rfl rfl (Nat.le_of_ble_eq_true rfl) dX8_order_45 ?_
        exact g_iret K dX8_order_48 (oi2 h).2 (oi2 h).1
      · refine g_ldc (pn := 28) (v := (-100000)) K rfl cn_X8_164 dX8_order_26 ?_
        exact g_iret K dX8_order_28 (oi2 h).2 (oi2 h).1
set_option maxHeartbeats 4000000 in
set_option maxRecDepth 20000 in
theorem w_x_best {X : XT} {M : Mem} {a1 : Int32} {M' : Mem} {r : Int32}   (h : x_best M a1 = some (M', r)) : CT layX X 5 yX8_best cX8_best 4 (some .int) [.ref (X.2.2.2.1 0), .int a1] M M' (some (.int r)) := by
  refine CT.of rfl (Nat.le_of_ble_eq_true rfl) (lv := [(0, .ref (X.2.2.2.1 0)), (1, .int a1)]) rfl (fun Γ K => ?_)
  have K : Kx layX X Γ RX8 cX8_best 4 5 (some .int) := K
  unfold x_best at h
  refine g_iload_n (pn := 1) K rfl 1 rfl dX8_best_0 ?_
  refine g_if_lt (tgt := 9) (pn := 4) K rfl (by decide) dX8_best_1 h (fun h => ?_) (fun h => ?_)
  · refine g_bipush (pn := 11) (v := (-2)) K rfl bp_m2 dX8_best_9 ?_
    exact g_iret K dX8_best_11 (oi2 h).2 (oi2 h).1
  · refine g_iload_n (pn := 5) K rfl 1 rfl dX8_best_4 ?_
    refine g_iconst (pn := 6) (v := 2) K rfl ic_2 dX8_best_5 ?_
    refine g_icmp_le (tgt := 12) (pn := 9) K rfl (by decide) dX8_best_6 h (fun h => ?_) (fun h => ?_)
    · refine g_aload_n (pn := 13) K rfl 0 rfl dX8_best_12 ?_
      obtain ⟨M2, hc1, h⟩ := ob_e h
      refine g_callV0 (pn := 16) (As := []) (rest := []) (a := 0) K rfl (d' := 1) (Nat.le_of_ble_eq_true rfl) mv_X8_129 (recvO K lx_0 rfl) (w_x_startTrial hc1) rfl rfl (Nat.le_of_ble_eq_true rfl) dX8_best_13 ?_
      refine g_aload_n (pn := 17) K rfl 0 rfl dX8_best_16 ?_
      refine g_getr (pn := 20) (j := 23) K rfl fl_X8_54 lx_0 rfl dX8_best_17 ?_
      obtain ⟨M4, hc3, h⟩ := ob_e h
      refine g_callV0 (pn := 23) (As := []) (rest := []) (a := 23) K rfl (d' := 3) (Nat.le_of_ble_eq_true rfl) mv_X8_132 (recvO K lx_23 rfl) (w_f_Day_reckon hc3) rfl rfl (Nat.le_of_ble_eq_true rfl) dX8_best_20 ?_
      refine g_aload_n (pn := 24) K rfl 0 rfl dX8_best_23 ?_
      refine g_getr (pn := 27) (j := 40) K rfl fl_X8_61 lx_0 rfl dX8_best_24 ?_
      obtain ⟨M6, hc5, h⟩ := ob_e h
      refine g_callV0 (pn := 30) (As := []) (rest := []) (a := 40) K rfl (d' := 0) (Nat.le_of_ble_eq_true rfl) mv_X8_231 (recvO K lx_40 rfl) (w_f_Pick_clear hc5) rfl rfl (Nat.le_of_ble_eq_true rfl) dX8_best_27 ?_
      refine g_iconst (pn := 31) (v := 1) K rfl ic_1 dX8_best_30 ?_
      refine g_istore_n (pn := 32) (lv' := [(2, .int 1), (0, .ref (X.2.2.2.1 0)), (1, .int a1)]) K rfl dX8_best_31 rfl (Nat.le_of_ble_eq_true rfl) rfl ?_
      refine g_iconst (pn := 33) (v := 0) K rfl ic_0 dX8_best_32 ?_
      refine g_istore_n (pn := 34) (lv' := [(3, .int 0), (2, .int 1), (0, .ref (X.2.2.2.1 0)), (1, .int a1)]) K rfl dX8_best_33 rfl (Nat.le_of_ble_eq_true rfl) rfl ?_
      refine jp_e1 h (fun M7 => G layX X Γ 4 (QM layX X Γ (some (.int r)) M') 94 [(0, .ref (X.2.2.2.1 0)), (1, .int a1)] [] M7) (fun M7 h => ?_) (fun j8 hj8 h => ?_)
      · refine g_iload_n (pn := 95) K rfl 1 rfl dX8_best_94 ?_
        rcases Decidable.em (a1 = 0) with hs | hs0
        · replace h := (ite_e h).1 hs
          refine g_lsw (tgt := 120) (off := 25) K (lsw_t hs (by decide)) (by decide) (by decide) dX8_best_95 ?_
          refine g_aload_n (pn := 121) K rfl 0 rfl dX8_best_120 ?_
          refine g_getr (pn := 124) (j := 40) K rfl fl_X8_61 lx_0 rfl dX8_best_121 ?_
          refine g_geti (pn := 127) K rfl fl_X8_242 lx_40 rfl dX8_best_124 ?_
          exact g_iret K dX8_best_127 (oi2 h).2 (oi2 h).1
        · replace h := (ite_e h).2 hs0
          rcases Decidable.em (a1 = 1) with hs | hs1
          · replace h := (ite_e h).1 hs
            refine g_lsw (tgt := 128) (off := 33) K (lsw_f hs0 (by decide) (lsw_t hs (by decide))) (by decide) (by decide) dX8_best_95 ?_
            refine g_aload_n (pn := 129) K rfl 0 rfl dX8_best_128 ?_
            refine g_getr (pn := 132) (j := 40) K rfl fl_X8_61 lx_0 rfl dX8_best_129 ?_
            refine g_geti (pn := 135) K rfl fl_X8_243 lx_40 rfl dX8_best_132 ?_
            exact g_iret K dX8_best_135 (oi2 h).2 (oi2 h).1
          · replace h := (ite_e h).2 hs1
            refine g_lsw (tgt := 136) K (lsw_f hs0 (by decide) (lsw_f hs1 (by decide) (lsw_0 _ _))) (by decide) (by decide) dX8_best_95 ?_
            refine g_aload_n (pn := 137) K rfl 0 rfl dX8_best_136 ?_
            refine g_getr (pn := 140) (j := 40) K rfl fl_X8_61 lx_0 rfl dX8_best_137 ?_
            refine g_geti (pn := 143) K rfl fl_X8_246 lx_40 rfl dX8_best_140 ?_
            exact g_iret K dX8_best_143 (oi2 h).2 (oi2 h).1
      have LP34 : ∀ (fu12 : Nat) (v9 : Int32) (v10 : Int32) (M11 : Mem), x_best_L34 j8 fu12 v9 v10 M11 = some (M', r) → G layX X Γ 4 (QM layX X Γ (some (.int r)) M') 34 [(0, .ref (X.2.2.2.1 0)), (1, .int a1), (2, .int v9), (3, .int v10)] [] M11 := by
        intro fu12
        induction fu12 with
        | zero =>
          intro v9 v10 M11 h
          rw [x_best_L34] at h
          cases h
        | succ fu12 ih12 =>
          intro v9 v10 M11 h
          rw [x_best_L34] at h
          refine g_iload_n (pn := 35) K rfl 3 rfl dX8_best_34 ?_
          refine g_sipush (pn := 38) (v := 720) K rfl sp_720 dX8_best_35 ?_
          refine g_icmp_ge (tgt := 94) (pn := 41) K rfl (by decide) dX8_best_38 h (fun h => ?_) (fun h => ?_)
          · refine g_sub [0, 1] rfl ?_
            exact hj8 _ h
          · refine g_iload_n (pn := 42) K rfl 2 rfl dX8_best_41 ?_
            refine g_if_eq (tgt := 94) (pn := 45) K rfl (by decide) dX8_best_42 h (fun h => ?_) (fun h => ?_)
            · refine g_sub [0, 1] rfl ?_
              exact hj8 _ h
            · refine g_aload_n (pn := 46) K rfl 0 rfl dX8_best_45 ?_
              refine g_getr (pn := 49) (j := 23) K rfl fl_X8_54 lx_0 rfl dX8_best_46 ?_
              obtain ⟨M14, hc13, h⟩ := ob_e h
              refine g_callV0 (pn := 52) (As := []) (rest := []) (a := 23) K rfl (d' := 4) (Nat.le_of_ble_eq_true rfl) mv_X8_165 (recvO K lx_23 rfl) (w_f_Day_live hc13) rfl rfl (Nat.le_of_ble_eq_true rfl) dX8_best_49 ?_
              refine g_aload_n (pn := 53) K rfl 0 rfl dX8_best_52 ?_
              refine g_getr (pn := 56) (j := 40) K rfl fl_X8_61 lx_0 rfl dX8_best_53 ?_
              refine g_aload_n (pn := 57) K rfl 0 rfl dX8_best_56 ?_
              refine g_getr (pn := 60) (j := 23) K rfl fl_X8_54 lx_0 rfl dX8_best_57 ?_
              obtain ⟨v16, hc15, h⟩ := ob_e h
              refine g_callV1 (pn := 63) (As := []) (rest := [.ref (X.2.2.2.1 40)]) (a := 23) K rfl (d' := 0) (Nat.le_of_ble_eq_true rfl) mv_X8_232 (recvO K lx_23 rfl) (w_f_Day_rowAsDigits hc15) rfl rfl (Nat.le_of_ble_eq_true rfl) dX8_best_60 ?_
              refine g_aload_n (pn := 64) K rfl 0 rfl dX8_best_63 ?_
              refine g_getr (pn := 67) (j := 23) K rfl fl_X8_54 lx_0 rfl dX8_best_64 ?_
              refine g_geti (pn := 70) K rfl fl_X8_194 lx_23 rfl dX8_best_67 ?_
              refine g_aload_n (pn := 71) K rfl 0 rfl dX8_best_70 ?_
              refine g_getr (pn := 74) (j := 23) K rfl fl_X8_54 lx_0 rfl dX8_best_71 ?_
              refine g_geti (pn := 77) K rfl fl_X8_197 lx_23 rfl dX8_best_74 ?_
              obtain ⟨M18, hc17, h⟩ := ob_e h
              refine g_callV0 (pn := 80) (As := [.int v16, .int (M14 23 16), .int (M14 23 14)]) (rest := []) (a := 40) K rfl (d' := 0) (Nat.le_of_ble_eq_true rfl) mv_X8_235 (recvO K lx_40 rfl) (w_f_Pick_offer hc17) rfl rfl (Nat.le_of_ble_eq_true rfl) dX8_best_77 ?_
              refine g_aload_n (pn := 81) K rfl 0 rfl dX8_best_80 ?_
              refine g_getr (pn := 84) (j := 23) K rfl fl_X8_54 lx_0 rfl dX8_best_81 ?_
              obtain ⟨M20, v21, hc19, h⟩ := ob2_e h
              refine g_callV1 (pn := 87) (As := []) (rest := []) (a := 23) K rfl (d' := 1) (Nat.le_of_ble_eq_true rfl) mv_X8_239 (recvO K lx_23 rfl) (w_f_Day_nextRow hc19) rfl rfl (Nat.le_of_ble_eq_true rfl) dX8_best_84 ?_
              refine g_istore_n (pn := 88) (lv' := [(2, .int (b2i v21)), (0, .ref (X.2.2.2.1 0)), (1, .int a1), (3, .int v10)]) K rfl dX8_best_87 rfl (Nat.le_of_ble_eq_true rfl) rfl ?_
              obtain ⟨v22, ev22, h⟩ := bnd_e h
              refine g_iinc (pn := 91) (v := v22) (lv' := [(3, .int v22), (2, .int (b2i v21)), (0, .ref (X.2.2.2.1 0)), (1, .int a1)]) K rfl 3 rfl ii_1 ev22 dX8_best_88 (Nat.le_of_ble_eq_true rfl) rfl ?_
              refine g_goto (tgt := 34) K (by decide) dX8_best_91 ?_
              refine g_sub [2, 3, 1, 0] rfl ?_
              exact ih12 _ _ _ h
      refine g_sub [2, 3, 1, 0] rfl ?_
      exact LP34 FU _ _ _ h
    · refine g_bipush (pn := 11) (v := (-2)) K rfl bp_m2 dX8_best_9 ?_
      exact g_iret K dX8_best_11 (oi2 h).2 (oi2 h).1
set_option maxHeartbeats 4000000 in
set_option maxRecDepth 20000 in
theorem w_x_good {X : XT} {M : Mem} {a1 : Int32} {a2 : Int32} {M' : Mem} {r : Int32}   (h : x_good M a1 a2 = some (M', r)) : CT layX X 6 yX8_good cX8_good 5 (some .int) [.ref (X.2.2.2.1 0), .int a1, .int a2] M M' (some (.int r)) := by
  refine CT.of rfl (Nat.le_of_ble_eq_true rfl) (lv := [(0, .ref (X.2.2.2.1 0)), (1, .int a1), (2, .int a2)]) rfl (fun Γ K => ?_)
  have K : Kx layX X Γ RX8 cX8_good 5 6 (some .int) := K
  unfold x_good at h
  refine g_iload_n (pn := 1) K rfl 1 rfl dX8_good_0 ?_
  refine g_if_lt (tgt := 18) (pn := 4) K rfl (by decide) dX8_good_1 h (fun h => ?_) (fun h => ?_)
  · refine g_bipush (pn := 20) (v := (-2)) K rfl bp_m2 dX8_good_18 ?_
    exact g_iret K dX8_good_20 (oi2 h).2 (oi2 h).1
  · refine g_iload_n (pn := 5) K rfl 1 rfl dX8_good_4 ?_
    refine g_iconst (pn := 6) (v := 1) K rfl ic_1 dX8_good_5 ?_
    refine g_icmp_gt (tgt := 18) (pn := 9) K rfl (by decide) dX8_good_6 h (fun h => ?_) (fun h => ?_)
    · refine g_bipush (pn := 20) (v := (-2)) K rfl bp_m2 dX8_good_18 ?_
      exact g_iret K dX8_good_20 (oi2 h).2 (oi2 h).1
    · refine g_iload_n (pn := 10) K rfl 2 rfl dX8_good_9 ?_
      refine g_if_lt (tgt := 18) (pn := 13) K rfl (by decide) dX8_good_10 h (fun h => ?_) (fun h => ?_)
      · refine g_bipush (pn := 20) (v := (-2)) K rfl bp_m2 dX8_good_18 ?_
        exact g_iret K dX8_good_20 (oi2 h).2 (oi2 h).1
      · refine g_iload_n (pn := 14) K rfl 2 rfl dX8_good_13 ?_
        refine g_iconst (pn := 15) (v := 2) K rfl ic_2 dX8_good_14 ?_
        refine g_icmp_le (tgt := 21) (pn := 18) K rfl (by decide) dX8_good_15 h (fun h => ?_) (fun h => ?_)
        · refine g_iload_n (pn := 22) K rfl 1 rfl dX8_good_21 ?_
          refine jp_e1 h (fun v1 => G layX X Γ 5 (QM layX X Γ (some (.int r)) M') 30 [(0, .ref (X.2.2.2.1 0)), (2, .int a2)] [.int v1] M) (fun v1 h => ?_) (fun j2 hj2 h => ?_)
          · refine g_istore_n (pn := 31) (lv' := [(3, .int v1), (0, .ref (X.2.2.2.1 0)), (2, .int a2)]) K rfl dX8_good_30 rfl (Nat.le_of_ble_eq_true rfl) rfl ?_
            refine g_aload_n (pn := 32) K rfl 1 rfl dX8_good_31 ?_
            refine g_getr (pn := 35) (j := 40) K rfl fl_X8_61 lx_0 rfl dX8_good_32 ?_
            obtain ⟨M4, hc3, h⟩ := ob_e h
            refine g_callV0 (pn := 38) (As := []) (rest := []) (a := 40) K rfl (d' := 0) (Nat.le_of_ble_eq_true rfl) mv_X8_231 (recvO K lx_40 rfl) (w_f_Pick_clear hc3) rfl rfl (Nat.le_of_ble_eq_true rfl) dX8_good_35 ?_
            refine g_iconst (pn := 39) (v := 0) K rfl ic_0 dX8_good_38 ?_
            refine g_istore (pn := 41) (lv' := [(4, .int 0), (3, .int v1), (0, .ref (X.2.2.2.1 0)), (2, .int a2)]) K rfl dX8_good_39 (Nat.le_of_ble_eq_true rfl) rfl ?_
            refine jp_e1 h (fun M5 => G layX X Γ 5 (QM layX X Γ (some (.int r)) M') 87 [(0, .ref (X.2.2.2.1 0)), (2, .int a2)] [] M5) (fun M5 h => ?_) (fun j6 hj6 h => ?_)
            · refine g_iload_n (pn := 88) K rfl 1 rfl dX8_good_87 ?_
              rcases Decidable.em (a2 = 0) with hs | hs0
              · replace h := (ite_e h).1 hs
                refine g_lsw (tgt := 116) (off := 28) K (lsw_t hs (by decide)) (by decide) (by decide) dX8_good_88 ?_
                refine g_aload_n (pn := 117) K rfl 0 rfl dX8_good_116 ?_
                refine g_getr (pn := 120) (j := 40) K rfl fl_X8_61 lx_0 rfl dX8_good_117 ?_
                refine g_geti (pn := 123) K rfl fl_X8_246 lx_40 rfl dX8_good_120 ?_
                exact g_iret K dX8_good_123 (oi2 h).2 (oi2 h).1
              · replace h := (ite_e h).2 hs0
                rcases Decidable.em (a2 = 1) with hs | hs1
                · replace h := (ite_e h).1 hs
                  refine g_lsw (tgt := 124) (off := 36) K (lsw_f hs0 (by decide) (lsw_t hs (by decide))) (by decide) (by decide) dX8_good_88 ?_
                  refine g_aload_n (pn := 125) K rfl 0 rfl dX8_good_124 ?_
                  refine g_getr (pn := 128) (j := 40) K rfl fl_X8_61 lx_0 rfl dX8_good_125 ?_
                  refine g_geti (pn := 131) K rfl fl_X8_242 lx_40 rfl dX8_good_128 ?_
                  exact g_iret K dX8_good_131 (oi2 h).2 (oi2 h).1
                · replace h := (ite_e h).2 hs1
                  refine g_lsw (tgt := 132) K (lsw_f hs0 (by decide) (lsw_f hs1 (by decide) (lsw_0 _ _))) (by decide) (by decide) dX8_good_88 ?_
                  refine g_aload_n (pn := 133) K rfl 0 rfl dX8_good_132 ?_
                  refine g_getr (pn := 136) (j := 40) K rfl fl_X8_61 lx_0 rfl dX8_good_133 ?_
                  refine g_geti (pn := 139) K rfl fl_X8_243 lx_40 rfl dX8_good_136 ?_
                  exact g_iret K dX8_good_139 (oi2 h).2 (oi2 h).1
            have LP41 : ∀ (fu9 : Nat) (v7 : Int32) (M8 : Mem), x_good_L41 v1 j6 fu9 v7 M8 = some (M', r) → G layX X Γ 5 (QM layX X Γ (some (.int r)) M') 41 [(3, .int v1), (0, .ref (X.2.2.2.1 0)), (2, .int a2), (4, .int v7)] [] M8 := by
              intro fu9
              induction fu9 with
              | zero =>
                intro v7 M8 h
                rw [x_good_L41] at h
                cases h
              | succ fu9 ih9 =>
                intro v7 M8 h
                rw [x_good_L41] at h
                refine g_iload (pn := 43) K rfl 3 rfl dX8_good_41 ?_
                refine g_gets (pn := 46) (j := 1) K rfl (by decide) fs_X8_96 dX8_good_43 ?_
                refine g_iload_n (pn := 47) K rfl 0 rfl dX8_good_46 ?_
                refine g_tald (pn := 48) (n := 9) K rfl (by decide) rfl dX8_good_47 h (fun h => ?_)
                refine g_icmp_gt (tgt := 87) (pn := 51) K rfl (by decide) dX8_good_48 h (fun h => ?_) (fun h => ?_)
                · refine g_sub [1, 2] rfl ?_
                  exact hj6 _ h
                · refine g_aload_n (pn := 52) K rfl 1 rfl dX8_good_51 ?_
                  refine g_iload_n (pn := 53) K rfl 0 rfl dX8_good_52 ?_
                  refine g_iload (pn := 55) K rfl 3 rfl dX8_good_53 ?_
                  obtain ⟨M11, hc10, h⟩ := ob_e h
                  refine g_callV0 (pn := 58) (As := [.int v1, .int v7]) (rest := []) (a := 0) K rfl (d' := 5) (Nat.le_of_ble_eq_true rfl) mv_X8_249 (recvO K lx_0 rfl) (w_x_liveWith hc10) rfl rfl (Nat.le_of_ble_eq_true rfl) dX8_good_55 ?_
                  refine g_aload_n (pn := 59) K rfl 1 rfl dX8_good_58 ?_
                  refine g_getr (pn := 62) (j := 40) K rfl fl_X8_61 lx_0 rfl dX8_good_59 ?_
                  refine g_iload (pn := 64) K rfl 3 rfl dX8_good_62 ?_
                  refine g_aload_n (pn := 65) K rfl 1 rfl dX8_good_64 ?_
                  refine g_getr (pn := 68) (j := 23) K rfl fl_X8_54 lx_0 rfl dX8_good_65 ?_
                  refine g_geti (pn := 71) K rfl fl_X8_194 lx_23 rfl dX8_good_68 ?_
                  refine g_aload_n (pn := 72) K rfl 1 rfl dX8_good_71 ?_
                  refine g_getr (pn := 75) (j := 23) K rfl fl_X8_54 lx_0 rfl dX8_good_72 ?_
                  refine g_geti (pn := 78) K rfl fl_X8_197 lx_23 rfl dX8_good_75 ?_
                  obtain ⟨M13, hc12, h⟩ := ob_e h
                  refine g_callV0 (pn := 81) (As := [.int v7, .int (M11 23 16), .int (M11 23 14)]) (rest := []) (a := 40) K rfl (d' := 0) (Nat.le_of_ble_eq_true rfl) mv_X8_235 (recvO K lx_40 rfl) (w_f_Pick_offer hc12) rfl rfl (Nat.le_of_ble_eq_true rfl) dX8_good_78 ?_
                  obtain ⟨v14, ev14, h⟩ := bnd_e h
                  refine g_iinc (pn := 84) (v := v14) (lv' := [(4, .int v14), (3, .int v1), (0, .ref (X.2.2.2.1 0)), (2, .int a2)]) K rfl 3 rfl ii_1 ev14 dX8_good_81 (Nat.le_of_ble_eq_true rfl) rfl ?_
                  refine g_goto (tgt := 41) K (by decide) dX8_good_84 ?_
                  refine g_sub [1, 2, 3, 0] rfl ?_
                  exact ih9 _ _ h
            refine g_sub [1, 2, 3, 0] rfl ?_
            exact LP41 FU _ _ h
          refine g_if_ne (tgt := 29) (pn := 25) K rfl (by decide) dX8_good_22 h (fun h => ?_) (fun h => ?_)
          · refine g_iconst (pn := 30) (v := 5) K rfl ic_5 dX8_good_29 ?_
            refine g_sub [0, 2] rfl ?_
            exact hj2 _ h
          · refine g_iconst (pn := 26) (v := 4) K rfl ic_4 dX8_good_25 ?_
            refine g_goto (tgt := 30) K (by decide) dX8_good_26 ?_
            refine g_sub [0, 2] rfl ?_
            exact hj2 _ h
        · refine g_bipush (pn := 20) (v := (-2)) K rfl bp_m2 dX8_good_18 ?_
          exact g_iret K dX8_good_20 (oi2 h).2 (oi2 h).1
set_option maxHeartbeats 4000000 in
set_option maxRecDepth 20000 in
theorem w_x_wetting {X : XT} {M : Mem} {a1 : Int32} {a2 : Int32} {M' : Mem} {r : Int32}   (h : x_wetting M a1 a2 = some (M', r)) : CT layX X 5 yX8_wetting cX8_wetting 4 (some .int) [.ref (X.2.2.2.1 0), .int a1, .int a2] M M' (some (.int r)) := by
  refine CT.of rfl (Nat.le_of_ble_eq_true rfl) (lv := [(0, .ref (X.2.2.2.1 0)), (1, .int a1), (2, .int a2)]) rfl (fun Γ K => ?_)
  have K : Kx layX X Γ RX8 cX8_wetting 4 5 (some .int) := K
  unfold x_wetting at h
  refine g_iload_n (pn := 1) K rfl 1 rfl dX8_wetting_0 ?_
  refine g_if_lt (tgt := 19) (pn := 4) K rfl (by decide) dX8_wetting_1 h (fun h => ?_) (fun h => ?_)
  · refine g_bipush (pn := 21) (v := (-2)) K rfl bp_m2 dX8_wetting_19 ?_
    exact g_iret K dX8_wetting_21 (oi2 h).2 (oi2 h).1
  · refine g_iload_n (pn := 5) K rfl 1 rfl dX8_wetting_4 ?_
    refine g_bipush (pn := 7) (v := 99) K rfl bp_99 dX8_wetting_5 ?_
    refine g_icmp_gt (tgt := 19) (pn := 10) K rfl (by decide) dX8_wetting_7 h (fun h => ?_) (fun h => ?_)
    · refine g_bipush (pn := 21) (v := (-2)) K rfl bp_m2 dX8_wetting_19 ?_
      exact g_iret K dX8_wetting_21 (oi2 h).2 (oi2 h).1
    · refine g_iload_n (pn := 11) K rfl 2 rfl dX8_wetting_10 ?_
      refine g_if_lt (tgt := 19) (pn := 14) K rfl (by decide) dX8_wetting_11 h (fun h => ?_) (fun h => ?_)
      · refine g_bipush (pn := 21) (v := (-2)) K rfl bp_m2 dX8_wetting_19 ?_
        exact g_iret K dX8_wetting_21 (oi2 h).2 (oi2 h).1
      · refine g_iload_n (pn := 15) K rfl 2 rfl dX8_wetting_14 ?_
        refine g_iconst (pn := 16) (v := 1) K rfl ic_1 dX8_wetting_15 ?_
        refine g_icmp_le (tgt := 22) (pn := 19) K rfl (by decide) dX8_wetting_16 h (fun h => ?_) (fun h => ?_)
        · refine g_aload_n (pn := 23) K rfl 0 rfl dX8_wetting_22 ?_
          refine g_getr (pn := 26) (j := 40) K rfl fl_X8_61 lx_0 rfl dX8_wetting_23 ?_
          obtain ⟨M2, hc1, h⟩ := ob_e h
          refine g_callV0 (pn := 29) (As := []) (rest := []) (a := 40) K rfl (d' := 0) (Nat.le_of_ble_eq_true rfl) mv_X8_231 (recvO K lx_40 rfl) (w_f_Pick_clear hc1) rfl rfl (Nat.le_of_ble_eq_true rfl) dX8_wetting_26 ?_
          refine g_iconst (pn := 30) (v := 0) K rfl ic_0 dX8_wetting_29 ?_
          refine g_istore_n (pn := 31) (lv' := [(3, .int 0), (0, .ref (X.2.2.2.1 0)), (1, .int a1), (2, .int a2)]) K rfl dX8_wetting_30 rfl (Nat.le_of_ble_eq_true rfl) rfl ?_
          refine jp_e1 h (fun M3 => G layX X Γ 4 (QM layX X Γ (some (.int r)) M') 102 [(0, .ref (X.2.2.2.1 0)), (2, .int a2)] [] M3) (fun M3 h => ?_) (fun j4 hj4 h => ?_)
          · refine g_iload_n (pn := 103) K rfl 1 rfl dX8_wetting_102 ?_
            refine g_if_ne (tgt := 116) (pn := 106) K rfl (by decide) dX8_wetting_103 h (fun h => ?_) (fun h => ?_)
            · refine g_aload_n (pn := 117) K rfl 0 rfl dX8_wetting_116 ?_
              refine g_getr (pn := 120) (j := 40) K rfl fl_X8_61 lx_0 rfl dX8_wetting_117 ?_
              refine g_geti (pn := 123) K rfl fl_X8_242 lx_40 rfl dX8_wetting_120 ?_
              exact g_iret K dX8_wetting_123 (oi2 h).2 (oi2 h).1
            · refine g_aload_n (pn := 107) K rfl 0 rfl dX8_wetting_106 ?_
              refine g_getr (pn := 110) (j := 40) K rfl fl_X8_61 lx_0 rfl dX8_wetting_107 ?_
              refine g_geti (pn := 113) K rfl fl_X8_246 lx_40 rfl dX8_wetting_110 ?_
              refine g_goto (tgt := 123) K (by decide) dX8_wetting_113 ?_
              exact g_iret K dX8_wetting_123 (oi2 h).2 (oi2 h).1
          have LP31 : ∀ (fu7 : Nat) (v5 : Int32) (M6 : Mem), x_wetting_L31 a1 j4 fu7 v5 M6 = some (M', r) → G layX X Γ 4 (QM layX X Γ (some (.int r)) M') 31 [(0, .ref (X.2.2.2.1 0)), (1, .int a1), (2, .int a2), (3, .int v5)] [] M6 := by
            intro fu7
            induction fu7 with
            | zero =>
              intro v5 M6 h
              rw [x_wetting_L31] at h
              cases h
            | succ fu7 ih7 =>
              intro v5 M6 h
              rw [x_wetting_L31] at h
              refine g_iload_n (pn := 32) K rfl 3 rfl dX8_wetting_31 ?_
              refine g_iconst (pn := 33) (v := 1) K rfl ic_1 dX8_wetting_32 ?_
              refine g_aload_n (pn := 34) K rfl 0 rfl dX8_wetting_33 ?_
              refine g_getr (pn := 37) (j := 1) K rfl fl_X8_10 lx_0 rfl dX8_wetting_34 ?_
              refine g_geti (pn := 40) K rfl fl_X8_186 lx_1 rfl dX8_wetting_37 ?_
              refine g_ishl (pn := 41) K rfl dX8_wetting_40 ?_
              refine g_icmp_ge (tgt := 102) (pn := 44) K rfl (by decide) dX8_wetting_41 h (fun h => ?_) (fun h => ?_)
              · refine g_sub [0, 2] rfl ?_
                exact hj4 _ h
              · refine g_aload_n (pn := 45) K rfl 0 rfl dX8_wetting_44 ?_
                obtain ⟨M9, hc8, h⟩ := ob_e h
                refine g_callV0 (pn := 48) (As := []) (rest := []) (a := 0) K rfl (d' := 1) (Nat.le_of_ble_eq_true rfl) mv_X8_129 (recvO K lx_0 rfl) (w_x_startTrial hc8) rfl rfl (Nat.le_of_ble_eq_true rfl) dX8_wetting_45 ?_
                refine g_aload_n (pn := 49) K rfl 0 rfl dX8_wetting_48 ?_
                refine g_getr (pn := 52) (j := 23) K rfl fl_X8_54 lx_0 rfl dX8_wetting_49 ?_
                refine g_getr (pn := 55) (j := 24) K rfl fl_X8_224 lx_23 rfl dX8_wetting_52 ?_
                refine g_iload_n (pn := 56) K rfl 3 rfl dX8_wetting_55 ?_
                obtain ⟨M11, hc10, h⟩ := ob_e h
                refine g_callV0 (pn := 59) (As := [.int v5]) (rest := []) (a := 24) K rfl (d' := 0) (Nat.le_of_ble_eq_true rfl) mv_X8_252 (recvO K lx_24 rfl) (w_f_Site_wetJust (Or.inr (Or.inr rfl)) hc10) rfl rfl (Nat.le_of_ble_eq_true rfl) dX8_wetting_56 ?_
                refine g_aload_n (pn := 60) K rfl 0 rfl dX8_wetting_59 ?_
                refine g_getr (pn := 63) (j := 23) K rfl fl_X8_54 lx_0 rfl dX8_wetting_60 ?_
                obtain ⟨M13, hc12, h⟩ := ob_e h
                refine g_callV0 (pn := 66) (As := []) (rest := []) (a := 23) K rfl (d' := 3) (Nat.le_of_ble_eq_true rfl) mv_X8_132 (recvO K lx_23 rfl) (w_f_Day_reckon hc12) rfl rfl (Nat.le_of_ble_eq_true rfl) dX8_wetting_63 ?_
                refine g_aload_n (pn := 67) K rfl 0 rfl dX8_wetting_66 ?_
                refine g_getr (pn := 70) (j := 23) K rfl fl_X8_54 lx_0 rfl dX8_wetting_67 ?_
                obtain ⟨M15, hc14, h⟩ := ob_e h
                refine g_callV0 (pn := 73) (As := []) (rest := []) (a := 23) K rfl (d' := 4) (Nat.le_of_ble_eq_true rfl) mv_X8_165 (recvO K lx_23 rfl) (w_f_Day_live hc14) rfl rfl (Nat.le_of_ble_eq_true rfl) dX8_wetting_70 ?_
                refine g_aload_n (pn := 74) K rfl 0 rfl dX8_wetting_73 ?_
                refine g_getr (pn := 77) (j := 40) K rfl fl_X8_61 lx_0 rfl dX8_wetting_74 ?_
                refine g_iload_n (pn := 78) K rfl 3 rfl dX8_wetting_77 ?_
                refine g_aload_n (pn := 79) K rfl 0 rfl dX8_wetting_78 ?_
                refine g_getr (pn := 82) (j := 23) K rfl fl_X8_54 lx_0 rfl dX8_wetting_79 ?_
                refine g_geti (pn := 85) K rfl fl_X8_194 lx_23 rfl dX8_wetting_82 ?_
                refine g_iload_n (pn := 86) K rfl 1 rfl dX8_wetting_85 ?_
                refine g_iload_n (pn := 87) K rfl 3 rfl dX8_wetting_86 ?_
                obtain ⟨v17, hc16, h⟩ := ob_e h
                refine g_callS1 (pn := 90) (As := [.int v5]) (rest := [.int a1, .int (M15 23 16), .int v5, .ref (X.2.2.2.1 40)]) K rfl (d' := 0) (Nat.le_of_ble_eq_true rfl) ms_X8_256 (w_f_JI_bitCount1 hc16) rfl rfl (Nat.le_of_ble_eq_true rfl) dX8_wetting_87 ?_
                refine g_imul (pn := 91) K rfl dX8_wetting_90 ?_
                refine g_iadd (pn := 92) K rfl dX8_wetting_91 ?_
                refine g_iconst (pn := 93) (v := 0) K rfl ic_0 dX8_wetting_92 ?_
                obtain ⟨M19, hc18, h⟩ := ob_e h
                refine g_callV0 (pn := 96) (As := [.int v5, .int ((M15 23 16) + (a1 * v17)), .int 0]) (rest := []) (a := 40) K rfl (d' := 0) (Nat.le_of_ble_eq_true rfl) mv_X8_235 (recvO K lx_40 rfl) (w_f_Pick_offer hc18) rfl rfl (Nat.le_of_ble_eq_true rfl) dX8_wetting_93 ?_
                obtain ⟨v20, ev20, h⟩ := bnd_e h
                refine g_iinc (pn := 99) (v := v20) (lv' := [(3, .int v20), (0, .ref (X.2.2.2.1 0)), (1, .int a1), (2, .int a2)]) K rfl 3 rfl ii_1 ev20 dX8_wetting_96 (Nat.le_of_ble_eq_true rfl) rfl ?_
                refine g_goto (tgt := 31) K (by decide) dX8_wetting_99 ?_
                refine g_sub [1, 2, 3, 0] rfl ?_
                exact ih7 _ _ h
          refine g_sub [1, 2, 3, 0] rfl ?_
          exact LP31 FU _ _ h
        · refine g_bipush (pn := 21) (v := (-2)) K rfl bp_m2 dX8_wetting_19 ?_
          exact g_iret K dX8_wetting_21 (oi2 h).2 (oi2 h).1
set_option maxHeartbeats 4000000 in
set_option maxRecDepth 20000 in
theorem w_x_alone {X : XT} {M : Mem}  {M' : Mem} {r : Int32}   (h : x_alone M = some (M', r)) : CT layX X 5 yX8_alone cX8_alone 2 (some .int) [.ref (X.2.2.2.1 0)] M M' (some (.int r)) := by
  refine CT.of rfl (Nat.le_of_ble_eq_true rfl) (lv := [(0, .ref (X.2.2.2.1 0))]) rfl (fun Γ K => ?_)
  have K : Kx layX X Γ RX8 cX8_alone 2 5 (some .int) := K
  unfold x_alone at h
  refine g_aload_n (pn := 1) K rfl 0 rfl dX8_alone_0 ?_
  refine g_getr (pn := 4) (j := 1) K rfl fl_X8_10 lx_0 rfl dX8_alone_1 ?_
  refine g_geti (pn := 7) K rfl fl_X8_186 lx_1 rfl dX8_alone_4 ?_
  refine g_nmi h (fun v1 h => ?_)
  refine g_istore_n (pn := 8) (lv' := [(1, .int v1), (0, .ref (X.2.2.2.1 0))]) K rfl dX8_alone_7 rfl (Nat.le_of_ble_eq_true rfl) rfl ?_
  refine jp_e1 h (fun M2 => G layX X Γ 2 (QM layX X Γ (some (.int r)) M') 59 [] [] M2) (fun M2 h => ?_) (fun j3 hj3 h => ?_)
  · refine g_iconst (pn := 60) (v := 0) K rfl ic_0 dX8_alone_59 ?_
    exact g_iret K dX8_alone_60 (oi2 h).2 (oi2 h).1
  have LP8 : ∀ (fu6 : Nat) (v4 : Int32) (M5 : Mem), x_alone_L8 j3 fu6 v4 M5 = some (M', r) → G layX X Γ 2 (QM layX X Γ (some (.int r)) M') 8 [(0, .ref (X.2.2.2.1 0)), (1, .int v4)] [] M5 := by
    intro fu6
    induction fu6 with
    | zero =>
      intro v4 M5 h
      rw [x_alone_L8] at h
      cases h
    | succ fu6 ih6 =>
      intro v4 M5 h
      rw [x_alone_L8] at h
      refine g_iload_n (pn := 9) K rfl 1 rfl dX8_alone_8 ?_
      refine g_if_le (tgt := 59) (pn := 12) K rfl (by decide) dX8_alone_9 h (fun h => ?_) (fun h => ?_)
      · refine g_sub [] rfl ?_
        exact hj3 _ h
      · refine g_aload_n (pn := 13) K rfl 0 rfl dX8_alone_12 ?_
        obtain ⟨M8, hc7, h⟩ := ob_e h
        refine g_callV0 (pn := 16) (As := []) (rest := []) (a := 0) K rfl (d' := 1) (Nat.le_of_ble_eq_true rfl) mv_X8_129 (recvO K lx_0 rfl) (w_x_startTrial hc7) rfl rfl (Nat.le_of_ble_eq_true rfl) dX8_alone_13 ?_
        refine g_aload_n (pn := 17) K rfl 0 rfl dX8_alone_16 ?_
        refine g_getr (pn := 20) (j := 23) K rfl fl_X8_54 lx_0 rfl dX8_alone_17 ?_
        refine g_getr (pn := 23) (j := 24) K rfl fl_X8_224 lx_23 rfl dX8_alone_20 ?_
        refine g_iload_n (pn := 24) K rfl 1 rfl dX8_alone_23 ?_
        refine g_puti (pn := 27) K rfl fp_X8_186 lx_24 rfl dX8_alone_24 h (fun M9 h => ?_)
        refine g_aload_n (pn := 28) K rfl 0 rfl dX8_alone_27 ?_
        refine g_getr (pn := 31) (j := 23) K rfl fl_X8_54 lx_0 rfl dX8_alone_28 ?_
        obtain ⟨M11, hc10, h⟩ := ob_e h
        refine g_callV0 (pn := 34) (As := []) (rest := []) (a := 23) K rfl (d' := 3) (Nat.le_of_ble_eq_true rfl) mv_X8_132 (recvO K lx_23 rfl) (w_f_Day_reckon hc10) rfl rfl (Nat.le_of_ble_eq_true rfl) dX8_alone_31 ?_
        refine g_aload_n (pn := 35) K rfl 0 rfl dX8_alone_34 ?_
        refine g_getr (pn := 38) (j := 23) K rfl fl_X8_54 lx_0 rfl dX8_alone_35 ?_
        obtain ⟨M13, hc12, h⟩ := ob_e h
        refine g_callV0 (pn := 41) (As := []) (rest := []) (a := 23) K rfl (d' := 4) (Nat.le_of_ble_eq_true rfl) mv_X8_165 (recvO K lx_23 rfl) (w_f_Day_live hc12) rfl rfl (Nat.le_of_ble_eq_true rfl) dX8_alone_38 ?_
        refine g_aload_n (pn := 42) K rfl 0 rfl dX8_alone_41 ?_
        refine g_getr (pn := 45) (j := 23) K rfl fl_X8_54 lx_0 rfl dX8_alone_42 ?_
        refine g_geti (pn := 48) K rfl fl_X8_194 lx_23 rfl dX8_alone_45 ?_
        refine g_if_ne (tgt := 53) (pn := 51) K rfl (by decide) dX8_alone_48 h (fun h => ?_) (fun h => ?_)
        · obtain ⟨v14, ev14, h⟩ := bnd_e h
          refine g_iinc (pn := 56) (v := v14) (lv' := [(1, .int v14), (0, .ref (X.2.2.2.1 0))]) K rfl 1 rfl ii_m1 ev14 dX8_alone_53 (Nat.le_of_ble_eq_true rfl) rfl ?_
          refine g_goto (tgt := 8) K (by decide) dX8_alone_56 ?_
          refine g_sub [1, 0] rfl ?_
          exact ih6 _ _ h
        · refine g_iload_n (pn := 52) K rfl 1 rfl dX8_alone_51 ?_
          exact g_iret K dX8_alone_52 (oi2 h).2 (oi2 h).1
  refine g_sub [1, 0] rfl ?_
  exact LP8 FU _ _ h
set_option maxHeartbeats 4000000 in
set_option maxRecDepth 20000 in
theorem w_x_tooWarm {X : XT} {M : Mem}  {M' : Mem} {r : Int32}   (h : x_tooWarm M = some (M', r)) : CT layX X 6 yX8_tooWarm cX8_tooWarm 3 (some .int) [.ref (X.2.2.2.1 0)] M M' (some (.int r)) := by
  refine CT.of rfl (Nat.le_of_ble_eq_true rfl) (lv := [(0, .ref (X.2.2.2.1 0))]) rfl (fun Γ K => ?_)
  have K : Kx layX X Γ RX8 cX8_tooWarm 3 6 (some .int) := K
  unfold x_tooWarm at h
  refine g_iconst (pn := 1) (v := (-1)) K rfl ic_m1 dX8_tooWarm_0 ?_
  refine g_istore_n (pn := 2) (lv' := [(1, .int (-1)), (0, .ref (X.2.2.2.1 0))]) K rfl dX8_tooWarm_1 rfl (Nat.le_of_ble_eq_true rfl) rfl ?_
  refine g_gets (pn := 5) (j := 1) K rfl (by decide) fs_X8_96 dX8_tooWarm_2 ?_
  refine g_iconst (pn := 6) (v := 0) K rfl ic_0 dX8_tooWarm_5 ?_
  refine g_tald (pn := 7) (n := 9) K rfl (by decide) rfl dX8_tooWarm_6 h (fun h => ?_)
  refine g_nmi h (fun v1 h => ?_)
  refine g_istore_n (pn := 8) (lv' := [(2, .int v1), (1, .int (-1)), (0, .ref (X.2.2.2.1 0))]) K rfl dX8_tooWarm_7 rfl (Nat.le_of_ble_eq_true rfl) rfl ?_
  refine jp_e2 h (fun v2 M3 => G layX X Γ 3 (QM layX X Γ (some (.int r)) M') 38 [(1, .int v2)] [] M3) (fun v2 M3 h => ?_) (fun j4 hj4 h => ?_)
  · refine g_iload_n (pn := 39) K rfl 0 rfl dX8_tooWarm_38 ?_
    exact g_iret K dX8_tooWarm_39 (oi2 h).2 (oi2 h).1
  have LP8 : ∀ (fu8 : Nat) (v5 : Int32) (v6 : Int32) (M7 : Mem), x_tooWarm_L8 j4 fu8 v5 v6 M7 = some (M', r) → G layX X Γ 3 (QM layX X Γ (some (.int r)) M') 8 [(0, .ref (X.2.2.2.1 0)), (1, .int v5), (2, .int v6)] [] M7 := by
    intro fu8
    induction fu8 with
    | zero =>
      intro v5 v6 M7 h
      rw [x_tooWarm_L8] at h
      cases h
    | succ fu8 ih8 =>
      intro v5 v6 M7 h
      rw [x_tooWarm_L8] at h
      refine g_iload_n (pn := 9) K rfl 2 rfl dX8_tooWarm_8 ?_
      refine g_if_lt (tgt := 38) (pn := 12) K rfl (by decide) dX8_tooWarm_9 h (fun h => ?_) (fun h => ?_)
      · refine g_sub [1] rfl ?_
        exact hj4 _ _ h
      · refine g_aload_n (pn := 13) K rfl 0 rfl dX8_tooWarm_12 ?_
        refine g_iconst (pn := 14) (v := 0) K rfl ic_0 dX8_tooWarm_13 ?_
        refine g_iload_n (pn := 15) K rfl 2 rfl dX8_tooWarm_14 ?_
        obtain ⟨M10, hc9, h⟩ := ob_e h
        refine g_callV0 (pn := 18) (As := [.int 0, .int v6]) (rest := []) (a := 0) K rfl (d' := 5) (Nat.le_of_ble_eq_true rfl) mv_X8_249 (recvO K lx_0 rfl) (w_x_liveWith hc9) rfl rfl (Nat.le_of_ble_eq_true rfl) dX8_tooWarm_15 ?_
        refine g_aload_n (pn := 19) K rfl 0 rfl dX8_tooWarm_18 ?_
        refine g_getr (pn := 22) (j := 23) K rfl fl_X8_54 lx_0 rfl dX8_tooWarm_19 ?_
        obtain ⟨v12, hc11, h⟩ := ob_e h
        refine g_callV1 (pn := 25) (As := []) (rest := []) (a := 23) K rfl (d' := 0) (Nat.le_of_ble_eq_true rfl) mv_X8_203 (recvO K lx_23 rfl) (w_f_Day_late hc11) rfl rfl (Nat.le_of_ble_eq_true rfl) dX8_tooWarm_22 ?_
        refine g_if_ne (tgt := 30) (pn := 28) K rfl (by decide) dX8_tooWarm_25 h (fun h => ?_) (fun h => ?_)
        · refine g_iload_n (pn := 31) K rfl 2 rfl dX8_tooWarm_30 ?_
          refine g_istore_n (pn := 32) (lv' := [(1, .int v6), (0, .ref (X.2.2.2.1 0)), (2, .int v6)]) K rfl dX8_tooWarm_31 rfl (Nat.le_of_ble_eq_true rfl) rfl ?_
          obtain ⟨v13, ev13, h⟩ := bnd_e h
          refine g_iinc (pn := 35) (v := v13) (lv' := [(2, .int v13), (1, .int v6), (0, .ref (X.2.2.2.1 0))]) K rfl 2 rfl ii_m1 ev13 dX8_tooWarm_32 (Nat.le_of_ble_eq_true rfl) rfl ?_
          refine g_goto (tgt := 8) K (by decide) dX8_tooWarm_35 ?_
          refine g_sub [2, 1, 0] rfl ?_
          exact ih8 _ _ _ h
        · refine g_iload_n (pn := 29) K rfl 1 rfl dX8_tooWarm_28 ?_
          exact g_iret K dX8_tooWarm_29 (oi2 h).2 (oi2 h).1
  refine g_sub [2, 1, 0] rfl ?_
  exact LP8 FU _ _ _ h
set_option maxHeartbeats 4000000 in
set_option maxRecDepth 20000 in
theorem w_x_gains {X : XT} {M : Mem} {a1 : Int32} {M' : Mem} {r : Int32}   (h : x_gains M a1 = some (M', r)) : CT layX X 6 yX8_gains cX8_gains 4 (some .int) [.ref (X.2.2.2.1 0), .int a1] M M' (some (.int r)) := by
  refine CT.of rfl (Nat.le_of_ble_eq_true rfl) (lv := [(0, .ref (X.2.2.2.1 0)), (1, .int a1)]) rfl (fun Γ K => ?_)
  have K : Kx layX X Γ RX8 cX8_gains 4 6 (some .int) := K
  unfold x_gains at h
  refine g_iload_n (pn := 1) K rfl 1 rfl dX8_gains_0 ?_
  rcases Decidable.em (a1 = 0) with hs | hs0
  · replace h := (ite_e h).1 hs
    refine g_lsw (tgt := 28) (off := 27) K (lsw_t hs (by decide)) (by decide) (by decide) dX8_gains_1 ?_
    refine g_aload_n (pn := 29) K rfl 0 rfl dX8_gains_28 ?_
    refine g_iconst (pn := 30) (v := 2) K rfl ic_2 dX8_gains_29 ?_
    refine g_gets (pn := 33) (j := 1) K rfl (by decide) fs_X8_96 dX8_gains_30 ?_
    refine g_iconst (pn := 34) (v := 2) K rfl ic_2 dX8_gains_33 ?_
    refine g_tald (pn := 35) (n := 9) K rfl (by decide) rfl dX8_gains_34 h (fun h => ?_)
    obtain ⟨M2, hc1, h⟩ := ob_e h
    refine g_callV0 (pn := 38) (As := [.int 2, .int (tb 1 (2 : Int32).toNatClampNeg)]) (rest := []) (a := 0) K rfl (d' := 5) (Nat.le_of_ble_eq_true rfl) mv_X8_249 (recvO K lx_0 rfl) (w_x_liveWith hc1) rfl rfl (Nat.le_of_ble_eq_true rfl) dX8_gains_35 ?_
    refine g_aload_n (pn := 39) K rfl 0 rfl dX8_gains_38 ?_
    refine g_getr (pn := 42) (j := 23) K rfl fl_X8_54 lx_0 rfl dX8_gains_39 ?_
    refine g_geti (pn := 45) K rfl fl_X8_194 lx_23 rfl dX8_gains_42 ?_
    refine g_nmi h (fun v3 h => ?_)
    refine g_istore_n (pn := 46) (lv' := [(2, .int v3), (0, .ref (X.2.2.2.1 0)), (1, .int a1)]) K rfl dX8_gains_45 rfl (Nat.le_of_ble_eq_true rfl) rfl ?_
    refine g_aload_n (pn := 47) K rfl 1 rfl dX8_gains_46 ?_
    refine g_iconst (pn := 48) (v := 2) K rfl ic_2 dX8_gains_47 ?_
    refine g_gets (pn := 51) (j := 0) K rfl (by decide) fs_X8_92 dX8_gains_48 ?_
    refine g_iconst (pn := 52) (v := 2) K rfl ic_2 dX8_gains_51 ?_
    refine g_tald (pn := 53) (n := 9) K rfl (by decide) rfl dX8_gains_52 h (fun h => ?_)
    obtain ⟨M5, hc4, h⟩ := ob_e h
    refine g_callV0 (pn := 56) (As := [.int 2, .int (tb 0 (2 : Int32).toNatClampNeg)]) (rest := []) (a := 0) K rfl (d' := 5) (Nat.le_of_ble_eq_true rfl) mv_X8_249 (recvO K lx_0 rfl) (w_x_liveWith hc4) rfl rfl (Nat.le_of_ble_eq_true rfl) dX8_gains_53 ?_
    refine g_iload_n (pn := 57) K rfl 0 rfl dX8_gains_56 ?_
    refine g_aload_n (pn := 58) K rfl 1 rfl dX8_gains_57 ?_
    refine g_getr (pn := 61) (j := 23) K rfl fl_X8_54 lx_0 rfl dX8_gains_58 ?_
    refine g_geti (pn := 64) K rfl fl_X8_194 lx_23 rfl dX8_gains_61 ?_
    refine g_isub (pn := 65) K rfl dX8_gains_64 ?_
    exact g_iret K dX8_gains_65 (oi2 h).2 (oi2 h).1
  · replace h := (ite_e h).2 hs0
    rcases Decidable.em (a1 = 1) with hs | hs1
    · replace h := (ite_e h).1 hs
      refine g_lsw (tgt := 66) (off := 65) K (lsw_f hs0 (by decide) (lsw_t hs (by decide))) (by decide) (by decide) dX8_gains_1 ?_
      refine g_aload_n (pn := 67) K rfl 0 rfl dX8_gains_66 ?_
      refine g_iconst (pn := 68) (v := 3) K rfl ic_3 dX8_gains_67 ?_
      refine g_iconst (pn := 69) (v := 1) K rfl ic_1 dX8_gains_68 ?_
      obtain ⟨M7, hc6, h⟩ := ob_e h
      refine g_callV0 (pn := 72) (As := [.int 3, .int 1]) (rest := []) (a := 0) K rfl (d' := 5) (Nat.le_of_ble_eq_true rfl) mv_X8_249 (recvO K lx_0 rfl) (w_x_liveWith hc6) rfl rfl (Nat.le_of_ble_eq_true rfl) dX8_gains_69 ?_
      refine g_aload_n (pn := 73) K rfl 0 rfl dX8_gains_72 ?_
      refine g_getr (pn := 76) (j := 23) K rfl fl_X8_54 lx_0 rfl dX8_gains_73 ?_
      refine g_geti (pn := 79) K rfl fl_X8_197 lx_23 rfl dX8_gains_76 ?_
      refine g_nmi h (fun v8 h => ?_)
      refine g_istore_n (pn := 80) (lv' := [(3, .int v8), (0, .ref (X.2.2.2.1 0)), (1, .int a1)]) K rfl dX8_gains_79 rfl (Nat.le_of_ble_eq_true rfl) rfl ?_
      refine g_aload_n (pn := 81) K rfl 1 rfl dX8_gains_80 ?_
      refine g_iconst (pn := 82) (v := 3) K rfl ic_3 dX8_gains_81 ?_
      refine g_iconst (pn := 83) (v := 2) K rfl ic_2 dX8_gains_82 ?_
      obtain ⟨M10, hc9, h⟩ := ob_e h
      refine g_callV0 (pn := 86) (As := [.int 3, .int 2]) (rest := []) (a := 0) K rfl (d' := 5) (Nat.le_of_ble_eq_true rfl) mv_X8_249 (recvO K lx_0 rfl) (w_x_liveWith hc9) rfl rfl (Nat.le_of_ble_eq_true rfl) dX8_gains_83 ?_
      refine g_iload_n (pn := 87) K rfl 0 rfl dX8_gains_86 ?_
      refine g_aload_n (pn := 88) K rfl 1 rfl dX8_gains_87 ?_
      refine g_getr (pn := 91) (j := 23) K rfl fl_X8_54 lx_0 rfl dX8_gains_88 ?_
      refine g_geti (pn := 94) K rfl fl_X8_197 lx_23 rfl dX8_gains_91 ?_
      refine g_isub (pn := 95) K rfl dX8_gains_94 ?_
      exact g_iret K dX8_gains_95 (oi2 h).2 (oi2 h).1
    · replace h := (ite_e h).2 hs1
      refine g_lsw (tgt := 96) K (lsw_f hs0 (by decide) (lsw_f hs1 (by decide) (lsw_0 _ _))) (by decide) (by decide) dX8_gains_1 ?_
      refine g_ldc (pn := 98) (v := (-100000)) K rfl cn_X8_164 dX8_gains_96 ?_
      exact g_iret K dX8_gains_98 (oi2 h).2 (oi2 h).1
set_option maxHeartbeats 4000000 in
set_option maxRecDepth 20000 in
theorem w_x_buckets {X : XT} {M : Mem} {a1 : Int32} {a2 : Int32} {M' : Mem} {r : Int32}   (h : x_buckets M a1 a2 = some (M', r)) : CT layX X 5 yX8_buckets cX8_buckets 11 (some .int) [.ref (X.2.2.2.1 0), .int a1, .int a2] M M' (some (.int r)) := by
  refine CT.of rfl (Nat.le_of_ble_eq_true rfl) (lv := [(0, .ref (X.2.2.2.1 0)), (1, .int a1), (2, .int a2)]) rfl (fun Γ K => ?_)
  have K : Kx layX X Γ RX8 cX8_buckets 11 5 (some .int) := K
  unfold x_buckets at h
  refine g_iload_n (pn := 1) K rfl 1 rfl dX8_buckets_0 ?_
  refine g_iconst (pn := 2) (v := 1) K rfl ic_1 dX8_buckets_1 ?_
  refine g_icmp_lt (tgt := 20) (pn := 5) K rfl (by decide) dX8_buckets_2 h (fun h => ?_) (fun h => ?_)
  · refine g_bipush (pn := 22) (v := (-2)) K rfl bp_m2 dX8_buckets_20 ?_
    exact g_iret K dX8_buckets_22 (oi2 h).2 (oi2 h).1
  · refine g_iload_n (pn := 6) K rfl 1 rfl dX8_buckets_5 ?_
    refine g_bipush (pn := 8) (v := 40) K rfl bp_40 dX8_buckets_6 ?_
    refine g_icmp_gt (tgt := 20) (pn := 11) K rfl (by decide) dX8_buckets_8 h (fun h => ?_) (fun h => ?_)
    · refine g_bipush (pn := 22) (v := (-2)) K rfl bp_m2 dX8_buckets_20 ?_
      exact g_iret K dX8_buckets_22 (oi2 h).2 (oi2 h).1
    · refine g_iload_n (pn := 12) K rfl 2 rfl dX8_buckets_11 ?_
      refine g_if_lt (tgt := 20) (pn := 15) K rfl (by decide) dX8_buckets_12 h (fun h => ?_) (fun h => ?_)
      · refine g_bipush (pn := 22) (v := (-2)) K rfl bp_m2 dX8_buckets_20 ?_
        exact g_iret K dX8_buckets_22 (oi2 h).2 (oi2 h).1
      · refine g_iload_n (pn := 16) K rfl 2 rfl dX8_buckets_15 ?_
        refine g_iconst (pn := 17) (v := 1) K rfl ic_1 dX8_buckets_16 ?_
        refine g_icmp_le (tgt := 23) (pn := 20) K rfl (by decide) dX8_buckets_17 h (fun h => ?_) (fun h => ?_)
        · refine g_aload_n (pn := 24) K rfl 0 rfl dX8_buckets_23 ?_
          obtain ⟨M2, hc1, h⟩ := ob_e h
          refine g_callV0 (pn := 27) (As := []) (rest := []) (a := 0) K rfl (d' := 1) (Nat.le_of_ble_eq_true rfl) mv_X8_129 (recvO K lx_0 rfl) (w_x_startTrial hc1) rfl rfl (Nat.le_of_ble_eq_true rfl) dX8_buckets_24 ?_
          refine g_aload_n (pn := 28) K rfl 0 rfl dX8_buckets_27 ?_
          refine g_getr (pn := 31) (j := 23) K rfl fl_X8_54 lx_0 rfl dX8_buckets_28 ?_
          obtain ⟨M4, hc3, h⟩ := ob_e h
          refine g_callV0 (pn := 34) (As := []) (rest := []) (a := 23) K rfl (d' := 3) (Nat.le_of_ble_eq_true rfl) mv_X8_132 (recvO K lx_23 rfl) (w_f_Day_reckon hc3) rfl rfl (Nat.le_of_ble_eq_true rfl) dX8_buckets_31 ?_
          refine g_aload_n (pn := 35) K rfl 0 rfl dX8_buckets_34 ?_
          refine g_getr (pn := 38) (j := 23) K rfl fl_X8_54 lx_0 rfl dX8_buckets_35 ?_
          obtain ⟨M6, hc5, h⟩ := ob_e h
          refine g_callV0 (pn := 41) (As := []) (rest := []) (a := 23) K rfl (d' := 4) (Nat.le_of_ble_eq_true rfl) mv_X8_165 (recvO K lx_23 rfl) (w_f_Day_live hc5) rfl rfl (Nat.le_of_ble_eq_true rfl) dX8_buckets_38 ?_
          refine g_iconst (pn := 42) (v := 0) K rfl ic_0 dX8_buckets_41 ?_
          refine g_istore_n (pn := 43) (lv' := [(3, .int 0), (0, .ref (X.2.2.2.1 0)), (1, .int a1), (2, .int a2)]) K rfl dX8_buckets_42 rfl (Nat.le_of_ble_eq_true rfl) rfl ?_
          refine g_iconst (pn := 44) (v := 0) K rfl ic_0 dX8_buckets_43 ?_
          refine g_istore (pn := 46) (lv' := [(4, .int 0), (3, .int 0), (0, .ref (X.2.2.2.1 0)), (1, .int a1), (2, .int a2)]) K rfl dX8_buckets_44 (Nat.le_of_ble_eq_true rfl) rfl ?_
          refine g_iconst (pn := 47) (v := 0) K rfl ic_0 dX8_buckets_46 ?_
          refine g_istore (pn := 49) (lv' := [(5, .int 0), (4, .int 0), (3, .int 0), (0, .ref (X.2.2.2.1 0)), (1, .int a1), (2, .int a2)]) K rfl dX8_buckets_47 (Nat.le_of_ble_eq_true rfl) rfl ?_
          refine g_iconst (pn := 50) (v := 0) K rfl ic_0 dX8_buckets_49 ?_
          refine g_istore (pn := 52) (lv' := [(6, .int 0), (5, .int 0), (4, .int 0), (3, .int 0), (0, .ref (X.2.2.2.1 0)), (1, .int a1), (2, .int a2)]) K rfl dX8_buckets_50 (Nat.le_of_ble_eq_true rfl) rfl ?_
          refine g_iconst (pn := 53) (v := 0) K rfl ic_0 dX8_buckets_52 ?_
          refine g_istore (pn := 55) (lv' := [(7, .int 0), (6, .int 0), (5, .int 0), (4, .int 0), (3, .int 0), (0, .ref (X.2.2.2.1 0)), (1, .int a1), (2, .int a2)]) K rfl dX8_buckets_53 (Nat.le_of_ble_eq_true rfl) rfl ?_
          refine jp_e3 h (fun v7 v8 v9 => G layX X Γ 11 (QM layX X Γ (some (.int r)) M') 170 [(2, .int a2), (3, .int v7), (4, .int v8), (5, .int v9)] [] M6) (fun v7 v8 v9 h => ?_) (fun j10 hj10 h => ?_)
          · refine g_iload_n (pn := 171) K rfl 0 rfl dX8_buckets_170 ?_
            refine g_if_ne (tgt := 178) (pn := 174) K rfl (by decide) dX8_buckets_171 h (fun h => ?_) (fun h => ?_)
            · refine g_iload (pn := 180) K rfl 2 rfl dX8_buckets_178 ?_
              refine g_iload (pn := 182) K rfl 3 rfl dX8_buckets_180 ?_
              refine g_iadd (pn := 183) K rfl dX8_buckets_182 ?_
              exact g_iret K dX8_buckets_183 (oi2 h).2 (oi2 h).1
            · refine g_iload_n (pn := 175) K rfl 1 rfl dX8_buckets_174 ?_
              refine g_goto (tgt := 183) K (by decide) dX8_buckets_175 ?_
              exact g_iret K dX8_buckets_183 (oi2 h).2 (oi2 h).1
          have LP55 : ∀ (fu16 : Nat) (v11 : Int32) (v12 : Int32) (v13 : Int32) (v14 : Int32) (v15 : Int32), x_buckets_L55 a1 M6 j10 fu16 v11 v12 v13 v14 v15 = some (M', r) → G layX X Γ 11 (QM layX X Γ (some (.int r)) M') 55 [(0, .ref (X.2.2.2.1 0)), (1, .int a1), (2, .int a2), (3, .int v11), (4, .int v12), (5, .int v13), (6, .int v14), (7, .int v15)] [] M6 := by
            intro fu16
            induction fu16 with
            | zero =>
              intro v11 v12 v13 v14 v15 h
              rw [x_buckets_L55] at h
              cases h
            | succ fu16 ih16 =>
              intro v11 v12 v13 v14 v15 h
              rw [x_buckets_L55] at h
              refine g_iload (pn := 57) K rfl 7 rfl dX8_buckets_55 ?_
              refine g_aload_n (pn := 58) K rfl 0 rfl dX8_buckets_57 ?_
              refine g_getr (pn := 61) (j := 1) K rfl fl_X8_10 lx_0 rfl dX8_buckets_58 ?_
              refine g_geti (pn := 64) K rfl fl_X8_186 lx_1 rfl dX8_buckets_61 ?_
              refine g_icmp_ge (tgt := 170) (pn := 67) K rfl (by decide) dX8_buckets_64 h (fun h => ?_) (fun h => ?_)
              · refine g_sub [2, 3, 4, 5] rfl ?_
                exact hj10 _ _ _ h
              · refine g_aload_n (pn := 68) K rfl 0 rfl dX8_buckets_67 ?_
                refine g_getr (pn := 71) (j := 23) K rfl fl_X8_54 lx_0 rfl dX8_buckets_68 ?_
                refine g_getr (pn := 74) (j := 36) K rfl fl_X8_212 lx_23 rfl dX8_buckets_71 ?_
                refine g_iload (pn := 76) K rfl 7 rfl dX8_buckets_74 ?_
                refine g_iald (pn := 77) K rfl lx_36 dX8_buckets_76 h (fun h => ?_)
                refine g_nmi h (fun v17 h => ?_)
                refine g_istore (pn := 79) (lv' := [(8, .int v17), (0, .ref (X.2.2.2.1 0)), (1, .int a1), (2, .int a2), (3, .int v11), (4, .int v12), (5, .int v13), (6, .int v14), (7, .int v15)]) K rfl dX8_buckets_77 (Nat.le_of_ble_eq_true rfl) rfl ?_
                refine g_aload_n (pn := 80) K rfl 1 rfl dX8_buckets_79 ?_
                refine g_getr (pn := 83) (j := 1) K rfl fl_X8_10 lx_0 rfl dX8_buckets_80 ?_
                refine g_getr (pn := 86) (j := 5) K rfl fl_X8_119 lx_1 rfl dX8_buckets_83 ?_
                refine g_iload (pn := 88) K rfl 8 rfl dX8_buckets_86 ?_
                refine g_iald (pn := 89) K rfl lx_5 dX8_buckets_88 h (fun h => ?_)
                refine g_nmi h (fun v18 h => ?_)
                refine g_istore (pn := 91) (lv' := [(9, .int v18), (8, .int v17), (0, .ref (X.2.2.2.1 0)), (1, .int a1), (2, .int a2), (3, .int v11), (4, .int v12), (5, .int v13), (6, .int v14), (7, .int v15)]) K rfl dX8_buckets_89 (Nat.le_of_ble_eq_true rfl) rfl ?_
                refine g_iload (pn := 93) K rfl 1 rfl dX8_buckets_91 ?_
                refine g_iconst (pn := 94) (v := (-1)) K rfl ic_m1 dX8_buckets_93 ?_
                refine g_icmp_ne (tgt := 100) (pn := 97) K rfl (by decide) dX8_buckets_94 h (fun h => ?_) (fun h => ?_)
                · refine g_iload (pn := 102) K rfl 7 rfl dX8_buckets_100 ?_
                  refine g_iload (pn := 104) K rfl 0 rfl dX8_buckets_102 ?_
                  refine jp_e4 h (fun v19 v20 v21 v22 => G layX X Γ 11 (QM layX X Γ (some (.int r)) M') 157 [(9, .int v18), (0, .ref (X.2.2.2.1 0)), (1, .int a1), (2, .int a2), (7, .int v15), (3, .int v19), (4, .int v20), (5, .int v21), (6, .int v22)] [] M6) (fun v19 v20 v21 v22 h => ?_) (fun j23 hj23 h => ?_)
                  · refine g_iload (pn := 159) K rfl 7 rfl dX8_buckets_157 ?_
                    refine g_iload (pn := 161) K rfl 0 rfl dX8_buckets_159 ?_
                    refine g_isub (pn := 162) K rfl dX8_buckets_161 ?_
                    refine g_nmi h (fun v24 h => ?_)
                    refine g_istore (pn := 164) (lv' := [(5, .int v24), (9, .int v18), (0, .ref (X.2.2.2.1 0)), (1, .int a1), (2, .int a2), (7, .int v15), (3, .int v19), (4, .int v20), (6, .int v22)]) K rfl dX8_buckets_162 (Nat.le_of_ble_eq_true rfl) rfl ?_
                    obtain ⟨v25, ev25, h⟩ := bnd_e h
                    refine g_iinc (pn := 167) (v := v25) (lv' := [(7, .int v25), (5, .int v24), (9, .int v18), (0, .ref (X.2.2.2.1 0)), (1, .int a1), (2, .int a2), (3, .int v19), (4, .int v20), (6, .int v22)]) K rfl 5 rfl ii_1 ev25 dX8_buckets_164 (Nat.le_of_ble_eq_true rfl) rfl ?_
                    refine g_goto (tgt := 55) K (by decide) dX8_buckets_167 ?_
                    refine g_sub [3, 4, 5, 6, 7, 1, 8, 0] rfl ?_
                    exact ih16 _ _ _ _ _ h
                  refine jp_e1 h (fun u26 => G layX X Γ 11 (QM layX X Γ (some (.int r)) M') 125 [(9, .int v18), (8, .int v17), (0, .ref (X.2.2.2.1 0)), (1, .int a1), (2, .int a2), (3, .int v11), (4, .int v12), (5, .int v13), (7, .int v15)] [] M6) (fun u26 h => ?_) (fun j27 hj27 h => ?_)
                  · refine g_iload (pn := 127) K rfl 0 rfl dX8_buckets_125 ?_
                    refine g_iload_n (pn := 128) K rfl 3 rfl dX8_buckets_127 ?_
                    refine g_iadd (pn := 129) K rfl dX8_buckets_128 ?_
                    refine g_iconst (pn := 130) (v := 1) K rfl ic_1 dX8_buckets_129 ?_
                    refine g_isub (pn := 131) K rfl dX8_buckets_130 ?_
                    refine g_iload_n (pn := 132) K rfl 3 rfl dX8_buckets_131 ?_
                    obtain ⟨hz, h⟩ := nz_e h
                    refine g_idiv (pn := 133) K rfl hz dX8_buckets_132 ?_
                    refine g_nmi h (fun v28 h => ?_)
                    refine g_istore (pn := 135) (lv' := [(10, .int v28), (9, .int v18), (8, .int v17), (0, .ref (X.2.2.2.1 0)), (1, .int a1), (2, .int a2), (3, .int v11), (4, .int v12), (5, .int v13), (7, .int v15)]) K rfl dX8_buckets_133 (Nat.le_of_ble_eq_true rfl) rfl ?_
                    refine g_iload (pn := 137) K rfl 7 rfl dX8_buckets_135 ?_
                    refine g_iload (pn := 139) K rfl 8 rfl dX8_buckets_137 ?_
                    refine g_iadd (pn := 140) K rfl dX8_buckets_139 ?_
                    refine g_nmi h (fun v29 h => ?_)
                    refine g_istore (pn := 142) (lv' := [(4, .int v29), (10, .int v28), (9, .int v18), (8, .int v17), (0, .ref (X.2.2.2.1 0)), (1, .int a1), (2, .int a2), (3, .int v11), (5, .int v13), (7, .int v15)]) K rfl dX8_buckets_140 (Nat.le_of_ble_eq_true rfl) rfl ?_
                    refine g_iload_n (pn := 143) K rfl 7 rfl dX8_buckets_142 ?_
                    refine g_iload (pn := 145) K rfl 1 rfl dX8_buckets_143 ?_
                    refine g_iadd (pn := 146) K rfl dX8_buckets_145 ?_
                    refine g_nmi h (fun v30 h => ?_)
                    refine g_istore_n (pn := 147) (lv' := [(3, .int v30), (4, .int v29), (10, .int v28), (9, .int v18), (8, .int v17), (0, .ref (X.2.2.2.1 0)), (1, .int a1), (2, .int a2), (5, .int v13), (7, .int v15)]) K rfl dX8_buckets_146 rfl (Nat.le_of_ble_eq_true rfl) rfl ?_
                    refine g_iload (pn := 149) K rfl 2 rfl dX8_buckets_147 ?_
                    refine g_iload_n (pn := 150) K rfl 6 rfl dX8_buckets_149 ?_
                    refine g_imul (pn := 151) K rfl dX8_buckets_150 ?_
                    refine g_nmi h (fun v31 h => ?_)
                    refine g_istore (pn := 153) (lv' := [(5, .int v31), (3, .int v30), (4, .int v29), (10, .int v28), (9, .int v18), (8, .int v17), (0, .ref (X.2.2.2.1 0)), (1, .int a1), (2, .int a2), (7, .int v15)]) K rfl dX8_buckets_151 (Nat.le_of_ble_eq_true rfl) rfl ?_
                    refine g_iload (pn := 155) K rfl 5 rfl dX8_buckets_153 ?_
                    refine g_istore (pn := 157) (lv' := [(6, .int v17), (5, .int v31), (3, .int v30), (4, .int v29), (10, .int v28), (9, .int v18), (8, .int v17), (0, .ref (X.2.2.2.1 0)), (1, .int a1), (2, .int a2), (7, .int v15)]) K rfl dX8_buckets_155 (Nat.le_of_ble_eq_true rfl) rfl ?_
                    refine g_sub [5, 7, 8, 9, 10, 2, 3, 1, 0] rfl ?_
                    exact hj23 _ _ _ _ h
                  refine g_icmp_lt (tgt := 125) (pn := 107) K rfl (by decide) dX8_buckets_104 h (fun h => ?_) (fun h => ?_)
                  · refine g_sub [0, 1, 2, 3, 4, 5, 6, 7, 9] rfl ?_
                    exact hj27 _ h
                  · refine g_iload (pn := 109) K rfl 1 rfl dX8_buckets_107 ?_
                    refine g_iload (pn := 111) K rfl 8 rfl dX8_buckets_109 ?_
                    refine g_isub (pn := 112) K rfl dX8_buckets_111 ?_
                    refine g_aload_n (pn := 113) K rfl 2 rfl dX8_buckets_112 ?_
                    refine g_getr (pn := 116) (j := 23) K rfl fl_X8_54 lx_0 rfl dX8_buckets_113 ?_
                    refine g_getr (pn := 119) (j := 33) K rfl fl_X8_135 lx_23 rfl dX8_buckets_116 ?_
                    refine g_iload (pn := 121) K rfl 9 rfl dX8_buckets_119 ?_
                    refine g_iald (pn := 122) K rfl lx_33 dX8_buckets_121 h (fun h => ?_)
                    refine g_icmp_le (tgt := 157) (pn := 125) K rfl (by decide) dX8_buckets_122 h (fun h => ?_) (fun h => ?_)
                    · refine g_sub [0, 2, 3, 4, 9, 5, 6, 7, 8] rfl ?_
                      exact hj23 _ _ _ _ h
                    · refine g_sub [0, 1, 2, 3, 4, 5, 6, 7, 9] rfl ?_
                      exact hj27 _ h
                · refine g_goto (tgt := 164) K (by decide) dX8_buckets_97 ?_
                  obtain ⟨v32, ev32, h⟩ := bnd_e h
                  refine g_iinc (pn := 167) (v := v32) (lv' := [(7, .int v32), (9, .int v18), (8, .int v17), (0, .ref (X.2.2.2.1 0)), (1, .int a1), (2, .int a2), (3, .int v11), (4, .int v12), (5, .int v13), (6, .int v14)]) K rfl 9 rfl ii_1 ev32 dX8_buckets_164 (Nat.le_of_ble_eq_true rfl) rfl ?_
                  refine g_goto (tgt := 55) K (by decide) dX8_buckets_167 ?_
                  refine g_sub [3, 4, 5, 6, 7, 8, 9, 0] rfl ?_
                  exact ih16 _ _ _ _ _ h
          refine g_sub [5, 6, 7, 4, 3, 2, 1, 0] rfl ?_
          exact LP55 FU _ _ _ _ _ h
        · refine g_bipush (pn := 22) (v := (-2)) K rfl bp_m2 dX8_buckets_20 ?_
          exact g_iret K dX8_buckets_22 (oi2 h).2 (oi2 h).1
set_option maxHeartbeats 4000000 in
set_option maxRecDepth 20000 in
theorem w_x_books {X : XT} {M : Mem} {a1 : Int32} {a2 : Int32} {M' : Mem} {r : Int32}   (h : x_books M a1 a2 = some (M', r)) : CT layX X 6 yX8_books cX8_books 4 (some .int) [.ref (X.2.2.2.1 0), .int a1, .int a2] M M' (some (.int r)) := by
  refine CT.of rfl (Nat.le_of_ble_eq_true rfl) (lv := [(0, .ref (X.2.2.2.1 0)), (1, .int a1), (2, .int a2)]) rfl (fun Γ K => ?_)
  have K : Kx layX X Γ RX8 cX8_books 4 6 (some .int) := K
  unfold x_books at h
  refine g_aload_n (pn := 1) K rfl 0 rfl dX8_books_0 ?_
  refine g_iload_n (pn := 2) K rfl 1 rfl dX8_books_1 ?_
  obtain ⟨v2, hc1, h⟩ := ob_e h
  refine g_callV1 (pn := 5) (As := [.int a1]) (rest := []) (a := 0) K rfl (d' := 0) (Nat.le_of_ble_eq_true rfl) mv_X8_171 (recvO K lx_0 rfl) (w_x_sheetAt hc1) rfl rfl (Nat.le_of_ble_eq_true rfl) dX8_books_2 ?_
  rcases v2 with _ | t3
  · replace h := oc_n h
    refine g_astore_nN (pn := 6) (lv' := [(3, .null), (0, .ref (X.2.2.2.1 0)), (1, .int a1), (2, .int a2)]) K rfl dX8_books_5 rfl (Nat.le_of_ble_eq_true rfl) rfl ?_
    refine g_aload_nN (pn := 7) K rfl 0 rfl dX8_books_6 ?_
    refine g_ifnullN (tgt := 44) K (by decide) dX8_books_7 ?_
    refine g_bipush (pn := 46) (v := (-2)) K rfl bp_m2 dX8_books_44 ?_
    exact g_iret K dX8_books_46 (oi2 h).2 (oi2 h).1
  · replace h := oc_s h
    have ht3 : isSheet t3 := sheetAt_is hc1
    refine g_astore_n (pn := 6) (lv' := [(3, .ref (X.2.2.2.1 t3)), (0, .ref (X.2.2.2.1 0)), (1, .int a1), (2, .int a2)]) K rfl dX8_books_5 rfl (Nat.le_of_ble_eq_true rfl) rfl ?_
    refine g_aload_n (pn := 7) K rfl 0 rfl dX8_books_6 ?_
    refine g_ifnull (pn := 10) K rfl dX8_books_7 ?_
    refine g_iload_n (pn := 11) K rfl 3 rfl dX8_books_10 ?_
    refine g_if_lt (tgt := 44) (pn := 14) K rfl (by decide) dX8_books_11 h (fun h => ?_) (fun h => ?_)
    · refine g_bipush (pn := 46) (v := (-2)) K rfl bp_m2 dX8_books_44 ?_
      exact g_iret K dX8_books_46 (oi2 h).2 (oi2 h).1
    · refine g_iload_n (pn := 15) K rfl 3 rfl dX8_books_14 ?_
      refine g_iconst (pn := 16) (v := 3) K rfl ic_3 dX8_books_15 ?_
      refine jp_e1 h (fun u4 => G layX X Γ 4 (QM layX X Γ (some (.int r)) M') 25 [(3, .ref (X.2.2.2.1 t3)), (0, .ref (X.2.2.2.1 0)), (2, .int a2)] [] M) (fun u4 h => ?_) (fun j5 hj5 h => ?_)
      · refine g_iload_n (pn := 26) K rfl 2 rfl dX8_books_25 ?_
        refine g_iconst (pn := 27) (v := 3) K rfl ic_3 dX8_books_26 ?_
        refine jp_e1 h (fun u6 => G layX X Γ 4 (QM layX X Γ (some (.int r)) M') 47 [(3, .ref (X.2.2.2.1 t3)), (0, .ref (X.2.2.2.1 0)), (2, .int a2)] [] M) (fun u6 h => ?_) (fun j7 hj7 h => ?_)
        · refine g_aload_n (pn := 48) K rfl 0 rfl dX8_books_47 ?_
          obtain ⟨v9, hc8, h⟩ := ob_e h
          refine g_callV1 (pn := 51) (As := []) (rest := []) (a := t3) K rfl (d' := 0) (Nat.le_of_ble_eq_true rfl) mv_X8_179 (recvO K (lxSheet ht3) rfl) (w_f_Sheet_isMissing ht3 hc8) rfl rfl (Nat.le_of_ble_eq_true rfl) dX8_books_48 ?_
          refine g_ifB_eq (tgt := 57) (pn := 54) K rfl (by decide) dX8_books_51 h (fun h => ?_) (fun h => ?_)
          · refine g_aload_n (pn := 58) K rfl 0 rfl dX8_books_57 ?_
            refine g_geti (pn := 61) K rfl fl_X8_183 (lxSheet ht3) rfl dX8_books_58 ?_
            refine g_aload_n (pn := 62) K rfl 1 rfl dX8_books_61 ?_
            refine g_getr (pn := 65) (j := 1) K rfl fl_X8_10 lx_0 rfl dX8_books_62 ?_
            refine g_geti (pn := 68) K rfl fl_X8_186 lx_1 rfl dX8_books_65 ?_
            refine g_icmp_eq (tgt := 74) (pn := 71) K rfl (by decide) dX8_books_68 h (fun h => ?_) (fun h => ?_)
            · refine g_iload_n (pn := 75) K rfl 2 rfl dX8_books_74 ?_
              rcases Decidable.em (a2 = 0) with hs | hs0
              · replace h := (ite_e h).1 hs
                refine g_tsw (tgt := 104) (v := 0) (off := 29) K hs (by decide) (by decide) (by decide) (by decide) dX8_books_75 ?_
                refine g_aload_n (pn := 105) K rfl 1 rfl dX8_books_104 ?_
                refine g_aload_n (pn := 106) K rfl 0 rfl dX8_books_105 ?_
                obtain ⟨M11, v12, hc10, h⟩ := ob2_e h
                refine g_callV1 (pn := 109) (As := [.ref (X.2.2.2.1 t3)]) (rest := []) (a := 0) K rfl (d' := 5) (Nat.le_of_ble_eq_true rfl) mv_X8_261 (recvO K lx_0 rfl) (w_x_notSo ht3 hc10) rfl rfl (Nat.le_of_ble_eq_true rfl) dX8_books_106 ?_
                exact g_iret K dX8_books_109 (oi2 h).2 (oi2 h).1
              · replace h := (ite_e h).2 hs0
                rcases Decidable.em (a2 = 1) with hs | hs1
                · replace h := (ite_e h).1 hs
                  refine g_tsw (tgt := 110) (v := 1) (off := 35) K hs (by decide) (by decide) (by decide) (by decide) dX8_books_75 ?_
                  refine g_aload_n (pn := 111) K rfl 1 rfl dX8_books_110 ?_
                  refine g_aload_n (pn := 112) K rfl 0 rfl dX8_books_111 ?_
                  refine g_iconst (pn := 113) (v := 2) K rfl ic_2 dX8_books_112 ?_
                  obtain ⟨M14, v15, hc13, h⟩ := ob2_e h
                  refine g_callV1 (pn := 116) (As := [.ref (X.2.2.2.1 t3), .int 2]) (rest := []) (a := 0) K rfl (d' := 5) (Nat.le_of_ble_eq_true rfl) mv_X8_265 (recvO K lx_0 rfl) (w_x_dialsOf ht3 hc13) rfl rfl (Nat.le_of_ble_eq_true rfl) dX8_books_113 ?_
                  refine g_l2i (pn := 117) K rfl dX8_books_116 ?_
                  exact g_iret K dX8_books_117 (oi2 h).2 (oi2 h).1
                · replace h := (ite_e h).2 hs1
                  rcases Decidable.em (a2 = 2) with hs | hs2
                  · replace h := (ite_e h).1 hs
                    refine g_tsw (tgt := 118) (v := 2) (off := 43) K hs (by decide) (by decide) (by decide) (by decide) dX8_books_75 ?_
                    refine g_aload_n (pn := 119) K rfl 1 rfl dX8_books_118 ?_
                    refine g_aload_n (pn := 120) K rfl 0 rfl dX8_books_119 ?_
                    refine g_iconst (pn := 121) (v := 1) K rfl ic_1 dX8_books_120 ?_
                    obtain ⟨M17, v18, hc16, h⟩ := ob2_e h
                    refine g_callV1 (pn := 124) (As := [.ref (X.2.2.2.1 t3), .int 1]) (rest := []) (a := 0) K rfl (d' := 5) (Nat.le_of_ble_eq_true rfl) mv_X8_265 (recvO K lx_0 rfl) (w_x_dialsOf ht3 hc16) rfl rfl (Nat.le_of_ble_eq_true rfl) dX8_books_121 ?_
                    refine g_l2i (pn := 125) K rfl dX8_books_124 ?_
                    exact g_iret K dX8_books_125 (oi2 h).2 (oi2 h).1
                  · replace h := (ite_e h).2 hs2
                    rcases Decidable.em (a2 = 3) with hs | hs3
                    · replace h := (ite_e h).1 hs
                      refine g_tsw (tgt := 126) (v := 3) (off := 51) K hs (by decide) (by decide) (by decide) (by decide) dX8_books_75 ?_
                      refine g_aload_n (pn := 127) K rfl 1 rfl dX8_books_126 ?_
                      refine g_aload_n (pn := 128) K rfl 0 rfl dX8_books_127 ?_
                      obtain ⟨M20, v21, hc19, h⟩ := ob2_e h
                      refine g_callV1 (pn := 131) (As := [.ref (X.2.2.2.1 t3)]) (rest := []) (a := 0) K rfl (d' := 5) (Nat.le_of_ble_eq_true rfl) mv_X8_269 (recvO K lx_0 rfl) (w_x_textsOf ht3 hc19) rfl rfl (Nat.le_of_ble_eq_true rfl) dX8_books_128 ?_
                      exact g_iret K dX8_books_131 (oi2 h).2 (oi2 h).1
                    · replace h := (ite_e h).2 hs3
                      refine g_tswD (tgt := 132) K [0, 1, 2, 3] (by decide) (by decide) (by simp only [List.forall_mem_cons]; exact ⟨hs0, hs1, hs2, hs3, fun _ h => absurd h List.not_mem_nil⟩) (by decide) dX8_books_75 ?_
                      refine g_aload_n (pn := 133) K rfl 1 rfl dX8_books_132 ?_
                      refine g_aload_n (pn := 134) K rfl 0 rfl dX8_books_133 ?_
                      refine g_iload_n (pn := 135) K rfl 2 rfl dX8_books_134 ?_
                      refine g_bipush (pn := 137) (v := 10) K rfl bp_10 dX8_books_135 ?_
                      refine g_isub (pn := 138) K rfl dX8_books_137 ?_
                      obtain ⟨M23, v24, hc22, h⟩ := ob2_e h
                      refine g_callV1 (pn := 141) (As := [.ref (X.2.2.2.1 t3), .int (a2 - 10)]) (rest := []) (a := 0) K rfl (d' := 5) (Nat.le_of_ble_eq_true rfl) mv_X8_272 (recvO K lx_0 rfl) (w_x_kindsOf ht3 hc22) rfl rfl (Nat.le_of_ble_eq_true rfl) dX8_books_138 ?_
                      exact g_iret K dX8_books_141 (oi2 h).2 (oi2 h).1
            · refine g_bipush (pn := 73) (v := (-2)) K rfl bp_m2 dX8_books_71 ?_
              exact g_iret K dX8_books_73 (oi2 h).2 (oi2 h).1
          · refine g_bipush (pn := 56) (v := (-11)) K rfl bp_m11 dX8_books_54 ?_
            exact g_iret K dX8_books_56 (oi2 h).2 (oi2 h).1
        refine g_icmp_le (tgt := 47) (pn := 30) K rfl (by decide) dX8_books_27 h (fun h => ?_) (fun h => ?_)
        · exact hj7 _ h
        · refine g_aload_n (pn := 31) K rfl 1 rfl dX8_books_30 ?_
          refine g_getr (pn := 34) (j := 1) K rfl fl_X8_10 lx_0 rfl dX8_books_31 ?_
          refine g_iload_n (pn := 35) K rfl 2 rfl dX8_books_34 ?_
          refine g_bipush (pn := 37) (v := 10) K rfl bp_10 dX8_books_35 ?_
          refine g_isub (pn := 38) K rfl dX8_books_37 ?_
          obtain ⟨v26, hc25, h⟩ := ob_e h
          refine g_callV1 (pn := 41) (As := [.int (a2 - 10)]) (rest := []) (a := 1) K rfl (d' := 0) (Nat.le_of_ble_eq_true rfl) mv_X8_99 (recvO K lx_1 rfl) (w_f_Site_has (Or.inl rfl) hc25) rfl rfl (Nat.le_of_ble_eq_true rfl) dX8_books_38 ?_
          refine g_ifB_ne (tgt := 47) (pn := 44) K rfl (by decide) dX8_books_41 h (fun h => ?_) (fun h => ?_)
          · exact hj7 _ h
          · refine g_bipush (pn := 46) (v := (-2)) K rfl bp_m2 dX8_books_44 ?_
            exact g_iret K dX8_books_46 (oi2 h).2 (oi2 h).1
      refine g_icmp_le (tgt := 25) (pn := 19) K rfl (by decide) dX8_books_16 h (fun h => ?_) (fun h => ?_)
      · refine g_sub [0, 1, 3] rfl ?_
        exact hj5 _ h
      · refine g_iload_n (pn := 20) K rfl 3 rfl dX8_books_19 ?_
        refine g_bipush (pn := 22) (v := 10) K rfl bp_10 dX8_books_20 ?_
        refine g_icmp_lt (tgt := 44) (pn := 25) K rfl (by decide) dX8_books_22 h (fun h => ?_) (fun h => ?_)
        · refine g_bipush (pn := 46) (v := (-2)) K rfl bp_m2 dX8_books_44 ?_
          exact g_iret K dX8_books_46 (oi2 h).2 (oi2 h).1
        · refine g_sub [0, 1, 3] rfl ?_
          exact hj5 _ h
set_option maxHeartbeats 4000000 in
set_option maxRecDepth 20000 in
theorem w_x_warms {X : XT} {M : Mem} {a1 : Int32} {M' : Mem} {r : Int64}   (h : x_warms M a1 = some (M', r)) : CT layX X 6 yX8_warms cX8_warms 3 (some .long) [.ref (X.2.2.2.1 0), .int a1] M M' (some (.long r)) := by
  refine CT.of rfl (Nat.le_of_ble_eq_true rfl) (lv := [(0, .ref (X.2.2.2.1 0)), (1, .int a1)]) rfl (fun Γ K => ?_)
  have K : Kx layX X Γ RX8 cX8_warms 3 6 (some .long) := K
  unfold x_warms at h
  refine g_aload_n (pn := 1) K rfl 0 rfl dX8_warms_0 ?_
  refine g_iload_n (pn := 2) K rfl 1 rfl dX8_warms_1 ?_
  obtain ⟨v2, hc1, h⟩ := ob_e h
  refine g_callV1 (pn := 5) (As := [.int a1]) (rest := []) (a := 0) K rfl (d' := 0) (Nat.le_of_ble_eq_true rfl) mv_X8_171 (recvO K lx_0 rfl) (w_x_sheetAt hc1) rfl rfl (Nat.le_of_ble_eq_true rfl) dX8_warms_2 ?_
  rcases v2 with _ | t3
  · replace h := oc_n h
    refine g_astore_nN (pn := 6) (lv' := [(2, .null), (0, .ref (X.2.2.2.1 0)), (1, .int a1)]) K rfl dX8_warms_5 rfl (Nat.le_of_ble_eq_true rfl) rfl ?_
    refine g_aload_nN (pn := 7) K rfl 0 rfl dX8_warms_6 ?_
    refine g_ifnullN (tgt := 31) K (by decide) dX8_warms_7 ?_
    refine g_ldc2 (pn := 34) (v := (-4611686018427387904)) K rfl cl_X8_276 dX8_warms_31 ?_
    exact g_lret K dX8_warms_34 (oi2 h).2 (oi2 h).1
  · replace h := oc_s h
    have ht3 : isSheet t3 := sheetAt_is hc1
    refine g_astore_n (pn := 6) (lv' := [(2, .ref (X.2.2.2.1 t3)), (0, .ref (X.2.2.2.1 0)), (1, .int a1)]) K rfl dX8_warms_5 rfl (Nat.le_of_ble_eq_true rfl) rfl ?_
    refine g_aload_n (pn := 7) K rfl 0 rfl dX8_warms_6 ?_
    refine g_ifnull (pn := 10) K rfl dX8_warms_7 ?_
    refine g_aload_n (pn := 11) K rfl 0 rfl dX8_warms_10 ?_
    obtain ⟨v5, hc4, h⟩ := ob_e h
    refine g_callV1 (pn := 14) (As := []) (rest := []) (a := t3) K rfl (d' := 0) (Nat.le_of_ble_eq_true rfl) mv_X8_179 (recvO K (lxSheet ht3) rfl) (w_f_Sheet_isMissing ht3 hc4) rfl rfl (Nat.le_of_ble_eq_true rfl) dX8_warms_11 ?_
    refine g_ifB_ne (tgt := 31) (pn := 17) K rfl (by decide) dX8_warms_14 h (fun h => ?_) (fun h => ?_)
    · refine g_ldc2 (pn := 34) (v := (-4611686018427387904)) K rfl cl_X8_276 dX8_warms_31 ?_
      exact g_lret K dX8_warms_34 (oi2 h).2 (oi2 h).1
    · refine g_aload_n (pn := 18) K rfl 0 rfl dX8_warms_17 ?_
      refine g_geti (pn := 21) K rfl fl_X8_183 (lxSheet ht3) rfl dX8_warms_18 ?_
      refine g_aload_n (pn := 22) K rfl 1 rfl dX8_warms_21 ?_
      refine g_getr (pn := 25) (j := 1) K rfl fl_X8_10 lx_0 rfl dX8_warms_22 ?_
      refine g_geti (pn := 28) K rfl fl_X8_186 lx_1 rfl dX8_warms_25 ?_
      refine g_icmp_eq (tgt := 35) (pn := 31) K rfl (by decide) dX8_warms_28 h (fun h => ?_) (fun h => ?_)
      · refine g_aload_n (pn := 36) K rfl 1 rfl dX8_warms_35 ?_
        refine g_aload_n (pn := 37) K rfl 0 rfl dX8_warms_36 ?_
        refine g_iconst (pn := 38) (v := 0) K rfl ic_0 dX8_warms_37 ?_
        obtain ⟨M7, v8, hc6, h⟩ := ob2_e h
        refine g_callV1 (pn := 41) (As := [.ref (X.2.2.2.1 t3), .int 0]) (rest := []) (a := 0) K rfl (d' := 5) (Nat.le_of_ble_eq_true rfl) mv_X8_265 (recvO K lx_0 rfl) (w_x_dialsOf ht3 hc6) rfl rfl (Nat.le_of_ble_eq_true rfl) dX8_warms_38 ?_
        exact g_lret K dX8_warms_41 (oi2 h).2 (oi2 h).1
      · refine g_ldc2 (pn := 34) (v := (-4611686018427387904)) K rfl cl_X8_276 dX8_warms_31 ?_
        exact g_lret K dX8_warms_34 (oi2 h).2 (oi2 h).1
set_option maxHeartbeats 4000000 in
set_option maxRecDepth 20000 in
theorem w_x_film {X : XT} {M : Mem} {a1 : Int32} {M' : Mem} {r : Int32}   (h : x_film M a1 = some (M', r)) : CT layX X 5 yX8_film cX8_film 4 (some .int) [.ref (X.2.2.2.1 0), .int a1] M M' (some (.int r)) := by
  refine CT.of rfl (Nat.le_of_ble_eq_true rfl) (lv := [(0, .ref (X.2.2.2.1 0)), (1, .int a1)]) rfl (fun Γ K => ?_)
  have K : Kx layX X Γ RX8 cX8_film 4 5 (some .int) := K
  unfold x_film at h
  refine g_aload_n (pn := 1) K rfl 0 rfl dX8_film_0 ?_
  refine g_iload_n (pn := 2) K rfl 1 rfl dX8_film_1 ?_
  obtain ⟨v2, hc1, h⟩ := ob_e h
  refine g_callV1 (pn := 5) (As := [.int a1]) (rest := []) (a := 0) K rfl (d' := 0) (Nat.le_of_ble_eq_true rfl) mv_X8_171 (recvO K lx_0 rfl) (w_x_sheetAt hc1) rfl rfl (Nat.le_of_ble_eq_true rfl) dX8_film_2 ?_
  rcases v2 with _ | t3
  · replace h := oc_n h
    refine g_astore_nN (pn := 6) (lv' := [(2, .null), (0, .ref (X.2.2.2.1 0)), (1, .int a1)]) K rfl dX8_film_5 rfl (Nat.le_of_ble_eq_true rfl) rfl ?_
    refine g_aload_nN (pn := 7) K rfl 0 rfl dX8_film_6 ?_
    refine g_ifnonnullN (pn := 10) K rfl dX8_film_7 ?_
    refine g_bipush (pn := 12) (v := (-2)) K rfl bp_m2 dX8_film_10 ?_
    exact g_iret K dX8_film_12 (oi2 h).2 (oi2 h).1
  · replace h := oc_s h
    have ht3 : isSheet t3 := sheetAt_is hc1
    refine g_astore_n (pn := 6) (lv' := [(2, .ref (X.2.2.2.1 t3)), (0, .ref (X.2.2.2.1 0)), (1, .int a1)]) K rfl dX8_film_5 rfl (Nat.le_of_ble_eq_true rfl) rfl ?_
    refine g_aload_n (pn := 7) K rfl 0 rfl dX8_film_6 ?_
    refine g_ifnonnull (tgt := 13) K (by decide) dX8_film_7 ?_
    refine g_aload_n (pn := 14) K rfl 1 rfl dX8_film_13 ?_
    obtain ⟨M5, hc4, h⟩ := ob_e h
    refine g_callV0 (pn := 17) (As := []) (rest := []) (a := 0) K rfl (d' := 1) (Nat.le_of_ble_eq_true rfl) mv_X8_129 (recvO K lx_0 rfl) (w_x_startTrial hc4) rfl rfl (Nat.le_of_ble_eq_true rfl) dX8_film_14 ?_
    refine g_aload_n (pn := 18) K rfl 1 rfl dX8_film_17 ?_
    refine g_getr (pn := 21) (j := 23) K rfl fl_X8_54 lx_0 rfl dX8_film_18 ?_
    obtain ⟨M7, hc6, h⟩ := ob_e h
    refine g_callV0 (pn := 24) (As := []) (rest := []) (a := 23) K rfl (d' := 3) (Nat.le_of_ble_eq_true rfl) mv_X8_132 (recvO K lx_23 rfl) (w_f_Day_reckon hc6) rfl rfl (Nat.le_of_ble_eq_true rfl) dX8_film_21 ?_
    refine g_aload_n (pn := 25) K rfl 1 rfl dX8_film_24 ?_
    refine g_getr (pn := 28) (j := 23) K rfl fl_X8_54 lx_0 rfl dX8_film_25 ?_
    obtain ⟨M9, hc8, h⟩ := ob_e h
    refine g_callV0 (pn := 31) (As := []) (rest := []) (a := 23) K rfl (d' := 4) (Nat.le_of_ble_eq_true rfl) mv_X8_165 (recvO K lx_23 rfl) (w_f_Day_live hc8) rfl rfl (Nat.le_of_ble_eq_true rfl) dX8_film_28 ?_
    refine g_aload_n (pn := 32) K rfl 0 rfl dX8_film_31 ?_
    refine g_iconst (pn := 33) (v := 2) K rfl ic_2 dX8_film_32 ?_
    refine g_aload_n (pn := 34) K rfl 1 rfl dX8_film_33 ?_
    refine g_getr (pn := 37) (j := 1) K rfl fl_X8_10 lx_0 rfl dX8_film_34 ?_
    refine g_geti (pn := 40) K rfl fl_X8_186 lx_1 rfl dX8_film_37 ?_
    obtain ⟨M11, hc10, h⟩ := ob_e h
    refine g_callV0 (pn := 43) (As := [.int 2, .int (M9 1 5)]) (rest := []) (a := t3) K rfl (d' := 0) (Nat.le_of_ble_eq_true rfl) mv_X8_281 (recvO K (lxSheet ht3) rfl) (w_f_Sheet_become ht3 hc10) rfl rfl (Nat.le_of_ble_eq_true rfl) dX8_film_40 ?_
    refine g_iconst (pn := 44) (v := 0) K rfl ic_0 dX8_film_43 ?_
    refine g_istore_n (pn := 45) (lv' := [(3, .int 0), (2, .ref (X.2.2.2.1 t3)), (0, .ref (X.2.2.2.1 0)), (1, .int a1)]) K rfl dX8_film_44 rfl (Nat.le_of_ble_eq_true rfl) rfl ?_
    refine jp_e1 h (fun M12 => G layX X Γ 4 (QM layX X Γ (some (.int r)) M') 76 [(0, .ref (X.2.2.2.1 0))] [] M12) (fun M12 h => ?_) (fun j13 hj13 h => ?_)
    · refine g_aload_n (pn := 77) K rfl 0 rfl dX8_film_76 ?_
      refine g_getr (pn := 80) (j := 1) K rfl fl_X8_10 lx_0 rfl dX8_film_77 ?_
      refine g_geti (pn := 83) K rfl fl_X8_186 lx_1 rfl dX8_film_80 ?_
      exact g_iret K dX8_film_83 (oi2 h).2 (oi2 h).1
    have LP45 : ∀ (fu16 : Nat) (v14 : Int32) (M15 : Mem), x_film_L45 t3 j13 fu16 v14 M15 = some (M', r) → G layX X Γ 4 (QM layX X Γ (some (.int r)) M') 45 [(2, .ref (X.2.2.2.1 t3)), (0, .ref (X.2.2.2.1 0)), (3, .int v14)] [] M15 := by
      intro fu16
      induction fu16 with
      | zero =>
        intro v14 M15 h
        rw [x_film_L45] at h
        cases h
      | succ fu16 ih16 =>
        intro v14 M15 h
        rw [x_film_L45] at h
        refine g_iload_n (pn := 46) K rfl 2 rfl dX8_film_45 ?_
        refine g_aload_n (pn := 47) K rfl 1 rfl dX8_film_46 ?_
        refine g_getr (pn := 50) (j := 1) K rfl fl_X8_10 lx_0 rfl dX8_film_47 ?_
        refine g_geti (pn := 53) K rfl fl_X8_186 lx_1 rfl dX8_film_50 ?_
        refine g_icmp_ge (tgt := 76) (pn := 56) K rfl (by decide) dX8_film_53 h (fun h => ?_) (fun h => ?_)
        · refine g_sub [1] rfl ?_
          exact hj13 _ h
        · refine g_aload_n (pn := 57) K rfl 0 rfl dX8_film_56 ?_
          refine g_iload_n (pn := 58) K rfl 2 rfl dX8_film_57 ?_
          refine g_aload_n (pn := 59) K rfl 1 rfl dX8_film_58 ?_
          refine g_getr (pn := 62) (j := 23) K rfl fl_X8_54 lx_0 rfl dX8_film_59 ?_
          refine g_getr (pn := 65) (j := 38) K rfl fl_X8_218 lx_23 rfl dX8_film_62 ?_
          refine g_iload_n (pn := 66) K rfl 2 rfl dX8_film_65 ?_
          refine g_iald (pn := 67) K rfl lx_38 dX8_film_66 h (fun h => ?_)
          obtain ⟨M18, hc17, h⟩ := ob_e h
          refine g_callV0 (pn := 70) (As := [.int v14, .int (M15 38 v14.toNatClampNeg)]) (rest := []) (a := t3) K rfl (d' := 1) (Nat.le_of_ble_eq_true rfl) mv_X8_283 (recvO K (lxSheet ht3) rfl) (w_f_Sheet_put ht3 hc17) rfl rfl (Nat.le_of_ble_eq_true rfl) dX8_film_67 ?_
          obtain ⟨v19, ev19, h⟩ := bnd_e h
          refine g_iinc (pn := 73) (v := v19) (lv' := [(3, .int v19), (2, .ref (X.2.2.2.1 t3)), (0, .ref (X.2.2.2.1 0))]) K rfl 2 rfl ii_1 ev19 dX8_film_70 (Nat.le_of_ble_eq_true rfl) rfl ?_
          refine g_goto (tgt := 45) K (by decide) dX8_film_73 ?_
          refine g_sub [1, 2, 0] rfl ?_
          exact ih16 _ _ h
    refine g_sub [1, 2, 0] rfl ?_
    exact LP45 FU _ _ h
set_option maxHeartbeats 4000000 in
set_option maxRecDepth 20000 in
theorem w_x_drawn {X : XT} {M : Mem} {a1 : Int32} {M' : Mem} {r : Int32}   (h : x_drawn M a1 = some (M', r)) : CT layX X 6 yX8_drawn cX8_drawn 2 (some .int) [.ref (X.2.2.2.1 0), .int a1] M M' (some (.int r)) := by
  refine CT.of rfl (Nat.le_of_ble_eq_true rfl) (lv := [(0, .ref (X.2.2.2.1 0)), (1, .int a1)]) rfl (fun Γ K => ?_)
  have K : Kx layX X Γ RX8 cX8_drawn 2 6 (some .int) := K
  unfold x_drawn at h
  refine g_aload_n (pn := 1) K rfl 0 rfl dX8_drawn_0 ?_
  refine g_iconst (pn := 2) (v := 0) K rfl ic_0 dX8_drawn_1 ?_
  refine g_iload_n (pn := 3) K rfl 1 rfl dX8_drawn_2 ?_
  obtain ⟨v2, hc1, h⟩ := ob_e h
  refine g_callS1 (pn := 6) (As := [.int a1]) (rest := [.int 0, .ref (X.2.2.2.1 0)]) K rfl (d' := 0) (Nat.le_of_ble_eq_true rfl) ms_X8_286 (w_x_warmOf hc1) rfl rfl (Nat.le_of_ble_eq_true rfl) dX8_drawn_3 ?_
  obtain ⟨M4, hc3, h⟩ := ob_e h
  refine g_callV0 (pn := 9) (As := [.int 0, .int v2]) (rest := []) (a := 0) K rfl (d' := 5) (Nat.le_of_ble_eq_true rfl) mv_X8_249 (recvO K lx_0 rfl) (w_x_liveWith hc3) rfl rfl (Nat.le_of_ble_eq_true rfl) dX8_drawn_6 ?_
  refine g_aload_n (pn := 10) K rfl 0 rfl dX8_drawn_9 ?_
  refine g_getr (pn := 13) (j := 23) K rfl fl_X8_54 lx_0 rfl dX8_drawn_10 ?_
  refine g_geti (pn := 16) K rfl fl_X8_194 lx_23 rfl dX8_drawn_13 ?_
  exact g_iret K dX8_drawn_16 (oi2 h).2 (oi2 h).1
set_option maxHeartbeats 4000000 in
set_option maxRecDepth 20000 in
theorem w_x_chance {X : XT} {M : Mem} {a1 : Int32} {a2 : Int32} {a3 : Int32} {M' : Mem} {r : Int64}   (h : x_chance M a1 a2 a3 = some (M', r)) : CT layX X 6 yX8_chance cX8_chance 6 (some .long) [.ref (X.2.2.2.1 0), .int a1, .int a2, .int a3] M M' (some (.long r)) := by
  refine CT.of rfl (Nat.le_of_ble_eq_true rfl) (lv := [(0, .ref (X.2.2.2.1 0)), (1, .int a1), (2, .int a2), (3, .int a3)]) rfl (fun Γ K => ?_)
  have K : Kx layX X Γ RX8 cX8_chance 6 6 (some .long) := K
  unfold x_chance at h
  refine g_iload_n (pn := 1) K rfl 2 rfl dX8_chance_0 ?_
  refine g_iconst (pn := 2) (v := 1) K rfl ic_1 dX8_chance_1 ?_
  refine jp_e1 h (fun u1 => G layX X Γ 6 (QM layX X Γ (some (.long r)) M') 20 [] [] M) (fun u1 h => ?_) (fun j2 hj2 h => ?_)
  · refine g_ldc2 (pn := 23) (v := (-4611686018427387904)) K rfl cl_X8_276 dX8_chance_20 ?_
    exact g_lret K dX8_chance_23 (oi2 h).2 (oi2 h).1
  refine g_icmp_lt (tgt := 20) (pn := 5) K rfl (by decide) dX8_chance_2 h (fun h => ?_) (fun h => ?_)
  · refine g_sub [] rfl ?_
    exact hj2 _ h
  · refine g_iload_n (pn := 6) K rfl 2 rfl dX8_chance_5 ?_
    refine g_bipush (pn := 8) (v := 20) K rfl bp_20 dX8_chance_6 ?_
    refine g_icmp_gt (tgt := 20) (pn := 11) K rfl (by decide) dX8_chance_8 h (fun h => ?_) (fun h => ?_)
    · refine g_sub [] rfl ?_
      exact hj2 _ h
    · refine g_iload_n (pn := 12) K rfl 3 rfl dX8_chance_11 ?_
      refine g_if_lt (tgt := 20) (pn := 15) K rfl (by decide) dX8_chance_12 h (fun h => ?_) (fun h => ?_)
      · refine g_sub [] rfl ?_
        exact hj2 _ h
      · refine g_iload_n (pn := 16) K rfl 3 rfl dX8_chance_15 ?_
        refine g_iconst (pn := 17) (v := 1) K rfl ic_1 dX8_chance_16 ?_
        refine g_icmp_le (tgt := 24) (pn := 20) K rfl (by decide) dX8_chance_17 h (fun h => ?_) (fun h => ?_)
        · refine g_iconst (pn := 25) (v := 0) K rfl ic_0 dX8_chance_24 ?_
          refine g_istore (pn := 27) (lv' := [(4, .int 0), (0, .ref (X.2.2.2.1 0)), (1, .int a1), (2, .int a2), (3, .int a3)]) K rfl dX8_chance_25 (Nat.le_of_ble_eq_true rfl) rfl ?_
          refine g_iconst (pn := 28) (v := 0) K rfl ic_0 dX8_chance_27 ?_
          refine g_istore (pn := 30) (lv' := [(5, .int 0), (4, .int 0), (0, .ref (X.2.2.2.1 0)), (1, .int a1), (2, .int a2), (3, .int a3)]) K rfl dX8_chance_28 (Nat.le_of_ble_eq_true rfl) rfl ?_
          refine jp_e2 h (fun v3 M4 => G layX X Γ 6 (QM layX X Γ (some (.long r)) M') 67 [(2, .int a2), (3, .int a3), (4, .int v3)] [] M4) (fun v3 M4 h => ?_) (fun j5 hj5 h => ?_)
          · refine g_iload_n (pn := 68) K rfl 0 rfl dX8_chance_67 ?_
            refine g_iload (pn := 70) K rfl 2 rfl dX8_chance_68 ?_
            obtain ⟨v7, hc6, h⟩ := ob_e h
            refine g_callS1 (pn := 73) (As := [.int a2, .int v3]) (rest := []) K rfl (d' := 0) (Nat.le_of_ble_eq_true rfl) ms_X8_289 (w_x_commonDivisor hc6) rfl rfl (Nat.le_of_ble_eq_true rfl) dX8_chance_70 ?_
            refine g_istore (pn := 75) (lv' := [(5, .int v7), (2, .int a2), (3, .int a3), (4, .int v3)]) K rfl dX8_chance_73 (Nat.le_of_ble_eq_true rfl) rfl ?_
            refine g_iload_n (pn := 76) K rfl 2 rfl dX8_chance_75 ?_
            refine g_if_ne (tgt := 88) (pn := 79) K rfl (by decide) dX8_chance_76 h (fun h => ?_) (fun h => ?_)
            · refine g_iload_n (pn := 89) K rfl 1 rfl dX8_chance_88 ?_
              refine g_iload (pn := 91) K rfl 0 rfl dX8_chance_89 ?_
              obtain ⟨hz, h⟩ := nz_e h
              refine g_idiv (pn := 92) K rfl hz dX8_chance_91 ?_
              refine g_i2l (pn := 93) K rfl dX8_chance_92 ?_
              exact g_lret K dX8_chance_93 (oi2 h).2 (oi2 h).1
            · refine g_iload (pn := 81) K rfl 3 rfl dX8_chance_79 ?_
              refine g_iload (pn := 83) K rfl 0 rfl dX8_chance_81 ?_
              obtain ⟨hz, h⟩ := nz_e h
              refine g_idiv (pn := 84) K rfl hz dX8_chance_83 ?_
              refine g_i2l (pn := 85) K rfl dX8_chance_84 ?_
              refine g_goto (tgt := 93) K (by decide) dX8_chance_85 ?_
              exact g_lret K dX8_chance_93 (oi2 h).2 (oi2 h).1
          have LP30 : ∀ (fu11 : Nat) (v8 : Int32) (v9 : Int32) (M10 : Mem), x_chance_L30 a1 a2 j5 fu11 v8 v9 M10 = some (M', r) → G layX X Γ 6 (QM layX X Γ (some (.long r)) M') 30 [(0, .ref (X.2.2.2.1 0)), (1, .int a1), (2, .int a2), (3, .int a3), (4, .int v8), (5, .int v9)] [] M10 := by
            intro fu11
            induction fu11 with
            | zero =>
              intro v8 v9 M10 h
              rw [x_chance_L30] at h
              cases h
            | succ fu11 ih11 =>
              intro v8 v9 M10 h
              rw [x_chance_L30] at h
              refine g_iload (pn := 32) K rfl 5 rfl dX8_chance_30 ?_
              refine g_iload_n (pn := 33) K rfl 2 rfl dX8_chance_32 ?_
              refine g_icmp_ge (tgt := 67) (pn := 36) K rfl (by decide) dX8_chance_33 h (fun h => ?_) (fun h => ?_)
              · refine g_sub [2, 3, 4] rfl ?_
                exact hj5 _ _ h
              · refine g_aload_n (pn := 37) K rfl 0 rfl dX8_chance_36 ?_
                refine g_iconst (pn := 38) (v := 0) K rfl ic_0 dX8_chance_37 ?_
                refine g_iload_n (pn := 39) K rfl 1 rfl dX8_chance_38 ?_
                refine g_iload (pn := 41) K rfl 5 rfl dX8_chance_39 ?_
                refine g_iadd (pn := 42) K rfl dX8_chance_41 ?_
                obtain ⟨v13, hc12, h⟩ := ob_e h
                refine g_callS1 (pn := 45) (As := [.int (a1 + v9)]) (rest := [.int 0, .ref (X.2.2.2.1 0)]) K rfl (d' := 0) (Nat.le_of_ble_eq_true rfl) ms_X8_286 (w_x_warmOf hc12) rfl rfl (Nat.le_of_ble_eq_true rfl) dX8_chance_42 ?_
                obtain ⟨M15, hc14, h⟩ := ob_e h
                refine g_callV0 (pn := 48) (As := [.int 0, .int v13]) (rest := []) (a := 0) K rfl (d' := 5) (Nat.le_of_ble_eq_true rfl) mv_X8_249 (recvO K lx_0 rfl) (w_x_liveWith hc14) rfl rfl (Nat.le_of_ble_eq_true rfl) dX8_chance_45 ?_
                refine g_aload_n (pn := 49) K rfl 0 rfl dX8_chance_48 ?_
                refine g_getr (pn := 52) (j := 23) K rfl fl_X8_54 lx_0 rfl dX8_chance_49 ?_
                obtain ⟨v17, hc16, h⟩ := ob_e h
                refine g_callV1 (pn := 55) (As := []) (rest := []) (a := 23) K rfl (d' := 0) (Nat.le_of_ble_eq_true rfl) mv_X8_203 (recvO K lx_23 rfl) (w_f_Day_late hc16) rfl rfl (Nat.le_of_ble_eq_true rfl) dX8_chance_52 ?_
                refine g_if_ne (tgt := 61) (pn := 58) K rfl (by decide) dX8_chance_55 h (fun h => ?_) (fun h => ?_)
                · obtain ⟨v18, ev18, h⟩ := bnd_e h
                  refine g_iinc (pn := 64) (v := v18) (lv' := [(5, .int v18), (0, .ref (X.2.2.2.1 0)), (1, .int a1), (2, .int a2), (3, .int a3), (4, .int v8)]) K rfl 5 rfl ii_1 ev18 dX8_chance_61 (Nat.le_of_ble_eq_true rfl) rfl ?_
                  refine g_goto (tgt := 30) K (by decide) dX8_chance_64 ?_
                  refine g_sub [1, 2, 3, 4, 5, 0] rfl ?_
                  exact ih11 _ _ _ h
                · obtain ⟨v19, ev19, h⟩ := bnd_e h
                  refine g_iinc (pn := 61) (v := v19) (lv' := [(4, .int v19), (0, .ref (X.2.2.2.1 0)), (1, .int a1), (2, .int a2), (3, .int a3), (5, .int v9)]) K rfl 4 rfl ii_1 ev19 dX8_chance_58 (Nat.le_of_ble_eq_true rfl) rfl ?_
                  obtain ⟨v20, ev20, h⟩ := bnd_e h
                  refine g_iinc (pn := 64) (v := v20) (lv' := [(5, .int v20), (4, .int v19), (0, .ref (X.2.2.2.1 0)), (1, .int a1), (2, .int a2), (3, .int a3)]) K rfl 5 rfl ii_1 ev20 dX8_chance_61 (Nat.le_of_ble_eq_true rfl) rfl ?_
                  refine g_goto (tgt := 30) K (by decide) dX8_chance_64 ?_
                  refine g_sub [2, 3, 4, 5, 1, 0] rfl ?_
                  exact ih11 _ _ _ h
          refine g_sub [2, 3, 4, 5, 1, 0] rfl ?_
          exact LP30 FU _ _ _ h
        · refine g_sub [] rfl ?_
          exact hj2 _ h
set_option maxHeartbeats 4000000 in
set_option maxRecDepth 20000 in
theorem w_x_image {X : XT} {M : Mem}  {M' : Mem} {r : Int32}   (h : x_image M = some (M', r)) : CT layX X 1 yX8_image cX8_image 1 (some .int) [.ref (X.2.2.2.1 0)] M M' (some (.int r)) := by
  refine CT.of rfl (Nat.le_of_ble_eq_true rfl) (lv := [(0, .ref (X.2.2.2.1 0))]) rfl (fun Γ K => ?_)
  have K : Kx layX X Γ RX8 cX8_image 1 1 (some .int) := K
  unfold x_image at h
  refine g_aload_n (pn := 1) K rfl 0 rfl dX8_image_0 ?_
  refine g_getr (pn := 4) (j := 7) K rfl fl_X8_16 lx_0 rfl dX8_image_1 ?_
  refine g_aload_n (pn := 5) K rfl 0 rfl dX8_image_4 ?_
  refine g_getr (pn := 8) (j := 1) K rfl fl_X8_10 lx_0 rfl dX8_image_5 ?_
  obtain ⟨M2, hc1, h⟩ := ob_e h
  refine g_callV0 (pn := 11) (As := [.ref (X.2.2.2.1 1)]) (rest := []) (a := 7) K rfl (d' := 0) (Nat.le_of_ble_eq_true rfl) mv_X8_225 (recvO K lx_7 rfl) (w_f_Site_become (Or.inr (Or.inl rfl)) (Or.inl rfl) hc1) rfl rfl (Nat.le_of_ble_eq_true rfl) dX8_image_8 ?_
  refine g_aload_n (pn := 12) K rfl 0 rfl dX8_image_11 ?_
  refine g_iconst (pn := 13) (v := 1) K rfl ic_1 dX8_image_12 ?_
  refine g_putz (pn := 16) K rfl fp_X8_19 lx_0 rfl rfl rfl dX8_image_13 h (fun M3 h => ?_)
  refine g_aload_n (pn := 17) K rfl 0 rfl dX8_image_16 ?_
  refine g_getr (pn := 20) (j := 1) K rfl fl_X8_10 lx_0 rfl dX8_image_17 ?_
  refine g_geti (pn := 23) K rfl fl_X8_186 lx_1 rfl dX8_image_20 ?_
  exact g_iret K dX8_image_23 (oi2 h).2 (oi2 h).1
set_option maxHeartbeats 4000000 in
set_option maxRecDepth 20000 in
theorem w_x_back {X : XT} {M : Mem}  {M' : Mem} {r : Int32}   (h : x_back M = some (M', r)) : CT layX X 1 yX8_back cX8_back 1 (some .int) [.ref (X.2.2.2.1 0)] M M' (some (.int r)) := by
  refine CT.of rfl (Nat.le_of_ble_eq_true rfl) (lv := [(0, .ref (X.2.2.2.1 0))]) rfl (fun Γ K => ?_)
  have K : Kx layX X Γ RX8 cX8_back 1 1 (some .int) := K
  unfold x_back at h
  refine g_aload_n (pn := 1) K rfl 0 rfl dX8_back_0 ?_
  refine g_geti (pn := 4) K rfl fl_X8_19 lx_0 rfl dX8_back_1 ?_
  refine g_if_ne (tgt := 10) (pn := 7) K rfl (by decide) dX8_back_4 h (fun h => ?_) (fun h => ?_)
  · refine g_aload_n (pn := 11) K rfl 0 rfl dX8_back_10 ?_
    refine g_getr (pn := 14) (j := 1) K rfl fl_X8_10 lx_0 rfl dX8_back_11 ?_
    refine g_aload_n (pn := 15) K rfl 0 rfl dX8_back_14 ?_
    refine g_getr (pn := 18) (j := 7) K rfl fl_X8_16 lx_0 rfl dX8_back_15 ?_
    obtain ⟨M2, hc1, h⟩ := ob_e h
    refine g_callV0 (pn := 21) (As := [.ref (X.2.2.2.1 7)]) (rest := []) (a := 1) K rfl (d' := 0) (Nat.le_of_ble_eq_true rfl) mv_X8_225 (recvO K lx_1 rfl) (w_f_Site_become (Or.inl rfl) (Or.inr (Or.inl rfl)) hc1) rfl rfl (Nat.le_of_ble_eq_true rfl) dX8_back_18 ?_
    refine g_aload_n (pn := 22) K rfl 0 rfl dX8_back_21 ?_
    refine g_getr (pn := 25) (j := 1) K rfl fl_X8_10 lx_0 rfl dX8_back_22 ?_
    refine g_geti (pn := 28) K rfl fl_X8_186 lx_1 rfl dX8_back_25 ?_
    exact g_iret K dX8_back_28 (oi2 h).2 (oi2 h).1
  · refine g_bipush (pn := 9) (v := (-3)) K rfl bp_m3 dX8_back_7 ?_
    exact g_iret K dX8_back_9 (oi2 h).2 (oi2 h).1
set_option maxHeartbeats 4000000 in
set_option maxRecDepth 20000 in
theorem w_x_count {X : XT} {M : Mem} {a1 : Int32} {r : Int32}   (h : x_count M a1 = some r) : CT layX X 0 yX8_count cX8_count 2 (some .int) [.ref (X.2.2.2.1 0), .int a1] M M (some (.int r)) := by
  refine CT.of rfl (Nat.le_of_ble_eq_true rfl) (lv := [(0, .ref (X.2.2.2.1 0)), (1, .int a1)]) rfl (fun Γ K => ?_)
  have K : Kx layX X Γ RX8 cX8_count 2 0 (some .int) := K
  unfold x_count at h
  refine g_iload_n (pn := 1) K rfl 1 rfl dX8_count_0 ?_
  rcases Decidable.em (a1 = 0) with hs | hs0
  · replace h := (ite_e h).1 hs
    refine g_tsw (tgt := 56) (v := 0) (off := 55) K hs (by decide) (by decide) (by decide) (by decide) dX8_count_1 ?_
    refine g_aload_n (pn := 57) K rfl 0 rfl dX8_count_56 ?_
    refine g_getr (pn := 60) (j := 1) K rfl fl_X8_10 lx_0 rfl dX8_count_57 ?_
    refine g_geti (pn := 63) K rfl fl_X8_186 lx_1 rfl dX8_count_60 ?_
    exact g_iret K dX8_count_63 (oi h) rfl
  · replace h := (ite_e h).2 hs0
    rcases Decidable.em (a1 = 1) with hs | hs1
    · replace h := (ite_e h).1 hs
      refine g_tsw (tgt := 64) (v := 1) (off := 63) K hs (by decide) (by decide) (by decide) (by decide) dX8_count_1 ?_
      refine g_aload_n (pn := 65) K rfl 0 rfl dX8_count_64 ?_
      refine g_getr (pn := 68) (j := 1) K rfl fl_X8_10 lx_0 rfl dX8_count_65 ?_
      refine g_getr (pn := 71) (j := 2) K rfl fl_X8_293 lx_1 rfl dX8_count_68 ?_
      refine g_iconst (pn := 72) (v := 0) K rfl ic_0 dX8_count_71 ?_
      refine g_iald (pn := 73) K rfl lx_2 dX8_count_72 h (fun h => ?_)
      exact g_iret K dX8_count_73 (oi h) rfl
    · replace h := (ite_e h).2 hs1
      rcases Decidable.em (a1 = 2) with hs | hs2
      · replace h := (ite_e h).1 hs
        refine g_tsw (tgt := 74) (v := 2) (off := 73) K hs (by decide) (by decide) (by decide) (by decide) dX8_count_1 ?_
        refine g_aload_n (pn := 75) K rfl 0 rfl dX8_count_74 ?_
        refine g_getr (pn := 78) (j := 1) K rfl fl_X8_10 lx_0 rfl dX8_count_75 ?_
        refine g_getr (pn := 81) (j := 2) K rfl fl_X8_293 lx_1 rfl dX8_count_78 ?_
        refine g_iconst (pn := 82) (v := 1) K rfl ic_1 dX8_count_81 ?_
        refine g_iald (pn := 83) K rfl lx_2 dX8_count_82 h (fun h => ?_)
        exact g_iret K dX8_count_83 (oi h) rfl
      · replace h := (ite_e h).2 hs2
        rcases Decidable.em (a1 = 3) with hs | hs3
        · replace h := (ite_e h).1 hs
          refine g_tsw (tgt := 84) (v := 3) (off := 83) K hs (by decide) (by decide) (by decide) (by decide) dX8_count_1 ?_
          refine g_aload_n (pn := 85) K rfl 0 rfl dX8_count_84 ?_
          refine g_getr (pn := 88) (j := 1) K rfl fl_X8_10 lx_0 rfl dX8_count_85 ?_
          refine g_getr (pn := 91) (j := 2) K rfl fl_X8_293 lx_1 rfl dX8_count_88 ?_
          refine g_iconst (pn := 92) (v := 2) K rfl ic_2 dX8_count_91 ?_
          refine g_iald (pn := 93) K rfl lx_2 dX8_count_92 h (fun h => ?_)
          exact g_iret K dX8_count_93 (oi h) rfl
        · replace h := (ite_e h).2 hs3
          rcases Decidable.em (a1 = 4) with hs | hs4
          · replace h := (ite_e h).1 hs
            refine g_tsw (tgt := 94) (v := 4) (off := 93) K hs (by decide) (by decide) (by decide) (by decide) dX8_count_1 ?_
            refine g_aload_n (pn := 95) K rfl 0 rfl dX8_count_94 ?_
            refine g_getr (pn := 98) (j := 1) K rfl fl_X8_10 lx_0 rfl dX8_count_95 ?_
            refine g_getr (pn := 101) (j := 2) K rfl fl_X8_293 lx_1 rfl dX8_count_98 ?_
            refine g_iconst (pn := 102) (v := 3) K rfl ic_3 dX8_count_101 ?_
            refine g_iald (pn := 103) K rfl lx_2 dX8_count_102 h (fun h => ?_)
            exact g_iret K dX8_count_103 (oi h) rfl
          · replace h := (ite_e h).2 hs4
            rcases Decidable.em (a1 = 5) with hs | hs5
            · replace h := (ite_e h).1 hs
              refine g_tsw (tgt := 104) (v := 5) (off := 103) K hs (by decide) (by decide) (by decide) (by decide) dX8_count_1 ?_
              refine g_aload_n (pn := 105) K rfl 0 rfl dX8_count_104 ?_
              refine g_getr (pn := 108) (j := 1) K rfl fl_X8_10 lx_0 rfl dX8_count_105 ?_
              refine g_getr (pn := 111) (j := 2) K rfl fl_X8_293 lx_1 rfl dX8_count_108 ?_
              refine g_iconst (pn := 112) (v := 4) K rfl ic_4 dX8_count_111 ?_
              refine g_iald (pn := 113) K rfl lx_2 dX8_count_112 h (fun h => ?_)
              exact g_iret K dX8_count_113 (oi h) rfl
            · replace h := (ite_e h).2 hs5
              rcases Decidable.em (a1 = 6) with hs | hs6
              · replace h := (ite_e h).1 hs
                refine g_tsw (tgt := 114) (v := 6) (off := 113) K hs (by decide) (by decide) (by decide) (by decide) dX8_count_1 ?_
                refine g_aload_n (pn := 115) K rfl 0 rfl dX8_count_114 ?_
                refine g_getr (pn := 118) (j := 1) K rfl fl_X8_10 lx_0 rfl dX8_count_115 ?_
                refine g_getr (pn := 121) (j := 2) K rfl fl_X8_293 lx_1 rfl dX8_count_118 ?_
                refine g_iconst (pn := 122) (v := 5) K rfl ic_5 dX8_count_121 ?_
                refine g_iald (pn := 123) K rfl lx_2 dX8_count_122 h (fun h => ?_)
                exact g_iret K dX8_count_123 (oi h) rfl
              · replace h := (ite_e h).2 hs6
                rcases Decidable.em (a1 = 7) with hs | hs7
                · replace h := (ite_e h).1 hs
                  refine g_tsw (tgt := 124) (v := 7) (off := 123) K hs (by decide) (by decide) (by decide) (by decide) dX8_count_1 ?_
                  refine g_aload_n (pn := 125) K rfl 0 rfl dX8_count_124 ?_
                  refine g_geti (pn := 128) K rfl fl_X8_45 lx_0 rfl dX8_count_125 ?_
                  exact g_iret K dX8_count_128 (oi h) rfl
                · replace h := (ite_e h).2 hs7
                  rcases Decidable.em (a1 = 8) with hs | hs8
                  · replace h := (ite_e h).1 hs
                    refine g_tsw (tgt := 129) (v := 8) (off := 128) K hs (by decide) (by decide) (by decide) (by decide) dX8_count_1 ?_
                    refine g_aload_n (pn := 130) K rfl 0 rfl dX8_count_129 ?_
                    refine g_getr (pn := 133) (j := 13) K rfl fl_X8_26 lx_0 rfl dX8_count_130 ?_
                    refine g_geti (pn := 136) K rfl fl_X8_296 lx_13 rfl dX8_count_133 ?_
                    exact g_iret K dX8_count_136 (oi h) rfl
                  · replace h := (ite_e h).2 hs8
                    rcases Decidable.em (a1 = 9) with hs | hs9
                    · replace h := (ite_e h).1 hs
                      refine g_tsw (tgt := 137) (v := 9) (off := 136) K hs (by decide) (by decide) (by decide) (by decide) dX8_count_1 ?_
                      refine g_aload_n (pn := 138) K rfl 0 rfl dX8_count_137 ?_
                      refine g_getr (pn := 141) (j := 1) K rfl fl_X8_10 lx_0 rfl dX8_count_138 ?_
                      refine g_geti (pn := 144) K rfl fl_X8_158 lx_1 rfl dX8_count_141 ?_
                      exact g_iret K dX8_count_144 (oi h) rfl
                    · replace h := (ite_e h).2 hs9
                      refine g_tswD (tgt := 145) K [0, 1, 2, 3, 4, 5, 6, 7, 8, 9] (by decide) (by decide) (by simp only [List.forall_mem_cons]; exact ⟨hs0, hs1, hs2, hs3, hs4, hs5, hs6, hs7, hs8, hs9, fun _ h => absurd h List.not_mem_nil⟩) (by decide) dX8_count_1 ?_
                      refine g_bipush (pn := 147) (v := (-2)) K rfl bp_m2 dX8_count_145 ?_
                      exact g_iret K dX8_count_147 (oi h) rfl
set_option maxHeartbeats 4000000 in
set_option maxRecDepth 20000 in
theorem w_x_sheet {X : XT} {M : Mem} {a1 : Int32} {a2 : Int32} {a3 : Int32} {M' : Mem} {r : Int32}   (h : x_sheet M a1 a2 a3 = some (M', r)) : CT layX X 1 yX8_sheet cX8_sheet 5 (some .int) [.ref (X.2.2.2.1 0), .int a1, .int a2, .int a3] M M' (some (.int r)) := by
  refine CT.of rfl (Nat.le_of_ble_eq_true rfl) (lv := [(0, .ref (X.2.2.2.1 0)), (1, .int a1), (2, .int a2), (3, .int a3)]) rfl (fun Γ K => ?_)
  have K : Kx layX X Γ RX8 cX8_sheet 5 1 (some .int) := K
  unfold x_sheet at h
  refine g_aload_n (pn := 1) K rfl 0 rfl dX8_sheet_0 ?_
  refine g_iload_n (pn := 2) K rfl 1 rfl dX8_sheet_1 ?_
  obtain ⟨v2, hc1, h⟩ := ob_e h
  refine g_callV1 (pn := 5) (As := [.int a1]) (rest := []) (a := 0) K rfl (d' := 0) (Nat.le_of_ble_eq_true rfl) mv_X8_171 (recvO K lx_0 rfl) (w_x_sheetAt hc1) rfl rfl (Nat.le_of_ble_eq_true rfl) dX8_sheet_2 ?_
  rcases v2 with _ | t3
  · replace h := oc_n h
    refine g_astoreN (pn := 7) (lv' := [(4, .null), (0, .ref (X.2.2.2.1 0)), (1, .int a1), (2, .int a2), (3, .int a3)]) K rfl dX8_sheet_5 (Nat.le_of_ble_eq_true rfl) rfl ?_
    refine g_aloadN (pn := 9) K rfl 0 rfl dX8_sheet_7 ?_
    refine g_ifnullN (tgt := 22) K (by decide) dX8_sheet_9 ?_
    refine g_bipush (pn := 24) (v := (-2)) K rfl bp_m2 dX8_sheet_22 ?_
    exact g_iret K dX8_sheet_24 (oi2 h).2 (oi2 h).1
  · replace h := oc_s h
    have ht3 : isSheet t3 := sheetAt_is hc1
    refine g_astore (pn := 7) (lv' := [(4, .ref (X.2.2.2.1 t3)), (0, .ref (X.2.2.2.1 0)), (1, .int a1), (2, .int a2), (3, .int a3)]) K rfl dX8_sheet_5 (Nat.le_of_ble_eq_true rfl) rfl ?_
    refine g_aload (pn := 9) K rfl 0 rfl dX8_sheet_7 ?_
    refine g_ifnull (pn := 12) K rfl dX8_sheet_9 ?_
    refine g_iload_n (pn := 13) K rfl 3 rfl dX8_sheet_12 ?_
    refine g_iconst (pn := 14) (v := (-1)) K rfl ic_m1 dX8_sheet_13 ?_
    refine g_icmp_lt (tgt := 22) (pn := 17) K rfl (by decide) dX8_sheet_14 h (fun h => ?_) (fun h => ?_)
    · refine g_bipush (pn := 24) (v := (-2)) K rfl bp_m2 dX8_sheet_22 ?_
      exact g_iret K dX8_sheet_24 (oi2 h).2 (oi2 h).1
    · refine g_iload_n (pn := 18) K rfl 3 rfl dX8_sheet_17 ?_
      refine g_iconst (pn := 19) (v := 3) K rfl ic_3 dX8_sheet_18 ?_
      refine g_icmp_lt (tgt := 25) (pn := 22) K rfl (by decide) dX8_sheet_19 h (fun h => ?_) (fun h => ?_)
      · refine g_iload_n (pn := 26) K rfl 3 rfl dX8_sheet_25 ?_
        refine g_iconst (pn := 27) (v := (-1)) K rfl ic_m1 dX8_sheet_26 ?_
        refine g_icmp_ne (tgt := 39) (pn := 30) K rfl (by decide) dX8_sheet_27 h (fun h => ?_) (fun h => ?_)
        · refine g_iload_n (pn := 40) K rfl 4 rfl dX8_sheet_39 ?_
          refine g_bipush (pn := 42) (v := 40) K rfl bp_40 dX8_sheet_40 ?_
          refine g_icmp_le (tgt := 48) (pn := 45) K rfl (by decide) dX8_sheet_42 h (fun h => ?_) (fun h => ?_)
          · refine g_iload_n (pn := 49) K rfl 4 rfl dX8_sheet_48 ?_
            refine g_if_ge (tgt := 55) (pn := 52) K rfl (by decide) dX8_sheet_49 h (fun h => ?_) (fun h => ?_)
            · refine g_aload (pn := 57) K rfl 0 rfl dX8_sheet_55 ?_
              refine g_iload_n (pn := 58) K rfl 3 rfl dX8_sheet_57 ?_
              refine g_iload_n (pn := 59) K rfl 4 rfl dX8_sheet_58 ?_
              obtain ⟨M5, hc4, h⟩ := ob_e h
              refine g_callV0 (pn := 62) (As := [.int a2, .int a3]) (rest := []) (a := t3) K rfl (d' := 0) (Nat.le_of_ble_eq_true rfl) mv_X8_281 (recvO K (lxSheet ht3) rfl) (w_f_Sheet_become ht3 hc4) rfl rfl (Nat.le_of_ble_eq_true rfl) dX8_sheet_59 ?_
              refine g_iconst (pn := 63) (v := 1) K rfl ic_1 dX8_sheet_62 ?_
              exact g_iret K dX8_sheet_63 (oi2 h).2 (oi2 h).1
            · refine g_bipush (pn := 54) (v := (-14)) K rfl bp_m14 dX8_sheet_52 ?_
              exact g_iret K dX8_sheet_54 (oi2 h).2 (oi2 h).1
          · refine g_bipush (pn := 47) (v := (-2)) K rfl bp_m2 dX8_sheet_45 ?_
            exact g_iret K dX8_sheet_47 (oi2 h).2 (oi2 h).1
        · refine g_aload (pn := 32) K rfl 0 rfl dX8_sheet_30 ?_
          refine g_iconst (pn := 33) (v := (-1)) K rfl ic_m1 dX8_sheet_32 ?_
          refine g_iconst (pn := 34) (v := 0) K rfl ic_0 dX8_sheet_33 ?_
          obtain ⟨M7, hc6, h⟩ := ob_e h
          refine g_callV0 (pn := 37) (As := [.int (-1), .int 0]) (rest := []) (a := t3) K rfl (d' := 0) (Nat.le_of_ble_eq_true rfl) mv_X8_281 (recvO K (lxSheet ht3) rfl) (w_f_Sheet_become ht3 hc6) rfl rfl (Nat.le_of_ble_eq_true rfl) dX8_sheet_34 ?_
          refine g_iconst (pn := 38) (v := 1) K rfl ic_1 dX8_sheet_37 ?_
          exact g_iret K dX8_sheet_38 (oi2 h).2 (oi2 h).1
      · refine g_bipush (pn := 24) (v := (-2)) K rfl bp_m2 dX8_sheet_22 ?_
        exact g_iret K dX8_sheet_24 (oi2 h).2 (oi2 h).1
set_option maxHeartbeats 4000000 in
set_option maxRecDepth 20000 in
theorem w_x_cell {X : XT} {M : Mem} {a1 : Int32} {a2 : Int32} {a3 : Int32} {M' : Mem} {r : Int32}   (h : x_cell M a1 a2 a3 = some (M', r)) : CT layX X 2 yX8_cell cX8_cell 5 (some .int) [.ref (X.2.2.2.1 0), .int a1, .int a2, .int a3] M M' (some (.int r)) := by
  refine CT.of rfl (Nat.le_of_ble_eq_true rfl) (lv := [(0, .ref (X.2.2.2.1 0)), (1, .int a1), (2, .int a2), (3, .int a3)]) rfl (fun Γ K => ?_)
  have K : Kx layX X Γ RX8 cX8_cell 5 2 (some .int) := K
  unfold x_cell at h
  refine g_aload_n (pn := 1) K rfl 0 rfl dX8_cell_0 ?_
  refine g_iload_n (pn := 2) K rfl 1 rfl dX8_cell_1 ?_
  obtain ⟨v2, hc1, h⟩ := ob_e h
  refine g_callV1 (pn := 5) (As := [.int a1]) (rest := []) (a := 0) K rfl (d' := 0) (Nat.le_of_ble_eq_true rfl) mv_X8_171 (recvO K lx_0 rfl) (w_x_sheetAt hc1) rfl rfl (Nat.le_of_ble_eq_true rfl) dX8_cell_2 ?_
  rcases v2 with _ | t3
  · replace h := oc_n h
    refine g_astoreN (pn := 7) (lv' := [(4, .null), (0, .ref (X.2.2.2.1 0)), (1, .int a1), (2, .int a2), (3, .int a3)]) K rfl dX8_cell_5 (Nat.le_of_ble_eq_true rfl) rfl ?_
    refine g_aloadN (pn := 9) K rfl 0 rfl dX8_cell_7 ?_
    refine g_ifnonnullN (pn := 12) K rfl dX8_cell_9 ?_
    refine g_bipush (pn := 14) (v := (-2)) K rfl bp_m2 dX8_cell_12 ?_
    exact g_iret K dX8_cell_14 (oi2 h).2 (oi2 h).1
  · replace h := oc_s h
    have ht3 : isSheet t3 := sheetAt_is hc1
    refine g_astore (pn := 7) (lv' := [(4, .ref (X.2.2.2.1 t3)), (0, .ref (X.2.2.2.1 0)), (1, .int a1), (2, .int a2), (3, .int a3)]) K rfl dX8_cell_5 (Nat.le_of_ble_eq_true rfl) rfl ?_
    refine g_aload (pn := 9) K rfl 0 rfl dX8_cell_7 ?_
    refine g_ifnonnull (tgt := 15) K (by decide) dX8_cell_9 ?_
    refine g_aload (pn := 17) K rfl 0 rfl dX8_cell_15 ?_
    obtain ⟨v5, hc4, h⟩ := ob_e h
    refine g_callV1 (pn := 20) (As := []) (rest := []) (a := t3) K rfl (d' := 0) (Nat.le_of_ble_eq_true rfl) mv_X8_179 (recvO K (lxSheet ht3) rfl) (w_f_Sheet_isMissing ht3 hc4) rfl rfl (Nat.le_of_ble_eq_true rfl) dX8_cell_17 ?_
    refine g_ifB_eq (tgt := 26) (pn := 23) K rfl (by decide) dX8_cell_20 h (fun h => ?_) (fun h => ?_)
    · refine g_aload (pn := 28) K rfl 0 rfl dX8_cell_26 ?_
      refine g_iload_n (pn := 29) K rfl 3 rfl dX8_cell_28 ?_
      obtain ⟨v7, hc6, h⟩ := ob_e h
      refine g_callV1 (pn := 32) (As := [.int a2]) (rest := []) (a := t3) K rfl (d' := 0) (Nat.le_of_ble_eq_true rfl) mv_X8_297 (recvO K (lxSheet ht3) rfl) (w_f_Sheet_has ht3 hc6) rfl rfl (Nat.le_of_ble_eq_true rfl) dX8_cell_29 ?_
      refine g_ifB_ne (tgt := 38) (pn := 35) K rfl (by decide) dX8_cell_32 h (fun h => ?_) (fun h => ?_)
      · refine g_aload (pn := 40) K rfl 0 rfl dX8_cell_38 ?_
        refine g_iload_n (pn := 41) K rfl 3 rfl dX8_cell_40 ?_
        refine g_iload_n (pn := 42) K rfl 4 rfl dX8_cell_41 ?_
        obtain ⟨M9, hc8, h⟩ := ob_e h
        refine g_callV0 (pn := 45) (As := [.int a2, .int a3]) (rest := []) (a := t3) K rfl (d' := 1) (Nat.le_of_ble_eq_true rfl) mv_X8_283 (recvO K (lxSheet ht3) rfl) (w_f_Sheet_put ht3 hc8) rfl rfl (Nat.le_of_ble_eq_true rfl) dX8_cell_42 ?_
        refine g_iconst (pn := 46) (v := 1) K rfl ic_1 dX8_cell_45 ?_
        exact g_iret K dX8_cell_46 (oi2 h).2 (oi2 h).1
      · refine g_bipush (pn := 37) (v := (-12)) K rfl bp_m12 dX8_cell_35 ?_
        exact g_iret K dX8_cell_37 (oi2 h).2 (oi2 h).1
    · refine g_bipush (pn := 25) (v := (-11)) K rfl bp_m11 dX8_cell_23 ?_
      exact g_iret K dX8_cell_25 (oi2 h).2 (oi2 h).1
set_option maxHeartbeats 4000000 in
set_option maxRecDepth 20000 in
theorem w_x_copy {X : XT} {M : Mem} {a1 : Int32} {a2 : Int32} {a3 : Int32} {a4 : Int32} {a5 : Int32} {M' : Mem} {r : Int32}   (h : x_copy M a1 a2 a3 a4 a5 = some (M', r)) : CT layX X 2 yX8_copy cX8_copy 8 (some .int) [.ref (X.2.2.2.1 0), .int a1, .int a2, .int a3, .int a4, .int a5] M M' (some (.int r)) := by
  refine CT.of rfl (Nat.le_of_ble_eq_true rfl) (lv := [(0, .ref (X.2.2.2.1 0)), (1, .int a1), (2, .int a2), (3, .int a3), (4, .int a4), (5, .int a5)]) rfl (fun Γ K => ?_)
  have K : Kx layX X Γ RX8 cX8_copy 8 2 (some .int) := K
  unfold x_copy at h
  refine g_aload_n (pn := 1) K rfl 0 rfl dX8_copy_0 ?_
  refine g_iload_n (pn := 2) K rfl 1 rfl dX8_copy_1 ?_
  obtain ⟨v2, hc1, h⟩ := ob_e h
  refine g_callV1 (pn := 5) (As := [.int a1]) (rest := []) (a := 0) K rfl (d' := 0) (Nat.le_of_ble_eq_true rfl) mv_X8_171 (recvO K lx_0 rfl) (w_x_sheetAt hc1) rfl rfl (Nat.le_of_ble_eq_true rfl) dX8_copy_2 ?_
  rcases v2 with _ | t3
  · replace h := oc_n h
    refine g_astoreN (pn := 7) (lv' := [(6, .null), (0, .ref (X.2.2.2.1 0)), (1, .int a1), (2, .int a2), (3, .int a3), (4, .int a4), (5, .int a5)]) K rfl dX8_copy_5 (Nat.le_of_ble_eq_true rfl) rfl ?_
    refine g_aload_n (pn := 8) K rfl 1 rfl dX8_copy_7 ?_
    refine g_iload_n (pn := 9) K rfl 4 rfl dX8_copy_8 ?_
    obtain ⟨v5, hc4, h⟩ := ob_e h
    refine g_callV1 (pn := 12) (As := [.int a3]) (rest := []) (a := 0) K rfl (d' := 0) (Nat.le_of_ble_eq_true rfl) mv_X8_171 (recvO K lx_0 rfl) (w_x_sheetAt hc4) rfl rfl (Nat.le_of_ble_eq_true rfl) dX8_copy_9 ?_
    rcases v5 with _ | t6
    · replace h := oc_n h
      refine g_astoreN (pn := 14) (lv' := [(7, .null), (6, .null), (0, .ref (X.2.2.2.1 0)), (1, .int a1), (2, .int a2), (3, .int a3), (4, .int a4), (5, .int a5)]) K rfl dX8_copy_12 (Nat.le_of_ble_eq_true rfl) rfl ?_
      refine g_aloadN (pn := 16) K rfl 1 rfl dX8_copy_14 ?_
      refine g_ifnullN (tgt := 24) K (by decide) dX8_copy_16 ?_
      refine g_bipush (pn := 26) (v := (-2)) K rfl bp_m2 dX8_copy_24 ?_
      exact g_iret K dX8_copy_26 (oi2 h).2 (oi2 h).1
    · replace h := oc_s h
      have ht6 : isSheet t6 := sheetAt_is hc4
      refine g_astore (pn := 14) (lv' := [(7, .ref (X.2.2.2.1 t6)), (6, .null), (0, .ref (X.2.2.2.1 0)), (1, .int a1), (2, .int a2), (3, .int a3), (4, .int a4), (5, .int a5)]) K rfl dX8_copy_12 (Nat.le_of_ble_eq_true rfl) rfl ?_
      refine g_aloadN (pn := 16) K rfl 1 rfl dX8_copy_14 ?_
      refine g_ifnullN (tgt := 24) K (by decide) dX8_copy_16 ?_
      refine g_bipush (pn := 26) (v := (-2)) K rfl bp_m2 dX8_copy_24 ?_
      exact g_iret K dX8_copy_26 (oi2 h).2 (oi2 h).1
  · replace h := oc_s h
    have ht3 : isSheet t3 := sheetAt_is hc1
    refine g_astore (pn := 7) (lv' := [(6, .ref (X.2.2.2.1 t3)), (0, .ref (X.2.2.2.1 0)), (1, .int a1), (2, .int a2), (3, .int a3), (4, .int a4), (5, .int a5)]) K rfl dX8_copy_5 (Nat.le_of_ble_eq_true rfl) rfl ?_
    refine g_aload_n (pn := 8) K rfl 1 rfl dX8_copy_7 ?_
    refine g_iload_n (pn := 9) K rfl 4 rfl dX8_copy_8 ?_
    obtain ⟨v8, hc7, h⟩ := ob_e h
    refine g_callV1 (pn := 12) (As := [.int a3]) (rest := []) (a := 0) K rfl (d' := 0) (Nat.le_of_ble_eq_true rfl) mv_X8_171 (recvO K lx_0 rfl) (w_x_sheetAt hc7) rfl rfl (Nat.le_of_ble_eq_true rfl) dX8_copy_9 ?_
    rcases v8 with _ | t9
    · replace h := oc_n h
      refine g_astoreN (pn := 14) (lv' := [(7, .null), (6, .ref (X.2.2.2.1 t3)), (0, .ref (X.2.2.2.1 0)), (1, .int a1), (2, .int a2), (3, .int a3), (4, .int a4), (5, .int a5)]) K rfl dX8_copy_12 (Nat.le_of_ble_eq_true rfl) rfl ?_
      refine g_aload (pn := 16) K rfl 1 rfl dX8_copy_14 ?_
      refine g_ifnull (pn := 19) K rfl dX8_copy_16 ?_
      refine g_aloadN (pn := 21) K rfl 0 rfl dX8_copy_19 ?_
      refine g_ifnonnullN (pn := 24) K rfl dX8_copy_21 ?_
      refine g_bipush (pn := 26) (v := (-2)) K rfl bp_m2 dX8_copy_24 ?_
      exact g_iret K dX8_copy_26 (oi2 h).2 (oi2 h).1
    · replace h := oc_s h
      have ht9 : isSheet t9 := sheetAt_is hc7
      refine g_astore (pn := 14) (lv' := [(7, .ref (X.2.2.2.1 t9)), (6, .ref (X.2.2.2.1 t3)), (0, .ref (X.2.2.2.1 0)), (1, .int a1), (2, .int a2), (3, .int a3), (4, .int a4), (5, .int a5)]) K rfl dX8_copy_12 (Nat.le_of_ble_eq_true rfl) rfl ?_
      refine g_aload (pn := 16) K rfl 1 rfl dX8_copy_14 ?_
      refine g_ifnull (pn := 19) K rfl dX8_copy_16 ?_
      refine g_aload (pn := 21) K rfl 0 rfl dX8_copy_19 ?_
      refine g_ifnonnull (tgt := 27) K (by decide) dX8_copy_21 ?_
      refine g_aload (pn := 29) K rfl 1 rfl dX8_copy_27 ?_
      obtain ⟨v11, hc10, h⟩ := ob_e h
      refine g_callV1 (pn := 32) (As := []) (rest := []) (a := t3) K rfl (d' := 0) (Nat.le_of_ble_eq_true rfl) mv_X8_179 (recvO K (lxSheet ht3) rfl) (w_f_Sheet_isMissing ht3 hc10) rfl rfl (Nat.le_of_ble_eq_true rfl) dX8_copy_29 ?_
      refine g_ifB_ne (tgt := 43) (pn := 35) K rfl (by decide) dX8_copy_32 h (fun h => ?_) (fun h => ?_)
      · refine g_bipush (pn := 45) (v := (-11)) K rfl bp_m11 dX8_copy_43 ?_
        exact g_iret K dX8_copy_45 (oi2 h).2 (oi2 h).1
      · refine g_aload (pn := 37) K rfl 0 rfl dX8_copy_35 ?_
        obtain ⟨v13, hc12, h⟩ := ob_e h
        refine g_callV1 (pn := 40) (As := []) (rest := []) (a := t9) K rfl (d' := 0) (Nat.le_of_ble_eq_true rfl) mv_X8_179 (recvO K (lxSheet ht9) rfl) (w_f_Sheet_isMissing ht9 hc12) rfl rfl (Nat.le_of_ble_eq_true rfl) dX8_copy_37 ?_
        refine g_ifB_eq (tgt := 46) (pn := 43) K rfl (by decide) dX8_copy_40 h (fun h => ?_) (fun h => ?_)
        · refine g_aload (pn := 48) K rfl 1 rfl dX8_copy_46 ?_
          refine g_geti (pn := 51) K rfl fl_X8_298 (lxSheet ht3) rfl dX8_copy_48 ?_
          refine g_aload (pn := 53) K rfl 0 rfl dX8_copy_51 ?_
          refine g_geti (pn := 56) K rfl fl_X8_298 (lxSheet ht9) rfl dX8_copy_53 ?_
          refine g_icmp_eq (tgt := 62) (pn := 59) K rfl (by decide) dX8_copy_56 h (fun h => ?_) (fun h => ?_)
          · refine g_aload (pn := 64) K rfl 1 rfl dX8_copy_62 ?_
            refine g_iload_n (pn := 65) K rfl 4 rfl dX8_copy_64 ?_
            refine g_iload (pn := 67) K rfl 7 rfl dX8_copy_65 ?_
            obtain ⟨v15, hc14, h⟩ := ob_e h
            refine g_callV1 (pn := 70) (As := [.int a2, .int a5]) (rest := []) (a := t3) K rfl (d' := 0) (Nat.le_of_ble_eq_true rfl) mv_X8_301 (recvO K (lxSheet ht3) rfl) (w_f_Sheet_hasRun ht3 hc14) rfl rfl (Nat.le_of_ble_eq_true rfl) dX8_copy_67 ?_
            refine g_ifB_eq (tgt := 85) (pn := 73) K rfl (by decide) dX8_copy_70 h (fun h => ?_) (fun h => ?_)
            · refine g_bipush (pn := 87) (v := (-12)) K rfl bp_m12 dX8_copy_85 ?_
              exact g_iret K dX8_copy_87 (oi2 h).2 (oi2 h).1
            · refine g_aload (pn := 75) K rfl 0 rfl dX8_copy_73 ?_
              refine g_iload (pn := 77) K rfl 6 rfl dX8_copy_75 ?_
              refine g_iload (pn := 79) K rfl 7 rfl dX8_copy_77 ?_
              obtain ⟨v17, hc16, h⟩ := ob_e h
              refine g_callV1 (pn := 82) (As := [.int a4, .int a5]) (rest := []) (a := t9) K rfl (d' := 0) (Nat.le_of_ble_eq_true rfl) mv_X8_301 (recvO K (lxSheet ht9) rfl) (w_f_Sheet_hasRun ht9 hc16) rfl rfl (Nat.le_of_ble_eq_true rfl) dX8_copy_79 ?_
              refine g_ifB_ne (tgt := 88) (pn := 85) K rfl (by decide) dX8_copy_82 h (fun h => ?_) (fun h => ?_)
              · refine g_aload (pn := 90) K rfl 1 rfl dX8_copy_88 ?_
                refine g_getr (pn := 93) (j := (t3 + 1)) K rfl fl_X8_187 (lxSheet ht3) rfl dX8_copy_90 ?_
                refine g_iload_n (pn := 94) K rfl 4 rfl dX8_copy_93 ?_
                refine g_aload (pn := 96) K rfl 0 rfl dX8_copy_94 ?_
                refine g_getr (pn := 99) (j := (t9 + 1)) K rfl fl_X8_187 (lxSheet ht9) rfl dX8_copy_96 ?_
                refine g_iload (pn := 101) K rfl 6 rfl dX8_copy_99 ?_
                refine g_iload (pn := 103) K rfl 7 rfl dX8_copy_101 ?_
                refine g_copy K (by decide) ac_X8_305 ac_n ac_s ac_i (lxSheet1 ht3) (lxSheet1 ht9) (Nat.le_of_ble_eq_true rfl) dX8_copy_103 h (fun M18 h => ?_)
                refine g_iload (pn := 108) K rfl 7 rfl dX8_copy_106 ?_
                exact g_iret K dX8_copy_108 (oi2 h).2 (oi2 h).1
              · refine g_bipush (pn := 87) (v := (-12)) K rfl bp_m12 dX8_copy_85 ?_
                exact g_iret K dX8_copy_87 (oi2 h).2 (oi2 h).1
          · refine g_bipush (pn := 61) (v := (-13)) K rfl bp_m13 dX8_copy_59 ?_
            exact g_iret K dX8_copy_61 (oi2 h).2 (oi2 h).1
        · refine g_bipush (pn := 45) (v := (-11)) K rfl bp_m11 dX8_copy_43 ?_
          exact g_iret K dX8_copy_45 (oi2 h).2 (oi2 h).1
set_option maxHeartbeats 4000000 in
set_option maxRecDepth 20000 in
theorem w_x_walls {X : XT} {M : Mem} {a1 : Int32} {a2 : Int32} {a3 : Int32} {a4 : Int32} {M' : Mem} {r : Int32}   (h : x_walls M a1 a2 a3 a4 = some (M', r)) : CT layX X 2 yX8_walls cX8_walls 9 (some .int) [.ref (X.2.2.2.1 0), .int a1, .int a2, .int a3, .int a4] M M' (some (.int r)) := by
  refine CT.of rfl (Nat.le_of_ble_eq_true rfl) (lv := [(0, .ref (X.2.2.2.1 0)), (1, .int a1), (2, .int a2), (3, .int a3), (4, .int a4)]) rfl (fun Γ K => ?_)
  have K : Kx layX X Γ RX8 cX8_walls 9 2 (some .int) := K
  unfold x_walls at h
  refine g_aload_n (pn := 1) K rfl 0 rfl dX8_walls_0 ?_
  refine g_iload_n (pn := 2) K rfl 1 rfl dX8_walls_1 ?_
  obtain ⟨v2, hc1, h⟩ := ob_e h
  refine g_callV1 (pn := 5) (As := [.int a1]) (rest := []) (a := 0) K rfl (d' := 0) (Nat.le_of_ble_eq_true rfl) mv_X8_171 (recvO K lx_0 rfl) (w_x_sheetAt hc1) rfl rfl (Nat.le_of_ble_eq_true rfl) dX8_walls_2 ?_
  rcases v2 with _ | t3
  · replace h := oc_n h
    refine g_astoreN (pn := 7) (lv' := [(5, .null), (0, .ref (X.2.2.2.1 0)), (1, .int a1), (2, .int a2), (3, .int a3), (4, .int a4)]) K rfl dX8_walls_5 (Nat.le_of_ble_eq_true rfl) rfl ?_
    refine g_aloadN (pn := 9) K rfl 0 rfl dX8_walls_7 ?_
    refine g_ifnullN (tgt := 33) K (by decide) dX8_walls_9 ?_
    refine g_bipush (pn := 35) (v := (-2)) K rfl bp_m2 dX8_walls_33 ?_
    exact g_iret K dX8_walls_35 (oi2 h).2 (oi2 h).1
  · replace h := oc_s h
    have ht3 : isSheet t3 := sheetAt_is hc1
    refine g_astore (pn := 7) (lv' := [(5, .ref (X.2.2.2.1 t3)), (0, .ref (X.2.2.2.1 0)), (1, .int a1), (2, .int a2), (3, .int a3), (4, .int a4)]) K rfl dX8_walls_5 (Nat.le_of_ble_eq_true rfl) rfl ?_
    refine g_aload (pn := 9) K rfl 0 rfl dX8_walls_7 ?_
    refine g_ifnull (pn := 12) K rfl dX8_walls_9 ?_
    refine g_iload_n (pn := 13) K rfl 3 rfl dX8_walls_12 ?_
    refine g_if_lt (tgt := 33) (pn := 16) K rfl (by decide) dX8_walls_13 h (fun h => ?_) (fun h => ?_)
    · refine g_bipush (pn := 35) (v := (-2)) K rfl bp_m2 dX8_walls_33 ?_
      exact g_iret K dX8_walls_35 (oi2 h).2 (oi2 h).1
    · refine g_iload_n (pn := 17) K rfl 3 rfl dX8_walls_16 ?_
      refine g_iconst (pn := 18) (v := 3) K rfl ic_3 dX8_walls_17 ?_
      refine g_icmp_ge (tgt := 33) (pn := 21) K rfl (by decide) dX8_walls_18 h (fun h => ?_) (fun h => ?_)
      · refine g_bipush (pn := 35) (v := (-2)) K rfl bp_m2 dX8_walls_33 ?_
        exact g_iret K dX8_walls_35 (oi2 h).2 (oi2 h).1
      · refine g_iload (pn := 23) K rfl 5 rfl dX8_walls_21 ?_
        refine g_if_lt (tgt := 33) (pn := 26) K rfl (by decide) dX8_walls_23 h (fun h => ?_) (fun h => ?_)
        · refine g_bipush (pn := 35) (v := (-2)) K rfl bp_m2 dX8_walls_33 ?_
          exact g_iret K dX8_walls_35 (oi2 h).2 (oi2 h).1
        · refine g_iload (pn := 28) K rfl 5 rfl dX8_walls_26 ?_
          refine g_bipush (pn := 30) (v := 6) K rfl bp_6 dX8_walls_28 ?_
          refine g_icmp_le (tgt := 36) (pn := 33) K rfl (by decide) dX8_walls_30 h (fun h => ?_) (fun h => ?_)
          · refine g_aload (pn := 38) K rfl 0 rfl dX8_walls_36 ?_
            obtain ⟨v5, hc4, h⟩ := ob_e h
            refine g_callV1 (pn := 41) (As := []) (rest := []) (a := t3) K rfl (d' := 0) (Nat.le_of_ble_eq_true rfl) mv_X8_179 (recvO K (lxSheet ht3) rfl) (w_f_Sheet_isMissing ht3 hc4) rfl rfl (Nat.le_of_ble_eq_true rfl) dX8_walls_38 ?_
            refine g_ifB_eq (tgt := 47) (pn := 44) K rfl (by decide) dX8_walls_41 h (fun h => ?_) (fun h => ?_)
            · refine g_aload (pn := 49) K rfl 0 rfl dX8_walls_47 ?_
              refine g_geti (pn := 52) K rfl fl_X8_298 (lxSheet ht3) rfl dX8_walls_49 ?_
              refine g_iload_n (pn := 53) K rfl 3 rfl dX8_walls_52 ?_
              refine g_icmp_eq (tgt := 59) (pn := 56) K rfl (by decide) dX8_walls_53 h (fun h => ?_) (fun h => ?_)
              · refine g_iconst (pn := 60) (v := 0) K rfl ic_0 dX8_walls_59 ?_
                refine g_istore (pn := 62) (lv' := [(6, .int 0), (5, .ref (X.2.2.2.1 t3)), (0, .ref (X.2.2.2.1 0)), (1, .int a1), (2, .int a2), (3, .int a3), (4, .int a4)]) K rfl dX8_walls_60 (Nat.le_of_ble_eq_true rfl) rfl ?_
                refine g_iconst (pn := 63) (v := 0) K rfl ic_0 dX8_walls_62 ?_
                refine g_istore (pn := 65) (lv' := [(7, .int 0), (6, .int 0), (5, .ref (X.2.2.2.1 t3)), (0, .ref (X.2.2.2.1 0)), (1, .int a1), (2, .int a2), (3, .int a3), (4, .int a4)]) K rfl dX8_walls_63 (Nat.le_of_ble_eq_true rfl) rfl ?_
                refine jp_e2 h (fun v6 M7 => G layX X Γ 9 (QM layX X Γ (some (.int r)) M') 138 [(6, .int v6)] [] M7) (fun v6 M7 h => ?_) (fun j8 hj8 h => ?_)
                · refine g_iload (pn := 140) K rfl 0 rfl dX8_walls_138 ?_
                  exact g_iret K dX8_walls_140 (oi2 h).2 (oi2 h).1
                have LP65 : ∀ (fu12 : Nat) (v9 : Int32) (v10 : Int32) (M11 : Mem), x_walls_L65 a3 a4 t3 j8 fu12 v9 v10 M11 = some (M', r) → G layX X Γ 9 (QM layX X Γ (some (.int r)) M') 65 [(5, .ref (X.2.2.2.1 t3)), (0, .ref (X.2.2.2.1 0)), (3, .int a3), (4, .int a4), (6, .int v9), (7, .int v10)] [] M11 := by
                  intro fu12
                  induction fu12 with
                  | zero =>
                    intro v9 v10 M11 h
                    rw [x_walls_L65] at h
                    cases h
                  | succ fu12 ih12 =>
                    intro v9 v10 M11 h
                    rw [x_walls_L65] at h
                    refine g_iload (pn := 67) K rfl 5 rfl dX8_walls_65 ?_
                    refine g_iload (pn := 69) K rfl 3 rfl dX8_walls_67 ?_
                    refine g_icmp_ge (tgt := 138) (pn := 72) K rfl (by decide) dX8_walls_69 h (fun h => ?_) (fun h => ?_)
                    · refine g_sub [4] rfl ?_
                      exact hj8 _ _ h
                    · refine g_iload_n (pn := 73) K rfl 2 rfl dX8_walls_72 ?_
                      refine g_iconst (pn := 74) (v := 3) K rfl ic_3 dX8_walls_73 ?_
                      refine g_iload (pn := 76) K rfl 5 rfl dX8_walls_74 ?_
                      refine g_imul (pn := 77) K rfl dX8_walls_76 ?_
                      refine g_iadd (pn := 78) K rfl dX8_walls_77 ?_
                      refine g_nmi h (fun v13 h => ?_)
                      refine g_istore (pn := 80) (lv' := [(8, .int v13), (5, .ref (X.2.2.2.1 t3)), (0, .ref (X.2.2.2.1 0)), (3, .int a3), (4, .int a4), (6, .int v9), (7, .int v10)]) K rfl dX8_walls_78 (Nat.le_of_ble_eq_true rfl) rfl ?_
                      refine g_aload (pn := 82) K rfl 1 rfl dX8_walls_80 ?_
                      refine g_iload (pn := 84) K rfl 0 rfl dX8_walls_82 ?_
                      refine g_iconst (pn := 85) (v := 3) K rfl ic_3 dX8_walls_84 ?_
                      obtain ⟨v15, hc14, h⟩ := ob_e h
                      refine g_callV1 (pn := 88) (As := [.int v13, .int 3]) (rest := []) (a := t3) K rfl (d' := 0) (Nat.le_of_ble_eq_true rfl) mv_X8_301 (recvO K (lxSheet ht3) rfl) (w_f_Sheet_hasRun ht3 hc14) rfl rfl (Nat.le_of_ble_eq_true rfl) dX8_walls_85 ?_
                      refine g_ifB_ne (tgt := 94) (pn := 91) K rfl (by decide) dX8_walls_88 h (fun h => ?_) (fun h => ?_)
                      · refine g_aload_n (pn := 95) K rfl 2 rfl dX8_walls_94 ?_
                        refine g_aload (pn := 97) K rfl 1 rfl dX8_walls_95 ?_
                        refine g_getr (pn := 100) (j := (t3 + 1)) K rfl fl_X8_187 (lxSheet ht3) rfl dX8_walls_97 ?_
                        refine g_iload (pn := 102) K rfl 0 rfl dX8_walls_100 ?_
                        refine g_iald (pn := 103) K rfl (lxSheet1 ht3) dX8_walls_102 h (fun h => ?_)
                        refine g_aload (pn := 105) K rfl 1 rfl dX8_walls_103 ?_
                        refine g_getr (pn := 108) (j := (t3 + 1)) K rfl fl_X8_187 (lxSheet ht3) rfl dX8_walls_105 ?_
                        refine g_iload (pn := 110) K rfl 0 rfl dX8_walls_108 ?_
                        refine g_iconst (pn := 111) (v := 1) K rfl ic_1 dX8_walls_110 ?_
                        refine g_iadd (pn := 112) K rfl dX8_walls_111 ?_
                        refine g_iald (pn := 113) K rfl (lxSheet1 ht3) dX8_walls_112 h (fun h => ?_)
                        refine g_aload (pn := 115) K rfl 1 rfl dX8_walls_113 ?_
                        refine g_getr (pn := 118) (j := (t3 + 1)) K rfl fl_X8_187 (lxSheet ht3) rfl dX8_walls_115 ?_
                        refine g_iload (pn := 120) K rfl 0 rfl dX8_walls_118 ?_
                        refine g_iconst (pn := 121) (v := 2) K rfl ic_2 dX8_walls_120 ?_
                        refine g_iadd (pn := 122) K rfl dX8_walls_121 ?_
                        refine g_iald (pn := 123) K rfl (lxSheet1 ht3) dX8_walls_122 h (fun h => ?_)
                        obtain ⟨M17, v18, hc16, h⟩ := ob2_e h
                        refine g_callV1 (pn := 126) (As := [.int (M11 (t3 + 1) v13.toNatClampNeg), .int (M11 (t3 + 1) (v13 + 1).toNatClampNeg), .int (M11 (t3 + 1) (v13 + 2).toNatClampNeg)]) (rest := []) (a := 0) K rfl (d' := 1) (Nat.le_of_ble_eq_true rfl) mv_X8_311 (recvO K lx_0 rfl) (w_x_wall hc16) rfl rfl (Nat.le_of_ble_eq_true rfl) dX8_walls_123 ?_
                        refine g_if_lt (tgt := 132) (pn := 129) K rfl (by decide) dX8_walls_126 h (fun h => ?_) (fun h => ?_)
                        · obtain ⟨v19, ev19, h⟩ := bnd_e h
                          refine g_iinc (pn := 135) (v := v19) (lv' := [(7, .int v19), (8, .int v13), (5, .ref (X.2.2.2.1 t3)), (0, .ref (X.2.2.2.1 0)), (3, .int a3), (4, .int a4), (6, .int v9)]) K rfl 6 rfl ii_1 ev19 dX8_walls_132 (Nat.le_of_ble_eq_true rfl) rfl ?_
                          refine g_goto (tgt := 65) K (by decide) dX8_walls_135 ?_
                          refine g_sub [2, 3, 4, 5, 6, 0] rfl ?_
                          exact ih12 _ _ _ h
                        · obtain ⟨v20, ev20, h⟩ := bnd_e h
                          refine g_iinc (pn := 132) (v := v20) (lv' := [(6, .int v20), (8, .int v13), (5, .ref (X.2.2.2.1 t3)), (0, .ref (X.2.2.2.1 0)), (3, .int a3), (4, .int a4), (7, .int v10)]) K rfl 5 rfl ii_1 ev20 dX8_walls_129 (Nat.le_of_ble_eq_true rfl) rfl ?_
                          obtain ⟨v21, ev21, h⟩ := bnd_e h
                          refine g_iinc (pn := 135) (v := v21) (lv' := [(7, .int v21), (6, .int v20), (8, .int v13), (5, .ref (X.2.2.2.1 t3)), (0, .ref (X.2.2.2.1 0)), (3, .int a3), (4, .int a4)]) K rfl 6 rfl ii_1 ev21 dX8_walls_132 (Nat.le_of_ble_eq_true rfl) rfl ?_
                          refine g_goto (tgt := 65) K (by decide) dX8_walls_135 ?_
                          refine g_sub [3, 4, 5, 6, 1, 0] rfl ?_
                          exact ih12 _ _ _ h
                      · refine g_bipush (pn := 93) (v := (-12)) K rfl bp_m12 dX8_walls_91 ?_
                        exact g_iret K dX8_walls_93 (oi2 h).2 (oi2 h).1
                refine g_sub [2, 3, 6, 7, 1, 0] rfl ?_
                exact LP65 FU _ _ _ h
              · refine g_bipush (pn := 58) (v := (-13)) K rfl bp_m13 dX8_walls_56 ?_
                exact g_iret K dX8_walls_58 (oi2 h).2 (oi2 h).1
            · refine g_bipush (pn := 46) (v := (-11)) K rfl bp_m11 dX8_walls_44 ?_
              exact g_iret K dX8_walls_46 (oi2 h).2 (oi2 h).1
          · refine g_bipush (pn := 35) (v := (-2)) K rfl bp_m2 dX8_walls_33 ?_
            exact g_iret K dX8_walls_35 (oi2 h).2 (oi2 h).1
set_option maxHeartbeats 4000000 in
set_option maxRecDepth 20000 in
theorem w_x_taken {X : XT} {M : Mem} {a1 : Int32} {a2 : Int32} {r : Int32}   (h : x_taken M a1 a2 = some r) : CT layX X 1 yX8_taken cX8_taken 3 (some .int) [.ref (X.2.2.2.1 0), .int a1, .int a2] M M (some (.int r)) := by
  refine CT.of rfl (Nat.le_of_ble_eq_true rfl) (lv := [(0, .ref (X.2.2.2.1 0)), (1, .int a1), (2, .int a2)]) rfl (fun Γ K => ?_)
  have K : Kx layX X Γ RX8 cX8_taken 3 1 (some .int) := K
  unfold x_taken at h
  refine g_iload_n (pn := 1) K rfl 2 rfl dX8_taken_0 ?_
  obtain ⟨v2, hc1, h⟩ := ob_e h
  refine g_callS1 (pn := 4) (As := [.int a2]) (rest := []) K rfl (d' := 0) (Nat.le_of_ble_eq_true rfl) ms_X8_107 (w_x_isKind hc1) rfl rfl (Nat.le_of_ble_eq_true rfl) dX8_taken_1 ?_
  refine g_ifB_ne (tgt := 10) (pn := 7) K rfl (by decide) dX8_taken_4 h (fun h => ?_) (fun h => ?_)
  · refine g_aload_n (pn := 11) K rfl 0 rfl dX8_taken_10 ?_
    refine g_getr (pn := 14) (j := 1) K rfl fl_X8_10 lx_0 rfl dX8_taken_11 ?_
    refine g_iload_n (pn := 15) K rfl 1 rfl dX8_taken_14 ?_
    obtain ⟨v4, hc3, h⟩ := ob_e h
    refine g_callV1 (pn := 18) (As := [.int a1]) (rest := []) (a := 1) K rfl (d' := 0) (Nat.le_of_ble_eq_true rfl) mv_X8_99 (recvO K lx_1 rfl) (w_f_Site_has (Or.inl rfl) hc3) rfl rfl (Nat.le_of_ble_eq_true rfl) dX8_taken_15 ?_
    refine g_ifB_ne (tgt := 24) (pn := 21) K rfl (by decide) dX8_taken_18 h (fun h => ?_) (fun h => ?_)
    · refine g_aload_n (pn := 25) K rfl 0 rfl dX8_taken_24 ?_
      refine g_getr (pn := 28) (j := 1) K rfl fl_X8_10 lx_0 rfl dX8_taken_25 ?_
      refine g_getr (pn := 31) (j := 3) K rfl fl_X8_113 lx_1 rfl dX8_taken_28 ?_
      refine g_iload_n (pn := 32) K rfl 1 rfl dX8_taken_31 ?_
      refine g_iald (pn := 33) K rfl lx_3 dX8_taken_32 h (fun h => ?_)
      refine g_iload_n (pn := 34) K rfl 2 rfl dX8_taken_33 ?_
      obtain ⟨v6, hc5, h⟩ := ob_e h
      refine g_callS1 (pn := 37) (As := [.int (M 3 a1.toNatClampNeg), .int a2]) (rest := []) K rfl (d' := 0) (Nat.le_of_ble_eq_true rfl) ms_X8_314 (w_f_Kind_isUnder hc5) rfl rfl (Nat.le_of_ble_eq_true rfl) dX8_taken_34 ?_
      refine g_ifB_eq (tgt := 52) (pn := 40) K rfl (by decide) dX8_taken_37 h (fun h => ?_) (fun h => ?_)
      · refine g_bipush (pn := 54) (v := (-13)) K rfl bp_m13 dX8_taken_52 ?_
        exact g_iret K dX8_taken_54 (oi h) rfl
      · refine g_aload_n (pn := 41) K rfl 0 rfl dX8_taken_40 ?_
        refine g_getr (pn := 44) (j := 1) K rfl fl_X8_10 lx_0 rfl dX8_taken_41 ?_
        refine g_getr (pn := 47) (j := 4) K rfl fl_X8_116 lx_1 rfl dX8_taken_44 ?_
        refine g_iload_n (pn := 48) K rfl 1 rfl dX8_taken_47 ?_
        refine g_iald (pn := 49) K rfl lx_4 dX8_taken_48 h (fun h => ?_)
        refine g_goto (tgt := 54) K (by decide) dX8_taken_49 ?_
        exact g_iret K dX8_taken_54 (oi h) rfl
    · refine g_bipush (pn := 23) (v := (-11)) K rfl bp_m11 dX8_taken_21 ?_
      exact g_iret K dX8_taken_23 (oi h) rfl
  · refine g_bipush (pn := 9) (v := (-2)) K rfl bp_m2 dX8_taken_7 ?_
    exact g_iret K dX8_taken_9 (oi h) rfl
