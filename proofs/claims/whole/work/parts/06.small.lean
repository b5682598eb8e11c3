/-! printed by gen1.py -/
theorem dX1_ripens_0 : decode cX1_ripens 0 = .ok (.iload_n 2, 1) := by decide +kernel
theorem dX1_ripens_1 : decode cX1_ripens 1 = .ok (.ifCond .eq 7, 3) := by decide +kernel
theorem dX1_ripens_4 : decode cX1_ripens 4 = .ok (.iload_n 1, 1) := by decide +kernel
theorem dX1_ripens_5 : decode cX1_ripens 5 = .ok (.goto 6, 3) := by decide +kernel
theorem dX1_ripens_8 : decode cX1_ripens 8 = .ok (.iconst 3, 1) := by decide +kernel
theorem dX1_ripens_9 : decode cX1_ripens 9 = .ok (.iload_n 1, 1) := by decide +kernel
theorem dX1_ripens_10 : decode cX1_ripens 10 = .ok (.imul, 1) := by decide +kernel
theorem dX1_ripens_11 : decode cX1_ripens 11 = .ok (.istore 4, 2) := by decide +kernel
theorem dX1_ripens_13 : decode cX1_ripens 13 = .ok (.iload_n 0, 1) := by decide +kernel
theorem dX1_ripens_14 : decode cX1_ripens 14 = .ok (.tableswitch 78 1 4 #[30, 39, 49, 60], 30) := by decide +kernel
theorem dX1_ripens_44 : decode cX1_ripens 44 = .ok (.iconst 1, 1) := by decide +kernel
theorem dX1_ripens_45 : decode cX1_ripens 45 = .ok (.iload_n 3, 1) := by decide +kernel
theorem dX1_ripens_46 : decode cX1_ripens 46 = .ok (.iload 4, 2) := by decide +kernel
theorem dX1_ripens_48 : decode cX1_ripens 48 = .ok (.isub, 1) := by decide +kernel
theorem dX1_ripens_49 : decode cX1_ripens 49 = .ok (.invokestatic 9, 3) := by decide +kernel
theorem dX1_ripens_52 : decode cX1_ripens 52 = .ok (.ireturn, 1) := by decide +kernel
theorem dX1_ripens_53 : decode cX1_ripens 53 = .ok (.iconst 1, 1) := by decide +kernel
theorem dX1_ripens_54 : decode cX1_ripens 54 = .ok (.iload_n 3, 1) := by decide +kernel
theorem dX1_ripens_55 : decode cX1_ripens 55 = .ok (.iconst 2, 1) := by decide +kernel
theorem dX1_ripens_56 : decode cX1_ripens 56 = .ok (.iload_n 1, 1) := by decide +kernel
theorem dX1_ripens_57 : decode cX1_ripens 57 = .ok (.imul, 1) := by decide +kernel
theorem dX1_ripens_58 : decode cX1_ripens 58 = .ok (.iadd, 1) := by decide +kernel
theorem dX1_ripens_59 : decode cX1_ripens 59 = .ok (.invokestatic 9, 3) := by decide +kernel
theorem dX1_ripens_62 : decode cX1_ripens 62 = .ok (.ireturn, 1) := by decide +kernel
theorem dX1_ripens_63 : decode cX1_ripens 63 = .ok (.iconst 1, 1) := by decide +kernel
theorem dX1_ripens_64 : decode cX1_ripens 64 = .ok (.iload_n 3, 1) := by decide +kernel
theorem dX1_ripens_65 : decode cX1_ripens 65 = .ok (.iload 4, 2) := by decide +kernel
theorem dX1_ripens_67 : decode cX1_ripens 67 = .ok (.isub, 1) := by decide +kernel
theorem dX1_ripens_68 : decode cX1_ripens 68 = .ok (.iconst 2, 1) := by decide +kernel
theorem dX1_ripens_69 : decode cX1_ripens 69 = .ok (.idiv, 1) := by decide +kernel
theorem dX1_ripens_70 : decode cX1_ripens 70 = .ok (.invokestatic 9, 3) := by decide +kernel
theorem dX1_ripens_73 : decode cX1_ripens 73 = .ok (.ireturn, 1) := by decide +kernel
theorem dX1_ripens_74 : decode cX1_ripens 74 = .ok (.iconst 1, 1) := by decide +kernel
theorem dX1_ripens_75 : decode cX1_ripens 75 = .ok (.iload_n 2, 1) := by decide +kernel
theorem dX1_ripens_76 : decode cX1_ripens 76 = .ok (.ifCond .eq 7, 3) := by decide +kernel
theorem dX1_ripens_79 : decode cX1_ripens 79 = .ok (.iload_n 3, 1) := by decide +kernel
theorem dX1_ripens_80 : decode cX1_ripens 80 = .ok (.goto 8, 3) := by decide +kernel
theorem dX1_ripens_83 : decode cX1_ripens 83 = .ok (.iload_n 3, 1) := by decide +kernel
theorem dX1_ripens_84 : decode cX1_ripens 84 = .ok (.iconst 2, 1) := by decide +kernel
theorem dX1_ripens_85 : decode cX1_ripens 85 = .ok (.iload_n 1, 1) := by decide +kernel
theorem dX1_ripens_86 : decode cX1_ripens 86 = .ok (.imul, 1) := by decide +kernel
theorem dX1_ripens_87 : decode cX1_ripens 87 = .ok (.iadd, 1) := by decide +kernel
theorem dX1_ripens_88 : decode cX1_ripens 88 = .ok (.invokestatic 9, 3) := by decide +kernel
theorem dX1_ripens_91 : decode cX1_ripens 91 = .ok (.ireturn, 1) := by decide +kernel
theorem dX1_ripens_92 : decode cX1_ripens 92 = .ok (.iconst 1, 1) := by decide +kernel
theorem dX1_ripens_93 : decode cX1_ripens 93 = .ok (.iload_n 3, 1) := by decide +kernel
theorem dX1_ripens_94 : decode cX1_ripens 94 = .ok (.invokestatic 9, 3) := by decide +kernel
theorem dX1_ripens_97 : decode cX1_ripens 97 = .ok (.ireturn, 1) := by decide +kernel
theorem dX1_lasts_0 : decode cX1_lasts 0 = .ok (.iload_n 0, 1) := by decide +kernel
theorem dX1_lasts_1 : decode cX1_lasts 1 = .ok (.tableswitch 56 1 4 #[31, 56, 42, 53], 31) := by decide +kernel
theorem dX1_lasts_32 : decode cX1_lasts 32 = .ok (.iconst 0, 1) := by decide +kernel
theorem dX1_lasts_33 : decode cX1_lasts 33 = .ok (.bipush 10, 2) := by decide +kernel
theorem dX1_lasts_35 : decode cX1_lasts 35 = .ok (.iload_n 1, 1) := by decide +kernel
theorem dX1_lasts_36 : decode cX1_lasts 36 = .ok (.iconst 2, 1) := by decide +kernel
theorem dX1_lasts_37 : decode cX1_lasts 37 = .ok (.idiv, 1) := by decide +kernel
theorem dX1_lasts_38 : decode cX1_lasts 38 = .ok (.isub, 1) := by decide +kernel
theorem dX1_lasts_39 : decode cX1_lasts 39 = .ok (.invokestatic 9, 3) := by decide +kernel
theorem dX1_lasts_42 : decode cX1_lasts 42 = .ok (.ireturn, 1) := by decide +kernel
theorem dX1_lasts_43 : decode cX1_lasts 43 = .ok (.iconst 0, 1) := by decide +kernel
theorem dX1_lasts_44 : decode cX1_lasts 44 = .ok (.bipush 8, 2) := by decide +kernel
theorem dX1_lasts_46 : decode cX1_lasts 46 = .ok (.iload_n 1, 1) := by decide +kernel
theorem dX1_lasts_47 : decode cX1_lasts 47 = .ok (.iconst 2, 1) := by decide +kernel
theorem dX1_lasts_48 : decode cX1_lasts 48 = .ok (.idiv, 1) := by decide +kernel
theorem dX1_lasts_49 : decode cX1_lasts 49 = .ok (.isub, 1) := by decide +kernel
theorem dX1_lasts_50 : decode cX1_lasts 50 = .ok (.invokestatic 9, 3) := by decide +kernel
theorem dX1_lasts_53 : decode cX1_lasts 53 = .ok (.ireturn, 1) := by decide +kernel
theorem dX1_lasts_54 : decode cX1_lasts 54 = .ok (.bipush 15, 2) := by decide +kernel
theorem dX1_lasts_56 : decode cX1_lasts 56 = .ok (.ireturn, 1) := by decide +kernel
theorem dX1_lasts_57 : decode cX1_lasts 57 = .ok (.bipush 10, 2) := by decide +kernel
theorem dX1_lasts_59 : decode cX1_lasts 59 = .ok (.ireturn, 1) := by decide +kernel
theorem dX1_takes_0 : decode cX1_takes 0 = .ok (.iload_n 0, 1) := by decide +kernel
theorem dX1_takes_1 : decode cX1_takes 1 = .ok (.lookupswitch 47 #[(3, 27), (5, 37)], 27) := by decide +kernel
theorem dX1_takes_28 : decode cX1_takes 28 = .ok (.iconst 1, 1) := by decide +kernel
theorem dX1_takes_29 : decode cX1_takes 29 = .ok (.iload_n 1, 1) := by decide +kernel
theorem dX1_takes_30 : decode cX1_takes 30 = .ok (.iload_n 2, 1) := by decide +kernel
theorem dX1_takes_31 : decode cX1_takes 31 = .ok (.imul, 1) := by decide +kernel
theorem dX1_takes_32 : decode cX1_takes 32 = .ok (.iconst 3, 1) := by decide +kernel
theorem dX1_takes_33 : decode cX1_takes 33 = .ok (.iadd, 1) := by decide +kernel
theorem dX1_takes_34 : decode cX1_takes 34 = .ok (.invokestatic 9, 3) := by decide +kernel
theorem dX1_takes_37 : decode cX1_takes 37 = .ok (.ireturn, 1) := by decide +kernel
theorem dX1_takes_38 : decode cX1_takes 38 = .ok (.iconst 1, 1) := by decide +kernel
theorem dX1_takes_39 : decode cX1_takes 39 = .ok (.iconst 2, 1) := by decide +kernel
theorem dX1_takes_40 : decode cX1_takes 40 = .ok (.iload_n 1, 1) := by decide +kernel
theorem dX1_takes_41 : decode cX1_takes 41 = .ok (.imul, 1) := by decide +kernel
theorem dX1_takes_42 : decode cX1_takes 42 = .ok (.iload_n 2, 1) := by decide +kernel
theorem dX1_takes_43 : decode cX1_takes 43 = .ok (.imul, 1) := by decide +kernel
theorem dX1_takes_44 : decode cX1_takes 44 = .ok (.invokestatic 9, 3) := by decide +kernel
theorem dX1_takes_47 : decode cX1_takes 47 = .ok (.ireturn, 1) := by decide +kernel
theorem dX1_takes_48 : decode cX1_takes 48 = .ok (.iconst 1, 1) := by decide +kernel
theorem dX1_takes_49 : decode cX1_takes 49 = .ok (.iload_n 1, 1) := by decide +kernel
theorem dX1_takes_50 : decode cX1_takes 50 = .ok (.iload_n 2, 1) := by decide +kernel
theorem dX1_takes_51 : decode cX1_takes 51 = .ok (.imul, 1) := by decide +kernel
theorem dX1_takes_52 : decode cX1_takes 52 = .ok (.invokestatic 9, 3) := by decide +kernel
theorem dX1_takes_55 : decode cX1_takes 55 = .ok (.ireturn, 1) := by decide +kernel
theorem dX1_isUnder_0 : decode cX1_isUnder 0 = .ok (.iload_n 1, 1) := by decide +kernel
theorem dX1_isUnder_1 : decode cX1_isUnder 1 = .ok (.tableswitch 61 0 2 #[27, 29, 45], 27) := by decide +kernel
theorem dX1_isUnder_28 : decode cX1_isUnder 28 = .ok (.iconst 1, 1) := by decide +kernel
theorem dX1_isUnder_29 : decode cX1_isUnder 29 = .ok (.ireturn, 1) := by decide +kernel
theorem dX1_isUnder_30 : decode cX1_isUnder 30 = .ok (.iload_n 0, 1) := by decide +kernel
theorem dX1_isUnder_31 : decode cX1_isUnder 31 = .ok (.iconst 1, 1) := by decide +kernel
theorem dX1_isUnder_32 : decode cX1_isUnder 32 = .ok (.if_icmp .eq 8, 3) := by decide +kernel
theorem dX1_isUnder_35 : decode cX1_isUnder 35 = .ok (.iload_n 0, 1) := by decide +kernel
theorem dX1_isUnder_36 : decode cX1_isUnder 36 = .ok (.iconst 3, 1) := by decide +kernel
theorem dX1_isUnder_37 : decode cX1_isUnder 37 = .ok (.if_icmp .ne 7, 3) := by decide +kernel
theorem dX1_isUnder_40 : decode cX1_isUnder 40 = .ok (.iconst 1, 1) := by decide +kernel
theorem dX1_isUnder_41 : decode cX1_isUnder 41 = .ok (.goto 4, 3) := by decide +kernel
theorem dX1_isUnder_44 : decode cX1_isUnder 44 = .ok (.iconst 0, 1) := by decide +kernel
theorem dX1_isUnder_45 : decode cX1_isUnder 45 = .ok (.ireturn, 1) := by decide +kernel
theorem dX1_isUnder_46 : decode cX1_isUnder 46 = .ok (.iload_n 0, 1) := by decide +kernel
theorem dX1_isUnder_47 : decode cX1_isUnder 47 = .ok (.iconst 2, 1) := by decide +kernel
theorem dX1_isUnder_48 : decode cX1_isUnder 48 = .ok (.if_icmp .eq 8, 3) := by decide +kernel
theorem dX1_isUnder_51 : decode cX1_isUnder 51 = .ok (.iload_n 0, 1) := by decide +kernel
theorem dX1_isUnder_52 : decode cX1_isUnder 52 = .ok (.iconst 4, 1) := by decide +kernel
theorem dX1_isUnder_53 : decode cX1_isUnder 53 = .ok (.if_icmp .ne 7, 3) := by decide +kernel
theorem dX1_isUnder_56 : decode cX1_isUnder 56 = .ok (.iconst 1, 1) := by decide +kernel
theorem dX1_isUnder_57 : decode cX1_isUnder 57 = .ok (.goto 4, 3) := by decide +kernel
theorem dX1_isUnder_60 : decode cX1_isUnder 60 = .ok (.iconst 0, 1) := by decide +kernel
theorem dX1_isUnder_61 : decode cX1_isUnder 61 = .ok (.ireturn, 1) := by decide +kernel
theorem dX1_isUnder_62 : decode cX1_isUnder 62 = .ok (.iload_n 0, 1) := by decide +kernel
theorem dX1_isUnder_63 : decode cX1_isUnder 63 = .ok (.iload_n 1, 1) := by decide +kernel
theorem dX1_isUnder_64 : decode cX1_isUnder 64 = .ok (.if_icmp .ne 7, 3) := by decide +kernel
theorem dX1_isUnder_67 : decode cX1_isUnder 67 = .ok (.iconst 1, 1) := by decide +kernel
theorem dX1_isUnder_68 : decode cX1_isUnder 68 = .ok (.goto 4, 3) := by decide +kernel
theorem dX1_isUnder_71 : decode cX1_isUnder 71 = .ok (.iconst 0, 1) := by decide +kernel
theorem dX1_isUnder_72 : decode cX1_isUnder 72 = .ok (.ireturn, 1) := by decide +kernel
theorem dX2_clear_0 : decode cX2_clear 0 = .ok (.aload_n 0, 1) := by decide +kernel
theorem dX2_clear_1 : decode cX2_clear 1 = .ok (.iconst 0, 1) := by decide +kernel
theorem dX2_clear_2 : decode cX2_clear 2 = .ok (.putfield 7, 3) := by decide +kernel
theorem dX2_clear_5 : decode cX2_clear 5 = .ok (.return_, 1) := by decide +kernel
theorem dX2_offer_0 : decode cX2_offer 0 = .ok (.aload_n 0, 1) := by decide +kernel
theorem dX2_offer_1 : decode cX2_offer 1 = .ok (.getfield 7, 3) := by decide +kernel
theorem dX2_offer_4 : decode cX2_offer 4 = .ok (.ifCond .eq 27, 3) := by decide +kernel
theorem dX2_offer_7 : decode cX2_offer 7 = .ok (.iload_n 2, 1) := by decide +kernel
theorem dX2_offer_8 : decode cX2_offer 8 = .ok (.aload_n 0, 1) := by decide +kernel
theorem dX2_offer_9 : decode cX2_offer 9 = .ok (.getfield 13, 3) := by decide +kernel
theorem dX2_offer_12 : decode cX2_offer 12 = .ok (.if_icmp .lt 19, 3) := by decide +kernel
theorem dX2_offer_15 : decode cX2_offer 15 = .ok (.iload_n 2, 1) := by decide +kernel
theorem dX2_offer_16 : decode cX2_offer 16 = .ok (.aload_n 0, 1) := by decide +kernel
theorem dX2_offer_17 : decode cX2_offer 17 = .ok (.getfield 13, 3) := by decide +kernel
theorem dX2_offer_20 : decode cX2_offer 20 = .ok (.if_icmp .ne 31, 3) := by decide +kernel
theorem dX2_offer_23 : decode cX2_offer 23 = .ok (.iload_n 3, 1) := by decide +kernel
theorem dX2_offer_24 : decode cX2_offer 24 = .ok (.aload_n 0, 1) := by decide +kernel
theorem dX2_offer_25 : decode cX2_offer 25 = .ok (.getfield 17, 3) := by decide +kernel
theorem dX2_offer_28 : decode cX2_offer 28 = .ok (.if_icmp .ge 23, 3) := by decide +kernel
theorem dX2_offer_31 : decode cX2_offer 31 = .ok (.aload_n 0, 1) := by decide +kernel
theorem dX2_offer_32 : decode cX2_offer 32 = .ok (.iconst 1, 1) := by decide +kernel
theorem dX2_offer_33 : decode cX2_offer 33 = .ok (.putfield 7, 3) := by decide +kernel
theorem dX2_offer_36 : decode cX2_offer 36 = .ok (.aload_n 0, 1) := by decide +kernel
theorem dX2_offer_37 : decode cX2_offer 37 = .ok (.iload_n 1, 1) := by decide +kernel
theorem dX2_offer_38 : decode cX2_offer 38 = .ok (.putfield 20, 3) := by decide +kernel
theorem dX2_offer_41 : decode cX2_offer 41 = .ok (.aload_n 0, 1) := by decide +kernel
theorem dX2_offer_42 : decode cX2_offer 42 = .ok (.iload_n 2, 1) := by decide +kernel
theorem dX2_offer_43 : decode cX2_offer 43 = .ok (.putfield 13, 3) := by decide +kernel
theorem dX2_offer_46 : decode cX2_offer 46 = .ok (.aload_n 0, 1) := by decide +kernel
theorem dX2_offer_47 : decode cX2_offer 47 = .ok (.iload_n 3, 1) := by decide +kernel
theorem dX2_offer_48 : decode cX2_offer 48 = .ok (.putfield 17, 3) := by decide +kernel
theorem dX2_offer_51 : decode cX2_offer 51 = .ok (.return_, 1) := by decide +kernel
theorem dX4_isMissing_0 : decode cX4_isMissing 0 = .ok (.aload_n 0, 1) := by decide +kernel
theorem dX4_isMissing_1 : decode cX4_isMissing 1 = .ok (.getfield 15, 3) := by decide +kernel
theorem dX4_isMissing_4 : decode cX4_isMissing 4 = .ok (.iconst (-1), 1) := by decide +kernel
theorem dX4_isMissing_5 : decode cX4_isMissing 5 = .ok (.if_icmp .ne 7, 3) := by decide +kernel
theorem dX4_isMissing_8 : decode cX4_isMissing 8 = .ok (.iconst 1, 1) := by decide +kernel
theorem dX4_isMissing_9 : decode cX4_isMissing 9 = .ok (.goto 4, 3) := by decide +kernel
theorem dX4_isMissing_12 : decode cX4_isMissing 12 = .ok (.iconst 0, 1) := by decide +kernel
theorem dX4_isMissing_13 : decode cX4_isMissing 13 = .ok (.ireturn, 1) := by decide +kernel
theorem dX4_has_0 : decode cX4_has 0 = .ok (.iload_n 1, 1) := by decide +kernel
theorem dX4_has_1 : decode cX4_has 1 = .ok (.ifCond .lt 21, 3) := by decide +kernel
theorem dX4_has_4 : decode cX4_has 4 = .ok (.iload_n 1, 1) := by decide +kernel
theorem dX4_has_5 : decode cX4_has 5 = .ok (.aload_n 0, 1) := by decide +kernel
theorem dX4_has_6 : decode cX4_has 6 = .ok (.getfield 19, 3) := by decide +kernel
theorem dX4_has_9 : decode cX4_has 9 = .ok (.if_icmp .ge 13, 3) := by decide +kernel
theorem dX4_has_12 : decode cX4_has 12 = .ok (.iload_n 1, 1) := by decide +kernel
theorem dX4_has_13 : decode cX4_has 13 = .ok (.bipush 40, 2) := by decide +kernel
theorem dX4_has_15 : decode cX4_has 15 = .ok (.if_icmp .ge 7, 3) := by decide +kernel
theorem dX4_has_18 : decode cX4_has 18 = .ok (.iconst 1, 1) := by decide +kernel
theorem dX4_has_19 : decode cX4_has 19 = .ok (.goto 4, 3) := by decide +kernel
theorem dX4_has_22 : decode cX4_has 22 = .ok (.iconst 0, 1) := by decide +kernel
theorem dX4_has_23 : decode cX4_has 23 = .ok (.ireturn, 1) := by decide +kernel
theorem dX4_hasRun_0 : decode cX4_hasRun 0 = .ok (.iload_n 2, 1) := by decide +kernel
theorem dX4_hasRun_1 : decode cX4_hasRun 1 = .ok (.ifCond .lt 29, 3) := by decide +kernel
theorem dX4_hasRun_4 : decode cX4_hasRun 4 = .ok (.iload_n 2, 1) := by decide +kernel
theorem dX4_hasRun_5 : decode cX4_hasRun 5 = .ok (.aload_n 0, 1) := by decide +kernel
theorem dX4_hasRun_6 : decode cX4_hasRun 6 = .ok (.getfield 19, 3) := by decide +kernel
theorem dX4_hasRun_9 : decode cX4_hasRun 9 = .ok (.if_icmp .gt 21, 3) := by decide +kernel
theorem dX4_hasRun_12 : decode cX4_hasRun 12 = .ok (.iload_n 1, 1) := by decide +kernel
theorem dX4_hasRun_13 : decode cX4_hasRun 13 = .ok (.ifCond .lt 17, 3) := by decide +kernel
theorem dX4_hasRun_16 : decode cX4_hasRun 16 = .ok (.iload_n 1, 1) := by decide +kernel
theorem dX4_hasRun_17 : decode cX4_hasRun 17 = .ok (.aload_n 0, 1) := by decide +kernel
theorem dX4_hasRun_18 : decode cX4_hasRun 18 = .ok (.getfield 19, 3) := by decide +kernel
theorem dX4_hasRun_21 : decode cX4_hasRun 21 = .ok (.iload_n 2, 1) := by decide +kernel
theorem dX4_hasRun_22 : decode cX4_hasRun 22 = .ok (.isub, 1) := by decide +kernel
theorem dX4_hasRun_23 : decode cX4_hasRun 23 = .ok (.if_icmp .gt 7, 3) := by decide +kernel
theorem dX4_hasRun_26 : decode cX4_hasRun 26 = .ok (.iconst 1, 1) := by decide +kernel
theorem dX4_hasRun_27 : decode cX4_hasRun 27 = .ok (.goto 4, 3) := by decide +kernel
theorem dX4_hasRun_30 : decode cX4_hasRun 30 = .ok (.iconst 0, 1) := by decide +kernel
theorem dX4_hasRun_31 : decode cX4_hasRun 31 = .ok (.ireturn, 1) := by decide +kernel
theorem dX4_become_0 : decode cX4_become 0 = .ok (.aload_n 0, 1) := by decide +kernel
theorem dX4_become_1 : decode cX4_become 1 = .ok (.iload_n 1, 1) := by decide +kernel
theorem dX4_become_2 : decode cX4_become 2 = .ok (.putfield 15, 3) := by decide +kernel
theorem dX4_become_5 : decode cX4_become 5 = .ok (.aload_n 0, 1) := by decide +kernel
theorem dX4_become_6 : decode cX4_become 6 = .ok (.iload_n 2, 1) := by decide +kernel
theorem dX4_become_7 : decode cX4_become 7 = .ok (.putfield 19, 3) := by decide +kernel
theorem dX4_become_10 : decode cX4_become 10 = .ok (.iconst 0, 1) := by decide +kernel
theorem dX4_become_11 : decode cX4_become 11 = .ok (.istore_n 3, 1) := by decide +kernel
theorem dX4_become_12 : decode cX4_become 12 = .ok (.iload_n 3, 1) := by decide +kernel
theorem dX4_become_13 : decode cX4_become 13 = .ok (.bipush 40, 2) := by decide +kernel
theorem dX4_become_15 : decode cX4_become 15 = .ok (.if_icmp .ge 16, 3) := by decide +kernel
theorem dX4_become_18 : decode cX4_become 18 = .ok (.aload_n 0, 1) := by decide +kernel
theorem dX4_become_19 : decode cX4_become 19 = .ok (.getfield 9, 3) := by decide +kernel
theorem dX4_become_22 : decode cX4_become 22 = .ok (.iload_n 3, 1) := by decide +kernel
theorem dX4_become_23 : decode cX4_become 23 = .ok (.iconst 0, 1) := by decide +kernel
theorem dX4_become_24 : decode cX4_become 24 = .ok (.iastore, 1) := by decide +kernel
theorem dX4_become_25 : decode cX4_become 25 = .ok (.iinc 3 1, 3) := by decide +kernel
theorem dX4_become_28 : decode cX4_become 28 = .ok (.goto (-16), 3) := by decide +kernel
theorem dX4_become_31 : decode cX4_become 31 = .ok (.return_, 1) := by decide +kernel
theorem dX4_put_0 : decode cX4_put 0 = .ok (.aload_n 0, 1) := by decide +kernel
theorem dX4_put_1 : decode cX4_put 1 = .ok (.iload_n 1, 1) := by decide +kernel
theorem dX4_put_2 : decode cX4_put 2 = .ok (.invokevirtual 22, 3) := by decide +kernel
theorem dX4_put_5 : decode cX4_put 5 = .ok (.ifCond .eq 35, 3) := by decide +kernel
theorem dX4_put_8 : decode cX4_put 8 = .ok (.aload_n 0, 1) := by decide +kernel
theorem dX4_put_9 : decode cX4_put 9 = .ok (.getfield 9, 3) := by decide +kernel
theorem dX4_put_12 : decode cX4_put 12 = .ok (.iload_n 1, 1) := by decide +kernel
theorem dX4_put_13 : decode cX4_put 13 = .ok (.aload_n 0, 1) := by decide +kernel
theorem dX4_put_14 : decode cX4_put 14 = .ok (.getfield 15, 3) := by decide +kernel
theorem dX4_put_17 : decode cX4_put 17 = .ok (.ifCond .ne 8, 3) := by decide +kernel
theorem dX4_put_20 : decode cX4_put 20 = .ok (.iload_n 2, 1) := by decide +kernel
theorem dX4_put_21 : decode cX4_put 21 = .ok (.i2b, 1) := by decide +kernel
theorem dX4_put_22 : decode cX4_put 22 = .ok (.goto 17, 3) := by decide +kernel
theorem dX4_put_25 : decode cX4_put 25 = .ok (.aload_n 0, 1) := by decide +kernel
theorem dX4_put_26 : decode cX4_put 26 = .ok (.getfield 15, 3) := by decide +kernel
theorem dX4_put_29 : decode cX4_put 29 = .ok (.iconst 1, 1) := by decide +kernel
theorem dX4_put_30 : decode cX4_put 30 = .ok (.if_icmp .ne 8, 3) := by decide +kernel
theorem dX4_put_33 : decode cX4_put 33 = .ok (.iload_n 2, 1) := by decide +kernel
theorem dX4_put_34 : decode cX4_put 34 = .ok (.i2s, 1) := by decide +kernel
theorem dX4_put_35 : decode cX4_put 35 = .ok (.goto 4, 3) := by decide +kernel
theorem dX4_put_38 : decode cX4_put 38 = .ok (.iload_n 2, 1) := by decide +kernel
theorem dX4_put_39 : decode cX4_put 39 = .ok (.iastore, 1) := by decide +kernel
theorem dX4_put_40 : decode cX4_put 40 = .ok (.return_, 1) := by decide +kernel
theorem dX5_has_0 : decode cX5_has 0 = .ok (.iload_n 1, 1) := by decide +kernel
theorem dX5_has_1 : decode cX5_has 1 = .ok (.ifCond .lt 21, 3) := by decide +kernel
theorem dX5_has_4 : decode cX5_has 4 = .ok (.iload_n 1, 1) := by decide +kernel
theorem dX5_has_5 : decode cX5_has 5 = .ok (.aload_n 0, 1) := by decide +kernel
theorem dX5_has_6 : decode cX5_has 6 = .ok (.getfield 27, 3) := by decide +kernel
theorem dX5_has_9 : decode cX5_has 9 = .ok (.if_icmp .ge 13, 3) := by decide +kernel
theorem dX5_has_12 : decode cX5_has 12 = .ok (.iload_n 1, 1) := by decide +kernel
theorem dX5_has_13 : decode cX5_has 13 = .ok (.bipush 6, 2) := by decide +kernel
theorem dX5_has_15 : decode cX5_has 15 = .ok (.if_icmp .ge 7, 3) := by decide +kernel
theorem dX5_has_18 : decode cX5_has 18 = .ok (.iconst 1, 1) := by decide +kernel
theorem dX5_has_19 : decode cX5_has 19 = .ok (.goto 4, 3) := by decide +kernel
theorem dX5_has_22 : decode cX5_has 22 = .ok (.iconst 0, 1) := by decide +kernel
theorem dX5_has_23 : decode cX5_has 23 = .ok (.ireturn, 1) := by decide +kernel
theorem dX5_turn_0 : decode cX5_turn 0 = .ok (.iload_n 1, 1) := by decide +kernel
theorem dX5_turn_1 : decode cX5_turn 1 = .ok (.ifCond .lt 15, 3) := by decide +kernel
theorem dX5_turn_4 : decode cX5_turn 4 = .ok (.iload_n 1, 1) := by decide +kernel
theorem dX5_turn_5 : decode cX5_turn 5 = .ok (.iconst 5, 1) := by decide +kernel
theorem dX5_turn_6 : decode cX5_turn 6 = .ok (.if_icmp .gt 10, 3) := by decide +kernel
theorem dX5_turn_9 : decode cX5_turn 9 = .ok (.aload_n 0, 1) := by decide +kernel
theorem dX5_turn_10 : decode cX5_turn 10 = .ok (.getfield 9, 3) := by decide +kernel
theorem dX5_turn_13 : decode cX5_turn 13 = .ok (.iload_n 1, 1) := by decide +kernel
theorem dX5_turn_14 : decode cX5_turn 14 = .ok (.iload_n 2, 1) := by decide +kernel
theorem dX5_turn_15 : decode cX5_turn 15 = .ok (.iastore, 1) := by decide +kernel
theorem dX5_turn_16 : decode cX5_turn 16 = .ok (.return_, 1) := by decide +kernel
theorem dX5_rowOf_0 : decode cX5_rowOf 0 = .ok (.iload_n 1, 1) := by decide +kernel
theorem dX5_rowOf_1 : decode cX5_rowOf 1 = .ok (.tableswitch 42 6 8 #[27, 32, 37], 27) := by decide +kernel
theorem dX5_rowOf_28 : decode cX5_rowOf 28 = .ok (.aload_n 0, 1) := by decide +kernel
theorem dX5_rowOf_29 : decode cX5_rowOf 29 = .ok (.getfield 18, 3) := by decide +kernel
theorem dX5_rowOf_32 : decode cX5_rowOf 32 = .ok (.areturn, 1) := by decide +kernel
theorem dX5_rowOf_33 : decode cX5_rowOf 33 = .ok (.aload_n 0, 1) := by decide +kernel
theorem dX5_rowOf_34 : decode cX5_rowOf 34 = .ok (.getfield 21, 3) := by decide +kernel
theorem dX5_rowOf_37 : decode cX5_rowOf 37 = .ok (.areturn, 1) := by decide +kernel
theorem dX5_rowOf_38 : decode cX5_rowOf 38 = .ok (.aload_n 0, 1) := by decide +kernel
theorem dX5_rowOf_39 : decode cX5_rowOf 39 = .ok (.getfield 24, 3) := by decide +kernel
theorem dX5_rowOf_42 : decode cX5_rowOf 42 = .ok (.areturn, 1) := by decide +kernel
theorem dX5_rowOf_43 : decode cX5_rowOf 43 = .ok (.aload_n 0, 1) := by decide +kernel
theorem dX5_rowOf_44 : decode cX5_rowOf 44 = .ok (.getfield 9, 3) := by decide +kernel
theorem dX5_rowOf_47 : decode cX5_rowOf 47 = .ok (.areturn, 1) := by decide +kernel
theorem dX5_add_0 : decode cX5_add 0 = .ok (.aload_n 0, 1) := by decide +kernel
theorem dX5_add_1 : decode cX5_add 1 = .ok (.getfield 27, 3) := by decide +kernel
theorem dX5_add_4 : decode cX5_add 4 = .ok (.ifCond .lt 12, 3) := by decide +kernel
theorem dX5_add_7 : decode cX5_add 7 = .ok (.aload_n 0, 1) := by decide +kernel
theorem dX5_add_8 : decode cX5_add 8 = .ok (.getfield 27, 3) := by decide +kernel
theorem dX5_add_11 : decode cX5_add 11 = .ok (.bipush 6, 2) := by decide +kernel
theorem dX5_add_13 : decode cX5_add 13 = .ok (.if_icmp .lt 6, 3) := by decide +kernel
theorem dX5_add_16 : decode cX5_add 16 = .ok (.bipush (-4), 2) := by decide +kernel
theorem dX5_add_18 : decode cX5_add 18 = .ok (.ireturn, 1) := by decide +kernel
theorem dX5_add_19 : decode cX5_add 19 = .ok (.aload_n 0, 1) := by decide +kernel
theorem dX5_add_20 : decode cX5_add 20 = .ok (.getfield 15, 3) := by decide +kernel
theorem dX5_add_23 : decode cX5_add 23 = .ok (.aload_n 0, 1) := by decide +kernel
theorem dX5_add_24 : decode cX5_add 24 = .ok (.getfield 27, 3) := by decide +kernel
theorem dX5_add_27 : decode cX5_add 27 = .ok (.iload_n 1, 1) := by decide +kernel
theorem dX5_add_28 : decode cX5_add 28 = .ok (.iastore, 1) := by decide +kernel
theorem dX5_add_29 : decode cX5_add 29 = .ok (.aload_n 0, 1) := by decide +kernel
theorem dX5_add_30 : decode cX5_add 30 = .ok (.getfield 18, 3) := by decide +kernel
theorem dX5_add_33 : decode cX5_add 33 = .ok (.aload_n 0, 1) := by decide +kernel
theorem dX5_add_34 : decode cX5_add 34 = .ok (.getfield 27, 3) := by decide +kernel
theorem dX5_add_37 : decode cX5_add 37 = .ok (.iload_n 2, 1) := by decide +kernel
theorem dX5_add_38 : decode cX5_add 38 = .ok (.iastore, 1) := by decide +kernel
theorem dX5_add_39 : decode cX5_add 39 = .ok (.aload_n 0, 1) := by decide +kernel
theorem dX5_add_40 : decode cX5_add 40 = .ok (.getfield 21, 3) := by decide +kernel
theorem dX5_add_43 : decode cX5_add 43 = .ok (.aload_n 0, 1) := by decide +kernel
theorem dX5_add_44 : decode cX5_add 44 = .ok (.getfield 27, 3) := by decide +kernel
theorem dX5_add_47 : decode cX5_add 47 = .ok (.iload_n 3, 1) := by decide +kernel
theorem dX5_add_48 : decode cX5_add 48 = .ok (.iastore, 1) := by decide +kernel
theorem dX5_add_49 : decode cX5_add 49 = .ok (.aload_n 0, 1) := by decide +kernel
theorem dX5_add_50 : decode cX5_add 50 = .ok (.getfield 24, 3) := by decide +kernel
theorem dX5_add_53 : decode cX5_add 53 = .ok (.aload_n 0, 1) := by decide +kernel
theorem dX5_add_54 : decode cX5_add 54 = .ok (.getfield 27, 3) := by decide +kernel
theorem dX5_add_57 : decode cX5_add 57 = .ok (.iconst 0, 1) := by decide +kernel
theorem dX5_add_58 : decode cX5_add 58 = .ok (.iastore, 1) := by decide +kernel
theorem dX5_add_59 : decode cX5_add 59 = .ok (.aload_n 0, 1) := by decide +kernel
theorem dX5_add_60 : decode cX5_add 60 = .ok (.dup, 1) := by decide +kernel
theorem dX5_add_61 : decode cX5_add 61 = .ok (.getfield 27, 3) := by decide +kernel
theorem dX5_add_64 : decode cX5_add 64 = .ok (.iconst 1, 1) := by decide +kernel
theorem dX5_add_65 : decode cX5_add 65 = .ok (.iadd, 1) := by decide +kernel
theorem dX5_add_66 : decode cX5_add 66 = .ok (.putfield 27, 3) := by decide +kernel
theorem dX5_add_69 : decode cX5_add 69 = .ok (.aload_n 0, 1) := by decide +kernel
theorem dX5_add_70 : decode cX5_add 70 = .ok (.getfield 27, 3) := by decide +kernel
theorem dX5_add_73 : decode cX5_add 73 = .ok (.iconst 1, 1) := by decide +kernel
theorem dX5_add_74 : decode cX5_add 74 = .ok (.isub, 1) := by decide +kernel
theorem dX5_add_75 : decode cX5_add 75 = .ok (.ireturn, 1) := by decide +kernel
theorem dX5_wetJust_0 : decode cX5_wetJust 0 = .ok (.iconst 0, 1) := by decide +kernel
theorem dX5_wetJust_1 : decode cX5_wetJust 1 = .ok (.istore_n 2, 1) := by decide +kernel
theorem dX5_wetJust_2 : decode cX5_wetJust 2 = .ok (.iload_n 2, 1) := by decide +kernel
theorem dX5_wetJust_3 : decode cX5_wetJust 3 = .ok (.bipush 6, 2) := by decide +kernel
theorem dX5_wetJust_5 : decode cX5_wetJust 5 = .ok (.if_icmp .ge 20, 3) := by decide +kernel
theorem dX5_wetJust_8 : decode cX5_wetJust 8 = .ok (.aload_n 0, 1) := by decide +kernel
theorem dX5_wetJust_9 : decode cX5_wetJust 9 = .ok (.getfield 24, 3) := by decide +kernel
theorem dX5_wetJust_12 : decode cX5_wetJust 12 = .ok (.iload_n 2, 1) := by decide +kernel
theorem dX5_wetJust_13 : decode cX5_wetJust 13 = .ok (.iload_n 1, 1) := by decide +kernel
theorem dX5_wetJust_14 : decode cX5_wetJust 14 = .ok (.iload_n 2, 1) := by decide +kernel
theorem dX5_wetJust_15 : decode cX5_wetJust 15 = .ok (.ishr, 1) := by decide +kernel
theorem dX5_wetJust_16 : decode cX5_wetJust 16 = .ok (.iconst 1, 1) := by decide +kernel
theorem dX5_wetJust_17 : decode cX5_wetJust 17 = .ok (.iand, 1) := by decide +kernel
theorem dX5_wetJust_18 : decode cX5_wetJust 18 = .ok (.iastore, 1) := by decide +kernel
theorem dX5_wetJust_19 : decode cX5_wetJust 19 = .ok (.iinc 2 1, 3) := by decide +kernel
theorem dX5_wetJust_22 : decode cX5_wetJust 22 = .ok (.goto (-20), 3) := by decide +kernel
theorem dX5_wetJust_25 : decode cX5_wetJust 25 = .ok (.return_, 1) := by decide +kernel
theorem dX5_become_0 : decode cX5_become 0 = .ok (.iconst 0, 1) := by decide +kernel
theorem dX5_become_1 : decode cX5_become 1 = .ok (.istore_n 2, 1) := by decide +kernel
theorem dX5_become_2 : decode cX5_become 2 = .ok (.iload_n 2, 1) := by decide +kernel
theorem dX5_become_3 : decode cX5_become 3 = .ok (.iconst 5, 1) := by decide +kernel
theorem dX5_become_4 : decode cX5_become 4 = .ok (.if_icmp .gt 21, 3) := by decide +kernel
theorem dX5_become_7 : decode cX5_become 7 = .ok (.aload_n 0, 1) := by decide +kernel
theorem dX5_become_8 : decode cX5_become 8 = .ok (.getfield 9, 3) := by decide +kernel
theorem dX5_become_11 : decode cX5_become 11 = .ok (.iload_n 2, 1) := by decide +kernel
theorem dX5_become_12 : decode cX5_become 12 = .ok (.aload_n 1, 1) := by decide +kernel
theorem dX5_become_13 : decode cX5_become 13 = .ok (.getfield 9, 3) := by decide +kernel
theorem dX5_become_16 : decode cX5_become 16 = .ok (.iload_n 2, 1) := by decide +kernel
theorem dX5_become_17 : decode cX5_become 17 = .ok (.iaload, 1) := by decide +kernel
theorem dX5_become_18 : decode cX5_become 18 = .ok (.iastore, 1) := by decide +kernel
theorem dX5_become_19 : decode cX5_become 19 = .ok (.iinc 2 1, 3) := by decide +kernel
theorem dX5_become_22 : decode cX5_become 22 = .ok (.goto (-20), 3) := by decide +kernel
theorem dX5_become_25 : decode cX5_become 25 = .ok (.iconst 0, 1) := by decide +kernel
theorem dX5_become_26 : decode cX5_become 26 = .ok (.istore_n 2, 1) := by decide +kernel
theorem dX5_become_27 : decode cX5_become 27 = .ok (.iload_n 2, 1) := by decide +kernel
theorem dX5_become_28 : decode cX5_become 28 = .ok (.bipush 6, 2) := by decide +kernel
theorem dX5_become_30 : decode cX5_become 30 = .ok (.if_icmp .ge 57, 3) := by decide +kernel
theorem dX5_become_33 : decode cX5_become 33 = .ok (.aload_n 0, 1) := by decide +kernel
theorem dX5_become_34 : decode cX5_become 34 = .ok (.getfield 15, 3) := by decide +kernel
theorem dX5_become_37 : decode cX5_become 37 = .ok (.iload_n 2, 1) := by decide +kernel
theorem dX5_become_38 : decode cX5_become 38 = .ok (.aload_n 1, 1) := by decide +kernel
theorem dX5_become_39 : decode cX5_become 39 = .ok (.getfield 15, 3) := by decide +kernel
theorem dX5_become_42 : decode cX5_become 42 = .ok (.iload_n 2, 1) := by decide +kernel
theorem dX5_become_43 : decode cX5_become 43 = .ok (.iaload, 1) := by decide +kernel
theorem dX5_become_44 : decode cX5_become 44 = .ok (.iastore, 1) := by decide +kernel
theorem dX5_become_45 : decode cX5_become 45 = .ok (.aload_n 0, 1) := by decide +kernel
theorem dX5_become_46 : decode cX5_become 46 = .ok (.getfield 18, 3) := by decide +kernel
theorem dX5_become_49 : decode cX5_become 49 = .ok (.iload_n 2, 1) := by decide +kernel
theorem dX5_become_50 : decode cX5_become 50 = .ok (.aload_n 1, 1) := by decide +kernel
theorem dX5_become_51 : decode cX5_become 51 = .ok (.getfield 18, 3) := by decide +kernel
theorem dX5_become_54 : decode cX5_become 54 = .ok (.iload_n 2, 1) := by decide +kernel
theorem dX5_become_55 : decode cX5_become 55 = .ok (.iaload, 1) := by decide +kernel
theorem dX5_become_56 : decode cX5_become 56 = .ok (.iastore, 1) := by decide +kernel
theorem dX5_become_57 : decode cX5_become 57 = .ok (.aload_n 0, 1) := by decide +kernel
theorem dX5_become_58 : decode cX5_become 58 = .ok (.getfield 21, 3) := by decide +kernel
theorem dX5_become_61 : decode cX5_become 61 = .ok (.iload_n 2, 1) := by decide +kernel
theorem dX5_become_62 : decode cX5_become 62 = .ok (.aload_n 1, 1) := by decide +kernel
theorem dX5_become_63 : decode cX5_become 63 = .ok (.getfield 21, 3) := by decide +kernel
theorem dX5_become_66 : decode cX5_become 66 = .ok (.iload_n 2, 1) := by decide +kernel
theorem dX5_become_67 : decode cX5_become 67 = .ok (.iaload, 1) := by decide +kernel
theorem dX5_become_68 : decode cX5_become 68 = .ok (.iastore, 1) := by decide +kernel
theorem dX5_become_69 : decode cX5_become 69 = .ok (.aload_n 0, 1) := by decide +kernel
theorem dX5_become_70 : decode cX5_become 70 = .ok (.getfield 24, 3) := by decide +kernel
theorem dX5_become_73 : decode cX5_become 73 = .ok (.iload_n 2, 1) := by decide +kernel
theorem dX5_become_74 : decode cX5_become 74 = .ok (.aload_n 1, 1) := by decide +kernel
theorem dX5_become_75 : decode cX5_become 75 = .ok (.getfield 24, 3) := by decide +kernel
theorem dX5_become_78 : decode cX5_become 78 = .ok (.iload_n 2, 1) := by decide +kernel
theorem dX5_become_79 : decode cX5_become 79 = .ok (.iaload, 1) := by decide +kernel
theorem dX5_become_80 : decode cX5_become 80 = .ok (.iastore, 1) := by decide +kernel
theorem dX5_become_81 : decode cX5_become 81 = .ok (.iinc 2 1, 3) := by decide +kernel
theorem dX5_become_84 : decode cX5_become 84 = .ok (.goto (-57), 3) := by decide +kernel
theorem dX5_become_87 : decode cX5_become 87 = .ok (.aload_n 0, 1) := by decide +kernel
theorem dX5_become_88 : decode cX5_become 88 = .ok (.aload_n 1, 1) := by decide +kernel
theorem dX5_become_89 : decode cX5_become 89 = .ok (.getfield 27, 3) := by decide +kernel
theorem dX5_become_92 : decode cX5_become 92 = .ok (.putfield 27, 3) := by decide +kernel
theorem dX5_become_95 : decode cX5_become 95 = .ok (.aload_n 0, 1) := by decide +kernel
theorem dX5_become_96 : decode cX5_become 96 = .ok (.aload_n 1, 1) := by decide +kernel
theorem dX5_become_97 : decode cX5_become 97 = .ok (.getfield 31, 3) := by decide +kernel
theorem dX5_become_100 : decode cX5_become 100 = .ok (.putfield 31, 3) := by decide +kernel
theorem dX5_become_103 : decode cX5_become 103 = .ok (.return_, 1) := by decide +kernel
theorem dX7_clear_0 : decode cX7_clear 0 = .ok (.aload_n 0, 1) := by decide +kernel
theorem dX7_clear_1 : decode cX7_clear 1 = .ok (.iconst 0, 1) := by decide +kernel
theorem dX7_clear_2 : decode cX7_clear 2 = .ok (.putfield 18, 3) := by decide +kernel
theorem dX7_clear_5 : decode cX7_clear 5 = .ok (.return_, 1) := by decide +kernel
theorem dX7_add_0 : decode cX7_add 0 = .ok (.aload_n 0, 1) := by decide +kernel
theorem dX7_add_1 : decode cX7_add 1 = .ok (.getfield 18, 3) := by decide +kernel
theorem dX7_add_4 : decode cX7_add 4 = .ok (.ifCond .lt 33, 3) := by decide +kernel
theorem dX7_add_7 : decode cX7_add 7 = .ok (.aload_n 0, 1) := by decide +kernel
theorem dX7_add_8 : decode cX7_add 8 = .ok (.getfield 18, 3) := by decide +kernel
theorem dX7_add_11 : decode cX7_add 11 = .ok (.sipush 160, 3) := by decide +kernel
theorem dX7_add_14 : decode cX7_add 14 = .ok (.if_icmp .ge 23, 3) := by decide +kernel
theorem dX7_add_17 : decode cX7_add 17 = .ok (.aload_n 0, 1) := by decide +kernel
theorem dX7_add_18 : decode cX7_add 18 = .ok (.getfield 9, 3) := by decide +kernel
theorem dX7_add_21 : decode cX7_add 21 = .ok (.aload_n 0, 1) := by decide +kernel
theorem dX7_add_22 : decode cX7_add 22 = .ok (.getfield 18, 3) := by decide +kernel
theorem dX7_add_25 : decode cX7_add 25 = .ok (.iload_n 1, 1) := by decide +kernel
theorem dX7_add_26 : decode cX7_add 26 = .ok (.iastore, 1) := by decide +kernel
theorem dX7_add_27 : decode cX7_add 27 = .ok (.aload_n 0, 1) := by decide +kernel
theorem dX7_add_28 : decode cX7_add 28 = .ok (.dup, 1) := by decide +kernel
theorem dX7_add_29 : decode cX7_add 29 = .ok (.getfield 18, 3) := by decide +kernel
theorem dX7_add_32 : decode cX7_add 32 = .ok (.iconst 1, 1) := by decide +kernel
theorem dX7_add_33 : decode cX7_add 33 = .ok (.iadd, 1) := by decide +kernel
theorem dX7_add_34 : decode cX7_add 34 = .ok (.putfield 18, 3) := by decide +kernel
theorem dX7_add_37 : decode cX7_add 37 = .ok (.return_, 1) := by decide +kernel
theorem dX7_endPart_0 : decode cX7_endPart 0 = .ok (.iload_n 1, 1) := by decide +kernel
theorem dX7_endPart_1 : decode cX7_endPart 1 = .ok (.ifCond .lt 20, 3) := by decide +kernel
theorem dX7_endPart_4 : decode cX7_endPart 4 = .ok (.iload_n 1, 1) := by decide +kernel
theorem dX7_endPart_5 : decode cX7_endPart 5 = .ok (.iconst 3, 1) := by decide +kernel
theorem dX7_endPart_6 : decode cX7_endPart 6 = .ok (.if_icmp .ge 15, 3) := by decide +kernel
theorem dX7_endPart_9 : decode cX7_endPart 9 = .ok (.aload_n 0, 1) := by decide +kernel
theorem dX7_endPart_10 : decode cX7_endPart 10 = .ok (.getfield 15, 3) := by decide +kernel
theorem dX7_endPart_13 : decode cX7_endPart 13 = .ok (.iload_n 1, 1) := by decide +kernel
theorem dX7_endPart_14 : decode cX7_endPart 14 = .ok (.iconst 1, 1) := by decide +kernel
theorem dX7_endPart_15 : decode cX7_endPart 15 = .ok (.iadd, 1) := by decide +kernel
theorem dX7_endPart_16 : decode cX7_endPart 16 = .ok (.aload_n 0, 1) := by decide +kernel
theorem dX7_endPart_17 : decode cX7_endPart 17 = .ok (.getfield 18, 3) := by decide +kernel
theorem dX7_endPart_20 : decode cX7_endPart 20 = .ok (.iastore, 1) := by decide +kernel
theorem dX7_endPart_21 : decode cX7_endPart 21 = .ok (.return_, 1) := by decide +kernel
theorem dX7_become_0 : decode cX7_become 0 = .ok (.iconst 0, 1) := by decide +kernel
theorem dX7_become_1 : decode cX7_become 1 = .ok (.istore_n 2, 1) := by decide +kernel
theorem dX7_become_2 : decode cX7_become 2 = .ok (.iload_n 2, 1) := by decide +kernel
theorem dX7_become_3 : decode cX7_become 3 = .ok (.sipush 160, 3) := by decide +kernel
theorem dX7_become_6 : decode cX7_become 6 = .ok (.if_icmp .ge 21, 3) := by decide +kernel
theorem dX7_become_9 : decode cX7_become 9 = .ok (.aload_n 0, 1) := by decide +kernel
theorem dX7_become_10 : decode cX7_become 10 = .ok (.getfield 9, 3) := by decide +kernel
theorem dX7_become_13 : decode cX7_become 13 = .ok (.iload_n 2, 1) := by decide +kernel
theorem dX7_become_14 : decode cX7_become 14 = .ok (.aload_n 1, 1) := by decide +kernel
theorem dX7_become_15 : decode cX7_become 15 = .ok (.getfield 9, 3) := by decide +kernel
theorem dX7_become_18 : decode cX7_become 18 = .ok (.iload_n 2, 1) := by decide +kernel
theorem dX7_become_19 : decode cX7_become 19 = .ok (.iaload, 1) := by decide +kernel
theorem dX7_become_20 : decode cX7_become 20 = .ok (.iastore, 1) := by decide +kernel
theorem dX7_become_21 : decode cX7_become 21 = .ok (.iinc 2 1, 3) := by decide +kernel
theorem dX7_become_24 : decode cX7_become 24 = .ok (.goto (-22), 3) := by decide +kernel
theorem dX7_become_27 : decode cX7_become 27 = .ok (.iconst 0, 1) := by decide +kernel
theorem dX7_become_28 : decode cX7_become 28 = .ok (.istore_n 2, 1) := by decide +kernel
theorem dX7_become_29 : decode cX7_become 29 = .ok (.iload_n 2, 1) := by decide +kernel
theorem dX7_become_30 : decode cX7_become 30 = .ok (.iconst 3, 1) := by decide +kernel
theorem dX7_become_31 : decode cX7_become 31 = .ok (.if_icmp .gt 21, 3) := by decide +kernel
theorem dX7_become_34 : decode cX7_become 34 = .ok (.aload_n 0, 1) := by decide +kernel
theorem dX7_become_35 : decode cX7_become 35 = .ok (.getfield 15, 3) := by decide +kernel
theorem dX7_become_38 : decode cX7_become 38 = .ok (.iload_n 2, 1) := by decide +kernel
theorem dX7_become_39 : decode cX7_become 39 = .ok (.aload_n 1, 1) := by decide +kernel
theorem dX7_become_40 : decode cX7_become 40 = .ok (.getfield 15, 3) := by decide +kernel
theorem dX7_become_43 : decode cX7_become 43 = .ok (.iload_n 2, 1) := by decide +kernel
theorem dX7_become_44 : decode cX7_become 44 = .ok (.iaload, 1) := by decide +kernel
theorem dX7_become_45 : decode cX7_become 45 = .ok (.iastore, 1) := by decide +kernel
theorem dX7_become_46 : decode cX7_become 46 = .ok (.iinc 2 1, 3) := by decide +kernel
theorem dX7_become_49 : decode cX7_become 49 = .ok (.goto (-20), 3) := by decide +kernel
theorem dX7_become_52 : decode cX7_become 52 = .ok (.aload_n 0, 1) := by decide +kernel
theorem dX7_become_53 : decode cX7_become 53 = .ok (.aload_n 1, 1) := by decide +kernel
theorem dX7_become_54 : decode cX7_become 54 = .ok (.getfield 18, 3) := by decide +kernel
theorem dX7_become_57 : decode cX7_become 57 = .ok (.putfield 18, 3) := by decide +kernel
theorem dX7_become_60 : decode cX7_become 60 = .ok (.return_, 1) := by decide +kernel
def f_Kind_ripens (a1 : Int32) (a2 : Int32) (a3 : Int32) (a4 : Int32) : Option Int32 :=
jp (fun (v1 : Int32) =>
if a1 = 1 then
(some (imax 1 (a4 - v1)))
else
(if a1 = 2 then
(some (imax 1 (a4 + (2 * a2))))
else
(if a1 = 3 then
(some (imax 1 ((a4 - v1) / 2)))
else
(if a1 = 4 then
(jp (fun (v3 : Int32) =>
some (imax 1 v3)) fun j4 =>
if a3 = 0 then
(j4 (a4 + (2 * a2)))
else
(j4 a4))
else
(some (imax 1 a4)))))) fun j2 =>
if a3 = 0 then
(j2 (3 * a2))
else
(j2 a2)
def f_Kind_lasts (a1 : Int32) (a2 : Int32) : Option Int32 :=
if a1 = 1 then
(some (imax 0 (10 - (a2 / 2))))
else
(if a1 = 2 then
(some 10)
else
(if a1 = 3 then
(some (imax 0 (8 - (a2 / 2))))
else
(if a1 = 4 then
(some 15)
else
(some 10))))
def f_Kind_takes (a1 : Int32) (a2 : Int32) (a3 : Int32) : Option Int32 :=
if a1 = 3 then
(some (imax 1 ((a2 * a3) + 3)))
else
(if a1 = 5 then
(some (imax 1 ((2 * a2) * a3)))
else
(some (imax 1 (a2 * a3))))
def f_Kind_isUnder (a1 : Int32) (a2 : Int32) : Option Bool :=
if a2 = 0 then
(some true)
else
(if a2 = 1 then
(if a1 = 1 then
(some true)
else
(if a1 = 3 then
(some true)
else
(some false)))
else
(if a2 = 2 then
(if a1 = 2 then
(some true)
else
(if a1 = 4 then
(some true)
else
(some false)))
else
(if a1 = a2 then
(some true)
else
(some false))))
def f_Pick_clear (M : Mem) : Option Mem :=
bnd (wr M 40 0 0) fun (M1 : Mem) =>
some M1
def f_Pick_offer (M : Mem) (a1 : Int32) (a2 : Int32) (a3 : Int32) : Option Mem :=
jp (fun (u1 : Unit) =>
bnd (wr M 40 0 1) fun (M3 : Mem) =>
bnd (wr M3 40 1 a1) fun (M4 : Mem) =>
bnd (wr M4 40 2 a2) fun (M5 : Mem) =>
bnd (wr M5 40 3 a3) fun (M6 : Mem) =>
some M6) fun j2 =>
if (M 40 0) = 0 then
(j2 ())
else
(if a2 < (M 40 2) then
(j2 ())
else
(if a2 = (M 40 2) then
(if (M 40 3) ≤ a3 then
(some M)
else
(j2 ()))
else
(some M)))
def f_Sheet_isMissing (M : Mem) (t : Nat) : Option Bool :=
if (M t 1) = (-1) then
(some true)
else
(some false)
def f_Sheet_has (M : Mem) (t : Nat) (a1 : Int32) : Option Bool :=
if a1 < 0 then
(some false)
else
(if (M t 2) ≤ a1 then
(some false)
else
(if 40 ≤ a1 then
(some false)
else
(some true)))
def f_Sheet_hasRun (M : Mem) (t : Nat) (a1 : Int32) (a2 : Int32) : Option Bool :=
if a2 < 0 then
(some false)
else
(if (M t 2) < a2 then
(some false)
else
(if a1 < 0 then
(some false)
else
(if ((M t 2) - a2) < a1 then
(some false)
else
(some true))))
def f_Sheet_become_L12 (t : Nat) (j4 : Mem → Option Mem) : Nat → Int32 → Mem → Option Mem
  | 0, _, _ => none
  | fu7 + 1, v5, M6 =>
    if 40 ≤ v5 then
    (j4 M6)
    else
    (ck v5 40 <|
    bnd (wr M6 (t + 1) v5.toNatClampNeg 0) fun (M8 : Mem) =>
    bnd (v5 + 1) fun (v9 : Int32) =>
    f_Sheet_become_L12 t j4 fu7 v9 M8)
def f_Sheet_become (M : Mem) (t : Nat) (a1 : Int32) (a2 : Int32) : Option Mem :=
bnd (wr M t 1 a1) fun (M1 : Mem) =>
bnd (wr M1 t 2 a2) fun (M2 : Mem) =>
jp (fun (M3 : Mem) =>
some M3) fun j4 =>
f_Sheet_become_L12 t j4 FU 0 M2
def f_Sheet_put (M : Mem) (t : Nat) (a1 : Int32) (a2 : Int32) : Option Mem :=
ob (f_Sheet_has M t a1) fun (v2 : Bool) =>
if v2 = true then
(jp (fun (v3 : Int32) =>
ck a1 40 <|
bnd (wr M (t + 1) a1.toNatClampNeg v3) fun (M5 : Mem) =>
some M5) fun j4 =>
if (M t 1) = 0 then
(j4 (a2.toInt8.toInt32))
else
(if (M t 1) = 1 then
(j4 (a2.toInt16.toInt32))
else
(j4 a2)))
else
(some M)
def f_Site_has (M : Mem) (t : Nat) (a1 : Int32) : Option Bool :=
if a1 < 0 then
(some false)
else
(if (M t 5) ≤ a1 then
(some false)
else
(if 6 ≤ a1 then
(some false)
else
(some true)))
def f_Site_turn (M : Mem) (t : Nat) (a1 : Int32) (a2 : Int32) : Option Mem :=
if a1 < 0 then
(some M)
else
(if 5 < a1 then
(some M)
else
(ck a1 6 <|
bnd (wr M (t + 1) a1.toNatClampNeg a2) fun (M1 : Mem) =>
some M1))
def f_Site_rowOf (t : Nat) (a1 : Int32) : Option Nat :=
if a1 = 6 then
(some (t + 3))
else
(if a1 = 7 then
(some (t + 4))
else
(if a1 = 8 then
(some (t + 5))
else
(some (t + 1))))
theorem rowOf_lay {t r : Nat} {a : Int32} (ht : isSite t) (h : f_Site_rowOf t a = some r) : layX[r]? = some (.inr (0, 6, fun _ => 0)) := by
  unfold f_Site_rowOf at h
  split at h
  · rw [← oi h]; exact lxSite3 ht
  · split at h
    · rw [← oi h]; exact lxSite4 ht
    · split at h
      · rw [← oi h]; exact lxSite5 ht
      · rw [← oi h]; exact lxSite1 ht
def f_Site_add (M : Mem) (t : Nat) (a1 : Int32) (a2 : Int32) (a3 : Int32) : Option (Mem × Int32) :=
if (M t 5) < 0 then
(some (M, (-4)))
else
(if (M t 5) < 6 then
(ck (M t 5) 6 <|
bnd (wr M (t + 2) (M t 5).toNatClampNeg a1) fun (M1 : Mem) =>
ck (M1 t 5) 6 <|
bnd (wr M1 (t + 3) (M1 t 5).toNatClampNeg a2) fun (M2 : Mem) =>
ck (M2 t 5) 6 <|
bnd (wr M2 (t + 4) (M2 t 5).toNatClampNeg a3) fun (M3 : Mem) =>
ck (M3 t 5) 6 <|
bnd (wr M3 (t + 5) (M3 t 5).toNatClampNeg 0) fun (M4 : Mem) =>
bnd (wr M4 t 5 ((M4 t 5) + 1)) fun (M5 : Mem) =>
some (M5, ((M5 t 5) - 1)))
else
(some (M, (-4))))
def f_Site_wetJust_L2 (t : Nat) (a1 : Int32) (j2 : Mem → Option Mem) : Nat → Int32 → Mem → Option Mem
  | 0, _, _ => none
  | fu5 + 1, v3, M4 =>
    if 6 ≤ v3 then
    (j2 M4)
    else
    (ck v3 6 <|
    bnd (wr M4 (t + 5) v3.toNatClampNeg ((a1 >>> (v3 &&& 31)) &&& 1)) fun (M6 : Mem) =>
    bnd (v3 + 1) fun (v7 : Int32) =>
    f_Site_wetJust_L2 t a1 j2 fu5 v7 M6)
def f_Site_wetJust (M : Mem) (t : Nat) (a1 : Int32) : Option Mem :=
jp (fun (M1 : Mem) =>
some M1) fun j2 =>
f_Site_wetJust_L2 t a1 j2 FU 0 M
def f_Site_become_L27 (t : Nat) (t1 : Nat) (j4 : Mem → Option Mem) : Nat → Int32 → Mem → Option Mem
  | 0, _, _ => none
  | fu9 + 1, v7, M8 =>
    if 6 ≤ v7 then
    (j4 M8)
    else
    (ck v7 6 <|
    ck v7 6 <|
    bnd (wr M8 (t + 2) v7.toNatClampNeg (M8 (t1 + 2) v7.toNatClampNeg)) fun (M10 : Mem) =>
    ck v7 6 <|
    ck v7 6 <|
    bnd (wr M10 (t + 3) v7.toNatClampNeg (M10 (t1 + 3) v7.toNatClampNeg)) fun (M11 : Mem) =>
    ck v7 6 <|
    ck v7 6 <|
    bnd (wr M11 (t + 4) v7.toNatClampNeg (M11 (t1 + 4) v7.toNatClampNeg)) fun (M12 : Mem) =>
    ck v7 6 <|
    ck v7 6 <|
    bnd (wr M12 (t + 5) v7.toNatClampNeg (M12 (t1 + 5) v7.toNatClampNeg)) fun (M13 : Mem) =>
    bnd (v7 + 1) fun (v14 : Int32) =>
    f_Site_become_L27 t t1 j4 fu9 v14 M13)
def f_Site_become_L2 (t : Nat) (t1 : Nat) (j2 : Mem → Option Mem) : Nat → Int32 → Mem → Option Mem
  | 0, _, _ => none
  | fu17 + 1, v15, M16 =>
    if 5 < v15 then
    (j2 M16)
    else
    (ck v15 6 <|
    ck v15 6 <|
    bnd (wr M16 (t + 1) v15.toNatClampNeg (M16 (t1 + 1) v15.toNatClampNeg)) fun (M18 : Mem) =>
    bnd (v15 + 1) fun (v19 : Int32) =>
    f_Site_become_L2 t t1 j2 fu17 v19 M18)
def f_Site_become (M : Mem) (t : Nat) (t1 : Nat) : Option Mem :=
jp (fun (M1 : Mem) =>
jp (fun (M3 : Mem) =>
bnd (wr M3 t 5 (M3 t1 5)) fun (M5 : Mem) =>
bnd (wr M5 t 6 (M5 t1 6)) fun (M6 : Mem) =>
some M6) fun j4 =>
f_Site_become_L27 t t1 j4 FU 0 M1) fun j2 =>
f_Site_become_L2 t t1 j2 FU 0 M
def f_Text_clear (M : Mem) (t : Nat) : Option Mem :=
bnd (wr M t 2 0) fun (M1 : Mem) =>
some M1
def f_Text_add (M : Mem) (t : Nat) (a1 : Int32) : Option Mem :=
if (M t 2) < 0 then
(some M)
else
(if 160 ≤ (M t 2) then
(some M)
else
(ck (M t 2) 160 <|
bnd (wr M (t + 1) (M t 2).toNatClampNeg a1) fun (M1 : Mem) =>
bnd (wr M1 t 2 ((M1 t 2) + 1)) fun (M2 : Mem) =>
some M2))
def f_Text_endPart (M : Mem) (t : Nat) (a1 : Int32) : Option Mem :=
if a1 < 0 then
(some M)
else
(if 3 ≤ a1 then
(some M)
else
(ck (a1 + 1) 4 <|
bnd (wr M (t + 2) (a1 + 1).toNatClampNeg (M t 2)) fun (M1 : Mem) =>
some M1))
def f_Text_become_L29 (t : Nat) (t1 : Nat) (j4 : Mem → Option Mem) : Nat → Int32 → Mem → Option Mem
  | 0, _, _ => none
  | fu8 + 1, v6, M7 =>
    if 3 < v6 then
    (j4 M7)
    else
    (ck v6 4 <|
    ck v6 4 <|
    bnd (wr M7 (t + 2) v6.toNatClampNeg (M7 (t1 + 2) v6.toNatClampNeg)) fun (M9 : Mem) =>
    bnd (v6 + 1) fun (v10 : Int32) =>
    f_Text_become_L29 t t1 j4 fu8 v10 M9)
def f_Text_become_L2 (t : Nat) (t1 : Nat) (j2 : Mem → Option Mem) : Nat → Int32 → Mem → Option Mem
  | 0, _, _ => none
  | fu13 + 1, v11, M12 =>
    if 160 ≤ v11 then
    (j2 M12)
    else
    (ck v11 160 <|
    ck v11 160 <|
    bnd (wr M12 (t + 1) v11.toNatClampNeg (M12 (t1 + 1) v11.toNatClampNeg)) fun (M14 : Mem) =>
    bnd (v11 + 1) fun (v15 : Int32) =>
    f_Text_become_L2 t t1 j2 fu13 v15 M14)
def f_Text_become (M : Mem) (t : Nat) (t1 : Nat) : Option Mem :=
jp (fun (M1 : Mem) =>
jp (fun (M3 : Mem) =>
bnd (wr M3 t 2 (M3 t1 2)) fun (M5 : Mem) =>
some M5) fun j4 =>
f_Text_become_L29 t t1 j4 FU 0 M1) fun j2 =>
f_Text_become_L2 t t1 j2 FU 0 M
set_option maxHeartbeats 4000000 in
set_option maxRecDepth 20000 in
theorem w_f_Kind_ripens {X : XT} {M : Mem} {a1 : Int32} {a2 : Int32} {a3 : Int32} {a4 : Int32} {r : Int32}   (h : f_Kind_ripens a1 a2 a3 a4 = some r) : CT layX X 1 yX1_ripens cX1_ripens 5 (some .int) [.int a1, .int a2, .int a3, .int a4] M M (some (.int r)) := by
  refine CT.of rfl (Nat.le_of_ble_eq_true rfl) (lv := [(0, .int a1), (1, .int a2), (2, .int a3), (3, .int a4)]) rfl (fun Γ K => ?_)
  have K : Kx layX X Γ RX1 cX1_ripens 5 1 (some .int) := K
  unfold f_Kind_ripens at h
  refine g_iload_n (pn := 1) K rfl 2 rfl dX1_ripens_0 ?_
  refine jp_e1 h (fun v1 => G layX X Γ 5 (QM layX X Γ (some (.int r)) M) 11 [(0, .int a1), (1, .int a2), (2, .int a3), (3, .int a4)] [.int v1] M) (fun v1 h => ?_) (fun j2 hj2 h => ?_)
  · refine g_istore (pn := 13) (lv' := [(4, .int v1), (0, .int a1), (1, .int a2), (2, .int a3), (3, .int a4)]) K rfl dX1_ripens_11 (Nat.le_of_ble_eq_true rfl) rfl ?_
    refine g_iload_n (pn := 14) K rfl 1 rfl dX1_ripens_13 ?_
    rcases Decidable.em (a1 = 1) with hs | hs0
    · replace h := (ite_e h).1 hs
      refine g_tsw (tgt := 44) (v := 1) (off := 30) K hs (by decide) (by decide) (by decide) (by decide) dX1_ripens_14 ?_
      refine g_iconst (pn := 45) (v := 1) K rfl ic_1 dX1_ripens_44 ?_
      refine g_iload_n (pn := 46) K rfl 4 rfl dX1_ripens_45 ?_
      refine g_iload (pn := 48) K rfl 0 rfl dX1_ripens_46 ?_
      refine g_isub (pn := 49) K rfl dX1_ripens_48 ?_
      refine g_mmax (pn := 52) K rfl (by decide) mm_X1_9 mm_max_s mm_i mm_max_c (Nat.le_of_ble_eq_true rfl) dX1_ripens_49 ?_
      exact g_iret K dX1_ripens_52 (oi h) rfl
    · replace h := (ite_e h).2 hs0
      rcases Decidable.em (a1 = 2) with hs | hs1
      · replace h := (ite_e h).1 hs
        refine g_tsw (tgt := 53) (v := 2) (off := 39) K hs (by decide) (by decide) (by decide) (by decide) dX1_ripens_14 ?_
        refine g_iconst (pn := 54) (v := 1) K rfl ic_1 dX1_ripens_53 ?_
        refine g_iload_n (pn := 55) K rfl 4 rfl dX1_ripens_54 ?_
        refine g_iconst (pn := 56) (v := 2) K rfl ic_2 dX1_ripens_55 ?_
        refine g_iload_n (pn := 57) K rfl 2 rfl dX1_ripens_56 ?_
        refine g_imul (pn := 58) K rfl dX1_ripens_57 ?_
        refine g_iadd (pn := 59) K rfl dX1_ripens_58 ?_
        refine g_mmax (pn := 62) K rfl (by decide) mm_X1_9 mm_max_s mm_i mm_max_c (Nat.le_of_ble_eq_true rfl) dX1_ripens_59 ?_
        exact g_iret K dX1_ripens_62 (oi h) rfl
      · replace h := (ite_e h).2 hs1
        rcases Decidable.em (a1 = 3) with hs | hs2
        · replace h := (ite_e h).1 hs
          refine g_tsw (tgt := 63) (v := 3) (off := 49) K hs (by decide) (by decide) (by decide) (by decide) dX1_ripens_14 ?_
          refine g_iconst (pn := 64) (v := 1) K rfl ic_1 dX1_ripens_63 ?_
          refine g_iload_n (pn := 65) K rfl 4 rfl dX1_ripens_64 ?_
          refine g_iload (pn := 67) K rfl 0 rfl dX1_ripens_65 ?_
          refine g_isub (pn := 68) K rfl dX1_ripens_67 ?_
          refine g_iconst (pn := 69) (v := 2) K rfl ic_2 dX1_ripens_68 ?_
          refine g_idiv (pn := 70) K rfl (by decide) dX1_ripens_69 ?_
          refine g_mmax (pn := 73) K rfl (by decide) mm_X1_9 mm_max_s mm_i mm_max_c (Nat.le_of_ble_eq_true rfl) dX1_ripens_70 ?_
          exact g_iret K dX1_ripens_73 (oi h) rfl
        · replace h := (ite_e h).2 hs2
          rcases Decidable.em (a1 = 4) with hs | hs3
          · replace h := (ite_e h).1 hs
            refine g_tsw (tgt := 74) (v := 4) (off := 60) K hs (by decide) (by decide) (by decide) (by decide) dX1_ripens_14 ?_
            refine g_iconst (pn := 75) (v := 1) K rfl ic_1 dX1_ripens_74 ?_
            refine g_iload_n (pn := 76) K rfl 3 rfl dX1_ripens_75 ?_
            refine jp_e1 h (fun v3 => G layX X Γ 5 (QM layX X Γ (some (.int r)) M) 88 [] [.int v3, .int 1] M) (fun v3 h => ?_) (fun j4 hj4 h => ?_)
            · refine g_mmax (pn := 91) K rfl (by decide) mm_X1_9 mm_max_s mm_i mm_max_c (Nat.le_of_ble_eq_true rfl) dX1_ripens_88 ?_
              exact g_iret K dX1_ripens_91 (oi h) rfl
            refine g_if_eq (tgt := 83) (pn := 79) K rfl (by decide) dX1_ripens_76 h (fun h => ?_) (fun h => ?_)
            · refine g_iload_n (pn := 84) K rfl 4 rfl dX1_ripens_83 ?_
              refine g_iconst (pn := 85) (v := 2) K rfl ic_2 dX1_ripens_84 ?_
              refine g_iload_n (pn := 86) K rfl 2 rfl dX1_ripens_85 ?_
              refine g_imul (pn := 87) K rfl dX1_ripens_86 ?_
              refine g_iadd (pn := 88) K rfl dX1_ripens_87 ?_
              refine g_sub [] rfl ?_
              exact hj4 _ h
            · refine g_iload_n (pn := 80) K rfl 4 rfl dX1_ripens_79 ?_
              refine g_goto (tgt := 88) K (by decide) dX1_ripens_80 ?_
              refine g_sub [] rfl ?_
              exact hj4 _ h
          · replace h := (ite_e h).2 hs3
            refine g_tswD (tgt := 92) K [1, 2, 3, 4] (by decide) (by decide) (by simp only [List.forall_mem_cons]; exact ⟨hs0, hs1, hs2, hs3, fun _ h => absurd h List.not_mem_nil⟩) (by decide) dX1_ripens_14 ?_
            refine g_iconst (pn := 93) (v := 1) K rfl ic_1 dX1_ripens_92 ?_
            refine g_iload_n (pn := 94) K rfl 4 rfl dX1_ripens_93 ?_
            refine g_mmax (pn := 97) K rfl (by decide) mm_X1_9 mm_max_s mm_i mm_max_c (Nat.le_of_ble_eq_true rfl) dX1_ripens_94 ?_
            exact g_iret K dX1_ripens_97 (oi h) rfl
  refine g_if_eq (tgt := 8) (pn := 4) K rfl (by decide) dX1_ripens_1 h (fun h => ?_) (fun h => ?_)
  · refine g_iconst (pn := 9) (v := 3) K rfl ic_3 dX1_ripens_8 ?_
    refine g_iload_n (pn := 10) K rfl 1 rfl dX1_ripens_9 ?_
    refine g_imul (pn := 11) K rfl dX1_ripens_10 ?_
    exact hj2 _ h
  · refine g_iload_n (pn := 5) K rfl 1 rfl dX1_ripens_4 ?_
    refine g_goto (tgt := 11) K (by decide) dX1_ripens_5 ?_
    exact hj2 _ h
set_option maxHeartbeats 4000000 in
set_option maxRecDepth 20000 in
theorem w_f_Kind_lasts {X : XT} {M : Mem} {a1 : Int32} {a2 : Int32} {r : Int32}   (h : f_Kind_lasts a1 a2 = some r) : CT layX X 1 yX1_lasts cX1_lasts 2 (some .int) [.int a1, .int a2] M M (some (.int r)) := by
  refine CT.of rfl (Nat.le_of_ble_eq_true rfl) (lv := [(0, .int a1), (1, .int a2)]) rfl (fun Γ K => ?_)
  have K : Kx layX X Γ RX1 cX1_lasts 2 1 (some .int) := K
  unfold f_Kind_lasts at h
  refine g_iload_n (pn := 1) K rfl 0 rfl dX1_lasts_0 ?_
  rcases Decidable.em (a1 = 1) with hs | hs0
  · replace h := (ite_e h).1 hs
    refine g_tsw (tgt := 32) (v := 1) (off := 31) K hs (by decide) (by decide) (by decide) (by decide) dX1_lasts_1 ?_
    refine g_iconst (pn := 33) (v := 0) K rfl ic_0 dX1_lasts_32 ?_
    refine g_bipush (pn := 35) (v := 10) K rfl bp_10 dX1_lasts_33 ?_
    refine g_iload_n (pn := 36) K rfl 1 rfl dX1_lasts_35 ?_
    refine g_iconst (pn := 37) (v := 2) K rfl ic_2 dX1_lasts_36 ?_
    refine g_idiv (pn := 38) K rfl (by decide) dX1_lasts_37 ?_
    refine g_isub (pn := 39) K rfl dX1_lasts_38 ?_
    refine g_mmax (pn := 42) K rfl (by decide) mm_X1_9 mm_max_s mm_i mm_max_c (Nat.le_of_ble_eq_true rfl) dX1_lasts_39 ?_
    exact g_iret K dX1_lasts_42 (oi h) rfl
  · replace h := (ite_e h).2 hs0
    rcases Decidable.em (a1 = 2) with hs | hs1
    · replace h := (ite_e h).1 hs
      refine g_tsw (tgt := 57) (v := 2) (off := 56) K hs (by decide) (by decide) (by decide) (by decide) dX1_lasts_1 ?_
      refine g_bipush (pn := 59) (v := 10) K rfl bp_10 dX1_lasts_57 ?_
      exact g_iret K dX1_lasts_59 (oi h) rfl
    · replace h := (ite_e h).2 hs1
      rcases Decidable.em (a1 = 3) with hs | hs2
      · replace h := (ite_e h).1 hs
        refine g_tsw (tgt := 43) (v := 3) (off := 42) K hs (by decide) (by decide) (by decide) (by decide) dX1_lasts_1 ?_
        refine g_iconst (pn := 44) (v := 0) K rfl ic_0 dX1_lasts_43 ?_
        refine g_bipush (pn := 46) (v := 8) K rfl bp_8 dX1_lasts_44 ?_
        refine g_iload_n (pn := 47) K rfl 1 rfl dX1_lasts_46 ?_
        refine g_iconst (pn := 48) (v := 2) K rfl ic_2 dX1_lasts_47 ?_
        refine g_idiv (pn := 49) K rfl (by decide) dX1_lasts_48 ?_
        refine g_isub (pn := 50) K rfl dX1_lasts_49 ?_
        refine g_mmax (pn := 53) K rfl (by decide) mm_X1_9 mm_max_s mm_i mm_max_c (Nat.le_of_ble_eq_true rfl) dX1_lasts_50 ?_
        exact g_iret K dX1_lasts_53 (oi h) rfl
      · replace h := (ite_e h).2 hs2
        rcases Decidable.em (a1 = 4) with hs | hs3
        · replace h := (ite_e h).1 hs
          refine g_tsw (tgt := 54) (v := 4) (off := 53) K hs (by decide) (by decide) (by decide) (by decide) dX1_lasts_1 ?_
          refine g_bipush (pn := 56) (v := 15) K rfl bp_15 dX1_lasts_54 ?_
          exact g_iret K dX1_lasts_56 (oi h) rfl
        · replace h := (ite_e h).2 hs3
          refine g_tswD (tgt := 57) K [1, 2, 3, 4] (by decide) (by decide) (by simp only [List.forall_mem_cons]; exact ⟨hs0, hs1, hs2, hs3, fun _ h => absurd h List.not_mem_nil⟩) (by decide) dX1_lasts_1 ?_
          refine g_bipush (pn := 59) (v := 10) K rfl bp_10 dX1_lasts_57 ?_
          exact g_iret K dX1_lasts_59 (oi h) rfl
set_option maxHeartbeats 4000000 in
set_option maxRecDepth 20000 in
theorem w_f_Kind_takes {X : XT} {M : Mem} {a1 : Int32} {a2 : Int32} {a3 : Int32} {r : Int32}   (h : f_Kind_takes a1 a2 a3 = some r) : CT layX X 1 yX1_takes cX1_takes 3 (some .int) [.int a1, .int a2, .int a3] M M (some (.int r)) := by
  refine CT.of rfl (Nat.le_of_ble_eq_true rfl) (lv := [(0, .int a1), (1, .int a2), (2, .int a3)]) rfl (fun Γ K => ?_)
  have K : Kx layX X Γ RX1 cX1_takes 3 1 (some .int) := K
  unfold f_Kind_takes at h
  refine g_iload_n (pn := 1) K rfl 0 rfl dX1_takes_0 ?_
  rcases Decidable.em (a1 = 3) with hs | hs0
  · replace h := (ite_e h).1 hs
    refine g_lsw (tgt := 28) (off := 27) K (lsw_t hs (by decide)) (by decide) (by decide) dX1_takes_1 ?_
    refine g_iconst (pn := 29) (v := 1) K rfl ic_1 dX1_takes_28 ?_
    refine g_iload_n (pn := 30) K rfl 1 rfl dX1_takes_29 ?_
    refine g_iload_n (pn := 31) K rfl 2 rfl dX1_takes_30 ?_
    refine g_imul (pn := 32) K rfl dX1_takes_31 ?_
    refine g_iconst (pn := 33) (v := 3) K rfl ic_3 dX1_takes_32 ?_
    refine g_iadd (pn := 34) K rfl dX1_takes_33 ?_
    refine g_mmax (pn := 37) K rfl (by decide) mm_X1_9 mm_max_s mm_i mm_max_c (Nat.le_of_ble_eq_true rfl) dX1_takes_34 ?_
    exact g_iret K dX1_takes_37 (oi h) rfl
  · replace h := (ite_e h).2 hs0
    rcases Decidable.em (a1 = 5) with hs | hs1
    · replace h := (ite_e h).1 hs
      refine g_lsw (tgt := 38) (off := 37) K (lsw_f hs0 (by decide) (lsw_t hs (by decide))) (by decide) (by decide) dX1_takes_1 ?_
      refine g_iconst (pn := 39) (v := 1) K rfl ic_1 dX1_takes_38 ?_
      refine g_iconst (pn := 40) (v := 2) K rfl ic_2 dX1_takes_39 ?_
      refine g_iload_n (pn := 41) K rfl 1 rfl dX1_takes_40 ?_
      refine g_imul (pn := 42) K rfl dX1_takes_41 ?_
      refine g_iload_n (pn := 43) K rfl 2 rfl dX1_takes_42 ?_
      refine g_imul (pn := 44) K rfl dX1_takes_43 ?_
      refine g_mmax (pn := 47) K rfl (by decide) mm_X1_9 mm_max_s mm_i mm_max_c (Nat.le_of_ble_eq_true rfl) dX1_takes_44 ?_
      exact g_iret K dX1_takes_47 (oi h) rfl
    · replace h := (ite_e h).2 hs1
      refine g_lsw (tgt := 48) K (lsw_f hs0 (by decide) (lsw_f hs1 (by decide) (lsw_0 _ _))) (by decide) (by decide) dX1_takes_1 ?_
      refine g_iconst (pn := 49) (v := 1) K rfl ic_1 dX1_takes_48 ?_
      refine g_iload_n (pn := 50) K rfl 1 rfl dX1_takes_49 ?_
      refine g_iload_n (pn := 51) K rfl 2 rfl dX1_takes_50 ?_
      refine g_imul (pn := 52) K rfl dX1_takes_51 ?_
      refine g_mmax (pn := 55) K rfl (by decide) mm_X1_9 mm_max_s mm_i mm_max_c (Nat.le_of_ble_eq_true rfl) dX1_takes_52 ?_
      exact g_iret K dX1_takes_55 (oi h) rfl
set_option maxHeartbeats 4000000 in
set_option maxRecDepth 20000 in
theorem w_f_Kind_isUnder {X : XT} {M : Mem} {a1 : Int32} {a2 : Int32} {r : Bool}   (h : f_Kind_isUnder a1 a2 = some r) : CT layX X 0 yX1_isUnder cX1_isUnder 2 (some .boolean) [.int a1, .int a2] M M (some (.int (b2i r))) := by
  refine CT.of rfl (Nat.le_of_ble_eq_true rfl) (lv := [(0, .int a1), (1, .int a2)]) rfl (fun Γ K => ?_)
  have K : Kx layX X Γ RX1 cX1_isUnder 2 0 (some .boolean) := K
  unfold f_Kind_isUnder at h
  refine g_iload_n (pn := 1) K rfl 1 rfl dX1_isUnder_0 ?_
  rcases Decidable.em (a2 = 0) with hs | hs0
  · replace h := (ite_e h).1 hs
    refine g_tsw (tgt := 28) (v := 0) (off := 27) K hs (by decide) (by decide) (by decide) (by decide) dX1_isUnder_1 ?_
    refine g_iconst (pn := 29) (v := 1) K rfl ic_1 dX1_isUnder_28 ?_
    exact g_zret K rfl dX1_isUnder_29 (bq1 (oi h)) rfl
  · replace h := (ite_e h).2 hs0
    rcases Decidable.em (a2 = 1) with hs | hs1
    · replace h := (ite_e h).1 hs
      refine g_tsw (tgt := 30) (v := 1) (off := 29) K hs (by decide) (by decide) (by decide) (by decide) dX1_isUnder_1 ?_
      refine g_iload_n (pn := 31) K rfl 0 rfl dX1_isUnder_30 ?_
      refine g_iconst (pn := 32) (v := 1) K rfl ic_1 dX1_isUnder_31 ?_
      refine g_icmp_eq (tgt := 40) (pn := 35) K rfl (by decide) dX1_isUnder_32 h (fun h => ?_) (fun h => ?_)
      · refine g_iconst (pn := 41) (v := 1) K rfl ic_1 dX1_isUnder_40 ?_
        refine g_goto (tgt := 45) K (by decide) dX1_isUnder_41 ?_
        exact g_zret K rfl dX1_isUnder_45 (bq1 (oi h)) rfl
      · refine g_iload_n (pn := 36) K rfl 0 rfl dX1_isUnder_35 ?_
        refine g_iconst (pn := 37) (v := 3) K rfl ic_3 dX1_isUnder_36 ?_
        refine g_icmp_ne (tgt := 44) (pn := 40) K rfl (by decide) dX1_isUnder_37 h (fun h => ?_) (fun h => ?_)
        · refine g_iconst (pn := 45) (v := 0) K rfl ic_0 dX1_isUnder_44 ?_
          exact g_zret K rfl dX1_isUnder_45 (bq0 (oi h)) rfl
        · refine g_iconst (pn := 41) (v := 1) K rfl ic_1 dX1_isUnder_40 ?_
          refine g_goto (tgt := 45) K (by decide) dX1_isUnder_41 ?_
          exact g_zret K rfl dX1_isUnder_45 (bq1 (oi h)) rfl
    · replace h := (ite_e h).2 hs1
      rcases Decidable.em (a2 = 2) with hs | hs2
      · replace h := (ite_e h).1 hs
        refine g_tsw (tgt := 46) (v := 2) (off := 45) K hs (by decide) (by decide) (by decide) (by decide) dX1_isUnder_1 ?_
        refine g_iload_n (pn := 47) K rfl 0 rfl dX1_isUnder_46 ?_
        refine g_iconst (pn := 48) (v := 2) K rfl ic_2 dX1_isUnder_47 ?_
        refine g_icmp_eq (tgt := 56) (pn := 51) K rfl (by decide) dX1_isUnder_48 h (fun h => ?_) (fun h => ?_)
        · refine g_iconst (pn := 57) (v := 1) K rfl ic_1 dX1_isUnder_56 ?_
          refine g_goto (tgt := 61) K (by decide) dX1_isUnder_57 ?_
          exact g_zret K rfl dX1_isUnder_61 (bq1 (oi h)) rfl
        · refine g_iload_n (pn := 52) K rfl 0 rfl dX1_isUnder_51 ?_
          refine g_iconst (pn := 53) (v := 4) K rfl ic_4 dX1_isUnder_52 ?_
          refine g_icmp_ne (tgt := 60) (pn := 56) K rfl (by decide) dX1_isUnder_53 h (fun h => ?_) (fun h => ?_)
          · refine g_iconst (pn := 61) (v := 0) K rfl ic_0 dX1_isUnder_60 ?_
            exact g_zret K rfl dX1_isUnder_61 (bq0 (oi h)) rfl
          · refine g_iconst (pn := 57) (v := 1) K rfl ic_1 dX1_isUnder_56 ?_
            refine g_goto (tgt := 61) K (by decide) dX1_isUnder_57 ?_
            exact g_zret K rfl dX1_isUnder_61 (bq1 (oi h)) rfl
      · replace h := (ite_e h).2 hs2
        refine g_tswD (tgt := 62) K [0, 1, 2] (by decide) (by decide) (by simp only [List.forall_mem_cons]; exact ⟨hs0, hs1, hs2, fun _ h => absurd h List.not_mem_nil⟩) (by decide) dX1_isUnder_1 ?_
        refine g_iload_n (pn := 63) K rfl 0 rfl dX1_isUnder_62 ?_
        refine g_iload_n (pn := 64) K rfl 1 rfl dX1_isUnder_63 ?_
        refine g_icmp_ne (tgt := 71) (pn := 67) K rfl (by decide) dX1_isUnder_64 h (fun h => ?_) (fun h => ?_)
        · refine g_iconst (pn := 72) (v := 0) K rfl ic_0 dX1_isUnder_71 ?_
          exact g_zret K rfl dX1_isUnder_72 (bq0 (oi h)) rfl
        · refine g_iconst (pn := 68) (v := 1) K rfl ic_1 dX1_isUnder_67 ?_
          refine g_goto (tgt := 72) K (by decide) dX1_isUnder_68 ?_
          exact g_zret K rfl dX1_isUnder_72 (bq1 (oi h)) rfl
set_option maxHeartbeats 4000000 in
set_option maxRecDepth 20000 in
theorem w_f_Pick_clear {X : XT} {M : Mem}  {M' : Mem}   (h : f_Pick_clear M = some M') : CT layX X 0 yX2_clear cX2_clear 1 none [.ref (X.2.2.2.1 40)] M M' none := by
  refine CT.of rfl (Nat.le_of_ble_eq_true rfl) (lv := [(0, .ref (X.2.2.2.1 40))]) rfl (fun Γ K => ?_)
  have K : Kx layX X Γ RX2 cX2_clear 1 0 none := K
  unfold f_Pick_clear at h
  refine g_aload_n (pn := 1) K rfl 0 rfl dX2_clear_0 ?_
  refine g_iconst (pn := 2) (v := 0) K rfl ic_0 dX2_clear_1 ?_
  refine g_putz (pn := 5) K rfl fp_X2_7 lx_40 rfl rfl rfl dX2_clear_2 h (fun M1 h => ?_)
  exact g_vret K dX2_clear_5 (oi h)
set_option maxHeartbeats 4000000 in
set_option maxRecDepth 20000 in
theorem w_f_Pick_offer {X : XT} {M : Mem} {a1 : Int32} {a2 : Int32} {a3 : Int32} {M' : Mem}   (h : f_Pick_offer M a1 a2 a3 = some M') : CT layX X 0 yX2_offer cX2_offer 4 none [.ref (X.2.2.2.1 40), .int a1, .int a2, .int a3] M M' none := by
  refine CT.of rfl (Nat.le_of_ble_eq_true rfl) (lv := [(0, .ref (X.2.2.2.1 40)), (1, .int a1), (2, .int a2), (3, .int a3)]) rfl (fun Γ K => ?_)
  have K : Kx layX X Γ RX2 cX2_offer 4 0 none := K
  unfold f_Pick_offer at h
  refine g_aload_n (pn := 1) K rfl 0 rfl dX2_offer_0 ?_
  refine g_geti (pn := 4) K rfl fl_X2_7 lx_40 rfl dX2_offer_1 ?_
  refine jp_e1 h (fun u1 => G layX X Γ 4 (QM layX X Γ none M') 31 [(0, .ref (X.2.2.2.1 40)), (1, .int a1), (2, .int a2), (3, .int a3)] [] M) (fun u1 h => ?_) (fun j2 hj2 h => ?_)
  · refine g_aload_n (pn := 32) K rfl 0 rfl dX2_offer_31 ?_
    refine g_iconst (pn := 33) (v := 1) K rfl ic_1 dX2_offer_32 ?_
    refine g_putz (pn := 36) K rfl fp_X2_7 lx_40 rfl rfl rfl dX2_offer_33 h (fun M3 h => ?_)
    refine g_aload_n (pn := 37) K rfl 0 rfl dX2_offer_36 ?_
    refine g_iload_n (pn := 38) K rfl 1 rfl dX2_offer_37 ?_
    refine g_puti (pn := 41) K rfl fp_X2_20 lx_40 rfl dX2_offer_38 h (fun M4 h => ?_)
    refine g_aload_n (pn := 42) K rfl 0 rfl dX2_offer_41 ?_
    refine g_iload_n (pn := 43) K rfl 2 rfl dX2_offer_42 ?_
    refine g_puti (pn := 46) K rfl fp_X2_13 lx_40 rfl dX2_offer_43 h (fun M5 h => ?_)
    refine g_aload_n (pn := 47) K rfl 0 rfl dX2_offer_46 ?_
    refine g_iload_n (pn := 48) K rfl 3 rfl dX2_offer_47 ?_
    refine g_puti (pn := 51) K rfl fp_X2_17 lx_40 rfl dX2_offer_48 h (fun M6 h => ?_)
    exact g_vret K dX2_offer_51 (oi h)
  refine g_if_eq (tgt := 31) (pn := 7) K rfl (by decide) dX2_offer_4 h (fun h => ?_) (fun h => ?_)
  · exact hj2 _ h
  · refine g_iload_n (pn := 8) K rfl 2 rfl dX2_offer_7 ?_
    refine g_aload_n (pn := 9) K rfl 0 rfl dX2_offer_8 ?_
    refine g_geti (pn := 12) K rfl fl_X2_13 lx_40 rfl dX2_offer_9 ?_
    refine g_icmp_lt (tgt := 31) (pn := 15) K rfl (by decide) dX2_offer_12 h (fun h => ?_) (fun h => ?_)
    · exact hj2 _ h
    · refine g_iload_n (pn := 16) K rfl 2 rfl dX2_offer_15 ?_
      refine g_aload_n (pn := 17) K rfl 0 rfl dX2_offer_16 ?_
      refine g_geti (pn := 20) K rfl fl_X2_13 lx_40 rfl dX2_offer_17 ?_
      refine g_icmp_ne (tgt := 51) (pn := 23) K rfl (by decide) dX2_offer_20 h (fun h => ?_) (fun h => ?_)
      · exact g_vret K dX2_offer_51 (oi h)
      · refine g_iload_n (pn := 24) K rfl 3 rfl dX2_offer_23 ?_
        refine g_aload_n (pn := 25) K rfl 0 rfl dX2_offer_24 ?_
        refine g_geti (pn := 28) K rfl fl_X2_17 lx_40 rfl dX2_offer_25 ?_
        refine g_icmp_ge (tgt := 51) (pn := 31) K rfl (by decide) dX2_offer_28 h (fun h => ?_) (fun h => ?_)
        · exact g_vret K dX2_offer_51 (oi h)
        · exact hj2 _ h
set_option maxHeartbeats 4000000 in
set_option maxRecDepth 20000 in
theorem w_f_Sheet_isMissing {X : XT} {M : Mem} {t : Nat} {r : Bool} (ht : isSheet t)  (h : f_Sheet_isMissing M t = some r) : CT layX X 0 yX4_isMissing cX4_isMissing 1 (some .boolean) [.ref (X.2.2.2.1 t)] M M (some (.int (b2i r))) := by
  refine CT.of rfl (Nat.le_of_ble_eq_true rfl) (lv := [(0, .ref (X.2.2.2.1 t))]) rfl (fun Γ K => ?_)
  have K : Kx layX X Γ RX4 cX4_isMissing 1 0 (some .boolean) := K
  unfold f_Sheet_isMissing at h
  refine g_aload_n (pn := 1) K rfl 0 rfl dX4_isMissing_0 ?_
  refine g_geti (pn := 4) K rfl fl_X4_15 (lxSheet ht) rfl dX4_isMissing_1 ?_
  refine g_iconst (pn := 5) (v := (-1)) K rfl ic_m1 dX4_isMissing_4 ?_
  refine g_icmp_ne (tgt := 12) (pn := 8) K rfl (by decide) dX4_isMissing_5 h (fun h => ?_) (fun h => ?_)
  · refine g_iconst (pn := 13) (v := 0) K rfl ic_0 dX4_isMissing_12 ?_
    exact g_zret K rfl dX4_isMissing_13 (bq0 (oi h)) rfl
  · refine g_iconst (pn := 9) (v := 1) K rfl ic_1 dX4_isMissing_8 ?_
    refine g_goto (tgt := 13) K (by decide) dX4_isMissing_9 ?_
    exact g_zret K rfl dX4_isMissing_13 (bq1 (oi h)) rfl
set_option maxHeartbeats 4000000 in
set_option maxRecDepth 20000 in
theorem w_f_Sheet_has {X : XT} {M : Mem} {t : Nat} {a1 : Int32} {r : Bool} (ht : isSheet t)  (h : f_Sheet_has M t a1 = some r) : CT layX X 0 yX4_has cX4_has 2 (some .boolean) [.ref (X.2.2.2.1 t), .int a1] M M (some (.int (b2i r))) := by
  refine CT.of rfl (Nat.le_of_ble_eq_true rfl) (lv := [(0, .ref (X.2.2.2.1 t)), (1, .int a1)]) rfl (fun Γ K => ?_)
  have K : Kx layX X Γ RX4 cX4_has 2 0 (some .boolean) := K
  unfold f_Sheet_has at h
  refine g_iload_n (pn := 1) K rfl 1 rfl dX4_has_0 ?_
  refine g_if_lt (tgt := 22) (pn := 4) K rfl (by decide) dX4_has_1 h (fun h => ?_) (fun h => ?_)
  · refine g_iconst (pn := 23) (v := 0) K rfl ic_0 dX4_has_22 ?_
    exact g_zret K rfl dX4_has_23 (bq0 (oi h)) rfl
  · refine g_iload_n (pn := 5) K rfl 1 rfl dX4_has_4 ?_
    refine g_aload_n (pn := 6) K rfl 0 rfl dX4_has_5 ?_
    refine g_geti (pn := 9) K rfl fl_X4_19 (lxSheet ht) rfl dX4_has_6 ?_
    refine g_icmp_ge (tgt := 22) (pn := 12) K rfl (by decide) dX4_has_9 h (fun h => ?_) (fun h => ?_)
    · refine g_iconst (pn := 23) (v := 0) K rfl ic_0 dX4_has_22 ?_
      exact g_zret K rfl dX4_has_23 (bq0 (oi h)) rfl
    · refine g_iload_n (pn := 13) K rfl 1 rfl dX4_has_12 ?_
      refine g_bipush (pn := 15) (v := 40) K rfl bp_40 dX4_has_13 ?_
      refine g_icmp_ge (tgt := 22) (pn := 18) K rfl (by decide) dX4_has_15 h (fun h => ?_) (fun h => ?_)
      · refine g_iconst (pn := 23) (v := 0) K rfl ic_0 dX4_has_22 ?_
        exact g_zret K rfl dX4_has_23 (bq0 (oi h)) rfl
      · refine g_iconst (pn := 19) (v := 1) K rfl ic_1 dX4_has_18 ?_
        refine g_goto (tgt := 23) K (by decide) dX4_has_19 ?_
        exact g_zret K rfl dX4_has_23 (bq1 (oi h)) rfl
set_option maxHeartbeats 4000000 in
set_option maxRecDepth 20000 in
theorem w_f_Sheet_hasRun {X : XT} {M : Mem} {t : Nat} {a1 : Int32} {a2 : Int32} {r : Bool} (ht : isSheet t)  (h : f_Sheet_hasRun M t a1 a2 = some r) : CT layX X 0 yX4_hasRun cX4_hasRun 3 (some .boolean) [.ref (X.2.2.2.1 t), .int a1, .int a2] M M (some (.int (b2i r))) := by
  refine CT.of rfl (Nat.le_of_ble_eq_true rfl) (lv := [(0, .ref (X.2.2.2.1 t)), (1, .int a1), (2, .int a2)]) rfl (fun Γ K => ?_)
  have K : Kx layX X Γ RX4 cX4_hasRun 3 0 (some .boolean) := K
  unfold f_Sheet_hasRun at h
  refine g_iload_n (pn := 1) K rfl 2 rfl dX4_hasRun_0 ?_
  refine g_if_lt (tgt := 30) (pn := 4) K rfl (by decide) dX4_hasRun_1 h (fun h => ?_) (fun h => ?_)
  · refine g_iconst (pn := 31) (v := 0) K rfl ic_0 dX4_hasRun_30 ?_
    exact g_zret K rfl dX4_hasRun_31 (bq0 (oi h)) rfl
  · refine g_iload_n (pn := 5) K rfl 2 rfl dX4_hasRun_4 ?_
    refine g_aload_n (pn := 6) K rfl 0 rfl dX4_hasRun_5 ?_
    refine g_geti (pn := 9) K rfl fl_X4_19 (lxSheet ht) rfl dX4_hasRun_6 ?_
    refine g_icmp_gt (tgt := 30) (pn := 12) K rfl (by decide) dX4_hasRun_9 h (fun h => ?_) (fun h => ?_)
    · refine g_iconst (pn := 31) (v := 0) K rfl ic_0 dX4_hasRun_30 ?_
      exact g_zret K rfl dX4_hasRun_31 (bq0 (oi h)) rfl
    · refine g_iload_n (pn := 13) K rfl 1 rfl dX4_hasRun_12 ?_
      refine g_if_lt (tgt := 30) (pn := 16) K rfl (by decide) dX4_hasRun_13 h (fun h => ?_) (fun h => ?_)
      · refine g_iconst (pn := 31) (v := 0) K rfl ic_0 dX4_hasRun_30 ?_
        exact g_zret K rfl dX4_hasRun_31 (bq0 (oi h)) rfl
      · refine g_iload_n (pn := 17) K rfl 1 rfl dX4_hasRun_16 ?_
        refine g_aload_n (pn := 18) K rfl 0 rfl dX4_hasRun_17 ?_
        refine g_geti (pn := 21) K rfl fl_X4_19 (lxSheet ht) rfl dX4_hasRun_18 ?_
        refine g_iload_n (pn := 22) K rfl 2 rfl dX4_hasRun_21 ?_
        refine g_isub (pn := 23) K rfl dX4_hasRun_22 ?_
        refine g_icmp_gt (tgt := 30) (pn := 26) K rfl (by decide) dX4_hasRun_23 h (fun h => ?_) (fun h => ?_)
        · refine g_iconst (pn := 31) (v := 0) K rfl ic_0 dX4_hasRun_30 ?_
          exact g_zret K rfl dX4_hasRun_31 (bq0 (oi h)) rfl
        · refine g_iconst (pn := 27) (v := 1) K rfl ic_1 dX4_hasRun_26 ?_
          refine g_goto (tgt := 31) K (by decide) dX4_hasRun_27 ?_
          exact g_zret K rfl dX4_hasRun_31 (bq1 (oi h)) rfl
set_option maxHeartbeats 4000000 in
set_option maxRecDepth 20000 in
theorem w_f_Sheet_become {X : XT} {M : Mem} {t : Nat} {a1 : Int32} {a2 : Int32} {M' : Mem} (ht : isSheet t)  (h : f_Sheet_become M t a1 a2 = some M') : CT layX X 0 yX4_become cX4_become 4 none [.ref (X.2.2.2.1 t), .int a1, .int a2] M M' none := by
  refine CT.of rfl (Nat.le_of_ble_eq_true rfl) (lv := [(0, .ref (X.2.2.2.1 t)), (1, .int a1), (2, .int a2)]) rfl (fun Γ K => ?_)
  have K : Kx layX X Γ RX4 cX4_become 4 0 none := K
  unfold f_Sheet_become at h
  refine g_aload_n (pn := 1) K rfl 0 rfl dX4_become_0 ?_
  refine g_iload_n (pn := 2) K rfl 1 rfl dX4_become_1 ?_
  refine g_puti (pn := 5) K rfl fp_X4_15 (lxSheet ht) rfl dX4_become_2 h (fun M1 h => ?_)
  refine g_aload_n (pn := 6) K rfl 0 rfl dX4_become_5 ?_
  refine g_iload_n (pn := 7) K rfl 2 rfl dX4_become_6 ?_
  refine g_puti (pn := 10) K rfl fp_X4_19 (lxSheet ht) rfl dX4_become_7 h (fun M2 h => ?_)
  refine g_iconst (pn := 11) (v := 0) K rfl ic_0 dX4_become_10 ?_
  refine g_istore_n (pn := 12) (lv' := [(3, .int 0), (0, .ref (X.2.2.2.1 t)), (1, .int a1), (2, .int a2)]) K rfl dX4_become_11 rfl (Nat.le_of_ble_eq_true rfl) rfl ?_
  refine jp_e1 h (fun M3 => G layX X Γ 4 (QM layX X Γ none M') 31 [] [] M3) (fun M3 h => ?_) (fun j4 hj4 h => ?_)
  · exact g_vret K dX4_become_31 (oi h)
  have LP12 : ∀ (fu7 : Nat) (v5 : Int32) (M6 : Mem), f_Sheet_become_L12 t j4 fu7 v5 M6 = some M' → G layX X Γ 4 (QM layX X Γ none M') 12 [(0, .ref (X.2.2.2.1 t)), (3, .int v5)] [] M6 := by
    intro fu7
    induction fu7 with
    | zero =>
      intro v5 M6 h
      rw [f_Sheet_become_L12] at h
      cases h
    | succ fu7 ih7 =>
      intro v5 M6 h
      rw [f_Sheet_become_L12] at h
      refine g_iload_n (pn := 13) K rfl 1 rfl dX4_become_12 ?_
      refine g_bipush (pn := 15) (v := 40) K rfl bp_40 dX4_become_13 ?_
      refine g_icmp_ge (tgt := 31) (pn := 18) K rfl (by decide) dX4_become_15 h (fun h => ?_) (fun h => ?_)
      · refine g_sub [] rfl ?_
        exact hj4 _ h
      · refine g_aload_n (pn := 19) K rfl 0 rfl dX4_become_18 ?_
        refine g_getr (pn := 22) (j := (t + 1)) K rfl fl_X4_9 (lxSheet ht) rfl dX4_become_19 ?_
        refine g_iload_n (pn := 23) K rfl 1 rfl dX4_become_22 ?_
        refine g_iconst (pn := 24) (v := 0) K rfl ic_0 dX4_become_23 ?_
        refine g_iast (pn := 25) K rfl (lxSheet1 ht) dX4_become_24 h (fun M8 h => ?_)
        obtain ⟨v9, ev9, h⟩ := bnd_e h
        refine g_iinc (pn := 28) (v := v9) (lv' := [(3, .int v9), (0, .ref (X.2.2.2.1 t))]) K rfl 1 rfl ii_1 ev9 dX4_become_25 (Nat.le_of_ble_eq_true rfl) rfl ?_
        refine g_goto (tgt := 12) K (by decide) dX4_become_28 ?_
        refine g_sub [1, 0] rfl ?_
        exact ih7 _ _ h
  refine g_sub [1, 0] rfl ?_
  exact LP12 FU _ _ h
set_option maxHeartbeats 4000000 in
set_option maxRecDepth 20000 in
theorem w_f_Sheet_put {X : XT} {M : Mem} {t : Nat} {a1 : Int32} {a2 : Int32} {M' : Mem} (ht : isSheet t)  (h : f_Sheet_put M t a1 a2 = some M') : CT layX X 1 yX4_put cX4_put 3 none [.ref (X.2.2.2.1 t), .int a1, .int a2] M M' none := by
  refine CT.of rfl (Nat.le_of_ble_eq_true rfl) (lv := [(0, .ref (X.2.2.2.1 t)), (1, .int a1), (2, .int a2)]) rfl (fun Γ K => ?_)
  have K : Kx layX X Γ RX4 cX4_put 3 1 none := K
  unfold f_Sheet_put at h
  refine g_aload_n (pn := 1) K rfl 0 rfl dX4_put_0 ?_
  refine g_iload_n (pn := 2) K rfl 1 rfl dX4_put_1 ?_
  obtain ⟨v2, hc1, h⟩ := ob_e h
  refine g_callV1 (pn := 5) (As := [.int a1]) (rest := []) (a := t) K rfl (d' := 0) (Nat.le_of_ble_eq_true rfl) mv_X4_22 (recvO K (lxSheet ht) rfl) (w_f_Sheet_has ht hc1) rfl rfl (Nat.le_of_ble_eq_true rfl) dX4_put_2 ?_
  refine g_ifB_eq (tgt := 40) (pn := 8) K rfl (by decide) dX4_put_5 h (fun h => ?_) (fun h => ?_)
  · exact g_vret K dX4_put_40 (oi h)
  · refine g_aload_n (pn := 9) K rfl 0 rfl dX4_put_8 ?_
    refine g_getr (pn := 12) (j := (t + 1)) K rfl fl_X4_9 (lxSheet ht) rfl dX4_put_9 ?_
    refine g_iload_n (pn := 13) K rfl 1 rfl dX4_put_12 ?_
    refine g_aload_n (pn := 14) K rfl 0 rfl dX4_put_13 ?_
    refine g_geti (pn := 17) K rfl fl_X4_15 (lxSheet ht) rfl dX4_put_14 ?_
    refine jp_e1 h (fun v3 => G layX X Γ 3 (QM layX X Γ none M') 39 [] [.int v3, .int a1, .ref (X.2.2.2.1 (t + 1))] M) (fun v3 h => ?_) (fun j4 hj4 h => ?_)
    · refine g_iast (pn := 40) K rfl (lxSheet1 ht) dX4_put_39 h (fun M5 h => ?_)
      exact g_vret K dX4_put_40 (oi h)
    refine g_if_ne (tgt := 25) (pn := 20) K rfl (by decide) dX4_put_17 h (fun h => ?_) (fun h => ?_)
    · refine g_aload_n (pn := 26) K rfl 0 rfl dX4_put_25 ?_
      refine g_geti (pn := 29) K rfl fl_X4_15 (lxSheet ht) rfl dX4_put_26 ?_
      refine g_iconst (pn := 30) (v := 1) K rfl ic_1 dX4_put_29 ?_
      refine g_icmp_ne (tgt := 38) (pn := 33) K rfl (by decide) dX4_put_30 h (fun h => ?_) (fun h => ?_)
      · refine g_iload_n (pn := 39) K rfl 2 rfl dX4_put_38 ?_
        refine g_sub [] rfl ?_
        exact hj4 _ h
      · refine g_iload_n (pn := 34) K rfl 2 rfl dX4_put_33 ?_
        refine g_i2s (pn := 35) K rfl dX4_put_34 ?_
        refine g_goto (tgt := 39) K (by decide) dX4_put_35 ?_
        refine g_sub [] rfl ?_
        exact hj4 _ h
    · refine g_iload_n (pn := 21) K rfl 2 rfl dX4_put_20 ?_
      refine g_i2b (pn := 22) K rfl dX4_put_21 ?_
      refine g_goto (tgt := 39) K (by decide) dX4_put_22 ?_
      refine g_sub [] rfl ?_
      exact hj4 _ h
set_option maxHeartbeats 4000000 in
set_option maxRecDepth 20000 in
theorem w_f_Site_has {X : XT} {M : Mem} {t : Nat} {a1 : Int32} {r : Bool} (ht : isSite t)  (h : f_Site_has M t a1 = some r) : CT layX X 0 yX5_has cX5_has 2 (some .boolean) [.ref (X.2.2.2.1 t), .int a1] M M (some (.int (b2i r))) := by
  refine CT.of rfl (Nat.le_of_ble_eq_true rfl) (lv := [(0, .ref (X.2.2.2.1 t)), (1, .int a1)]) rfl (fun Γ K => ?_)
  have K : Kx layX X Γ RX5 cX5_has 2 0 (some .boolean) := K
  unfold f_Site_has at h
  refine g_iload_n (pn := 1) K rfl 1 rfl dX5_has_0 ?_
  refine g_if_lt (tgt := 22) (pn := 4) K rfl (by decide) dX5_has_1 h (fun h => ?_) (fun h => ?_)
  · refine g_iconst (pn := 23) (v := 0) K rfl ic_0 dX5_has_22 ?_
    exact g_zret K rfl dX5_has_23 (bq0 (oi h)) rfl
  · refine g_iload_n (pn := 5) K rfl 1 rfl dX5_has_4 ?_
    refine g_aload_n (pn := 6) K rfl 0 rfl dX5_has_5 ?_
    refine g_geti (pn := 9) K rfl fl_X5_27 (lxSite ht) rfl dX5_has_6 ?_
    refine g_icmp_ge (tgt := 22) (pn := 12) K rfl (by decide) dX5_has_9 h (fun h => ?_) (fun h => ?_)
    · refine g_iconst (pn := 23) (v := 0) K rfl ic_0 dX5_has_22 ?_
      exact g_zret K rfl dX5_has_23 (bq0 (oi h)) rfl
    · refine g_iload_n (pn := 13) K rfl 1 rfl dX5_has_12 ?_
      refine g_bipush (pn := 15) (v := 6) K rfl bp_6 dX5_has_13 ?_
      refine g_icmp_ge (tgt := 22) (pn := 18) K rfl (by decide) dX5_has_15 h (fun h => ?_) (fun h => ?_)
      · refine g_iconst (pn := 23) (v := 0) K rfl ic_0 dX5_has_22 ?_
        exact g_zret K rfl dX5_has_23 (bq0 (oi h)) rfl
      · refine g_iconst (pn := 19) (v := 1) K rfl ic_1 dX5_has_18 ?_
        refine g_goto (tgt := 23) K (by decide) dX5_has_19 ?_
        exact g_zret K rfl dX5_has_23 (bq1 (oi h)) rfl
set_option maxHeartbeats 4000000 in
set_option maxRecDepth 20000 in
theorem w_f_Site_turn {X : XT} {M : Mem} {t : Nat} {a1 : Int32} {a2 : Int32} {M' : Mem} (ht : isSite t)  (h : f_Site_turn M t a1 a2 = some M') : CT layX X 0 yX5_turn cX5_turn 3 none [.ref (X.2.2.2.1 t), .int a1, .int a2] M M' none := by
  refine CT.of rfl (Nat.le_of_ble_eq_true rfl) (lv := [(0, .ref (X.2.2.2.1 t)), (1, .int a1), (2, .int a2)]) rfl (fun Γ K => ?_)
  have K : Kx layX X Γ RX5 cX5_turn 3 0 none := K
  unfold f_Site_turn at h
  refine g_iload_n (pn := 1) K rfl 1 rfl dX5_turn_0 ?_
  refine g_if_lt (tgt := 16) (pn := 4) K rfl (by decide) dX5_turn_1 h (fun h => ?_) (fun h => ?_)
  · exact g_vret K dX5_turn_16 (oi h)
  · refine g_iload_n (pn := 5) K rfl 1 rfl dX5_turn_4 ?_
    refine g_iconst (pn := 6) (v := 5) K rfl ic_5 dX5_turn_5 ?_
    refine g_icmp_gt (tgt := 16) (pn := 9) K rfl (by decide) dX5_turn_6 h (fun h => ?_) (fun h => ?_)
    · exact g_vret K dX5_turn_16 (oi h)
    · refine g_aload_n (pn := 10) K rfl 0 rfl dX5_turn_9 ?_
      refine g_getr (pn := 13) (j := (t + 1)) K rfl fl_X5_9 (lxSite ht) rfl dX5_turn_10 ?_
      refine g_iload_n (pn := 14) K rfl 1 rfl dX5_turn_13 ?_
      refine g_iload_n (pn := 15) K rfl 2 rfl dX5_turn_14 ?_
      refine g_iast (pn := 16) K rfl (lxSite1 ht) dX5_turn_15 h (fun M1 h => ?_)
      exact g_vret K dX5_turn_16 (oi h)
set_option maxHeartbeats 4000000 in
set_option maxRecDepth 20000 in
theorem w_f_Site_rowOf {X : XT} {M : Mem} {t : Nat} {a1 : Int32} {r : Nat} (ht : isSite t)  (h : f_Site_rowOf t a1 = some r) : CT layX X 0 yX5_rowOf cX5_rowOf 2 (some (.array .int)) [.ref (X.2.2.2.1 t), .int a1] M M (some (.ref (X.2.2.2.1 r))) := by
  refine CT.of rfl (Nat.le_of_ble_eq_true rfl) (lv := [(0, .ref (X.2.2.2.1 t)), (1, .int a1)]) rfl (fun Γ K => ?_)
  have K : Kx layX X Γ RX5 cX5_rowOf 2 0 (some (.array .int)) := K
  unfold f_Site_rowOf at h
  refine g_iload_n (pn := 1) K rfl 1 rfl dX5_rowOf_0 ?_
  rcases Decidable.em (a1 = 6) with hs | hs0
  · replace h := (ite_e h).1 hs
    refine g_tsw (tgt := 28) (v := 6) (off := 27) K hs (by decide) (by decide) (by decide) (by decide) dX5_rowOf_1 ?_
    refine g_aload_n (pn := 29) K rfl 0 rfl dX5_rowOf_28 ?_
    refine g_getr (pn := 32) (j := (t + 3)) K rfl fl_X5_18 (lxSite ht) rfl dX5_rowOf_29 ?_
    exact g_aret K (Or.inr ⟨_, rfl⟩) (Or.inr ⟨_, rfl⟩) dX5_rowOf_32 (by rw [oi h]) rfl
  · replace h := (ite_e h).2 hs0
    rcases Decidable.em (a1 = 7) with hs | hs1
    · replace h := (ite_e h).1 hs
      refine g_tsw (tgt := 33) (v := 7) (off := 32) K hs (by decide) (by decide) (by decide) (by decide) dX5_rowOf_1 ?_
      refine g_aload_n (pn := 34) K rfl 0 rfl dX5_rowOf_33 ?_
      refine g_getr (pn := 37) (j := (t + 4)) K rfl fl_X5_21 (lxSite ht) rfl dX5_rowOf_34 ?_
      exact g_aret K (Or.inr ⟨_, rfl⟩) (Or.inr ⟨_, rfl⟩) dX5_rowOf_37 (by rw [oi h]) rfl
    · replace h := (ite_e h).2 hs1
      rcases Decidable.em (a1 = 8) with hs | hs2
      · replace h := (ite_e h).1 hs
        refine g_tsw (tgt := 38) (v := 8) (off := 37) K hs (by decide) (by decide) (by decide) (by decide) dX5_rowOf_1 ?_
        refine g_aload_n (pn := 39) K rfl 0 rfl dX5_rowOf_38 ?_
        refine g_getr (pn := 42) (j := (t + 5)) K rfl fl_X5_24 (lxSite ht) rfl dX5_rowOf_39 ?_
        exact g_aret K (Or.inr ⟨_, rfl⟩) (Or.inr ⟨_, rfl⟩) dX5_rowOf_42 (by rw [oi h]) rfl
      · replace h := (ite_e h).2 hs2
        refine g_tswD (tgt := 43) K [6, 7, 8] (by decide) (by decide) (by simp only [List.forall_mem_cons]; exact ⟨hs0, hs1, hs2, fun _ h => absurd h List.not_mem_nil⟩) (by decide) dX5_rowOf_1 ?_
        refine g_aload_n (pn := 44) K rfl 0 rfl dX5_rowOf_43 ?_
        refine g_getr (pn := 47) (j := (t + 1)) K rfl fl_X5_9 (lxSite ht) rfl dX5_rowOf_44 ?_
        exact g_aret K (Or.inr ⟨_, rfl⟩) (Or.inr ⟨_, rfl⟩) dX5_rowOf_47 (by rw [oi h]) rfl
set_option maxHeartbeats 4000000 in
set_option maxRecDepth 20000 in
theorem w_f_Site_add {X : XT} {M : Mem} {t : Nat} {a1 : Int32} {a2 : Int32} {a3 : Int32} {M' : Mem} {r : Int32} (ht : isSite t)  (h : f_Site_add M t a1 a2 a3 = some (M', r)) : CT layX X 0 yX5_add cX5_add 4 (some .int) [.ref (X.2.2.2.1 t), .int a1, .int a2, .int a3] M M' (some (.int r)) := by
  refine CT.of rfl (Nat.le_of_ble_eq_true rfl) (lv := [(0, .ref (X.2.2.2.1 t)), (1, .int a1), (2, .int a2), (3, .int a3)]) rfl (fun Γ K => ?_)
  have K : Kx layX X Γ RX5 cX5_add 4 0 (some .int) := K
  unfold f_Site_add at h
  refine g_aload_n (pn := 1) K rfl 0 rfl dX5_add_0 ?_
  refine g_geti (pn := 4) K rfl fl_X5_27 (lxSite ht) rfl dX5_add_1 ?_
  refine g_if_lt (tgt := 16) (pn := 7) K rfl (by decide) dX5_add_4 h (fun h => ?_) (fun h => ?_)
  · refine g_bipush (pn := 18) (v := (-4)) K rfl bp_m4 dX5_add_16 ?_
    exact g_iret K dX5_add_18 (oi2 h).2 (oi2 h).1
  · refine g_aload_n (pn := 8) K rfl 0 rfl dX5_add_7 ?_
    refine g_geti (pn := 11) K rfl fl_X5_27 (lxSite ht) rfl dX5_add_8 ?_
    refine g_bipush (pn := 13) (v := 6) K rfl bp_6 dX5_add_11 ?_
    refine g_icmp_lt (tgt := 19) (pn := 16) K rfl (by decide) dX5_add_13 h (fun h => ?_) (fun h => ?_)
    · refine g_aload_n (pn := 20) K rfl 0 rfl dX5_add_19 ?_
      refine g_getr (pn := 23) (j := (t + 2)) K rfl fl_X5_15 (lxSite ht) rfl dX5_add_20 ?_
      refine g_aload_n (pn := 24) K rfl 0 rfl dX5_add_23 ?_
      refine g_geti (pn := 27) K rfl fl_X5_27 (lxSite ht) rfl dX5_add_24 ?_
      refine g_iload_n (pn := 28) K rfl 1 rfl dX5_add_27 ?_
      refine g_iast (pn := 29) K rfl (lxSite2 ht) dX5_add_28 h (fun M1 h => ?_)
      refine g_aload_n (pn := 30) K rfl 0 rfl dX5_add_29 ?_
      refine g_getr (pn := 33) (j := (t + 3)) K rfl fl_X5_18 (lxSite ht) rfl dX5_add_30 ?_
      refine g_aload_n (pn := 34) K rfl 0 rfl dX5_add_33 ?_
      refine g_geti (pn := 37) K rfl fl_X5_27 (lxSite ht) rfl dX5_add_34 ?_
      refine g_iload_n (pn := 38) K rfl 2 rfl dX5_add_37 ?_
      refine g_iast (pn := 39) K rfl (lxSite3 ht) dX5_add_38 h (fun M2 h => ?_)
      refine g_aload_n (pn := 40) K rfl 0 rfl dX5_add_39 ?_
      refine g_getr (pn := 43) (j := (t + 4)) K rfl fl_X5_21 (lxSite ht) rfl dX5_add_40 ?_
      refine g_aload_n (pn := 44) K rfl 0 rfl dX5_add_43 ?_
      refine g_geti (pn := 47) K rfl fl_X5_27 (lxSite ht) rfl dX5_add_44 ?_
      refine g_iload_n (pn := 48) K rfl 3 rfl dX5_add_47 ?_
      refine g_iast (pn := 49) K rfl (lxSite4 ht) dX5_add_48 h (fun M3 h => ?_)
      refine g_aload_n (pn := 50) K rfl 0 rfl dX5_add_49 ?_
      refine g_getr (pn := 53) (j := (t + 5)) K rfl fl_X5_24 (lxSite ht) rfl dX5_add_50 ?_
      refine g_aload_n (pn := 54) K rfl 0 rfl dX5_add_53 ?_
      refine g_geti (pn := 57) K rfl fl_X5_27 (lxSite ht) rfl dX5_add_54 ?_
      refine g_iconst (pn := 58) (v := 0) K rfl ic_0 dX5_add_57 ?_
      refine g_iast (pn := 59) K rfl (lxSite5 ht) dX5_add_58 h (fun M4 h => ?_)
      refine g_aload_n (pn := 60) K rfl 0 rfl dX5_add_59 ?_
      refine g_dup (pn := 61) K rfl rfl dX5_add_60 ?_
      refine g_geti (pn := 64) K rfl fl_X5_27 (lxSite ht) rfl dX5_add_61 ?_
      refine g_iconst (pn := 65) (v := 1) K rfl ic_1 dX5_add_64 ?_
      refine g_iadd (pn := 66) K rfl dX5_add_65 ?_
      refine g_puti (pn := 69) K rfl fp_X5_27 (lxSite ht) rfl dX5_add_66 h (fun M5 h => ?_)
      refine g_aload_n (pn := 70) K rfl 0 rfl dX5_add_69 ?_
      refine g_geti (pn := 73) K rfl fl_X5_27 (lxSite ht) rfl dX5_add_70 ?_
      refine g_iconst (pn := 74) (v := 1) K rfl ic_1 dX5_add_73 ?_
      refine g_isub (pn := 75) K rfl dX5_add_74 ?_
      exact g_iret K dX5_add_75 (oi2 h).2 (oi2 h).1
    · refine g_bipush (pn := 18) (v := (-4)) K rfl bp_m4 dX5_add_16 ?_
      exact g_iret K dX5_add_18 (oi2 h).2 (oi2 h).1
set_option maxHeartbeats 4000000 in
set_option maxRecDepth 20000 in
theorem w_f_Site_wetJust {X : XT} {M : Mem} {t : Nat} {a1 : Int32} {M' : Mem} (ht : isSite t)  (h : f_Site_wetJust M t a1 = some M') : CT layX X 0 yX5_wetJust cX5_wetJust 3 none [.ref (X.2.2.2.1 t), .int a1] M M' none := by
  refine CT.of rfl (Nat.le_of_ble_eq_true rfl) (lv := [(0, .ref (X.2.2.2.1 t)), (1, .int a1)]) rfl (fun Γ K => ?_)
  have K : Kx layX X Γ RX5 cX5_wetJust 3 0 none := K
  unfold f_Site_wetJust at h
  refine g_iconst (pn := 1) (v := 0) K rfl ic_0 dX5_wetJust_0 ?_
  refine g_istore_n (pn := 2) (lv' := [(2, .int 0), (0, .ref (X.2.2.2.1 t)), (1, .int a1)]) K rfl dX5_wetJust_1 rfl (Nat.le_of_ble_eq_true rfl) rfl ?_
  refine jp_e1 h (fun M1 => G layX X Γ 3 (QM layX X Γ none M') 25 [] [] M1) (fun M1 h => ?_) (fun j2 hj2 h => ?_)
  · exact g_vret K dX5_wetJust_25 (oi h)
  have LP2 : ∀ (fu5 : Nat) (v3 : Int32) (M4 : Mem), f_Site_wetJust_L2 t a1 j2 fu5 v3 M4 = some M' → G layX X Γ 3 (QM layX X Γ none M') 2 [(0, .ref (X.2.2.2.1 t)), (1, .int a1), (2, .int v3)] [] M4 := by
    intro fu5
    induction fu5 with
    | zero =>
      intro v3 M4 h
      rw [f_Site_wetJust_L2] at h
      cases h
    | succ fu5 ih5 =>
      intro v3 M4 h
      rw [f_Site_wetJust_L2] at h
      refine g_iload_n (pn := 3) K rfl 2 rfl dX5_wetJust_2 ?_
      refine g_bipush (pn := 5) (v := 6) K rfl bp_6 dX5_wetJust_3 ?_
      refine g_icmp_ge (tgt := 25) (pn := 8) K rfl (by decide) dX5_wetJust_5 h (fun h => ?_) (fun h => ?_)
      · refine g_sub [] rfl ?_
        exact hj2 _ h
      · refine g_aload_n (pn := 9) K rfl 0 rfl dX5_wetJust_8 ?_
        refine g_getr (pn := 12) (j := (t + 5)) K rfl fl_X5_24 (lxSite ht) rfl dX5_wetJust_9 ?_
        refine g_iload_n (pn := 13) K rfl 2 rfl dX5_wetJust_12 ?_
        refine g_iload_n (pn := 14) K rfl 1 rfl dX5_wetJust_13 ?_
        refine g_iload_n (pn := 15) K rfl 2 rfl dX5_wetJust_14 ?_
        refine g_ishr (pn := 16) K rfl dX5_wetJust_15 ?_
        refine g_iconst (pn := 17) (v := 1) K rfl ic_1 dX5_wetJust_16 ?_
        refine g_iand (pn := 18) K rfl dX5_wetJust_17 ?_
        refine g_iast (pn := 19) K rfl (lxSite5 ht) dX5_wetJust_18 h (fun M6 h => ?_)
        obtain ⟨v7, ev7, h⟩ := bnd_e h
        refine g_iinc (pn := 22) (v := v7) (lv' := [(2, .int v7), (0, .ref (X.2.2.2.1 t)), (1, .int a1)]) K rfl 2 rfl ii_1 ev7 dX5_wetJust_19 (Nat.le_of_ble_eq_true rfl) rfl ?_
        refine g_goto (tgt := 2) K (by decide) dX5_wetJust_22 ?_
        refine g_sub [1, 2, 0] rfl ?_
        exact ih5 _ _ h
  refine g_sub [1, 2, 0] rfl ?_
  exact LP2 FU _ _ h
set_option maxHeartbeats 4000000 in
set_option maxRecDepth 20000 in
theorem w_f_Site_become {X : XT} {M : Mem} {t : Nat} {t1 : Nat} {M' : Mem} (ht : isSite t) (ht1 : isSite t1)  (h : f_Site_become M t t1 = some M') : CT layX X 0 yX5_become cX5_become 3 none [.ref (X.2.2.2.1 t), .ref (X.2.2.2.1 t1)] M M' none := by
  refine CT.of rfl (Nat.le_of_ble_eq_true rfl) (lv := [(0, .ref (X.2.2.2.1 t)), (1, .ref (X.2.2.2.1 t1))]) rfl (fun Γ K => ?_)
  have K : Kx layX X Γ RX5 cX5_become 3 0 none := K
  unfold f_Site_become at h
  refine g_iconst (pn := 1) (v := 0) K rfl ic_0 dX5_become_0 ?_
  refine g_istore_n (pn := 2) (lv' := [(2, .int 0), (0, .ref (X.2.2.2.1 t)), (1, .ref (X.2.2.2.1 t1))]) K rfl dX5_become_1 rfl (Nat.le_of_ble_eq_true rfl) rfl ?_
  refine jp_e1 h (fun M1 => G layX X Γ 3 (QM layX X Γ none M') 25 [(0, .ref (X.2.2.2.1 t)), (1, .ref (X.2.2.2.1 t1))] [] M1) (fun M1 h => ?_) (fun j2 hj2 h => ?_)
  · refine g_iconst (pn := 26) (v := 0) K rfl ic_0 dX5_become_25 ?_
    refine g_istore_n (pn := 27) (lv' := [(2, .int 0), (0, .ref (X.2.2.2.1 t)), (1, .ref (X.2.2.2.1 t1))]) K rfl dX5_become_26 rfl (Nat.le_of_ble_eq_true rfl) rfl ?_
    refine jp_e1 h (fun M3 => G layX X Γ 3 (QM layX X Γ none M') 87 [(0, .ref (X.2.2.2.1 t)), (1, .ref (X.2.2.2.1 t1))] [] M3) (fun M3 h => ?_) (fun j4 hj4 h => ?_)
    · refine g_aload_n (pn := 88) K rfl 0 rfl dX5_become_87 ?_
      refine g_aload_n (pn := 89) K rfl 1 rfl dX5_become_88 ?_
      refine g_geti (pn := 92) K rfl fl_X5_27 (lxSite ht1) rfl dX5_become_89 ?_
      refine g_puti (pn := 95) K rfl fp_X5_27 (lxSite ht) rfl dX5_become_92 h (fun M5 h => ?_)
      refine g_aload_n (pn := 96) K rfl 0 rfl dX5_become_95 ?_
      refine g_aload_n (pn := 97) K rfl 1 rfl dX5_become_96 ?_
      refine g_geti (pn := 100) K rfl fl_X5_31 (lxSite ht1) rfl dX5_become_97 ?_
      refine g_puti (pn := 103) K rfl fp_X5_31 (lxSite ht) rfl dX5_become_100 h (fun M6 h => ?_)
      exact g_vret K dX5_become_103 (oi h)
    have LP27 : ∀ (fu9 : Nat) (v7 : Int32) (M8 : Mem), f_Site_become_L27 t t1 j4 fu9 v7 M8 = some M' → G layX X Γ 3 (QM layX X Γ none M') 27 [(0, .ref (X.2.2.2.1 t)), (1, .ref (X.2.2.2.1 t1)), (2, .int v7)] [] M8 := by
      intro fu9
      induction fu9 with
      | zero =>
        intro v7 M8 h
        rw [f_Site_become_L27] at h
        cases h
      | succ fu9 ih9 =>
        intro v7 M8 h
        rw [f_Site_become_L27] at h
        refine g_iload_n (pn := 28) K rfl 2 rfl dX5_become_27 ?_
        refine g_bipush (pn := 30) (v := 6) K rfl bp_6 dX5_become_28 ?_
        refine g_icmp_ge (tgt := 87) (pn := 33) K rfl (by decide) dX5_become_30 h (fun h => ?_) (fun h => ?_)
        · refine g_sub [0, 1] rfl ?_
          exact hj4 _ h
        · refine g_aload_n (pn := 34) K rfl 0 rfl dX5_become_33 ?_
          refine g_getr (pn := 37) (j := (t + 2)) K rfl fl_X5_15 (lxSite ht) rfl dX5_become_34 ?_
          refine g_iload_n (pn := 38) K rfl 2 rfl dX5_become_37 ?_
          refine g_aload_n (pn := 39) K rfl 1 rfl dX5_become_38 ?_
          refine g_getr (pn := 42) (j := (t1 + 2)) K rfl fl_X5_15 (lxSite ht1) rfl dX5_become_39 ?_
          refine g_iload_n (pn := 43) K rfl 2 rfl dX5_become_42 ?_
          refine g_iald (pn := 44) K rfl (lxSite2 ht1) dX5_become_43 h (fun h => ?_)
          refine g_iast (pn := 45) K rfl (lxSite2 ht) dX5_become_44 h (fun M10 h => ?_)
          refine g_aload_n (pn := 46) K rfl 0 rfl dX5_become_45 ?_
          refine g_getr (pn := 49) (j := (t + 3)) K rfl fl_X5_18 (lxSite ht) rfl dX5_become_46 ?_
          refine g_iload_n (pn := 50) K rfl 2 rfl dX5_become_49 ?_
          refine g_aload_n (pn := 51) K rfl 1 rfl dX5_become_50 ?_
          refine g_getr (pn := 54) (j := (t1 + 3)) K rfl fl_X5_18 (lxSite ht1) rfl dX5_become_51 ?_
          refine g_iload_n (pn := 55) K rfl 2 rfl dX5_become_54 ?_
          refine g_iald (pn := 56) K rfl (lxSite3 ht1) dX5_become_55 h (fun h => ?_)
          refine g_iast (pn := 57) K rfl (lxSite3 ht) dX5_become_56 h (fun M11 h => ?_)
          refine g_aload_n (pn := 58) K rfl 0 rfl dX5_become_57 ?_
          refine g_getr (pn := 61) (j := (t + 4)) K rfl fl_X5_21 (lxSite ht) rfl dX5_become_58 ?_
          refine g_iload_n (pn := 62) K rfl 2 rfl dX5_become_61 ?_
          refine g_aload_n (pn := 63) K rfl 1 rfl dX5_become_62 ?_
          refine g_getr (pn := 66) (j := (t1 + 4)) K rfl fl_X5_21 (lxSite ht1) rfl dX5_become_63 ?_
          refine g_iload_n (pn := 67) K rfl 2 rfl dX5_become_66 ?_
          refine g_iald (pn := 68) K rfl (lxSite4 ht1) dX5_become_67 h (fun h => ?_)
          refine g_iast (pn := 69) K rfl (lxSite4 ht) dX5_become_68 h (fun M12 h => ?_)
          refine g_aload_n (pn := 70) K rfl 0 rfl dX5_become_69 ?_
          refine g_getr (pn := 73) (j := (t + 5)) K rfl fl_X5_24 (lxSite ht) rfl dX5_become_70 ?_
          refine g_iload_n (pn := 74) K rfl 2 rfl dX5_become_73 ?_
          refine g_aload_n (pn := 75) K rfl 1 rfl dX5_become_74 ?_
          refine g_getr (pn := 78) (j := (t1 + 5)) K rfl fl_X5_24 (lxSite ht1) rfl dX5_become_75 ?_
          refine g_iload_n (pn := 79) K rfl 2 rfl dX5_become_78 ?_
          refine g_iald (pn := 80) K rfl (lxSite5 ht1) dX5_become_79 h (fun h => ?_)
          refine g_iast (pn := 81) K rfl (lxSite5 ht) dX5_become_80 h (fun M13 h => ?_)
          obtain ⟨v14, ev14, h⟩ := bnd_e h
          refine g_iinc (pn := 84) (v := v14) (lv' := [(2, .int v14), (0, .ref (X.2.2.2.1 t)), (1, .ref (X.2.2.2.1 t1))]) K rfl 2 rfl ii_1 ev14 dX5_become_81 (Nat.le_of_ble_eq_true rfl) rfl ?_
          refine g_goto (tgt := 27) K (by decide) dX5_become_84 ?_
          refine g_sub [1, 2, 0] rfl ?_
          exact ih9 _ _ h
    refine g_sub [1, 2, 0] rfl ?_
    exact LP27 FU _ _ h
  have LP2 : ∀ (fu17 : Nat) (v15 : Int32) (M16 : Mem), f_Site_become_L2 t t1 j2 fu17 v15 M16 = some M' → G layX X Γ 3 (QM layX X Γ none M') 2 [(0, .ref (X.2.2.2.1 t)), (1, .ref (X.2.2.2.1 t1)), (2, .int v15)] [] M16 := by
    intro fu17
    induction fu17 with
    | zero =>
      intro v15 M16 h
      rw [f_Site_become_L2] at h
      cases h
    | succ fu17 ih17 =>
      intro v15 M16 h
      rw [f_Site_become_L2] at h
      refine g_iload_n (pn := 3) K rfl 2 rfl dX5_become_2 ?_
      refine g_iconst (pn := 4) (v := 5) K rfl ic_5 dX5_become_3 ?_
      refine g_icmp_gt (tgt := 25) (pn := 7) K rfl (by decide) dX5_become_4 h (fun h => ?_) (fun h => ?_)
      · refine g_sub [0, 1] rfl ?_
        exact hj2 _ h
      · refine g_aload_n (pn := 8) K rfl 0 rfl dX5_become_7 ?_
        refine g_getr (pn := 11) (j := (t + 1)) K rfl fl_X5_9 (lxSite ht) rfl dX5_become_8 ?_
        refine g_iload_n (pn := 12) K rfl 2 rfl dX5_become_11 ?_
        refine g_aload_n (pn := 13) K rfl 1 rfl dX5_become_12 ?_
        refine g_getr (pn := 16) (j := (t1 + 1)) K rfl fl_X5_9 (lxSite ht1) rfl dX5_become_13 ?_
        refine g_iload_n (pn := 17) K rfl 2 rfl dX5_become_16 ?_
        refine g_iald (pn := 18) K rfl (lxSite1 ht1) dX5_become_17 h (fun h => ?_)
        refine g_iast (pn := 19) K rfl (lxSite1 ht) dX5_become_18 h (fun M18 h => ?_)
        obtain ⟨v19, ev19, h⟩ := bnd_e h
        refine g_iinc (pn := 22) (v := v19) (lv' := [(2, .int v19), (0, .ref (X.2.2.2.1 t)), (1, .ref (X.2.2.2.1 t1))]) K rfl 2 rfl ii_1 ev19 dX5_become_19 (Nat.le_of_ble_eq_true rfl) rfl ?_
        refine g_goto (tgt := 2) K (by decide) dX5_become_22 ?_
        refine g_sub [1, 2, 0] rfl ?_
        exact ih17 _ _ h
  refine g_sub [1, 2, 0] rfl ?_
  exact LP2 FU _ _ h
set_option maxHeartbeats 4000000 in
set_option maxRecDepth 20000 in
theorem w_f_Text_clear {X : XT} {M : Mem} {t : Nat} {M' : Mem} (ht : isText t)  (h : f_Text_clear M t = some M') : CT layX X 0 yX7_clear cX7_clear 1 none [.ref (X.2.2.2.1 t)] M M' none := by
  refine CT.of rfl (Nat.le_of_ble_eq_true rfl) (lv := [(0, .ref (X.2.2.2.1 t))]) rfl (fun Γ K => ?_)
  have K : Kx layX X Γ RX7 cX7_clear 1 0 none := K
  unfold f_Text_clear at h
  refine g_aload_n (pn := 1) K rfl 0 rfl dX7_clear_0 ?_
  refine g_iconst (pn := 2) (v := 0) K rfl ic_0 dX7_clear_1 ?_
  refine g_puti (pn := 5) K rfl fp_X7_18 (lxText ht) rfl dX7_clear_2 h (fun M1 h => ?_)
  exact g_vret K dX7_clear_5 (oi h)
set_option maxHeartbeats 4000000 in
set_option maxRecDepth 20000 in
theorem w_f_Text_add {X : XT} {M : Mem} {t : Nat} {a1 : Int32} {M' : Mem} (ht : isText t)  (h : f_Text_add M t a1 = some M') : CT layX X 0 yX7_add cX7_add 2 none [.ref (X.2.2.2.1 t), .int a1] M M' none := by
  refine CT.of rfl (Nat.le_of_ble_eq_true rfl) (lv := [(0, .ref (X.2.2.2.1 t)), (1, .int a1)]) rfl (fun Γ K => ?_)
  have K : Kx layX X Γ RX7 cX7_add 2 0 none := K
  unfold f_Text_add at h
  refine g_aload_n (pn := 1) K rfl 0 rfl dX7_add_0 ?_
  refine g_geti (pn := 4) K rfl fl_X7_18 (lxText ht) rfl dX7_add_1 ?_
  refine g_if_lt (tgt := 37) (pn := 7) K rfl (by decide) dX7_add_4 h (fun h => ?_) (fun h => ?_)
  · exact g_vret K dX7_add_37 (oi h)
  · refine g_aload_n (pn := 8) K rfl 0 rfl dX7_add_7 ?_
    refine g_geti (pn := 11) K rfl fl_X7_18 (lxText ht) rfl dX7_add_8 ?_
    refine g_sipush (pn := 14) (v := 160) K rfl sp_160 dX7_add_11 ?_
    refine g_icmp_ge (tgt := 37) (pn := 17) K rfl (by decide) dX7_add_14 h (fun h => ?_) (fun h => ?_)
    · exact g_vret K dX7_add_37 (oi h)
    · refine g_aload_n (pn := 18) K rfl 0 rfl dX7_add_17 ?_
      refine g_getr (pn := 21) (j := (t + 1)) K rfl fl_X7_9 (lxText ht) rfl dX7_add_18 ?_
      refine g_aload_n (pn := 22) K rfl 0 rfl dX7_add_21 ?_
      refine g_geti (pn := 25) K rfl fl_X7_18 (lxText ht) rfl dX7_add_22 ?_
      refine g_iload_n (pn := 26) K rfl 1 rfl dX7_add_25 ?_
      refine g_iast (pn := 27) K rfl (lxText1 ht) dX7_add_26 h (fun M1 h => ?_)
      refine g_aload_n (pn := 28) K rfl 0 rfl dX7_add_27 ?_
      refine g_dup (pn := 29) K rfl rfl dX7_add_28 ?_
      refine g_geti (pn := 32) K rfl fl_X7_18 (lxText ht) rfl dX7_add_29 ?_
      refine g_iconst (pn := 33) (v := 1) K rfl ic_1 dX7_add_32 ?_
      refine g_iadd (pn := 34) K rfl dX7_add_33 ?_
      refine g_puti (pn := 37) K rfl fp_X7_18 (lxText ht) rfl dX7_add_34 h (fun M2 h => ?_)
      exact g_vret K dX7_add_37 (oi h)
set_option maxHeartbeats 4000000 in
set_option maxRecDepth 20000 in
theorem w_f_Text_endPart {X : XT} {M : Mem} {t : Nat} {a1 : Int32} {M' : Mem} (ht : isText t)  (h : f_Text_endPart M t a1 = some M') : CT layX X 0 yX7_endPart cX7_endPart 2 none [.ref (X.2.2.2.1 t), .int a1] M M' none := by
  refine CT.of rfl (Nat.le_of_ble_eq_true rfl) (lv := [(0, .ref (X.2.2.2.1 t)), (1, .int a1)]) rfl (fun Γ K => ?_)
  have K : Kx layX X Γ RX7 cX7_endPart 2 0 none := K
  unfold f_Text_endPart at h
  refine g_iload_n (pn := 1) K rfl 1 rfl dX7_endPart_0 ?_
  refine g_if_lt (tgt := 21) (pn := 4) K rfl (by decide) dX7_endPart_1 h (fun h => ?_) (fun h => ?_)
  · exact g_vret K dX7_endPart_21 (oi h)
  · refine g_iload_n (pn := 5) K rfl 1 rfl dX7_endPart_4 ?_
    refine g_iconst (pn := 6) (v := 3) K rfl ic_3 dX7_endPart_5 ?_
    refine g_icmp_ge (tgt := 21) (pn := 9) K rfl (by decide) dX7_endPart_6 h (fun h => ?_) (fun h => ?_)
    · exact g_vret K dX7_endPart_21 (oi h)
    · refine g_aload_n (pn := 10) K rfl 0 rfl dX7_endPart_9 ?_
      refine g_getr (pn := 13) (j := (t + 2)) K rfl fl_X7_15 (lxText ht) rfl dX7_endPart_10 ?_
      refine g_iload_n (pn := 14) K rfl 1 rfl dX7_endPart_13 ?_
      refine g_iconst (pn := 15) (v := 1) K rfl ic_1 dX7_endPart_14 ?_
      refine g_iadd (pn := 16) K rfl dX7_endPart_15 ?_
      refine g_aload_n (pn := 17) K rfl 0 rfl dX7_endPart_16 ?_
      refine g_geti (pn := 20) K rfl fl_X7_18 (lxText ht) rfl dX7_endPart_17 ?_
      refine g_iast (pn := 21) K rfl (lxText2 ht) dX7_endPart_20 h (fun M1 h => ?_)
      exact g_vret K dX7_endPart_21 (oi h)
set_option maxHeartbeats 4000000 in
set_option maxRecDepth 20000 in
theorem w_f_Text_become {X : XT} {M : Mem} {t : Nat} {t1 : Nat} {M' : Mem} (ht : isText t) (ht1 : isText t1)  (h : f_Text_become M t t1 = some M') : CT layX X 0 yX7_become cX7_become 3 none [.ref (X.2.2.2.1 t), .ref (X.2.2.2.1 t1)] M M' none := by
  refine CT.of rfl (Nat.le_of_ble_eq_true rfl) (lv := [(0, .ref (X.2.2.2.1 t)), (1, .ref (X.2.2.2.1 t1))]) rfl (fun Γ K => ?_)
  have K : Kx layX X Γ RX7 cX7_become 3 0 none := K
  unfold f_Text_become at h
  refine g_iconst (pn := 1) (v := 0) K rfl ic_0 dX7_become_0 ?_
  refine g_istore_n (pn := 2) (lv' := [(2, .int 0), (0, .ref (X.2.2.2.1 t)), (1, .ref (X.2.2.2.1 t1))]) K rfl dX7_become_1 rfl (Nat.le_of_ble_eq_true rfl) rfl ?_
  refine jp_e1 h (fun M1 => G layX X Γ 3 (QM layX X Γ none M') 27 [(0, .ref (X.2.2.2.1 t)), (1, .ref (X.2.2.2.1 t1))] [] M1) (fun M1 h => ?_) (fun j2 hj2 h => ?_)
  · refine g_iconst (pn := 28) (v := 0) K rfl ic_0 dX7_become_27 ?_
    refine g_istore_n (pn := 29) (lv' := [(2, .int 0), (0, .ref (X.2.2.2.1 t)), (1, .ref (X.2.2.2.1 t1))]) K rfl dX7_become_28 rfl (Nat.le_of_ble_eq_true rfl) rfl ?_
    refine jp_e1 h (fun M3 => G layX X Γ 3 (QM layX X Γ none M') 52 [(0, .ref (X.2.2.2.1 t)), (1, .ref (X.2.2.2.1 t1))] [] M3) (fun M3 h => ?_) (fun j4 hj4 h => ?_)
    · refine g_aload_n (pn := 53) K rfl 0 rfl dX7_become_52 ?_
      refine g_aload_n (pn := 54) K rfl 1 rfl dX7_become_53 ?_
      refine g_geti (pn := 57) K rfl fl_X7_18 (lxText ht1) rfl dX7_become_54 ?_
      refine g_puti (pn := 60) K rfl fp_X7_18 (lxText ht) rfl dX7_become_57 h (fun M5 h => ?_)
      exact g_vret K dX7_become_60 (oi h)
    have LP29 : ∀ (fu8 : Nat) (v6 : Int32) (M7 : Mem), f_Text_become_L29 t t1 j4 fu8 v6 M7 = some M' → G layX X Γ 3 (QM layX X Γ none M') 29 [(0, .ref (X.2.2.2.1 t)), (1, .ref (X.2.2.2.1 t1)), (2, .int v6)] [] M7 := by
      intro fu8
      induction fu8 with
      | zero =>
        intro v6 M7 h
        rw [f_Text_become_L29] at h
        cases h
      | succ fu8 ih8 =>
        intro v6 M7 h
        rw [f_Text_become_L29] at h
        refine g_iload_n (pn := 30) K rfl 2 rfl dX7_become_29 ?_
        refine g_iconst (pn := 31) (v := 3) K rfl ic_3 dX7_become_30 ?_
        refine g_icmp_gt (tgt := 52) (pn := 34) K rfl (by decide) dX7_become_31 h (fun h => ?_) (fun h => ?_)
        · refine g_sub [0, 1] rfl ?_
          exact hj4 _ h
        · refine g_aload_n (pn := 35) K rfl 0 rfl dX7_become_34 ?_
          refine g_getr (pn := 38) (j := (t + 2)) K rfl fl_X7_15 (lxText ht) rfl dX7_become_35 ?_
          refine g_iload_n (pn := 39) K rfl 2 rfl dX7_become_38 ?_
          refine g_aload_n (pn := 40) K rfl 1 rfl dX7_become_39 ?_
          refine g_getr (pn := 43) (j := (t1 + 2)) K rfl fl_X7_15 (lxText ht1) rfl dX7_become_40 ?_
          refine g_iload_n (pn := 44) K rfl 2 rfl dX7_become_43 ?_
          refine g_iald (pn := 45) K rfl (lxText2 ht1) dX7_become_44 h (fun h => ?_)
          refine g_iast (pn := 46) K rfl (lxText2 ht) dX7_become_45 h (fun M9 h => ?_)
          obtain ⟨v10, ev10, h⟩ := bnd_e h
          refine g_iinc (pn := 49) (v := v10) (lv' := [(2, .int v10), (0, .ref (X.2.2.2.1 t)), (1, .ref (X.2.2.2.1 t1))]) K rfl 2 rfl ii_1 ev10 dX7_become_46 (Nat.le_of_ble_eq_true rfl) rfl ?_
          refine g_goto (tgt := 29) K (by decide) dX7_become_49 ?_
          refine g_sub [1, 2, 0] rfl ?_
          exact ih8 _ _ h
    refine g_sub [1, 2, 0] rfl ?_
    exact LP29 FU _ _ h
  have LP2 : ∀ (fu13 : Nat) (v11 : Int32) (M12 : Mem), f_Text_become_L2 t t1 j2 fu13 v11 M12 = some M' → G layX X Γ 3 (QM layX X Γ none M') 2 [(0, .ref (X.2.2.2.1 t)), (1, .ref (X.2.2.2.1 t1)), (2, .int v11)] [] M12 := by
    intro fu13
    induction fu13 with
    | zero =>
      intro v11 M12 h
      rw [f_Text_become_L2] at h
      cases h
    | succ fu13 ih13 =>
      intro v11 M12 h
      rw [f_Text_become_L2] at h
      refine g_iload_n (pn := 3) K rfl 2 rfl dX7_become_2 ?_
      refine g_sipush (pn := 6) (v := 160) K rfl sp_160 dX7_become_3 ?_
      refine g_icmp_ge (tgt := 27) (pn := 9) K rfl (by decide) dX7_become_6 h (fun h => ?_) (fun h => ?_)
      · refine g_sub [0, 1] rfl ?_
        exact hj2 _ h
      · refine g_aload_n (pn := 10) K rfl 0 rfl dX7_become_9 ?_
        refine g_getr (pn := 13) (j := (t + 1)) K rfl fl_X7_9 (lxText ht) rfl dX7_become_10 ?_
        refine g_iload_n (pn := 14) K rfl 2 rfl dX7_become_13 ?_
        refine g_aload_n (pn := 15) K rfl 1 rfl dX7_become_14 ?_
        refine g_getr (pn := 18) (j := (t1 + 1)) K rfl fl_X7_9 (lxText ht1) rfl dX7_become_15 ?_
        refine g_iload_n (pn := 19) K rfl 2 rfl dX7_become_18 ?_
        refine g_iald (pn := 20) K rfl (lxText1 ht1) dX7_become_19 h (fun h => ?_)
        refine g_iast (pn := 21) K rfl (lxText1 ht) dX7_become_20 h (fun M14 h => ?_)
        obtain ⟨v15, ev15, h⟩ := bnd_e h
        refine g_iinc (pn := 24) (v := v15) (lv' := [(2, .int v15), (0, .ref (X.2.2.2.1 t)), (1, .ref (X.2.2.2.1 t1))]) K rfl 2 rfl ii_1 ev15 dX7_become_21 (Nat.le_of_ble_eq_true rfl) rfl ?_
        refine g_goto (tgt := 2) K (by decide) dX7_become_24 ?_
        refine g_sub [1, 2, 0] rfl ?_
        exact ih13 _ _ h
  refine g_sub [1, 2, 0] rfl ?_
  exact LP2 FU _ _ h
