/-! printed by gen1.py -/
theorem dX6_add_0 : decode cX6_add 0 = .ok (.aload_n 0, 1) := by decide +kernel
theorem dX6_add_1 : decode cX6_add 1 = .ok (.getfield 15, 3) := by decide +kernel
theorem dX6_add_4 : decode cX6_add 4 = .ok (.ifCond .lt 13, 3) := by decide +kernel
theorem dX6_add_7 : decode cX6_add 7 = .ok (.aload_n 0, 1) := by decide +kernel
theorem dX6_add_8 : decode cX6_add 8 = .ok (.getfield 15, 3) := by decide +kernel
theorem dX6_add_11 : decode cX6_add 11 = .ok (.sipush 160, 3) := by decide +kernel
theorem dX6_add_14 : decode cX6_add 14 = .ok (.if_icmp .lt 6, 3) := by decide +kernel
theorem dX6_add_17 : decode cX6_add 17 = .ok (.bipush (-4), 2) := by decide +kernel
theorem dX6_add_19 : decode cX6_add 19 = .ok (.ireturn, 1) := by decide +kernel
theorem dX6_add_20 : decode cX6_add 20 = .ok (.aload_n 0, 1) := by decide +kernel
theorem dX6_add_21 : decode cX6_add 21 = .ok (.getfield 9, 3) := by decide +kernel
theorem dX6_add_24 : decode cX6_add 24 = .ok (.aload_n 0, 1) := by decide +kernel
theorem dX6_add_25 : decode cX6_add 25 = .ok (.getfield 15, 3) := by decide +kernel
theorem dX6_add_28 : decode cX6_add 28 = .ok (.iload_n 1, 1) := by decide +kernel
theorem dX6_add_29 : decode cX6_add 29 = .ok (.iastore, 1) := by decide +kernel
theorem dX6_add_30 : decode cX6_add 30 = .ok (.aload_n 0, 1) := by decide +kernel
theorem dX6_add_31 : decode cX6_add 31 = .ok (.dup, 1) := by decide +kernel
theorem dX6_add_32 : decode cX6_add 32 = .ok (.getfield 15, 3) := by decide +kernel
theorem dX6_add_35 : decode cX6_add 35 = .ok (.iconst 1, 1) := by decide +kernel
theorem dX6_add_36 : decode cX6_add 36 = .ok (.iadd, 1) := by decide +kernel
theorem dX6_add_37 : decode cX6_add 37 = .ok (.putfield 15, 3) := by decide +kernel
theorem dX6_add_40 : decode cX6_add 40 = .ok (.aload_n 0, 1) := by decide +kernel
theorem dX6_add_41 : decode cX6_add 41 = .ok (.getfield 15, 3) := by decide +kernel
theorem dX6_add_44 : decode cX6_add 44 = .ok (.ireturn, 1) := by decide +kernel
theorem dX6_clear_0 : decode cX6_clear 0 = .ok (.aload_n 0, 1) := by decide +kernel
theorem dX6_clear_1 : decode cX6_clear 1 = .ok (.iconst 0, 1) := by decide +kernel
theorem dX6_clear_2 : decode cX6_clear 2 = .ok (.putfield 15, 3) := by decide +kernel
theorem dX6_clear_5 : decode cX6_clear 5 = .ok (.return_, 1) := by decide +kernel
theorem dX6_isLetter_0 : decode cX6_isLetter 0 = .ok (.iload_n 0, 1) := by decide +kernel
theorem dX6_isLetter_1 : decode cX6_isLetter 1 = .ok (.bipush 97, 2) := by decide +kernel
theorem dX6_isLetter_3 : decode cX6_isLetter 3 = .ok (.if_icmp .lt 13, 3) := by decide +kernel
theorem dX6_isLetter_6 : decode cX6_isLetter 6 = .ok (.iload_n 0, 1) := by decide +kernel
theorem dX6_isLetter_7 : decode cX6_isLetter 7 = .ok (.bipush 122, 2) := by decide +kernel
theorem dX6_isLetter_9 : decode cX6_isLetter 9 = .ok (.if_icmp .gt 7, 3) := by decide +kernel
theorem dX6_isLetter_12 : decode cX6_isLetter 12 = .ok (.iconst 1, 1) := by decide +kernel
theorem dX6_isLetter_13 : decode cX6_isLetter 13 = .ok (.goto 4, 3) := by decide +kernel
theorem dX6_isLetter_16 : decode cX6_isLetter 16 = .ok (.iconst 0, 1) := by decide +kernel
theorem dX6_isLetter_17 : decode cX6_isLetter 17 = .ok (.ireturn, 1) := by decide +kernel
theorem dX6_isDigit_0 : decode cX6_isDigit 0 = .ok (.iload_n 0, 1) := by decide +kernel
theorem dX6_isDigit_1 : decode cX6_isDigit 1 = .ok (.bipush 48, 2) := by decide +kernel
theorem dX6_isDigit_3 : decode cX6_isDigit 3 = .ok (.if_icmp .lt 13, 3) := by decide +kernel
theorem dX6_isDigit_6 : decode cX6_isDigit 6 = .ok (.iload_n 0, 1) := by decide +kernel
theorem dX6_isDigit_7 : decode cX6_isDigit 7 = .ok (.bipush 57, 2) := by decide +kernel
theorem dX6_isDigit_9 : decode cX6_isDigit 9 = .ok (.if_icmp .gt 7, 3) := by decide +kernel
theorem dX6_isDigit_12 : decode cX6_isDigit 12 = .ok (.iconst 1, 1) := by decide +kernel
theorem dX6_isDigit_13 : decode cX6_isDigit 13 = .ok (.goto 4, 3) := by decide +kernel
theorem dX6_isDigit_16 : decode cX6_isDigit 16 = .ok (.iconst 0, 1) := by decide +kernel
theorem dX6_isDigit_17 : decode cX6_isDigit 17 = .ok (.ireturn, 1) := by decide +kernel
theorem dX6_endOf_0 : decode cX6_endOf 0 = .ok (.iload_n 1, 1) := by decide +kernel
theorem dX6_endOf_1 : decode cX6_endOf 1 = .ok (.iconst 1, 1) := by decide +kernel
theorem dX6_endOf_2 : decode cX6_endOf 2 = .ok (.iadd, 1) := by decide +kernel
theorem dX6_endOf_3 : decode cX6_endOf 3 = .ok (.istore_n 2, 1) := by decide +kernel
theorem dX6_endOf_4 : decode cX6_endOf 4 = .ok (.aload_n 0, 1) := by decide +kernel
theorem dX6_endOf_5 : decode cX6_endOf 5 = .ok (.getfield 9, 3) := by decide +kernel
theorem dX6_endOf_8 : decode cX6_endOf 8 = .ok (.iload_n 1, 1) := by decide +kernel
theorem dX6_endOf_9 : decode cX6_endOf 9 = .ok (.iaload, 1) := by decide +kernel
theorem dX6_endOf_10 : decode cX6_endOf 10 = .ok (.invokestatic 42, 3) := by decide +kernel
theorem dX6_endOf_13 : decode cX6_endOf 13 = .ok (.istore_n 3, 1) := by decide +kernel
theorem dX6_endOf_14 : decode cX6_endOf 14 = .ok (.aload_n 0, 1) := by decide +kernel
theorem dX6_endOf_15 : decode cX6_endOf 15 = .ok (.getfield 9, 3) := by decide +kernel
theorem dX6_endOf_18 : decode cX6_endOf 18 = .ok (.iload_n 1, 1) := by decide +kernel
theorem dX6_endOf_19 : decode cX6_endOf 19 = .ok (.iaload, 1) := by decide +kernel
theorem dX6_endOf_20 : decode cX6_endOf 20 = .ok (.invokestatic 46, 3) := by decide +kernel
theorem dX6_endOf_23 : decode cX6_endOf 23 = .ok (.istore 4, 2) := by decide +kernel
theorem dX6_endOf_25 : decode cX6_endOf 25 = .ok (.iload_n 2, 1) := by decide +kernel
theorem dX6_endOf_26 : decode cX6_endOf 26 = .ok (.aload_n 0, 1) := by decide +kernel
theorem dX6_endOf_27 : decode cX6_endOf 27 = .ok (.getfield 15, 3) := by decide +kernel
theorem dX6_endOf_30 : decode cX6_endOf 30 = .ok (.if_icmp .ge 49, 3) := by decide +kernel
theorem dX6_endOf_33 : decode cX6_endOf 33 = .ok (.iload_n 2, 1) := by decide +kernel
theorem dX6_endOf_34 : decode cX6_endOf 34 = .ok (.sipush 160, 3) := by decide +kernel
theorem dX6_endOf_37 : decode cX6_endOf 37 = .ok (.if_icmp .ge 42, 3) := by decide +kernel
theorem dX6_endOf_40 : decode cX6_endOf 40 = .ok (.iload_n 3, 1) := by decide +kernel
theorem dX6_endOf_41 : decode cX6_endOf 41 = .ok (.ifCond .eq 15, 3) := by decide +kernel
theorem dX6_endOf_44 : decode cX6_endOf 44 = .ok (.aload_n 0, 1) := by decide +kernel
theorem dX6_endOf_45 : decode cX6_endOf 45 = .ok (.getfield 9, 3) := by decide +kernel
theorem dX6_endOf_48 : decode cX6_endOf 48 = .ok (.iload_n 2, 1) := by decide +kernel
theorem dX6_endOf_49 : decode cX6_endOf 49 = .ok (.iaload, 1) := by decide +kernel
theorem dX6_endOf_50 : decode cX6_endOf 50 = .ok (.invokestatic 42, 3) := by decide +kernel
theorem dX6_endOf_53 : decode cX6_endOf 53 = .ok (.ifCond .ne 20, 3) := by decide +kernel
theorem dX6_endOf_56 : decode cX6_endOf 56 = .ok (.iload 4, 2) := by decide +kernel
theorem dX6_endOf_58 : decode cX6_endOf 58 = .ok (.ifCond .eq 21, 3) := by decide +kernel
theorem dX6_endOf_61 : decode cX6_endOf 61 = .ok (.aload_n 0, 1) := by decide +kernel
theorem dX6_endOf_62 : decode cX6_endOf 62 = .ok (.getfield 9, 3) := by decide +kernel
theorem dX6_endOf_65 : decode cX6_endOf 65 = .ok (.iload_n 2, 1) := by decide +kernel
theorem dX6_endOf_66 : decode cX6_endOf 66 = .ok (.iaload, 1) := by decide +kernel
theorem dX6_endOf_67 : decode cX6_endOf 67 = .ok (.invokestatic 46, 3) := by decide +kernel
theorem dX6_endOf_70 : decode cX6_endOf 70 = .ok (.ifCond .eq 9, 3) := by decide +kernel
theorem dX6_endOf_73 : decode cX6_endOf 73 = .ok (.iinc 2 1, 3) := by decide +kernel
theorem dX6_endOf_76 : decode cX6_endOf 76 = .ok (.goto (-51), 3) := by decide +kernel
theorem dX6_endOf_79 : decode cX6_endOf 79 = .ok (.iload_n 2, 1) := by decide +kernel
theorem dX6_endOf_80 : decode cX6_endOf 80 = .ok (.ireturn, 1) := by decide +kernel
theorem dX6_numberOf_0 : decode cX6_numberOf 0 = .ok (.iconst 0, 1) := by decide +kernel
theorem dX6_numberOf_1 : decode cX6_numberOf 1 = .ok (.istore_n 3, 1) := by decide +kernel
theorem dX6_numberOf_2 : decode cX6_numberOf 2 = .ok (.iload_n 1, 1) := by decide +kernel
theorem dX6_numberOf_3 : decode cX6_numberOf 3 = .ok (.istore 4, 2) := by decide +kernel
theorem dX6_numberOf_5 : decode cX6_numberOf 5 = .ok (.iload 4, 2) := by decide +kernel
theorem dX6_numberOf_7 : decode cX6_numberOf 7 = .ok (.iload_n 2, 1) := by decide +kernel
theorem dX6_numberOf_8 : decode cX6_numberOf 8 = .ok (.if_icmp .ge 33, 3) := by decide +kernel
theorem dX6_numberOf_11 : decode cX6_numberOf 11 = .ok (.iload 4, 2) := by decide +kernel
theorem dX6_numberOf_13 : decode cX6_numberOf 13 = .ok (.sipush 160, 3) := by decide +kernel
theorem dX6_numberOf_16 : decode cX6_numberOf 16 = .ok (.if_icmp .ge 25, 3) := by decide +kernel
theorem dX6_numberOf_19 : decode cX6_numberOf 19 = .ok (.iload_n 3, 1) := by decide +kernel
theorem dX6_numberOf_20 : decode cX6_numberOf 20 = .ok (.bipush 10, 2) := by decide +kernel
theorem dX6_numberOf_22 : decode cX6_numberOf 22 = .ok (.imul, 1) := by decide +kernel
theorem dX6_numberOf_23 : decode cX6_numberOf 23 = .ok (.aload_n 0, 1) := by decide +kernel
theorem dX6_numberOf_24 : decode cX6_numberOf 24 = .ok (.getfield 9, 3) := by decide +kernel
theorem dX6_numberOf_27 : decode cX6_numberOf 27 = .ok (.iload 4, 2) := by decide +kernel
theorem dX6_numberOf_29 : decode cX6_numberOf 29 = .ok (.iaload, 1) := by decide +kernel
theorem dX6_numberOf_30 : decode cX6_numberOf 30 = .ok (.bipush 48, 2) := by decide +kernel
theorem dX6_numberOf_32 : decode cX6_numberOf 32 = .ok (.isub, 1) := by decide +kernel
theorem dX6_numberOf_33 : decode cX6_numberOf 33 = .ok (.iadd, 1) := by decide +kernel
theorem dX6_numberOf_34 : decode cX6_numberOf 34 = .ok (.istore_n 3, 1) := by decide +kernel
theorem dX6_numberOf_35 : decode cX6_numberOf 35 = .ok (.iinc 4 1, 3) := by decide +kernel
theorem dX6_numberOf_38 : decode cX6_numberOf 38 = .ok (.goto (-33), 3) := by decide +kernel
theorem dX6_numberOf_41 : decode cX6_numberOf 41 = .ok (.iload_n 3, 1) := by decide +kernel
theorem dX6_numberOf_42 : decode cX6_numberOf 42 = .ok (.ireturn, 1) := by decide +kernel
theorem dX6_spells_0 : decode cX6_spells 0 = .ok (.aload_n 1, 1) := by decide +kernel
theorem dX6_spells_1 : decode cX6_spells 1 = .ok (.invokevirtual 64, 3) := by decide +kernel
theorem dX6_spells_4 : decode cX6_spells 4 = .ok (.iload_n 3, 1) := by decide +kernel
theorem dX6_spells_5 : decode cX6_spells 5 = .ok (.iload_n 2, 1) := by decide +kernel
theorem dX6_spells_6 : decode cX6_spells 6 = .ok (.isub, 1) := by decide +kernel
theorem dX6_spells_7 : decode cX6_spells 7 = .ok (.if_icmp .eq 5, 3) := by decide +kernel
theorem dX6_spells_10 : decode cX6_spells 10 = .ok (.iconst 0, 1) := by decide +kernel
theorem dX6_spells_11 : decode cX6_spells 11 = .ok (.ireturn, 1) := by decide +kernel
theorem dX6_spells_12 : decode cX6_spells 12 = .ok (.iload_n 2, 1) := by decide +kernel
theorem dX6_spells_13 : decode cX6_spells 13 = .ok (.istore 4, 2) := by decide +kernel
theorem dX6_spells_15 : decode cX6_spells 15 = .ok (.iload 4, 2) := by decide +kernel
theorem dX6_spells_17 : decode cX6_spells 17 = .ok (.iload_n 3, 1) := by decide +kernel
theorem dX6_spells_18 : decode cX6_spells 18 = .ok (.if_icmp .ge 37, 3) := by decide +kernel
theorem dX6_spells_21 : decode cX6_spells 21 = .ok (.iload 4, 2) := by decide +kernel
theorem dX6_spells_23 : decode cX6_spells 23 = .ok (.sipush 160, 3) := by decide +kernel
theorem dX6_spells_26 : decode cX6_spells 26 = .ok (.if_icmp .ge 29, 3) := by decide +kernel
theorem dX6_spells_29 : decode cX6_spells 29 = .ok (.aload_n 1, 1) := by decide +kernel
theorem dX6_spells_30 : decode cX6_spells 30 = .ok (.iload 4, 2) := by decide +kernel
theorem dX6_spells_32 : decode cX6_spells 32 = .ok (.iload_n 2, 1) := by decide +kernel
theorem dX6_spells_33 : decode cX6_spells 33 = .ok (.isub, 1) := by decide +kernel
theorem dX6_spells_34 : decode cX6_spells 34 = .ok (.invokevirtual 68, 3) := by decide +kernel
theorem dX6_spells_37 : decode cX6_spells 37 = .ok (.aload_n 0, 1) := by decide +kernel
theorem dX6_spells_38 : decode cX6_spells 38 = .ok (.getfield 9, 3) := by decide +kernel
theorem dX6_spells_41 : decode cX6_spells 41 = .ok (.iload 4, 2) := by decide +kernel
theorem dX6_spells_43 : decode cX6_spells 43 = .ok (.iaload, 1) := by decide +kernel
theorem dX6_spells_44 : decode cX6_spells 44 = .ok (.if_icmp .eq 5, 3) := by decide +kernel
theorem dX6_spells_47 : decode cX6_spells 47 = .ok (.iconst 0, 1) := by decide +kernel
theorem dX6_spells_48 : decode cX6_spells 48 = .ok (.ireturn, 1) := by decide +kernel
theorem dX6_spells_49 : decode cX6_spells 49 = .ok (.iinc 4 1, 3) := by decide +kernel
theorem dX6_spells_52 : decode cX6_spells 52 = .ok (.goto (-37), 3) := by decide +kernel
theorem dX6_spells_55 : decode cX6_spells 55 = .ok (.iconst 1, 1) := by decide +kernel
theorem dX6_spells_56 : decode cX6_spells 56 = .ok (.ireturn, 1) := by decide +kernel
theorem dX6_wordOf_0 : decode cX6_wordOf 0 = .ok (.iload_n 0, 1) := by decide +kernel
theorem dX6_wordOf_1 : decode cX6_wordOf 1 = .ok (.tableswitch 92 1 11 #[59, 62, 65, 68, 71, 74, 77, 80, 83, 86, 89], 59) := by decide +kernel
theorem dX6_wordOf_60 : decode cX6_wordOf 60 = .ok (.ldc 72, 2) := by decide +kernel
theorem dX6_wordOf_62 : decode cX6_wordOf 62 = .ok (.areturn, 1) := by decide +kernel
theorem dX6_wordOf_63 : decode cX6_wordOf 63 = .ok (.ldc 74, 2) := by decide +kernel
theorem dX6_wordOf_65 : decode cX6_wordOf 65 = .ok (.areturn, 1) := by decide +kernel
theorem dX6_wordOf_66 : decode cX6_wordOf 66 = .ok (.ldc 76, 2) := by decide +kernel
theorem dX6_wordOf_68 : decode cX6_wordOf 68 = .ok (.areturn, 1) := by decide +kernel
theorem dX6_wordOf_69 : decode cX6_wordOf 69 = .ok (.ldc 78, 2) := by decide +kernel
theorem dX6_wordOf_71 : decode cX6_wordOf 71 = .ok (.areturn, 1) := by decide +kernel
theorem dX6_wordOf_72 : decode cX6_wordOf 72 = .ok (.ldc 80, 2) := by decide +kernel
theorem dX6_wordOf_74 : decode cX6_wordOf 74 = .ok (.areturn, 1) := by decide +kernel
theorem dX6_wordOf_75 : decode cX6_wordOf 75 = .ok (.ldc 82, 2) := by decide +kernel
theorem dX6_wordOf_77 : decode cX6_wordOf 77 = .ok (.areturn, 1) := by decide +kernel
theorem dX6_wordOf_78 : decode cX6_wordOf 78 = .ok (.ldc 84, 2) := by decide +kernel
theorem dX6_wordOf_80 : decode cX6_wordOf 80 = .ok (.areturn, 1) := by decide +kernel
theorem dX6_wordOf_81 : decode cX6_wordOf 81 = .ok (.ldc 86, 2) := by decide +kernel
theorem dX6_wordOf_83 : decode cX6_wordOf 83 = .ok (.areturn, 1) := by decide +kernel
theorem dX6_wordOf_84 : decode cX6_wordOf 84 = .ok (.ldc 88, 2) := by decide +kernel
theorem dX6_wordOf_86 : decode cX6_wordOf 86 = .ok (.areturn, 1) := by decide +kernel
theorem dX6_wordOf_87 : decode cX6_wordOf 87 = .ok (.ldc 90, 2) := by decide +kernel
theorem dX6_wordOf_89 : decode cX6_wordOf 89 = .ok (.areturn, 1) := by decide +kernel
theorem dX6_wordOf_90 : decode cX6_wordOf 90 = .ok (.ldc 92, 2) := by decide +kernel
theorem dX6_wordOf_92 : decode cX6_wordOf 92 = .ok (.areturn, 1) := by decide +kernel
theorem dX6_wordOf_93 : decode cX6_wordOf 93 = .ok (.ldc 94, 2) := by decide +kernel
theorem dX6_wordOf_95 : decode cX6_wordOf 95 = .ok (.areturn, 1) := by decide +kernel
theorem dX6_tokenOf_0 : decode cX6_tokenOf 0 = .ok (.aload_n 0, 1) := by decide +kernel
theorem dX6_tokenOf_1 : decode cX6_tokenOf 1 = .ok (.getfield 9, 3) := by decide +kernel
theorem dX6_tokenOf_4 : decode cX6_tokenOf 4 = .ok (.iload_n 1, 1) := by decide +kernel
theorem dX6_tokenOf_5 : decode cX6_tokenOf 5 = .ok (.iaload, 1) := by decide +kernel
theorem dX6_tokenOf_6 : decode cX6_tokenOf 6 = .ok (.istore_n 3, 1) := by decide +kernel
theorem dX6_tokenOf_7 : decode cX6_tokenOf 7 = .ok (.iload_n 3, 1) := by decide +kernel
theorem dX6_tokenOf_8 : decode cX6_tokenOf 8 = .ok (.invokestatic 46, 3) := by decide +kernel
theorem dX6_tokenOf_11 : decode cX6_tokenOf 11 = .ok (.ifCond .eq 18, 3) := by decide +kernel
theorem dX6_tokenOf_14 : decode cX6_tokenOf 14 = .ok (.iload_n 2, 1) := by decide +kernel
theorem dX6_tokenOf_15 : decode cX6_tokenOf 15 = .ok (.iload_n 1, 1) := by decide +kernel
theorem dX6_tokenOf_16 : decode cX6_tokenOf 16 = .ok (.isub, 1) := by decide +kernel
theorem dX6_tokenOf_17 : decode cX6_tokenOf 17 = .ok (.iconst 4, 1) := by decide +kernel
theorem dX6_tokenOf_18 : decode cX6_tokenOf 18 = .ok (.if_icmp .le 8, 3) := by decide +kernel
theorem dX6_tokenOf_21 : decode cX6_tokenOf 21 = .ok (.bipush 15, 2) := by decide +kernel
theorem dX6_tokenOf_23 : decode cX6_tokenOf 23 = .ok (.goto 5, 3) := by decide +kernel
theorem dX6_tokenOf_26 : decode cX6_tokenOf 26 = .ok (.bipush 13, 2) := by decide +kernel
theorem dX6_tokenOf_28 : decode cX6_tokenOf 28 = .ok (.ireturn, 1) := by decide +kernel
theorem dX6_tokenOf_29 : decode cX6_tokenOf 29 = .ok (.iload_n 3, 1) := by decide +kernel
theorem dX6_tokenOf_30 : decode cX6_tokenOf 30 = .ok (.invokestatic 42, 3) := by decide +kernel
theorem dX6_tokenOf_33 : decode cX6_tokenOf 33 = .ok (.ifCond .ne 20, 3) := by decide +kernel
theorem dX6_tokenOf_36 : decode cX6_tokenOf 36 = .ok (.ldc 49, 2) := by decide +kernel
theorem dX6_tokenOf_38 : decode cX6_tokenOf 38 = .ok (.iload_n 3, 1) := by decide +kernel
theorem dX6_tokenOf_39 : decode cX6_tokenOf 39 = .ok (.i2c, 1) := by decide +kernel
theorem dX6_tokenOf_40 : decode cX6_tokenOf 40 = .ok (.invokevirtual 51, 3) := by decide +kernel
theorem dX6_tokenOf_43 : decode cX6_tokenOf 43 = .ok (.ifCond .lt 7, 3) := by decide +kernel
theorem dX6_tokenOf_46 : decode cX6_tokenOf 46 = .ok (.iload_n 3, 1) := by decide +kernel
theorem dX6_tokenOf_47 : decode cX6_tokenOf 47 = .ok (.goto 5, 3) := by decide +kernel
theorem dX6_tokenOf_50 : decode cX6_tokenOf 50 = .ok (.bipush 15, 2) := by decide +kernel
theorem dX6_tokenOf_52 : decode cX6_tokenOf 52 = .ok (.ireturn, 1) := by decide +kernel
theorem dX6_tokenOf_53 : decode cX6_tokenOf 53 = .ok (.iconst 1, 1) := by decide +kernel
theorem dX6_tokenOf_54 : decode cX6_tokenOf 54 = .ok (.istore 4, 2) := by decide +kernel
theorem dX6_tokenOf_56 : decode cX6_tokenOf 56 = .ok (.iload 4, 2) := by decide +kernel
theorem dX6_tokenOf_58 : decode cX6_tokenOf 58 = .ok (.bipush 12, 2) := by decide +kernel
theorem dX6_tokenOf_60 : decode cX6_tokenOf 60 = .ok (.if_icmp .gt 26, 3) := by decide +kernel
theorem dX6_tokenOf_63 : decode cX6_tokenOf 63 = .ok (.aload_n 0, 1) := by decide +kernel
theorem dX6_tokenOf_64 : decode cX6_tokenOf 64 = .ok (.iload 4, 2) := by decide +kernel
theorem dX6_tokenOf_66 : decode cX6_tokenOf 66 = .ok (.invokestatic 56, 3) := by decide +kernel
theorem dX6_tokenOf_69 : decode cX6_tokenOf 69 = .ok (.iload_n 1, 1) := by decide +kernel
theorem dX6_tokenOf_70 : decode cX6_tokenOf 70 = .ok (.iload_n 2, 1) := by decide +kernel
theorem dX6_tokenOf_71 : decode cX6_tokenOf 71 = .ok (.invokevirtual 60, 3) := by decide +kernel
theorem dX6_tokenOf_74 : decode cX6_tokenOf 74 = .ok (.ifCond .eq 6, 3) := by decide +kernel
theorem dX6_tokenOf_77 : decode cX6_tokenOf 77 = .ok (.iload 4, 2) := by decide +kernel
theorem dX6_tokenOf_79 : decode cX6_tokenOf 79 = .ok (.ireturn, 1) := by decide +kernel
theorem dX6_tokenOf_80 : decode cX6_tokenOf 80 = .ok (.iinc 4 1, 3) := by decide +kernel
theorem dX6_tokenOf_83 : decode cX6_tokenOf 83 = .ok (.goto (-27), 3) := by decide +kernel
theorem dX6_tokenOf_86 : decode cX6_tokenOf 86 = .ok (.bipush 15, 2) := by decide +kernel
theorem dX6_tokenOf_88 : decode cX6_tokenOf 88 = .ok (.ireturn, 1) := by decide +kernel
theorem dX6_cut_0 : decode cX6_cut 0 = .ok (.aload_n 0, 1) := by decide +kernel
theorem dX6_cut_1 : decode cX6_cut 1 = .ok (.iconst 0, 1) := by decide +kernel
theorem dX6_cut_2 : decode cX6_cut 2 = .ok (.putfield 28, 3) := by decide +kernel
theorem dX6_cut_5 : decode cX6_cut 5 = .ok (.iconst 0, 1) := by decide +kernel
theorem dX6_cut_6 : decode cX6_cut 6 = .ok (.istore_n 1, 1) := by decide +kernel
theorem dX6_cut_7 : decode cX6_cut 7 = .ok (.iload_n 1, 1) := by decide +kernel
theorem dX6_cut_8 : decode cX6_cut 8 = .ok (.aload_n 0, 1) := by decide +kernel
theorem dX6_cut_9 : decode cX6_cut 9 = .ok (.getfield 15, 3) := by decide +kernel
theorem dX6_cut_12 : decode cX6_cut 12 = .ok (.if_icmp .ge 122, 3) := by decide +kernel
theorem dX6_cut_15 : decode cX6_cut 15 = .ok (.iload_n 1, 1) := by decide +kernel
theorem dX6_cut_16 : decode cX6_cut 16 = .ok (.sipush 160, 3) := by decide +kernel
theorem dX6_cut_19 : decode cX6_cut 19 = .ok (.if_icmp .ge 115, 3) := by decide +kernel
theorem dX6_cut_22 : decode cX6_cut 22 = .ok (.aload_n 0, 1) := by decide +kernel
theorem dX6_cut_23 : decode cX6_cut 23 = .ok (.getfield 28, 3) := by decide +kernel
theorem dX6_cut_26 : decode cX6_cut 26 = .ok (.sipush 160, 3) := by decide +kernel
theorem dX6_cut_29 : decode cX6_cut 29 = .ok (.if_icmp .ge 105, 3) := by decide +kernel
theorem dX6_cut_32 : decode cX6_cut 32 = .ok (.aload_n 0, 1) := by decide +kernel
theorem dX6_cut_33 : decode cX6_cut 33 = .ok (.getfield 9, 3) := by decide +kernel
theorem dX6_cut_36 : decode cX6_cut 36 = .ok (.iload_n 1, 1) := by decide +kernel
theorem dX6_cut_37 : decode cX6_cut 37 = .ok (.iaload, 1) := by decide +kernel
theorem dX6_cut_38 : decode cX6_cut 38 = .ok (.istore_n 2, 1) := by decide +kernel
theorem dX6_cut_39 : decode cX6_cut 39 = .ok (.iload_n 1, 1) := by decide +kernel
theorem dX6_cut_40 : decode cX6_cut 40 = .ok (.iconst 1, 1) := by decide +kernel
theorem dX6_cut_41 : decode cX6_cut 41 = .ok (.iadd, 1) := by decide +kernel
theorem dX6_cut_42 : decode cX6_cut 42 = .ok (.istore_n 3, 1) := by decide +kernel
theorem dX6_cut_43 : decode cX6_cut 43 = .ok (.iload_n 2, 1) := by decide +kernel
theorem dX6_cut_44 : decode cX6_cut 44 = .ok (.bipush 32, 2) := by decide +kernel
theorem dX6_cut_46 : decode cX6_cut 46 = .ok (.if_icmp .eq 83, 3) := by decide +kernel
theorem dX6_cut_49 : decode cX6_cut 49 = .ok (.iload_n 2, 1) := by decide +kernel
theorem dX6_cut_50 : decode cX6_cut 50 = .ok (.bipush 10, 2) := by decide +kernel
theorem dX6_cut_52 : decode cX6_cut 52 = .ok (.if_icmp .eq 77, 3) := by decide +kernel
theorem dX6_cut_55 : decode cX6_cut 55 = .ok (.aload_n 0, 1) := by decide +kernel
theorem dX6_cut_56 : decode cX6_cut 56 = .ok (.iload_n 1, 1) := by decide +kernel
theorem dX6_cut_57 : decode cX6_cut 57 = .ok (.invokevirtual 31, 3) := by decide +kernel
theorem dX6_cut_60 : decode cX6_cut 60 = .ok (.istore_n 3, 1) := by decide +kernel
theorem dX6_cut_61 : decode cX6_cut 61 = .ok (.aload_n 0, 1) := by decide +kernel
theorem dX6_cut_62 : decode cX6_cut 62 = .ok (.getfield 19, 3) := by decide +kernel
theorem dX6_cut_65 : decode cX6_cut 65 = .ok (.aload_n 0, 1) := by decide +kernel
theorem dX6_cut_66 : decode cX6_cut 66 = .ok (.getfield 28, 3) := by decide +kernel
theorem dX6_cut_69 : decode cX6_cut 69 = .ok (.aload_n 0, 1) := by decide +kernel
theorem dX6_cut_70 : decode cX6_cut 70 = .ok (.iload_n 1, 1) := by decide +kernel
theorem dX6_cut_71 : decode cX6_cut 71 = .ok (.iload_n 3, 1) := by decide +kernel
theorem dX6_cut_72 : decode cX6_cut 72 = .ok (.invokevirtual 35, 3) := by decide +kernel
theorem dX6_cut_75 : decode cX6_cut 75 = .ok (.iastore, 1) := by decide +kernel
theorem dX6_cut_76 : decode cX6_cut 76 = .ok (.aload_n 0, 1) := by decide +kernel
theorem dX6_cut_77 : decode cX6_cut 77 = .ok (.getfield 22, 3) := by decide +kernel
theorem dX6_cut_80 : decode cX6_cut 80 = .ok (.aload_n 0, 1) := by decide +kernel
theorem dX6_cut_81 : decode cX6_cut 81 = .ok (.getfield 28, 3) := by decide +kernel
theorem dX6_cut_84 : decode cX6_cut 84 = .ok (.iload_n 1, 1) := by decide +kernel
theorem dX6_cut_85 : decode cX6_cut 85 = .ok (.iastore, 1) := by decide +kernel
theorem dX6_cut_86 : decode cX6_cut 86 = .ok (.aload_n 0, 1) := by decide +kernel
theorem dX6_cut_87 : decode cX6_cut 87 = .ok (.getfield 25, 3) := by decide +kernel
theorem dX6_cut_90 : decode cX6_cut 90 = .ok (.aload_n 0, 1) := by decide +kernel
theorem dX6_cut_91 : decode cX6_cut 91 = .ok (.getfield 28, 3) := by decide +kernel
theorem dX6_cut_94 : decode cX6_cut 94 = .ok (.aload_n 0, 1) := by decide +kernel
theorem dX6_cut_95 : decode cX6_cut 95 = .ok (.getfield 19, 3) := by decide +kernel
theorem dX6_cut_98 : decode cX6_cut 98 = .ok (.aload_n 0, 1) := by decide +kernel
theorem dX6_cut_99 : decode cX6_cut 99 = .ok (.getfield 28, 3) := by decide +kernel
theorem dX6_cut_102 : decode cX6_cut 102 = .ok (.iaload, 1) := by decide +kernel
theorem dX6_cut_103 : decode cX6_cut 103 = .ok (.bipush 13, 2) := by decide +kernel
theorem dX6_cut_105 : decode cX6_cut 105 = .ok (.if_icmp .ne 12, 3) := by decide +kernel
theorem dX6_cut_108 : decode cX6_cut 108 = .ok (.aload_n 0, 1) := by decide +kernel
theorem dX6_cut_109 : decode cX6_cut 109 = .ok (.iload_n 1, 1) := by decide +kernel
theorem dX6_cut_110 : decode cX6_cut 110 = .ok (.iload_n 3, 1) := by decide +kernel
theorem dX6_cut_111 : decode cX6_cut 111 = .ok (.invokevirtual 39, 3) := by decide +kernel
theorem dX6_cut_114 : decode cX6_cut 114 = .ok (.goto 4, 3) := by decide +kernel
theorem dX6_cut_117 : decode cX6_cut 117 = .ok (.iconst 0, 1) := by decide +kernel
theorem dX6_cut_118 : decode cX6_cut 118 = .ok (.iastore, 1) := by decide +kernel
theorem dX6_cut_119 : decode cX6_cut 119 = .ok (.aload_n 0, 1) := by decide +kernel
theorem dX6_cut_120 : decode cX6_cut 120 = .ok (.dup, 1) := by decide +kernel
theorem dX6_cut_121 : decode cX6_cut 121 = .ok (.getfield 28, 3) := by decide +kernel
theorem dX6_cut_124 : decode cX6_cut 124 = .ok (.iconst 1, 1) := by decide +kernel
theorem dX6_cut_125 : decode cX6_cut 125 = .ok (.iadd, 1) := by decide +kernel
theorem dX6_cut_126 : decode cX6_cut 126 = .ok (.putfield 28, 3) := by decide +kernel
theorem dX6_cut_129 : decode cX6_cut 129 = .ok (.iload_n 3, 1) := by decide +kernel
theorem dX6_cut_130 : decode cX6_cut 130 = .ok (.istore_n 1, 1) := by decide +kernel
theorem dX6_cut_131 : decode cX6_cut 131 = .ok (.goto (-124), 3) := by decide +kernel
theorem dX6_cut_134 : decode cX6_cut 134 = .ok (.aload_n 0, 1) := by decide +kernel
theorem dX6_cut_135 : decode cX6_cut 135 = .ok (.getfield 19, 3) := by decide +kernel
theorem dX6_cut_138 : decode cX6_cut 138 = .ok (.aload_n 0, 1) := by decide +kernel
theorem dX6_cut_139 : decode cX6_cut 139 = .ok (.getfield 28, 3) := by decide +kernel
theorem dX6_cut_142 : decode cX6_cut 142 = .ok (.bipush 14, 2) := by decide +kernel
theorem dX6_cut_144 : decode cX6_cut 144 = .ok (.iastore, 1) := by decide +kernel
theorem dX6_cut_145 : decode cX6_cut 145 = .ok (.aload_n 0, 1) := by decide +kernel
theorem dX6_cut_146 : decode cX6_cut 146 = .ok (.getfield 22, 3) := by decide +kernel
theorem dX6_cut_149 : decode cX6_cut 149 = .ok (.aload_n 0, 1) := by decide +kernel
theorem dX6_cut_150 : decode cX6_cut 150 = .ok (.getfield 28, 3) := by decide +kernel
theorem dX6_cut_153 : decode cX6_cut 153 = .ok (.aload_n 0, 1) := by decide +kernel
theorem dX6_cut_154 : decode cX6_cut 154 = .ok (.getfield 15, 3) := by decide +kernel
theorem dX6_cut_157 : decode cX6_cut 157 = .ok (.iastore, 1) := by decide +kernel
theorem dX6_cut_158 : decode cX6_cut 158 = .ok (.return_, 1) := by decide +kernel
def f_Tape_add (M : Mem) (a1 : Int32) : Option (Mem × Int32) :=
if (M 13 1) < 0 then
(some (M, (-4)))
else
(if (M 13 1) < 160 then
(ck (M 13 1) 160 <|
bnd (wr M 14 (M 13 1).toNatClampNeg a1) fun (M1 : Mem) =>
bnd (wr M1 13 1 ((M1 13 1) + 1)) fun (M2 : Mem) =>
some (M2, (M2 13 1)))
else
(some (M, (-4))))
def f_Tape_clear (M : Mem) : Option Mem :=
bnd (wr M 13 1 0) fun (M1 : Mem) =>
some M1
def f_Tape_isLetter (a1 : Int32) : Option Bool :=
if a1 < 97 then
(some false)
else
(if 122 < a1 then
(some false)
else
(some true))
def f_Tape_isDigit (a1 : Int32) : Option Bool :=
if a1 < 48 then
(some false)
else
(if 57 < a1 then
(some false)
else
(some true))
def f_Tape_endOf_L25 (M : Mem) (v3 : Bool) (v5 : Bool) (j7 : Int32 → Option Int32) : Nat → Int32 → Option Int32
  | 0, _ => none
  | fu9 + 1, v8 =>
    if (M 13 1) ≤ v8 then
    (j7 v8)
    else
    (if 160 ≤ v8 then
    (j7 v8)
    else
    (jp (fun (u10 : Unit) =>
    if v5 = true then
    (ck v8 160 <|
    ob (f_Tape_isDigit (M 14 v8.toNatClampNeg)) fun (v13 : Bool) =>
    if v13 = true then
    (bnd (v8 + 1) fun (v14 : Int32) =>
    f_Tape_endOf_L25 M v3 v5 j7 fu9 v14)
    else
    (j7 v8))
    else
    (j7 v8)) fun j11 =>
    if v3 = true then
    (ck v8 160 <|
    ob (f_Tape_isLetter (M 14 v8.toNatClampNeg)) fun (v16 : Bool) =>
    if v16 = true then
    (bnd (v8 + 1) fun (v17 : Int32) =>
    f_Tape_endOf_L25 M v3 v5 j7 fu9 v17)
    else
    (j11 ()))
    else
    (j11 ())))
def f_Tape_endOf (M : Mem) (a1 : Int32) : Option Int32 :=
bnd ((a1 + 1)) fun (v1 : Int32) =>
ck a1 160 <|
ob (f_Tape_isLetter (M 14 a1.toNatClampNeg)) fun (v3 : Bool) =>
ck a1 160 <|
ob (f_Tape_isDigit (M 14 a1.toNatClampNeg)) fun (v5 : Bool) =>
jp (fun (v6 : Int32) =>
some v6) fun j7 =>
f_Tape_endOf_L25 M v3 v5 j7 FU v1
def f_Tape_numberOf_L5 (M : Mem) (a2 : Int32) (j2 : Int32 → Option Int32) : Nat → Int32 → Int32 → Option Int32
  | 0, _, _ => none
  | fu5 + 1, v3, v4 =>
    if a2 ≤ v4 then
    (j2 v3)
    else
    (if 160 ≤ v4 then
    (j2 v3)
    else
    (ck v4 160 <|
    bnd (((v3 * 10) + ((M 14 v4.toNatClampNeg) - 48))) fun (v6 : Int32) =>
    bnd (v4 + 1) fun (v7 : Int32) =>
    f_Tape_numberOf_L5 M a2 j2 fu5 v6 v7))
def f_Tape_numberOf (M : Mem) (a1 : Int32) (a2 : Int32) : Option Int32 :=
jp (fun (v1 : Int32) =>
some v1) fun j2 =>
f_Tape_numberOf_L5 M a2 j2 FU 0 a1
def f_Tape_spells_L15 (M : Mem) (j1 : Nat) (a2 : Int32) (a3 : Int32) (j4 : Unit → Option Bool) : Nat → Int32 → Option Bool
  | 0, _ => none
  | fu6 + 1, v5 =>
    if a3 ≤ v5 then
    (j4 ())
    else
    (if 160 ≤ v5 then
    (j4 ())
    else
    (ob (f_JS_charAt1 j1 (v5 - a2)) fun (v8 : Int32) =>
    ck v5 160 <|
    if v8 = (M 14 v5.toNatClampNeg) then
    (bnd (v5 + 1) fun (v9 : Int32) =>
    f_Tape_spells_L15 M j1 a2 a3 j4 fu6 v9)
    else
    (some false)))
def f_Tape_spells (M : Mem) (j1 : Nat) (a2 : Int32) (a3 : Int32) : Option Bool :=
ob (f_JS_length0 j1) fun (v2 : Int32) =>
if v2 = (a3 - a2) then
(jp (fun (u3 : Unit) =>
some true) fun j4 =>
f_Tape_spells_L15 M j1 a2 a3 j4 FU a2)
else
(some false)
def f_Tape_wordOf (a1 : Int32) : Option Nat :=
if a1 = 1 then
(some 2)
else
(if a1 = 2 then
(some 3)
else
(if a1 = 3 then
(some 4)
else
(if a1 = 4 then
(some 5)
else
(if a1 = 5 then
(some 6)
else
(if a1 = 6 then
(some 7)
else
(if a1 = 7 then
(some 8)
else
(if a1 = 8 then
(some 9)
else
(if a1 = 9 then
(some 10)
else
(if a1 = 10 then
(some 11)
else
(if a1 = 11 then
(some 12)
else
(some 13)))))))))))
theorem wordOf_lt {a : Int32} {r : Nat} (h : f_Tape_wordOf a = some r) : r < nS := by
  unfold f_Tape_wordOf at h
  repeat (first | (rw [← oi h]; decide) | split at h)
def f_Tape_tokenOf_L56 (M : Mem) (a1 : Int32) (a2 : Int32) (j7 : Unit → Option Int32) : Nat → Int32 → Option Int32
  | 0, _ => none
  | fu9 + 1, v8 =>
    if 12 < v8 then
    (j7 ())
    else
    (ob (f_Tape_wordOf v8) fun (v11 : Nat) =>
    ob (f_Tape_spells M v11 a1 a2) fun (v13 : Bool) =>
    if v13 = true then
    (some v8)
    else
    (bnd (v8 + 1) fun (v14 : Int32) =>
    f_Tape_tokenOf_L56 M a1 a2 j7 fu9 v14))
def f_Tape_tokenOf (M : Mem) (a1 : Int32) (a2 : Int32) : Option Int32 :=
ck a1 160 <|
bnd ((M 14 a1.toNatClampNeg)) fun (v1 : Int32) =>
ob (f_Tape_isDigit v1) fun (v3 : Bool) =>
if v3 = true then
(if (a2 - a1) ≤ 4 then
(some 13)
else
(some 15))
else
(ob (f_Tape_isLetter v1) fun (v5 : Bool) =>
if v5 = true then
(jp (fun (u6 : Unit) =>
some 15) fun j7 =>
f_Tape_tokenOf_L56 M a1 a2 j7 FU 1)
else
(ob (f_JS_indexOf1 1 ((v1.toUInt32 % 65536).toInt32)) fun (v16 : Int32) =>
if v16 < 0 then
(some 15)
else
(some v1)))
def f_Tape_cut_L7 (j3 : Mem → Option Mem) : Nat → Int32 → Mem → Option Mem
  | 0, _, _ => none
  | fu8 + 1, v6, M7 =>
    if (M7 13 1) ≤ v6 then
    (j3 M7)
    else
    (if 160 ≤ v6 then
    (j3 M7)
    else
    (if 160 ≤ (M7 13 5) then
    (j3 M7)
    else
    (ck v6 160 <|
    bnd ((M7 14 v6.toNatClampNeg)) fun (v9 : Int32) =>
    bnd ((v6 + 1)) fun (v10 : Int32) =>
    jp (fun (v11 : Int32) (M12 : Mem) =>
    f_Tape_cut_L7 j3 fu8 v11 M12) fun j13 =>
    if v9 = 32 then
    (j13 v10 M7)
    else
    (if v9 = 10 then
    (j13 v10 M7)
    else
    (ob (f_Tape_endOf M7 v6) fun (v15 : Int32) =>
    ob (f_Tape_tokenOf M7 v6 v15) fun (v17 : Int32) =>
    ck (M7 13 5) 161 <|
    bnd (wr M7 15 (M7 13 5).toNatClampNeg v17) fun (M18 : Mem) =>
    ck (M18 13 5) 161 <|
    bnd (wr M18 16 (M18 13 5).toNatClampNeg v6) fun (M19 : Mem) =>
    ck (M19 13 5) 161 <|
    jp (fun (v20 : Int32) =>
    ck (M19 13 5) 161 <|
    bnd (wr M19 17 (M19 13 5).toNatClampNeg v20) fun (M22 : Mem) =>
    bnd (wr M22 13 5 ((M22 13 5) + 1)) fun (M23 : Mem) =>
    j13 v15 M23) fun j21 =>
    if (M19 15 (M19 13 5).toNatClampNeg) = 13 then
    (ob (f_Tape_numberOf M19 v6 v15) fun (v25 : Int32) =>
    j21 v25)
    else
    (j21 0))))))
def f_Tape_cut (M : Mem) : Option Mem :=
bnd (wr M 13 5 0) fun (M1 : Mem) =>
jp (fun (M2 : Mem) =>
ck (M2 13 5) 161 <|
bnd (wr M2 15 (M2 13 5).toNatClampNeg 14) fun (M4 : Mem) =>
ck (M4 13 5) 161 <|
bnd (wr M4 16 (M4 13 5).toNatClampNeg (M4 13 1)) fun (M5 : Mem) =>
some M5) fun j3 =>
f_Tape_cut_L7 j3 FU 0 M1
set_option maxHeartbeats 4000000 in
set_option maxRecDepth 20000 in
theorem w_f_Tape_add {X : XT} {M : Mem} {a1 : Int32} {M' : Mem} {r : Int32}   (h : f_Tape_add M a1 = some (M', r)) : CT layX X 0 yX6_add cX6_add 2 (some .int) [.ref (X.2.2.2.1 13), .int a1] M M' (some (.int r)) := by
  refine CT.of rfl (Nat.le_of_ble_eq_true rfl) (lv := [(0, .ref (X.2.2.2.1 13)), (1, .int a1)]) rfl (fun Γ K => ?_)
  have K : Kx layX X Γ RX6 cX6_add 2 0 (some .int) := K
  unfold f_Tape_add at h
  refine g_aload_n (pn := 1) K rfl 0 rfl dX6_add_0 ?_
  refine g_geti (pn := 4) K rfl fl_X6_15 lx_13 rfl dX6_add_1 ?_
  refine g_if_lt (tgt := 17) (pn := 7) K rfl (by decide) dX6_add_4 h (fun h => ?_) (fun h => ?_)
  · refine g_bipush (pn := 19) (v := (-4)) K rfl bp_m4 dX6_add_17 ?_
    exact g_iret K dX6_add_19 (oi2 h).2 (oi2 h).1
  · refine g_aload_n (pn := 8) K rfl 0 rfl dX6_add_7 ?_
    refine g_geti (pn := 11) K rfl fl_X6_15 lx_13 rfl dX6_add_8 ?_
    refine g_sipush (pn := 14) (v := 160) K rfl sp_160 dX6_add_11 ?_
    refine g_icmp_lt (tgt := 20) (pn := 17) K rfl (by decide) dX6_add_14 h (fun h => ?_) (fun h => ?_)
    · refine g_aload_n (pn := 21) K rfl 0 rfl dX6_add_20 ?_
      refine g_getr (pn := 24) (j := 14) K rfl fl_X6_9 lx_13 rfl dX6_add_21 ?_
      refine g_aload_n (pn := 25) K rfl 0 rfl dX6_add_24 ?_
      refine g_geti (pn := 28) K rfl fl_X6_15 lx_13 rfl dX6_add_25 ?_
      refine g_iload_n (pn := 29) K rfl 1 rfl dX6_add_28 ?_
      refine g_iast (pn := 30) K rfl lx_14 dX6_add_29 h (fun M1 h => ?_)
      refine g_aload_n (pn := 31) K rfl 0 rfl dX6_add_30 ?_
      refine g_dup (pn := 32) K rfl rfl dX6_add_31 ?_
      refine g_geti (pn := 35) K rfl fl_X6_15 lx_13 rfl dX6_add_32 ?_
      refine g_iconst (pn := 36) (v := 1) K rfl ic_1 dX6_add_35 ?_
      refine g_iadd (pn := 37) K rfl dX6_add_36 ?_
      refine g_puti (pn := 40) K rfl fp_X6_15 lx_13 rfl dX6_add_37 h (fun M2 h => ?_)
      refine g_aload_n (pn := 41) K rfl 0 rfl dX6_add_40 ?_
      refine g_geti (pn := 44) K rfl fl_X6_15 lx_13 rfl dX6_add_41 ?_
      exact g_iret K dX6_add_44 (oi2 h).2 (oi2 h).1
    · refine g_bipush (pn := 19) (v := (-4)) K rfl bp_m4 dX6_add_17 ?_
      exact g_iret K dX6_add_19 (oi2 h).2 (oi2 h).1
set_option maxHeartbeats 4000000 in
set_option maxRecDepth 20000 in
theorem w_f_Tape_clear {X : XT} {M : Mem}  {M' : Mem}   (h : f_Tape_clear M = some M') : CT layX X 0 yX6_clear cX6_clear 1 none [.ref (X.2.2.2.1 13)] M M' none := by
  refine CT.of rfl (Nat.le_of_ble_eq_true rfl) (lv := [(0, .ref (X.2.2.2.1 13))]) rfl (fun Γ K => ?_)
  have K : Kx layX X Γ RX6 cX6_clear 1 0 none := K
  unfold f_Tape_clear at h
  refine g_aload_n (pn := 1) K rfl 0 rfl dX6_clear_0 ?_
  refine g_iconst (pn := 2) (v := 0) K rfl ic_0 dX6_clear_1 ?_
  refine g_puti (pn := 5) K rfl fp_X6_15 lx_13 rfl dX6_clear_2 h (fun M1 h => ?_)
  exact g_vret K dX6_clear_5 (oi h)
set_option maxHeartbeats 4000000 in
set_option maxRecDepth 20000 in
theorem w_f_Tape_isLetter {X : XT} {M : Mem} {a1 : Int32} {r : Bool}   (h : f_Tape_isLetter a1 = some r) : CT layX X 0 yX6_isLetter cX6_isLetter 1 (some .boolean) [.int a1] M M (some (.int (b2i r))) := by
  refine CT.of rfl (Nat.le_of_ble_eq_true rfl) (lv := [(0, .int a1)]) rfl (fun Γ K => ?_)
  have K : Kx layX X Γ RX6 cX6_isLetter 1 0 (some .boolean) := K
  unfold f_Tape_isLetter at h
  refine g_iload_n (pn := 1) K rfl 0 rfl dX6_isLetter_0 ?_
  refine g_bipush (pn := 3) (v := 97) K rfl bp_97 dX6_isLetter_1 ?_
  refine g_icmp_lt (tgt := 16) (pn := 6) K rfl (by decide) dX6_isLetter_3 h (fun h => ?_) (fun h => ?_)
  · refine g_iconst (pn := 17) (v := 0) K rfl ic_0 dX6_isLetter_16 ?_
    exact g_zret K rfl dX6_isLetter_17 (bq0 (oi h)) rfl
  · refine g_iload_n (pn := 7) K rfl 0 rfl dX6_isLetter_6 ?_
    refine g_bipush (pn := 9) (v := 122) K rfl bp_122 dX6_isLetter_7 ?_
    refine g_icmp_gt (tgt := 16) (pn := 12) K rfl (by decide) dX6_isLetter_9 h (fun h => ?_) (fun h => ?_)
    · refine g_iconst (pn := 17) (v := 0) K rfl ic_0 dX6_isLetter_16 ?_
      exact g_zret K rfl dX6_isLetter_17 (bq0 (oi h)) rfl
    · refine g_iconst (pn := 13) (v := 1) K rfl ic_1 dX6_isLetter_12 ?_
      refine g_goto (tgt := 17) K (by decide) dX6_isLetter_13 ?_
      exact g_zret K rfl dX6_isLetter_17 (bq1 (oi h)) rfl
set_option maxHeartbeats 4000000 in
set_option maxRecDepth 20000 in
theorem w_f_Tape_isDigit {X : XT} {M : Mem} {a1 : Int32} {r : Bool}   (h : f_Tape_isDigit a1 = some r) : CT layX X 0 yX6_isDigit cX6_isDigit 1 (some .boolean) [.int a1] M M (some (.int (b2i r))) := by
  refine CT.of rfl (Nat.le_of_ble_eq_true rfl) (lv := [(0, .int a1)]) rfl (fun Γ K => ?_)
  have K : Kx layX X Γ RX6 cX6_isDigit 1 0 (some .boolean) := K
  unfold f_Tape_isDigit at h
  refine g_iload_n (pn := 1) K rfl 0 rfl dX6_isDigit_0 ?_
  refine g_bipush (pn := 3) (v := 48) K rfl bp_48 dX6_isDigit_1 ?_
  refine g_icmp_lt (tgt := 16) (pn := 6) K rfl (by decide) dX6_isDigit_3 h (fun h => ?_) (fun h => ?_)
  · refine g_iconst (pn := 17) (v := 0) K rfl ic_0 dX6_isDigit_16 ?_
    exact g_zret K rfl dX6_isDigit_17 (bq0 (oi h)) rfl
  · refine g_iload_n (pn := 7) K rfl 0 rfl dX6_isDigit_6 ?_
    refine g_bipush (pn := 9) (v := 57) K rfl bp_57 dX6_isDigit_7 ?_
    refine g_icmp_gt (tgt := 16) (pn := 12) K rfl (by decide) dX6_isDigit_9 h (fun h => ?_) (fun h => ?_)
    · refine g_iconst (pn := 17) (v := 0) K rfl ic_0 dX6_isDigit_16 ?_
      exact g_zret K rfl dX6_isDigit_17 (bq0 (oi h)) rfl
    · refine g_iconst (pn := 13) (v := 1) K rfl ic_1 dX6_isDigit_12 ?_
      refine g_goto (tgt := 17) K (by decide) dX6_isDigit_13 ?_
      exact g_zret K rfl dX6_isDigit_17 (bq1 (oi h)) rfl
set_option maxHeartbeats 4000000 in
set_option maxRecDepth 20000 in
theorem w_f_Tape_endOf {X : XT} {M : Mem} {a1 : Int32} {r : Int32}   (h : f_Tape_endOf M a1 = some r) : CT layX X 1 yX6_endOf cX6_endOf 5 (some .int) [.ref (X.2.2.2.1 13), .int a1] M M (some (.int r)) := by
  refine CT.of rfl (Nat.le_of_ble_eq_true rfl) (lv := [(0, .ref (X.2.2.2.1 13)), (1, .int a1)]) rfl (fun Γ K => ?_)
  have K : Kx layX X Γ RX6 cX6_endOf 5 1 (some .int) := K
  unfold f_Tape_endOf at h
  refine g_iload_n (pn := 1) K rfl 1 rfl dX6_endOf_0 ?_
  refine g_iconst (pn := 2) (v := 1) K rfl ic_1 dX6_endOf_1 ?_
  refine g_iadd (pn := 3) K rfl dX6_endOf_2 ?_
  refine g_nmi h (fun v1 h => ?_)
  refine g_istore_n (pn := 4) (lv' := [(2, .int v1), (0, .ref (X.2.2.2.1 13)), (1, .int a1)]) K rfl dX6_endOf_3 rfl (Nat.le_of_ble_eq_true rfl) rfl ?_
  refine g_aload_n (pn := 5) K rfl 1 rfl dX6_endOf_4 ?_
  refine g_getr (pn := 8) (j := 14) K rfl fl_X6_9 lx_13 rfl dX6_endOf_5 ?_
  refine g_iload_n (pn := 9) K rfl 2 rfl dX6_endOf_8 ?_
  refine g_iald (pn := 10) K rfl lx_14 dX6_endOf_9 h (fun h => ?_)
  obtain ⟨v3, hc2, h⟩ := ob_e h
  refine g_callS1 (pn := 13) (As := [.int (M 14 a1.toNatClampNeg)]) (rest := []) K rfl (d' := 0) (Nat.le_of_ble_eq_true rfl) ms_X6_42 (w_f_Tape_isLetter hc2) rfl rfl (Nat.le_of_ble_eq_true rfl) dX6_endOf_10 ?_
  refine g_istore_n (pn := 14) (lv' := [(3, .int (b2i v3)), (2, .int v1), (0, .ref (X.2.2.2.1 13)), (1, .int a1)]) K rfl dX6_endOf_13 rfl (Nat.le_of_ble_eq_true rfl) rfl ?_
  refine g_aload_n (pn := 15) K rfl 2 rfl dX6_endOf_14 ?_
  refine g_getr (pn := 18) (j := 14) K rfl fl_X6_9 lx_13 rfl dX6_endOf_15 ?_
  refine g_iload_n (pn := 19) K rfl 3 rfl dX6_endOf_18 ?_
  refine g_iald (pn := 20) K rfl lx_14 dX6_endOf_19 h (fun h => ?_)
  obtain ⟨v5, hc4, h⟩ := ob_e h
  refine g_callS1 (pn := 23) (As := [.int (M 14 a1.toNatClampNeg)]) (rest := []) K rfl (d' := 0) (Nat.le_of_ble_eq_true rfl) ms_X6_46 (w_f_Tape_isDigit hc4) rfl rfl (Nat.le_of_ble_eq_true rfl) dX6_endOf_20 ?_
  refine g_istore (pn := 25) (lv' := [(4, .int (b2i v5)), (3, .int (b2i v3)), (2, .int v1), (0, .ref (X.2.2.2.1 13)), (1, .int a1)]) K rfl dX6_endOf_23 (Nat.le_of_ble_eq_true rfl) rfl ?_
  refine jp_e1 h (fun v6 => G layX X Γ 5 (QM layX X Γ (some (.int r)) M) 79 [(2, .int v6)] [] M) (fun v6 h => ?_) (fun j7 hj7 h => ?_)
  · refine g_iload_n (pn := 80) K rfl 0 rfl dX6_endOf_79 ?_
    exact g_iret K dX6_endOf_80 (oi h) rfl
  have LP25 : ∀ (fu9 : Nat) (v8 : Int32), f_Tape_endOf_L25 M v3 v5 j7 fu9 v8 = some r → G layX X Γ 5 (QM layX X Γ (some (.int r)) M) 25 [(4, .int (b2i v5)), (3, .int (b2i v3)), (0, .ref (X.2.2.2.1 13)), (2, .int v8)] [] M := by
    intro fu9
    induction fu9 with
    | zero =>
      intro v8 h
      rw [f_Tape_endOf_L25] at h
      cases h
    | succ fu9 ih9 =>
      intro v8 h
      rw [f_Tape_endOf_L25] at h
      refine g_iload_n (pn := 26) K rfl 3 rfl dX6_endOf_25 ?_
      refine g_aload_n (pn := 27) K rfl 2 rfl dX6_endOf_26 ?_
      refine g_geti (pn := 30) K rfl fl_X6_15 lx_13 rfl dX6_endOf_27 ?_
      refine g_icmp_ge (tgt := 79) (pn := 33) K rfl (by decide) dX6_endOf_30 h (fun h => ?_) (fun h => ?_)
      · refine g_sub [3] rfl ?_
        exact hj7 _ h
      · refine g_iload_n (pn := 34) K rfl 3 rfl dX6_endOf_33 ?_
        refine g_sipush (pn := 37) (v := 160) K rfl sp_160 dX6_endOf_34 ?_
        refine g_icmp_ge (tgt := 79) (pn := 40) K rfl (by decide) dX6_endOf_37 h (fun h => ?_) (fun h => ?_)
        · refine g_sub [3] rfl ?_
          exact hj7 _ h
        · refine g_iload_n (pn := 41) K rfl 1 rfl dX6_endOf_40 ?_
          refine jp_e1 h (fun u10 => G layX X Γ 5 (QM layX X Γ (some (.int r)) M) 56 [(4, .int (b2i v5)), (3, .int (b2i v3)), (0, .ref (X.2.2.2.1 13)), (2, .int v8)] [] M) (fun u10 h => ?_) (fun j11 hj11 h => ?_)
          · refine g_iload (pn := 58) K rfl 0 rfl dX6_endOf_56 ?_
            refine g_ifB_eq (tgt := 79) (pn := 61) K rfl (by decide) dX6_endOf_58 h (fun h => ?_) (fun h => ?_)
            · refine g_sub [3] rfl ?_
              exact hj7 _ h
            · refine g_aload_n (pn := 62) K rfl 2 rfl dX6_endOf_61 ?_
              refine g_getr (pn := 65) (j := 14) K rfl fl_X6_9 lx_13 rfl dX6_endOf_62 ?_
              refine g_iload_n (pn := 66) K rfl 3 rfl dX6_endOf_65 ?_
              refine g_iald (pn := 67) K rfl lx_14 dX6_endOf_66 h (fun h => ?_)
              obtain ⟨v13, hc12, h⟩ := ob_e h
              refine g_callS1 (pn := 70) (As := [.int (M 14 v8.toNatClampNeg)]) (rest := []) K rfl (d' := 0) (Nat.le_of_ble_eq_true rfl) ms_X6_46 (w_f_Tape_isDigit hc12) rfl rfl (Nat.le_of_ble_eq_true rfl) dX6_endOf_67 ?_
              refine g_ifB_eq (tgt := 79) (pn := 73) K rfl (by decide) dX6_endOf_70 h (fun h => ?_) (fun h => ?_)
              · refine g_sub [3] rfl ?_
                exact hj7 _ h
              · obtain ⟨v14, ev14, h⟩ := bnd_e h
                refine g_iinc (pn := 76) (v := v14) (lv' := [(2, .int v14), (4, .int (b2i v5)), (3, .int (b2i v3)), (0, .ref (X.2.2.2.1 13))]) K rfl 3 rfl ii_1 ev14 dX6_endOf_73 (Nat.le_of_ble_eq_true rfl) rfl ?_
                refine g_goto (tgt := 25) K (by decide) dX6_endOf_76 ?_
                refine g_sub [1, 2, 3, 0] rfl ?_
                exact ih9 _ h
          refine g_ifB_eq (tgt := 56) (pn := 44) K rfl (by decide) dX6_endOf_41 h (fun h => ?_) (fun h => ?_)
          · exact hj11 _ h
          · refine g_aload_n (pn := 45) K rfl 2 rfl dX6_endOf_44 ?_
            refine g_getr (pn := 48) (j := 14) K rfl fl_X6_9 lx_13 rfl dX6_endOf_45 ?_
            refine g_iload_n (pn := 49) K rfl 3 rfl dX6_endOf_48 ?_
            refine g_iald (pn := 50) K rfl lx_14 dX6_endOf_49 h (fun h => ?_)
            obtain ⟨v16, hc15, h⟩ := ob_e h
            refine g_callS1 (pn := 53) (As := [.int (M 14 v8.toNatClampNeg)]) (rest := []) K rfl (d' := 0) (Nat.le_of_ble_eq_true rfl) ms_X6_42 (w_f_Tape_isLetter hc15) rfl rfl (Nat.le_of_ble_eq_true rfl) dX6_endOf_50 ?_
            refine g_ifB_ne (tgt := 73) (pn := 56) K rfl (by decide) dX6_endOf_53 h (fun h => ?_) (fun h => ?_)
            · obtain ⟨v17, ev17, h⟩ := bnd_e h
              refine g_iinc (pn := 76) (v := v17) (lv' := [(2, .int v17), (4, .int (b2i v5)), (3, .int (b2i v3)), (0, .ref (X.2.2.2.1 13))]) K rfl 3 rfl ii_1 ev17 dX6_endOf_73 (Nat.le_of_ble_eq_true rfl) rfl ?_
              refine g_goto (tgt := 25) K (by decide) dX6_endOf_76 ?_
              refine g_sub [1, 2, 3, 0] rfl ?_
              exact ih9 _ h
            · exact hj11 _ h
  refine g_sub [0, 1, 3, 2] rfl ?_
  exact LP25 FU _ h
set_option maxHeartbeats 4000000 in
set_option maxRecDepth 20000 in
theorem w_f_Tape_numberOf {X : XT} {M : Mem} {a1 : Int32} {a2 : Int32} {r : Int32}   (h : f_Tape_numberOf M a1 a2 = some r) : CT layX X 0 yX6_numberOf cX6_numberOf 5 (some .int) [.ref (X.2.2.2.1 13), .int a1, .int a2] M M (some (.int r)) := by
  refine CT.of rfl (Nat.le_of_ble_eq_true rfl) (lv := [(0, .ref (X.2.2.2.1 13)), (1, .int a1), (2, .int a2)]) rfl (fun Γ K => ?_)
  have K : Kx layX X Γ RX6 cX6_numberOf 5 0 (some .int) := K
  unfold f_Tape_numberOf at h
  refine g_iconst (pn := 1) (v := 0) K rfl ic_0 dX6_numberOf_0 ?_
  refine g_istore_n (pn := 2) (lv' := [(3, .int 0), (0, .ref (X.2.2.2.1 13)), (1, .int a1), (2, .int a2)]) K rfl dX6_numberOf_1 rfl (Nat.le_of_ble_eq_true rfl) rfl ?_
  refine g_iload_n (pn := 3) K rfl 2 rfl dX6_numberOf_2 ?_
  refine g_istore (pn := 5) (lv' := [(4, .int a1), (3, .int 0), (0, .ref (X.2.2.2.1 13)), (1, .int a1), (2, .int a2)]) K rfl dX6_numberOf_3 (Nat.le_of_ble_eq_true rfl) rfl ?_
  refine jp_e1 h (fun v1 => G layX X Γ 5 (QM layX X Γ (some (.int r)) M) 41 [(3, .int v1)] [] M) (fun v1 h => ?_) (fun j2 hj2 h => ?_)
  · refine g_iload_n (pn := 42) K rfl 0 rfl dX6_numberOf_41 ?_
    exact g_iret K dX6_numberOf_42 (oi h) rfl
  have LP5 : ∀ (fu5 : Nat) (v3 : Int32) (v4 : Int32), f_Tape_numberOf_L5 M a2 j2 fu5 v3 v4 = some r → G layX X Γ 5 (QM layX X Γ (some (.int r)) M) 5 [(0, .ref (X.2.2.2.1 13)), (2, .int a2), (3, .int v3), (4, .int v4)] [] M := by
    intro fu5
    induction fu5 with
    | zero =>
      intro v3 v4 h
      rw [f_Tape_numberOf_L5] at h
      cases h
    | succ fu5 ih5 =>
      intro v3 v4 h
      rw [f_Tape_numberOf_L5] at h
      refine g_iload (pn := 7) K rfl 3 rfl dX6_numberOf_5 ?_
      refine g_iload_n (pn := 8) K rfl 1 rfl dX6_numberOf_7 ?_
      refine g_icmp_ge (tgt := 41) (pn := 11) K rfl (by decide) dX6_numberOf_8 h (fun h => ?_) (fun h => ?_)
      · refine g_sub [2] rfl ?_
        exact hj2 _ h
      · refine g_iload (pn := 13) K rfl 3 rfl dX6_numberOf_11 ?_
        refine g_sipush (pn := 16) (v := 160) K rfl sp_160 dX6_numberOf_13 ?_
        refine g_icmp_ge (tgt := 41) (pn := 19) K rfl (by decide) dX6_numberOf_16 h (fun h => ?_) (fun h => ?_)
        · refine g_sub [2] rfl ?_
          exact hj2 _ h
        · refine g_iload_n (pn := 20) K rfl 2 rfl dX6_numberOf_19 ?_
          refine g_bipush (pn := 22) (v := 10) K rfl bp_10 dX6_numberOf_20 ?_
          refine g_imul (pn := 23) K rfl dX6_numberOf_22 ?_
          refine g_aload_n (pn := 24) K rfl 0 rfl dX6_numberOf_23 ?_
          refine g_getr (pn := 27) (j := 14) K rfl fl_X6_9 lx_13 rfl dX6_numberOf_24 ?_
          refine g_iload (pn := 29) K rfl 3 rfl dX6_numberOf_27 ?_
          refine g_iald (pn := 30) K rfl lx_14 dX6_numberOf_29 h (fun h => ?_)
          refine g_bipush (pn := 32) (v := 48) K rfl bp_48 dX6_numberOf_30 ?_
          refine g_isub (pn := 33) K rfl dX6_numberOf_32 ?_
          refine g_iadd (pn := 34) K rfl dX6_numberOf_33 ?_
          refine g_nmi h (fun v6 h => ?_)
          refine g_istore_n (pn := 35) (lv' := [(3, .int v6), (0, .ref (X.2.2.2.1 13)), (2, .int a2), (4, .int v4)]) K rfl dX6_numberOf_34 rfl (Nat.le_of_ble_eq_true rfl) rfl ?_
          obtain ⟨v7, ev7, h⟩ := bnd_e h
          refine g_iinc (pn := 38) (v := v7) (lv' := [(4, .int v7), (3, .int v6), (0, .ref (X.2.2.2.1 13)), (2, .int a2)]) K rfl 3 rfl ii_1 ev7 dX6_numberOf_35 (Nat.le_of_ble_eq_true rfl) rfl ?_
          refine g_goto (tgt := 5) K (by decide) dX6_numberOf_38 ?_
          refine g_sub [2, 3, 1, 0] rfl ?_
          exact ih5 _ _ h
  refine g_sub [2, 4, 1, 0] rfl ?_
  exact LP5 FU _ _ h
set_option maxHeartbeats 4000000 in
set_option maxRecDepth 20000 in
theorem w_f_Tape_spells {X : XT} {M : Mem} {j1 : Nat} {a2 : Int32} {a3 : Int32} {r : Bool} (hj1 : j1 < nS)  (h : f_Tape_spells M j1 a2 a3 = some r) : CT layX X 4 yX6_spells cX6_spells 5 (some .boolean) [.ref (X.2.2.2.1 13), .ref (X.2.2.2.1 (2000 + j1)), .int a2, .int a3] M M (some (.int (b2i r))) := by
  refine CT.of rfl (Nat.le_of_ble_eq_true rfl) (lv := [(0, .ref (X.2.2.2.1 13)), (1, .ref (X.2.2.2.1 (2000 + j1))), (2, .int a2), (3, .int a3)]) rfl (fun Γ K => ?_)
  have K : Kx layX X Γ RX6 cX6_spells 5 4 (some .boolean) := K
  unfold f_Tape_spells at h
  refine g_aload_n (pn := 1) K rfl 1 rfl dX6_spells_0 ?_
  obtain ⟨v2, hc1, h⟩ := ob_e h
  refine g_callV1 (pn := 4) (As := []) (rest := []) (a := (2000 + j1)) K rfl (d' := 1) (Nat.le_of_ble_eq_true rfl) mv_X6_64 (recvS K hj1) (w_f_JS_length0 hj1 hc1) rfl rfl (Nat.le_of_ble_eq_true rfl) dX6_spells_1 ?_
  refine g_iload_n (pn := 5) K rfl 3 rfl dX6_spells_4 ?_
  refine g_iload_n (pn := 6) K rfl 2 rfl dX6_spells_5 ?_
  refine g_isub (pn := 7) K rfl dX6_spells_6 ?_
  refine g_icmp_eq (tgt := 12) (pn := 10) K rfl (by decide) dX6_spells_7 h (fun h => ?_) (fun h => ?_)
  · refine g_iload_n (pn := 13) K rfl 2 rfl dX6_spells_12 ?_
    refine g_istore (pn := 15) (lv' := [(4, .int a2), (0, .ref (X.2.2.2.1 13)), (1, .ref (X.2.2.2.1 (2000 + j1))), (2, .int a2), (3, .int a3)]) K rfl dX6_spells_13 (Nat.le_of_ble_eq_true rfl) rfl ?_
    refine jp_e1 h (fun u3 => G layX X Γ 5 (QM layX X Γ (some (.int (b2i r))) M) 55 [] [] M) (fun u3 h => ?_) (fun j4 hj4 h => ?_)
    · refine g_iconst (pn := 56) (v := 1) K rfl ic_1 dX6_spells_55 ?_
      exact g_zret K rfl dX6_spells_56 (bq1 (oi h)) rfl
    have LP15 : ∀ (fu6 : Nat) (v5 : Int32), f_Tape_spells_L15 M j1 a2 a3 j4 fu6 v5 = some r → G layX X Γ 5 (QM layX X Γ (some (.int (b2i r))) M) 15 [(0, .ref (X.2.2.2.1 13)), (1, .ref (X.2.2.2.1 (2000 + j1))), (2, .int a2), (3, .int a3), (4, .int v5)] [] M := by
      intro fu6
      induction fu6 with
      | zero =>
        intro v5 h
        rw [f_Tape_spells_L15] at h
        cases h
      | succ fu6 ih6 =>
        intro v5 h
        rw [f_Tape_spells_L15] at h
        refine g_iload (pn := 17) K rfl 4 rfl dX6_spells_15 ?_
        refine g_iload_n (pn := 18) K rfl 3 rfl dX6_spells_17 ?_
        refine g_icmp_ge (tgt := 55) (pn := 21) K rfl (by decide) dX6_spells_18 h (fun h => ?_) (fun h => ?_)
        · refine g_sub [] rfl ?_
          exact hj4 _ h
        · refine g_iload (pn := 23) K rfl 4 rfl dX6_spells_21 ?_
          refine g_sipush (pn := 26) (v := 160) K rfl sp_160 dX6_spells_23 ?_
          refine g_icmp_ge (tgt := 55) (pn := 29) K rfl (by decide) dX6_spells_26 h (fun h => ?_) (fun h => ?_)
          · refine g_sub [] rfl ?_
            exact hj4 _ h
          · refine g_aload_n (pn := 30) K rfl 1 rfl dX6_spells_29 ?_
            refine g_iload (pn := 32) K rfl 4 rfl dX6_spells_30 ?_
            refine g_iload_n (pn := 33) K rfl 2 rfl dX6_spells_32 ?_
            refine g_isub (pn := 34) K rfl dX6_spells_33 ?_
            obtain ⟨v8, hc7, h⟩ := ob_e h
            refine g_callV1 (pn := 37) (As := [.int (v5 - a2)]) (rest := []) (a := (2000 + j1)) K rfl (d' := 3) (Nat.le_of_ble_eq_true rfl) mv_X6_68 (recvS K hj1) (w_f_JS_charAt1 hj1 hc7) rfl rfl (Nat.le_of_ble_eq_true rfl) dX6_spells_34 ?_
            refine g_aload_n (pn := 38) K rfl 0 rfl dX6_spells_37 ?_
            refine g_getr (pn := 41) (j := 14) K rfl fl_X6_9 lx_13 rfl dX6_spells_38 ?_
            refine g_iload (pn := 43) K rfl 4 rfl dX6_spells_41 ?_
            refine g_iald (pn := 44) K rfl lx_14 dX6_spells_43 h (fun h => ?_)
            refine g_icmp_eq (tgt := 49) (pn := 47) K rfl (by decide) dX6_spells_44 h (fun h => ?_) (fun h => ?_)
            · obtain ⟨v9, ev9, h⟩ := bnd_e h
              refine g_iinc (pn := 52) (v := v9) (lv' := [(4, .int v9), (0, .ref (X.2.2.2.1 13)), (1, .ref (X.2.2.2.1 (2000 + j1))), (2, .int a2), (3, .int a3)]) K rfl 4 rfl ii_1 ev9 dX6_spells_49 (Nat.le_of_ble_eq_true rfl) rfl ?_
              refine g_goto (tgt := 15) K (by decide) dX6_spells_52 ?_
              refine g_sub [1, 2, 3, 4, 0] rfl ?_
              exact ih6 _ h
            · refine g_iconst (pn := 48) (v := 0) K rfl ic_0 dX6_spells_47 ?_
              exact g_zret K rfl dX6_spells_48 (bq0 (oi h)) rfl
    refine g_sub [1, 2, 3, 4, 0] rfl ?_
    exact LP15 FU _ h
  · refine g_iconst (pn := 11) (v := 0) K rfl ic_0 dX6_spells_10 ?_
    exact g_zret K rfl dX6_spells_11 (bq0 (oi h)) rfl
set_option maxHeartbeats 4000000 in
set_option maxRecDepth 20000 in
theorem w_f_Tape_wordOf {X : XT} {M : Mem} {a1 : Int32} {r : Nat}   (h : f_Tape_wordOf a1 = some r) : CT layX X 0 yX6_wordOf cX6_wordOf 1 (some (.object "java/lang/String")) [.int a1] M M (some (.ref (X.2.2.2.1 (2000 + r)))) := by
  refine CT.of rfl (Nat.le_of_ble_eq_true rfl) (lv := [(0, .int a1)]) rfl (fun Γ K => ?_)
  have K : Kx layX X Γ RX6 cX6_wordOf 1 0 (some (.object "java/lang/String")) := K
  unfold f_Tape_wordOf at h
  refine g_iload_n (pn := 1) K rfl 0 rfl dX6_wordOf_0 ?_
  rcases Decidable.em (a1 = 1) with hs | hs0
  · replace h := (ite_e h).1 hs
    refine g_tsw (tgt := 60) (v := 1) (off := 59) K hs (by decide) (by decide) (by decide) (by decide) dX6_wordOf_1 ?_
    refine g_ldcS (pn := 62) (i := 2) (tx := "warm") K rfl rfl dX6_wordOf_60 ?_
    exact g_aret K (Or.inl ⟨_, rfl⟩) (Or.inr ⟨_, rfl⟩) dX6_wordOf_62 (by rw [oi h]) rfl
  · replace h := (ite_e h).2 hs0
    rcases Decidable.em (a1 = 2) with hs | hs1
    · replace h := (ite_e h).1 hs
      refine g_tsw (tgt := 63) (v := 2) (off := 62) K hs (by decide) (by decide) (by decide) (by decide) dX6_wordOf_1 ?_
      refine g_ldcS (pn := 65) (i := 3) (tx := "age") K rfl rfl dX6_wordOf_63 ?_
      exact g_aret K (Or.inl ⟨_, rfl⟩) (Or.inr ⟨_, rfl⟩) dX6_wordOf_65 (by rw [oi h]) rfl
    · replace h := (ite_e h).2 hs1
      rcases Decidable.em (a1 = 3) with hs | hs2
      · replace h := (ite_e h).1 hs
        refine g_tsw (tgt := 66) (v := 3) (off := 65) K hs (by decide) (by decide) (by decide) (by decide) dX6_wordOf_1 ?_
        refine g_ldcS (pn := 68) (i := 4) (tx := "dirt") K rfl rfl dX6_wordOf_66 ?_
        exact g_aret K (Or.inl ⟨_, rfl⟩) (Or.inr ⟨_, rfl⟩) dX6_wordOf_68 (by rw [oi h]) rfl
      · replace h := (ite_e h).2 hs2
        rcases Decidable.em (a1 = 4) with hs | hs3
        · replace h := (ite_e h).1 hs
          refine g_tsw (tgt := 69) (v := 4) (off := 68) K hs (by decide) (by decide) (by decide) (by decide) dX6_wordOf_1 ?_
          refine g_ldcS (pn := 71) (i := 5) (tx := "yards") K rfl rfl dX6_wordOf_69 ?_
          exact g_aret K (Or.inl ⟨_, rfl⟩) (Or.inr ⟨_, rfl⟩) dX6_wordOf_71 (by rw [oi h]) rfl
        · replace h := (ite_e h).2 hs3
          rcases Decidable.em (a1 = 5) with hs | hs4
          · replace h := (ite_e h).1 hs
            refine g_tsw (tgt := 72) (v := 5) (off := 71) K hs (by decide) (by decide) (by decide) (by decide) dX6_wordOf_1 ?_
            refine g_ldcS (pn := 74) (i := 6) (tx := "off") K rfl rfl dX6_wordOf_72 ?_
            exact g_aret K (Or.inl ⟨_, rfl⟩) (Or.inr ⟨_, rfl⟩) dX6_wordOf_74 (by rw [oi h]) rfl
          · replace h := (ite_e h).2 hs4
            rcases Decidable.em (a1 = 6) with hs | hs5
            · replace h := (ite_e h).1 hs
              refine g_tsw (tgt := 75) (v := 6) (off := 74) K hs (by decide) (by decide) (by decide) (by decide) dX6_wordOf_1 ?_
              refine g_ldcS (pn := 77) (i := 7) (tx := "number") K rfl rfl dX6_wordOf_75 ?_
              exact g_aret K (Or.inl ⟨_, rfl⟩) (Or.inr ⟨_, rfl⟩) dX6_wordOf_77 (by rw [oi h]) rfl
            · replace h := (ite_e h).2 hs5
              rcases Decidable.em (a1 = 7) with hs | hs6
              · replace h := (ite_e h).1 hs
                refine g_tsw (tgt := 78) (v := 7) (off := 77) K hs (by decide) (by decide) (by decide) (by decide) dX6_wordOf_1 ?_
                refine g_ldcS (pn := 80) (i := 8) (tx := "ripens") K rfl rfl dX6_wordOf_78 ?_
                exact g_aret K (Or.inl ⟨_, rfl⟩) (Or.inr ⟨_, rfl⟩) dX6_wordOf_80 (by rw [oi h]) rfl
              · replace h := (ite_e h).2 hs6
                rcases Decidable.em (a1 = 8) with hs | hs7
                · replace h := (ite_e h).1 hs
                  refine g_tsw (tgt := 81) (v := 8) (off := 80) K hs (by decide) (by decide) (by decide) (by decide) dX6_wordOf_1 ?_
                  refine g_ldcS (pn := 83) (i := 9) (tx := "takes") K rfl rfl dX6_wordOf_81 ?_
                  exact g_aret K (Or.inl ⟨_, rfl⟩) (Or.inr ⟨_, rfl⟩) dX6_wordOf_83 (by rw [oi h]) rfl
                · replace h := (ite_e h).2 hs7
                  rcases Decidable.em (a1 = 9) with hs | hs8
                  · replace h := (ite_e h).1 hs
                    refine g_tsw (tgt := 84) (v := 9) (off := 83) K hs (by decide) (by decide) (by decide) (by decide) dX6_wordOf_1 ?_
                    refine g_ldcS (pn := 86) (i := 10) (tx := "spoils") K rfl rfl dX6_wordOf_84 ?_
                    exact g_aret K (Or.inl ⟨_, rfl⟩) (Or.inr ⟨_, rfl⟩) dX6_wordOf_86 (by rw [oi h]) rfl
                  · replace h := (ite_e h).2 hs8
                    rcases Decidable.em (a1 = 10) with hs | hs9
                    · replace h := (ite_e h).1 hs
                      refine g_tsw (tgt := 87) (v := 10) (off := 86) K hs (by decide) (by decide) (by decide) (by decide) dX6_wordOf_1 ?_
                      refine g_ldcS (pn := 89) (i := 11) (tx := "or") K rfl rfl dX6_wordOf_87 ?_
                      exact g_aret K (Or.inl ⟨_, rfl⟩) (Or.inr ⟨_, rfl⟩) dX6_wordOf_89 (by rw [oi h]) rfl
                    · replace h := (ite_e h).2 hs9
                      rcases Decidable.em (a1 = 11) with hs | hs10
                      · replace h := (ite_e h).1 hs
                        refine g_tsw (tgt := 90) (v := 11) (off := 89) K hs (by decide) (by decide) (by decide) (by decide) dX6_wordOf_1 ?_
                        refine g_ldcS (pn := 92) (i := 12) (tx := "and") K rfl rfl dX6_wordOf_90 ?_
                        exact g_aret K (Or.inl ⟨_, rfl⟩) (Or.inr ⟨_, rfl⟩) dX6_wordOf_92 (by rw [oi h]) rfl
                      · replace h := (ite_e h).2 hs10
                        refine g_tswD (tgt := 93) K [1, 2, 3, 4, 5, 6, 7, 8, 9, 10, 11] (by decide) (by decide) (by simp only [List.forall_mem_cons]; exact ⟨hs0, hs1, hs2, hs3, hs4, hs5, hs6, hs7, hs8, hs9, hs10, fun _ h => absurd h List.not_mem_nil⟩) (by decide) dX6_wordOf_1 ?_
                        refine g_ldcS (pn := 95) (i := 13) (tx := "not") K rfl rfl dX6_wordOf_93 ?_
                        exact g_aret K (Or.inl ⟨_, rfl⟩) (Or.inr ⟨_, rfl⟩) dX6_wordOf_95 (by rw [oi h]) rfl
set_option maxHeartbeats 4000000 in
set_option maxRecDepth 20000 in
theorem w_f_Tape_tokenOf {X : XT} {M : Mem} {a1 : Int32} {a2 : Int32} {r : Int32}   (h : f_Tape_tokenOf M a1 a2 = some r) : CT layX X 5 yX6_tokenOf cX6_tokenOf 5 (some .int) [.ref (X.2.2.2.1 13), .int a1, .int a2] M M (some (.int r)) := by
  refine CT.of rfl (Nat.le_of_ble_eq_true rfl) (lv := [(0, .ref (X.2.2.2.1 13)), (1, .int a1), (2, .int a2)]) rfl (fun Γ K => ?_)
  have K : Kx layX X Γ RX6 cX6_tokenOf 5 5 (some .int) := K
  unfold f_Tape_tokenOf at h
  refine g_aload_n (pn := 1) K rfl 0 rfl dX6_tokenOf_0 ?_
  refine g_getr (pn := 4) (j := 14) K rfl fl_X6_9 lx_13 rfl dX6_tokenOf_1 ?_
  refine g_iload_n (pn := 5) K rfl 1 rfl dX6_tokenOf_4 ?_
  refine g_iald (pn := 6) K rfl lx_14 dX6_tokenOf_5 h (fun h => ?_)
  refine g_nmi h (fun v1 h => ?_)
  refine g_istore_n (pn := 7) (lv' := [(3, .int v1), (0, .ref (X.2.2.2.1 13)), (1, .int a1), (2, .int a2)]) K rfl dX6_tokenOf_6 rfl (Nat.le_of_ble_eq_true rfl) rfl ?_
  refine g_iload_n (pn := 8) K rfl 0 rfl dX6_tokenOf_7 ?_
  obtain ⟨v3, hc2, h⟩ := ob_e h
  refine g_callS1 (pn := 11) (As := [.int v1]) (rest := []) K rfl (d' := 0) (Nat.le_of_ble_eq_true rfl) ms_X6_46 (w_f_Tape_isDigit hc2) rfl rfl (Nat.le_of_ble_eq_true rfl) dX6_tokenOf_8 ?_
  refine g_ifB_eq (tgt := 29) (pn := 14) K rfl (by decide) dX6_tokenOf_11 h (fun h => ?_) (fun h => ?_)
  · refine g_iload_n (pn := 30) K rfl 0 rfl dX6_tokenOf_29 ?_
    obtain ⟨v5, hc4, h⟩ := ob_e h
    refine g_callS1 (pn := 33) (As := [.int v1]) (rest := []) K rfl (d' := 0) (Nat.le_of_ble_eq_true rfl) ms_X6_42 (w_f_Tape_isLetter hc4) rfl rfl (Nat.le_of_ble_eq_true rfl) dX6_tokenOf_30 ?_
    refine g_ifB_ne (tgt := 53) (pn := 36) K rfl (by decide) dX6_tokenOf_33 h (fun h => ?_) (fun h => ?_)
    · refine g_iconst (pn := 54) (v := 1) K rfl ic_1 dX6_tokenOf_53 ?_
      refine g_istore (pn := 56) (lv' := [(4, .int 1), (3, .int v1), (0, .ref (X.2.2.2.1 13)), (1, .int a1), (2, .int a2)]) K rfl dX6_tokenOf_54 (Nat.le_of_ble_eq_true rfl) rfl ?_
      refine jp_e1 h (fun u6 => G layX X Γ 5 (QM layX X Γ (some (.int r)) M) 86 [] [] M) (fun u6 h => ?_) (fun j7 hj7 h => ?_)
      · refine g_bipush (pn := 88) (v := 15) K rfl bp_15 dX6_tokenOf_86 ?_
        exact g_iret K dX6_tokenOf_88 (oi h) rfl
      have LP56 : ∀ (fu9 : Nat) (v8 : Int32), f_Tape_tokenOf_L56 M a1 a2 j7 fu9 v8 = some r → G layX X Γ 5 (QM layX X Γ (some (.int r)) M) 56 [(0, .ref (X.2.2.2.1 13)), (1, .int a1), (2, .int a2), (4, .int v8)] [] M := by
        intro fu9
        induction fu9 with
        | zero =>
          intro v8 h
          rw [f_Tape_tokenOf_L56] at h
          cases h
        | succ fu9 ih9 =>
          intro v8 h
          rw [f_Tape_tokenOf_L56] at h
          refine g_iload (pn := 58) K rfl 3 rfl dX6_tokenOf_56 ?_
          refine g_bipush (pn := 60) (v := 12) K rfl bp_12 dX6_tokenOf_58 ?_
          refine g_icmp_gt (tgt := 86) (pn := 63) K rfl (by decide) dX6_tokenOf_60 h (fun h => ?_) (fun h => ?_)
          · refine g_sub [] rfl ?_
            exact hj7 _ h
          · refine g_aload_n (pn := 64) K rfl 0 rfl dX6_tokenOf_63 ?_
            refine g_iload (pn := 66) K rfl 3 rfl dX6_tokenOf_64 ?_
            obtain ⟨v11, hc10, h⟩ := ob_e h
            refine g_callS1 (pn := 69) (As := [.int v8]) (rest := [.ref (X.2.2.2.1 13)]) K rfl (d' := 0) (Nat.le_of_ble_eq_true rfl) ms_X6_56 (w_f_Tape_wordOf hc10) rfl rfl (Nat.le_of_ble_eq_true rfl) dX6_tokenOf_66 ?_
            refine g_iload_n (pn := 70) K rfl 1 rfl dX6_tokenOf_69 ?_
            refine g_iload_n (pn := 71) K rfl 2 rfl dX6_tokenOf_70 ?_
            obtain ⟨v13, hc12, h⟩ := ob_e h
            refine g_callV1 (pn := 74) (As := [.ref (X.2.2.2.1 (2000 + v11)), .int a1, .int a2]) (rest := []) (a := 13) K rfl (d' := 4) (Nat.le_of_ble_eq_true rfl) mv_X6_60 (recvO K lx_13 rfl) (w_f_Tape_spells (wordOf_lt hc10) hc12) rfl rfl (Nat.le_of_ble_eq_true rfl) dX6_tokenOf_71 ?_
            refine g_ifB_eq (tgt := 80) (pn := 77) K rfl (by decide) dX6_tokenOf_74 h (fun h => ?_) (fun h => ?_)
            · obtain ⟨v14, ev14, h⟩ := bnd_e h
              refine g_iinc (pn := 83) (v := v14) (lv' := [(4, .int v14), (0, .ref (X.2.2.2.1 13)), (1, .int a1), (2, .int a2)]) K rfl 3 rfl ii_1 ev14 dX6_tokenOf_80 (Nat.le_of_ble_eq_true rfl) rfl ?_
              refine g_goto (tgt := 56) K (by decide) dX6_tokenOf_83 ?_
              refine g_sub [1, 2, 3, 0] rfl ?_
              exact ih9 _ h
            · refine g_iload (pn := 79) K rfl 3 rfl dX6_tokenOf_77 ?_
              exact g_iret K dX6_tokenOf_79 (oi h) rfl
      refine g_sub [2, 3, 4, 0] rfl ?_
      exact LP56 FU _ h
    · refine g_ldcS (pn := 38) (i := 1) (tx := "();+-*<=") K rfl rfl dX6_tokenOf_36 ?_
      refine g_iload_n (pn := 39) K rfl 0 rfl dX6_tokenOf_38 ?_
      refine g_i2c (pn := 40) K rfl dX6_tokenOf_39 ?_
      obtain ⟨v16, hc15, h⟩ := ob_e h
      refine g_callV1 (pn := 43) (As := [.int (v1.toUInt32 % 65536).toInt32]) (rest := []) (a := (2000 + 1)) K rfl (d' := 3) (Nat.le_of_ble_eq_true rfl) mv_X6_51 (recvS K (by decide)) (w_f_JS_indexOf1 (by decide) hc15) rfl rfl (Nat.le_of_ble_eq_true rfl) dX6_tokenOf_40 ?_
      refine g_if_lt (tgt := 50) (pn := 46) K rfl (by decide) dX6_tokenOf_43 h (fun h => ?_) (fun h => ?_)
      · refine g_bipush (pn := 52) (v := 15) K rfl bp_15 dX6_tokenOf_50 ?_
        exact g_iret K dX6_tokenOf_52 (oi h) rfl
      · refine g_iload_n (pn := 47) K rfl 0 rfl dX6_tokenOf_46 ?_
        refine g_goto (tgt := 52) K (by decide) dX6_tokenOf_47 ?_
        exact g_iret K dX6_tokenOf_52 (oi h) rfl
  · refine g_iload_n (pn := 15) K rfl 3 rfl dX6_tokenOf_14 ?_
    refine g_iload_n (pn := 16) K rfl 2 rfl dX6_tokenOf_15 ?_
    refine g_isub (pn := 17) K rfl dX6_tokenOf_16 ?_
    refine g_iconst (pn := 18) (v := 4) K rfl ic_4 dX6_tokenOf_17 ?_
    refine g_icmp_le (tgt := 26) (pn := 21) K rfl (by decide) dX6_tokenOf_18 h (fun h => ?_) (fun h => ?_)
    · refine g_bipush (pn := 28) (v := 13) K rfl bp_13 dX6_tokenOf_26 ?_
      exact g_iret K dX6_tokenOf_28 (oi h) rfl
    · refine g_bipush (pn := 23) (v := 15) K rfl bp_15 dX6_tokenOf_21 ?_
      refine g_goto (tgt := 28) K (by decide) dX6_tokenOf_23 ?_
      exact g_iret K dX6_tokenOf_28 (oi h) rfl
set_option maxHeartbeats 4000000 in
set_option maxRecDepth 20000 in
theorem w_f_Tape_cut {X : XT} {M : Mem}  {M' : Mem}   (h : f_Tape_cut M = some M') : CT layX X 6 yX6_cut cX6_cut 4 none [.ref (X.2.2.2.1 13)] M M' none := by
  refine CT.of rfl (Nat.le_of_ble_eq_true rfl) (lv := [(0, .ref (X.2.2.2.1 13))]) rfl (fun Γ K => ?_)
  have K : Kx layX X Γ RX6 cX6_cut 4 6 none := K
  unfold f_Tape_cut at h
  refine g_aload_n (pn := 1) K rfl 0 rfl dX6_cut_0 ?_
  refine g_iconst (pn := 2) (v := 0) K rfl ic_0 dX6_cut_1 ?_
  refine g_puti (pn := 5) K rfl fp_X6_28 lx_13 rfl dX6_cut_2 h (fun M1 h => ?_)
  refine g_iconst (pn := 6) (v := 0) K rfl ic_0 dX6_cut_5 ?_
  refine g_istore_n (pn := 7) (lv' := [(1, .int 0), (0, .ref (X.2.2.2.1 13))]) K rfl dX6_cut_6 rfl (Nat.le_of_ble_eq_true rfl) rfl ?_
  refine jp_e1 h (fun M2 => G layX X Γ 4 (QM layX X Γ none M') 134 [(0, .ref (X.2.2.2.1 13))] [] M2) (fun M2 h => ?_) (fun j3 hj3 h => ?_)
  · refine g_aload_n (pn := 135) K rfl 0 rfl dX6_cut_134 ?_
    refine g_getr (pn := 138) (j := 15) K rfl fl_X6_19 lx_13 rfl dX6_cut_135 ?_
    refine g_aload_n (pn := 139) K rfl 0 rfl dX6_cut_138 ?_
    refine g_geti (pn := 142) K rfl fl_X6_28 lx_13 rfl dX6_cut_139 ?_
    refine g_bipush (pn := 144) (v := 14) K rfl bp_14 dX6_cut_142 ?_
    refine g_iast (pn := 145) K rfl lx_15 dX6_cut_144 h (fun M4 h => ?_)
    refine g_aload_n (pn := 146) K rfl 0 rfl dX6_cut_145 ?_
    refine g_getr (pn := 149) (j := 16) K rfl fl_X6_22 lx_13 rfl dX6_cut_146 ?_
    refine g_aload_n (pn := 150) K rfl 0 rfl dX6_cut_149 ?_
    refine g_geti (pn := 153) K rfl fl_X6_28 lx_13 rfl dX6_cut_150 ?_
    refine g_aload_n (pn := 154) K rfl 0 rfl dX6_cut_153 ?_
    refine g_geti (pn := 157) K rfl fl_X6_15 lx_13 rfl dX6_cut_154 ?_
    refine g_iast (pn := 158) K rfl lx_16 dX6_cut_157 h (fun M5 h => ?_)
    exact g_vret K dX6_cut_158 (oi h)
  have LP7 : ∀ (fu8 : Nat) (v6 : Int32) (M7 : Mem), f_Tape_cut_L7 j3 fu8 v6 M7 = some M' → G layX X Γ 4 (QM layX X Γ none M') 7 [(0, .ref (X.2.2.2.1 13)), (1, .int v6)] [] M7 := by
    intro fu8
    induction fu8 with
    | zero =>
      intro v6 M7 h
      rw [f_Tape_cut_L7] at h
      cases h
    | succ fu8 ih8 =>
      intro v6 M7 h
      rw [f_Tape_cut_L7] at h
      refine g_iload_n (pn := 8) K rfl 1 rfl dX6_cut_7 ?_
      refine g_aload_n (pn := 9) K rfl 0 rfl dX6_cut_8 ?_
      refine g_geti (pn := 12) K rfl fl_X6_15 lx_13 rfl dX6_cut_9 ?_
      refine g_icmp_ge (tgt := 134) (pn := 15) K rfl (by decide) dX6_cut_12 h (fun h => ?_) (fun h => ?_)
      · refine g_sub [0] rfl ?_
        exact hj3 _ h
      · refine g_iload_n (pn := 16) K rfl 1 rfl dX6_cut_15 ?_
        refine g_sipush (pn := 19) (v := 160) K rfl sp_160 dX6_cut_16 ?_
        refine g_icmp_ge (tgt := 134) (pn := 22) K rfl (by decide) dX6_cut_19 h (fun h => ?_) (fun h => ?_)
        · refine g_sub [0] rfl ?_
          exact hj3 _ h
        · refine g_aload_n (pn := 23) K rfl 0 rfl dX6_cut_22 ?_
          refine g_geti (pn := 26) K rfl fl_X6_28 lx_13 rfl dX6_cut_23 ?_
          refine g_sipush (pn := 29) (v := 160) K rfl sp_160 dX6_cut_26 ?_
          refine g_icmp_ge (tgt := 134) (pn := 32) K rfl (by decide) dX6_cut_29 h (fun h => ?_) (fun h => ?_)
          · refine g_sub [0] rfl ?_
            exact hj3 _ h
          · refine g_aload_n (pn := 33) K rfl 0 rfl dX6_cut_32 ?_
            refine g_getr (pn := 36) (j := 14) K rfl fl_X6_9 lx_13 rfl dX6_cut_33 ?_
            refine g_iload_n (pn := 37) K rfl 1 rfl dX6_cut_36 ?_
            refine g_iald (pn := 38) K rfl lx_14 dX6_cut_37 h (fun h => ?_)
            refine g_nmi h (fun v9 h => ?_)
            refine g_istore_n (pn := 39) (lv' := [(2, .int v9), (0, .ref (X.2.2.2.1 13)), (1, .int v6)]) K rfl dX6_cut_38 rfl (Nat.le_of_ble_eq_true rfl) rfl ?_
            refine g_iload_n (pn := 40) K rfl 2 rfl dX6_cut_39 ?_
            refine g_iconst (pn := 41) (v := 1) K rfl ic_1 dX6_cut_40 ?_
            refine g_iadd (pn := 42) K rfl dX6_cut_41 ?_
            refine g_nmi h (fun v10 h => ?_)
            refine g_istore_n (pn := 43) (lv' := [(3, .int v10), (2, .int v9), (0, .ref (X.2.2.2.1 13)), (1, .int v6)]) K rfl dX6_cut_42 rfl (Nat.le_of_ble_eq_true rfl) rfl ?_
            refine g_iload_n (pn := 44) K rfl 1 rfl dX6_cut_43 ?_
            refine g_bipush (pn := 46) (v := 32) K rfl bp_32 dX6_cut_44 ?_
            refine jp_e2 h (fun v11 M12 => G layX X Γ 4 (QM layX X Γ none M') 129 [(0, .ref (X.2.2.2.1 13)), (3, .int v11)] [] M12) (fun v11 M12 h => ?_) (fun j13 hj13 h => ?_)
            · refine g_iload_n (pn := 130) K rfl 1 rfl dX6_cut_129 ?_
              refine g_istore_n (pn := 131) (lv' := [(1, .int v11), (0, .ref (X.2.2.2.1 13)), (3, .int v11)]) K rfl dX6_cut_130 rfl (Nat.le_of_ble_eq_true rfl) rfl ?_
              refine g_goto (tgt := 7) K (by decide) dX6_cut_131 ?_
              refine g_sub [1, 0] rfl ?_
              exact ih8 _ _ h
            refine g_icmp_eq (tgt := 129) (pn := 49) K rfl (by decide) dX6_cut_46 h (fun h => ?_) (fun h => ?_)
            · refine g_sub [2, 0] rfl ?_
              exact hj13 _ _ h
            · refine g_iload_n (pn := 50) K rfl 1 rfl dX6_cut_49 ?_
              refine g_bipush (pn := 52) (v := 10) K rfl bp_10 dX6_cut_50 ?_
              refine g_icmp_eq (tgt := 129) (pn := 55) K rfl (by decide) dX6_cut_52 h (fun h => ?_) (fun h => ?_)
              · refine g_sub [2, 0] rfl ?_
                exact hj13 _ _ h
              · refine g_aload_n (pn := 56) K rfl 2 rfl dX6_cut_55 ?_
                refine g_iload_n (pn := 57) K rfl 3 rfl dX6_cut_56 ?_
                obtain ⟨v15, hc14, h⟩ := ob_e h
                refine g_callV1 (pn := 60) (As := [.int v6]) (rest := []) (a := 13) K rfl (d' := 1) (Nat.le_of_ble_eq_true rfl) mv_X6_31 (recvO K lx_13 rfl) (w_f_Tape_endOf hc14) rfl rfl (Nat.le_of_ble_eq_true rfl) dX6_cut_57 ?_
                refine g_istore_n (pn := 61) (lv' := [(3, .int v15), (2, .int v9), (0, .ref (X.2.2.2.1 13)), (1, .int v6)]) K rfl dX6_cut_60 rfl (Nat.le_of_ble_eq_true rfl) rfl ?_
                refine g_aload_n (pn := 62) K rfl 2 rfl dX6_cut_61 ?_
                refine g_getr (pn := 65) (j := 15) K rfl fl_X6_19 lx_13 rfl dX6_cut_62 ?_
                refine g_aload_n (pn := 66) K rfl 2 rfl dX6_cut_65 ?_
                refine g_geti (pn := 69) K rfl fl_X6_28 lx_13 rfl dX6_cut_66 ?_
                refine g_aload_n (pn := 70) K rfl 2 rfl dX6_cut_69 ?_
                refine g_iload_n (pn := 71) K rfl 3 rfl dX6_cut_70 ?_
                refine g_iload_n (pn := 72) K rfl 0 rfl dX6_cut_71 ?_
                obtain ⟨v17, hc16, h⟩ := ob_e h
                refine g_callV1 (pn := 75) (As := [.int v6, .int v15]) (rest := [.int (M7 13 5), .ref (X.2.2.2.1 15)]) (a := 13) K rfl (d' := 5) (Nat.le_of_ble_eq_true rfl) mv_X6_35 (recvO K lx_13 rfl) (w_f_Tape_tokenOf hc16) rfl rfl (Nat.le_of_ble_eq_true rfl) dX6_cut_72 ?_
                refine g_iast (pn := 76) K rfl lx_15 dX6_cut_75 h (fun M18 h => ?_)
                refine g_aload_n (pn := 77) K rfl 2 rfl dX6_cut_76 ?_
                refine g_getr (pn := 80) (j := 16) K rfl fl_X6_22 lx_13 rfl dX6_cut_77 ?_
                refine g_aload_n (pn := 81) K rfl 2 rfl dX6_cut_80 ?_
                refine g_geti (pn := 84) K rfl fl_X6_28 lx_13 rfl dX6_cut_81 ?_
                refine g_iload_n (pn := 85) K rfl 3 rfl dX6_cut_84 ?_
                refine g_iast (pn := 86) K rfl lx_16 dX6_cut_85 h (fun M19 h => ?_)
                refine g_aload_n (pn := 87) K rfl 2 rfl dX6_cut_86 ?_
                refine g_getr (pn := 90) (j := 17) K rfl fl_X6_25 lx_13 rfl dX6_cut_87 ?_
                refine g_aload_n (pn := 91) K rfl 2 rfl dX6_cut_90 ?_
                refine g_geti (pn := 94) K rfl fl_X6_28 lx_13 rfl dX6_cut_91 ?_
                refine g_aload_n (pn := 95) K rfl 2 rfl dX6_cut_94 ?_
                refine g_getr (pn := 98) (j := 15) K rfl fl_X6_19 lx_13 rfl dX6_cut_95 ?_
                refine g_aload_n (pn := 99) K rfl 2 rfl dX6_cut_98 ?_
                refine g_geti (pn := 102) K rfl fl_X6_28 lx_13 rfl dX6_cut_99 ?_
                refine g_iald (pn := 103) K rfl lx_15 dX6_cut_102 h (fun h => ?_)
                refine g_bipush (pn := 105) (v := 13) K rfl bp_13 dX6_cut_103 ?_
                refine jp_e1 h (fun v20 => G layX X Γ 4 (QM layX X Γ none M') 118 [(3, .int v15), (0, .ref (X.2.2.2.1 13))] [.int v20, .int (M19 13 5), .ref (X.2.2.2.1 17)] M19) (fun v20 h => ?_) (fun j21 hj21 h => ?_)
                · refine g_iast (pn := 119) K rfl lx_17 dX6_cut_118 h (fun M22 h => ?_)
                  refine g_aload_n (pn := 120) K rfl 1 rfl dX6_cut_119 ?_
                  refine g_dup (pn := 121) K rfl rfl dX6_cut_120 ?_
                  refine g_geti (pn := 124) K rfl fl_X6_28 lx_13 rfl dX6_cut_121 ?_
                  refine g_iconst (pn := 125) (v := 1) K rfl ic_1 dX6_cut_124 ?_
                  refine g_iadd (pn := 126) K rfl dX6_cut_125 ?_
                  refine g_puti (pn := 129) K rfl fp_X6_28 lx_13 rfl dX6_cut_126 h (fun M23 h => ?_)
                  refine g_sub [1, 0] rfl ?_
                  exact hj13 _ _ h
                refine g_icmp_ne (tgt := 117) (pn := 108) K rfl (by decide) dX6_cut_105 h (fun h => ?_) (fun h => ?_)
                · refine g_iconst (pn := 118) (v := 0) K rfl ic_0 dX6_cut_117 ?_
                  refine g_sub [0, 2] rfl ?_
                  exact hj21 _ h
                · refine g_aload_n (pn := 109) K rfl 2 rfl dX6_cut_108 ?_
                  refine g_iload_n (pn := 110) K rfl 3 rfl dX6_cut_109 ?_
                  refine g_iload_n (pn := 111) K rfl 0 rfl dX6_cut_110 ?_
                  obtain ⟨v25, hc24, h⟩ := ob_e h
                  refine g_callV1 (pn := 114) (As := [.int v6, .int v15]) (rest := [.int (M19 13 5), .ref (X.2.2.2.1 17)]) (a := 13) K rfl (d' := 0) (Nat.le_of_ble_eq_true rfl) mv_X6_39 (recvO K lx_13 rfl) (w_f_Tape_numberOf hc24) rfl rfl (Nat.le_of_ble_eq_true rfl) dX6_cut_111 ?_
                  refine g_goto (tgt := 118) K (by decide) dX6_cut_114 ?_
                  refine g_sub [0, 2] rfl ?_
                  exact hj21 _ h
  refine g_sub [1, 0] rfl ?_
  exact LP7 FU _ _ h
