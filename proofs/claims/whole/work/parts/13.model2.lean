/-! printed by gen1.py -/
theorem dX9_triesFrom_0 : decode cX9_triesFrom 0 = .ok (.iload_n 1, 1) := by decide +kernel
theorem dX9_triesFrom_1 : decode cX9_triesFrom 1 = .ok (.aload_n 0, 1) := by decide +kernel
theorem dX9_triesFrom_2 : decode cX9_triesFrom 2 = .ok (.getfield 91, 3) := by decide +kernel
theorem dX9_triesFrom_5 : decode cX9_triesFrom 5 = .ok (.if_icmp .ne 106, 3) := by decide +kernel
theorem dX9_triesFrom_8 : decode cX9_triesFrom 8 = .ok (.aload_n 0, 1) := by decide +kernel
theorem dX9_triesFrom_9 : decode cX9_triesFrom 9 = .ok (.invokevirtual 283, 3) := by decide +kernel
theorem dX9_triesFrom_12 : decode cX9_triesFrom 12 = .ok (.aload_n 0, 1) := by decide +kernel
theorem dX9_triesFrom_13 : decode cX9_triesFrom 13 = .ok (.getfield 309, 3) := by decide +kernel
theorem dX9_triesFrom_16 : decode cX9_triesFrom 16 = .ok (.iconst (-1), 1) := by decide +kernel
theorem dX9_triesFrom_17 : decode cX9_triesFrom 17 = .ok (.if_icmp .eq 36, 3) := by decide +kernel
theorem dX9_triesFrom_20 : decode cX9_triesFrom 20 = .ok (.aload_n 0, 1) := by decide +kernel
theorem dX9_triesFrom_21 : decode cX9_triesFrom 21 = .ok (.getfield 258, 3) := by decide +kernel
theorem dX9_triesFrom_24 : decode cX9_triesFrom 24 = .ok (.aload_n 0, 1) := by decide +kernel
theorem dX9_triesFrom_25 : decode cX9_triesFrom 25 = .ok (.getfield 312, 3) := by decide +kernel
theorem dX9_triesFrom_28 : decode cX9_triesFrom 28 = .ok (.if_icmp .lt 25, 3) := by decide +kernel
theorem dX9_triesFrom_31 : decode cX9_triesFrom 31 = .ok (.aload_n 0, 1) := by decide +kernel
theorem dX9_triesFrom_32 : decode cX9_triesFrom 32 = .ok (.getfield 258, 3) := by decide +kernel
theorem dX9_triesFrom_35 : decode cX9_triesFrom 35 = .ok (.aload_n 0, 1) := by decide +kernel
theorem dX9_triesFrom_36 : decode cX9_triesFrom 36 = .ok (.getfield 312, 3) := by decide +kernel
theorem dX9_triesFrom_39 : decode cX9_triesFrom 39 = .ok (.if_icmp .ne 71, 3) := by decide +kernel
theorem dX9_triesFrom_42 : decode cX9_triesFrom 42 = .ok (.aload_n 0, 1) := by decide +kernel
theorem dX9_triesFrom_43 : decode cX9_triesFrom 43 = .ok (.getfield 255, 3) := by decide +kernel
theorem dX9_triesFrom_46 : decode cX9_triesFrom 46 = .ok (.aload_n 0, 1) := by decide +kernel
theorem dX9_triesFrom_47 : decode cX9_triesFrom 47 = .ok (.getfield 315, 3) := by decide +kernel
theorem dX9_triesFrom_50 : decode cX9_triesFrom 50 = .ok (.if_icmp .ge 60, 3) := by decide +kernel
theorem dX9_triesFrom_53 : decode cX9_triesFrom 53 = .ok (.aload_n 0, 1) := by decide +kernel
theorem dX9_triesFrom_54 : decode cX9_triesFrom 54 = .ok (.aload_n 0, 1) := by decide +kernel
theorem dX9_triesFrom_55 : decode cX9_triesFrom 55 = .ok (.getfield 258, 3) := by decide +kernel
theorem dX9_triesFrom_58 : decode cX9_triesFrom 58 = .ok (.putfield 312, 3) := by decide +kernel
theorem dX9_triesFrom_61 : decode cX9_triesFrom 61 = .ok (.aload_n 0, 1) := by decide +kernel
theorem dX9_triesFrom_62 : decode cX9_triesFrom 62 = .ok (.aload_n 0, 1) := by decide +kernel
theorem dX9_triesFrom_63 : decode cX9_triesFrom 63 = .ok (.getfield 255, 3) := by decide +kernel
theorem dX9_triesFrom_66 : decode cX9_triesFrom 66 = .ok (.putfield 315, 3) := by decide +kernel
theorem dX9_triesFrom_69 : decode cX9_triesFrom 69 = .ok (.aload_n 0, 1) := by decide +kernel
theorem dX9_triesFrom_70 : decode cX9_triesFrom 70 = .ok (.iconst 0, 1) := by decide +kernel
theorem dX9_triesFrom_71 : decode cX9_triesFrom 71 = .ok (.putfield 309, 3) := by decide +kernel
theorem dX9_triesFrom_74 : decode cX9_triesFrom 74 = .ok (.iconst 0, 1) := by decide +kernel
theorem dX9_triesFrom_75 : decode cX9_triesFrom 75 = .ok (.istore_n 3, 1) := by decide +kernel
theorem dX9_triesFrom_76 : decode cX9_triesFrom 76 = .ok (.iload_n 3, 1) := by decide +kernel
theorem dX9_triesFrom_77 : decode cX9_triesFrom 77 = .ok (.aload_n 0, 1) := by decide +kernel
theorem dX9_triesFrom_78 : decode cX9_triesFrom 78 = .ok (.getfield 91, 3) := by decide +kernel
theorem dX9_triesFrom_81 : decode cX9_triesFrom 81 = .ok (.if_icmp .ge 29, 3) := by decide +kernel
theorem dX9_triesFrom_84 : decode cX9_triesFrom 84 = .ok (.aload_n 0, 1) := by decide +kernel
theorem dX9_triesFrom_85 : decode cX9_triesFrom 85 = .ok (.bipush 10, 2) := by decide +kernel
theorem dX9_triesFrom_87 : decode cX9_triesFrom 87 = .ok (.aload_n 0, 1) := by decide +kernel
theorem dX9_triesFrom_88 : decode cX9_triesFrom 88 = .ok (.getfield 309, 3) := by decide +kernel
theorem dX9_triesFrom_91 : decode cX9_triesFrom 91 = .ok (.imul, 1) := by decide +kernel
theorem dX9_triesFrom_92 : decode cX9_triesFrom 92 = .ok (.aload_n 0, 1) := by decide +kernel
theorem dX9_triesFrom_93 : decode cX9_triesFrom 93 = .ok (.getfield 38, 3) := by decide +kernel
theorem dX9_triesFrom_96 : decode cX9_triesFrom 96 = .ok (.iload_n 3, 1) := by decide +kernel
theorem dX9_triesFrom_97 : decode cX9_triesFrom 97 = .ok (.iaload, 1) := by decide +kernel
theorem dX9_triesFrom_98 : decode cX9_triesFrom 98 = .ok (.iadd, 1) := by decide +kernel
theorem dX9_triesFrom_99 : decode cX9_triesFrom 99 = .ok (.iconst 1, 1) := by decide +kernel
theorem dX9_triesFrom_100 : decode cX9_triesFrom 100 = .ok (.iadd, 1) := by decide +kernel
theorem dX9_triesFrom_101 : decode cX9_triesFrom 101 = .ok (.putfield 309, 3) := by decide +kernel
theorem dX9_triesFrom_104 : decode cX9_triesFrom 104 = .ok (.iinc 3 1, 3) := by decide +kernel
theorem dX9_triesFrom_107 : decode cX9_triesFrom 107 = .ok (.goto (-31), 3) := by decide +kernel
theorem dX9_triesFrom_110 : decode cX9_triesFrom 110 = .ok (.return_, 1) := by decide +kernel
theorem dX9_triesFrom_111 : decode cX9_triesFrom 111 = .ok (.iconst 0, 1) := by decide +kernel
theorem dX9_triesFrom_112 : decode cX9_triesFrom 112 = .ok (.istore_n 3, 1) := by decide +kernel
theorem dX9_triesFrom_113 : decode cX9_triesFrom 113 = .ok (.iload_n 3, 1) := by decide +kernel
theorem dX9_triesFrom_114 : decode cX9_triesFrom 114 = .ok (.aload_n 0, 1) := by decide +kernel
theorem dX9_triesFrom_115 : decode cX9_triesFrom 115 = .ok (.getfield 91, 3) := by decide +kernel
theorem dX9_triesFrom_118 : decode cX9_triesFrom 118 = .ok (.if_icmp .ge 36, 3) := by decide +kernel
theorem dX9_triesFrom_121 : decode cX9_triesFrom 121 = .ok (.iload_n 2, 1) := by decide +kernel
theorem dX9_triesFrom_122 : decode cX9_triesFrom 122 = .ok (.iload_n 3, 1) := by decide +kernel
theorem dX9_triesFrom_123 : decode cX9_triesFrom 123 = .ok (.ishr, 1) := by decide +kernel
theorem dX9_triesFrom_124 : decode cX9_triesFrom 124 = .ok (.iconst 1, 1) := by decide +kernel
theorem dX9_triesFrom_125 : decode cX9_triesFrom 125 = .ok (.iand, 1) := by decide +kernel
theorem dX9_triesFrom_126 : decode cX9_triesFrom 126 = .ok (.ifCond .ne 22, 3) := by decide +kernel
theorem dX9_triesFrom_129 : decode cX9_triesFrom 129 = .ok (.aload_n 0, 1) := by decide +kernel
theorem dX9_triesFrom_130 : decode cX9_triesFrom 130 = .ok (.getfield 38, 3) := by decide +kernel
theorem dX9_triesFrom_133 : decode cX9_triesFrom 133 = .ok (.iload_n 1, 1) := by decide +kernel
theorem dX9_triesFrom_134 : decode cX9_triesFrom 134 = .ok (.iload_n 3, 1) := by decide +kernel
theorem dX9_triesFrom_135 : decode cX9_triesFrom 135 = .ok (.iastore, 1) := by decide +kernel
theorem dX9_triesFrom_136 : decode cX9_triesFrom 136 = .ok (.aload_n 0, 1) := by decide +kernel
theorem dX9_triesFrom_137 : decode cX9_triesFrom 137 = .ok (.iload_n 1, 1) := by decide +kernel
theorem dX9_triesFrom_138 : decode cX9_triesFrom 138 = .ok (.iconst 1, 1) := by decide +kernel
theorem dX9_triesFrom_139 : decode cX9_triesFrom 139 = .ok (.iadd, 1) := by decide +kernel
theorem dX9_triesFrom_140 : decode cX9_triesFrom 140 = .ok (.iload_n 2, 1) := by decide +kernel
theorem dX9_triesFrom_141 : decode cX9_triesFrom 141 = .ok (.iconst 1, 1) := by decide +kernel
theorem dX9_triesFrom_142 : decode cX9_triesFrom 142 = .ok (.iload_n 3, 1) := by decide +kernel
theorem dX9_triesFrom_143 : decode cX9_triesFrom 143 = .ok (.ishl, 1) := by decide +kernel
theorem dX9_triesFrom_144 : decode cX9_triesFrom 144 = .ok (.ior, 1) := by decide +kernel
theorem dX9_triesFrom_145 : decode cX9_triesFrom 145 = .ok (.invokevirtual 318, 3) := by decide +kernel
theorem dX9_triesFrom_148 : decode cX9_triesFrom 148 = .ok (.iinc 3 1, 3) := by decide +kernel
theorem dX9_triesFrom_151 : decode cX9_triesFrom 151 = .ok (.goto (-38), 3) := by decide +kernel
theorem dX9_triesFrom_154 : decode cX9_triesFrom 154 = .ok (.return_, 1) := by decide +kernel
theorem dX9_best_0 : decode cX9_best 0 = .ok (.iload_n 1, 1) := by decide +kernel
theorem dX9_best_1 : decode cX9_best 1 = .ok (.i2l, 1) := by decide +kernel
theorem dX9_best_2 : decode cX9_best 2 = .ok (.lconst 0, 1) := by decide +kernel
theorem dX9_best_3 : decode cX9_best 3 = .ok (.ldc2_w 322, 3) := by decide +kernel
theorem dX9_best_6 : decode cX9_best 6 = .ok (.invokestatic 94, 3) := by decide +kernel
theorem dX9_best_9 : decode cX9_best 9 = .ok (.ifCond .ne 6, 3) := by decide +kernel
theorem dX9_best_12 : decode cX9_best 12 = .ok (.bipush (-2), 2) := by decide +kernel
theorem dX9_best_14 : decode cX9_best 14 = .ok (.ireturn, 1) := by decide +kernel
theorem dX9_best_15 : decode cX9_best 15 = .ok (.aload_n 0, 1) := by decide +kernel
theorem dX9_best_16 : decode cX9_best 16 = .ok (.invokevirtual 280, 3) := by decide +kernel
theorem dX9_best_19 : decode cX9_best 19 = .ok (.aload_n 0, 1) := by decide +kernel
theorem dX9_best_20 : decode cX9_best 20 = .ok (.aload_n 0, 1) := by decide +kernel
theorem dX9_best_21 : decode cX9_best 21 = .ok (.getfield 91, 3) := by decide +kernel
theorem dX9_best_24 : decode cX9_best 24 = .ok (.putfield 267, 3) := by decide +kernel
theorem dX9_best_27 : decode cX9_best 27 = .ok (.aload_n 0, 1) := by decide +kernel
theorem dX9_best_28 : decode cX9_best 28 = .ok (.iconst (-1), 1) := by decide +kernel
theorem dX9_best_29 : decode cX9_best 29 = .ok (.putfield 309, 3) := by decide +kernel
theorem dX9_best_32 : decode cX9_best 32 = .ok (.aload_n 0, 1) := by decide +kernel
theorem dX9_best_33 : decode cX9_best 33 = .ok (.iconst 0, 1) := by decide +kernel
theorem dX9_best_34 : decode cX9_best 34 = .ok (.iconst 0, 1) := by decide +kernel
theorem dX9_best_35 : decode cX9_best 35 = .ok (.invokevirtual 318, 3) := by decide +kernel
theorem dX9_best_38 : decode cX9_best 38 = .ok (.iload_n 1, 1) := by decide +kernel
theorem dX9_best_39 : decode cX9_best 39 = .ok (.ifCond .ne 10, 3) := by decide +kernel
theorem dX9_best_42 : decode cX9_best 42 = .ok (.aload_n 0, 1) := by decide +kernel
theorem dX9_best_43 : decode cX9_best 43 = .ok (.getfield 312, 3) := by decide +kernel
theorem dX9_best_46 : decode cX9_best 46 = .ok (.goto 19, 3) := by decide +kernel
theorem dX9_best_49 : decode cX9_best 49 = .ok (.iload_n 1, 1) := by decide +kernel
theorem dX9_best_50 : decode cX9_best 50 = .ok (.iconst 1, 1) := by decide +kernel
theorem dX9_best_51 : decode cX9_best 51 = .ok (.if_icmp .ne 10, 3) := by decide +kernel
theorem dX9_best_54 : decode cX9_best 54 = .ok (.aload_n 0, 1) := by decide +kernel
theorem dX9_best_55 : decode cX9_best 55 = .ok (.getfield 315, 3) := by decide +kernel
theorem dX9_best_58 : decode cX9_best 58 = .ok (.goto 7, 3) := by decide +kernel
theorem dX9_best_61 : decode cX9_best 61 = .ok (.aload_n 0, 1) := by decide +kernel
theorem dX9_best_62 : decode cX9_best 62 = .ok (.getfield 309, 3) := by decide +kernel
theorem dX9_best_65 : decode cX9_best 65 = .ok (.ireturn, 1) := by decide +kernel
theorem dX9_good_0 : decode cX9_good 0 = .ok (.iload_n 1, 1) := by decide +kernel
theorem dX9_good_1 : decode cX9_good 1 = .ok (.i2l, 1) := by decide +kernel
theorem dX9_good_2 : decode cX9_good 2 = .ok (.lconst 0, 1) := by decide +kernel
theorem dX9_good_3 : decode cX9_good 3 = .ok (.lconst 1, 1) := by decide +kernel
theorem dX9_good_4 : decode cX9_good 4 = .ok (.invokestatic 94, 3) := by decide +kernel
theorem dX9_good_7 : decode cX9_good 7 = .ok (.ifCond .eq 15, 3) := by decide +kernel
theorem dX9_good_10 : decode cX9_good 10 = .ok (.iload_n 2, 1) := by decide +kernel
theorem dX9_good_11 : decode cX9_good 11 = .ok (.i2l, 1) := by decide +kernel
theorem dX9_good_12 : decode cX9_good 12 = .ok (.lconst 0, 1) := by decide +kernel
theorem dX9_good_13 : decode cX9_good 13 = .ok (.ldc2_w 322, 3) := by decide +kernel
theorem dX9_good_16 : decode cX9_good 16 = .ok (.invokestatic 94, 3) := by decide +kernel
theorem dX9_good_19 : decode cX9_good 19 = .ok (.ifCond .ne 6, 3) := by decide +kernel
theorem dX9_good_22 : decode cX9_good 22 = .ok (.bipush (-2), 2) := by decide +kernel
theorem dX9_good_24 : decode cX9_good 24 = .ok (.ireturn, 1) := by decide +kernel
theorem dX9_good_25 : decode cX9_good 25 = .ok (.aload_n 0, 1) := by decide +kernel
theorem dX9_good_26 : decode cX9_good 26 = .ok (.getfield 23, 3) := by decide +kernel
theorem dX9_good_29 : decode cX9_good 29 = .ok (.iconst 4, 1) := by decide +kernel
theorem dX9_good_30 : decode cX9_good 30 = .ok (.iload_n 1, 1) := by decide +kernel
theorem dX9_good_31 : decode cX9_good 31 = .ok (.iadd, 1) := by decide +kernel
theorem dX9_good_32 : decode cX9_good 32 = .ok (.iaload, 1) := by decide +kernel
theorem dX9_good_33 : decode cX9_good 33 = .ok (.istore_n 3, 1) := by decide +kernel
theorem dX9_good_34 : decode cX9_good 34 = .ok (.iconst (-1), 1) := by decide +kernel
theorem dX9_good_35 : decode cX9_good 35 = .ok (.istore 4, 2) := by decide +kernel
theorem dX9_good_37 : decode cX9_good 37 = .ok (.iconst 0, 1) := by decide +kernel
theorem dX9_good_38 : decode cX9_good 38 = .ok (.istore 5, 2) := by decide +kernel
theorem dX9_good_40 : decode cX9_good 40 = .ok (.iconst 0, 1) := by decide +kernel
theorem dX9_good_41 : decode cX9_good 41 = .ok (.istore 6, 2) := by decide +kernel
theorem dX9_good_43 : decode cX9_good 43 = .ok (.iconst 0, 1) := by decide +kernel
theorem dX9_good_44 : decode cX9_good 44 = .ok (.istore 7, 2) := by decide +kernel
theorem dX9_good_46 : decode cX9_good 46 = .ok (.iload 7, 2) := by decide +kernel
theorem dX9_good_48 : decode cX9_good 48 = .ok (.iload_n 1, 1) := by decide +kernel
theorem dX9_good_49 : decode cX9_good 49 = .ok (.ifCond .ne 8, 3) := by decide +kernel
theorem dX9_good_52 : decode cX9_good 52 = .ok (.bipush 60, 2) := by decide +kernel
theorem dX9_good_54 : decode cX9_good 54 = .ok (.goto 5, 3) := by decide +kernel
theorem dX9_good_57 : decode cX9_good 57 = .ok (.bipush 20, 2) := by decide +kernel
theorem dX9_good_59 : decode cX9_good 59 = .ok (.if_icmp .gt 76, 3) := by decide +kernel
theorem dX9_good_62 : decode cX9_good 62 = .ok (.aload_n 0, 1) := by decide +kernel
theorem dX9_good_63 : decode cX9_good 63 = .ok (.getfield 23, 3) := by decide +kernel
theorem dX9_good_66 : decode cX9_good 66 = .ok (.iconst 4, 1) := by decide +kernel
theorem dX9_good_67 : decode cX9_good 67 = .ok (.iload_n 1, 1) := by decide +kernel
theorem dX9_good_68 : decode cX9_good 68 = .ok (.iadd, 1) := by decide +kernel
theorem dX9_good_69 : decode cX9_good 69 = .ok (.iload 7, 2) := by decide +kernel
theorem dX9_good_71 : decode cX9_good 71 = .ok (.iastore, 1) := by decide +kernel
theorem dX9_good_72 : decode cX9_good 72 = .ok (.aload_n 0, 1) := by decide +kernel
theorem dX9_good_73 : decode cX9_good 73 = .ok (.aload_n 0, 1) := by decide +kernel
theorem dX9_good_74 : decode cX9_good 74 = .ok (.getfield 91, 3) := by decide +kernel
theorem dX9_good_77 : decode cX9_good 77 = .ok (.invokevirtual 297, 3) := by decide +kernel
theorem dX9_good_80 : decode cX9_good 80 = .ok (.iload 4, 2) := by decide +kernel
theorem dX9_good_82 : decode cX9_good 82 = .ok (.iconst (-1), 1) := by decide +kernel
theorem dX9_good_83 : decode cX9_good 83 = .ok (.if_icmp .eq 30, 3) := by decide +kernel
theorem dX9_good_86 : decode cX9_good 86 = .ok (.aload_n 0, 1) := by decide +kernel
theorem dX9_good_87 : decode cX9_good 87 = .ok (.getfield 258, 3) := by decide +kernel
theorem dX9_good_90 : decode cX9_good 90 = .ok (.iload 5, 2) := by decide +kernel
theorem dX9_good_92 : decode cX9_good 92 = .ok (.if_icmp .lt 21, 3) := by decide +kernel
theorem dX9_good_95 : decode cX9_good 95 = .ok (.aload_n 0, 1) := by decide +kernel
theorem dX9_good_96 : decode cX9_good 96 = .ok (.getfield 258, 3) := by decide +kernel
theorem dX9_good_99 : decode cX9_good 99 = .ok (.iload 5, 2) := by decide +kernel
theorem dX9_good_101 : decode cX9_good 101 = .ok (.if_icmp .ne 28, 3) := by decide +kernel
theorem dX9_good_104 : decode cX9_good 104 = .ok (.aload_n 0, 1) := by decide +kernel
theorem dX9_good_105 : decode cX9_good 105 = .ok (.getfield 255, 3) := by decide +kernel
theorem dX9_good_108 : decode cX9_good 108 = .ok (.iload 6, 2) := by decide +kernel
theorem dX9_good_110 : decode cX9_good 110 = .ok (.if_icmp .ge 19, 3) := by decide +kernel
theorem dX9_good_113 : decode cX9_good 113 = .ok (.iload 7, 2) := by decide +kernel
theorem dX9_good_115 : decode cX9_good 115 = .ok (.istore 4, 2) := by decide +kernel
theorem dX9_good_117 : decode cX9_good 117 = .ok (.aload_n 0, 1) := by decide +kernel
theorem dX9_good_118 : decode cX9_good 118 = .ok (.getfield 258, 3) := by decide +kernel
theorem dX9_good_121 : decode cX9_good 121 = .ok (.istore 5, 2) := by decide +kernel
theorem dX9_good_123 : decode cX9_good 123 = .ok (.aload_n 0, 1) := by decide +kernel
theorem dX9_good_124 : decode cX9_good 124 = .ok (.getfield 255, 3) := by decide +kernel
theorem dX9_good_127 : decode cX9_good 127 = .ok (.istore 6, 2) := by decide +kernel
theorem dX9_good_129 : decode cX9_good 129 = .ok (.iinc 7 1, 3) := by decide +kernel
theorem dX9_good_132 : decode cX9_good 132 = .ok (.goto (-86), 3) := by decide +kernel
theorem dX9_good_135 : decode cX9_good 135 = .ok (.aload_n 0, 1) := by decide +kernel
theorem dX9_good_136 : decode cX9_good 136 = .ok (.getfield 23, 3) := by decide +kernel
theorem dX9_good_139 : decode cX9_good 139 = .ok (.iconst 4, 1) := by decide +kernel
theorem dX9_good_140 : decode cX9_good 140 = .ok (.iload_n 1, 1) := by decide +kernel
theorem dX9_good_141 : decode cX9_good 141 = .ok (.iadd, 1) := by decide +kernel
theorem dX9_good_142 : decode cX9_good 142 = .ok (.iload_n 3, 1) := by decide +kernel
theorem dX9_good_143 : decode cX9_good 143 = .ok (.iastore, 1) := by decide +kernel
theorem dX9_good_144 : decode cX9_good 144 = .ok (.iload_n 2, 1) := by decide +kernel
theorem dX9_good_145 : decode cX9_good 145 = .ok (.ifCond .ne 8, 3) := by decide +kernel
theorem dX9_good_148 : decode cX9_good 148 = .ok (.iload 4, 2) := by decide +kernel
theorem dX9_good_150 : decode cX9_good 150 = .ok (.goto 15, 3) := by decide +kernel
theorem dX9_good_153 : decode cX9_good 153 = .ok (.iload_n 2, 1) := by decide +kernel
theorem dX9_good_154 : decode cX9_good 154 = .ok (.iconst 1, 1) := by decide +kernel
theorem dX9_good_155 : decode cX9_good 155 = .ok (.if_icmp .ne 8, 3) := by decide +kernel
theorem dX9_good_158 : decode cX9_good 158 = .ok (.iload 5, 2) := by decide +kernel
theorem dX9_good_160 : decode cX9_good 160 = .ok (.goto 5, 3) := by decide +kernel
theorem dX9_good_163 : decode cX9_good 163 = .ok (.iload 6, 2) := by decide +kernel
theorem dX9_good_165 : decode cX9_good 165 = .ok (.ireturn, 1) := by decide +kernel
theorem dX9_wet_0 : decode cX9_wet 0 = .ok (.iconst 0, 1) := by decide +kernel
theorem dX9_wet_1 : decode cX9_wet 1 = .ok (.istore_n 2, 1) := by decide +kernel
theorem dX9_wet_2 : decode cX9_wet 2 = .ok (.iload_n 2, 1) := by decide +kernel
theorem dX9_wet_3 : decode cX9_wet 3 = .ok (.aload_n 0, 1) := by decide +kernel
theorem dX9_wet_4 : decode cX9_wet 4 = .ok (.getfield 91, 3) := by decide +kernel
theorem dX9_wet_7 : decode cX9_wet 7 = .ok (.if_icmp .ge 20, 3) := by decide +kernel
theorem dX9_wet_10 : decode cX9_wet 10 = .ok (.aload_n 0, 1) := by decide +kernel
theorem dX9_wet_11 : decode cX9_wet 11 = .ok (.getfield 35, 3) := by decide +kernel
theorem dX9_wet_14 : decode cX9_wet 14 = .ok (.iload_n 2, 1) := by decide +kernel
theorem dX9_wet_15 : decode cX9_wet 15 = .ok (.iload_n 1, 1) := by decide +kernel
theorem dX9_wet_16 : decode cX9_wet 16 = .ok (.iload_n 2, 1) := by decide +kernel
theorem dX9_wet_17 : decode cX9_wet 17 = .ok (.ishr, 1) := by decide +kernel
theorem dX9_wet_18 : decode cX9_wet 18 = .ok (.iconst 1, 1) := by decide +kernel
theorem dX9_wet_19 : decode cX9_wet 19 = .ok (.iand, 1) := by decide +kernel
theorem dX9_wet_20 : decode cX9_wet 20 = .ok (.iastore, 1) := by decide +kernel
theorem dX9_wet_21 : decode cX9_wet 21 = .ok (.iinc 2 1, 3) := by decide +kernel
theorem dX9_wet_24 : decode cX9_wet 24 = .ok (.goto (-22), 3) := by decide +kernel
theorem dX9_wet_27 : decode cX9_wet 27 = .ok (.return_, 1) := by decide +kernel
theorem dX9_wetting_0 : decode cX9_wetting 0 = .ok (.iload_n 1, 1) := by decide +kernel
theorem dX9_wetting_1 : decode cX9_wetting 1 = .ok (.i2l, 1) := by decide +kernel
theorem dX9_wetting_2 : decode cX9_wetting 2 = .ok (.lconst 0, 1) := by decide +kernel
theorem dX9_wetting_3 : decode cX9_wetting 3 = .ok (.ldc2_w 324, 3) := by decide +kernel
theorem dX9_wetting_6 : decode cX9_wetting 6 = .ok (.invokestatic 94, 3) := by decide +kernel
theorem dX9_wetting_9 : decode cX9_wetting 9 = .ok (.ifCond .eq 13, 3) := by decide +kernel
theorem dX9_wetting_12 : decode cX9_wetting 12 = .ok (.iload_n 2, 1) := by decide +kernel
theorem dX9_wetting_13 : decode cX9_wetting 13 = .ok (.i2l, 1) := by decide +kernel
theorem dX9_wetting_14 : decode cX9_wetting 14 = .ok (.lconst 0, 1) := by decide +kernel
theorem dX9_wetting_15 : decode cX9_wetting 15 = .ok (.lconst 1, 1) := by decide +kernel
theorem dX9_wetting_16 : decode cX9_wetting 16 = .ok (.invokestatic 94, 3) := by decide +kernel
theorem dX9_wetting_19 : decode cX9_wetting 19 = .ok (.ifCond .ne 6, 3) := by decide +kernel
theorem dX9_wetting_22 : decode cX9_wetting 22 = .ok (.bipush (-2), 2) := by decide +kernel
theorem dX9_wetting_24 : decode cX9_wetting 24 = .ok (.ireturn, 1) := by decide +kernel
theorem dX9_wetting_25 : decode cX9_wetting 25 = .ok (.iconst 0, 1) := by decide +kernel
theorem dX9_wetting_26 : decode cX9_wetting 26 = .ok (.istore_n 3, 1) := by decide +kernel
theorem dX9_wetting_27 : decode cX9_wetting 27 = .ok (.iconst 0, 1) := by decide +kernel
theorem dX9_wetting_28 : decode cX9_wetting 28 = .ok (.istore 4, 2) := by decide +kernel
theorem dX9_wetting_30 : decode cX9_wetting 30 = .ok (.iload 4, 2) := by decide +kernel
theorem dX9_wetting_32 : decode cX9_wetting 32 = .ok (.aload_n 0, 1) := by decide +kernel
theorem dX9_wetting_33 : decode cX9_wetting 33 = .ok (.getfield 91, 3) := by decide +kernel
theorem dX9_wetting_36 : decode cX9_wetting 36 = .ok (.if_icmp .ge 22, 3) := by decide +kernel
theorem dX9_wetting_39 : decode cX9_wetting 39 = .ok (.iload_n 3, 1) := by decide +kernel
theorem dX9_wetting_40 : decode cX9_wetting 40 = .ok (.aload_n 0, 1) := by decide +kernel
theorem dX9_wetting_41 : decode cX9_wetting 41 = .ok (.getfield 35, 3) := by decide +kernel
theorem dX9_wetting_44 : decode cX9_wetting 44 = .ok (.iload 4, 2) := by decide +kernel
theorem dX9_wetting_46 : decode cX9_wetting 46 = .ok (.iaload, 1) := by decide +kernel
theorem dX9_wetting_47 : decode cX9_wetting 47 = .ok (.iload 4, 2) := by decide +kernel
theorem dX9_wetting_49 : decode cX9_wetting 49 = .ok (.ishl, 1) := by decide +kernel
theorem dX9_wetting_50 : decode cX9_wetting 50 = .ok (.ior, 1) := by decide +kernel
theorem dX9_wetting_51 : decode cX9_wetting 51 = .ok (.istore_n 3, 1) := by decide +kernel
theorem dX9_wetting_52 : decode cX9_wetting 52 = .ok (.iinc 4 1, 3) := by decide +kernel
theorem dX9_wetting_55 : decode cX9_wetting 55 = .ok (.goto (-25), 3) := by decide +kernel
theorem dX9_wetting_58 : decode cX9_wetting 58 = .ok (.iconst (-1), 1) := by decide +kernel
theorem dX9_wetting_59 : decode cX9_wetting 59 = .ok (.istore 4, 2) := by decide +kernel
theorem dX9_wetting_61 : decode cX9_wetting 61 = .ok (.iconst 0, 1) := by decide +kernel
theorem dX9_wetting_62 : decode cX9_wetting 62 = .ok (.istore 5, 2) := by decide +kernel
theorem dX9_wetting_64 : decode cX9_wetting 64 = .ok (.iconst 0, 1) := by decide +kernel
theorem dX9_wetting_65 : decode cX9_wetting 65 = .ok (.istore 6, 2) := by decide +kernel
theorem dX9_wetting_67 : decode cX9_wetting 67 = .ok (.iload 6, 2) := by decide +kernel
theorem dX9_wetting_69 : decode cX9_wetting 69 = .ok (.iconst 1, 1) := by decide +kernel
theorem dX9_wetting_70 : decode cX9_wetting 70 = .ok (.aload_n 0, 1) := by decide +kernel
theorem dX9_wetting_71 : decode cX9_wetting 71 = .ok (.getfield 91, 3) := by decide +kernel
theorem dX9_wetting_74 : decode cX9_wetting 74 = .ok (.ishl, 1) := by decide +kernel
theorem dX9_wetting_75 : decode cX9_wetting 75 = .ok (.if_icmp .ge 58, 3) := by decide +kernel
theorem dX9_wetting_78 : decode cX9_wetting 78 = .ok (.aload_n 0, 1) := by decide +kernel
theorem dX9_wetting_79 : decode cX9_wetting 79 = .ok (.iload 6, 2) := by decide +kernel
theorem dX9_wetting_81 : decode cX9_wetting 81 = .ok (.invokevirtual 326, 3) := by decide +kernel
theorem dX9_wetting_84 : decode cX9_wetting 84 = .ok (.aload_n 0, 1) := by decide +kernel
theorem dX9_wetting_85 : decode cX9_wetting 85 = .ok (.aload_n 0, 1) := by decide +kernel
theorem dX9_wetting_86 : decode cX9_wetting 86 = .ok (.getfield 91, 3) := by decide +kernel
theorem dX9_wetting_89 : decode cX9_wetting 89 = .ok (.invokevirtual 297, 3) := by decide +kernel
theorem dX9_wetting_92 : decode cX9_wetting 92 = .ok (.aload_n 0, 1) := by decide +kernel
theorem dX9_wetting_93 : decode cX9_wetting 93 = .ok (.getfield 258, 3) := by decide +kernel
theorem dX9_wetting_96 : decode cX9_wetting 96 = .ok (.iload_n 1, 1) := by decide +kernel
theorem dX9_wetting_97 : decode cX9_wetting 97 = .ok (.iload 6, 2) := by decide +kernel
theorem dX9_wetting_99 : decode cX9_wetting 99 = .ok (.invokestatic 329, 3) := by decide +kernel
theorem dX9_wetting_102 : decode cX9_wetting 102 = .ok (.imul, 1) := by decide +kernel
theorem dX9_wetting_103 : decode cX9_wetting 103 = .ok (.iadd, 1) := by decide +kernel
theorem dX9_wetting_104 : decode cX9_wetting 104 = .ok (.istore 7, 2) := by decide +kernel
theorem dX9_wetting_106 : decode cX9_wetting 106 = .ok (.iload 4, 2) := by decide +kernel
theorem dX9_wetting_108 : decode cX9_wetting 108 = .ok (.iconst (-1), 1) := by decide +kernel
theorem dX9_wetting_109 : decode cX9_wetting 109 = .ok (.if_icmp .eq 10, 3) := by decide +kernel
theorem dX9_wetting_112 : decode cX9_wetting 112 = .ok (.iload 7, 2) := by decide +kernel
theorem dX9_wetting_114 : decode cX9_wetting 114 = .ok (.iload 5, 2) := by decide +kernel
theorem dX9_wetting_116 : decode cX9_wetting 116 = .ok (.if_icmp .ge 11, 3) := by decide +kernel
theorem dX9_wetting_119 : decode cX9_wetting 119 = .ok (.iload 6, 2) := by decide +kernel
theorem dX9_wetting_121 : decode cX9_wetting 121 = .ok (.istore 4, 2) := by decide +kernel
theorem dX9_wetting_123 : decode cX9_wetting 123 = .ok (.iload 7, 2) := by decide +kernel
theorem dX9_wetting_125 : decode cX9_wetting 125 = .ok (.istore 5, 2) := by decide +kernel
theorem dX9_wetting_127 : decode cX9_wetting 127 = .ok (.iinc 6 1, 3) := by decide +kernel
theorem dX9_wetting_130 : decode cX9_wetting 130 = .ok (.goto (-63), 3) := by decide +kernel
theorem dX9_wetting_133 : decode cX9_wetting 133 = .ok (.aload_n 0, 1) := by decide +kernel
theorem dX9_wetting_134 : decode cX9_wetting 134 = .ok (.iload_n 3, 1) := by decide +kernel
theorem dX9_wetting_135 : decode cX9_wetting 135 = .ok (.invokevirtual 326, 3) := by decide +kernel
theorem dX9_wetting_138 : decode cX9_wetting 138 = .ok (.iload_n 2, 1) := by decide +kernel
theorem dX9_wetting_139 : decode cX9_wetting 139 = .ok (.ifCond .ne 8, 3) := by decide +kernel
theorem dX9_wetting_142 : decode cX9_wetting 142 = .ok (.iload 4, 2) := by decide +kernel
theorem dX9_wetting_144 : decode cX9_wetting 144 = .ok (.goto 5, 3) := by decide +kernel
theorem dX9_wetting_147 : decode cX9_wetting 147 = .ok (.iload 5, 2) := by decide +kernel
theorem dX9_wetting_149 : decode cX9_wetting 149 = .ok (.ireturn, 1) := by decide +kernel
theorem dX9_alone_0 : decode cX9_alone 0 = .ok (.iconst 0, 1) := by decide +kernel
theorem dX9_alone_1 : decode cX9_alone 1 = .ok (.istore_n 1, 1) := by decide +kernel
theorem dX9_alone_2 : decode cX9_alone 2 = .ok (.iconst 1, 1) := by decide +kernel
theorem dX9_alone_3 : decode cX9_alone 3 = .ok (.istore_n 2, 1) := by decide +kernel
theorem dX9_alone_4 : decode cX9_alone 4 = .ok (.iload_n 2, 1) := by decide +kernel
theorem dX9_alone_5 : decode cX9_alone 5 = .ok (.aload_n 0, 1) := by decide +kernel
theorem dX9_alone_6 : decode cX9_alone 6 = .ok (.getfield 91, 3) := by decide +kernel
theorem dX9_alone_9 : decode cX9_alone 9 = .ok (.if_icmp .gt 27, 3) := by decide +kernel
theorem dX9_alone_12 : decode cX9_alone 12 = .ok (.aload_n 0, 1) := by decide +kernel
theorem dX9_alone_13 : decode cX9_alone 13 = .ok (.iload_n 2, 1) := by decide +kernel
theorem dX9_alone_14 : decode cX9_alone 14 = .ok (.invokevirtual 297, 3) := by decide +kernel
theorem dX9_alone_17 : decode cX9_alone 17 = .ok (.aload_n 0, 1) := by decide +kernel
theorem dX9_alone_18 : decode cX9_alone 18 = .ok (.getfield 258, 3) := by decide +kernel
theorem dX9_alone_21 : decode cX9_alone 21 = .ok (.ifCond .ne 7, 3) := by decide +kernel
theorem dX9_alone_24 : decode cX9_alone 24 = .ok (.iload_n 2, 1) := by decide +kernel
theorem dX9_alone_25 : decode cX9_alone 25 = .ok (.goto 4, 3) := by decide +kernel
theorem dX9_alone_28 : decode cX9_alone 28 = .ok (.iload_n 1, 1) := by decide +kernel
theorem dX9_alone_29 : decode cX9_alone 29 = .ok (.istore_n 1, 1) := by decide +kernel
theorem dX9_alone_30 : decode cX9_alone 30 = .ok (.iinc 2 1, 3) := by decide +kernel
theorem dX9_alone_33 : decode cX9_alone 33 = .ok (.goto (-29), 3) := by decide +kernel
theorem dX9_alone_36 : decode cX9_alone 36 = .ok (.iload_n 1, 1) := by decide +kernel
theorem dX9_alone_37 : decode cX9_alone 37 = .ok (.ireturn, 1) := by decide +kernel
theorem dX9_livesBy_0 : decode cX9_livesBy 0 = .ok (.aload_n 0, 1) := by decide +kernel
theorem dX9_livesBy_1 : decode cX9_livesBy 1 = .ok (.getfield 23, 3) := by decide +kernel
theorem dX9_livesBy_4 : decode cX9_livesBy 4 = .ok (.iload_n 1, 1) := by decide +kernel
theorem dX9_livesBy_5 : decode cX9_livesBy 5 = .ok (.iaload, 1) := by decide +kernel
theorem dX9_livesBy_6 : decode cX9_livesBy 6 = .ok (.istore_n 3, 1) := by decide +kernel
theorem dX9_livesBy_7 : decode cX9_livesBy 7 = .ok (.aload_n 0, 1) := by decide +kernel
theorem dX9_livesBy_8 : decode cX9_livesBy 8 = .ok (.getfield 23, 3) := by decide +kernel
theorem dX9_livesBy_11 : decode cX9_livesBy 11 = .ok (.iload_n 1, 1) := by decide +kernel
theorem dX9_livesBy_12 : decode cX9_livesBy 12 = .ok (.iload_n 2, 1) := by decide +kernel
theorem dX9_livesBy_13 : decode cX9_livesBy 13 = .ok (.iastore, 1) := by decide +kernel
theorem dX9_livesBy_14 : decode cX9_livesBy 14 = .ok (.aload_n 0, 1) := by decide +kernel
theorem dX9_livesBy_15 : decode cX9_livesBy 15 = .ok (.aload_n 0, 1) := by decide +kernel
theorem dX9_livesBy_16 : decode cX9_livesBy 16 = .ok (.getfield 91, 3) := by decide +kernel
theorem dX9_livesBy_19 : decode cX9_livesBy 19 = .ok (.invokevirtual 297, 3) := by decide +kernel
theorem dX9_livesBy_22 : decode cX9_livesBy 22 = .ok (.aload_n 0, 1) := by decide +kernel
theorem dX9_livesBy_23 : decode cX9_livesBy 23 = .ok (.getfield 23, 3) := by decide +kernel
theorem dX9_livesBy_26 : decode cX9_livesBy 26 = .ok (.iload_n 1, 1) := by decide +kernel
theorem dX9_livesBy_27 : decode cX9_livesBy 27 = .ok (.iload_n 3, 1) := by decide +kernel
theorem dX9_livesBy_28 : decode cX9_livesBy 28 = .ok (.iastore, 1) := by decide +kernel
theorem dX9_livesBy_29 : decode cX9_livesBy 29 = .ok (.return_, 1) := by decide +kernel
theorem dX9_tooWarm_0 : decode cX9_tooWarm 0 = .ok (.iconst (-1), 1) := by decide +kernel
theorem dX9_tooWarm_1 : decode cX9_tooWarm 1 = .ok (.istore_n 1, 1) := by decide +kernel
theorem dX9_tooWarm_2 : decode cX9_tooWarm 2 = .ok (.bipush 40, 2) := by decide +kernel
theorem dX9_tooWarm_4 : decode cX9_tooWarm 4 = .ok (.istore_n 2, 1) := by decide +kernel
theorem dX9_tooWarm_5 : decode cX9_tooWarm 5 = .ok (.iload_n 2, 1) := by decide +kernel
theorem dX9_tooWarm_6 : decode cX9_tooWarm 6 = .ok (.ifCond .lt 27, 3) := by decide +kernel
theorem dX9_tooWarm_9 : decode cX9_tooWarm 9 = .ok (.aload_n 0, 1) := by decide +kernel
theorem dX9_tooWarm_10 : decode cX9_tooWarm 10 = .ok (.iconst 0, 1) := by decide +kernel
theorem dX9_tooWarm_11 : decode cX9_tooWarm 11 = .ok (.iload_n 2, 1) := by decide +kernel
theorem dX9_tooWarm_12 : decode cX9_tooWarm 12 = .ok (.invokevirtual 332, 3) := by decide +kernel
theorem dX9_tooWarm_15 : decode cX9_tooWarm 15 = .ok (.aload_n 0, 1) := by decide +kernel
theorem dX9_tooWarm_16 : decode cX9_tooWarm 16 = .ok (.iconst 1, 1) := by decide +kernel
theorem dX9_tooWarm_17 : decode cX9_tooWarm 17 = .ok (.invokevirtual 290, 3) := by decide +kernel
theorem dX9_tooWarm_20 : decode cX9_tooWarm 20 = .ok (.ifCond .ne 5, 3) := by decide +kernel
theorem dX9_tooWarm_23 : decode cX9_tooWarm 23 = .ok (.iload_n 1, 1) := by decide +kernel
theorem dX9_tooWarm_24 : decode cX9_tooWarm 24 = .ok (.ireturn, 1) := by decide +kernel
theorem dX9_tooWarm_25 : decode cX9_tooWarm 25 = .ok (.iload_n 2, 1) := by decide +kernel
theorem dX9_tooWarm_26 : decode cX9_tooWarm 26 = .ok (.istore_n 1, 1) := by decide +kernel
theorem dX9_tooWarm_27 : decode cX9_tooWarm 27 = .ok (.iinc 2 (-1), 3) := by decide +kernel
theorem dX9_tooWarm_30 : decode cX9_tooWarm 30 = .ok (.goto (-25), 3) := by decide +kernel
theorem dX9_tooWarm_33 : decode cX9_tooWarm 33 = .ok (.iload_n 1, 1) := by decide +kernel
theorem dX9_tooWarm_34 : decode cX9_tooWarm 34 = .ok (.ireturn, 1) := by decide +kernel
theorem dX9_gains_0 : decode cX9_gains 0 = .ok (.iload_n 1, 1) := by decide +kernel
theorem dX9_gains_1 : decode cX9_gains 1 = .ok (.i2l, 1) := by decide +kernel
theorem dX9_gains_2 : decode cX9_gains 2 = .ok (.lconst 0, 1) := by decide +kernel
theorem dX9_gains_3 : decode cX9_gains 3 = .ok (.lconst 1, 1) := by decide +kernel
theorem dX9_gains_4 : decode cX9_gains 4 = .ok (.invokestatic 94, 3) := by decide +kernel
theorem dX9_gains_7 : decode cX9_gains 7 = .ok (.ifCond .ne 7, 3) := by decide +kernel
theorem dX9_gains_10 : decode cX9_gains 10 = .ok (.ldc_w 296, 3) := by decide +kernel
theorem dX9_gains_13 : decode cX9_gains 13 = .ok (.ireturn, 1) := by decide +kernel
theorem dX9_gains_14 : decode cX9_gains 14 = .ok (.aload_n 0, 1) := by decide +kernel
theorem dX9_gains_15 : decode cX9_gains 15 = .ok (.iload_n 1, 1) := by decide +kernel
theorem dX9_gains_16 : decode cX9_gains 16 = .ok (.ifCond .ne 7, 3) := by decide +kernel
theorem dX9_gains_19 : decode cX9_gains 19 = .ok (.iconst 2, 1) := by decide +kernel
theorem dX9_gains_20 : decode cX9_gains 20 = .ok (.goto 4, 3) := by decide +kernel
theorem dX9_gains_23 : decode cX9_gains 23 = .ok (.iconst 3, 1) := by decide +kernel
theorem dX9_gains_24 : decode cX9_gains 24 = .ok (.iload_n 1, 1) := by decide +kernel
theorem dX9_gains_25 : decode cX9_gains 25 = .ok (.ifCond .ne 8, 3) := by decide +kernel
theorem dX9_gains_28 : decode cX9_gains 28 = .ok (.bipush 9, 2) := by decide +kernel
theorem dX9_gains_30 : decode cX9_gains 30 = .ok (.goto 4, 3) := by decide +kernel
theorem dX9_gains_33 : decode cX9_gains 33 = .ok (.iconst 1, 1) := by decide +kernel
theorem dX9_gains_34 : decode cX9_gains 34 = .ok (.invokevirtual 332, 3) := by decide +kernel
theorem dX9_gains_37 : decode cX9_gains 37 = .ok (.iload_n 1, 1) := by decide +kernel
theorem dX9_gains_38 : decode cX9_gains 38 = .ok (.ifCond .ne 10, 3) := by decide +kernel
theorem dX9_gains_41 : decode cX9_gains 41 = .ok (.aload_n 0, 1) := by decide +kernel
theorem dX9_gains_42 : decode cX9_gains 42 = .ok (.getfield 258, 3) := by decide +kernel
theorem dX9_gains_45 : decode cX9_gains 45 = .ok (.goto 7, 3) := by decide +kernel
theorem dX9_gains_48 : decode cX9_gains 48 = .ok (.aload_n 0, 1) := by decide +kernel
theorem dX9_gains_49 : decode cX9_gains 49 = .ok (.getfield 255, 3) := by decide +kernel
theorem dX9_gains_52 : decode cX9_gains 52 = .ok (.istore_n 2, 1) := by decide +kernel
theorem dX9_gains_53 : decode cX9_gains 53 = .ok (.aload_n 0, 1) := by decide +kernel
theorem dX9_gains_54 : decode cX9_gains 54 = .ok (.iload_n 1, 1) := by decide +kernel
theorem dX9_gains_55 : decode cX9_gains 55 = .ok (.ifCond .ne 7, 3) := by decide +kernel
theorem dX9_gains_58 : decode cX9_gains 58 = .ok (.iconst 2, 1) := by decide +kernel
theorem dX9_gains_59 : decode cX9_gains 59 = .ok (.goto 4, 3) := by decide +kernel
theorem dX9_gains_62 : decode cX9_gains 62 = .ok (.iconst 3, 1) := by decide +kernel
theorem dX9_gains_63 : decode cX9_gains 63 = .ok (.iload_n 1, 1) := by decide +kernel
theorem dX9_gains_64 : decode cX9_gains 64 = .ok (.ifCond .ne 7, 3) := by decide +kernel
theorem dX9_gains_67 : decode cX9_gains 67 = .ok (.iconst 0, 1) := by decide +kernel
theorem dX9_gains_68 : decode cX9_gains 68 = .ok (.goto 4, 3) := by decide +kernel
theorem dX9_gains_71 : decode cX9_gains 71 = .ok (.iconst 2, 1) := by decide +kernel
theorem dX9_gains_72 : decode cX9_gains 72 = .ok (.invokevirtual 332, 3) := by decide +kernel
theorem dX9_gains_75 : decode cX9_gains 75 = .ok (.iload_n 2, 1) := by decide +kernel
theorem dX9_gains_76 : decode cX9_gains 76 = .ok (.iload_n 1, 1) := by decide +kernel
theorem dX9_gains_77 : decode cX9_gains 77 = .ok (.ifCond .ne 10, 3) := by decide +kernel
theorem dX9_gains_80 : decode cX9_gains 80 = .ok (.aload_n 0, 1) := by decide +kernel
theorem dX9_gains_81 : decode cX9_gains 81 = .ok (.getfield 258, 3) := by decide +kernel
theorem dX9_gains_84 : decode cX9_gains 84 = .ok (.goto 7, 3) := by decide +kernel
theorem dX9_gains_87 : decode cX9_gains 87 = .ok (.aload_n 0, 1) := by decide +kernel
theorem dX9_gains_88 : decode cX9_gains 88 = .ok (.getfield 255, 3) := by decide +kernel
theorem dX9_gains_91 : decode cX9_gains 91 = .ok (.isub, 1) := by decide +kernel
theorem dX9_gains_92 : decode cX9_gains 92 = .ok (.ireturn, 1) := by decide +kernel
theorem dX9_buckets_0 : decode cX9_buckets 0 = .ok (.iload_n 1, 1) := by decide +kernel
theorem dX9_buckets_1 : decode cX9_buckets 1 = .ok (.i2l, 1) := by decide +kernel
theorem dX9_buckets_2 : decode cX9_buckets 2 = .ok (.lconst 1, 1) := by decide +kernel
theorem dX9_buckets_3 : decode cX9_buckets 3 = .ok (.ldc2_w 335, 3) := by decide +kernel
theorem dX9_buckets_6 : decode cX9_buckets 6 = .ok (.invokestatic 94, 3) := by decide +kernel
theorem dX9_buckets_9 : decode cX9_buckets 9 = .ok (.ifCond .eq 13, 3) := by decide +kernel
theorem dX9_buckets_12 : decode cX9_buckets 12 = .ok (.iload_n 2, 1) := by decide +kernel
theorem dX9_buckets_13 : decode cX9_buckets 13 = .ok (.i2l, 1) := by decide +kernel
theorem dX9_buckets_14 : decode cX9_buckets 14 = .ok (.lconst 0, 1) := by decide +kernel
theorem dX9_buckets_15 : decode cX9_buckets 15 = .ok (.lconst 1, 1) := by decide +kernel
theorem dX9_buckets_16 : decode cX9_buckets 16 = .ok (.invokestatic 94, 3) := by decide +kernel
theorem dX9_buckets_19 : decode cX9_buckets 19 = .ok (.ifCond .ne 6, 3) := by decide +kernel
theorem dX9_buckets_22 : decode cX9_buckets 22 = .ok (.bipush (-2), 2) := by decide +kernel
theorem dX9_buckets_24 : decode cX9_buckets 24 = .ok (.ireturn, 1) := by decide +kernel
theorem dX9_buckets_25 : decode cX9_buckets 25 = .ok (.aload_n 0, 1) := by decide +kernel
theorem dX9_buckets_26 : decode cX9_buckets 26 = .ok (.aload_n 0, 1) := by decide +kernel
theorem dX9_buckets_27 : decode cX9_buckets 27 = .ok (.getfield 91, 3) := by decide +kernel
theorem dX9_buckets_30 : decode cX9_buckets 30 = .ok (.invokevirtual 297, 3) := by decide +kernel
theorem dX9_buckets_33 : decode cX9_buckets 33 = .ok (.iconst 0, 1) := by decide +kernel
theorem dX9_buckets_34 : decode cX9_buckets 34 = .ok (.istore_n 3, 1) := by decide +kernel
theorem dX9_buckets_35 : decode cX9_buckets 35 = .ok (.iconst 0, 1) := by decide +kernel
theorem dX9_buckets_36 : decode cX9_buckets 36 = .ok (.istore 4, 2) := by decide +kernel
theorem dX9_buckets_38 : decode cX9_buckets 38 = .ok (.iconst 0, 1) := by decide +kernel
theorem dX9_buckets_39 : decode cX9_buckets 39 = .ok (.istore 5, 2) := by decide +kernel
theorem dX9_buckets_41 : decode cX9_buckets 41 = .ok (.iconst 0, 1) := by decide +kernel
theorem dX9_buckets_42 : decode cX9_buckets 42 = .ok (.istore 6, 2) := by decide +kernel
theorem dX9_buckets_44 : decode cX9_buckets 44 = .ok (.iconst 0, 1) := by decide +kernel
theorem dX9_buckets_45 : decode cX9_buckets 45 = .ok (.istore 7, 2) := by decide +kernel
theorem dX9_buckets_47 : decode cX9_buckets 47 = .ok (.iload 7, 2) := by decide +kernel
theorem dX9_buckets_49 : decode cX9_buckets 49 = .ok (.aload_n 0, 1) := by decide +kernel
theorem dX9_buckets_50 : decode cX9_buckets 50 = .ok (.getfield 91, 3) := by decide +kernel
theorem dX9_buckets_53 : decode cX9_buckets 53 = .ok (.if_icmp .ge 114, 3) := by decide +kernel
theorem dX9_buckets_56 : decode cX9_buckets 56 = .ok (.aload_n 0, 1) := by decide +kernel
theorem dX9_buckets_57 : decode cX9_buckets 57 = .ok (.getfield 50, 3) := by decide +kernel
theorem dX9_buckets_60 : decode cX9_buckets 60 = .ok (.iload 7, 2) := by decide +kernel
theorem dX9_buckets_62 : decode cX9_buckets 62 = .ok (.iaload, 1) := by decide +kernel
theorem dX9_buckets_63 : decode cX9_buckets 63 = .ok (.iconst (-1), 1) := by decide +kernel
theorem dX9_buckets_64 : decode cX9_buckets 64 = .ok (.if_icmp .eq 97, 3) := by decide +kernel
theorem dX9_buckets_67 : decode cX9_buckets 67 = .ok (.iload_n 3, 1) := by decide +kernel
theorem dX9_buckets_68 : decode cX9_buckets 68 = .ok (.aload_n 0, 1) := by decide +kernel
theorem dX9_buckets_69 : decode cX9_buckets 69 = .ok (.getfield 32, 3) := by decide +kernel
theorem dX9_buckets_72 : decode cX9_buckets 72 = .ok (.iload 7, 2) := by decide +kernel
theorem dX9_buckets_74 : decode cX9_buckets 74 = .ok (.iaload, 1) := by decide +kernel
theorem dX9_buckets_75 : decode cX9_buckets 75 = .ok (.if_icmp .lt 36, 3) := by decide +kernel
theorem dX9_buckets_78 : decode cX9_buckets 78 = .ok (.aload_n 0, 1) := by decide +kernel
theorem dX9_buckets_79 : decode cX9_buckets 79 = .ok (.getfield 50, 3) := by decide +kernel
theorem dX9_buckets_82 : decode cX9_buckets 82 = .ok (.iload 7, 2) := by decide +kernel
theorem dX9_buckets_84 : decode cX9_buckets 84 = .ok (.iaload, 1) := by decide +kernel
theorem dX9_buckets_85 : decode cX9_buckets 85 = .ok (.iload 4, 2) := by decide +kernel
theorem dX9_buckets_87 : decode cX9_buckets 87 = .ok (.isub, 1) := by decide +kernel
theorem dX9_buckets_88 : decode cX9_buckets 88 = .ok (.aload_n 0, 1) := by decide +kernel
theorem dX9_buckets_89 : decode cX9_buckets 89 = .ok (.getfield 41, 3) := by decide +kernel
theorem dX9_buckets_92 : decode cX9_buckets 92 = .ok (.iload 7, 2) := by decide +kernel
theorem dX9_buckets_94 : decode cX9_buckets 94 = .ok (.iaload, 1) := by decide +kernel
theorem dX9_buckets_95 : decode cX9_buckets 95 = .ok (.if_icmp .gt 16, 3) := by decide +kernel
theorem dX9_buckets_98 : decode cX9_buckets 98 = .ok (.iload_n 3, 1) := by decide +kernel
theorem dX9_buckets_99 : decode cX9_buckets 99 = .ok (.aload_n 0, 1) := by decide +kernel
theorem dX9_buckets_100 : decode cX9_buckets 100 = .ok (.getfield 32, 3) := by decide +kernel
theorem dX9_buckets_103 : decode cX9_buckets 103 = .ok (.iload 7, 2) := by decide +kernel
theorem dX9_buckets_105 : decode cX9_buckets 105 = .ok (.iaload, 1) := by decide +kernel
theorem dX9_buckets_106 : decode cX9_buckets 106 = .ok (.isub, 1) := by decide +kernel
theorem dX9_buckets_107 : decode cX9_buckets 107 = .ok (.istore_n 3, 1) := by decide +kernel
theorem dX9_buckets_108 : decode cX9_buckets 108 = .ok (.goto 53, 3) := by decide +kernel
theorem dX9_buckets_111 : decode cX9_buckets 111 = .ok (.iload 6, 2) := by decide +kernel
theorem dX9_buckets_113 : decode cX9_buckets 113 = .ok (.iload_n 3, 1) := by decide +kernel
theorem dX9_buckets_114 : decode cX9_buckets 114 = .ok (.iadd, 1) := by decide +kernel
theorem dX9_buckets_115 : decode cX9_buckets 115 = .ok (.istore 6, 2) := by decide +kernel
theorem dX9_buckets_117 : decode cX9_buckets 117 = .ok (.aload_n 0, 1) := by decide +kernel
theorem dX9_buckets_118 : decode cX9_buckets 118 = .ok (.getfield 32, 3) := by decide +kernel
theorem dX9_buckets_121 : decode cX9_buckets 121 = .ok (.iload 7, 2) := by decide +kernel
theorem dX9_buckets_123 : decode cX9_buckets 123 = .ok (.iaload, 1) := by decide +kernel
theorem dX9_buckets_124 : decode cX9_buckets 124 = .ok (.iload_n 1, 1) := by decide +kernel
theorem dX9_buckets_125 : decode cX9_buckets 125 = .ok (.iadd, 1) := by decide +kernel
theorem dX9_buckets_126 : decode cX9_buckets 126 = .ok (.iconst 1, 1) := by decide +kernel
theorem dX9_buckets_127 : decode cX9_buckets 127 = .ok (.isub, 1) := by decide +kernel
theorem dX9_buckets_128 : decode cX9_buckets 128 = .ok (.iload_n 1, 1) := by decide +kernel
theorem dX9_buckets_129 : decode cX9_buckets 129 = .ok (.idiv, 1) := by decide +kernel
theorem dX9_buckets_130 : decode cX9_buckets 130 = .ok (.istore 8, 2) := by decide +kernel
theorem dX9_buckets_132 : decode cX9_buckets 132 = .ok (.iload 5, 2) := by decide +kernel
theorem dX9_buckets_134 : decode cX9_buckets 134 = .ok (.iload 8, 2) := by decide +kernel
theorem dX9_buckets_136 : decode cX9_buckets 136 = .ok (.iadd, 1) := by decide +kernel
theorem dX9_buckets_137 : decode cX9_buckets 137 = .ok (.istore 5, 2) := by decide +kernel
theorem dX9_buckets_139 : decode cX9_buckets 139 = .ok (.aload_n 0, 1) := by decide +kernel
theorem dX9_buckets_140 : decode cX9_buckets 140 = .ok (.getfield 50, 3) := by decide +kernel
theorem dX9_buckets_143 : decode cX9_buckets 143 = .ok (.iload 7, 2) := by decide +kernel
theorem dX9_buckets_145 : decode cX9_buckets 145 = .ok (.iaload, 1) := by decide +kernel
theorem dX9_buckets_146 : decode cX9_buckets 146 = .ok (.istore 4, 2) := by decide +kernel
theorem dX9_buckets_148 : decode cX9_buckets 148 = .ok (.iload 8, 2) := by decide +kernel
theorem dX9_buckets_150 : decode cX9_buckets 150 = .ok (.iload_n 1, 1) := by decide +kernel
theorem dX9_buckets_151 : decode cX9_buckets 151 = .ok (.imul, 1) := by decide +kernel
theorem dX9_buckets_152 : decode cX9_buckets 152 = .ok (.aload_n 0, 1) := by decide +kernel
theorem dX9_buckets_153 : decode cX9_buckets 153 = .ok (.getfield 32, 3) := by decide +kernel
theorem dX9_buckets_156 : decode cX9_buckets 156 = .ok (.iload 7, 2) := by decide +kernel
theorem dX9_buckets_158 : decode cX9_buckets 158 = .ok (.iaload, 1) := by decide +kernel
theorem dX9_buckets_159 : decode cX9_buckets 159 = .ok (.isub, 1) := by decide +kernel
theorem dX9_buckets_160 : decode cX9_buckets 160 = .ok (.istore_n 3, 1) := by decide +kernel
theorem dX9_buckets_161 : decode cX9_buckets 161 = .ok (.iinc 7 1, 3) := by decide +kernel
theorem dX9_buckets_164 : decode cX9_buckets 164 = .ok (.goto (-117), 3) := by decide +kernel
theorem dX9_buckets_167 : decode cX9_buckets 167 = .ok (.iload_n 2, 1) := by decide +kernel
theorem dX9_buckets_168 : decode cX9_buckets 168 = .ok (.ifCond .ne 8, 3) := by decide +kernel
theorem dX9_buckets_171 : decode cX9_buckets 171 = .ok (.iload 5, 2) := by decide +kernel
theorem dX9_buckets_173 : decode cX9_buckets 173 = .ok (.goto 7, 3) := by decide +kernel
theorem dX9_buckets_176 : decode cX9_buckets 176 = .ok (.iload 6, 2) := by decide +kernel
theorem dX9_buckets_178 : decode cX9_buckets 178 = .ok (.iload_n 3, 1) := by decide +kernel
theorem dX9_buckets_179 : decode cX9_buckets 179 = .ok (.iadd, 1) := by decide +kernel
theorem dX9_buckets_180 : decode cX9_buckets 180 = .ok (.ireturn, 1) := by decide +kernel
theorem dX9_isSo_0 : decode cX9_isSo 0 = .ok (.aload_n 0, 1) := by decide +kernel
theorem dX9_isSo_1 : decode cX9_isSo 1 = .ok (.aload_n 0, 1) := by decide +kernel
theorem dX9_isSo_2 : decode cX9_isSo 2 = .ok (.getfield 91, 3) := by decide +kernel
theorem dX9_isSo_5 : decode cX9_isSo 5 = .ok (.invokevirtual 297, 3) := by decide +kernel
theorem dX9_isSo_8 : decode cX9_isSo 8 = .ok (.iconst 0, 1) := by decide +kernel
theorem dX9_isSo_9 : decode cX9_isSo 9 = .ok (.istore_n 2, 1) := by decide +kernel
theorem dX9_isSo_10 : decode cX9_isSo 10 = .ok (.iload_n 2, 1) := by decide +kernel
theorem dX9_isSo_11 : decode cX9_isSo 11 = .ok (.aload_n 0, 1) := by decide +kernel
theorem dX9_isSo_12 : decode cX9_isSo 12 = .ok (.getfield 91, 3) := by decide +kernel
theorem dX9_isSo_15 : decode cX9_isSo 15 = .ok (.if_icmp .ge 31, 3) := by decide +kernel
theorem dX9_isSo_18 : decode cX9_isSo 18 = .ok (.aload_n 0, 1) := by decide +kernel
theorem dX9_isSo_19 : decode cX9_isSo 19 = .ok (.getfield 56, 3) := by decide +kernel
theorem dX9_isSo_22 : decode cX9_isSo 22 = .ok (.iload_n 2, 1) := by decide +kernel
theorem dX9_isSo_23 : decode cX9_isSo 23 = .ok (.iaload, 1) := by decide +kernel
theorem dX9_isSo_24 : decode cX9_isSo 24 = .ok (.aload_n 0, 1) := by decide +kernel
theorem dX9_isSo_25 : decode cX9_isSo 25 = .ok (.getfield 81, 3) := by decide +kernel
theorem dX9_isSo_28 : decode cX9_isSo 28 = .ok (.bipush 40, 2) := by decide +kernel
theorem dX9_isSo_30 : decode cX9_isSo 30 = .ok (.iload_n 1, 1) := by decide +kernel
theorem dX9_isSo_31 : decode cX9_isSo 31 = .ok (.imul, 1) := by decide +kernel
theorem dX9_isSo_32 : decode cX9_isSo 32 = .ok (.iload_n 2, 1) := by decide +kernel
theorem dX9_isSo_33 : decode cX9_isSo 33 = .ok (.iadd, 1) := by decide +kernel
theorem dX9_isSo_34 : decode cX9_isSo 34 = .ok (.iaload, 1) := by decide +kernel
theorem dX9_isSo_35 : decode cX9_isSo 35 = .ok (.if_icmp .eq 5, 3) := by decide +kernel
theorem dX9_isSo_38 : decode cX9_isSo 38 = .ok (.iconst 0, 1) := by decide +kernel
theorem dX9_isSo_39 : decode cX9_isSo 39 = .ok (.ireturn, 1) := by decide +kernel
theorem dX9_isSo_40 : decode cX9_isSo 40 = .ok (.iinc 2 1, 3) := by decide +kernel
theorem dX9_isSo_43 : decode cX9_isSo 43 = .ok (.goto (-33), 3) := by decide +kernel
theorem dX9_isSo_46 : decode cX9_isSo 46 = .ok (.iconst 1, 1) := by decide +kernel
theorem dX9_isSo_47 : decode cX9_isSo 47 = .ok (.ireturn, 1) := by decide +kernel
theorem dX9_tellsSort_0 : decode cX9_tellsSort 0 = .ok (.iload_n 1, 1) := by decide +kernel
theorem dX9_tellsSort_1 : decode cX9_tellsSort 1 = .ok (.iconst 1, 1) := by decide +kernel
theorem dX9_tellsSort_2 : decode cX9_tellsSort 2 = .ok (.if_icmp .ne 12, 3) := by decide +kernel
theorem dX9_tellsSort_5 : decode cX9_tellsSort 5 = .ok (.aload_n 0, 1) := by decide +kernel
theorem dX9_tellsSort_6 : decode cX9_tellsSort 6 = .ok (.getfield 23, 3) := by decide +kernel
theorem dX9_tellsSort_9 : decode cX9_tellsSort 9 = .ok (.iconst 2, 1) := by decide +kernel
theorem dX9_tellsSort_10 : decode cX9_tellsSort 10 = .ok (.iaload, 1) := by decide +kernel
theorem dX9_tellsSort_11 : decode cX9_tellsSort 11 = .ok (.goto 38, 3) := by decide +kernel
theorem dX9_tellsSort_14 : decode cX9_tellsSort 14 = .ok (.iload_n 1, 1) := by decide +kernel
theorem dX9_tellsSort_15 : decode cX9_tellsSort 15 = .ok (.iconst 2, 1) := by decide +kernel
theorem dX9_tellsSort_16 : decode cX9_tellsSort 16 = .ok (.if_icmp .ne 12, 3) := by decide +kernel
theorem dX9_tellsSort_19 : decode cX9_tellsSort 19 = .ok (.aload_n 0, 1) := by decide +kernel
theorem dX9_tellsSort_20 : decode cX9_tellsSort 20 = .ok (.getfield 23, 3) := by decide +kernel
theorem dX9_tellsSort_23 : decode cX9_tellsSort 23 = .ok (.iconst 1, 1) := by decide +kernel
theorem dX9_tellsSort_24 : decode cX9_tellsSort 24 = .ok (.iaload, 1) := by decide +kernel
theorem dX9_tellsSort_25 : decode cX9_tellsSort 25 = .ok (.goto 24, 3) := by decide +kernel
theorem dX9_tellsSort_28 : decode cX9_tellsSort 28 = .ok (.iload_n 1, 1) := by decide +kernel
theorem dX9_tellsSort_29 : decode cX9_tellsSort 29 = .ok (.iconst 3, 1) := by decide +kernel
theorem dX9_tellsSort_30 : decode cX9_tellsSort 30 = .ok (.if_icmp .ne 10, 3) := by decide +kernel
theorem dX9_tellsSort_33 : decode cX9_tellsSort 33 = .ok (.aload_n 0, 1) := by decide +kernel
theorem dX9_tellsSort_34 : decode cX9_tellsSort 34 = .ok (.getfield 242, 3) := by decide +kernel
theorem dX9_tellsSort_37 : decode cX9_tellsSort 37 = .ok (.goto 12, 3) := by decide +kernel
theorem dX9_tellsSort_40 : decode cX9_tellsSort 40 = .ok (.aload_n 0, 1) := by decide +kernel
theorem dX9_tellsSort_41 : decode cX9_tellsSort 41 = .ok (.getfield 26, 3) := by decide +kernel
theorem dX9_tellsSort_44 : decode cX9_tellsSort 44 = .ok (.iload_n 1, 1) := by decide +kernel
theorem dX9_tellsSort_45 : decode cX9_tellsSort 45 = .ok (.bipush 10, 2) := by decide +kernel
theorem dX9_tellsSort_47 : decode cX9_tellsSort 47 = .ok (.isub, 1) := by decide +kernel
theorem dX9_tellsSort_48 : decode cX9_tellsSort 48 = .ok (.iaload, 1) := by decide +kernel
theorem dX9_tellsSort_49 : decode cX9_tellsSort 49 = .ok (.ireturn, 1) := by decide +kernel
theorem dX9_laysSort_0 : decode cX9_laysSort 0 = .ok (.iload_n 1, 1) := by decide +kernel
theorem dX9_laysSort_1 : decode cX9_laysSort 1 = .ok (.iconst 3, 1) := by decide +kernel
theorem dX9_laysSort_2 : decode cX9_laysSort 2 = .ok (.if_icmp .ne 11, 3) := by decide +kernel
theorem dX9_laysSort_5 : decode cX9_laysSort 5 = .ok (.aload_n 0, 1) := by decide +kernel
theorem dX9_laysSort_6 : decode cX9_laysSort 6 = .ok (.iload_n 2, 1) := by decide +kernel
theorem dX9_laysSort_7 : decode cX9_laysSort 7 = .ok (.putfield 242, 3) := by decide +kernel
theorem dX9_laysSort_10 : decode cX9_laysSort 10 = .ok (.goto 38, 3) := by decide +kernel
theorem dX9_laysSort_13 : decode cX9_laysSort 13 = .ok (.iload_n 1, 1) := by decide +kernel
theorem dX9_laysSort_14 : decode cX9_laysSort 14 = .ok (.bipush 9, 2) := by decide +kernel
theorem dX9_laysSort_16 : decode cX9_laysSort 16 = .ok (.if_icmp .le 16, 3) := by decide +kernel
theorem dX9_laysSort_19 : decode cX9_laysSort 19 = .ok (.aload_n 0, 1) := by decide +kernel
theorem dX9_laysSort_20 : decode cX9_laysSort 20 = .ok (.getfield 26, 3) := by decide +kernel
theorem dX9_laysSort_23 : decode cX9_laysSort 23 = .ok (.iload_n 1, 1) := by decide +kernel
theorem dX9_laysSort_24 : decode cX9_laysSort 24 = .ok (.bipush 10, 2) := by decide +kernel
theorem dX9_laysSort_26 : decode cX9_laysSort 26 = .ok (.isub, 1) := by decide +kernel
theorem dX9_laysSort_27 : decode cX9_laysSort 27 = .ok (.iload_n 2, 1) := by decide +kernel
theorem dX9_laysSort_28 : decode cX9_laysSort 28 = .ok (.iastore, 1) := by decide +kernel
theorem dX9_laysSort_29 : decode cX9_laysSort 29 = .ok (.goto 19, 3) := by decide +kernel
theorem dX9_laysSort_32 : decode cX9_laysSort 32 = .ok (.aload_n 0, 1) := by decide +kernel
theorem dX9_laysSort_33 : decode cX9_laysSort 33 = .ok (.getfield 23, 3) := by decide +kernel
theorem dX9_laysSort_36 : decode cX9_laysSort 36 = .ok (.iload_n 1, 1) := by decide +kernel
theorem dX9_laysSort_37 : decode cX9_laysSort 37 = .ok (.iconst 1, 1) := by decide +kernel
theorem dX9_laysSort_38 : decode cX9_laysSort 38 = .ok (.if_icmp .ne 7, 3) := by decide +kernel
theorem dX9_laysSort_41 : decode cX9_laysSort 41 = .ok (.iconst 2, 1) := by decide +kernel
theorem dX9_laysSort_42 : decode cX9_laysSort 42 = .ok (.goto 4, 3) := by decide +kernel
theorem dX9_laysSort_45 : decode cX9_laysSort 45 = .ok (.iconst 1, 1) := by decide +kernel
theorem dX9_laysSort_46 : decode cX9_laysSort 46 = .ok (.iload_n 2, 1) := by decide +kernel
theorem dX9_laysSort_47 : decode cX9_laysSort 47 = .ok (.iastore, 1) := by decide +kernel
theorem dX9_laysSort_48 : decode cX9_laysSort 48 = .ok (.return_, 1) := by decide +kernel
theorem dX9_books_0 : decode cX9_books 0 = .ok (.iload_n 1, 1) := by decide +kernel
theorem dX9_books_1 : decode cX9_books 1 = .ok (.invokestatic 303, 3) := by decide +kernel
theorem dX9_books_4 : decode cX9_books 4 = .ok (.ifCond .eq 40, 3) := by decide +kernel
theorem dX9_books_7 : decode cX9_books 7 = .ok (.iload_n 2, 1) := by decide +kernel
theorem dX9_books_8 : decode cX9_books 8 = .ok (.i2l, 1) := by decide +kernel
theorem dX9_books_9 : decode cX9_books 9 = .ok (.lconst 0, 1) := by decide +kernel
theorem dX9_books_10 : decode cX9_books 10 = .ok (.ldc2_w 337, 3) := by decide +kernel
theorem dX9_books_13 : decode cX9_books 13 = .ok (.invokestatic 94, 3) := by decide +kernel
theorem dX9_books_16 : decode cX9_books 16 = .ok (.ifCond .ne 31, 3) := by decide +kernel
theorem dX9_books_19 : decode cX9_books 19 = .ok (.iload_n 2, 1) := by decide +kernel
theorem dX9_books_20 : decode cX9_books 20 = .ok (.i2l, 1) := by decide +kernel
theorem dX9_books_21 : decode cX9_books 21 = .ok (.ldc2_w 157, 3) := by decide +kernel
theorem dX9_books_24 : decode cX9_books 24 = .ok (.ldc2_w 339, 3) := by decide +kernel
theorem dX9_books_27 : decode cX9_books 27 = .ok (.invokestatic 94, 3) := by decide +kernel
theorem dX9_books_30 : decode cX9_books 30 = .ok (.ifCond .eq 14, 3) := by decide +kernel
theorem dX9_books_33 : decode cX9_books 33 = .ok (.aload_n 0, 1) := by decide +kernel
theorem dX9_books_34 : decode cX9_books 34 = .ok (.iload_n 2, 1) := by decide +kernel
theorem dX9_books_35 : decode cX9_books 35 = .ok (.bipush 10, 2) := by decide +kernel
theorem dX9_books_37 : decode cX9_books 37 = .ok (.isub, 1) := by decide +kernel
theorem dX9_books_38 : decode cX9_books 38 = .ok (.invokevirtual 100, 3) := by decide +kernel
theorem dX9_books_41 : decode cX9_books 41 = .ok (.ifCond .ne 6, 3) := by decide +kernel
theorem dX9_books_44 : decode cX9_books 44 = .ok (.bipush (-2), 2) := by decide +kernel
theorem dX9_books_46 : decode cX9_books 46 = .ok (.ireturn, 1) := by decide +kernel
theorem dX9_books_47 : decode cX9_books 47 = .ok (.aload_n 0, 1) := by decide +kernel
theorem dX9_books_48 : decode cX9_books 48 = .ok (.getfield 71, 3) := by decide +kernel
theorem dX9_books_51 : decode cX9_books 51 = .ok (.iload_n 1, 1) := by decide +kernel
theorem dX9_books_52 : decode cX9_books 52 = .ok (.baload, 1) := by decide +kernel
theorem dX9_books_53 : decode cX9_books 53 = .ok (.ifCond .ne 6, 3) := by decide +kernel
theorem dX9_books_56 : decode cX9_books 56 = .ok (.bipush (-11), 2) := by decide +kernel
theorem dX9_books_58 : decode cX9_books 58 = .ok (.ireturn, 1) := by decide +kernel
theorem dX9_books_59 : decode cX9_books 59 = .ok (.aload_n 0, 1) := by decide +kernel
theorem dX9_books_60 : decode cX9_books 60 = .ok (.getfield 78, 3) := by decide +kernel
theorem dX9_books_63 : decode cX9_books 63 = .ok (.iload_n 1, 1) := by decide +kernel
theorem dX9_books_64 : decode cX9_books 64 = .ok (.iaload, 1) := by decide +kernel
theorem dX9_books_65 : decode cX9_books 65 = .ok (.aload_n 0, 1) := by decide +kernel
theorem dX9_books_66 : decode cX9_books 66 = .ok (.getfield 91, 3) := by decide +kernel
theorem dX9_books_69 : decode cX9_books 69 = .ok (.if_icmp .eq 6, 3) := by decide +kernel
theorem dX9_books_72 : decode cX9_books 72 = .ok (.bipush (-2), 2) := by decide +kernel
theorem dX9_books_74 : decode cX9_books 74 = .ok (.ireturn, 1) := by decide +kernel
theorem dX9_books_75 : decode cX9_books 75 = .ok (.iconst 0, 1) := by decide +kernel
theorem dX9_books_76 : decode cX9_books 76 = .ok (.istore_n 3, 1) := by decide +kernel
theorem dX9_books_77 : decode cX9_books 77 = .ok (.iload_n 2, 1) := by decide +kernel
theorem dX9_books_78 : decode cX9_books 78 = .ok (.ifCond .ne 64, 3) := by decide +kernel
theorem dX9_books_81 : decode cX9_books 81 = .ok (.aload_n 0, 1) := by decide +kernel
theorem dX9_books_82 : decode cX9_books 82 = .ok (.aload_n 0, 1) := by decide +kernel
theorem dX9_books_83 : decode cX9_books 83 = .ok (.getfield 91, 3) := by decide +kernel
theorem dX9_books_86 : decode cX9_books 86 = .ok (.invokevirtual 297, 3) := by decide +kernel
theorem dX9_books_89 : decode cX9_books 89 = .ok (.iconst 0, 1) := by decide +kernel
theorem dX9_books_90 : decode cX9_books 90 = .ok (.istore 4, 2) := by decide +kernel
theorem dX9_books_92 : decode cX9_books 92 = .ok (.iload 4, 2) := by decide +kernel
theorem dX9_books_94 : decode cX9_books 94 = .ok (.aload_n 0, 1) := by decide +kernel
theorem dX9_books_95 : decode cX9_books 95 = .ok (.getfield 91, 3) := by decide +kernel
theorem dX9_books_98 : decode cX9_books 98 = .ok (.if_icmp .ge 42, 3) := by decide +kernel
theorem dX9_books_101 : decode cX9_books 101 = .ok (.iload_n 3, 1) := by decide +kernel
theorem dX9_books_102 : decode cX9_books 102 = .ok (.aload_n 0, 1) := by decide +kernel
theorem dX9_books_103 : decode cX9_books 103 = .ok (.getfield 56, 3) := by decide +kernel
theorem dX9_books_106 : decode cX9_books 106 = .ok (.iload 4, 2) := by decide +kernel
theorem dX9_books_108 : decode cX9_books 108 = .ok (.iaload, 1) := by decide +kernel
theorem dX9_books_109 : decode cX9_books 109 = .ok (.aload_n 0, 1) := by decide +kernel
theorem dX9_books_110 : decode cX9_books 110 = .ok (.getfield 81, 3) := by decide +kernel
theorem dX9_books_113 : decode cX9_books 113 = .ok (.bipush 40, 2) := by decide +kernel
theorem dX9_books_115 : decode cX9_books 115 = .ok (.iload_n 1, 1) := by decide +kernel
theorem dX9_books_116 : decode cX9_books 116 = .ok (.imul, 1) := by decide +kernel
theorem dX9_books_117 : decode cX9_books 117 = .ok (.iload 4, 2) := by decide +kernel
theorem dX9_books_119 : decode cX9_books 119 = .ok (.iadd, 1) := by decide +kernel
theorem dX9_books_120 : decode cX9_books 120 = .ok (.iaload, 1) := by decide +kernel
theorem dX9_books_121 : decode cX9_books 121 = .ok (.if_icmp .eq 7, 3) := by decide +kernel
theorem dX9_books_124 : decode cX9_books 124 = .ok (.iconst 1, 1) := by decide +kernel
theorem dX9_books_125 : decode cX9_books 125 = .ok (.goto 4, 3) := by decide +kernel
theorem dX9_books_128 : decode cX9_books 128 = .ok (.iconst 0, 1) := by decide +kernel
theorem dX9_books_129 : decode cX9_books 129 = .ok (.iload 4, 2) := by decide +kernel
theorem dX9_books_131 : decode cX9_books 131 = .ok (.ishl, 1) := by decide +kernel
theorem dX9_books_132 : decode cX9_books 132 = .ok (.ior, 1) := by decide +kernel
theorem dX9_books_133 : decode cX9_books 133 = .ok (.istore_n 3, 1) := by decide +kernel
theorem dX9_books_134 : decode cX9_books 134 = .ok (.iinc 4 1, 3) := by decide +kernel
theorem dX9_books_137 : decode cX9_books 137 = .ok (.goto (-45), 3) := by decide +kernel
theorem dX9_books_140 : decode cX9_books 140 = .ok (.iload_n 3, 1) := by decide +kernel
theorem dX9_books_141 : decode cX9_books 141 = .ok (.ireturn, 1) := by decide +kernel
theorem dX9_books_142 : decode cX9_books 142 = .ok (.iload_n 2, 1) := by decide +kernel
theorem dX9_books_143 : decode cX9_books 143 = .ok (.iconst 3, 1) := by decide +kernel
theorem dX9_books_144 : decode cX9_books 144 = .ok (.if_icmp .ge 8, 3) := by decide +kernel
theorem dX9_books_147 : decode cX9_books 147 = .ok (.bipush 10, 2) := by decide +kernel
theorem dX9_books_149 : decode cX9_books 149 = .ok (.goto 17, 3) := by decide +kernel
theorem dX9_books_152 : decode cX9_books 152 = .ok (.iload_n 2, 1) := by decide +kernel
theorem dX9_books_153 : decode cX9_books 153 = .ok (.iconst 3, 1) := by decide +kernel
theorem dX9_books_154 : decode cX9_books 154 = .ok (.if_icmp .ne 10, 3) := by decide +kernel
theorem dX9_books_157 : decode cX9_books 157 = .ok (.aload_n 0, 1) := by decide +kernel
theorem dX9_books_158 : decode cX9_books 158 = .ok (.getfield 88, 3) := by decide +kernel
theorem dX9_books_161 : decode cX9_books 161 = .ok (.goto 5, 3) := by decide +kernel
theorem dX9_books_164 : decode cX9_books 164 = .ok (.bipush 6, 2) := by decide +kernel
theorem dX9_books_166 : decode cX9_books 166 = .ok (.istore 4, 2) := by decide +kernel
theorem dX9_books_168 : decode cX9_books 168 = .ok (.aload_n 0, 1) := by decide +kernel
theorem dX9_books_169 : decode cX9_books 169 = .ok (.iload_n 2, 1) := by decide +kernel
theorem dX9_books_170 : decode cX9_books 170 = .ok (.invokevirtual 341, 3) := by decide +kernel
theorem dX9_books_173 : decode cX9_books 173 = .ok (.istore 5, 2) := by decide +kernel
theorem dX9_books_175 : decode cX9_books 175 = .ok (.iconst 0, 1) := by decide +kernel
theorem dX9_books_176 : decode cX9_books 176 = .ok (.istore 6, 2) := by decide +kernel
theorem dX9_books_178 : decode cX9_books 178 = .ok (.iload 6, 2) := by decide +kernel
theorem dX9_books_180 : decode cX9_books 180 = .ok (.iload 4, 2) := by decide +kernel
theorem dX9_books_182 : decode cX9_books 182 = .ok (.if_icmp .ge 35, 3) := by decide +kernel
theorem dX9_books_185 : decode cX9_books 185 = .ok (.aload_n 0, 1) := by decide +kernel
theorem dX9_books_186 : decode cX9_books 186 = .ok (.iload_n 2, 1) := by decide +kernel
theorem dX9_books_187 : decode cX9_books 187 = .ok (.iload 6, 2) := by decide +kernel
theorem dX9_books_189 : decode cX9_books 189 = .ok (.invokevirtual 344, 3) := by decide +kernel
theorem dX9_books_192 : decode cX9_books 192 = .ok (.iload_n 3, 1) := by decide +kernel
theorem dX9_books_193 : decode cX9_books 193 = .ok (.aload_n 0, 1) := by decide +kernel
theorem dX9_books_194 : decode cX9_books 194 = .ok (.iload_n 1, 1) := by decide +kernel
theorem dX9_books_195 : decode cX9_books 195 = .ok (.invokevirtual 347, 3) := by decide +kernel
theorem dX9_books_198 : decode cX9_books 198 = .ok (.ifCond .eq 7, 3) := by decide +kernel
theorem dX9_books_201 : decode cX9_books 201 = .ok (.iconst 1, 1) := by decide +kernel
theorem dX9_books_202 : decode cX9_books 202 = .ok (.goto 4, 3) := by decide +kernel
theorem dX9_books_205 : decode cX9_books 205 = .ok (.iconst 0, 1) := by decide +kernel
theorem dX9_books_206 : decode cX9_books 206 = .ok (.iload 6, 2) := by decide +kernel
theorem dX9_books_208 : decode cX9_books 208 = .ok (.ishl, 1) := by decide +kernel
theorem dX9_books_209 : decode cX9_books 209 = .ok (.ior, 1) := by decide +kernel
theorem dX9_books_210 : decode cX9_books 210 = .ok (.istore_n 3, 1) := by decide +kernel
theorem dX9_books_211 : decode cX9_books 211 = .ok (.iinc 6 1, 3) := by decide +kernel
theorem dX9_books_214 : decode cX9_books 214 = .ok (.goto (-36), 3) := by decide +kernel
theorem dX9_books_217 : decode cX9_books 217 = .ok (.aload_n 0, 1) := by decide +kernel
theorem dX9_books_218 : decode cX9_books 218 = .ok (.iload_n 2, 1) := by decide +kernel
theorem dX9_books_219 : decode cX9_books 219 = .ok (.iload 5, 2) := by decide +kernel
theorem dX9_books_221 : decode cX9_books 221 = .ok (.invokevirtual 344, 3) := by decide +kernel
theorem dX9_books_224 : decode cX9_books 224 = .ok (.iload_n 3, 1) := by decide +kernel
theorem dX9_books_225 : decode cX9_books 225 = .ok (.ireturn, 1) := by decide +kernel
theorem dX9_warms_0 : decode cX9_warms 0 = .ok (.iload_n 1, 1) := by decide +kernel
theorem dX9_warms_1 : decode cX9_warms 1 = .ok (.invokestatic 303, 3) := by decide +kernel
theorem dX9_warms_4 : decode cX9_warms 4 = .ok (.ifCond .eq 25, 3) := by decide +kernel
theorem dX9_warms_7 : decode cX9_warms 7 = .ok (.aload_n 0, 1) := by decide +kernel
theorem dX9_warms_8 : decode cX9_warms 8 = .ok (.getfield 71, 3) := by decide +kernel
theorem dX9_warms_11 : decode cX9_warms 11 = .ok (.iload_n 1, 1) := by decide +kernel
theorem dX9_warms_12 : decode cX9_warms 12 = .ok (.baload, 1) := by decide +kernel
theorem dX9_warms_13 : decode cX9_warms 13 = .ok (.ifCond .eq 16, 3) := by decide +kernel
theorem dX9_warms_16 : decode cX9_warms 16 = .ok (.aload_n 0, 1) := by decide +kernel
theorem dX9_warms_17 : decode cX9_warms 17 = .ok (.getfield 78, 3) := by decide +kernel
theorem dX9_warms_20 : decode cX9_warms 20 = .ok (.iload_n 1, 1) := by decide +kernel
theorem dX9_warms_21 : decode cX9_warms 21 = .ok (.iaload, 1) := by decide +kernel
theorem dX9_warms_22 : decode cX9_warms 22 = .ok (.aload_n 0, 1) := by decide +kernel
theorem dX9_warms_23 : decode cX9_warms 23 = .ok (.getfield 91, 3) := by decide +kernel
theorem dX9_warms_26 : decode cX9_warms 26 = .ok (.if_icmp .eq 7, 3) := by decide +kernel
theorem dX9_warms_29 : decode cX9_warms 29 = .ok (.ldc2_w 350, 3) := by decide +kernel
theorem dX9_warms_32 : decode cX9_warms 32 = .ok (.lreturn, 1) := by decide +kernel
theorem dX9_warms_33 : decode cX9_warms 33 = .ok (.aload_n 0, 1) := by decide +kernel
theorem dX9_warms_34 : decode cX9_warms 34 = .ok (.getfield 23, 3) := by decide +kernel
theorem dX9_warms_37 : decode cX9_warms 37 = .ok (.iconst 0, 1) := by decide +kernel
theorem dX9_warms_38 : decode cX9_warms 38 = .ok (.iaload, 1) := by decide +kernel
theorem dX9_warms_39 : decode cX9_warms 39 = .ok (.istore_n 2, 1) := by decide +kernel
theorem dX9_warms_40 : decode cX9_warms 40 = .ok (.lconst 0, 1) := by decide +kernel
theorem dX9_warms_41 : decode cX9_warms 41 = .ok (.lstore_n 3, 1) := by decide +kernel
theorem dX9_warms_42 : decode cX9_warms 42 = .ok (.iconst 0, 1) := by decide +kernel
theorem dX9_warms_43 : decode cX9_warms 43 = .ok (.istore 5, 2) := by decide +kernel
theorem dX9_warms_45 : decode cX9_warms 45 = .ok (.iload 5, 2) := by decide +kernel
theorem dX9_warms_47 : decode cX9_warms 47 = .ok (.bipush 40, 2) := by decide +kernel
theorem dX9_warms_49 : decode cX9_warms 49 = .ok (.if_icmp .gt 36, 3) := by decide +kernel
theorem dX9_warms_52 : decode cX9_warms 52 = .ok (.aload_n 0, 1) := by decide +kernel
theorem dX9_warms_53 : decode cX9_warms 53 = .ok (.getfield 23, 3) := by decide +kernel
theorem dX9_warms_56 : decode cX9_warms 56 = .ok (.iconst 0, 1) := by decide +kernel
theorem dX9_warms_57 : decode cX9_warms 57 = .ok (.iload 5, 2) := by decide +kernel
theorem dX9_warms_59 : decode cX9_warms 59 = .ok (.iastore, 1) := by decide +kernel
theorem dX9_warms_60 : decode cX9_warms 60 = .ok (.lload_n 3, 1) := by decide +kernel
theorem dX9_warms_61 : decode cX9_warms 61 = .ok (.aload_n 0, 1) := by decide +kernel
theorem dX9_warms_62 : decode cX9_warms 62 = .ok (.iload_n 1, 1) := by decide +kernel
theorem dX9_warms_63 : decode cX9_warms 63 = .ok (.invokevirtual 347, 3) := by decide +kernel
theorem dX9_warms_66 : decode cX9_warms 66 = .ok (.ifCond .eq 7, 3) := by decide +kernel
theorem dX9_warms_69 : decode cX9_warms 69 = .ok (.lconst 1, 1) := by decide +kernel
theorem dX9_warms_70 : decode cX9_warms 70 = .ok (.goto 4, 3) := by decide +kernel
theorem dX9_warms_73 : decode cX9_warms 73 = .ok (.lconst 0, 1) := by decide +kernel
theorem dX9_warms_74 : decode cX9_warms 74 = .ok (.iload 5, 2) := by decide +kernel
theorem dX9_warms_76 : decode cX9_warms 76 = .ok (.lshl, 1) := by decide +kernel
theorem dX9_warms_77 : decode cX9_warms 77 = .ok (.lor, 1) := by decide +kernel
theorem dX9_warms_78 : decode cX9_warms 78 = .ok (.lstore_n 3, 1) := by decide +kernel
theorem dX9_warms_79 : decode cX9_warms 79 = .ok (.iinc 5 1, 3) := by decide +kernel
theorem dX9_warms_82 : decode cX9_warms 82 = .ok (.goto (-37), 3) := by decide +kernel
theorem dX9_warms_85 : decode cX9_warms 85 = .ok (.aload_n 0, 1) := by decide +kernel
theorem dX9_warms_86 : decode cX9_warms 86 = .ok (.getfield 23, 3) := by decide +kernel
theorem dX9_warms_89 : decode cX9_warms 89 = .ok (.iconst 0, 1) := by decide +kernel
theorem dX9_warms_90 : decode cX9_warms 90 = .ok (.iload_n 2, 1) := by decide +kernel
theorem dX9_warms_91 : decode cX9_warms 91 = .ok (.iastore, 1) := by decide +kernel
theorem dX9_warms_92 : decode cX9_warms 92 = .ok (.lload_n 3, 1) := by decide +kernel
theorem dX9_warms_93 : decode cX9_warms 93 = .ok (.lreturn, 1) := by decide +kernel
theorem dX9_sheet_0 : decode cX9_sheet 0 = .ok (.iload_n 1, 1) := by decide +kernel
theorem dX9_sheet_1 : decode cX9_sheet 1 = .ok (.invokestatic 303, 3) := by decide +kernel
theorem dX9_sheet_4 : decode cX9_sheet 4 = .ok (.ifCond .eq 27, 3) := by decide +kernel
theorem dX9_sheet_7 : decode cX9_sheet 7 = .ok (.iload_n 2, 1) := by decide +kernel
theorem dX9_sheet_8 : decode cX9_sheet 8 = .ok (.i2l, 1) := by decide +kernel
theorem dX9_sheet_9 : decode cX9_sheet 9 = .ok (.ldc2_w 362, 3) := by decide +kernel
theorem dX9_sheet_12 : decode cX9_sheet 12 = .ok (.ldc2_w 322, 3) := by decide +kernel
theorem dX9_sheet_15 : decode cX9_sheet 15 = .ok (.invokestatic 94, 3) := by decide +kernel
theorem dX9_sheet_18 : decode cX9_sheet 18 = .ok (.ifCond .eq 13, 3) := by decide +kernel
theorem dX9_sheet_21 : decode cX9_sheet 21 = .ok (.iload_n 2, 1) := by decide +kernel
theorem dX9_sheet_22 : decode cX9_sheet 22 = .ok (.ifCond .lt 12, 3) := by decide +kernel
theorem dX9_sheet_25 : decode cX9_sheet 25 = .ok (.iload_n 3, 1) := by decide +kernel
theorem dX9_sheet_26 : decode cX9_sheet 26 = .ok (.bipush 40, 2) := by decide +kernel
theorem dX9_sheet_28 : decode cX9_sheet 28 = .ok (.if_icmp .le 6, 3) := by decide +kernel
theorem dX9_sheet_31 : decode cX9_sheet 31 = .ok (.bipush (-2), 2) := by decide +kernel
theorem dX9_sheet_33 : decode cX9_sheet 33 = .ok (.ireturn, 1) := by decide +kernel
theorem dX9_sheet_34 : decode cX9_sheet 34 = .ok (.iload_n 2, 1) := by decide +kernel
theorem dX9_sheet_35 : decode cX9_sheet 35 = .ok (.ifCond .lt 10, 3) := by decide +kernel
theorem dX9_sheet_38 : decode cX9_sheet 38 = .ok (.iload_n 3, 1) := by decide +kernel
theorem dX9_sheet_39 : decode cX9_sheet 39 = .ok (.ifCond .ge 6, 3) := by decide +kernel
theorem dX9_sheet_42 : decode cX9_sheet 42 = .ok (.bipush (-14), 2) := by decide +kernel
theorem dX9_sheet_44 : decode cX9_sheet 44 = .ok (.ireturn, 1) := by decide +kernel
theorem dX9_sheet_45 : decode cX9_sheet 45 = .ok (.aload_n 0, 1) := by decide +kernel
theorem dX9_sheet_46 : decode cX9_sheet 46 = .ok (.getfield 71, 3) := by decide +kernel
theorem dX9_sheet_49 : decode cX9_sheet 49 = .ok (.iload_n 1, 1) := by decide +kernel
theorem dX9_sheet_50 : decode cX9_sheet 50 = .ok (.iload_n 2, 1) := by decide +kernel
theorem dX9_sheet_51 : decode cX9_sheet 51 = .ok (.ifCond .lt 7, 3) := by decide +kernel
theorem dX9_sheet_54 : decode cX9_sheet 54 = .ok (.iconst 1, 1) := by decide +kernel
theorem dX9_sheet_55 : decode cX9_sheet 55 = .ok (.goto 4, 3) := by decide +kernel
theorem dX9_sheet_58 : decode cX9_sheet 58 = .ok (.iconst 0, 1) := by decide +kernel
theorem dX9_sheet_59 : decode cX9_sheet 59 = .ok (.bastore, 1) := by decide +kernel
theorem dX9_sheet_60 : decode cX9_sheet 60 = .ok (.aload_n 0, 1) := by decide +kernel
theorem dX9_sheet_61 : decode cX9_sheet 61 = .ok (.getfield 75, 3) := by decide +kernel
theorem dX9_sheet_64 : decode cX9_sheet 64 = .ok (.iload_n 1, 1) := by decide +kernel
theorem dX9_sheet_65 : decode cX9_sheet 65 = .ok (.iload_n 2, 1) := by decide +kernel
theorem dX9_sheet_66 : decode cX9_sheet 66 = .ok (.iastore, 1) := by decide +kernel
theorem dX9_sheet_67 : decode cX9_sheet 67 = .ok (.aload_n 0, 1) := by decide +kernel
theorem dX9_sheet_68 : decode cX9_sheet 68 = .ok (.getfield 78, 3) := by decide +kernel
theorem dX9_sheet_71 : decode cX9_sheet 71 = .ok (.iload_n 1, 1) := by decide +kernel
theorem dX9_sheet_72 : decode cX9_sheet 72 = .ok (.iload_n 3, 1) := by decide +kernel
theorem dX9_sheet_73 : decode cX9_sheet 73 = .ok (.iastore, 1) := by decide +kernel
theorem dX9_sheet_74 : decode cX9_sheet 74 = .ok (.iconst 0, 1) := by decide +kernel
theorem dX9_sheet_75 : decode cX9_sheet 75 = .ok (.istore 4, 2) := by decide +kernel
theorem dX9_sheet_77 : decode cX9_sheet 77 = .ok (.iload 4, 2) := by decide +kernel
theorem dX9_sheet_79 : decode cX9_sheet 79 = .ok (.iload_n 3, 1) := by decide +kernel
theorem dX9_sheet_80 : decode cX9_sheet 80 = .ok (.if_icmp .ge 26, 3) := by decide +kernel
theorem dX9_sheet_83 : decode cX9_sheet 83 = .ok (.iload_n 2, 1) := by decide +kernel
theorem dX9_sheet_84 : decode cX9_sheet 84 = .ok (.ifCond .lt 22, 3) := by decide +kernel
theorem dX9_sheet_87 : decode cX9_sheet 87 = .ok (.aload_n 0, 1) := by decide +kernel
theorem dX9_sheet_88 : decode cX9_sheet 88 = .ok (.getfield 81, 3) := by decide +kernel
theorem dX9_sheet_91 : decode cX9_sheet 91 = .ok (.bipush 40, 2) := by decide +kernel
theorem dX9_sheet_93 : decode cX9_sheet 93 = .ok (.iload_n 1, 1) := by decide +kernel
theorem dX9_sheet_94 : decode cX9_sheet 94 = .ok (.imul, 1) := by decide +kernel
theorem dX9_sheet_95 : decode cX9_sheet 95 = .ok (.iload 4, 2) := by decide +kernel
theorem dX9_sheet_97 : decode cX9_sheet 97 = .ok (.iadd, 1) := by decide +kernel
theorem dX9_sheet_98 : decode cX9_sheet 98 = .ok (.iconst 0, 1) := by decide +kernel
theorem dX9_sheet_99 : decode cX9_sheet 99 = .ok (.iastore, 1) := by decide +kernel
theorem dX9_sheet_100 : decode cX9_sheet 100 = .ok (.iinc 4 1, 3) := by decide +kernel
theorem dX9_sheet_103 : decode cX9_sheet 103 = .ok (.goto (-26), 3) := by decide +kernel
theorem dX9_sheet_106 : decode cX9_sheet 106 = .ok (.iconst 1, 1) := by decide +kernel
theorem dX9_sheet_107 : decode cX9_sheet 107 = .ok (.ireturn, 1) := by decide +kernel
theorem dX9_film_0 : decode cX9_film 0 = .ok (.iload_n 1, 1) := by decide +kernel
theorem dX9_film_1 : decode cX9_film 1 = .ok (.invokestatic 303, 3) := by decide +kernel
theorem dX9_film_4 : decode cX9_film 4 = .ok (.ifCond .ne 6, 3) := by decide +kernel
theorem dX9_film_7 : decode cX9_film 7 = .ok (.bipush (-2), 2) := by decide +kernel
theorem dX9_film_9 : decode cX9_film 9 = .ok (.ireturn, 1) := by decide +kernel
theorem dX9_film_10 : decode cX9_film 10 = .ok (.aload_n 0, 1) := by decide +kernel
theorem dX9_film_11 : decode cX9_film 11 = .ok (.aload_n 0, 1) := by decide +kernel
theorem dX9_film_12 : decode cX9_film 12 = .ok (.getfield 91, 3) := by decide +kernel
theorem dX9_film_15 : decode cX9_film 15 = .ok (.invokevirtual 297, 3) := by decide +kernel
theorem dX9_film_18 : decode cX9_film 18 = .ok (.aload_n 0, 1) := by decide +kernel
theorem dX9_film_19 : decode cX9_film 19 = .ok (.iload_n 1, 1) := by decide +kernel
theorem dX9_film_20 : decode cX9_film 20 = .ok (.iconst 2, 1) := by decide +kernel
theorem dX9_film_21 : decode cX9_film 21 = .ok (.aload_n 0, 1) := by decide +kernel
theorem dX9_film_22 : decode cX9_film 22 = .ok (.getfield 91, 3) := by decide +kernel
theorem dX9_film_25 : decode cX9_film 25 = .ok (.invokevirtual 352, 3) := by decide +kernel
theorem dX9_film_28 : decode cX9_film 28 = .ok (.pop, 1) := by decide +kernel
theorem dX9_film_29 : decode cX9_film 29 = .ok (.iconst 0, 1) := by decide +kernel
theorem dX9_film_30 : decode cX9_film 30 = .ok (.istore_n 2, 1) := by decide +kernel
theorem dX9_film_31 : decode cX9_film 31 = .ok (.iload_n 2, 1) := by decide +kernel
theorem dX9_film_32 : decode cX9_film 32 = .ok (.aload_n 0, 1) := by decide +kernel
theorem dX9_film_33 : decode cX9_film 33 = .ok (.getfield 91, 3) := by decide +kernel
theorem dX9_film_36 : decode cX9_film 36 = .ok (.if_icmp .ge 26, 3) := by decide +kernel
theorem dX9_film_39 : decode cX9_film 39 = .ok (.aload_n 0, 1) := by decide +kernel
theorem dX9_film_40 : decode cX9_film 40 = .ok (.getfield 81, 3) := by decide +kernel
theorem dX9_film_43 : decode cX9_film 43 = .ok (.bipush 40, 2) := by decide +kernel
theorem dX9_film_45 : decode cX9_film 45 = .ok (.iload_n 1, 1) := by decide +kernel
theorem dX9_film_46 : decode cX9_film 46 = .ok (.imul, 1) := by decide +kernel
theorem dX9_film_47 : decode cX9_film 47 = .ok (.iload_n 2, 1) := by decide +kernel
theorem dX9_film_48 : decode cX9_film 48 = .ok (.iadd, 1) := by decide +kernel
theorem dX9_film_49 : decode cX9_film 49 = .ok (.aload_n 0, 1) := by decide +kernel
theorem dX9_film_50 : decode cX9_film 50 = .ok (.getfield 56, 3) := by decide +kernel
theorem dX9_film_53 : decode cX9_film 53 = .ok (.iload_n 2, 1) := by decide +kernel
theorem dX9_film_54 : decode cX9_film 54 = .ok (.iaload, 1) := by decide +kernel
theorem dX9_film_55 : decode cX9_film 55 = .ok (.iastore, 1) := by decide +kernel
theorem dX9_film_56 : decode cX9_film 56 = .ok (.iinc 2 1, 3) := by decide +kernel
theorem dX9_film_59 : decode cX9_film 59 = .ok (.goto (-28), 3) := by decide +kernel
theorem dX9_film_62 : decode cX9_film 62 = .ok (.aload_n 0, 1) := by decide +kernel
theorem dX9_film_63 : decode cX9_film 63 = .ok (.getfield 91, 3) := by decide +kernel
theorem dX9_film_66 : decode cX9_film 66 = .ok (.ireturn, 1) := by decide +kernel
theorem dX9_draws_0 : decode cX9_draws 0 = .ok (.aload_n 0, 1) := by decide +kernel
theorem dX9_draws_1 : decode cX9_draws 1 = .ok (.iconst 0, 1) := by decide +kernel
theorem dX9_draws_2 : decode cX9_draws 2 = .ok (.iload_n 1, 1) := by decide +kernel
theorem dX9_draws_3 : decode cX9_draws 3 = .ok (.ldc_w 355, 3) := by decide +kernel
theorem dX9_draws_6 : decode cX9_draws 6 = .ok (.imul, 1) := by decide +kernel
theorem dX9_draws_7 : decode cX9_draws 7 = .ok (.sipush 12345, 3) := by decide +kernel
theorem dX9_draws_10 : decode cX9_draws 10 = .ok (.iadd, 1) := by decide +kernel
theorem dX9_draws_11 : decode cX9_draws 11 = .ok (.bipush 9, 2) := by decide +kernel
theorem dX9_draws_13 : decode cX9_draws 13 = .ok (.iushr, 1) := by decide +kernel
theorem dX9_draws_14 : decode cX9_draws 14 = .ok (.bipush 41, 2) := by decide +kernel
theorem dX9_draws_16 : decode cX9_draws 16 = .ok (.irem, 1) := by decide +kernel
theorem dX9_draws_17 : decode cX9_draws 17 = .ok (.invokevirtual 332, 3) := by decide +kernel
theorem dX9_draws_20 : decode cX9_draws 20 = .ok (.return_, 1) := by decide +kernel
theorem dX9_drawn_0 : decode cX9_drawn 0 = .ok (.aload_n 0, 1) := by decide +kernel
theorem dX9_drawn_1 : decode cX9_drawn 1 = .ok (.iload_n 1, 1) := by decide +kernel
theorem dX9_drawn_2 : decode cX9_drawn 2 = .ok (.invokevirtual 356, 3) := by decide +kernel
theorem dX9_drawn_5 : decode cX9_drawn 5 = .ok (.aload_n 0, 1) := by decide +kernel
theorem dX9_drawn_6 : decode cX9_drawn 6 = .ok (.getfield 258, 3) := by decide +kernel
theorem dX9_drawn_9 : decode cX9_drawn 9 = .ok (.ireturn, 1) := by decide +kernel
theorem dX9_chance_0 : decode cX9_chance 0 = .ok (.iload_n 2, 1) := by decide +kernel
theorem dX9_chance_1 : decode cX9_chance 1 = .ok (.i2l, 1) := by decide +kernel
theorem dX9_chance_2 : decode cX9_chance 2 = .ok (.lconst 1, 1) := by decide +kernel
theorem dX9_chance_3 : decode cX9_chance 3 = .ok (.ldc2_w 108, 3) := by decide +kernel
theorem dX9_chance_6 : decode cX9_chance 6 = .ok (.invokestatic 94, 3) := by decide +kernel
theorem dX9_chance_9 : decode cX9_chance 9 = .ok (.ifCond .eq 13, 3) := by decide +kernel
theorem dX9_chance_12 : decode cX9_chance 12 = .ok (.iload_n 3, 1) := by decide +kernel
theorem dX9_chance_13 : decode cX9_chance 13 = .ok (.i2l, 1) := by decide +kernel
theorem dX9_chance_14 : decode cX9_chance 14 = .ok (.lconst 0, 1) := by decide +kernel
theorem dX9_chance_15 : decode cX9_chance 15 = .ok (.lconst 1, 1) := by decide +kernel
theorem dX9_chance_16 : decode cX9_chance 16 = .ok (.invokestatic 94, 3) := by decide +kernel
theorem dX9_chance_19 : decode cX9_chance 19 = .ok (.ifCond .ne 7, 3) := by decide +kernel
theorem dX9_chance_22 : decode cX9_chance 22 = .ok (.ldc2_w 350, 3) := by decide +kernel
theorem dX9_chance_25 : decode cX9_chance 25 = .ok (.lreturn, 1) := by decide +kernel
theorem dX9_chance_26 : decode cX9_chance 26 = .ok (.lconst 0, 1) := by decide +kernel
theorem dX9_chance_27 : decode cX9_chance 27 = .ok (.lstore 4, 2) := by decide +kernel
theorem dX9_chance_29 : decode cX9_chance 29 = .ok (.iconst 0, 1) := by decide +kernel
theorem dX9_chance_30 : decode cX9_chance 30 = .ok (.istore 6, 2) := by decide +kernel
theorem dX9_chance_32 : decode cX9_chance 32 = .ok (.iload 6, 2) := by decide +kernel
theorem dX9_chance_34 : decode cX9_chance 34 = .ok (.iload_n 2, 1) := by decide +kernel
theorem dX9_chance_35 : decode cX9_chance 35 = .ok (.if_icmp .ge 35, 3) := by decide +kernel
theorem dX9_chance_38 : decode cX9_chance 38 = .ok (.aload_n 0, 1) := by decide +kernel
theorem dX9_chance_39 : decode cX9_chance 39 = .ok (.iload_n 1, 1) := by decide +kernel
theorem dX9_chance_40 : decode cX9_chance 40 = .ok (.iload 6, 2) := by decide +kernel
theorem dX9_chance_42 : decode cX9_chance 42 = .ok (.iadd, 1) := by decide +kernel
theorem dX9_chance_43 : decode cX9_chance 43 = .ok (.invokevirtual 356, 3) := by decide +kernel
theorem dX9_chance_46 : decode cX9_chance 46 = .ok (.lload 4, 2) := by decide +kernel
theorem dX9_chance_48 : decode cX9_chance 48 = .ok (.aload_n 0, 1) := by decide +kernel
theorem dX9_chance_49 : decode cX9_chance 49 = .ok (.iconst 1, 1) := by decide +kernel
theorem dX9_chance_50 : decode cX9_chance 50 = .ok (.invokevirtual 290, 3) := by decide +kernel
theorem dX9_chance_53 : decode cX9_chance 53 = .ok (.ifCond .ne 7, 3) := by decide +kernel
theorem dX9_chance_56 : decode cX9_chance 56 = .ok (.lconst 1, 1) := by decide +kernel
theorem dX9_chance_57 : decode cX9_chance 57 = .ok (.goto 4, 3) := by decide +kernel
theorem dX9_chance_60 : decode cX9_chance 60 = .ok (.lconst 0, 1) := by decide +kernel
theorem dX9_chance_61 : decode cX9_chance 61 = .ok (.ladd, 1) := by decide +kernel
theorem dX9_chance_62 : decode cX9_chance 62 = .ok (.lstore 4, 2) := by decide +kernel
theorem dX9_chance_64 : decode cX9_chance 64 = .ok (.iinc 6 1, 3) := by decide +kernel
theorem dX9_chance_67 : decode cX9_chance 67 = .ok (.goto (-35), 3) := by decide +kernel
theorem dX9_chance_70 : decode cX9_chance 70 = .ok (.lload 4, 2) := by decide +kernel
theorem dX9_chance_72 : decode cX9_chance 72 = .ok (.lstore 6, 2) := by decide +kernel
theorem dX9_chance_74 : decode cX9_chance 74 = .ok (.iload_n 2, 1) := by decide +kernel
theorem dX9_chance_75 : decode cX9_chance 75 = .ok (.i2l, 1) := by decide +kernel
theorem dX9_chance_76 : decode cX9_chance 76 = .ok (.lstore 8, 2) := by decide +kernel
theorem dX9_chance_78 : decode cX9_chance 78 = .ok (.lload 8, 2) := by decide +kernel
theorem dX9_chance_80 : decode cX9_chance 80 = .ok (.lconst 0, 1) := by decide +kernel
theorem dX9_chance_81 : decode cX9_chance 81 = .ok (.lcmp, 1) := by decide +kernel
theorem dX9_chance_82 : decode cX9_chance 82 = .ok (.ifCond .eq 21, 3) := by decide +kernel
theorem dX9_chance_85 : decode cX9_chance 85 = .ok (.lload 6, 2) := by decide +kernel
theorem dX9_chance_87 : decode cX9_chance 87 = .ok (.lload 8, 2) := by decide +kernel
theorem dX9_chance_89 : decode cX9_chance 89 = .ok (.lrem, 1) := by decide +kernel
theorem dX9_chance_90 : decode cX9_chance 90 = .ok (.lstore 10, 2) := by decide +kernel
theorem dX9_chance_92 : decode cX9_chance 92 = .ok (.lload 8, 2) := by decide +kernel
theorem dX9_chance_94 : decode cX9_chance 94 = .ok (.lstore 6, 2) := by decide +kernel
theorem dX9_chance_96 : decode cX9_chance 96 = .ok (.lload 10, 2) := by decide +kernel
theorem dX9_chance_98 : decode cX9_chance 98 = .ok (.lstore 8, 2) := by decide +kernel
theorem dX9_chance_100 : decode cX9_chance 100 = .ok (.goto (-22), 3) := by decide +kernel
theorem dX9_chance_103 : decode cX9_chance 103 = .ok (.iload_n 3, 1) := by decide +kernel
theorem dX9_chance_104 : decode cX9_chance 104 = .ok (.ifCond .ne 11, 3) := by decide +kernel
theorem dX9_chance_107 : decode cX9_chance 107 = .ok (.lload 4, 2) := by decide +kernel
theorem dX9_chance_109 : decode cX9_chance 109 = .ok (.lload 6, 2) := by decide +kernel
theorem dX9_chance_111 : decode cX9_chance 111 = .ok (.ldiv, 1) := by decide +kernel
theorem dX9_chance_112 : decode cX9_chance 112 = .ok (.goto 8, 3) := by decide +kernel
theorem dX9_chance_115 : decode cX9_chance 115 = .ok (.iload_n 2, 1) := by decide +kernel
theorem dX9_chance_116 : decode cX9_chance 116 = .ok (.i2l, 1) := by decide +kernel
theorem dX9_chance_117 : decode cX9_chance 117 = .ok (.lload 6, 2) := by decide +kernel
theorem dX9_chance_119 : decode cX9_chance 119 = .ok (.ldiv, 1) := by decide +kernel
theorem dX9_chance_120 : decode cX9_chance 120 = .ok (.lreturn, 1) := by decide +kernel
theorem dX9_image_0 : decode cX9_image 0 = .ok (.iconst 0, 1) := by decide +kernel
theorem dX9_image_1 : decode cX9_image 1 = .ok (.istore_n 1, 1) := by decide +kernel
theorem dX9_image_2 : decode cX9_image 2 = .ok (.iload_n 1, 1) := by decide +kernel
theorem dX9_image_3 : decode cX9_image 3 = .ok (.bipush 6, 2) := by decide +kernel
theorem dX9_image_5 : decode cX9_image 5 = .ok (.if_icmp .ge 21, 3) := by decide +kernel
theorem dX9_image_8 : decode cX9_image 8 = .ok (.aload_n 0, 1) := by decide +kernel
theorem dX9_image_9 : decode cX9_image 9 = .ok (.getfield 62, 3) := by decide +kernel
theorem dX9_image_12 : decode cX9_image 12 = .ok (.iload_n 1, 1) := by decide +kernel
theorem dX9_image_13 : decode cX9_image 13 = .ok (.aload_n 0, 1) := by decide +kernel
theorem dX9_image_14 : decode cX9_image 14 = .ok (.getfield 23, 3) := by decide +kernel
theorem dX9_image_17 : decode cX9_image 17 = .ok (.iload_n 1, 1) := by decide +kernel
theorem dX9_image_18 : decode cX9_image 18 = .ok (.iaload, 1) := by decide +kernel
theorem dX9_image_19 : decode cX9_image 19 = .ok (.iastore, 1) := by decide +kernel
theorem dX9_image_20 : decode cX9_image 20 = .ok (.iinc 1 1, 3) := by decide +kernel
theorem dX9_image_23 : decode cX9_image 23 = .ok (.goto (-21), 3) := by decide +kernel
theorem dX9_image_26 : decode cX9_image 26 = .ok (.iconst 0, 1) := by decide +kernel
theorem dX9_image_27 : decode cX9_image 27 = .ok (.istore_n 1, 1) := by decide +kernel
theorem dX9_image_28 : decode cX9_image 28 = .ok (.iload_n 1, 1) := by decide +kernel
theorem dX9_image_29 : decode cX9_image 29 = .ok (.bipush 6, 2) := by decide +kernel
theorem dX9_image_31 : decode cX9_image 31 = .ok (.if_icmp .ge 51, 3) := by decide +kernel
theorem dX9_image_34 : decode cX9_image 34 = .ok (.aload_n 0, 1) := by decide +kernel
theorem dX9_image_35 : decode cX9_image 35 = .ok (.getfield 65, 3) := by decide +kernel
theorem dX9_image_38 : decode cX9_image 38 = .ok (.iload_n 1, 1) := by decide +kernel
theorem dX9_image_39 : decode cX9_image 39 = .ok (.aload_n 0, 1) := by decide +kernel
theorem dX9_image_40 : decode cX9_image 40 = .ok (.getfield 29, 3) := by decide +kernel
theorem dX9_image_43 : decode cX9_image 43 = .ok (.iload_n 1, 1) := by decide +kernel
theorem dX9_image_44 : decode cX9_image 44 = .ok (.iaload, 1) := by decide +kernel
theorem dX9_image_45 : decode cX9_image 45 = .ok (.iastore, 1) := by decide +kernel
theorem dX9_image_46 : decode cX9_image 46 = .ok (.aload_n 0, 1) := by decide +kernel
theorem dX9_image_47 : decode cX9_image 47 = .ok (.getfield 65, 3) := by decide +kernel
theorem dX9_image_50 : decode cX9_image 50 = .ok (.bipush 6, 2) := by decide +kernel
theorem dX9_image_52 : decode cX9_image 52 = .ok (.iload_n 1, 1) := by decide +kernel
theorem dX9_image_53 : decode cX9_image 53 = .ok (.iadd, 1) := by decide +kernel
theorem dX9_image_54 : decode cX9_image 54 = .ok (.aload_n 0, 1) := by decide +kernel
theorem dX9_image_55 : decode cX9_image 55 = .ok (.getfield 32, 3) := by decide +kernel
theorem dX9_image_58 : decode cX9_image 58 = .ok (.iload_n 1, 1) := by decide +kernel
theorem dX9_image_59 : decode cX9_image 59 = .ok (.iaload, 1) := by decide +kernel
theorem dX9_image_60 : decode cX9_image 60 = .ok (.iastore, 1) := by decide +kernel
theorem dX9_image_61 : decode cX9_image 61 = .ok (.aload_n 0, 1) := by decide +kernel
theorem dX9_image_62 : decode cX9_image 62 = .ok (.getfield 65, 3) := by decide +kernel
theorem dX9_image_65 : decode cX9_image 65 = .ok (.bipush 12, 2) := by decide +kernel
theorem dX9_image_67 : decode cX9_image 67 = .ok (.iload_n 1, 1) := by decide +kernel
theorem dX9_image_68 : decode cX9_image 68 = .ok (.iadd, 1) := by decide +kernel
theorem dX9_image_69 : decode cX9_image 69 = .ok (.aload_n 0, 1) := by decide +kernel
theorem dX9_image_70 : decode cX9_image 70 = .ok (.getfield 35, 3) := by decide +kernel
theorem dX9_image_73 : decode cX9_image 73 = .ok (.iload_n 1, 1) := by decide +kernel
theorem dX9_image_74 : decode cX9_image 74 = .ok (.iaload, 1) := by decide +kernel
theorem dX9_image_75 : decode cX9_image 75 = .ok (.iastore, 1) := by decide +kernel
theorem dX9_image_76 : decode cX9_image 76 = .ok (.iinc 1 1, 3) := by decide +kernel
theorem dX9_image_79 : decode cX9_image 79 = .ok (.goto (-51), 3) := by decide +kernel
theorem dX9_image_82 : decode cX9_image 82 = .ok (.aload_n 0, 1) := by decide +kernel
theorem dX9_image_83 : decode cX9_image 83 = .ok (.aload_n 0, 1) := by decide +kernel
theorem dX9_image_84 : decode cX9_image 84 = .ok (.getfield 91, 3) := by decide +kernel
theorem dX9_image_87 : decode cX9_image 87 = .ok (.putfield 68, 3) := by decide +kernel
theorem dX9_image_90 : decode cX9_image 90 = .ok (.aload_n 0, 1) := by decide +kernel
theorem dX9_image_91 : decode cX9_image 91 = .ok (.aload_n 0, 1) := by decide +kernel
theorem dX9_image_92 : decode cX9_image 92 = .ok (.getfield 242, 3) := by decide +kernel
theorem dX9_image_95 : decode cX9_image 95 = .ok (.putfield 359, 3) := by decide +kernel
theorem dX9_image_98 : decode cX9_image 98 = .ok (.aload_n 0, 1) := by decide +kernel
theorem dX9_image_99 : decode cX9_image 99 = .ok (.getfield 91, 3) := by decide +kernel
theorem dX9_image_102 : decode cX9_image 102 = .ok (.ireturn, 1) := by decide +kernel
theorem dX9_back_0 : decode cX9_back 0 = .ok (.aload_n 0, 1) := by decide +kernel
theorem dX9_back_1 : decode cX9_back 1 = .ok (.getfield 68, 3) := by decide +kernel
theorem dX9_back_4 : decode cX9_back 4 = .ok (.iconst (-1), 1) := by decide +kernel
theorem dX9_back_5 : decode cX9_back 5 = .ok (.if_icmp .ne 6, 3) := by decide +kernel
theorem dX9_back_8 : decode cX9_back 8 = .ok (.bipush (-3), 2) := by decide +kernel
theorem dX9_back_10 : decode cX9_back 10 = .ok (.ireturn, 1) := by decide +kernel
theorem dX9_back_11 : decode cX9_back 11 = .ok (.iconst 0, 1) := by decide +kernel
theorem dX9_back_12 : decode cX9_back 12 = .ok (.istore_n 1, 1) := by decide +kernel
theorem dX9_back_13 : decode cX9_back 13 = .ok (.iload_n 1, 1) := by decide +kernel
theorem dX9_back_14 : decode cX9_back 14 = .ok (.bipush 6, 2) := by decide +kernel
theorem dX9_back_16 : decode cX9_back 16 = .ok (.if_icmp .ge 21, 3) := by decide +kernel
theorem dX9_back_19 : decode cX9_back 19 = .ok (.aload_n 0, 1) := by decide +kernel
theorem dX9_back_20 : decode cX9_back 20 = .ok (.getfield 23, 3) := by decide +kernel
theorem dX9_back_23 : decode cX9_back 23 = .ok (.iload_n 1, 1) := by decide +kernel
theorem dX9_back_24 : decode cX9_back 24 = .ok (.aload_n 0, 1) := by decide +kernel
theorem dX9_back_25 : decode cX9_back 25 = .ok (.getfield 62, 3) := by decide +kernel
theorem dX9_back_28 : decode cX9_back 28 = .ok (.iload_n 1, 1) := by decide +kernel
theorem dX9_back_29 : decode cX9_back 29 = .ok (.iaload, 1) := by decide +kernel
theorem dX9_back_30 : decode cX9_back 30 = .ok (.iastore, 1) := by decide +kernel
theorem dX9_back_31 : decode cX9_back 31 = .ok (.iinc 1 1, 3) := by decide +kernel
theorem dX9_back_34 : decode cX9_back 34 = .ok (.goto (-21), 3) := by decide +kernel
theorem dX9_back_37 : decode cX9_back 37 = .ok (.iconst 0, 1) := by decide +kernel
theorem dX9_back_38 : decode cX9_back 38 = .ok (.istore_n 1, 1) := by decide +kernel
theorem dX9_back_39 : decode cX9_back 39 = .ok (.iload_n 1, 1) := by decide +kernel
theorem dX9_back_40 : decode cX9_back 40 = .ok (.bipush 6, 2) := by decide +kernel
theorem dX9_back_42 : decode cX9_back 42 = .ok (.if_icmp .ge 51, 3) := by decide +kernel
theorem dX9_back_45 : decode cX9_back 45 = .ok (.aload_n 0, 1) := by decide +kernel
theorem dX9_back_46 : decode cX9_back 46 = .ok (.getfield 29, 3) := by decide +kernel
theorem dX9_back_49 : decode cX9_back 49 = .ok (.iload_n 1, 1) := by decide +kernel
theorem dX9_back_50 : decode cX9_back 50 = .ok (.aload_n 0, 1) := by decide +kernel
theorem dX9_back_51 : decode cX9_back 51 = .ok (.getfield 65, 3) := by decide +kernel
theorem dX9_back_54 : decode cX9_back 54 = .ok (.iload_n 1, 1) := by decide +kernel
theorem dX9_back_55 : decode cX9_back 55 = .ok (.iaload, 1) := by decide +kernel
theorem dX9_back_56 : decode cX9_back 56 = .ok (.iastore, 1) := by decide +kernel
theorem dX9_back_57 : decode cX9_back 57 = .ok (.aload_n 0, 1) := by decide +kernel
theorem dX9_back_58 : decode cX9_back 58 = .ok (.getfield 32, 3) := by decide +kernel
theorem dX9_back_61 : decode cX9_back 61 = .ok (.iload_n 1, 1) := by decide +kernel
theorem dX9_back_62 : decode cX9_back 62 = .ok (.aload_n 0, 1) := by decide +kernel
theorem dX9_back_63 : decode cX9_back 63 = .ok (.getfield 65, 3) := by decide +kernel
theorem dX9_back_66 : decode cX9_back 66 = .ok (.bipush 6, 2) := by decide +kernel
theorem dX9_back_68 : decode cX9_back 68 = .ok (.iload_n 1, 1) := by decide +kernel
theorem dX9_back_69 : decode cX9_back 69 = .ok (.iadd, 1) := by decide +kernel
theorem dX9_back_70 : decode cX9_back 70 = .ok (.iaload, 1) := by decide +kernel
theorem dX9_back_71 : decode cX9_back 71 = .ok (.iastore, 1) := by decide +kernel
theorem dX9_back_72 : decode cX9_back 72 = .ok (.aload_n 0, 1) := by decide +kernel
theorem dX9_back_73 : decode cX9_back 73 = .ok (.getfield 35, 3) := by decide +kernel
theorem dX9_back_76 : decode cX9_back 76 = .ok (.iload_n 1, 1) := by decide +kernel
theorem dX9_back_77 : decode cX9_back 77 = .ok (.aload_n 0, 1) := by decide +kernel
theorem dX9_back_78 : decode cX9_back 78 = .ok (.getfield 65, 3) := by decide +kernel
theorem dX9_back_81 : decode cX9_back 81 = .ok (.bipush 12, 2) := by decide +kernel
theorem dX9_back_83 : decode cX9_back 83 = .ok (.iload_n 1, 1) := by decide +kernel
theorem dX9_back_84 : decode cX9_back 84 = .ok (.iadd, 1) := by decide +kernel
theorem dX9_back_85 : decode cX9_back 85 = .ok (.iaload, 1) := by decide +kernel
theorem dX9_back_86 : decode cX9_back 86 = .ok (.iastore, 1) := by decide +kernel
theorem dX9_back_87 : decode cX9_back 87 = .ok (.iinc 1 1, 3) := by decide +kernel
theorem dX9_back_90 : decode cX9_back 90 = .ok (.goto (-51), 3) := by decide +kernel
theorem dX9_back_93 : decode cX9_back 93 = .ok (.aload_n 0, 1) := by decide +kernel
theorem dX9_back_94 : decode cX9_back 94 = .ok (.aload_n 0, 1) := by decide +kernel
theorem dX9_back_95 : decode cX9_back 95 = .ok (.getfield 68, 3) := by decide +kernel
theorem dX9_back_98 : decode cX9_back 98 = .ok (.putfield 91, 3) := by decide +kernel
theorem dX9_back_101 : decode cX9_back 101 = .ok (.aload_n 0, 1) := by decide +kernel
theorem dX9_back_102 : decode cX9_back 102 = .ok (.aload_n 0, 1) := by decide +kernel
theorem dX9_back_103 : decode cX9_back 103 = .ok (.getfield 359, 3) := by decide +kernel
theorem dX9_back_106 : decode cX9_back 106 = .ok (.putfield 242, 3) := by decide +kernel
theorem dX9_back_109 : decode cX9_back 109 = .ok (.aload_n 0, 1) := by decide +kernel
theorem dX9_back_110 : decode cX9_back 110 = .ok (.getfield 91, 3) := by decide +kernel
theorem dX9_back_113 : decode cX9_back 113 = .ok (.ireturn, 1) := by decide +kernel
theorem dX9_count_0 : decode cX9_count 0 = .ok (.iload_n 1, 1) := by decide +kernel
theorem dX9_count_1 : decode cX9_count 1 = .ok (.i2l, 1) := by decide +kernel
theorem dX9_count_2 : decode cX9_count 2 = .ok (.lconst 0, 1) := by decide +kernel
theorem dX9_count_3 : decode cX9_count 3 = .ok (.ldc2_w 106, 3) := by decide +kernel
theorem dX9_count_6 : decode cX9_count 6 = .ok (.invokestatic 94, 3) := by decide +kernel
theorem dX9_count_9 : decode cX9_count 9 = .ok (.ifCond .ne 6, 3) := by decide +kernel
theorem dX9_count_12 : decode cX9_count 12 = .ok (.bipush (-2), 2) := by decide +kernel
theorem dX9_count_14 : decode cX9_count 14 = .ok (.ireturn, 1) := by decide +kernel
theorem dX9_count_15 : decode cX9_count 15 = .ok (.iload_n 1, 1) := by decide +kernel
theorem dX9_count_16 : decode cX9_count 16 = .ok (.ifCond .ne 8, 3) := by decide +kernel
theorem dX9_count_19 : decode cX9_count 19 = .ok (.aload_n 0, 1) := by decide +kernel
theorem dX9_count_20 : decode cX9_count 20 = .ok (.getfield 91, 3) := by decide +kernel
theorem dX9_count_23 : decode cX9_count 23 = .ok (.ireturn, 1) := by decide +kernel
theorem dX9_count_24 : decode cX9_count 24 = .ok (.iload_n 1, 1) := by decide +kernel
theorem dX9_count_25 : decode cX9_count 25 = .ok (.bipush 7, 2) := by decide +kernel
theorem dX9_count_27 : decode cX9_count 27 = .ok (.if_icmp .ge 14, 3) := by decide +kernel
theorem dX9_count_30 : decode cX9_count 30 = .ok (.aload_n 0, 1) := by decide +kernel
theorem dX9_count_31 : decode cX9_count 31 = .ok (.getfield 23, 3) := by decide +kernel
theorem dX9_count_34 : decode cX9_count 34 = .ok (.iload_n 1, 1) := by decide +kernel
theorem dX9_count_35 : decode cX9_count 35 = .ok (.iconst 1, 1) := by decide +kernel
theorem dX9_count_36 : decode cX9_count 36 = .ok (.isub, 1) := by decide +kernel
theorem dX9_count_37 : decode cX9_count 37 = .ok (.iaload, 1) := by decide +kernel
theorem dX9_count_38 : decode cX9_count 38 = .ok (.goto 33, 3) := by decide +kernel
theorem dX9_count_41 : decode cX9_count 41 = .ok (.iload_n 1, 1) := by decide +kernel
theorem dX9_count_42 : decode cX9_count 42 = .ok (.bipush 7, 2) := by decide +kernel
theorem dX9_count_44 : decode cX9_count 44 = .ok (.if_icmp .ne 10, 3) := by decide +kernel
theorem dX9_count_47 : decode cX9_count 47 = .ok (.aload_n 0, 1) := by decide +kernel
theorem dX9_count_48 : decode cX9_count 48 = .ok (.getfield 88, 3) := by decide +kernel
theorem dX9_count_51 : decode cX9_count 51 = .ok (.goto 20, 3) := by decide +kernel
theorem dX9_count_54 : decode cX9_count 54 = .ok (.iload_n 1, 1) := by decide +kernel
theorem dX9_count_55 : decode cX9_count 55 = .ok (.bipush 8, 2) := by decide +kernel
theorem dX9_count_57 : decode cX9_count 57 = .ok (.if_icmp .ne 10, 3) := by decide +kernel
theorem dX9_count_60 : decode cX9_count 60 = .ok (.aload_n 0, 1) := by decide +kernel
theorem dX9_count_61 : decode cX9_count 61 = .ok (.getfield 124, 3) := by decide +kernel
theorem dX9_count_64 : decode cX9_count 64 = .ok (.goto 7, 3) := by decide +kernel
theorem dX9_count_67 : decode cX9_count 67 = .ok (.aload_n 0, 1) := by decide +kernel
theorem dX9_count_68 : decode cX9_count 68 = .ok (.getfield 242, 3) := by decide +kernel
theorem dX9_count_71 : decode cX9_count 71 = .ok (.ireturn, 1) := by decide +kernel
theorem dX9_cell_0 : decode cX9_cell 0 = .ok (.iload_n 1, 1) := by decide +kernel
theorem dX9_cell_1 : decode cX9_cell 1 = .ok (.invokestatic 303, 3) := by decide +kernel
theorem dX9_cell_4 : decode cX9_cell 4 = .ok (.ifCond .ne 6, 3) := by decide +kernel
theorem dX9_cell_7 : decode cX9_cell 7 = .ok (.bipush (-2), 2) := by decide +kernel
theorem dX9_cell_9 : decode cX9_cell 9 = .ok (.ireturn, 1) := by decide +kernel
theorem dX9_cell_10 : decode cX9_cell 10 = .ok (.aload_n 0, 1) := by decide +kernel
theorem dX9_cell_11 : decode cX9_cell 11 = .ok (.getfield 71, 3) := by decide +kernel
theorem dX9_cell_14 : decode cX9_cell 14 = .ok (.iload_n 1, 1) := by decide +kernel
theorem dX9_cell_15 : decode cX9_cell 15 = .ok (.baload, 1) := by decide +kernel
theorem dX9_cell_16 : decode cX9_cell 16 = .ok (.ifCond .ne 6, 3) := by decide +kernel
theorem dX9_cell_19 : decode cX9_cell 19 = .ok (.bipush (-11), 2) := by decide +kernel
theorem dX9_cell_21 : decode cX9_cell 21 = .ok (.ireturn, 1) := by decide +kernel
theorem dX9_cell_22 : decode cX9_cell 22 = .ok (.iload_n 2, 1) := by decide +kernel
theorem dX9_cell_23 : decode cX9_cell 23 = .ok (.i2l, 1) := by decide +kernel
theorem dX9_cell_24 : decode cX9_cell 24 = .ok (.lconst 0, 1) := by decide +kernel
theorem dX9_cell_25 : decode cX9_cell 25 = .ok (.aload_n 0, 1) := by decide +kernel
theorem dX9_cell_26 : decode cX9_cell 26 = .ok (.getfield 78, 3) := by decide +kernel
theorem dX9_cell_29 : decode cX9_cell 29 = .ok (.iload_n 1, 1) := by decide +kernel
theorem dX9_cell_30 : decode cX9_cell 30 = .ok (.iaload, 1) := by decide +kernel
theorem dX9_cell_31 : decode cX9_cell 31 = .ok (.iconst 1, 1) := by decide +kernel
theorem dX9_cell_32 : decode cX9_cell 32 = .ok (.isub, 1) := by decide +kernel
theorem dX9_cell_33 : decode cX9_cell 33 = .ok (.i2l, 1) := by decide +kernel
theorem dX9_cell_34 : decode cX9_cell 34 = .ok (.invokestatic 94, 3) := by decide +kernel
theorem dX9_cell_37 : decode cX9_cell 37 = .ok (.ifCond .ne 6, 3) := by decide +kernel
theorem dX9_cell_40 : decode cX9_cell 40 = .ok (.bipush (-12), 2) := by decide +kernel
theorem dX9_cell_42 : decode cX9_cell 42 = .ok (.ireturn, 1) := by decide +kernel
theorem dX9_cell_43 : decode cX9_cell 43 = .ok (.aload_n 0, 1) := by decide +kernel
theorem dX9_cell_44 : decode cX9_cell 44 = .ok (.getfield 81, 3) := by decide +kernel
theorem dX9_cell_47 : decode cX9_cell 47 = .ok (.bipush 40, 2) := by decide +kernel
theorem dX9_cell_49 : decode cX9_cell 49 = .ok (.iload_n 1, 1) := by decide +kernel
theorem dX9_cell_50 : decode cX9_cell 50 = .ok (.imul, 1) := by decide +kernel
theorem dX9_cell_51 : decode cX9_cell 51 = .ok (.iload_n 2, 1) := by decide +kernel
theorem dX9_cell_52 : decode cX9_cell 52 = .ok (.iadd, 1) := by decide +kernel
theorem dX9_cell_53 : decode cX9_cell 53 = .ok (.aload_n 0, 1) := by decide +kernel
theorem dX9_cell_54 : decode cX9_cell 54 = .ok (.getfield 75, 3) := by decide +kernel
theorem dX9_cell_57 : decode cX9_cell 57 = .ok (.iload_n 1, 1) := by decide +kernel
theorem dX9_cell_58 : decode cX9_cell 58 = .ok (.iaload, 1) := by decide +kernel
theorem dX9_cell_59 : decode cX9_cell 59 = .ok (.ifCond .ne 8, 3) := by decide +kernel
theorem dX9_cell_62 : decode cX9_cell 62 = .ok (.iload_n 3, 1) := by decide +kernel
theorem dX9_cell_63 : decode cX9_cell 63 = .ok (.i2b, 1) := by decide +kernel
theorem dX9_cell_64 : decode cX9_cell 64 = .ok (.goto 19, 3) := by decide +kernel
theorem dX9_cell_67 : decode cX9_cell 67 = .ok (.aload_n 0, 1) := by decide +kernel
theorem dX9_cell_68 : decode cX9_cell 68 = .ok (.getfield 75, 3) := by decide +kernel
theorem dX9_cell_71 : decode cX9_cell 71 = .ok (.iload_n 1, 1) := by decide +kernel
theorem dX9_cell_72 : decode cX9_cell 72 = .ok (.iaload, 1) := by decide +kernel
theorem dX9_cell_73 : decode cX9_cell 73 = .ok (.iconst 1, 1) := by decide +kernel
theorem dX9_cell_74 : decode cX9_cell 74 = .ok (.if_icmp .ne 8, 3) := by decide +kernel
theorem dX9_cell_77 : decode cX9_cell 77 = .ok (.iload_n 3, 1) := by decide +kernel
theorem dX9_cell_78 : decode cX9_cell 78 = .ok (.i2s, 1) := by decide +kernel
theorem dX9_cell_79 : decode cX9_cell 79 = .ok (.goto 4, 3) := by decide +kernel
theorem dX9_cell_82 : decode cX9_cell 82 = .ok (.iload_n 3, 1) := by decide +kernel
theorem dX9_cell_83 : decode cX9_cell 83 = .ok (.iastore, 1) := by decide +kernel
theorem dX9_cell_84 : decode cX9_cell 84 = .ok (.iconst 1, 1) := by decide +kernel
theorem dX9_cell_85 : decode cX9_cell 85 = .ok (.ireturn, 1) := by decide +kernel
theorem dX9_copy_0 : decode cX9_copy 0 = .ok (.iload_n 1, 1) := by decide +kernel
theorem dX9_copy_1 : decode cX9_copy 1 = .ok (.invokestatic 303, 3) := by decide +kernel
theorem dX9_copy_4 : decode cX9_copy 4 = .ok (.ifCond .eq 10, 3) := by decide +kernel
theorem dX9_copy_7 : decode cX9_copy 7 = .ok (.iload_n 3, 1) := by decide +kernel
theorem dX9_copy_8 : decode cX9_copy 8 = .ok (.invokestatic 303, 3) := by decide +kernel
theorem dX9_copy_11 : decode cX9_copy 11 = .ok (.ifCond .ne 6, 3) := by decide +kernel
theorem dX9_copy_14 : decode cX9_copy 14 = .ok (.bipush (-2), 2) := by decide +kernel
theorem dX9_copy_16 : decode cX9_copy 16 = .ok (.ireturn, 1) := by decide +kernel
theorem dX9_copy_17 : decode cX9_copy 17 = .ok (.aload_n 0, 1) := by decide +kernel
theorem dX9_copy_18 : decode cX9_copy 18 = .ok (.getfield 71, 3) := by decide +kernel
theorem dX9_copy_21 : decode cX9_copy 21 = .ok (.iload_n 1, 1) := by decide +kernel
theorem dX9_copy_22 : decode cX9_copy 22 = .ok (.baload, 1) := by decide +kernel
theorem dX9_copy_23 : decode cX9_copy 23 = .ok (.ifCond .eq 12, 3) := by decide +kernel
theorem dX9_copy_26 : decode cX9_copy 26 = .ok (.aload_n 0, 1) := by decide +kernel
theorem dX9_copy_27 : decode cX9_copy 27 = .ok (.getfield 71, 3) := by decide +kernel
theorem dX9_copy_30 : decode cX9_copy 30 = .ok (.iload_n 3, 1) := by decide +kernel
theorem dX9_copy_31 : decode cX9_copy 31 = .ok (.baload, 1) := by decide +kernel
theorem dX9_copy_32 : decode cX9_copy 32 = .ok (.ifCond .ne 6, 3) := by decide +kernel
theorem dX9_copy_35 : decode cX9_copy 35 = .ok (.bipush (-11), 2) := by decide +kernel
theorem dX9_copy_37 : decode cX9_copy 37 = .ok (.ireturn, 1) := by decide +kernel
theorem dX9_copy_38 : decode cX9_copy 38 = .ok (.aload_n 0, 1) := by decide +kernel
theorem dX9_copy_39 : decode cX9_copy 39 = .ok (.getfield 75, 3) := by decide +kernel
theorem dX9_copy_42 : decode cX9_copy 42 = .ok (.iload_n 1, 1) := by decide +kernel
theorem dX9_copy_43 : decode cX9_copy 43 = .ok (.iaload, 1) := by decide +kernel
theorem dX9_copy_44 : decode cX9_copy 44 = .ok (.aload_n 0, 1) := by decide +kernel
theorem dX9_copy_45 : decode cX9_copy 45 = .ok (.getfield 75, 3) := by decide +kernel
theorem dX9_copy_48 : decode cX9_copy 48 = .ok (.iload_n 3, 1) := by decide +kernel
theorem dX9_copy_49 : decode cX9_copy 49 = .ok (.iaload, 1) := by decide +kernel
theorem dX9_copy_50 : decode cX9_copy 50 = .ok (.if_icmp .eq 6, 3) := by decide +kernel
theorem dX9_copy_53 : decode cX9_copy 53 = .ok (.bipush (-13), 2) := by decide +kernel
theorem dX9_copy_55 : decode cX9_copy 55 = .ok (.ireturn, 1) := by decide +kernel
theorem dX9_copy_56 : decode cX9_copy 56 = .ok (.iload 5, 2) := by decide +kernel
theorem dX9_copy_58 : decode cX9_copy 58 = .ok (.ifCond .lt 39, 3) := by decide +kernel
theorem dX9_copy_61 : decode cX9_copy 61 = .ok (.iload_n 2, 1) := by decide +kernel
theorem dX9_copy_62 : decode cX9_copy 62 = .ok (.ifCond .lt 35, 3) := by decide +kernel
theorem dX9_copy_65 : decode cX9_copy 65 = .ok (.iload 4, 2) := by decide +kernel
theorem dX9_copy_67 : decode cX9_copy 67 = .ok (.ifCond .lt 30, 3) := by decide +kernel
theorem dX9_copy_70 : decode cX9_copy 70 = .ok (.iload_n 2, 1) := by decide +kernel
theorem dX9_copy_71 : decode cX9_copy 71 = .ok (.aload_n 0, 1) := by decide +kernel
theorem dX9_copy_72 : decode cX9_copy 72 = .ok (.getfield 78, 3) := by decide +kernel
theorem dX9_copy_75 : decode cX9_copy 75 = .ok (.iload_n 1, 1) := by decide +kernel
theorem dX9_copy_76 : decode cX9_copy 76 = .ok (.iaload, 1) := by decide +kernel
theorem dX9_copy_77 : decode cX9_copy 77 = .ok (.iload 5, 2) := by decide +kernel
theorem dX9_copy_79 : decode cX9_copy 79 = .ok (.isub, 1) := by decide +kernel
theorem dX9_copy_80 : decode cX9_copy 80 = .ok (.if_icmp .gt 17, 3) := by decide +kernel
theorem dX9_copy_83 : decode cX9_copy 83 = .ok (.iload 4, 2) := by decide +kernel
theorem dX9_copy_85 : decode cX9_copy 85 = .ok (.aload_n 0, 1) := by decide +kernel
theorem dX9_copy_86 : decode cX9_copy 86 = .ok (.getfield 78, 3) := by decide +kernel
theorem dX9_copy_89 : decode cX9_copy 89 = .ok (.iload_n 3, 1) := by decide +kernel
theorem dX9_copy_90 : decode cX9_copy 90 = .ok (.iaload, 1) := by decide +kernel
theorem dX9_copy_91 : decode cX9_copy 91 = .ok (.iload 5, 2) := by decide +kernel
theorem dX9_copy_93 : decode cX9_copy 93 = .ok (.isub, 1) := by decide +kernel
theorem dX9_copy_94 : decode cX9_copy 94 = .ok (.if_icmp .le 6, 3) := by decide +kernel
theorem dX9_copy_97 : decode cX9_copy 97 = .ok (.bipush (-12), 2) := by decide +kernel
theorem dX9_copy_99 : decode cX9_copy 99 = .ok (.ireturn, 1) := by decide +kernel
theorem dX9_copy_100 : decode cX9_copy 100 = .ok (.iload_n 1, 1) := by decide +kernel
theorem dX9_copy_101 : decode cX9_copy 101 = .ok (.iload_n 3, 1) := by decide +kernel
theorem dX9_copy_102 : decode cX9_copy 102 = .ok (.if_icmp .ne 13, 3) := by decide +kernel
theorem dX9_copy_105 : decode cX9_copy 105 = .ok (.iload_n 2, 1) := by decide +kernel
theorem dX9_copy_106 : decode cX9_copy 106 = .ok (.iload 4, 2) := by decide +kernel
theorem dX9_copy_108 : decode cX9_copy 108 = .ok (.if_icmp .ge 7, 3) := by decide +kernel
theorem dX9_copy_111 : decode cX9_copy 111 = .ok (.iconst 1, 1) := by decide +kernel
theorem dX9_copy_112 : decode cX9_copy 112 = .ok (.goto 4, 3) := by decide +kernel
theorem dX9_copy_115 : decode cX9_copy 115 = .ok (.iconst 0, 1) := by decide +kernel
theorem dX9_copy_116 : decode cX9_copy 116 = .ok (.istore 6, 2) := by decide +kernel
theorem dX9_copy_118 : decode cX9_copy 118 = .ok (.iconst 0, 1) := by decide +kernel
theorem dX9_copy_119 : decode cX9_copy 119 = .ok (.istore 7, 2) := by decide +kernel
theorem dX9_copy_121 : decode cX9_copy 121 = .ok (.iload 7, 2) := by decide +kernel
theorem dX9_copy_123 : decode cX9_copy 123 = .ok (.iload 5, 2) := by decide +kernel
theorem dX9_copy_125 : decode cX9_copy 125 = .ok (.if_icmp .ge 57, 3) := by decide +kernel
theorem dX9_copy_128 : decode cX9_copy 128 = .ok (.iload 6, 2) := by decide +kernel
theorem dX9_copy_130 : decode cX9_copy 130 = .ok (.ifCond .eq 13, 3) := by decide +kernel
theorem dX9_copy_133 : decode cX9_copy 133 = .ok (.iload 5, 2) := by decide +kernel
theorem dX9_copy_135 : decode cX9_copy 135 = .ok (.iconst 1, 1) := by decide +kernel
theorem dX9_copy_136 : decode cX9_copy 136 = .ok (.isub, 1) := by decide +kernel
theorem dX9_copy_137 : decode cX9_copy 137 = .ok (.iload 7, 2) := by decide +kernel
theorem dX9_copy_139 : decode cX9_copy 139 = .ok (.isub, 1) := by decide +kernel
theorem dX9_copy_140 : decode cX9_copy 140 = .ok (.goto 5, 3) := by decide +kernel
theorem dX9_copy_143 : decode cX9_copy 143 = .ok (.iload 7, 2) := by decide +kernel
theorem dX9_copy_145 : decode cX9_copy 145 = .ok (.istore 8, 2) := by decide +kernel
theorem dX9_copy_147 : decode cX9_copy 147 = .ok (.aload_n 0, 1) := by decide +kernel
theorem dX9_copy_148 : decode cX9_copy 148 = .ok (.getfield 81, 3) := by decide +kernel
theorem dX9_copy_151 : decode cX9_copy 151 = .ok (.bipush 40, 2) := by decide +kernel
theorem dX9_copy_153 : decode cX9_copy 153 = .ok (.iload_n 3, 1) := by decide +kernel
theorem dX9_copy_154 : decode cX9_copy 154 = .ok (.imul, 1) := by decide +kernel
theorem dX9_copy_155 : decode cX9_copy 155 = .ok (.iload 4, 2) := by decide +kernel
theorem dX9_copy_157 : decode cX9_copy 157 = .ok (.iadd, 1) := by decide +kernel
theorem dX9_copy_158 : decode cX9_copy 158 = .ok (.iload 8, 2) := by decide +kernel
theorem dX9_copy_160 : decode cX9_copy 160 = .ok (.iadd, 1) := by decide +kernel
theorem dX9_copy_161 : decode cX9_copy 161 = .ok (.aload_n 0, 1) := by decide +kernel
theorem dX9_copy_162 : decode cX9_copy 162 = .ok (.getfield 81, 3) := by decide +kernel
theorem dX9_copy_165 : decode cX9_copy 165 = .ok (.bipush 40, 2) := by decide +kernel
theorem dX9_copy_167 : decode cX9_copy 167 = .ok (.iload_n 1, 1) := by decide +kernel
theorem dX9_copy_168 : decode cX9_copy 168 = .ok (.imul, 1) := by decide +kernel
theorem dX9_copy_169 : decode cX9_copy 169 = .ok (.iload_n 2, 1) := by decide +kernel
theorem dX9_copy_170 : decode cX9_copy 170 = .ok (.iadd, 1) := by decide +kernel
theorem dX9_copy_171 : decode cX9_copy 171 = .ok (.iload 8, 2) := by decide +kernel
theorem dX9_copy_173 : decode cX9_copy 173 = .ok (.iadd, 1) := by decide +kernel
theorem dX9_copy_174 : decode cX9_copy 174 = .ok (.iaload, 1) := by decide +kernel
theorem dX9_copy_175 : decode cX9_copy 175 = .ok (.iastore, 1) := by decide +kernel
theorem dX9_copy_176 : decode cX9_copy 176 = .ok (.iinc 7 1, 3) := by decide +kernel
theorem dX9_copy_179 : decode cX9_copy 179 = .ok (.goto (-58), 3) := by decide +kernel
theorem dX9_copy_182 : decode cX9_copy 182 = .ok (.iload 5, 2) := by decide +kernel
theorem dX9_copy_184 : decode cX9_copy 184 = .ok (.ireturn, 1) := by decide +kernel
theorem dX9_walls_0 : decode cX9_walls 0 = .ok (.iload_n 1, 1) := by decide +kernel
theorem dX9_walls_1 : decode cX9_walls 1 = .ok (.invokestatic 303, 3) := by decide +kernel
theorem dX9_walls_4 : decode cX9_walls 4 = .ok (.ifCond .eq 28, 3) := by decide +kernel
theorem dX9_walls_7 : decode cX9_walls 7 = .ok (.iload_n 2, 1) := by decide +kernel
theorem dX9_walls_8 : decode cX9_walls 8 = .ok (.i2l, 1) := by decide +kernel
theorem dX9_walls_9 : decode cX9_walls 9 = .ok (.lconst 0, 1) := by decide +kernel
theorem dX9_walls_10 : decode cX9_walls 10 = .ok (.ldc2_w 322, 3) := by decide +kernel
theorem dX9_walls_13 : decode cX9_walls 13 = .ok (.invokestatic 94, 3) := by decide +kernel
theorem dX9_walls_16 : decode cX9_walls 16 = .ok (.ifCond .eq 16, 3) := by decide +kernel
theorem dX9_walls_19 : decode cX9_walls 19 = .ok (.iload 4, 2) := by decide +kernel
theorem dX9_walls_21 : decode cX9_walls 21 = .ok (.i2l, 1) := by decide +kernel
theorem dX9_walls_22 : decode cX9_walls 22 = .ok (.lconst 0, 1) := by decide +kernel
theorem dX9_walls_23 : decode cX9_walls 23 = .ok (.ldc2_w 110, 3) := by decide +kernel
theorem dX9_walls_26 : decode cX9_walls 26 = .ok (.invokestatic 94, 3) := by decide +kernel
theorem dX9_walls_29 : decode cX9_walls 29 = .ok (.ifCond .ne 6, 3) := by decide +kernel
theorem dX9_walls_32 : decode cX9_walls 32 = .ok (.bipush (-2), 2) := by decide +kernel
theorem dX9_walls_34 : decode cX9_walls 34 = .ok (.ireturn, 1) := by decide +kernel
theorem dX9_walls_35 : decode cX9_walls 35 = .ok (.aload_n 0, 1) := by decide +kernel
theorem dX9_walls_36 : decode cX9_walls 36 = .ok (.getfield 71, 3) := by decide +kernel
theorem dX9_walls_39 : decode cX9_walls 39 = .ok (.iload_n 1, 1) := by decide +kernel
theorem dX9_walls_40 : decode cX9_walls 40 = .ok (.baload, 1) := by decide +kernel
theorem dX9_walls_41 : decode cX9_walls 41 = .ok (.ifCond .eq 16, 3) := by decide +kernel
theorem dX9_walls_44 : decode cX9_walls 44 = .ok (.aload_n 0, 1) := by decide +kernel
theorem dX9_walls_45 : decode cX9_walls 45 = .ok (.getfield 75, 3) := by decide +kernel
theorem dX9_walls_48 : decode cX9_walls 48 = .ok (.iload_n 1, 1) := by decide +kernel
theorem dX9_walls_49 : decode cX9_walls 49 = .ok (.iaload, 1) := by decide +kernel
theorem dX9_walls_50 : decode cX9_walls 50 = .ok (.iload_n 2, 1) := by decide +kernel
theorem dX9_walls_51 : decode cX9_walls 51 = .ok (.if_icmp .eq 6, 3) := by decide +kernel
theorem dX9_walls_54 : decode cX9_walls 54 = .ok (.bipush (-13), 2) := by decide +kernel
theorem dX9_walls_56 : decode cX9_walls 56 = .ok (.ireturn, 1) := by decide +kernel
theorem dX9_walls_57 : decode cX9_walls 57 = .ok (.aload_n 0, 1) := by decide +kernel
theorem dX9_walls_58 : decode cX9_walls 58 = .ok (.getfield 71, 3) := by decide +kernel
theorem dX9_walls_61 : decode cX9_walls 61 = .ok (.iload_n 1, 1) := by decide +kernel
theorem dX9_walls_62 : decode cX9_walls 62 = .ok (.baload, 1) := by decide +kernel
theorem dX9_walls_63 : decode cX9_walls 63 = .ok (.ifCond .ne 6, 3) := by decide +kernel
theorem dX9_walls_66 : decode cX9_walls 66 = .ok (.bipush (-11), 2) := by decide +kernel
theorem dX9_walls_68 : decode cX9_walls 68 = .ok (.ireturn, 1) := by decide +kernel
theorem dX9_walls_69 : decode cX9_walls 69 = .ok (.iconst 0, 1) := by decide +kernel
theorem dX9_walls_70 : decode cX9_walls 70 = .ok (.istore 5, 2) := by decide +kernel
theorem dX9_walls_72 : decode cX9_walls 72 = .ok (.iconst 0, 1) := by decide +kernel
theorem dX9_walls_73 : decode cX9_walls 73 = .ok (.istore 6, 2) := by decide +kernel
theorem dX9_walls_75 : decode cX9_walls 75 = .ok (.iload 6, 2) := by decide +kernel
theorem dX9_walls_77 : decode cX9_walls 77 = .ok (.iload 4, 2) := by decide +kernel
theorem dX9_walls_79 : decode cX9_walls 79 = .ok (.if_icmp .ge 88, 3) := by decide +kernel
theorem dX9_walls_82 : decode cX9_walls 82 = .ok (.iload_n 3, 1) := by decide +kernel
theorem dX9_walls_83 : decode cX9_walls 83 = .ok (.ifCond .lt 20, 3) := by decide +kernel
theorem dX9_walls_86 : decode cX9_walls 86 = .ok (.iload_n 3, 1) := by decide +kernel
theorem dX9_walls_87 : decode cX9_walls 87 = .ok (.aload_n 0, 1) := by decide +kernel
theorem dX9_walls_88 : decode cX9_walls 88 = .ok (.getfield 78, 3) := by decide +kernel
theorem dX9_walls_91 : decode cX9_walls 91 = .ok (.iload_n 1, 1) := by decide +kernel
theorem dX9_walls_92 : decode cX9_walls 92 = .ok (.iaload, 1) := by decide +kernel
theorem dX9_walls_93 : decode cX9_walls 93 = .ok (.iconst 3, 1) := by decide +kernel
theorem dX9_walls_94 : decode cX9_walls 94 = .ok (.iload 6, 2) := by decide +kernel
theorem dX9_walls_96 : decode cX9_walls 96 = .ok (.imul, 1) := by decide +kernel
theorem dX9_walls_97 : decode cX9_walls 97 = .ok (.isub, 1) := by decide +kernel
theorem dX9_walls_98 : decode cX9_walls 98 = .ok (.iconst 3, 1) := by decide +kernel
theorem dX9_walls_99 : decode cX9_walls 99 = .ok (.isub, 1) := by decide +kernel
theorem dX9_walls_100 : decode cX9_walls 100 = .ok (.if_icmp .le 6, 3) := by decide +kernel
theorem dX9_walls_103 : decode cX9_walls 103 = .ok (.bipush (-12), 2) := by decide +kernel
theorem dX9_walls_105 : decode cX9_walls 105 = .ok (.ireturn, 1) := by decide +kernel
theorem dX9_walls_106 : decode cX9_walls 106 = .ok (.bipush 40, 2) := by decide +kernel
theorem dX9_walls_108 : decode cX9_walls 108 = .ok (.iload_n 1, 1) := by decide +kernel
theorem dX9_walls_109 : decode cX9_walls 109 = .ok (.imul, 1) := by decide +kernel
theorem dX9_walls_110 : decode cX9_walls 110 = .ok (.iload_n 3, 1) := by decide +kernel
theorem dX9_walls_111 : decode cX9_walls 111 = .ok (.iadd, 1) := by decide +kernel
theorem dX9_walls_112 : decode cX9_walls 112 = .ok (.iconst 3, 1) := by decide +kernel
theorem dX9_walls_113 : decode cX9_walls 113 = .ok (.iload 6, 2) := by decide +kernel
theorem dX9_walls_115 : decode cX9_walls 115 = .ok (.imul, 1) := by decide +kernel
theorem dX9_walls_116 : decode cX9_walls 116 = .ok (.iadd, 1) := by decide +kernel
theorem dX9_walls_117 : decode cX9_walls 117 = .ok (.istore 7, 2) := by decide +kernel
theorem dX9_walls_119 : decode cX9_walls 119 = .ok (.iload 5, 2) := by decide +kernel
theorem dX9_walls_121 : decode cX9_walls 121 = .ok (.aload_n 0, 1) := by decide +kernel
theorem dX9_walls_122 : decode cX9_walls 122 = .ok (.aload_n 0, 1) := by decide +kernel
theorem dX9_walls_123 : decode cX9_walls 123 = .ok (.getfield 81, 3) := by decide +kernel
theorem dX9_walls_126 : decode cX9_walls 126 = .ok (.iload 7, 2) := by decide +kernel
theorem dX9_walls_128 : decode cX9_walls 128 = .ok (.iaload, 1) := by decide +kernel
theorem dX9_walls_129 : decode cX9_walls 129 = .ok (.aload_n 0, 1) := by decide +kernel
theorem dX9_walls_130 : decode cX9_walls 130 = .ok (.getfield 81, 3) := by decide +kernel
theorem dX9_walls_133 : decode cX9_walls 133 = .ok (.iload 7, 2) := by decide +kernel
theorem dX9_walls_135 : decode cX9_walls 135 = .ok (.iconst 1, 1) := by decide +kernel
theorem dX9_walls_136 : decode cX9_walls 136 = .ok (.iadd, 1) := by decide +kernel
theorem dX9_walls_137 : decode cX9_walls 137 = .ok (.iaload, 1) := by decide +kernel
theorem dX9_walls_138 : decode cX9_walls 138 = .ok (.aload_n 0, 1) := by decide +kernel
theorem dX9_walls_139 : decode cX9_walls 139 = .ok (.getfield 81, 3) := by decide +kernel
theorem dX9_walls_142 : decode cX9_walls 142 = .ok (.iload 7, 2) := by decide +kernel
theorem dX9_walls_144 : decode cX9_walls 144 = .ok (.iconst 2, 1) := by decide +kernel
theorem dX9_walls_145 : decode cX9_walls 145 = .ok (.iadd, 1) := by decide +kernel
theorem dX9_walls_146 : decode cX9_walls 146 = .ok (.iaload, 1) := by decide +kernel
theorem dX9_walls_147 : decode cX9_walls 147 = .ok (.invokevirtual 364, 3) := by decide +kernel
theorem dX9_walls_150 : decode cX9_walls 150 = .ok (.ifCond .lt 7, 3) := by decide +kernel
theorem dX9_walls_153 : decode cX9_walls 153 = .ok (.iconst 1, 1) := by decide +kernel
theorem dX9_walls_154 : decode cX9_walls 154 = .ok (.goto 4, 3) := by decide +kernel
theorem dX9_walls_157 : decode cX9_walls 157 = .ok (.iconst 0, 1) := by decide +kernel
theorem dX9_walls_158 : decode cX9_walls 158 = .ok (.iadd, 1) := by decide +kernel
theorem dX9_walls_159 : decode cX9_walls 159 = .ok (.istore 5, 2) := by decide +kernel
theorem dX9_walls_161 : decode cX9_walls 161 = .ok (.iinc 6 1, 3) := by decide +kernel
theorem dX9_walls_164 : decode cX9_walls 164 = .ok (.goto (-89), 3) := by decide +kernel
theorem dX9_walls_167 : decode cX9_walls 167 = .ok (.iload 5, 2) := by decide +kernel
theorem dX9_walls_169 : decode cX9_walls 169 = .ok (.ireturn, 1) := by decide +kernel
theorem dX9_over_0 : decode cX9_over 0 = .ok (.iload_n 0, 1) := by decide +kernel
theorem dX9_over_1 : decode cX9_over 1 = .ok (.ifCond .ne 7, 3) := by decide +kernel
theorem dX9_over_4 : decode cX9_over 4 = .ok (.iconst (-1), 1) := by decide +kernel
theorem dX9_over_5 : decode cX9_over 5 = .ok (.goto 22, 3) := by decide +kernel
theorem dX9_over_8 : decode cX9_over 8 = .ok (.iload_n 0, 1) := by decide +kernel
theorem dX9_over_9 : decode cX9_over 9 = .ok (.iconst 3, 1) := by decide +kernel
theorem dX9_over_10 : decode cX9_over 10 = .ok (.if_icmp .ne 7, 3) := by decide +kernel
theorem dX9_over_13 : decode cX9_over 13 = .ok (.iconst 1, 1) := by decide +kernel
theorem dX9_over_14 : decode cX9_over 14 = .ok (.goto 13, 3) := by decide +kernel
theorem dX9_over_17 : decode cX9_over 17 = .ok (.iload_n 0, 1) := by decide +kernel
theorem dX9_over_18 : decode cX9_over 18 = .ok (.iconst 4, 1) := by decide +kernel
theorem dX9_over_19 : decode cX9_over 19 = .ok (.if_icmp .ne 7, 3) := by decide +kernel
theorem dX9_over_22 : decode cX9_over 22 = .ok (.iconst 2, 1) := by decide +kernel
theorem dX9_over_23 : decode cX9_over 23 = .ok (.goto 4, 3) := by decide +kernel
theorem dX9_over_26 : decode cX9_over 26 = .ok (.iconst 0, 1) := by decide +kernel
theorem dX9_over_27 : decode cX9_over 27 = .ok (.ireturn, 1) := by decide +kernel
theorem dX9_taken_0 : decode cX9_taken 0 = .ok (.iload_n 2, 1) := by decide +kernel
theorem dX9_taken_1 : decode cX9_taken 1 = .ok (.i2l, 1) := by decide +kernel
theorem dX9_taken_2 : decode cX9_taken 2 = .ok (.lconst 0, 1) := by decide +kernel
theorem dX9_taken_3 : decode cX9_taken 3 = .ok (.ldc2_w 104, 3) := by decide +kernel
theorem dX9_taken_6 : decode cX9_taken 6 = .ok (.invokestatic 94, 3) := by decide +kernel
theorem dX9_taken_9 : decode cX9_taken 9 = .ok (.ifCond .ne 6, 3) := by decide +kernel
theorem dX9_taken_12 : decode cX9_taken 12 = .ok (.bipush (-2), 2) := by decide +kernel
theorem dX9_taken_14 : decode cX9_taken 14 = .ok (.ireturn, 1) := by decide +kernel
theorem dX9_taken_15 : decode cX9_taken 15 = .ok (.aload_n 0, 1) := by decide +kernel
theorem dX9_taken_16 : decode cX9_taken 16 = .ok (.iload_n 1, 1) := by decide +kernel
theorem dX9_taken_17 : decode cX9_taken 17 = .ok (.invokevirtual 100, 3) := by decide +kernel
theorem dX9_taken_20 : decode cX9_taken 20 = .ok (.ifCond .ne 6, 3) := by decide +kernel
theorem dX9_taken_23 : decode cX9_taken 23 = .ok (.bipush (-11), 2) := by decide +kernel
theorem dX9_taken_25 : decode cX9_taken 25 = .ok (.ireturn, 1) := by decide +kernel
theorem dX9_taken_26 : decode cX9_taken 26 = .ok (.aload_n 0, 1) := by decide +kernel
theorem dX9_taken_27 : decode cX9_taken 27 = .ok (.getfield 26, 3) := by decide +kernel
theorem dX9_taken_30 : decode cX9_taken 30 = .ok (.iload_n 1, 1) := by decide +kernel
theorem dX9_taken_31 : decode cX9_taken 31 = .ok (.iaload, 1) := by decide +kernel
theorem dX9_taken_32 : decode cX9_taken 32 = .ok (.istore_n 3, 1) := by decide +kernel
theorem dX9_taken_33 : decode cX9_taken 33 = .ok (.iload_n 3, 1) := by decide +kernel
theorem dX9_taken_34 : decode cX9_taken 34 = .ok (.iconst (-1), 1) := by decide +kernel
theorem dX9_taken_35 : decode cX9_taken 35 = .ok (.if_icmp .eq 16, 3) := by decide +kernel
theorem dX9_taken_38 : decode cX9_taken 38 = .ok (.iload_n 3, 1) := by decide +kernel
theorem dX9_taken_39 : decode cX9_taken 39 = .ok (.iload_n 2, 1) := by decide +kernel
theorem dX9_taken_40 : decode cX9_taken 40 = .ok (.if_icmp .eq 11, 3) := by decide +kernel
theorem dX9_taken_43 : decode cX9_taken 43 = .ok (.iload_n 3, 1) := by decide +kernel
theorem dX9_taken_44 : decode cX9_taken 44 = .ok (.invokestatic 367, 3) := by decide +kernel
theorem dX9_taken_47 : decode cX9_taken 47 = .ok (.istore_n 3, 1) := by decide +kernel
theorem dX9_taken_48 : decode cX9_taken 48 = .ok (.goto (-15), 3) := by decide +kernel
theorem dX9_taken_51 : decode cX9_taken 51 = .ok (.iload_n 3, 1) := by decide +kernel
theorem dX9_taken_52 : decode cX9_taken 52 = .ok (.iload_n 2, 1) := by decide +kernel
theorem dX9_taken_53 : decode cX9_taken 53 = .ok (.if_icmp .ne 12, 3) := by decide +kernel
theorem dX9_taken_56 : decode cX9_taken 56 = .ok (.aload_n 0, 1) := by decide +kernel
theorem dX9_taken_57 : decode cX9_taken 57 = .ok (.getfield 29, 3) := by decide +kernel
theorem dX9_taken_60 : decode cX9_taken 60 = .ok (.iload_n 1, 1) := by decide +kernel
theorem dX9_taken_61 : decode cX9_taken 61 = .ok (.iaload, 1) := by decide +kernel
theorem dX9_taken_62 : decode cX9_taken 62 = .ok (.goto 5, 3) := by decide +kernel
theorem dX9_taken_65 : decode cX9_taken 65 = .ok (.bipush (-13), 2) := by decide +kernel
theorem dX9_taken_67 : decode cX9_taken 67 = .ok (.ireturn, 1) := by decide +kernel
theorem dX9_spell_0 : decode cX9_spell 0 = .ok (.aload_n 0, 1) := by decide +kernel
theorem dX9_spell_1 : decode cX9_spell 1 = .ok (.getfield 13, 3) := by decide +kernel
theorem dX9_spell_4 : decode cX9_spell 4 = .ok (.iload_n 1, 1) := by decide +kernel
theorem dX9_spell_5 : decode cX9_spell 5 = .ok (.iload_n 2, 1) := by decide +kernel
theorem dX9_spell_6 : decode cX9_spell 6 = .ok (.iastore, 1) := by decide +kernel
theorem dX9_spell_7 : decode cX9_spell 7 = .ok (.aload_n 0, 1) := by decide +kernel
theorem dX9_spell_8 : decode cX9_spell 8 = .ok (.getfield 13, 3) := by decide +kernel
theorem dX9_spell_11 : decode cX9_spell 11 = .ok (.iload_n 1, 1) := by decide +kernel
theorem dX9_spell_12 : decode cX9_spell 12 = .ok (.iconst 1, 1) := by decide +kernel
theorem dX9_spell_13 : decode cX9_spell 13 = .ok (.iadd, 1) := by decide +kernel
theorem dX9_spell_14 : decode cX9_spell 14 = .ok (.iload_n 3, 1) := by decide +kernel
theorem dX9_spell_15 : decode cX9_spell 15 = .ok (.iastore, 1) := by decide +kernel
theorem dX9_spell_16 : decode cX9_spell 16 = .ok (.aload_n 0, 1) := by decide +kernel
theorem dX9_spell_17 : decode cX9_spell 17 = .ok (.getfield 13, 3) := by decide +kernel
theorem dX9_spell_20 : decode cX9_spell 20 = .ok (.iload_n 1, 1) := by decide +kernel
theorem dX9_spell_21 : decode cX9_spell 21 = .ok (.iconst 2, 1) := by decide +kernel
theorem dX9_spell_22 : decode cX9_spell 22 = .ok (.iadd, 1) := by decide +kernel
theorem dX9_spell_23 : decode cX9_spell 23 = .ok (.iload 4, 2) := by decide +kernel
theorem dX9_spell_25 : decode cX9_spell 25 = .ok (.iastore, 1) := by decide +kernel
theorem dX9_spell_26 : decode cX9_spell 26 = .ok (.aload_n 0, 1) := by decide +kernel
theorem dX9_spell_27 : decode cX9_spell 27 = .ok (.getfield 13, 3) := by decide +kernel
theorem dX9_spell_30 : decode cX9_spell 30 = .ok (.iload_n 1, 1) := by decide +kernel
theorem dX9_spell_31 : decode cX9_spell 31 = .ok (.iconst 3, 1) := by decide +kernel
theorem dX9_spell_32 : decode cX9_spell 32 = .ok (.iadd, 1) := by decide +kernel
theorem dX9_spell_33 : decode cX9_spell 33 = .ok (.iload 5, 2) := by decide +kernel
theorem dX9_spell_35 : decode cX9_spell 35 = .ok (.iastore, 1) := by decide +kernel
theorem dX9_spell_36 : decode cX9_spell 36 = .ok (.aload_n 0, 1) := by decide +kernel
theorem dX9_spell_37 : decode cX9_spell 37 = .ok (.getfield 13, 3) := by decide +kernel
theorem dX9_spell_40 : decode cX9_spell 40 = .ok (.iload_n 1, 1) := by decide +kernel
theorem dX9_spell_41 : decode cX9_spell 41 = .ok (.iconst 4, 1) := by decide +kernel
theorem dX9_spell_42 : decode cX9_spell 42 = .ok (.iadd, 1) := by decide +kernel
theorem dX9_spell_43 : decode cX9_spell 43 = .ok (.iload 6, 2) := by decide +kernel
theorem dX9_spell_45 : decode cX9_spell 45 = .ok (.iastore, 1) := by decide +kernel
theorem dX9_spell_46 : decode cX9_spell 46 = .ok (.aload_n 0, 1) := by decide +kernel
theorem dX9_spell_47 : decode cX9_spell 47 = .ok (.getfield 13, 3) := by decide +kernel
theorem dX9_spell_50 : decode cX9_spell 50 = .ok (.iload_n 1, 1) := by decide +kernel
theorem dX9_spell_51 : decode cX9_spell 51 = .ok (.iconst 5, 1) := by decide +kernel
theorem dX9_spell_52 : decode cX9_spell 52 = .ok (.iadd, 1) := by decide +kernel
theorem dX9_spell_53 : decode cX9_spell 53 = .ok (.iload 7, 2) := by decide +kernel
theorem dX9_spell_55 : decode cX9_spell 55 = .ok (.iastore, 1) := by decide +kernel
theorem dX9_spell_56 : decode cX9_spell 56 = .ok (.aload_n 0, 1) := by decide +kernel
theorem dX9_spell_57 : decode cX9_spell 57 = .ok (.getfield 13, 3) := by decide +kernel
theorem dX9_spell_60 : decode cX9_spell 60 = .ok (.iload_n 1, 1) := by decide +kernel
theorem dX9_spell_61 : decode cX9_spell 61 = .ok (.bipush 6, 2) := by decide +kernel
theorem dX9_spell_63 : decode cX9_spell 63 = .ok (.iadd, 1) := by decide +kernel
theorem dX9_spell_64 : decode cX9_spell 64 = .ok (.iload 8, 2) := by decide +kernel
theorem dX9_spell_66 : decode cX9_spell 66 = .ok (.iastore, 1) := by decide +kernel
theorem dX9_spell_67 : decode cX9_spell 67 = .ok (.aload_n 0, 1) := by decide +kernel
theorem dX9_spell_68 : decode cX9_spell 68 = .ok (.getfield 13, 3) := by decide +kernel
theorem dX9_spell_71 : decode cX9_spell 71 = .ok (.iload_n 1, 1) := by decide +kernel
theorem dX9_spell_72 : decode cX9_spell 72 = .ok (.bipush 7, 2) := by decide +kernel
theorem dX9_spell_74 : decode cX9_spell 74 = .ok (.iadd, 1) := by decide +kernel
theorem dX9_spell_75 : decode cX9_spell 75 = .ok (.iload 9, 2) := by decide +kernel
theorem dX9_spell_77 : decode cX9_spell 77 = .ok (.iastore, 1) := by decide +kernel
theorem dX9_spell_78 : decode cX9_spell 78 = .ok (.return_, 1) := by decide +kernel
def m_triesFrom_L113 (slf : Mem → Int32 → Int32 → Option Mem) (a1 : Int32) (a2 : Int32) (j2 : Mem → Option Mem) : Nat → Int32 → Mem → Option Mem
  | 0, _, _ => none
  | fu5 + 1, v3, M4 =>
    if (M4 0 12) ≤ v3 then
    (j2 M4)
    else
    (if ((a2 >>> (v3 &&& 31)) &&& 1) = 0 then
    (ck a1 6 <|
    bnd (wr M4 9 a1.toNatClampNeg v3) fun (M7 : Mem) =>
    ob (slf M7 (a1 + 1) (a2 ||| (1 <<< (v3 &&& 31)))) fun (M9 : Mem) =>
    bnd (v3 + 1) fun (v10 : Int32) =>
    m_triesFrom_L113 slf a1 a2 j2 fu5 v10 M9)
    else
    (bnd (v3 + 1) fun (v6 : Int32) =>
    m_triesFrom_L113 slf a1 a2 j2 fu5 v6 M4))
def m_triesFrom_L76 (j19 : Mem → Option Mem) : Nat → Int32 → Mem → Option Mem
  | 0, _, _ => none
  | fu22 + 1, v20, M21 =>
    if (M21 0 12) ≤ v20 then
    (j19 M21)
    else
    (ck v20 6 <|
    bnd (wr M21 0 44 (((10 * (M21 0 44)) + (M21 9 v20.toNatClampNeg)) + 1)) fun (M23 : Mem) =>
    bnd (v20 + 1) fun (v24 : Int32) =>
    m_triesFrom_L76 j19 fu22 v24 M23)
def m_triesB (slf : Mem → Int32 → Int32 → Option Mem) (M : Mem) (a1 : Int32) (a2 : Int32) : Option Mem :=
if a1 = (M 0 12) then
(ob (m_lives M) fun (M12 : Mem) =>
jp (fun (u13 : Unit) =>
bnd (wr M12 0 42 (M12 0 41)) fun (M15 : Mem) =>
bnd (wr M15 0 43 (M15 0 37)) fun (M16 : Mem) =>
bnd (wr M16 0 44 0) fun (M17 : Mem) =>
jp (fun (M18 : Mem) =>
some M18) fun j19 =>
m_triesFrom_L76 j19 FU 0 M17) fun j14 =>
if (M12 0 44) = (-1) then
(j14 ())
else
(if (M12 0 41) < (M12 0 42) then
(j14 ())
else
(if (M12 0 41) = (M12 0 42) then
(if (M12 0 43) ≤ (M12 0 37) then
(some M12)
else
(j14 ()))
else
(some M12))))
else
(jp (fun (M1 : Mem) =>
some M1) fun j2 =>
m_triesFrom_L113 slf a1 a2 j2 FU 0 M)
def m_triesFrom : Nat → Mem → Int32 → Int32 → Option Mem
  | 0, _, _, _ => none
  | n + 1, M, a, b => m_triesB (m_triesFrom n) M a b
def m_best (M : Mem) (a1 : Int32) : Option (Mem × Int32) :=
ob (m_in (a1.toInt64) 0 2) fun (v2 : Bool) =>
if v2 = true then
(ob (m_gathers M) fun (M4 : Mem) =>
bnd (wr M4 0 29 (M4 0 12)) fun (M5 : Mem) =>
bnd (wr M5 0 44 (-1)) fun (M6 : Mem) =>
ob (m_triesFrom 8 M6 0 0) fun (M8 : Mem) =>
if a1 = 0 then
(some (M8, (M8 0 42)))
else
(if a1 = 1 then
(some (M8, (M8 0 43)))
else
(some (M8, (M8 0 44)))))
else
(some (M, (-2)))
def m_good_L46 (a1 : Int32) (j10 : Int32 → Int32 → Int32 → Mem → Option (Mem × Int32)) : Nat → Int32 → Int32 → Int32 → Int32 → Mem → Option (Mem × Int32)
  | 0, _, _, _, _, _ => none
  | fu17 + 1, v12, v13, v14, v15, M16 =>
    jp (fun (v18 : Int32) =>
    if v18 < v15 then
    (j10 v12 v13 v14 M16)
    else
    (ck (4 + a1) 6 <|
    bnd (wr M16 4 (4 + a1).toNatClampNeg v15) fun (M20 : Mem) =>
    ob (m_livesPlain M20 (M20 0 12)) fun (M22 : Mem) =>
    jp (fun (u23 : Unit) =>
    bnd ((M22 0 41)) fun (v25 : Int32) =>
    bnd ((M22 0 37)) fun (v26 : Int32) =>
    bnd (v15 + 1) fun (v27 : Int32) =>
    m_good_L46 a1 j10 fu17 v15 v25 v26 v27 M22) fun j24 =>
    if v12 = (-1) then
    (j24 ())
    else
    (if (M22 0 41) < v13 then
    (j24 ())
    else
    (if (M22 0 41) = v13 then
    (if v14 ≤ (M22 0 37) then
    (bnd (v15 + 1) fun (v29 : Int32) =>
    m_good_L46 a1 j10 fu17 v12 v13 v14 v29 M22)
    else
    (j24 ()))
    else
    (bnd (v15 + 1) fun (v28 : Int32) =>
    m_good_L46 a1 j10 fu17 v12 v13 v14 v28 M22))))) fun j19 =>
    if a1 = 0 then
    (j19 60)
    else
    (j19 20)
def m_good (M : Mem) (a1 : Int32) (a2 : Int32) : Option (Mem × Int32) :=
ob (m_in (a1.toInt64) 0 1) fun (v2 : Bool) =>
if v2 = true then
(ob (m_in (a2.toInt64) 0 2) fun (v4 : Bool) =>
if v4 = true then
(ck (4 + a1) 6 <|
bnd ((M 4 (4 + a1).toNatClampNeg)) fun (v5 : Int32) =>
jp (fun (v6 : Int32) (v7 : Int32) (v8 : Int32) (M9 : Mem) =>
ck (4 + a1) 6 <|
bnd (wr M9 4 (4 + a1).toNatClampNeg v5) fun (M11 : Mem) =>
if a2 = 0 then
(some (M11, v6))
else
(if a2 = 1 then
(some (M11, v7))
else
(some (M11, v8)))) fun j10 =>
m_good_L46 a1 j10 FU (-1) 0 0 0 M)
else
(some (M, (-2))))
else
(some (M, (-2)))
def m_wet_L2 (a1 : Int32) (j2 : Mem → Option Mem) : Nat → Int32 → Mem → Option Mem
  | 0, _, _ => none
  | fu5 + 1, v3, M4 =>
    if (M4 0 12) ≤ v3 then
    (j2 M4)
    else
    (ck v3 6 <|
    bnd (wr M4 8 v3.toNatClampNeg ((a1 >>> (v3 &&& 31)) &&& 1)) fun (M6 : Mem) =>
    bnd (v3 + 1) fun (v7 : Int32) =>
    m_wet_L2 a1 j2 fu5 v7 M6)
def m_wet (M : Mem) (a1 : Int32) : Option Mem :=
jp (fun (M1 : Mem) =>
some M1) fun j2 =>
m_wet_L2 a1 j2 FU 0 M
def m_wetting_L67 (a1 : Int32) (j10 : Int32 → Int32 → Mem → Option (Mem × Int32)) : Nat → Int32 → Int32 → Int32 → Mem → Option (Mem × Int32)
  | 0, _, _, _, _ => none
  | fu17 + 1, v13, v14, v15, M16 =>
    if (1 <<< ((M16 0 12) &&& 31)) ≤ v15 then
    (j10 v13 v14 M16)
    else
    (ob (m_wet M16 v15) fun (M19 : Mem) =>
    ob (m_livesPlain M19 (M19 0 12)) fun (M21 : Mem) =>
    ob (m_bitsOf v15) fun (v23 : Int32) =>
    bnd (((M21 0 41) + (a1 * v23))) fun (v24 : Int32) =>
    jp (fun (u25 : Unit) =>
    bnd (v15 + 1) fun (v27 : Int32) =>
    m_wetting_L67 a1 j10 fu17 v15 v24 v27 M21) fun j26 =>
    if v13 = (-1) then
    (j26 ())
    else
    (if v14 ≤ v24 then
    (bnd (v15 + 1) fun (v28 : Int32) =>
    m_wetting_L67 a1 j10 fu17 v13 v14 v28 M21)
    else
    (j26 ())))
def m_wetting_L30 (M : Mem) (j6 : Int32 → Option (Mem × Int32)) : Nat → Int32 → Int32 → Option (Mem × Int32)
  | 0, _, _ => none
  | fu31 + 1, v29, v30 =>
    if (M 0 12) ≤ v30 then
    (j6 v29)
    else
    (ck v30 6 <|
    bnd ((v29 ||| ((M 8 v30.toNatClampNeg) <<< (v30 &&& 31)))) fun (v32 : Int32) =>
    bnd (v30 + 1) fun (v33 : Int32) =>
    m_wetting_L30 M j6 fu31 v32 v33)
def m_wetting (M : Mem) (a1 : Int32) (a2 : Int32) : Option (Mem × Int32) :=
ob (m_in (a1.toInt64) 0 99) fun (v2 : Bool) =>
if v2 = true then
(ob (m_in (a2.toInt64) 0 1) fun (v4 : Bool) =>
if v4 = true then
(jp (fun (v5 : Int32) =>
jp (fun (v7 : Int32) (v8 : Int32) (M9 : Mem) =>
ob (m_wet M9 v5) fun (M12 : Mem) =>
if a2 = 0 then
(some (M12, v7))
else
(some (M12, v8))) fun j10 =>
m_wetting_L67 a1 j10 FU (-1) 0 0 M) fun j6 =>
m_wetting_L30 M j6 FU 0 0)
else
(some (M, (-2))))
else
(some (M, (-2)))
def m_alone_L4 (j3 : Int32 → Mem → Option (Mem × Int32)) : Nat → Int32 → Int32 → Mem → Option (Mem × Int32)
  | 0, _, _, _ => none
  | fu7 + 1, v4, v5, M6 =>
    if (M6 0 12) < v5 then
    (j3 v4 M6)
    else
    (ob (m_livesPlain M6 v5) fun (M9 : Mem) =>
    jp (fun (v10 : Int32) =>
    bnd (v5 + 1) fun (v12 : Int32) =>
    m_alone_L4 j3 fu7 v10 v12 M9) fun j11 =>
    if (M9 0 41) = 0 then
    (j11 v5)
    else
    (j11 v4))
def m_alone (M : Mem) : Option (Mem × Int32) :=
jp (fun (v1 : Int32) (M2 : Mem) =>
some (M2, v1)) fun j3 =>
m_alone_L4 j3 FU 0 1 M
def m_livesBy (M : Mem) (a1 : Int32) (a2 : Int32) : Option Mem :=
ck a1 6 <|
bnd ((M 4 a1.toNatClampNeg)) fun (v1 : Int32) =>
ck a1 6 <|
bnd (wr M 4 a1.toNatClampNeg a2) fun (M2 : Mem) =>
ob (m_livesPlain M2 (M2 0 12)) fun (M4 : Mem) =>
ck a1 6 <|
bnd (wr M4 4 a1.toNatClampNeg v1) fun (M5 : Mem) =>
some M5
def m_tooWarm_L5 (j3 : Int32 → Mem → Option (Mem × Int32)) : Nat → Int32 → Int32 → Mem → Option (Mem × Int32)
  | 0, _, _, _ => none
  | fu7 + 1, v4, v5, M6 =>
    if v5 < 0 then
    (j3 v4 M6)
    else
    (ob (m_livesBy M6 0 v5) fun (M9 : Mem) =>
    ob (m_setOf M9 1) fun (v11 : Int32) =>
    if v11 = 0 then
    (some (M9, v4))
    else
    (bnd (v5 + (-1)) fun (v12 : Int32) =>
    m_tooWarm_L5 j3 fu7 v5 v12 M9))
def m_tooWarm (M : Mem) : Option (Mem × Int32) :=
jp (fun (v1 : Int32) (M2 : Mem) =>
some (M2, v1)) fun j3 =>
m_tooWarm_L5 j3 FU (-1) 40 M
def m_gains (M : Mem) (a1 : Int32) : Option (Mem × Int32) :=
ob (m_in (a1.toInt64) 0 1) fun (v2 : Bool) =>
if v2 = true then
(jp (fun (v3 : Int32) =>
jp (fun (v5 : Int32) =>
ob (m_livesBy M v3 v5) fun (M8 : Mem) =>
jp (fun (v9 : Int32) =>
jp (fun (v11 : Int32) =>
jp (fun (v13 : Int32) =>
ob (m_livesBy M8 v11 v13) fun (M16 : Mem) =>
jp (fun (v17 : Int32) =>
some (M16, (v9 - v17))) fun j18 =>
if a1 = 0 then
(j18 (M16 0 41))
else
(j18 (M16 0 37))) fun j14 =>
if a1 = 0 then
(j14 0)
else
(j14 2)) fun j12 =>
if a1 = 0 then
(j12 2)
else
(j12 3)) fun j10 =>
if a1 = 0 then
(j10 (M8 0 41))
else
(j10 (M8 0 37))) fun j6 =>
if a1 = 0 then
(j6 9)
else
(j6 1)) fun j4 =>
if a1 = 0 then
(j4 2)
else
(j4 3))
else
(some (M, (-100000)))
def m_buckets_L47 (a1 : Int32) (M6 : Mem) (j10 : Int32 → Int32 → Int32 → Option (Mem × Int32)) : Nat → Int32 → Int32 → Int32 → Int32 → Int32 → Option (Mem × Int32)
  | 0, _, _, _, _, _ => none
  | fu16 + 1, v11, v12, v13, v14, v15 =>
    if (M6 0 12) ≤ v15 then
    (j10 v11 v13 v14)
    else
    (ck v15 6 <|
    if (M6 13 v15.toNatClampNeg) = (-1) then
    (bnd (v15 + 1) fun (v17 : Int32) =>
    m_buckets_L47 a1 M6 j10 fu16 v11 v12 v13 v14 v17)
    else
    (ck v15 6 <|
    jp (fun (v18 : Int32) =>
    bnd ((v14 + v18)) fun (v20 : Int32) =>
    ck v15 6 <|
    nz a1 <|
    bnd (((((M6 7 v15.toNatClampNeg) + a1) - 1) / a1)) fun (v21 : Int32) =>
    bnd ((v13 + v21)) fun (v22 : Int32) =>
    ck v15 6 <|
    bnd ((M6 13 v15.toNatClampNeg)) fun (v23 : Int32) =>
    ck v15 6 <|
    bnd (((v21 * a1) - (M6 7 v15.toNatClampNeg))) fun (v24 : Int32) =>
    bnd (v15 + 1) fun (v25 : Int32) =>
    m_buckets_L47 a1 M6 j10 fu16 v24 v23 v22 v20 v25) fun j19 =>
    if v11 < (M6 7 v15.toNatClampNeg) then
    (j19 v11)
    else
    (ck v15 6 <|
    ck v15 6 <|
    if (M6 10 v15.toNatClampNeg) < ((M6 13 v15.toNatClampNeg) - v12) then
    (j19 v11)
    else
    (ck v15 6 <|
    bnd ((v11 - (M6 7 v15.toNatClampNeg))) fun (v26 : Int32) =>
    bnd (v15 + 1) fun (v27 : Int32) =>
    m_buckets_L47 a1 M6 j10 fu16 v26 v12 v13 v14 v27))))
def m_buckets (M : Mem) (a1 : Int32) (a2 : Int32) : Option (Mem × Int32) :=
ob (m_in (a1.toInt64) 1 40) fun (v2 : Bool) =>
if v2 = true then
(ob (m_in (a2.toInt64) 0 1) fun (v4 : Bool) =>
if v4 = true then
(ob (m_livesPlain M (M 0 12)) fun (M6 : Mem) =>
jp (fun (v7 : Int32) (v8 : Int32) (v9 : Int32) =>
if a2 = 0 then
(some (M6, v8))
else
(some (M6, (v9 + v7)))) fun j10 =>
m_buckets_L47 a1 M6 j10 FU 0 0 0 0 0)
else
(some (M, (-2))))
else
(some (M, (-2)))
def m_isSo_L10 (a1 : Int32) (M2 : Mem) (j4 : Unit → Option (Mem × Bool)) : Nat → Int32 → Option (Mem × Bool)
  | 0, _ => none
  | fu6 + 1, v5 =>
    if (M2 0 12) ≤ v5 then
    (j4 ())
    else
    (ck v5 6 <|
    ck ((40 * a1) + v5) 160 <|
    if (M2 15 v5.toNatClampNeg) = (M2 22 ((40 * a1) + v5).toNatClampNeg) then
    (bnd (v5 + 1) fun (v7 : Int32) =>
    m_isSo_L10 a1 M2 j4 fu6 v7)
    else
    (some (M2, false)))
def m_isSo (M : Mem) (a1 : Int32) : Option (Mem × Bool) :=
ob (m_livesPlain M (M 0 12)) fun (M2 : Mem) =>
jp (fun (u3 : Unit) =>
some (M2, true)) fun j4 =>
m_isSo_L10 a1 M2 j4 FU 0
def m_tellsSort (M : Mem) (a1 : Int32) : Option Int32 :=
if a1 = 1 then
(ck 2 6 <|
some (M 4 (2 : Int32).toNatClampNeg))
else
(if a1 = 2 then
(ck 1 6 <|
some (M 4 (1 : Int32).toNatClampNeg))
else
(if a1 = 3 then
(some (M 0 4))
else
(ck (a1 - 10) 6 <|
some (M 5 (a1 - 10).toNatClampNeg))))
def m_laysSort (M : Mem) (a1 : Int32) (a2 : Int32) : Option Mem :=
if a1 = 3 then
(bnd (wr M 0 4 a2) fun (M5 : Mem) =>
some M5)
else
(if a1 ≤ 9 then
(jp (fun (v1 : Int32) =>
ck v1 6 <|
bnd (wr M 4 v1.toNatClampNeg a2) fun (M3 : Mem) =>
some M3) fun j2 =>
if a1 = 1 then
(j2 2)
else
(j2 1))
else
(ck (a1 - 10) 6 <|
bnd (wr M 5 (a1 - 10).toNatClampNeg a2) fun (M4 : Mem) =>
some M4))
def m_books_L178 (a1 : Int32) (a2 : Int32) (v7 : Int32) (j13 : Int32 → Mem → Option (Mem × Int32)) : Nat → Int32 → Int32 → Mem → Option (Mem × Int32)
  | 0, _, _, _ => none
  | fu19 + 1, v16, v17, M18 =>
    if v7 ≤ v17 then
    (j13 v16 M18)
    else
    (ob (m_laysSort M18 a2 v17) fun (M21 : Mem) =>
    ob2 (m_isSo M21 a1) fun (M23 : Mem) (v24 : Bool) =>
    jp (fun (v25 : Int32) =>
    bnd ((v16 ||| (v25 <<< (v17 &&& 31)))) fun (v27 : Int32) =>
    bnd (v17 + 1) fun (v28 : Int32) =>
    m_books_L178 a1 a2 v7 j13 fu19 v27 v28 M23) fun j26 =>
    if v24 = true then
    (j26 1)
    else
    (j26 0))
def m_books_L92 (a1 : Int32) (M30 : Mem) (j32 : Int32 → Option (Mem × Int32)) : Nat → Int32 → Int32 → Option (Mem × Int32)
  | 0, _, _ => none
  | fu35 + 1, v33, v34 =>
    if (M30 0 12) ≤ v34 then
    (j32 v33)
    else
    (ck v34 6 <|
    ck ((40 * a1) + v34) 160 <|
    jp (fun (v36 : Int32) =>
    bnd ((v33 ||| (v36 <<< (v34 &&& 31)))) fun (v38 : Int32) =>
    bnd (v34 + 1) fun (v39 : Int32) =>
    m_books_L92 a1 M30 j32 fu35 v38 v39) fun j37 =>
    if (M30 15 v34.toNatClampNeg) = (M30 22 ((40 * a1) + v34).toNatClampNeg) then
    (j37 0)
    else
    (j37 1))
def m_books (M : Mem) (a1 : Int32) (a2 : Int32) : Option (Mem × Int32) :=
ob (m_isSheet a1) fun (v2 : Bool) =>
if v2 = true then
(ob (m_in (a2.toInt64) 0 3) fun (v4 : Bool) =>
jp (fun (u5 : Unit) =>
ck a1 4 <|
if (M 19 a1.toNatClampNeg) = 0 then
(some (M, (-11)))
else
(ck a1 4 <|
if (M 21 a1.toNatClampNeg) = (M 0 12) then
(if a2 = 0 then
(ob (m_livesPlain M (M 0 12)) fun (M30 : Mem) =>
jp (fun (v31 : Int32) =>
some (M30, v31)) fun j32 =>
m_books_L92 a1 M30 j32 FU 0 0)
else
(jp (fun (v7 : Int32) =>
ob (m_tellsSort M a2) fun (v10 : Int32) =>
jp (fun (v11 : Int32) (M12 : Mem) =>
ob (m_laysSort M12 a2 v10) fun (M15 : Mem) =>
some (M15, v11)) fun j13 =>
m_books_L178 a1 a2 v7 j13 FU 0 0 M) fun j8 =>
if 3 ≤ a2 then
(if a2 = 3 then
(j8 (M 0 3))
else
(j8 6))
else
(j8 10)))
else
(some (M, (-2))))) fun j6 =>
if v4 = true then
(j6 ())
else
(ob (m_in (a2.toInt64) 10 15) fun (v41 : Bool) =>
if v41 = true then
(ob (m_isWall M (a2 - 10)) fun (v43 : Bool) =>
if v43 = true then
(j6 ())
else
(some (M, (-2))))
else
(some (M, (-2)))))
else
(some (M, (-2)))
def m_warms_L45 (a1 : Int32) (j8 : Int64 → Mem → Option (Mem × Int64)) : Nat → Int64 → Int32 → Mem → Option (Mem × Int64)
  | 0, _, _, _ => none
  | fu13 + 1, v10, v11, M12 =>
    if 40 < v11 then
    (j8 v10 M12)
    else
    (ck 0 6 <|
    bnd (wr M12 4 (0 : Int32).toNatClampNeg v11) fun (M14 : Mem) =>
    ob2 (m_isSo M14 a1) fun (M16 : Mem) (v17 : Bool) =>
    jp (fun (v18 : Int64) =>
    bnd ((v10 ||| ((v18 : Int64) <<< ((v11 : Int32).toInt64 &&& 63)))) fun (v20 : Int64) =>
    bnd (v11 + 1) fun (v21 : Int32) =>
    m_warms_L45 a1 j8 fu13 v20 v21 M16) fun j19 =>
    if v17 = true then
    (j19 1)
    else
    (j19 0))
def m_warms (M : Mem) (a1 : Int32) : Option (Mem × Int64) :=
ob (m_isSheet a1) fun (v2 : Bool) =>
jp (fun (u3 : Unit) =>
some (M, (-4611686018427387904))) fun j4 =>
if v2 = true then
(ck a1 4 <|
if (M 19 a1.toNatClampNeg) = 0 then
(j4 ())
else
(ck a1 4 <|
if (M 21 a1.toNatClampNeg) = (M 0 12) then
(ck 0 6 <|
bnd ((M 4 (0 : Int32).toNatClampNeg)) fun (v5 : Int32) =>
jp (fun (v6 : Int64) (M7 : Mem) =>
ck 0 6 <|
bnd (wr M7 4 (0 : Int32).toNatClampNeg v5) fun (M9 : Mem) =>
some (M9, v6)) fun j8 =>
m_warms_L45 a1 j8 FU 0 0 M)
else
(j4 ())))
else
(j4 ())
def m_sheet_L77 (a1 : Int32) (a2 : Int32) (a3 : Int32) (j15 : Mem → Option (Mem × Int32)) : Nat → Int32 → Mem → Option (Mem × Int32)
  | 0, _, _ => none
  | fu18 + 1, v16, M17 =>
    if a3 ≤ v16 then
    (j15 M17)
    else
    (if a2 < 0 then
    (j15 M17)
    else
    (ck ((40 * a1) + v16) 160 <|
    bnd (wr M17 22 ((40 * a1) + v16).toNatClampNeg 0) fun (M19 : Mem) =>
    bnd (v16 + 1) fun (v20 : Int32) =>
    m_sheet_L77 a1 a2 a3 j15 fu18 v20 M19))
def m_sheet (M : Mem) (a1 : Int32) (a2 : Int32) (a3 : Int32) : Option (Mem × Int32) :=
ob (m_isSheet a1) fun (v2 : Bool) =>
if v2 = true then
(ob (m_in (a2.toInt64) (-1) 2) fun (v4 : Bool) =>
if v4 = true then
(jp (fun (u5 : Unit) =>
jp (fun (u7 : Unit) =>
jp (fun (v9 : Int32) =>
ck a1 4 <|
bnd (wr M 19 a1.toNatClampNeg (vp_nar .boolean v9)) fun (M11 : Mem) =>
ck a1 4 <|
bnd (wr M11 20 a1.toNatClampNeg a2) fun (M12 : Mem) =>
ck a1 4 <|
bnd (wr M12 21 a1.toNatClampNeg a3) fun (M13 : Mem) =>
jp (fun (M14 : Mem) =>
some (M14, 1)) fun j15 =>
m_sheet_L77 a1 a2 a3 j15 FU 0 M13) fun j10 =>
if a2 < 0 then
(j10 0)
else
(j10 1)) fun j8 =>
if a2 < 0 then
(j8 ())
else
(if 0 ≤ a3 then
(j8 ())
else
(some (M, (-14))))) fun j6 =>
if a2 < 0 then
(j6 ())
else
(if a3 ≤ 40 then
(j6 ())
else
(some (M, (-2)))))
else
(some (M, (-2))))
else
(some (M, (-2)))
def m_film_L31 (a1 : Int32) (j9 : Mem → Option (Mem × Int32)) : Nat → Int32 → Mem → Option (Mem × Int32)
  | 0, _, _ => none
  | fu12 + 1, v10, M11 =>
    if (M11 0 12) ≤ v10 then
    (j9 M11)
    else
    (ck v10 6 <|
    ck ((40 * a1) + v10) 160 <|
    bnd (wr M11 22 ((40 * a1) + v10).toNatClampNeg (M11 15 v10.toNatClampNeg)) fun (M13 : Mem) =>
    bnd (v10 + 1) fun (v14 : Int32) =>
    m_film_L31 a1 j9 fu12 v14 M13)
def m_film (M : Mem) (a1 : Int32) : Option (Mem × Int32) :=
ob (m_isSheet a1) fun (v2 : Bool) =>
if v2 = true then
(ob (m_livesPlain M (M 0 12)) fun (M4 : Mem) =>
ob2 (m_sheet M4 a1 2 (M4 0 12)) fun (M6 : Mem) (v7 : Int32) =>
jp (fun (M8 : Mem) =>
some (M8, (M8 0 12))) fun j9 =>
m_film_L31 a1 j9 FU 0 M6)
else
(some (M, (-2)))
def m_draws (M : Mem) (a1 : Int32) : Option Mem :=
ob (m_livesBy M 0 ((((a1 * 1103515245) + 12345).toUInt32 >>> ((9 : Int32).toUInt32 &&& Int32.toUInt32 31)).toInt32 - (((a1 * 1103515245) + 12345).toUInt32 >>> ((9 : Int32).toUInt32 &&& Int32.toUInt32 31)).toInt32 / 41 * 41)) fun (M2 : Mem) =>
some M2
def m_drawn (M : Mem) (a1 : Int32) : Option (Mem × Int32) :=
ob (m_draws M a1) fun (M2 : Mem) =>
some (M2, (M2 0 41))
def m_chance_L78 (j12 : Int64 → Option (Mem × Int64)) : Nat → Int64 → Int64 → Option (Mem × Int64)
  | 0, _, _ => none
  | fu15 + 1, v13, v14 =>
    if (lg_cmp v14 0) = 0 then
    (j12 v13)
    else
    (nzL v14 <|
    bnd ((v13 - v13 / v14 * v14)) fun (v16 : Int64) =>
    m_chance_L78 j12 fu15 v14 v16)
def m_chance_L32 (a1 : Int32) (a2 : Int32) (j9 : Int64 → Mem → Option (Mem × Int64)) : Nat → Int64 → Int32 → Mem → Option (Mem × Int64)
  | 0, _, _, _ => none
  | fu20 + 1, v17, v18, M19 =>
    if a2 ≤ v18 then
    (j9 v17 M19)
    else
    (ob (m_draws M19 (a1 + v18)) fun (M22 : Mem) =>
    ob (m_setOf M22 1) fun (v24 : Int32) =>
    jp (fun (v25 : Int64) =>
    bnd ((v17 + v25)) fun (v27 : Int64) =>
    bnd (v18 + 1) fun (v28 : Int32) =>
    m_chance_L32 a1 a2 j9 fu20 v27 v28 M22) fun j26 =>
    if v24 = 0 then
    (j26 1)
    else
    (j26 0))
def m_chance (M : Mem) (a1 : Int32) (a2 : Int32) (a3 : Int32) : Option (Mem × Int64) :=
ob (m_in (a2.toInt64) 1 20) fun (v2 : Bool) =>
jp (fun (u3 : Unit) =>
some (M, (-4611686018427387904))) fun j4 =>
if v2 = true then
(ob (m_in (a3.toInt64) 0 1) fun (v6 : Bool) =>
if v6 = true then
(jp (fun (v7 : Int64) (M8 : Mem) =>
bnd (a2.toInt64) fun (v10 : Int64) =>
jp (fun (v11 : Int64) =>
if a3 = 0 then
(nzL v11 <|
some (M8, (v7 / v11)))
else
(nzL v11 <|
some (M8, (a2.toInt64 / v11)))) fun j12 =>
m_chance_L78 j12 FU v7 v10) fun j9 =>
m_chance_L32 a1 a2 j9 FU 0 0 M)
else
(j4 ()))
else
(j4 ())
def m_image_L28 (j4 : Mem → Option (Mem × Int32)) : Nat → Int32 → Mem → Option (Mem × Int32)
  | 0, _, _ => none
  | fu9 + 1, v7, M8 =>
    if 6 ≤ v7 then
    (j4 M8)
    else
    (ck v7 6 <|
    ck v7 18 <|
    bnd (wr M8 18 v7.toNatClampNeg (M8 6 v7.toNatClampNeg)) fun (M10 : Mem) =>
    ck v7 6 <|
    ck (6 + v7) 18 <|
    bnd (wr M10 18 (6 + v7).toNatClampNeg (M10 7 v7.toNatClampNeg)) fun (M11 : Mem) =>
    ck v7 6 <|
    ck (12 + v7) 18 <|
    bnd (wr M11 18 (12 + v7).toNatClampNeg (M11 8 v7.toNatClampNeg)) fun (M12 : Mem) =>
    bnd (v7 + 1) fun (v13 : Int32) =>
    m_image_L28 j4 fu9 v13 M12)
def m_image_L2 (j2 : Mem → Option (Mem × Int32)) : Nat → Int32 → Mem → Option (Mem × Int32)
  | 0, _, _ => none
  | fu16 + 1, v14, M15 =>
    if 6 ≤ v14 then
    (j2 M15)
    else
    (ck v14 6 <|
    ck v14 6 <|
    bnd (wr M15 17 v14.toNatClampNeg (M15 4 v14.toNatClampNeg)) fun (M17 : Mem) =>
    bnd (v14 + 1) fun (v18 : Int32) =>
    m_image_L2 j2 fu16 v18 M17)
def m_image (M : Mem) : Option (Mem × Int32) :=
jp (fun (M1 : Mem) =>
jp (fun (M3 : Mem) =>
bnd (wr M3 0 47 (M3 0 12)) fun (M5 : Mem) =>
bnd (wr M5 0 48 (M5 0 4)) fun (M6 : Mem) =>
some (M6, (M6 0 12))) fun j4 =>
m_image_L28 j4 FU 0 M1) fun j2 =>
m_image_L2 j2 FU 0 M
def m_back_L39 (j4 : Mem → Option (Mem × Int32)) : Nat → Int32 → Mem → Option (Mem × Int32)
  | 0, _, _ => none
  | fu9 + 1, v7, M8 =>
    if 6 ≤ v7 then
    (j4 M8)
    else
    (ck v7 18 <|
    ck v7 6 <|
    bnd (wr M8 6 v7.toNatClampNeg (M8 18 v7.toNatClampNeg)) fun (M10 : Mem) =>
    ck (6 + v7) 18 <|
    ck v7 6 <|
    bnd (wr M10 7 v7.toNatClampNeg (M10 18 (6 + v7).toNatClampNeg)) fun (M11 : Mem) =>
    ck (12 + v7) 18 <|
    ck v7 6 <|
    bnd (wr M11 8 v7.toNatClampNeg (M11 18 (12 + v7).toNatClampNeg)) fun (M12 : Mem) =>
    bnd (v7 + 1) fun (v13 : Int32) =>
    m_back_L39 j4 fu9 v13 M12)
def m_back_L13 (j2 : Mem → Option (Mem × Int32)) : Nat → Int32 → Mem → Option (Mem × Int32)
  | 0, _, _ => none
  | fu16 + 1, v14, M15 =>
    if 6 ≤ v14 then
    (j2 M15)
    else
    (ck v14 6 <|
    ck v14 6 <|
    bnd (wr M15 4 v14.toNatClampNeg (M15 17 v14.toNatClampNeg)) fun (M17 : Mem) =>
    bnd (v14 + 1) fun (v18 : Int32) =>
    m_back_L13 j2 fu16 v18 M17)
def m_back (M : Mem) : Option (Mem × Int32) :=
if (M 0 47) = (-1) then
(some (M, (-3)))
else
(jp (fun (M1 : Mem) =>
jp (fun (M3 : Mem) =>
bnd (wr M3 0 12 (M3 0 47)) fun (M5 : Mem) =>
bnd (wr M5 0 4 (M5 0 48)) fun (M6 : Mem) =>
some (M6, (M6 0 12))) fun j4 =>
m_back_L39 j4 FU 0 M1) fun j2 =>
m_back_L13 j2 FU 0 M)
def m_count (M : Mem) (a1 : Int32) : Option Int32 :=
ob (m_in (a1.toInt64) 0 9) fun (v2 : Bool) =>
if v2 = true then
(if a1 = 0 then
(some (M 0 12))
else
(if 7 ≤ a1 then
(if a1 = 7 then
(some (M 0 3))
else
(if a1 = 8 then
(some (M 0 6))
else
(some (M 0 4))))
else
(ck (a1 - 1) 6 <|
some (M 4 (a1 - 1).toNatClampNeg))))
else
(some (-2))
def m_cell (M : Mem) (a1 : Int32) (a2 : Int32) (a3 : Int32) : Option (Mem × Int32) :=
ob (m_isSheet a1) fun (v2 : Bool) =>
if v2 = true then
(ck a1 4 <|
if (M 19 a1.toNatClampNeg) = 0 then
(some (M, (-11)))
else
(ck a1 4 <|
ob (m_in (a2.toInt64) 0 (((M 21 a1.toNatClampNeg) - 1).toInt64)) fun (v4 : Bool) =>
if v4 = true then
(ck a1 4 <|
jp (fun (v5 : Int32) =>
ck ((40 * a1) + a2) 160 <|
bnd (wr M 22 ((40 * a1) + a2).toNatClampNeg v5) fun (M7 : Mem) =>
some (M7, 1)) fun j6 =>
if (M 20 a1.toNatClampNeg) = 0 then
(j6 (a3.toInt8.toInt32))
else
(ck a1 4 <|
if (M 20 a1.toNatClampNeg) = 1 then
(j6 (a3.toInt16.toInt32))
else
(j6 a3)))
else
(some (M, (-12)))))
else
(some (M, (-2)))
def m_copy_L121 (a1 : Int32) (a2 : Int32) (a3 : Int32) (a4 : Int32) (a5 : Int32) (v5 : Int32) (j8 : Mem → Option (Mem × Int32)) : Nat → Int32 → Mem → Option (Mem × Int32)
  | 0, _, _ => none
  | fu11 + 1, v9, M10 =>
    if a5 ≤ v9 then
    (j8 M10)
    else
    (jp (fun (v12 : Int32) =>
    ck (((40 * a1) + a2) + v12) 160 <|
    ck (((40 * a3) + a4) + v12) 160 <|
    bnd (wr M10 22 (((40 * a3) + a4) + v12).toNatClampNeg (M10 22 (((40 * a1) + a2) + v12).toNatClampNeg)) fun (M14 : Mem) =>
    bnd (v9 + 1) fun (v15 : Int32) =>
    m_copy_L121 a1 a2 a3 a4 a5 v5 j8 fu11 v15 M14) fun j13 =>
    if v5 = 0 then
    (j13 v9)
    else
    (j13 ((a5 - 1) - v9)))
def m_copy (M : Mem) (a1 : Int32) (a2 : Int32) (a3 : Int32) (a4 : Int32) (a5 : Int32) : Option (Mem × Int32) :=
ob (m_isSheet a1) fun (v2 : Bool) =>
if v2 = true then
(ob (m_isSheet a3) fun (v4 : Bool) =>
if v4 = true then
(ck a1 4 <|
if (M 19 a1.toNatClampNeg) = 0 then
(some (M, (-11)))
else
(ck a3 4 <|
if (M 19 a3.toNatClampNeg) = 0 then
(some (M, (-11)))
else
(ck a1 4 <|
ck a3 4 <|
if (M 20 a1.toNatClampNeg) = (M 20 a3.toNatClampNeg) then
(if a5 < 0 then
(some (M, (-12)))
else
(if a2 < 0 then
(some (M, (-12)))
else
(if a4 < 0 then
(some (M, (-12)))
else
(ck a1 4 <|
if ((M 21 a1.toNatClampNeg) - a5) < a2 then
(some (M, (-12)))
else
(ck a3 4 <|
if a4 ≤ ((M 21 a3.toNatClampNeg) - a5) then
(jp (fun (v5 : Int32) =>
jp (fun (M7 : Mem) =>
some (M7, a5)) fun j8 =>
m_copy_L121 a1 a2 a3 a4 a5 v5 j8 FU 0 M) fun j6 =>
jp (fun (u16 : Unit) =>
j6 0) fun j17 =>
if a1 = a3 then
(if a4 ≤ a2 then
(j17 ())
else
(j6 1))
else
(j17 ()))
else
(some (M, (-12))))))))
else
(some (M, (-13))))))
else
(some (M, (-2))))
else
(some (M, (-2)))
def m_walls_L75 (a1 : Int32) (a3 : Int32) (a4 : Int32) (j11 : Int32 → Mem → Option (Mem × Int32)) : Nat → Int32 → Int32 → Mem → Option (Mem × Int32)
  | 0, _, _, _ => none
  | fu15 + 1, v12, v13, M14 =>
    if a4 ≤ v13 then
    (j11 v12 M14)
    else
    (if a3 < 0 then
    (some (M14, (-12)))
    else
    (ck a1 4 <|
    if a3 ≤ (((M14 21 a1.toNatClampNeg) - (3 * v13)) - 3) then
    (bnd ((((40 * a1) + a3) + (3 * v13))) fun (v16 : Int32) =>
    ck v16 160 <|
    ck (v16 + 1) 160 <|
    ck (v16 + 2) 160 <|
    ob2 (m_wall M14 (M14 22 v16.toNatClampNeg) (M14 22 (v16 + 1).toNatClampNeg) (M14 22 (v16 + 2).toNatClampNeg)) fun (M18 : Mem) (v19 : Int32) =>
    jp (fun (v20 : Int32) =>
    bnd ((v12 + v20)) fun (v22 : Int32) =>
    bnd (v13 + 1) fun (v23 : Int32) =>
    m_walls_L75 a1 a3 a4 j11 fu15 v22 v23 M18) fun j21 =>
    if v19 < 0 then
    (j21 0)
    else
    (j21 1))
    else
    (some (M14, (-12)))))
def m_walls (M : Mem) (a1 : Int32) (a2 : Int32) (a3 : Int32) (a4 : Int32) : Option (Mem × Int32) :=
ob (m_isSheet a1) fun (v2 : Bool) =>
if v2 = true then
(ob (m_in (a2.toInt64) 0 2) fun (v4 : Bool) =>
if v4 = true then
(ob (m_in (a4.toInt64) 0 6) fun (v6 : Bool) =>
if v6 = true then
(ck a1 4 <|
jp (fun (u7 : Unit) =>
ck a1 4 <|
if (M 19 a1.toNatClampNeg) = 0 then
(some (M, (-11)))
else
(jp (fun (v9 : Int32) (M10 : Mem) =>
some (M10, v9)) fun j11 =>
m_walls_L75 a1 a3 a4 j11 FU 0 0 M)) fun j8 =>
if (M 19 a1.toNatClampNeg) = 0 then
(j8 ())
else
(ck a1 4 <|
if (M 20 a1.toNatClampNeg) = a2 then
(j8 ())
else
(some (M, (-13)))))
else
(some (M, (-2))))
else
(some (M, (-2))))
else
(some (M, (-2)))
def m_over (a1 : Int32) : Option Int32 :=
if a1 = 0 then
(some (-1))
else
(if a1 = 3 then
(some 1)
else
(if a1 = 4 then
(some 2)
else
(some 0)))
def m_taken_L33 (a2 : Int32) (j7 : Int32 → Option Int32) : Nat → Int32 → Option Int32
  | 0, _ => none
  | fu9 + 1, v8 =>
    if v8 = (-1) then
    (j7 v8)
    else
    (if v8 = a2 then
    (j7 v8)
    else
    (ob (m_over v8) fun (v11 : Int32) =>
    m_taken_L33 a2 j7 fu9 v11))
def m_taken (M : Mem) (a1 : Int32) (a2 : Int32) : Option Int32 :=
ob (m_in (a2.toInt64) 0 5) fun (v2 : Bool) =>
if v2 = true then
(ob (m_isWall M a1) fun (v4 : Bool) =>
if v4 = true then
(ck a1 6 <|
bnd ((M 5 a1.toNatClampNeg)) fun (v5 : Int32) =>
jp (fun (v6 : Int32) =>
if v6 = a2 then
(ck a1 6 <|
some (M 6 a1.toNatClampNeg))
else
(some (-13))) fun j7 =>
m_taken_L33 a2 j7 FU v5)
else
(some (-11)))
else
(some (-2))
def m_spell (M : Mem) (a1 : Int32) (a2 : Int32) (a3 : Int32) (a4 : Int32) (a5 : Int32) (a6 : Int32) (a7 : Int32) (a8 : Int32) (a9 : Int32) : Option Mem :=
ck a1 960 <|
bnd (wr M 1 a1.toNatClampNeg a2) fun (M1 : Mem) =>
ck (a1 + 1) 960 <|
bnd (wr M1 1 (a1 + 1).toNatClampNeg a3) fun (M2 : Mem) =>
ck (a1 + 2) 960 <|
bnd (wr M2 1 (a1 + 2).toNatClampNeg a4) fun (M3 : Mem) =>
ck (a1 + 3) 960 <|
bnd (wr M3 1 (a1 + 3).toNatClampNeg a5) fun (M4 : Mem) =>
ck (a1 + 4) 960 <|
bnd (wr M4 1 (a1 + 4).toNatClampNeg a6) fun (M5 : Mem) =>
ck (a1 + 5) 960 <|
bnd (wr M5 1 (a1 + 5).toNatClampNeg a7) fun (M6 : Mem) =>
ck (a1 + 6) 960 <|
bnd (wr M6 1 (a1 + 6).toNatClampNeg a8) fun (M7 : Mem) =>
ck (a1 + 7) 960 <|
bnd (wr M7 1 (a1 + 7).toNatClampNeg a9) fun (M8 : Mem) =>
some M8
set_option maxHeartbeats 4000000 in
set_option maxRecDepth 20000 in
theorem w_m_triesB {X : XT} {M : Mem} {slf : Mem → Int32 → Int32 → Option Mem} {a1 : Int32} {a2 : Int32} {M' : Mem}  {E : Nat} (hE : 171 ≤ E) (hslf : ∀ (M M' : Mem) (a b : Int32), slf M a b = some M' → CT layM X E yX9_triesFrom cX9_triesFrom 4 none [.ref (X.2.2.2.1 0), .int a, .int b] M M' none) (h : m_triesB slf M a1 a2 = some M') : CT layM X (E + 1) yX9_triesFrom cX9_triesFrom 4 none [.ref (X.2.2.2.1 0), .int a1, .int a2] M M' none := by
  refine CT.of rfl (Nat.le_of_ble_eq_true rfl) (lv := [(0, .ref (X.2.2.2.1 0)), (1, .int a1), (2, .int a2)]) rfl (fun Γ K => ?_)
  have K : Kx layM X Γ RX9 cX9_triesFrom 4 (E + 1) none := K
  unfold m_triesB at h
  refine g_iload_n (pn := 1) K rfl 1 rfl dX9_triesFrom_0 ?_
  refine g_aload_n (pn := 2) K rfl 0 rfl dX9_triesFrom_1 ?_
  refine g_geti (pn := 5) K rfl fl_X9_91 lm_0 rfl dX9_triesFrom_2 ?_
  refine g_icmp_ne (tgt := 111) (pn := 8) K rfl (by decide) dX9_triesFrom_5 h (fun h => ?_) (fun h => ?_)
  · refine g_iconst (pn := 112) (v := 0) K rfl ic_0 dX9_triesFrom_111 ?_
    refine g_istore_n (pn := 113) (lv' := [(3, .int 0), (0, .ref (X.2.2.2.1 0)), (1, .int a1), (2, .int a2)]) K rfl dX9_triesFrom_112 rfl (Nat.le_of_ble_eq_true rfl) rfl ?_
    refine jp_e1 h (fun M1 => G layM X Γ 4 (QM layM X Γ none M') 154 [] [] M1) (fun M1 h => ?_) (fun j2 hj2 h => ?_)
    · exact g_vret K dX9_triesFrom_154 (oi h)
    have LP113 : ∀ (fu5 : Nat) (v3 : Int32) (M4 : Mem), m_triesFrom_L113 slf a1 a2 j2 fu5 v3 M4 = some M' → G layM X Γ 4 (QM layM X Γ none M') 113 [(0, .ref (X.2.2.2.1 0)), (1, .int a1), (2, .int a2), (3, .int v3)] [] M4 := by
      intro fu5
      induction fu5 with
      | zero =>
        intro v3 M4 h
        rw [m_triesFrom_L113] at h
        cases h
      | succ fu5 ih5 =>
        intro v3 M4 h
        rw [m_triesFrom_L113] at h
        refine g_iload_n (pn := 114) K rfl 3 rfl dX9_triesFrom_113 ?_
        refine g_aload_n (pn := 115) K rfl 0 rfl dX9_triesFrom_114 ?_
        refine g_geti (pn := 118) K rfl fl_X9_91 lm_0 rfl dX9_triesFrom_115 ?_
        refine g_icmp_ge (tgt := 154) (pn := 121) K rfl (by decide) dX9_triesFrom_118 h (fun h => ?_) (fun h => ?_)
        · refine g_sub [] rfl ?_
          exact hj2 _ h
        · refine g_iload_n (pn := 122) K rfl 2 rfl dX9_triesFrom_121 ?_
          refine g_iload_n (pn := 123) K rfl 3 rfl dX9_triesFrom_122 ?_
          refine g_ishr (pn := 124) K rfl dX9_triesFrom_123 ?_
          refine g_iconst (pn := 125) (v := 1) K rfl ic_1 dX9_triesFrom_124 ?_
          refine g_iand (pn := 126) K rfl dX9_triesFrom_125 ?_
          refine g_if_ne (tgt := 148) (pn := 129) K rfl (by decide) dX9_triesFrom_126 h (fun h => ?_) (fun h => ?_)
          · obtain ⟨v6, ev6, h⟩ := bnd_e h
            refine g_iinc (pn := 151) (v := v6) (lv' := [(3, .int v6), (0, .ref (X.2.2.2.1 0)), (1, .int a1), (2, .int a2)]) K rfl 3 rfl ii_1 ev6 dX9_triesFrom_148 (Nat.le_of_ble_eq_true rfl) rfl ?_
            refine g_goto (tgt := 113) K (by decide) dX9_triesFrom_151 ?_
            refine g_sub [1, 2, 3, 0] rfl ?_
            exact ih5 _ _ h
          · refine g_aload_n (pn := 130) K rfl 0 rfl dX9_triesFrom_129 ?_
            refine g_getr (pn := 133) (j := 9) K rfl fl_X9_38 lm_0 rfl dX9_triesFrom_130 ?_
            refine g_iload_n (pn := 134) K rfl 1 rfl dX9_triesFrom_133 ?_
            refine g_iload_n (pn := 135) K rfl 3 rfl dX9_triesFrom_134 ?_
            refine g_iast (pn := 136) K rfl lm_9 dX9_triesFrom_135 h (fun M7 h => ?_)
            refine g_aload_n (pn := 137) K rfl 0 rfl dX9_triesFrom_136 ?_
            refine g_iload_n (pn := 138) K rfl 1 rfl dX9_triesFrom_137 ?_
            refine g_iconst (pn := 139) (v := 1) K rfl ic_1 dX9_triesFrom_138 ?_
            refine g_iadd (pn := 140) K rfl dX9_triesFrom_139 ?_
            refine g_iload_n (pn := 141) K rfl 2 rfl dX9_triesFrom_140 ?_
            refine g_iconst (pn := 142) (v := 1) K rfl ic_1 dX9_triesFrom_141 ?_
            refine g_iload_n (pn := 143) K rfl 3 rfl dX9_triesFrom_142 ?_
            refine g_ishl (pn := 144) K rfl dX9_triesFrom_143 ?_
            refine g_ior (pn := 145) K rfl dX9_triesFrom_144 ?_
            obtain ⟨M9, hc8, h⟩ := ob_e h
            refine g_callV0 (pn := 148) (As := [.int (a1 + 1), .int (a2 ||| (1 <<< (v3 &&& 31)))]) (rest := []) (a := 0) K rfl (d' := E) (by omega) mv_X9_318 (recvO K lm_0 rfl) (hslf _ _ _ _ hc8) rfl rfl (Nat.le_of_ble_eq_true rfl) dX9_triesFrom_145 ?_
            obtain ⟨v10, ev10, h⟩ := bnd_e h
            refine g_iinc (pn := 151) (v := v10) (lv' := [(3, .int v10), (0, .ref (X.2.2.2.1 0)), (1, .int a1), (2, .int a2)]) K rfl 3 rfl ii_1 ev10 dX9_triesFrom_148 (Nat.le_of_ble_eq_true rfl) rfl ?_
            refine g_goto (tgt := 113) K (by decide) dX9_triesFrom_151 ?_
            refine g_sub [1, 2, 3, 0] rfl ?_
            exact ih5 _ _ h
    refine g_sub [1, 2, 3, 0] rfl ?_
    exact LP113 FU _ _ h
  · refine g_aload_n (pn := 9) K rfl 0 rfl dX9_triesFrom_8 ?_
    obtain ⟨M12, hc11, h⟩ := ob_e h
    refine g_callV0 (pn := 12) (As := []) (rest := []) (a := 0) K rfl (d' := 171) (by omega) mv_X9_283 (recvO K lm_0 rfl) (w_m_lives hc11) rfl rfl (Nat.le_of_ble_eq_true rfl) dX9_triesFrom_9 ?_
    refine g_aload_n (pn := 13) K rfl 0 rfl dX9_triesFrom_12 ?_
    refine g_geti (pn := 16) K rfl fl_X9_309 lm_0 rfl dX9_triesFrom_13 ?_
    refine g_iconst (pn := 17) (v := (-1)) K rfl ic_m1 dX9_triesFrom_16 ?_
    refine jp_e1 h (fun u13 => G layM X Γ 4 (QM layM X Γ none M') 53 [(0, .ref (X.2.2.2.1 0))] [] M12) (fun u13 h => ?_) (fun j14 hj14 h => ?_)
    · refine g_aload_n (pn := 54) K rfl 0 rfl dX9_triesFrom_53 ?_
      refine g_aload_n (pn := 55) K rfl 0 rfl dX9_triesFrom_54 ?_
      refine g_geti (pn := 58) K rfl fl_X9_258 lm_0 rfl dX9_triesFrom_55 ?_
      refine g_puti (pn := 61) K rfl fp_X9_312 lm_0 rfl dX9_triesFrom_58 h (fun M15 h => ?_)
      refine g_aload_n (pn := 62) K rfl 0 rfl dX9_triesFrom_61 ?_
      refine g_aload_n (pn := 63) K rfl 0 rfl dX9_triesFrom_62 ?_
      refine g_geti (pn := 66) K rfl fl_X9_255 lm_0 rfl dX9_triesFrom_63 ?_
      refine g_puti (pn := 69) K rfl fp_X9_315 lm_0 rfl dX9_triesFrom_66 h (fun M16 h => ?_)
      refine g_aload_n (pn := 70) K rfl 0 rfl dX9_triesFrom_69 ?_
      refine g_iconst (pn := 71) (v := 0) K rfl ic_0 dX9_triesFrom_70 ?_
      refine g_puti (pn := 74) K rfl fp_X9_309 lm_0 rfl dX9_triesFrom_71 h (fun M17 h => ?_)
      refine g_iconst (pn := 75) (v := 0) K rfl ic_0 dX9_triesFrom_74 ?_
      refine g_istore_n (pn := 76) (lv' := [(3, .int 0), (0, .ref (X.2.2.2.1 0))]) K rfl dX9_triesFrom_75 rfl (Nat.le_of_ble_eq_true rfl) rfl ?_
      refine jp_e1 h (fun M18 => G layM X Γ 4 (QM layM X Γ none M') 110 [] [] M18) (fun M18 h => ?_) (fun j19 hj19 h => ?_)
      · exact g_vret K dX9_triesFrom_110 (oi h)
      have LP76 : ∀ (fu22 : Nat) (v20 : Int32) (M21 : Mem), m_triesFrom_L76 j19 fu22 v20 M21 = some M' → G layM X Γ 4 (QM layM X Γ none M') 76 [(0, .ref (X.2.2.2.1 0)), (3, .int v20)] [] M21 := by
        intro fu22
        induction fu22 with
        | zero =>
          intro v20 M21 h
          rw [m_triesFrom_L76] at h
          cases h
        | succ fu22 ih22 =>
          intro v20 M21 h
          rw [m_triesFrom_L76] at h
          refine g_iload_n (pn := 77) K rfl 1 rfl dX9_triesFrom_76 ?_
          refine g_aload_n (pn := 78) K rfl 0 rfl dX9_triesFrom_77 ?_
          refine g_geti (pn := 81) K rfl fl_X9_91 lm_0 rfl dX9_triesFrom_78 ?_
          refine g_icmp_ge (tgt := 110) (pn := 84) K rfl (by decide) dX9_triesFrom_81 h (fun h => ?_) (fun h => ?_)
          · refine g_sub [] rfl ?_
            exact hj19 _ h
          · refine g_aload_n (pn := 85) K rfl 0 rfl dX9_triesFrom_84 ?_
            refine g_bipush (pn := 87) (v := 10) K rfl bp_10 dX9_triesFrom_85 ?_
            refine g_aload_n (pn := 88) K rfl 0 rfl dX9_triesFrom_87 ?_
            refine g_geti (pn := 91) K rfl fl_X9_309 lm_0 rfl dX9_triesFrom_88 ?_
            refine g_imul (pn := 92) K rfl dX9_triesFrom_91 ?_
            refine g_aload_n (pn := 93) K rfl 0 rfl dX9_triesFrom_92 ?_
            refine g_getr (pn := 96) (j := 9) K rfl fl_X9_38 lm_0 rfl dX9_triesFrom_93 ?_
            refine g_iload_n (pn := 97) K rfl 1 rfl dX9_triesFrom_96 ?_
            refine g_iald (pn := 98) K rfl lm_9 dX9_triesFrom_97 h (fun h => ?_)
            refine g_iadd (pn := 99) K rfl dX9_triesFrom_98 ?_
            refine g_iconst (pn := 100) (v := 1) K rfl ic_1 dX9_triesFrom_99 ?_
            refine g_iadd (pn := 101) K rfl dX9_triesFrom_100 ?_
            refine g_puti (pn := 104) K rfl fp_X9_309 lm_0 rfl dX9_triesFrom_101 h (fun M23 h => ?_)
            obtain ⟨v24, ev24, h⟩ := bnd_e h
            refine g_iinc (pn := 107) (v := v24) (lv' := [(3, .int v24), (0, .ref (X.2.2.2.1 0))]) K rfl 1 rfl ii_1 ev24 dX9_triesFrom_104 (Nat.le_of_ble_eq_true rfl) rfl ?_
            refine g_goto (tgt := 76) K (by decide) dX9_triesFrom_107 ?_
            refine g_sub [1, 0] rfl ?_
            exact ih22 _ _ h
      refine g_sub [1, 0] rfl ?_
      exact LP76 FU _ _ h
    refine g_icmp_eq (tgt := 53) (pn := 20) K rfl (by decide) dX9_triesFrom_17 h (fun h => ?_) (fun h => ?_)
    · refine g_sub [0] rfl ?_
      exact hj14 _ h
    · refine g_aload_n (pn := 21) K rfl 0 rfl dX9_triesFrom_20 ?_
      refine g_geti (pn := 24) K rfl fl_X9_258 lm_0 rfl dX9_triesFrom_21 ?_
      refine g_aload_n (pn := 25) K rfl 0 rfl dX9_triesFrom_24 ?_
      refine g_geti (pn := 28) K rfl fl_X9_312 lm_0 rfl dX9_triesFrom_25 ?_
      refine g_icmp_lt (tgt := 53) (pn := 31) K rfl (by decide) dX9_triesFrom_28 h (fun h => ?_) (fun h => ?_)
      · refine g_sub [0] rfl ?_
        exact hj14 _ h
      · refine g_aload_n (pn := 32) K rfl 0 rfl dX9_triesFrom_31 ?_
        refine g_geti (pn := 35) K rfl fl_X9_258 lm_0 rfl dX9_triesFrom_32 ?_
        refine g_aload_n (pn := 36) K rfl 0 rfl dX9_triesFrom_35 ?_
        refine g_geti (pn := 39) K rfl fl_X9_312 lm_0 rfl dX9_triesFrom_36 ?_
        refine g_icmp_ne (tgt := 110) (pn := 42) K rfl (by decide) dX9_triesFrom_39 h (fun h => ?_) (fun h => ?_)
        · exact g_vret K dX9_triesFrom_110 (oi h)
        · refine g_aload_n (pn := 43) K rfl 0 rfl dX9_triesFrom_42 ?_
          refine g_geti (pn := 46) K rfl fl_X9_255 lm_0 rfl dX9_triesFrom_43 ?_
          refine g_aload_n (pn := 47) K rfl 0 rfl dX9_triesFrom_46 ?_
          refine g_geti (pn := 50) K rfl fl_X9_315 lm_0 rfl dX9_triesFrom_47 ?_
          refine g_icmp_ge (tgt := 110) (pn := 53) K rfl (by decide) dX9_triesFrom_50 h (fun h => ?_) (fun h => ?_)
          · exact g_vret K dX9_triesFrom_110 (oi h)
          · refine g_sub [0] rfl ?_
            exact hj14 _ h
theorem w_m_triesFrom {X : XT} (n : Nat) : ∀ {M M' : Mem} {a b : Int32}, m_triesFrom n M a b = some M' → CT layM X (171 + n) yX9_triesFrom cX9_triesFrom 4 none [.ref (X.2.2.2.1 0), .int a, .int b] M M' none := by
  induction n with
  | zero =>
    intro M M' a b h
    rw [m_triesFrom] at h
    cases h
  | succ n ih =>
    intro M M' a b h
    rw [m_triesFrom] at h
    exact w_m_triesB (E := 171 + n) (by omega) (fun M M' a b h => ih h) h
set_option maxHeartbeats 4000000 in
set_option maxRecDepth 20000 in
theorem w_m_best {X : XT} {M : Mem} {a1 : Int32} {M' : Mem} {r : Int32}   (h : m_best M a1 = some (M', r)) : CT layM X 180 yX9_best cX9_best 2 (some .int) [.ref (X.2.2.2.1 0), .int a1] M M' (some (.int r)) := by
  refine CT.of rfl (Nat.le_of_ble_eq_true rfl) (lv := [(0, .ref (X.2.2.2.1 0)), (1, .int a1)]) rfl (fun Γ K => ?_)
  have K : Kx layM X Γ RX9 cX9_best 2 180 (some .int) := K
  unfold m_best at h
  refine g_iload_n (pn := 1) K rfl 1 rfl dX9_best_0 ?_
  refine g_i2l (pn := 2) K rfl dX9_best_1 ?_
  refine g_lconst (pn := 3) (v := 0) K rfl lc_0 dX9_best_2 ?_
  refine g_ldc2 (pn := 6) (v := 2) K rfl cl_X9_322 dX9_best_3 ?_
  obtain ⟨v2, hc1, h⟩ := ob_e h
  refine g_callS1 (pn := 9) (As := [.long a1.toInt64, .long 0, .long 2]) (rest := []) K rfl (d' := 0) (Nat.le_of_ble_eq_true rfl) ms_X9_94 (w_m_in hc1) rfl rfl (Nat.le_of_ble_eq_true rfl) dX9_best_6 ?_
  refine g_ifB_ne (tgt := 15) (pn := 12) K rfl (by decide) dX9_best_9 h (fun h => ?_) (fun h => ?_)
  · refine g_aload_n (pn := 16) K rfl 0 rfl dX9_best_15 ?_
    obtain ⟨M4, hc3, h⟩ := ob_e h
    refine g_callV0 (pn := 19) (As := []) (rest := []) (a := 0) K rfl (d' := 171) (Nat.le_of_ble_eq_true rfl) mv_X9_280 (recvO K lm_0 rfl) (w_m_gathers hc3) rfl rfl (Nat.le_of_ble_eq_true rfl) dX9_best_16 ?_
    refine g_aload_n (pn := 20) K rfl 0 rfl dX9_best_19 ?_
    refine g_aload_n (pn := 21) K rfl 0 rfl dX9_best_20 ?_
    refine g_geti (pn := 24) K rfl fl_X9_91 lm_0 rfl dX9_best_21 ?_
    refine g_puti (pn := 27) K rfl fp_X9_267 lm_0 rfl dX9_best_24 h (fun M5 h => ?_)
    refine g_aload_n (pn := 28) K rfl 0 rfl dX9_best_27 ?_
    refine g_iconst (pn := 29) (v := (-1)) K rfl ic_m1 dX9_best_28 ?_
    refine g_puti (pn := 32) K rfl fp_X9_309 lm_0 rfl dX9_best_29 h (fun M6 h => ?_)
    refine g_aload_n (pn := 33) K rfl 0 rfl dX9_best_32 ?_
    refine g_iconst (pn := 34) (v := 0) K rfl ic_0 dX9_best_33 ?_
    refine g_iconst (pn := 35) (v := 0) K rfl ic_0 dX9_best_34 ?_
    obtain ⟨M8, hc7, h⟩ := ob_e h
    refine g_callV0 (pn := 38) (As := [.int 0, .int 0]) (rest := []) (a := 0) K rfl (d' := 179) (Nat.le_of_ble_eq_true rfl) mv_X9_318 (recvO K lm_0 rfl) (w_m_triesFrom 8 hc7) rfl rfl (Nat.le_of_ble_eq_true rfl) dX9_best_35 ?_
    refine g_iload_n (pn := 39) K rfl 1 rfl dX9_best_38 ?_
    refine g_if_ne (tgt := 49) (pn := 42) K rfl (by decide) dX9_best_39 h (fun h => ?_) (fun h => ?_)
    · refine g_iload_n (pn := 50) K rfl 1 rfl dX9_best_49 ?_
      refine g_iconst (pn := 51) (v := 1) K rfl ic_1 dX9_best_50 ?_
      refine g_icmp_ne (tgt := 61) (pn := 54) K rfl (by decide) dX9_best_51 h (fun h => ?_) (fun h => ?_)
      · refine g_aload_n (pn := 62) K rfl 0 rfl dX9_best_61 ?_
        refine g_geti (pn := 65) K rfl fl_X9_309 lm_0 rfl dX9_best_62 ?_
        exact g_iret K dX9_best_65 (oi2 h).2 (oi2 h).1
      · refine g_aload_n (pn := 55) K rfl 0 rfl dX9_best_54 ?_
        refine g_geti (pn := 58) K rfl fl_X9_315 lm_0 rfl dX9_best_55 ?_
        refine g_goto (tgt := 65) K (by decide) dX9_best_58 ?_
        exact g_iret K dX9_best_65 (oi2 h).2 (oi2 h).1
    · refine g_aload_n (pn := 43) K rfl 0 rfl dX9_best_42 ?_
      refine g_geti (pn := 46) K rfl fl_X9_312 lm_0 rfl dX9_best_43 ?_
      refine g_goto (tgt := 65) K (by decide) dX9_best_46 ?_
      exact g_iret K dX9_best_65 (oi2 h).2 (oi2 h).1
  · refine g_bipush (pn := 14) (v := (-2)) K rfl bp_m2 dX9_best_12 ?_
    exact g_iret K dX9_best_14 (oi2 h).2 (oi2 h).1
set_option maxHeartbeats 4000000 in
set_option maxRecDepth 20000 in
theorem w_m_good {X : XT} {M : Mem} {a1 : Int32} {a2 : Int32} {M' : Mem} {r : Int32}   (h : m_good M a1 a2 = some (M', r)) : CT layM X 173 yX9_good cX9_good 8 (some .int) [.ref (X.2.2.2.1 0), .int a1, .int a2] M M' (some (.int r)) := by
  refine CT.of rfl (Nat.le_of_ble_eq_true rfl) (lv := [(0, .ref (X.2.2.2.1 0)), (1, .int a1), (2, .int a2)]) rfl (fun Γ K => ?_)
  have K : Kx layM X Γ RX9 cX9_good 8 173 (some .int) := K
  unfold m_good at h
  refine g_iload_n (pn := 1) K rfl 1 rfl dX9_good_0 ?_
  refine g_i2l (pn := 2) K rfl dX9_good_1 ?_
  refine g_lconst (pn := 3) (v := 0) K rfl lc_0 dX9_good_2 ?_
  refine g_lconst (pn := 4) (v := 1) K rfl lc_1 dX9_good_3 ?_
  obtain ⟨v2, hc1, h⟩ := ob_e h
  refine g_callS1 (pn := 7) (As := [.long a1.toInt64, .long 0, .long 1]) (rest := []) K rfl (d' := 0) (Nat.le_of_ble_eq_true rfl) ms_X9_94 (w_m_in hc1) rfl rfl (Nat.le_of_ble_eq_true rfl) dX9_good_4 ?_
  refine g_ifB_eq (tgt := 22) (pn := 10) K rfl (by decide) dX9_good_7 h (fun h => ?_) (fun h => ?_)
  · refine g_bipush (pn := 24) (v := (-2)) K rfl bp_m2 dX9_good_22 ?_
    exact g_iret K dX9_good_24 (oi2 h).2 (oi2 h).1
  · refine g_iload_n (pn := 11) K rfl 2 rfl dX9_good_10 ?_
    refine g_i2l (pn := 12) K rfl dX9_good_11 ?_
    refine g_lconst (pn := 13) (v := 0) K rfl lc_0 dX9_good_12 ?_
    refine g_ldc2 (pn := 16) (v := 2) K rfl cl_X9_322 dX9_good_13 ?_
    obtain ⟨v4, hc3, h⟩ := ob_e h
    refine g_callS1 (pn := 19) (As := [.long a2.toInt64, .long 0, .long 2]) (rest := []) K rfl (d' := 0) (Nat.le_of_ble_eq_true rfl) ms_X9_94 (w_m_in hc3) rfl rfl (Nat.le_of_ble_eq_true rfl) dX9_good_16 ?_
    refine g_ifB_ne (tgt := 25) (pn := 22) K rfl (by decide) dX9_good_19 h (fun h => ?_) (fun h => ?_)
    · refine g_aload_n (pn := 26) K rfl 0 rfl dX9_good_25 ?_
      refine g_getr (pn := 29) (j := 4) K rfl fl_X9_23 lm_0 rfl dX9_good_26 ?_
      refine g_iconst (pn := 30) (v := 4) K rfl ic_4 dX9_good_29 ?_
      refine g_iload_n (pn := 31) K rfl 1 rfl dX9_good_30 ?_
      refine g_iadd (pn := 32) K rfl dX9_good_31 ?_
      refine g_iald (pn := 33) K rfl lm_4 dX9_good_32 h (fun h => ?_)
      refine g_nmi h (fun v5 h => ?_)
      refine g_istore_n (pn := 34) (lv' := [(3, .int v5), (0, .ref (X.2.2.2.1 0)), (1, .int a1), (2, .int a2)]) K rfl dX9_good_33 rfl (Nat.le_of_ble_eq_true rfl) rfl ?_
      refine g_iconst (pn := 35) (v := (-1)) K rfl ic_m1 dX9_good_34 ?_
      refine g_istore (pn := 37) (lv' := [(4, .int (-1)), (3, .int v5), (0, .ref (X.2.2.2.1 0)), (1, .int a1), (2, .int a2)]) K rfl dX9_good_35 (Nat.le_of_ble_eq_true rfl) rfl ?_
      refine g_iconst (pn := 38) (v := 0) K rfl ic_0 dX9_good_37 ?_
      refine g_istore (pn := 40) (lv' := [(5, .int 0), (4, .int (-1)), (3, .int v5), (0, .ref (X.2.2.2.1 0)), (1, .int a1), (2, .int a2)]) K rfl dX9_good_38 (Nat.le_of_ble_eq_true rfl) rfl ?_
      refine g_iconst (pn := 41) (v := 0) K rfl ic_0 dX9_good_40 ?_
      refine g_istore (pn := 43) (lv' := [(6, .int 0), (5, .int 0), (4, .int (-1)), (3, .int v5), (0, .ref (X.2.2.2.1 0)), (1, .int a1), (2, .int a2)]) K rfl dX9_good_41 (Nat.le_of_ble_eq_true rfl) rfl ?_
      refine g_iconst (pn := 44) (v := 0) K rfl ic_0 dX9_good_43 ?_
      refine g_istore (pn := 46) (lv' := [(7, .int 0), (6, .int 0), (5, .int 0), (4, .int (-1)), (3, .int v5), (0, .ref (X.2.2.2.1 0)), (1, .int a1), (2, .int a2)]) K rfl dX9_good_44 (Nat.le_of_ble_eq_true rfl) rfl ?_
      refine jp_e4 h (fun v6 v7 v8 M9 => G layM X Γ 8 (QM layM X Γ (some (.int r)) M') 135 [(3, .int v5), (0, .ref (X.2.2.2.1 0)), (1, .int a1), (2, .int a2), (4, .int v6), (5, .int v7), (6, .int v8)] [] M9) (fun v6 v7 v8 M9 h => ?_) (fun j10 hj10 h => ?_)
      · refine g_aload_n (pn := 136) K rfl 1 rfl dX9_good_135 ?_
        refine g_getr (pn := 139) (j := 4) K rfl fl_X9_23 lm_0 rfl dX9_good_136 ?_
        refine g_iconst (pn := 140) (v := 4) K rfl ic_4 dX9_good_139 ?_
        refine g_iload_n (pn := 141) K rfl 2 rfl dX9_good_140 ?_
        refine g_iadd (pn := 142) K rfl dX9_good_141 ?_
        refine g_iload_n (pn := 143) K rfl 0 rfl dX9_good_142 ?_
        refine g_iast (pn := 144) K rfl lm_4 dX9_good_143 h (fun M11 h => ?_)
        refine g_iload_n (pn := 145) K rfl 3 rfl dX9_good_144 ?_
        refine g_if_ne (tgt := 153) (pn := 148) K rfl (by decide) dX9_good_145 h (fun h => ?_) (fun h => ?_)
        · refine g_iload_n (pn := 154) K rfl 3 rfl dX9_good_153 ?_
          refine g_iconst (pn := 155) (v := 1) K rfl ic_1 dX9_good_154 ?_
          refine g_icmp_ne (tgt := 163) (pn := 158) K rfl (by decide) dX9_good_155 h (fun h => ?_) (fun h => ?_)
          · refine g_iload (pn := 165) K rfl 6 rfl dX9_good_163 ?_
            exact g_iret K dX9_good_165 (oi2 h).2 (oi2 h).1
          · refine g_iload (pn := 160) K rfl 5 rfl dX9_good_158 ?_
            refine g_goto (tgt := 165) K (by decide) dX9_good_160 ?_
            exact g_iret K dX9_good_165 (oi2 h).2 (oi2 h).1
        · refine g_iload (pn := 150) K rfl 4 rfl dX9_good_148 ?_
          refine g_goto (tgt := 165) K (by decide) dX9_good_150 ?_
          exact g_iret K dX9_good_165 (oi2 h).2 (oi2 h).1
      have LP46 : ∀ (fu17 : Nat) (v12 : Int32) (v13 : Int32) (v14 : Int32) (v15 : Int32) (M16 : Mem), m_good_L46 a1 j10 fu17 v12 v13 v14 v15 M16 = some (M', r) → G layM X Γ 8 (QM layM X Γ (some (.int r)) M') 46 [(3, .int v5), (0, .ref (X.2.2.2.1 0)), (1, .int a1), (2, .int a2), (4, .int v12), (5, .int v13), (6, .int v14), (7, .int v15)] [] M16 := by
        intro fu17
        induction fu17 with
        | zero =>
          intro v12 v13 v14 v15 M16 h
          rw [m_good_L46] at h
          cases h
        | succ fu17 ih17 =>
          intro v12 v13 v14 v15 M16 h
          rw [m_good_L46] at h
          refine g_iload (pn := 48) K rfl 7 rfl dX9_good_46 ?_
          refine g_iload_n (pn := 49) K rfl 2 rfl dX9_good_48 ?_
          refine jp_e1 h (fun v18 => G layM X Γ 8 (QM layM X Γ (some (.int r)) M') 59 [(3, .int v5), (0, .ref (X.2.2.2.1 0)), (1, .int a1), (2, .int a2), (4, .int v12), (5, .int v13), (6, .int v14), (7, .int v15)] [.int v18, .int v15] M16) (fun v18 h => ?_) (fun j19 hj19 h => ?_)
          · refine g_icmp_gt (tgt := 135) (pn := 62) K rfl (by decide) dX9_good_59 h (fun h => ?_) (fun h => ?_)
            · refine g_sub [0, 1, 2, 3, 4, 5, 6] rfl ?_
              exact hj10 _ _ _ _ h
            · refine g_aload_n (pn := 63) K rfl 1 rfl dX9_good_62 ?_
              refine g_getr (pn := 66) (j := 4) K rfl fl_X9_23 lm_0 rfl dX9_good_63 ?_
              refine g_iconst (pn := 67) (v := 4) K rfl ic_4 dX9_good_66 ?_
              refine g_iload_n (pn := 68) K rfl 2 rfl dX9_good_67 ?_
              refine g_iadd (pn := 69) K rfl dX9_good_68 ?_
              refine g_iload (pn := 71) K rfl 7 rfl dX9_good_69 ?_
              refine g_iast (pn := 72) K rfl lm_4 dX9_good_71 h (fun M20 h => ?_)
              refine g_aload_n (pn := 73) K rfl 1 rfl dX9_good_72 ?_
              refine g_aload_n (pn := 74) K rfl 1 rfl dX9_good_73 ?_
              refine g_geti (pn := 77) K rfl fl_X9_91 lm_0 rfl dX9_good_74 ?_
              obtain ⟨M22, hc21, h⟩ := ob_e h
              refine g_callV0 (pn := 80) (As := [.int (M20 0 12)]) (rest := []) (a := 0) K rfl (d' := 172) (Nat.le_of_ble_eq_true rfl) mv_X9_297 (recvO K lm_0 rfl) (w_m_livesPlain hc21) rfl rfl (Nat.le_of_ble_eq_true rfl) dX9_good_77 ?_
              refine g_iload (pn := 82) K rfl 4 rfl dX9_good_80 ?_
              refine g_iconst (pn := 83) (v := (-1)) K rfl ic_m1 dX9_good_82 ?_
              refine jp_e1 h (fun u23 => G layM X Γ 8 (QM layM X Γ (some (.int r)) M') 113 [(3, .int v5), (0, .ref (X.2.2.2.1 0)), (1, .int a1), (2, .int a2), (7, .int v15)] [] M22) (fun u23 h => ?_) (fun j24 hj24 h => ?_)
              · refine g_iload (pn := 115) K rfl 4 rfl dX9_good_113 ?_
                refine g_istore (pn := 117) (lv' := [(4, .int v15), (3, .int v5), (0, .ref (X.2.2.2.1 0)), (1, .int a1), (2, .int a2), (7, .int v15)]) K rfl dX9_good_115 (Nat.le_of_ble_eq_true rfl) rfl ?_
                refine g_aload_n (pn := 118) K rfl 2 rfl dX9_good_117 ?_
                refine g_geti (pn := 121) K rfl fl_X9_258 lm_0 rfl dX9_good_118 ?_
                refine g_nmi h (fun v25 h => ?_)
                refine g_istore (pn := 123) (lv' := [(5, .int v25), (4, .int v15), (3, .int v5), (0, .ref (X.2.2.2.1 0)), (1, .int a1), (2, .int a2), (7, .int v15)]) K rfl dX9_good_121 (Nat.le_of_ble_eq_true rfl) rfl ?_
                refine g_aload_n (pn := 124) K rfl 3 rfl dX9_good_123 ?_
                refine g_geti (pn := 127) K rfl fl_X9_255 lm_0 rfl dX9_good_124 ?_
                refine g_nmi h (fun v26 h => ?_)
                refine g_istore (pn := 129) (lv' := [(6, .int v26), (5, .int v25), (4, .int v15), (3, .int v5), (0, .ref (X.2.2.2.1 0)), (1, .int a1), (2, .int a2), (7, .int v15)]) K rfl dX9_good_127 (Nat.le_of_ble_eq_true rfl) rfl ?_
                obtain ⟨v27, ev27, h⟩ := bnd_e h
                refine g_iinc (pn := 132) (v := v27) (lv' := [(7, .int v27), (6, .int v26), (5, .int v25), (4, .int v15), (3, .int v5), (0, .ref (X.2.2.2.1 0)), (1, .int a1), (2, .int a2)]) K rfl 7 rfl ii_1 ev27 dX9_good_129 (Nat.le_of_ble_eq_true rfl) rfl ?_
                refine g_goto (tgt := 46) K (by decide) dX9_good_132 ?_
                refine g_sub [4, 5, 6, 7, 3, 2, 1, 0] rfl ?_
                exact ih17 _ _ _ _ _ h
              refine g_icmp_eq (tgt := 113) (pn := 86) K rfl (by decide) dX9_good_83 h (fun h => ?_) (fun h => ?_)
              · refine g_sub [0, 1, 2, 3, 7] rfl ?_
                exact hj24 _ h
              · refine g_aload_n (pn := 87) K rfl 1 rfl dX9_good_86 ?_
                refine g_geti (pn := 90) K rfl fl_X9_258 lm_0 rfl dX9_good_87 ?_
                refine g_iload (pn := 92) K rfl 5 rfl dX9_good_90 ?_
                refine g_icmp_lt (tgt := 113) (pn := 95) K rfl (by decide) dX9_good_92 h (fun h => ?_) (fun h => ?_)
                · refine g_sub [0, 1, 2, 3, 7] rfl ?_
                  exact hj24 _ h
                · refine g_aload_n (pn := 96) K rfl 1 rfl dX9_good_95 ?_
                  refine g_geti (pn := 99) K rfl fl_X9_258 lm_0 rfl dX9_good_96 ?_
                  refine g_iload (pn := 101) K rfl 5 rfl dX9_good_99 ?_
                  refine g_icmp_ne (tgt := 129) (pn := 104) K rfl (by decide) dX9_good_101 h (fun h => ?_) (fun h => ?_)
                  · obtain ⟨v28, ev28, h⟩ := bnd_e h
                    refine g_iinc (pn := 132) (v := v28) (lv' := [(7, .int v28), (3, .int v5), (0, .ref (X.2.2.2.1 0)), (1, .int a1), (2, .int a2), (4, .int v12), (5, .int v13), (6, .int v14)]) K rfl 7 rfl ii_1 ev28 dX9_good_129 (Nat.le_of_ble_eq_true rfl) rfl ?_
                    refine g_goto (tgt := 46) K (by decide) dX9_good_132 ?_
                    refine g_sub [1, 2, 3, 4, 5, 6, 7, 0] rfl ?_
                    exact ih17 _ _ _ _ _ h
                  · refine g_aload_n (pn := 105) K rfl 1 rfl dX9_good_104 ?_
                    refine g_geti (pn := 108) K rfl fl_X9_255 lm_0 rfl dX9_good_105 ?_
                    refine g_iload (pn := 110) K rfl 6 rfl dX9_good_108 ?_
                    refine g_icmp_ge (tgt := 129) (pn := 113) K rfl (by decide) dX9_good_110 h (fun h => ?_) (fun h => ?_)
                    · obtain ⟨v29, ev29, h⟩ := bnd_e h
                      refine g_iinc (pn := 132) (v := v29) (lv' := [(7, .int v29), (3, .int v5), (0, .ref (X.2.2.2.1 0)), (1, .int a1), (2, .int a2), (4, .int v12), (5, .int v13), (6, .int v14)]) K rfl 7 rfl ii_1 ev29 dX9_good_129 (Nat.le_of_ble_eq_true rfl) rfl ?_
                      refine g_goto (tgt := 46) K (by decide) dX9_good_132 ?_
                      refine g_sub [1, 2, 3, 4, 5, 6, 7, 0] rfl ?_
                      exact ih17 _ _ _ _ _ h
                    · refine g_sub [0, 1, 2, 3, 7] rfl ?_
                      exact hj24 _ h
          refine g_if_ne (tgt := 57) (pn := 52) K rfl (by decide) dX9_good_49 h (fun h => ?_) (fun h => ?_)
          · refine g_bipush (pn := 59) (v := 20) K rfl bp_20 dX9_good_57 ?_
            exact hj19 _ h
          · refine g_bipush (pn := 54) (v := 60) K rfl bp_60 dX9_good_52 ?_
            refine g_goto (tgt := 59) K (by decide) dX9_good_54 ?_
            exact hj19 _ h
      refine g_sub [4, 5, 6, 7, 3, 2, 1, 0] rfl ?_
      exact LP46 FU _ _ _ _ _ h
    · refine g_bipush (pn := 24) (v := (-2)) K rfl bp_m2 dX9_good_22 ?_
      exact g_iret K dX9_good_24 (oi2 h).2 (oi2 h).1
set_option maxHeartbeats 4000000 in
set_option maxRecDepth 20000 in
theorem w_m_wet {X : XT} {M : Mem} {a1 : Int32} {M' : Mem}   (h : m_wet M a1 = some M') : CT layM X 0 yX9_wet cX9_wet 3 none [.ref (X.2.2.2.1 0), .int a1] M M' none := by
  refine CT.of rfl (Nat.le_of_ble_eq_true rfl) (lv := [(0, .ref (X.2.2.2.1 0)), (1, .int a1)]) rfl (fun Γ K => ?_)
  have K : Kx layM X Γ RX9 cX9_wet 3 0 none := K
  unfold m_wet at h
  refine g_iconst (pn := 1) (v := 0) K rfl ic_0 dX9_wet_0 ?_
  refine g_istore_n (pn := 2) (lv' := [(2, .int 0), (0, .ref (X.2.2.2.1 0)), (1, .int a1)]) K rfl dX9_wet_1 rfl (Nat.le_of_ble_eq_true rfl) rfl ?_
  refine jp_e1 h (fun M1 => G layM X Γ 3 (QM layM X Γ none M') 27 [] [] M1) (fun M1 h => ?_) (fun j2 hj2 h => ?_)
  · exact g_vret K dX9_wet_27 (oi h)
  have LP2 : ∀ (fu5 : Nat) (v3 : Int32) (M4 : Mem), m_wet_L2 a1 j2 fu5 v3 M4 = some M' → G layM X Γ 3 (QM layM X Γ none M') 2 [(0, .ref (X.2.2.2.1 0)), (1, .int a1), (2, .int v3)] [] M4 := by
    intro fu5
    induction fu5 with
    | zero =>
      intro v3 M4 h
      rw [m_wet_L2] at h
      cases h
    | succ fu5 ih5 =>
      intro v3 M4 h
      rw [m_wet_L2] at h
      refine g_iload_n (pn := 3) K rfl 2 rfl dX9_wet_2 ?_
      refine g_aload_n (pn := 4) K rfl 0 rfl dX9_wet_3 ?_
      refine g_geti (pn := 7) K rfl fl_X9_91 lm_0 rfl dX9_wet_4 ?_
      refine g_icmp_ge (tgt := 27) (pn := 10) K rfl (by decide) dX9_wet_7 h (fun h => ?_) (fun h => ?_)
      · refine g_sub [] rfl ?_
        exact hj2 _ h
      · refine g_aload_n (pn := 11) K rfl 0 rfl dX9_wet_10 ?_
        refine g_getr (pn := 14) (j := 8) K rfl fl_X9_35 lm_0 rfl dX9_wet_11 ?_
        refine g_iload_n (pn := 15) K rfl 2 rfl dX9_wet_14 ?_
        refine g_iload_n (pn := 16) K rfl 1 rfl dX9_wet_15 ?_
        refine g_iload_n (pn := 17) K rfl 2 rfl dX9_wet_16 ?_
        refine g_ishr (pn := 18) K rfl dX9_wet_17 ?_
        refine g_iconst (pn := 19) (v := 1) K rfl ic_1 dX9_wet_18 ?_
        refine g_iand (pn := 20) K rfl dX9_wet_19 ?_
        refine g_iast (pn := 21) K rfl lm_8 dX9_wet_20 h (fun M6 h => ?_)
        obtain ⟨v7, ev7, h⟩ := bnd_e h
        refine g_iinc (pn := 24) (v := v7) (lv' := [(2, .int v7), (0, .ref (X.2.2.2.1 0)), (1, .int a1)]) K rfl 2 rfl ii_1 ev7 dX9_wet_21 (Nat.le_of_ble_eq_true rfl) rfl ?_
        refine g_goto (tgt := 2) K (by decide) dX9_wet_24 ?_
        refine g_sub [1, 2, 0] rfl ?_
        exact ih5 _ _ h
  refine g_sub [1, 2, 0] rfl ?_
  exact LP2 FU _ _ h
set_option maxHeartbeats 4000000 in
set_option maxRecDepth 20000 in
theorem w_m_wetting {X : XT} {M : Mem} {a1 : Int32} {a2 : Int32} {M' : Mem} {r : Int32}   (h : m_wetting M a1 a2 = some (M', r)) : CT layM X 173 yX9_wetting cX9_wetting 8 (some .int) [.ref (X.2.2.2.1 0), .int a1, .int a2] M M' (some (.int r)) := by
  refine CT.of rfl (Nat.le_of_ble_eq_true rfl) (lv := [(0, .ref (X.2.2.2.1 0)), (1, .int a1), (2, .int a2)]) rfl (fun Γ K => ?_)
  have K : Kx layM X Γ RX9 cX9_wetting 8 173 (some .int) := K
  unfold m_wetting at h
  refine g_iload_n (pn := 1) K rfl 1 rfl dX9_wetting_0 ?_
  refine g_i2l (pn := 2) K rfl dX9_wetting_1 ?_
  refine g_lconst (pn := 3) (v := 0) K rfl lc_0 dX9_wetting_2 ?_
  refine g_ldc2 (pn := 6) (v := 99) K rfl cl_X9_324 dX9_wetting_3 ?_
  obtain ⟨v2, hc1, h⟩ := ob_e h
  refine g_callS1 (pn := 9) (As := [.long a1.toInt64, .long 0, .long 99]) (rest := []) K rfl (d' := 0) (Nat.le_of_ble_eq_true rfl) ms_X9_94 (w_m_in hc1) rfl rfl (Nat.le_of_ble_eq_true rfl) dX9_wetting_6 ?_
  refine g_ifB_eq (tgt := 22) (pn := 12) K rfl (by decide) dX9_wetting_9 h (fun h => ?_) (fun h => ?_)
  · refine g_bipush (pn := 24) (v := (-2)) K rfl bp_m2 dX9_wetting_22 ?_
    exact g_iret K dX9_wetting_24 (oi2 h).2 (oi2 h).1
  · refine g_iload_n (pn := 13) K rfl 2 rfl dX9_wetting_12 ?_
    refine g_i2l (pn := 14) K rfl dX9_wetting_13 ?_
    refine g_lconst (pn := 15) (v := 0) K rfl lc_0 dX9_wetting_14 ?_
    refine g_lconst (pn := 16) (v := 1) K rfl lc_1 dX9_wetting_15 ?_
    obtain ⟨v4, hc3, h⟩ := ob_e h
    refine g_callS1 (pn := 19) (As := [.long a2.toInt64, .long 0, .long 1]) (rest := []) K rfl (d' := 0) (Nat.le_of_ble_eq_true rfl) ms_X9_94 (w_m_in hc3) rfl rfl (Nat.le_of_ble_eq_true rfl) dX9_wetting_16 ?_
    refine g_ifB_ne (tgt := 25) (pn := 22) K rfl (by decide) dX9_wetting_19 h (fun h => ?_) (fun h => ?_)
    · refine g_iconst (pn := 26) (v := 0) K rfl ic_0 dX9_wetting_25 ?_
      refine g_istore_n (pn := 27) (lv' := [(3, .int 0), (0, .ref (X.2.2.2.1 0)), (1, .int a1), (2, .int a2)]) K rfl dX9_wetting_26 rfl (Nat.le_of_ble_eq_true rfl) rfl ?_
      refine g_iconst (pn := 28) (v := 0) K rfl ic_0 dX9_wetting_27 ?_
      refine g_istore (pn := 30) (lv' := [(4, .int 0), (3, .int 0), (0, .ref (X.2.2.2.1 0)), (1, .int a1), (2, .int a2)]) K rfl dX9_wetting_28 (Nat.le_of_ble_eq_true rfl) rfl ?_
      refine jp_e1 h (fun v5 => G layM X Γ 8 (QM layM X Γ (some (.int r)) M') 58 [(0, .ref (X.2.2.2.1 0)), (1, .int a1), (2, .int a2), (3, .int v5)] [] M) (fun v5 h => ?_) (fun j6 hj6 h => ?_)
      · refine g_iconst (pn := 59) (v := (-1)) K rfl ic_m1 dX9_wetting_58 ?_
        refine g_istore (pn := 61) (lv' := [(4, .int (-1)), (0, .ref (X.2.2.2.1 0)), (1, .int a1), (2, .int a2), (3, .int v5)]) K rfl dX9_wetting_59 (Nat.le_of_ble_eq_true rfl) rfl ?_
        refine g_iconst (pn := 62) (v := 0) K rfl ic_0 dX9_wetting_61 ?_
        refine g_istore (pn := 64) (lv' := [(5, .int 0), (4, .int (-1)), (0, .ref (X.2.2.2.1 0)), (1, .int a1), (2, .int a2), (3, .int v5)]) K rfl dX9_wetting_62 (Nat.le_of_ble_eq_true rfl) rfl ?_
        refine g_iconst (pn := 65) (v := 0) K rfl ic_0 dX9_wetting_64 ?_
        refine g_istore (pn := 67) (lv' := [(6, .int 0), (5, .int 0), (4, .int (-1)), (0, .ref (X.2.2.2.1 0)), (1, .int a1), (2, .int a2), (3, .int v5)]) K rfl dX9_wetting_65 (Nat.le_of_ble_eq_true rfl) rfl ?_
        refine jp_e3 h (fun v7 v8 M9 => G layM X Γ 8 (QM layM X Γ (some (.int r)) M') 133 [(0, .ref (X.2.2.2.1 0)), (2, .int a2), (3, .int v5), (4, .int v7), (5, .int v8)] [] M9) (fun v7 v8 M9 h => ?_) (fun j10 hj10 h => ?_)
        · refine g_aload_n (pn := 134) K rfl 0 rfl dX9_wetting_133 ?_
          refine g_iload_n (pn := 135) K rfl 2 rfl dX9_wetting_134 ?_
          obtain ⟨M12, hc11, h⟩ := ob_e h
          refine g_callV0 (pn := 138) (As := [.int v5]) (rest := []) (a := 0) K rfl (d' := 0) (Nat.le_of_ble_eq_true rfl) mv_X9_326 (recvO K lm_0 rfl) (w_m_wet hc11) rfl rfl (Nat.le_of_ble_eq_true rfl) dX9_wetting_135 ?_
          refine g_iload_n (pn := 139) K rfl 1 rfl dX9_wetting_138 ?_
          refine g_if_ne (tgt := 147) (pn := 142) K rfl (by decide) dX9_wetting_139 h (fun h => ?_) (fun h => ?_)
          · refine g_iload (pn := 149) K rfl 4 rfl dX9_wetting_147 ?_
            exact g_iret K dX9_wetting_149 (oi2 h).2 (oi2 h).1
          · refine g_iload (pn := 144) K rfl 3 rfl dX9_wetting_142 ?_
            refine g_goto (tgt := 149) K (by decide) dX9_wetting_144 ?_
            exact g_iret K dX9_wetting_149 (oi2 h).2 (oi2 h).1
        have LP67 : ∀ (fu17 : Nat) (v13 : Int32) (v14 : Int32) (v15 : Int32) (M16 : Mem), m_wetting_L67 a1 j10 fu17 v13 v14 v15 M16 = some (M', r) → G layM X Γ 8 (QM layM X Γ (some (.int r)) M') 67 [(0, .ref (X.2.2.2.1 0)), (1, .int a1), (2, .int a2), (3, .int v5), (4, .int v13), (5, .int v14), (6, .int v15)] [] M16 := by
          intro fu17
          induction fu17 with
          | zero =>
            intro v13 v14 v15 M16 h
            rw [m_wetting_L67] at h
            cases h
          | succ fu17 ih17 =>
            intro v13 v14 v15 M16 h
            rw [m_wetting_L67] at h
            refine g_iload (pn := 69) K rfl 6 rfl dX9_wetting_67 ?_
            refine g_iconst (pn := 70) (v := 1) K rfl ic_1 dX9_wetting_69 ?_
            refine g_aload_n (pn := 71) K rfl 0 rfl dX9_wetting_70 ?_
            refine g_geti (pn := 74) K rfl fl_X9_91 lm_0 rfl dX9_wetting_71 ?_
            refine g_ishl (pn := 75) K rfl dX9_wetting_74 ?_
            refine g_icmp_ge (tgt := 133) (pn := 78) K rfl (by decide) dX9_wetting_75 h (fun h => ?_) (fun h => ?_)
            · refine g_sub [0, 2, 3, 4, 5] rfl ?_
              exact hj10 _ _ _ h
            · refine g_aload_n (pn := 79) K rfl 0 rfl dX9_wetting_78 ?_
              refine g_iload (pn := 81) K rfl 6 rfl dX9_wetting_79 ?_
              obtain ⟨M19, hc18, h⟩ := ob_e h
              refine g_callV0 (pn := 84) (As := [.int v15]) (rest := []) (a := 0) K rfl (d' := 0) (Nat.le_of_ble_eq_true rfl) mv_X9_326 (recvO K lm_0 rfl) (w_m_wet hc18) rfl rfl (Nat.le_of_ble_eq_true rfl) dX9_wetting_81 ?_
              refine g_aload_n (pn := 85) K rfl 0 rfl dX9_wetting_84 ?_
              refine g_aload_n (pn := 86) K rfl 0 rfl dX9_wetting_85 ?_
              refine g_geti (pn := 89) K rfl fl_X9_91 lm_0 rfl dX9_wetting_86 ?_
              obtain ⟨M21, hc20, h⟩ := ob_e h
              refine g_callV0 (pn := 92) (As := [.int (M19 0 12)]) (rest := []) (a := 0) K rfl (d' := 172) (Nat.le_of_ble_eq_true rfl) mv_X9_297 (recvO K lm_0 rfl) (w_m_livesPlain hc20) rfl rfl (Nat.le_of_ble_eq_true rfl) dX9_wetting_89 ?_
              refine g_aload_n (pn := 93) K rfl 0 rfl dX9_wetting_92 ?_
              refine g_geti (pn := 96) K rfl fl_X9_258 lm_0 rfl dX9_wetting_93 ?_
              refine g_iload_n (pn := 97) K rfl 1 rfl dX9_wetting_96 ?_
              refine g_iload (pn := 99) K rfl 6 rfl dX9_wetting_97 ?_
              obtain ⟨v23, hc22, h⟩ := ob_e h
              refine g_callS1 (pn := 102) (As := [.int v15]) (rest := [.int a1, .int (M21 0 41)]) K rfl (d' := 0) (Nat.le_of_ble_eq_true rfl) ms_X9_329 (w_m_bitsOf hc22) rfl rfl (Nat.le_of_ble_eq_true rfl) dX9_wetting_99 ?_
              refine g_imul (pn := 103) K rfl dX9_wetting_102 ?_
              refine g_iadd (pn := 104) K rfl dX9_wetting_103 ?_
              refine g_nmi h (fun v24 h => ?_)
              refine g_istore (pn := 106) (lv' := [(7, .int v24), (0, .ref (X.2.2.2.1 0)), (1, .int a1), (2, .int a2), (3, .int v5), (4, .int v13), (5, .int v14), (6, .int v15)]) K rfl dX9_wetting_104 (Nat.le_of_ble_eq_true rfl) rfl ?_
              refine g_iload (pn := 108) K rfl 5 rfl dX9_wetting_106 ?_
              refine g_iconst (pn := 109) (v := (-1)) K rfl ic_m1 dX9_wetting_108 ?_
              refine jp_e1 h (fun u25 => G layM X Γ 8 (QM layM X Γ (some (.int r)) M') 119 [(7, .int v24), (0, .ref (X.2.2.2.1 0)), (1, .int a1), (2, .int a2), (3, .int v5), (6, .int v15)] [] M21) (fun u25 h => ?_) (fun j26 hj26 h => ?_)
              · refine g_iload (pn := 121) K rfl 5 rfl dX9_wetting_119 ?_
                refine g_istore (pn := 123) (lv' := [(4, .int v15), (7, .int v24), (0, .ref (X.2.2.2.1 0)), (1, .int a1), (2, .int a2), (3, .int v5), (6, .int v15)]) K rfl dX9_wetting_121 (Nat.le_of_ble_eq_true rfl) rfl ?_
                refine g_iload (pn := 125) K rfl 1 rfl dX9_wetting_123 ?_
                refine g_istore (pn := 127) (lv' := [(5, .int v24), (4, .int v15), (7, .int v24), (0, .ref (X.2.2.2.1 0)), (1, .int a1), (2, .int a2), (3, .int v5), (6, .int v15)]) K rfl dX9_wetting_125 (Nat.le_of_ble_eq_true rfl) rfl ?_
                obtain ⟨v27, ev27, h⟩ := bnd_e h
                refine g_iinc (pn := 130) (v := v27) (lv' := [(6, .int v27), (5, .int v24), (4, .int v15), (7, .int v24), (0, .ref (X.2.2.2.1 0)), (1, .int a1), (2, .int a2), (3, .int v5)]) K rfl 7 rfl ii_1 ev27 dX9_wetting_127 (Nat.le_of_ble_eq_true rfl) rfl ?_
                refine g_goto (tgt := 67) K (by decide) dX9_wetting_130 ?_
                refine g_sub [4, 5, 6, 7, 2, 1, 0] rfl ?_
                exact ih17 _ _ _ _ h
              refine g_icmp_eq (tgt := 119) (pn := 112) K rfl (by decide) dX9_wetting_109 h (fun h => ?_) (fun h => ?_)
              · refine g_sub [0, 1, 2, 3, 4, 7] rfl ?_
                exact hj26 _ h
              · refine g_iload (pn := 114) K rfl 0 rfl dX9_wetting_112 ?_
                refine g_iload (pn := 116) K rfl 6 rfl dX9_wetting_114 ?_
                refine g_icmp_ge (tgt := 127) (pn := 119) K rfl (by decide) dX9_wetting_116 h (fun h => ?_) (fun h => ?_)
                · obtain ⟨v28, ev28, h⟩ := bnd_e h
                  refine g_iinc (pn := 130) (v := v28) (lv' := [(6, .int v28), (7, .int v24), (0, .ref (X.2.2.2.1 0)), (1, .int a1), (2, .int a2), (3, .int v5), (4, .int v13), (5, .int v14)]) K rfl 7 rfl ii_1 ev28 dX9_wetting_127 (Nat.le_of_ble_eq_true rfl) rfl ?_
                  refine g_goto (tgt := 67) K (by decide) dX9_wetting_130 ?_
                  refine g_sub [2, 3, 4, 5, 6, 7, 0] rfl ?_
                  exact ih17 _ _ _ _ h
                · refine g_sub [0, 1, 2, 3, 4, 7] rfl ?_
                  exact hj26 _ h
        refine g_sub [3, 4, 5, 6, 2, 1, 0] rfl ?_
        exact LP67 FU _ _ _ _ h
      have LP30 : ∀ (fu31 : Nat) (v29 : Int32) (v30 : Int32), m_wetting_L30 M j6 fu31 v29 v30 = some (M', r) → G layM X Γ 8 (QM layM X Γ (some (.int r)) M') 30 [(0, .ref (X.2.2.2.1 0)), (1, .int a1), (2, .int a2), (3, .int v29), (4, .int v30)] [] M := by
        intro fu31
        induction fu31 with
        | zero =>
          intro v29 v30 h
          rw [m_wetting_L30] at h
          cases h
        | succ fu31 ih31 =>
          intro v29 v30 h
          rw [m_wetting_L30] at h
          refine g_iload (pn := 32) K rfl 4 rfl dX9_wetting_30 ?_
          refine g_aload_n (pn := 33) K rfl 0 rfl dX9_wetting_32 ?_
          refine g_geti (pn := 36) K rfl fl_X9_91 lm_0 rfl dX9_wetting_33 ?_
          refine g_icmp_ge (tgt := 58) (pn := 39) K rfl (by decide) dX9_wetting_36 h (fun h => ?_) (fun h => ?_)
          · refine g_sub [0, 1, 2, 3] rfl ?_
            exact hj6 _ h
          · refine g_iload_n (pn := 40) K rfl 3 rfl dX9_wetting_39 ?_
            refine g_aload_n (pn := 41) K rfl 0 rfl dX9_wetting_40 ?_
            refine g_getr (pn := 44) (j := 8) K rfl fl_X9_35 lm_0 rfl dX9_wetting_41 ?_
            refine g_iload (pn := 46) K rfl 4 rfl dX9_wetting_44 ?_
            refine g_iald (pn := 47) K rfl lm_8 dX9_wetting_46 h (fun h => ?_)
            refine g_iload (pn := 49) K rfl 4 rfl dX9_wetting_47 ?_
            refine g_ishl (pn := 50) K rfl dX9_wetting_49 ?_
            refine g_ior (pn := 51) K rfl dX9_wetting_50 ?_
            refine g_nmi h (fun v32 h => ?_)
            refine g_istore_n (pn := 52) (lv' := [(3, .int v32), (0, .ref (X.2.2.2.1 0)), (1, .int a1), (2, .int a2), (4, .int v30)]) K rfl dX9_wetting_51 rfl (Nat.le_of_ble_eq_true rfl) rfl ?_
            obtain ⟨v33, ev33, h⟩ := bnd_e h
            refine g_iinc (pn := 55) (v := v33) (lv' := [(4, .int v33), (3, .int v32), (0, .ref (X.2.2.2.1 0)), (1, .int a1), (2, .int a2)]) K rfl 4 rfl ii_1 ev33 dX9_wetting_52 (Nat.le_of_ble_eq_true rfl) rfl ?_
            refine g_goto (tgt := 30) K (by decide) dX9_wetting_55 ?_
            refine g_sub [2, 3, 4, 1, 0] rfl ?_
            exact ih31 _ _ h
      refine g_sub [2, 3, 4, 1, 0] rfl ?_
      exact LP30 FU _ _ h
    · refine g_bipush (pn := 24) (v := (-2)) K rfl bp_m2 dX9_wetting_22 ?_
      exact g_iret K dX9_wetting_24 (oi2 h).2 (oi2 h).1
set_option maxHeartbeats 4000000 in
set_option maxRecDepth 20000 in
theorem w_m_alone {X : XT} {M : Mem}  {M' : Mem} {r : Int32}   (h : m_alone M = some (M', r)) : CT layM X 173 yX9_alone cX9_alone 3 (some .int) [.ref (X.2.2.2.1 0)] M M' (some (.int r)) := by
  refine CT.of rfl (Nat.le_of_ble_eq_true rfl) (lv := [(0, .ref (X.2.2.2.1 0))]) rfl (fun Γ K => ?_)
  have K : Kx layM X Γ RX9 cX9_alone 3 173 (some .int) := K
  unfold m_alone at h
  refine g_iconst (pn := 1) (v := 0) K rfl ic_0 dX9_alone_0 ?_
  refine g_istore_n (pn := 2) (lv' := [(1, .int 0), (0, .ref (X.2.2.2.1 0))]) K rfl dX9_alone_1 rfl (Nat.le_of_ble_eq_true rfl) rfl ?_
  refine g_iconst (pn := 3) (v := 1) K rfl ic_1 dX9_alone_2 ?_
  refine g_istore_n (pn := 4) (lv' := [(2, .int 1), (1, .int 0), (0, .ref (X.2.2.2.1 0))]) K rfl dX9_alone_3 rfl (Nat.le_of_ble_eq_true rfl) rfl ?_
  refine jp_e2 h (fun v1 M2 => G layM X Γ 3 (QM layM X Γ (some (.int r)) M') 36 [(1, .int v1)] [] M2) (fun v1 M2 h => ?_) (fun j3 hj3 h => ?_)
  · refine g_iload_n (pn := 37) K rfl 0 rfl dX9_alone_36 ?_
    exact g_iret K dX9_alone_37 (oi2 h).2 (oi2 h).1
  have LP4 : ∀ (fu7 : Nat) (v4 : Int32) (v5 : Int32) (M6 : Mem), m_alone_L4 j3 fu7 v4 v5 M6 = some (M', r) → G layM X Γ 3 (QM layM X Γ (some (.int r)) M') 4 [(0, .ref (X.2.2.2.1 0)), (1, .int v4), (2, .int v5)] [] M6 := by
    intro fu7
    induction fu7 with
    | zero =>
      intro v4 v5 M6 h
      rw [m_alone_L4] at h
      cases h
    | succ fu7 ih7 =>
      intro v4 v5 M6 h
      rw [m_alone_L4] at h
      refine g_iload_n (pn := 5) K rfl 2 rfl dX9_alone_4 ?_
      refine g_aload_n (pn := 6) K rfl 0 rfl dX9_alone_5 ?_
      refine g_geti (pn := 9) K rfl fl_X9_91 lm_0 rfl dX9_alone_6 ?_
      refine g_icmp_gt (tgt := 36) (pn := 12) K rfl (by decide) dX9_alone_9 h (fun h => ?_) (fun h => ?_)
      · refine g_sub [1] rfl ?_
        exact hj3 _ _ h
      · refine g_aload_n (pn := 13) K rfl 0 rfl dX9_alone_12 ?_
        refine g_iload_n (pn := 14) K rfl 2 rfl dX9_alone_13 ?_
        obtain ⟨M9, hc8, h⟩ := ob_e h
        refine g_callV0 (pn := 17) (As := [.int v5]) (rest := []) (a := 0) K rfl (d' := 172) (Nat.le_of_ble_eq_true rfl) mv_X9_297 (recvO K lm_0 rfl) (w_m_livesPlain hc8) rfl rfl (Nat.le_of_ble_eq_true rfl) dX9_alone_14 ?_
        refine g_aload_n (pn := 18) K rfl 0 rfl dX9_alone_17 ?_
        refine g_geti (pn := 21) K rfl fl_X9_258 lm_0 rfl dX9_alone_18 ?_
        refine jp_e1 h (fun v10 => G layM X Γ 3 (QM layM X Γ (some (.int r)) M') 29 [(0, .ref (X.2.2.2.1 0)), (2, .int v5)] [.int v10] M9) (fun v10 h => ?_) (fun j11 hj11 h => ?_)
        · refine g_istore_n (pn := 30) (lv' := [(1, .int v10), (0, .ref (X.2.2.2.1 0)), (2, .int v5)]) K rfl dX9_alone_29 rfl (Nat.le_of_ble_eq_true rfl) rfl ?_
          obtain ⟨v12, ev12, h⟩ := bnd_e h
          refine g_iinc (pn := 33) (v := v12) (lv' := [(2, .int v12), (1, .int v10), (0, .ref (X.2.2.2.1 0))]) K rfl 2 rfl ii_1 ev12 dX9_alone_30 (Nat.le_of_ble_eq_true rfl) rfl ?_
          refine g_goto (tgt := 4) K (by decide) dX9_alone_33 ?_
          refine g_sub [2, 1, 0] rfl ?_
          exact ih7 _ _ _ h
        refine g_if_ne (tgt := 28) (pn := 24) K rfl (by decide) dX9_alone_21 h (fun h => ?_) (fun h => ?_)
        · refine g_iload_n (pn := 29) K rfl 1 rfl dX9_alone_28 ?_
          refine g_sub [0, 2] rfl ?_
          exact hj11 _ h
        · refine g_iload_n (pn := 25) K rfl 2 rfl dX9_alone_24 ?_
          refine g_goto (tgt := 29) K (by decide) dX9_alone_25 ?_
          refine g_sub [0, 2] rfl ?_
          exact hj11 _ h
  refine g_sub [2, 1, 0] rfl ?_
  exact LP4 FU _ _ _ h
set_option maxHeartbeats 4000000 in
set_option maxRecDepth 20000 in
theorem w_m_livesBy {X : XT} {M : Mem} {a1 : Int32} {a2 : Int32} {M' : Mem}   (h : m_livesBy M a1 a2 = some M') : CT layM X 173 yX9_livesBy cX9_livesBy 4 none [.ref (X.2.2.2.1 0), .int a1, .int a2] M M' none := by
  refine CT.of rfl (Nat.le_of_ble_eq_true rfl) (lv := [(0, .ref (X.2.2.2.1 0)), (1, .int a1), (2, .int a2)]) rfl (fun Γ K => ?_)
  have K : Kx layM X Γ RX9 cX9_livesBy 4 173 none := K
  unfold m_livesBy at h
  refine g_aload_n (pn := 1) K rfl 0 rfl dX9_livesBy_0 ?_
  refine g_getr (pn := 4) (j := 4) K rfl fl_X9_23 lm_0 rfl dX9_livesBy_1 ?_
  refine g_iload_n (pn := 5) K rfl 1 rfl dX9_livesBy_4 ?_
  refine g_iald (pn := 6) K rfl lm_4 dX9_livesBy_5 h (fun h => ?_)
  refine g_nmi h (fun v1 h => ?_)
  refine g_istore_n (pn := 7) (lv' := [(3, .int v1), (0, .ref (X.2.2.2.1 0)), (1, .int a1), (2, .int a2)]) K rfl dX9_livesBy_6 rfl (Nat.le_of_ble_eq_true rfl) rfl ?_
  refine g_aload_n (pn := 8) K rfl 1 rfl dX9_livesBy_7 ?_
  refine g_getr (pn := 11) (j := 4) K rfl fl_X9_23 lm_0 rfl dX9_livesBy_8 ?_
  refine g_iload_n (pn := 12) K rfl 2 rfl dX9_livesBy_11 ?_
  refine g_iload_n (pn := 13) K rfl 3 rfl dX9_livesBy_12 ?_
  refine g_iast (pn := 14) K rfl lm_4 dX9_livesBy_13 h (fun M2 h => ?_)
  refine g_aload_n (pn := 15) K rfl 1 rfl dX9_livesBy_14 ?_
  refine g_aload_n (pn := 16) K rfl 1 rfl dX9_livesBy_15 ?_
  refine g_geti (pn := 19) K rfl fl_X9_91 lm_0 rfl dX9_livesBy_16 ?_
  obtain ⟨M4, hc3, h⟩ := ob_e h
  refine g_callV0 (pn := 22) (As := [.int (M2 0 12)]) (rest := []) (a := 0) K rfl (d' := 172) (Nat.le_of_ble_eq_true rfl) mv_X9_297 (recvO K lm_0 rfl) (w_m_livesPlain hc3) rfl rfl (Nat.le_of_ble_eq_true rfl) dX9_livesBy_19 ?_
  refine g_aload_n (pn := 23) K rfl 1 rfl dX9_livesBy_22 ?_
  refine g_getr (pn := 26) (j := 4) K rfl fl_X9_23 lm_0 rfl dX9_livesBy_23 ?_
  refine g_iload_n (pn := 27) K rfl 2 rfl dX9_livesBy_26 ?_
  refine g_iload_n (pn := 28) K rfl 0 rfl dX9_livesBy_27 ?_
  refine g_iast (pn := 29) K rfl lm_4 dX9_livesBy_28 h (fun M5 h => ?_)
  exact g_vret K dX9_livesBy_29 (oi h)
set_option maxHeartbeats 4000000 in
set_option maxRecDepth 20000 in
theorem w_m_tooWarm {X : XT} {M : Mem}  {M' : Mem} {r : Int32}   (h : m_tooWarm M = some (M', r)) : CT layM X 174 yX9_tooWarm cX9_tooWarm 3 (some .int) [.ref (X.2.2.2.1 0)] M M' (some (.int r)) := by
  refine CT.of rfl (Nat.le_of_ble_eq_true rfl) (lv := [(0, .ref (X.2.2.2.1 0))]) rfl (fun Γ K => ?_)
  have K : Kx layM X Γ RX9 cX9_tooWarm 3 174 (some .int) := K
  unfold m_tooWarm at h
  refine g_iconst (pn := 1) (v := (-1)) K rfl ic_m1 dX9_tooWarm_0 ?_
  refine g_istore_n (pn := 2) (lv' := [(1, .int (-1)), (0, .ref (X.2.2.2.1 0))]) K rfl dX9_tooWarm_1 rfl (Nat.le_of_ble_eq_true rfl) rfl ?_
  refine g_bipush (pn := 4) (v := 40) K rfl bp_40 dX9_tooWarm_2 ?_
  refine g_istore_n (pn := 5) (lv' := [(2, .int 40), (1, .int (-1)), (0, .ref (X.2.2.2.1 0))]) K rfl dX9_tooWarm_4 rfl (Nat.le_of_ble_eq_true rfl) rfl ?_
  refine jp_e2 h (fun v1 M2 => G layM X Γ 3 (QM layM X Γ (some (.int r)) M') 33 [(1, .int v1)] [] M2) (fun v1 M2 h => ?_) (fun j3 hj3 h => ?_)
  · refine g_iload_n (pn := 34) K rfl 0 rfl dX9_tooWarm_33 ?_
    exact g_iret K dX9_tooWarm_34 (oi2 h).2 (oi2 h).1
  have LP5 : ∀ (fu7 : Nat) (v4 : Int32) (v5 : Int32) (M6 : Mem), m_tooWarm_L5 j3 fu7 v4 v5 M6 = some (M', r) → G layM X Γ 3 (QM layM X Γ (some (.int r)) M') 5 [(0, .ref (X.2.2.2.1 0)), (1, .int v4), (2, .int v5)] [] M6 := by
    intro fu7
    induction fu7 with
    | zero =>
      intro v4 v5 M6 h
      rw [m_tooWarm_L5] at h
      cases h
    | succ fu7 ih7 =>
      intro v4 v5 M6 h
      rw [m_tooWarm_L5] at h
      refine g_iload_n (pn := 6) K rfl 2 rfl dX9_tooWarm_5 ?_
      refine g_if_lt (tgt := 33) (pn := 9) K rfl (by decide) dX9_tooWarm_6 h (fun h => ?_) (fun h => ?_)
      · refine g_sub [1] rfl ?_
        exact hj3 _ _ h
      · refine g_aload_n (pn := 10) K rfl 0 rfl dX9_tooWarm_9 ?_
        refine g_iconst (pn := 11) (v := 0) K rfl ic_0 dX9_tooWarm_10 ?_
        refine g_iload_n (pn := 12) K rfl 2 rfl dX9_tooWarm_11 ?_
        obtain ⟨M9, hc8, h⟩ := ob_e h
        refine g_callV0 (pn := 15) (As := [.int 0, .int v5]) (rest := []) (a := 0) K rfl (d' := 173) (Nat.le_of_ble_eq_true rfl) mv_X9_332 (recvO K lm_0 rfl) (w_m_livesBy hc8) rfl rfl (Nat.le_of_ble_eq_true rfl) dX9_tooWarm_12 ?_
        refine g_aload_n (pn := 16) K rfl 0 rfl dX9_tooWarm_15 ?_
        refine g_iconst (pn := 17) (v := 1) K rfl ic_1 dX9_tooWarm_16 ?_
        obtain ⟨v11, hc10, h⟩ := ob_e h
        refine g_callV1 (pn := 20) (As := [.int 1]) (rest := []) (a := 0) K rfl (d' := 0) (Nat.le_of_ble_eq_true rfl) mv_X9_290 (recvO K lm_0 rfl) (w_m_setOf hc10) rfl rfl (Nat.le_of_ble_eq_true rfl) dX9_tooWarm_17 ?_
        refine g_if_ne (tgt := 25) (pn := 23) K rfl (by decide) dX9_tooWarm_20 h (fun h => ?_) (fun h => ?_)
        · refine g_iload_n (pn := 26) K rfl 2 rfl dX9_tooWarm_25 ?_
          refine g_istore_n (pn := 27) (lv' := [(1, .int v5), (0, .ref (X.2.2.2.1 0)), (2, .int v5)]) K rfl dX9_tooWarm_26 rfl (Nat.le_of_ble_eq_true rfl) rfl ?_
          obtain ⟨v12, ev12, h⟩ := bnd_e h
          refine g_iinc (pn := 30) (v := v12) (lv' := [(2, .int v12), (1, .int v5), (0, .ref (X.2.2.2.1 0))]) K rfl 2 rfl ii_m1 ev12 dX9_tooWarm_27 (Nat.le_of_ble_eq_true rfl) rfl ?_
          refine g_goto (tgt := 5) K (by decide) dX9_tooWarm_30 ?_
          refine g_sub [2, 1, 0] rfl ?_
          exact ih7 _ _ _ h
        · refine g_iload_n (pn := 24) K rfl 1 rfl dX9_tooWarm_23 ?_
          exact g_iret K dX9_tooWarm_24 (oi2 h).2 (oi2 h).1
  refine g_sub [2, 1, 0] rfl ?_
  exact LP5 FU _ _ _ h
set_option maxHeartbeats 4000000 in
set_option maxRecDepth 20000 in
theorem w_m_gains {X : XT} {M : Mem} {a1 : Int32} {M' : Mem} {r : Int32}   (h : m_gains M a1 = some (M', r)) : CT layM X 174 yX9_gains cX9_gains 3 (some .int) [.ref (X.2.2.2.1 0), .int a1] M M' (some (.int r)) := by
  refine CT.of rfl (Nat.le_of_ble_eq_true rfl) (lv := [(0, .ref (X.2.2.2.1 0)), (1, .int a1)]) rfl (fun Γ K => ?_)
  have K : Kx layM X Γ RX9 cX9_gains 3 174 (some .int) := K
  unfold m_gains at h
  refine g_iload_n (pn := 1) K rfl 1 rfl dX9_gains_0 ?_
  refine g_i2l (pn := 2) K rfl dX9_gains_1 ?_
  refine g_lconst (pn := 3) (v := 0) K rfl lc_0 dX9_gains_2 ?_
  refine g_lconst (pn := 4) (v := 1) K rfl lc_1 dX9_gains_3 ?_
  obtain ⟨v2, hc1, h⟩ := ob_e h
  refine g_callS1 (pn := 7) (As := [.long a1.toInt64, .long 0, .long 1]) (rest := []) K rfl (d' := 0) (Nat.le_of_ble_eq_true rfl) ms_X9_94 (w_m_in hc1) rfl rfl (Nat.le_of_ble_eq_true rfl) dX9_gains_4 ?_
  refine g_ifB_ne (tgt := 14) (pn := 10) K rfl (by decide) dX9_gains_7 h (fun h => ?_) (fun h => ?_)
  · refine g_aload_n (pn := 15) K rfl 0 rfl dX9_gains_14 ?_
    refine g_iload_n (pn := 16) K rfl 1 rfl dX9_gains_15 ?_
    refine jp_e1 h (fun v3 => G layM X Γ 3 (QM layM X Γ (some (.int r)) M') 24 [(0, .ref (X.2.2.2.1 0)), (1, .int a1)] [.int v3, .ref (X.2.2.2.1 0)] M) (fun v3 h => ?_) (fun j4 hj4 h => ?_)
    · refine g_iload_n (pn := 25) K rfl 1 rfl dX9_gains_24 ?_
      refine jp_e1 h (fun v5 => G layM X Γ 3 (QM layM X Γ (some (.int r)) M') 34 [(0, .ref (X.2.2.2.1 0)), (1, .int a1)] [.int v5, .int v3, .ref (X.2.2.2.1 0)] M) (fun v5 h => ?_) (fun j6 hj6 h => ?_)
      · obtain ⟨M8, hc7, h⟩ := ob_e h
        refine g_callV0 (pn := 37) (As := [.int v3, .int v5]) (rest := []) (a := 0) K rfl (d' := 173) (Nat.le_of_ble_eq_true rfl) mv_X9_332 (recvO K lm_0 rfl) (w_m_livesBy hc7) rfl rfl (Nat.le_of_ble_eq_true rfl) dX9_gains_34 ?_
        refine g_iload_n (pn := 38) K rfl 1 rfl dX9_gains_37 ?_
        refine jp_e1 h (fun v9 => G layM X Γ 3 (QM layM X Γ (some (.int r)) M') 52 [(0, .ref (X.2.2.2.1 0)), (1, .int a1)] [.int v9] M8) (fun v9 h => ?_) (fun j10 hj10 h => ?_)
        · refine g_istore_n (pn := 53) (lv' := [(2, .int v9), (0, .ref (X.2.2.2.1 0)), (1, .int a1)]) K rfl dX9_gains_52 rfl (Nat.le_of_ble_eq_true rfl) rfl ?_
          refine g_aload_n (pn := 54) K rfl 1 rfl dX9_gains_53 ?_
          refine g_iload_n (pn := 55) K rfl 2 rfl dX9_gains_54 ?_
          refine jp_e1 h (fun v11 => G layM X Γ 3 (QM layM X Γ (some (.int r)) M') 63 [(2, .int v9), (0, .ref (X.2.2.2.1 0)), (1, .int a1)] [.int v11, .ref (X.2.2.2.1 0)] M8) (fun v11 h => ?_) (fun j12 hj12 h => ?_)
          · refine g_iload_n (pn := 64) K rfl 2 rfl dX9_gains_63 ?_
            refine jp_e1 h (fun v13 => G layM X Γ 3 (QM layM X Γ (some (.int r)) M') 72 [(2, .int v9), (0, .ref (X.2.2.2.1 0)), (1, .int a1)] [.int v13, .int v11, .ref (X.2.2.2.1 0)] M8) (fun v13 h => ?_) (fun j14 hj14 h => ?_)
            · obtain ⟨M16, hc15, h⟩ := ob_e h
              refine g_callV0 (pn := 75) (As := [.int v11, .int v13]) (rest := []) (a := 0) K rfl (d' := 173) (Nat.le_of_ble_eq_true rfl) mv_X9_332 (recvO K lm_0 rfl) (w_m_livesBy hc15) rfl rfl (Nat.le_of_ble_eq_true rfl) dX9_gains_72 ?_
              refine g_iload_n (pn := 76) K rfl 0 rfl dX9_gains_75 ?_
              refine g_iload_n (pn := 77) K rfl 2 rfl dX9_gains_76 ?_
              refine jp_e1 h (fun v17 => G layM X Γ 3 (QM layM X Γ (some (.int r)) M') 91 [] [.int v17, .int v9] M16) (fun v17 h => ?_) (fun j18 hj18 h => ?_)
              · refine g_isub (pn := 92) K rfl dX9_gains_91 ?_
                exact g_iret K dX9_gains_92 (oi2 h).2 (oi2 h).1
              refine g_if_ne (tgt := 87) (pn := 80) K rfl (by decide) dX9_gains_77 h (fun h => ?_) (fun h => ?_)
              · refine g_aload_n (pn := 88) K rfl 1 rfl dX9_gains_87 ?_
                refine g_geti (pn := 91) K rfl fl_X9_255 lm_0 rfl dX9_gains_88 ?_
                refine g_sub [] rfl ?_
                exact hj18 _ h
              · refine g_aload_n (pn := 81) K rfl 1 rfl dX9_gains_80 ?_
                refine g_geti (pn := 84) K rfl fl_X9_258 lm_0 rfl dX9_gains_81 ?_
                refine g_goto (tgt := 91) K (by decide) dX9_gains_84 ?_
                refine g_sub [] rfl ?_
                exact hj18 _ h
            refine g_if_ne (tgt := 71) (pn := 67) K rfl (by decide) dX9_gains_64 h (fun h => ?_) (fun h => ?_)
            · refine g_iconst (pn := 72) (v := 2) K rfl ic_2 dX9_gains_71 ?_
              exact hj14 _ h
            · refine g_iconst (pn := 68) (v := 0) K rfl ic_0 dX9_gains_67 ?_
              refine g_goto (tgt := 72) K (by decide) dX9_gains_68 ?_
              exact hj14 _ h
          refine g_if_ne (tgt := 62) (pn := 58) K rfl (by decide) dX9_gains_55 h (fun h => ?_) (fun h => ?_)
          · refine g_iconst (pn := 63) (v := 3) K rfl ic_3 dX9_gains_62 ?_
            exact hj12 _ h
          · refine g_iconst (pn := 59) (v := 2) K rfl ic_2 dX9_gains_58 ?_
            refine g_goto (tgt := 63) K (by decide) dX9_gains_59 ?_
            exact hj12 _ h
        refine g_if_ne (tgt := 48) (pn := 41) K rfl (by decide) dX9_gains_38 h (fun h => ?_) (fun h => ?_)
        · refine g_aload_n (pn := 49) K rfl 0 rfl dX9_gains_48 ?_
          refine g_geti (pn := 52) K rfl fl_X9_255 lm_0 rfl dX9_gains_49 ?_
          exact hj10 _ h
        · refine g_aload_n (pn := 42) K rfl 0 rfl dX9_gains_41 ?_
          refine g_geti (pn := 45) K rfl fl_X9_258 lm_0 rfl dX9_gains_42 ?_
          refine g_goto (tgt := 52) K (by decide) dX9_gains_45 ?_
          exact hj10 _ h
      refine g_if_ne (tgt := 33) (pn := 28) K rfl (by decide) dX9_gains_25 h (fun h => ?_) (fun h => ?_)
      · refine g_iconst (pn := 34) (v := 1) K rfl ic_1 dX9_gains_33 ?_
        exact hj6 _ h
      · refine g_bipush (pn := 30) (v := 9) K rfl bp_9 dX9_gains_28 ?_
        refine g_goto (tgt := 34) K (by decide) dX9_gains_30 ?_
        exact hj6 _ h
    refine g_if_ne (tgt := 23) (pn := 19) K rfl (by decide) dX9_gains_16 h (fun h => ?_) (fun h => ?_)
    · refine g_iconst (pn := 24) (v := 3) K rfl ic_3 dX9_gains_23 ?_
      exact hj4 _ h
    · refine g_iconst (pn := 20) (v := 2) K rfl ic_2 dX9_gains_19 ?_
      refine g_goto (tgt := 24) K (by decide) dX9_gains_20 ?_
      exact hj4 _ h
  · refine g_ldcw (pn := 13) (v := (-100000)) K rfl cn_X9_296 dX9_gains_10 ?_
    exact g_iret K dX9_gains_13 (oi2 h).2 (oi2 h).1
set_option maxHeartbeats 4000000 in
set_option maxRecDepth 20000 in
theorem w_m_buckets {X : XT} {M : Mem} {a1 : Int32} {a2 : Int32} {M' : Mem} {r : Int32}   (h : m_buckets M a1 a2 = some (M', r)) : CT layM X 173 yX9_buckets cX9_buckets 9 (some .int) [.ref (X.2.2.2.1 0), .int a1, .int a2] M M' (some (.int r)) := by
  refine CT.of rfl (Nat.le_of_ble_eq_true rfl) (lv := [(0, .ref (X.2.2.2.1 0)), (1, .int a1), (2, .int a2)]) rfl (fun Γ K => ?_)
  have K : Kx layM X Γ RX9 cX9_buckets 9 173 (some .int) := K
  unfold m_buckets at h
  refine g_iload_n (pn := 1) K rfl 1 rfl dX9_buckets_0 ?_
  refine g_i2l (pn := 2) K rfl dX9_buckets_1 ?_
  refine g_lconst (pn := 3) (v := 1) K rfl lc_1 dX9_buckets_2 ?_
  refine g_ldc2 (pn := 6) (v := 40) K rfl cl_X9_335 dX9_buckets_3 ?_
  obtain ⟨v2, hc1, h⟩ := ob_e h
  refine g_callS1 (pn := 9) (As := [.long a1.toInt64, .long 1, .long 40]) (rest := []) K rfl (d' := 0) (Nat.le_of_ble_eq_true rfl) ms_X9_94 (w_m_in hc1) rfl rfl (Nat.le_of_ble_eq_true rfl) dX9_buckets_6 ?_
  refine g_ifB_eq (tgt := 22) (pn := 12) K rfl (by decide) dX9_buckets_9 h (fun h => ?_) (fun h => ?_)
  · refine g_bipush (pn := 24) (v := (-2)) K rfl bp_m2 dX9_buckets_22 ?_
    exact g_iret K dX9_buckets_24 (oi2 h).2 (oi2 h).1
  · refine g_iload_n (pn := 13) K rfl 2 rfl dX9_buckets_12 ?_
    refine g_i2l (pn := 14) K rfl dX9_buckets_13 ?_
    refine g_lconst (pn := 15) (v := 0) K rfl lc_0 dX9_buckets_14 ?_
    refine g_lconst (pn := 16) (v := 1) K rfl lc_1 dX9_buckets_15 ?_
    obtain ⟨v4, hc3, h⟩ := ob_e h
    refine g_callS1 (pn := 19) (As := [.long a2.toInt64, .long 0, .long 1]) (rest := []) K rfl (d' := 0) (Nat.le_of_ble_eq_true rfl) ms_X9_94 (w_m_in hc3) rfl rfl (Nat.le_of_ble_eq_true rfl) dX9_buckets_16 ?_
    refine g_ifB_ne (tgt := 25) (pn := 22) K rfl (by decide) dX9_buckets_19 h (fun h => ?_) (fun h => ?_)
    · refine g_aload_n (pn := 26) K rfl 0 rfl dX9_buckets_25 ?_
      refine g_aload_n (pn := 27) K rfl 0 rfl dX9_buckets_26 ?_
      refine g_geti (pn := 30) K rfl fl_X9_91 lm_0 rfl dX9_buckets_27 ?_
      obtain ⟨M6, hc5, h⟩ := ob_e h
      refine g_callV0 (pn := 33) (As := [.int (M 0 12)]) (rest := []) (a := 0) K rfl (d' := 172) (Nat.le_of_ble_eq_true rfl) mv_X9_297 (recvO K lm_0 rfl) (w_m_livesPlain hc5) rfl rfl (Nat.le_of_ble_eq_true rfl) dX9_buckets_30 ?_
      refine g_iconst (pn := 34) (v := 0) K rfl ic_0 dX9_buckets_33 ?_
      refine g_istore_n (pn := 35) (lv' := [(3, .int 0), (0, .ref (X.2.2.2.1 0)), (1, .int a1), (2, .int a2)]) K rfl dX9_buckets_34 rfl (Nat.le_of_ble_eq_true rfl) rfl ?_
      refine g_iconst (pn := 36) (v := 0) K rfl ic_0 dX9_buckets_35 ?_
      refine g_istore (pn := 38) (lv' := [(4, .int 0), (3, .int 0), (0, .ref (X.2.2.2.1 0)), (1, .int a1), (2, .int a2)]) K rfl dX9_buckets_36 (Nat.le_of_ble_eq_true rfl) rfl ?_
      refine g_iconst (pn := 39) (v := 0) K rfl ic_0 dX9_buckets_38 ?_
      refine g_istore (pn := 41) (lv' := [(5, .int 0), (4, .int 0), (3, .int 0), (0, .ref (X.2.2.2.1 0)), (1, .int a1), (2, .int a2)]) K rfl dX9_buckets_39 (Nat.le_of_ble_eq_true rfl) rfl ?_
      refine g_iconst (pn := 42) (v := 0) K rfl ic_0 dX9_buckets_41 ?_
      refine g_istore (pn := 44) (lv' := [(6, .int 0), (5, .int 0), (4, .int 0), (3, .int 0), (0, .ref (X.2.2.2.1 0)), (1, .int a1), (2, .int a2)]) K rfl dX9_buckets_42 (Nat.le_of_ble_eq_true rfl) rfl ?_
      refine g_iconst (pn := 45) (v := 0) K rfl ic_0 dX9_buckets_44 ?_
      refine g_istore (pn := 47) (lv' := [(7, .int 0), (6, .int 0), (5, .int 0), (4, .int 0), (3, .int 0), (0, .ref (X.2.2.2.1 0)), (1, .int a1), (2, .int a2)]) K rfl dX9_buckets_45 (Nat.le_of_ble_eq_true rfl) rfl ?_
      refine jp_e3 h (fun v7 v8 v9 => G layM X Γ 9 (QM layM X Γ (some (.int r)) M') 167 [(2, .int a2), (3, .int v7), (5, .int v8), (6, .int v9)] [] M6) (fun v7 v8 v9 h => ?_) (fun j10 hj10 h => ?_)
      · refine g_iload_n (pn := 168) K rfl 0 rfl dX9_buckets_167 ?_
        refine g_if_ne (tgt := 176) (pn := 171) K rfl (by decide) dX9_buckets_168 h (fun h => ?_) (fun h => ?_)
        · refine g_iload (pn := 178) K rfl 3 rfl dX9_buckets_176 ?_
          refine g_iload_n (pn := 179) K rfl 1 rfl dX9_buckets_178 ?_
          refine g_iadd (pn := 180) K rfl dX9_buckets_179 ?_
          exact g_iret K dX9_buckets_180 (oi2 h).2 (oi2 h).1
        · refine g_iload (pn := 173) K rfl 2 rfl dX9_buckets_171 ?_
          refine g_goto (tgt := 180) K (by decide) dX9_buckets_173 ?_
          exact g_iret K dX9_buckets_180 (oi2 h).2 (oi2 h).1
      have LP47 : ∀ (fu16 : Nat) (v11 : Int32) (v12 : Int32) (v13 : Int32) (v14 : Int32) (v15 : Int32), m_buckets_L47 a1 M6 j10 fu16 v11 v12 v13 v14 v15 = some (M', r) → G layM X Γ 9 (QM layM X Γ (some (.int r)) M') 47 [(0, .ref (X.2.2.2.1 0)), (1, .int a1), (2, .int a2), (3, .int v11), (4, .int v12), (5, .int v13), (6, .int v14), (7, .int v15)] [] M6 := by
        intro fu16
        induction fu16 with
        | zero =>
          intro v11 v12 v13 v14 v15 h
          rw [m_buckets_L47] at h
          cases h
        | succ fu16 ih16 =>
          intro v11 v12 v13 v14 v15 h
          rw [m_buckets_L47] at h
          refine g_iload (pn := 49) K rfl 7 rfl dX9_buckets_47 ?_
          refine g_aload_n (pn := 50) K rfl 0 rfl dX9_buckets_49 ?_
          refine g_geti (pn := 53) K rfl fl_X9_91 lm_0 rfl dX9_buckets_50 ?_
          refine g_icmp_ge (tgt := 167) (pn := 56) K rfl (by decide) dX9_buckets_53 h (fun h => ?_) (fun h => ?_)
          · refine g_sub [2, 3, 5, 6] rfl ?_
            exact hj10 _ _ _ h
          · refine g_aload_n (pn := 57) K rfl 0 rfl dX9_buckets_56 ?_
            refine g_getr (pn := 60) (j := 13) K rfl fl_X9_50 lm_0 rfl dX9_buckets_57 ?_
            refine g_iload (pn := 62) K rfl 7 rfl dX9_buckets_60 ?_
            refine g_iald (pn := 63) K rfl lm_13 dX9_buckets_62 h (fun h => ?_)
            refine g_iconst (pn := 64) (v := (-1)) K rfl ic_m1 dX9_buckets_63 ?_
            refine g_icmp_eq (tgt := 161) (pn := 67) K rfl (by decide) dX9_buckets_64 h (fun h => ?_) (fun h => ?_)
            · obtain ⟨v17, ev17, h⟩ := bnd_e h
              refine g_iinc (pn := 164) (v := v17) (lv' := [(7, .int v17), (0, .ref (X.2.2.2.1 0)), (1, .int a1), (2, .int a2), (3, .int v11), (4, .int v12), (5, .int v13), (6, .int v14)]) K rfl 7 rfl ii_1 ev17 dX9_buckets_161 (Nat.le_of_ble_eq_true rfl) rfl ?_
              refine g_goto (tgt := 47) K (by decide) dX9_buckets_164 ?_
              refine g_sub [1, 2, 3, 4, 5, 6, 7, 0] rfl ?_
              exact ih16 _ _ _ _ _ h
            · refine g_iload_n (pn := 68) K rfl 3 rfl dX9_buckets_67 ?_
              refine g_aload_n (pn := 69) K rfl 0 rfl dX9_buckets_68 ?_
              refine g_getr (pn := 72) (j := 7) K rfl fl_X9_32 lm_0 rfl dX9_buckets_69 ?_
              refine g_iload (pn := 74) K rfl 7 rfl dX9_buckets_72 ?_
              refine g_iald (pn := 75) K rfl lm_7 dX9_buckets_74 h (fun h => ?_)
              refine jp_e1 h (fun v18 => G layM X Γ 9 (QM layM X Γ (some (.int r)) M') 111 [(0, .ref (X.2.2.2.1 0)), (1, .int a1), (2, .int a2), (5, .int v13), (6, .int v14), (7, .int v15), (3, .int v18)] [] M6) (fun v18 h => ?_) (fun j19 hj19 h => ?_)
              · refine g_iload (pn := 113) K rfl 4 rfl dX9_buckets_111 ?_
                refine g_iload_n (pn := 114) K rfl 6 rfl dX9_buckets_113 ?_
                refine g_iadd (pn := 115) K rfl dX9_buckets_114 ?_
                refine g_nmi h (fun v20 h => ?_)
                refine g_istore (pn := 117) (lv' := [(6, .int v20), (0, .ref (X.2.2.2.1 0)), (1, .int a1), (2, .int a2), (5, .int v13), (7, .int v15), (3, .int v18)]) K rfl dX9_buckets_115 (Nat.le_of_ble_eq_true rfl) rfl ?_
                refine g_aload_n (pn := 118) K rfl 1 rfl dX9_buckets_117 ?_
                refine g_getr (pn := 121) (j := 7) K rfl fl_X9_32 lm_0 rfl dX9_buckets_118 ?_
                refine g_iload (pn := 123) K rfl 5 rfl dX9_buckets_121 ?_
                refine g_iald (pn := 124) K rfl lm_7 dX9_buckets_123 h (fun h => ?_)
                refine g_iload_n (pn := 125) K rfl 2 rfl dX9_buckets_124 ?_
                refine g_iadd (pn := 126) K rfl dX9_buckets_125 ?_
                refine g_iconst (pn := 127) (v := 1) K rfl ic_1 dX9_buckets_126 ?_
                refine g_isub (pn := 128) K rfl dX9_buckets_127 ?_
                refine g_iload_n (pn := 129) K rfl 2 rfl dX9_buckets_128 ?_
                obtain ⟨hz, h⟩ := nz_e h
                refine g_idiv (pn := 130) K rfl hz dX9_buckets_129 ?_
                refine g_nmi h (fun v21 h => ?_)
                refine g_istore (pn := 132) (lv' := [(8, .int v21), (6, .int v20), (0, .ref (X.2.2.2.1 0)), (1, .int a1), (2, .int a2), (5, .int v13), (7, .int v15), (3, .int v18)]) K rfl dX9_buckets_130 (Nat.le_of_ble_eq_true rfl) rfl ?_
                refine g_iload (pn := 134) K rfl 5 rfl dX9_buckets_132 ?_
                refine g_iload (pn := 136) K rfl 0 rfl dX9_buckets_134 ?_
                refine g_iadd (pn := 137) K rfl dX9_buckets_136 ?_
                refine g_nmi h (fun v22 h => ?_)
                refine g_istore (pn := 139) (lv' := [(5, .int v22), (8, .int v21), (6, .int v20), (0, .ref (X.2.2.2.1 0)), (1, .int a1), (2, .int a2), (7, .int v15), (3, .int v18)]) K rfl dX9_buckets_137 (Nat.le_of_ble_eq_true rfl) rfl ?_
                refine g_aload_n (pn := 140) K rfl 3 rfl dX9_buckets_139 ?_
                refine g_getr (pn := 143) (j := 13) K rfl fl_X9_50 lm_0 rfl dX9_buckets_140 ?_
                refine g_iload (pn := 145) K rfl 6 rfl dX9_buckets_143 ?_
                refine g_iald (pn := 146) K rfl lm_13 dX9_buckets_145 h (fun h => ?_)
                refine g_nmi h (fun v23 h => ?_)
                refine g_istore (pn := 148) (lv' := [(4, .int v23), (5, .int v22), (8, .int v21), (6, .int v20), (0, .ref (X.2.2.2.1 0)), (1, .int a1), (2, .int a2), (7, .int v15), (3, .int v18)]) K rfl dX9_buckets_146 (Nat.le_of_ble_eq_true rfl) rfl ?_
                refine g_iload (pn := 150) K rfl 2 rfl dX9_buckets_148 ?_
                refine g_iload_n (pn := 151) K rfl 5 rfl dX9_buckets_150 ?_
                refine g_imul (pn := 152) K rfl dX9_buckets_151 ?_
                refine g_aload_n (pn := 153) K rfl 4 rfl dX9_buckets_152 ?_
                refine g_getr (pn := 156) (j := 7) K rfl fl_X9_32 lm_0 rfl dX9_buckets_153 ?_
                refine g_iload (pn := 158) K rfl 7 rfl dX9_buckets_156 ?_
                refine g_iald (pn := 159) K rfl lm_7 dX9_buckets_158 h (fun h => ?_)
                refine g_isub (pn := 160) K rfl dX9_buckets_159 ?_
                refine g_nmi h (fun v24 h => ?_)
                refine g_istore_n (pn := 161) (lv' := [(3, .int v24), (4, .int v23), (5, .int v22), (8, .int v21), (6, .int v20), (0, .ref (X.2.2.2.1 0)), (1, .int a1), (2, .int a2), (7, .int v15)]) K rfl dX9_buckets_160 rfl (Nat.le_of_ble_eq_true rfl) rfl ?_
                obtain ⟨v25, ev25, h⟩ := bnd_e h
                refine g_iinc (pn := 164) (v := v25) (lv' := [(7, .int v25), (3, .int v24), (4, .int v23), (5, .int v22), (8, .int v21), (6, .int v20), (0, .ref (X.2.2.2.1 0)), (1, .int a1), (2, .int a2)]) K rfl 8 rfl ii_1 ev25 dX9_buckets_161 (Nat.le_of_ble_eq_true rfl) rfl ?_
                refine g_goto (tgt := 47) K (by decide) dX9_buckets_164 ?_
                refine g_sub [6, 7, 8, 1, 2, 3, 5, 0] rfl ?_
                exact ih16 _ _ _ _ _ h
              refine g_icmp_lt (tgt := 111) (pn := 78) K rfl (by decide) dX9_buckets_75 h (fun h => ?_) (fun h => ?_)
              · refine g_sub [0, 1, 2, 5, 6, 7, 3] rfl ?_
                exact hj19 _ h
              · refine g_aload_n (pn := 79) K rfl 0 rfl dX9_buckets_78 ?_
                refine g_getr (pn := 82) (j := 13) K rfl fl_X9_50 lm_0 rfl dX9_buckets_79 ?_
                refine g_iload (pn := 84) K rfl 7 rfl dX9_buckets_82 ?_
                refine g_iald (pn := 85) K rfl lm_13 dX9_buckets_84 h (fun h => ?_)
                refine g_iload (pn := 87) K rfl 4 rfl dX9_buckets_85 ?_
                refine g_isub (pn := 88) K rfl dX9_buckets_87 ?_
                refine g_aload_n (pn := 89) K rfl 0 rfl dX9_buckets_88 ?_
                refine g_getr (pn := 92) (j := 10) K rfl fl_X9_41 lm_0 rfl dX9_buckets_89 ?_
                refine g_iload (pn := 94) K rfl 7 rfl dX9_buckets_92 ?_
                refine g_iald (pn := 95) K rfl lm_10 dX9_buckets_94 h (fun h => ?_)
                refine g_icmp_gt (tgt := 111) (pn := 98) K rfl (by decide) dX9_buckets_95 h (fun h => ?_) (fun h => ?_)
                · refine g_sub [0, 1, 2, 5, 6, 7, 3] rfl ?_
                  exact hj19 _ h
                · refine g_iload_n (pn := 99) K rfl 3 rfl dX9_buckets_98 ?_
                  refine g_aload_n (pn := 100) K rfl 0 rfl dX9_buckets_99 ?_
                  refine g_getr (pn := 103) (j := 7) K rfl fl_X9_32 lm_0 rfl dX9_buckets_100 ?_
                  refine g_iload (pn := 105) K rfl 7 rfl dX9_buckets_103 ?_
                  refine g_iald (pn := 106) K rfl lm_7 dX9_buckets_105 h (fun h => ?_)
                  refine g_isub (pn := 107) K rfl dX9_buckets_106 ?_
                  refine g_nmi h (fun v26 h => ?_)
                  refine g_istore_n (pn := 108) (lv' := [(3, .int v26), (0, .ref (X.2.2.2.1 0)), (1, .int a1), (2, .int a2), (4, .int v12), (5, .int v13), (6, .int v14), (7, .int v15)]) K rfl dX9_buckets_107 rfl (Nat.le_of_ble_eq_true rfl) rfl ?_
                  refine g_goto (tgt := 161) K (by decide) dX9_buckets_108 ?_
                  obtain ⟨v27, ev27, h⟩ := bnd_e h
                  refine g_iinc (pn := 164) (v := v27) (lv' := [(7, .int v27), (3, .int v26), (0, .ref (X.2.2.2.1 0)), (1, .int a1), (2, .int a2), (4, .int v12), (5, .int v13), (6, .int v14)]) K rfl 7 rfl ii_1 ev27 dX9_buckets_161 (Nat.le_of_ble_eq_true rfl) rfl ?_
                  refine g_goto (tgt := 47) K (by decide) dX9_buckets_164 ?_
                  refine g_sub [2, 3, 4, 1, 5, 6, 7, 0] rfl ?_
                  exact ih16 _ _ _ _ _ h
      refine g_sub [5, 6, 7, 4, 3, 2, 1, 0] rfl ?_
      exact LP47 FU _ _ _ _ _ h
    · refine g_bipush (pn := 24) (v := (-2)) K rfl bp_m2 dX9_buckets_22 ?_
      exact g_iret K dX9_buckets_24 (oi2 h).2 (oi2 h).1
set_option maxHeartbeats 4000000 in
set_option maxRecDepth 20000 in
theorem w_m_isSo {X : XT} {M : Mem} {a1 : Int32} {M' : Mem} {r : Bool}   (h : m_isSo M a1 = some (M', r)) : CT layM X 173 yX9_isSo cX9_isSo 3 (some .boolean) [.ref (X.2.2.2.1 0), .int a1] M M' (some (.int (b2i r))) := by
  refine CT.of rfl (Nat.le_of_ble_eq_true rfl) (lv := [(0, .ref (X.2.2.2.1 0)), (1, .int a1)]) rfl (fun Γ K => ?_)
  have K : Kx layM X Γ RX9 cX9_isSo 3 173 (some .boolean) := K
  unfold m_isSo at h
  refine g_aload_n (pn := 1) K rfl 0 rfl dX9_isSo_0 ?_
  refine g_aload_n (pn := 2) K rfl 0 rfl dX9_isSo_1 ?_
  refine g_geti (pn := 5) K rfl fl_X9_91 lm_0 rfl dX9_isSo_2 ?_
  obtain ⟨M2, hc1, h⟩ := ob_e h
  refine g_callV0 (pn := 8) (As := [.int (M 0 12)]) (rest := []) (a := 0) K rfl (d' := 172) (Nat.le_of_ble_eq_true rfl) mv_X9_297 (recvO K lm_0 rfl) (w_m_livesPlain hc1) rfl rfl (Nat.le_of_ble_eq_true rfl) dX9_isSo_5 ?_
  refine g_iconst (pn := 9) (v := 0) K rfl ic_0 dX9_isSo_8 ?_
  refine g_istore_n (pn := 10) (lv' := [(2, .int 0), (0, .ref (X.2.2.2.1 0)), (1, .int a1)]) K rfl dX9_isSo_9 rfl (Nat.le_of_ble_eq_true rfl) rfl ?_
  refine jp_e1 h (fun u3 => G layM X Γ 3 (QM layM X Γ (some (.int (b2i r))) M') 46 [] [] M2) (fun u3 h => ?_) (fun j4 hj4 h => ?_)
  · refine g_iconst (pn := 47) (v := 1) K rfl ic_1 dX9_isSo_46 ?_
    exact g_zret K rfl dX9_isSo_47 (bq1 (oi2 h).2) (oi2 h).1
  have LP10 : ∀ (fu6 : Nat) (v5 : Int32), m_isSo_L10 a1 M2 j4 fu6 v5 = some (M', r) → G layM X Γ 3 (QM layM X Γ (some (.int (b2i r))) M') 10 [(0, .ref (X.2.2.2.1 0)), (1, .int a1), (2, .int v5)] [] M2 := by
    intro fu6
    induction fu6 with
    | zero =>
      intro v5 h
      rw [m_isSo_L10] at h
      cases h
    | succ fu6 ih6 =>
      intro v5 h
      rw [m_isSo_L10] at h
      refine g_iload_n (pn := 11) K rfl 2 rfl dX9_isSo_10 ?_
      refine g_aload_n (pn := 12) K rfl 0 rfl dX9_isSo_11 ?_
      refine g_geti (pn := 15) K rfl fl_X9_91 lm_0 rfl dX9_isSo_12 ?_
      refine g_icmp_ge (tgt := 46) (pn := 18) K rfl (by decide) dX9_isSo_15 h (fun h => ?_) (fun h => ?_)
      · refine g_sub [] rfl ?_
        exact hj4 _ h
      · refine g_aload_n (pn := 19) K rfl 0 rfl dX9_isSo_18 ?_
        refine g_getr (pn := 22) (j := 15) K rfl fl_X9_56 lm_0 rfl dX9_isSo_19 ?_
        refine g_iload_n (pn := 23) K rfl 2 rfl dX9_isSo_22 ?_
        refine g_iald (pn := 24) K rfl lm_15 dX9_isSo_23 h (fun h => ?_)
        refine g_aload_n (pn := 25) K rfl 0 rfl dX9_isSo_24 ?_
        refine g_getr (pn := 28) (j := 22) K rfl fl_X9_81 lm_0 rfl dX9_isSo_25 ?_
        refine g_bipush (pn := 30) (v := 40) K rfl bp_40 dX9_isSo_28 ?_
        refine g_iload_n (pn := 31) K rfl 1 rfl dX9_isSo_30 ?_
        refine g_imul (pn := 32) K rfl dX9_isSo_31 ?_
        refine g_iload_n (pn := 33) K rfl 2 rfl dX9_isSo_32 ?_
        refine g_iadd (pn := 34) K rfl dX9_isSo_33 ?_
        refine g_iald (pn := 35) K rfl lm_22 dX9_isSo_34 h (fun h => ?_)
        refine g_icmp_eq (tgt := 40) (pn := 38) K rfl (by decide) dX9_isSo_35 h (fun h => ?_) (fun h => ?_)
        · obtain ⟨v7, ev7, h⟩ := bnd_e h
          refine g_iinc (pn := 43) (v := v7) (lv' := [(2, .int v7), (0, .ref (X.2.2.2.1 0)), (1, .int a1)]) K rfl 2 rfl ii_1 ev7 dX9_isSo_40 (Nat.le_of_ble_eq_true rfl) rfl ?_
          refine g_goto (tgt := 10) K (by decide) dX9_isSo_43 ?_
          refine g_sub [1, 2, 0] rfl ?_
          exact ih6 _ h
        · refine g_iconst (pn := 39) (v := 0) K rfl ic_0 dX9_isSo_38 ?_
          exact g_zret K rfl dX9_isSo_39 (bq0 (oi2 h).2) (oi2 h).1
  refine g_sub [1, 2, 0] rfl ?_
  exact LP10 FU _ h
set_option maxHeartbeats 4000000 in
set_option maxRecDepth 20000 in
theorem w_m_tellsSort {X : XT} {M : Mem} {a1 : Int32} {r : Int32}   (h : m_tellsSort M a1 = some r) : CT layM X 0 yX9_tellsSort cX9_tellsSort 2 (some .int) [.ref (X.2.2.2.1 0), .int a1] M M (some (.int r)) := by
  refine CT.of rfl (Nat.le_of_ble_eq_true rfl) (lv := [(0, .ref (X.2.2.2.1 0)), (1, .int a1)]) rfl (fun Γ K => ?_)
  have K : Kx layM X Γ RX9 cX9_tellsSort 2 0 (some .int) := K
  unfold m_tellsSort at h
  refine g_iload_n (pn := 1) K rfl 1 rfl dX9_tellsSort_0 ?_
  refine g_iconst (pn := 2) (v := 1) K rfl ic_1 dX9_tellsSort_1 ?_
  refine g_icmp_ne (tgt := 14) (pn := 5) K rfl (by decide) dX9_tellsSort_2 h (fun h => ?_) (fun h => ?_)
  · refine g_iload_n (pn := 15) K rfl 1 rfl dX9_tellsSort_14 ?_
    refine g_iconst (pn := 16) (v := 2) K rfl ic_2 dX9_tellsSort_15 ?_
    refine g_icmp_ne (tgt := 28) (pn := 19) K rfl (by decide) dX9_tellsSort_16 h (fun h => ?_) (fun h => ?_)
    · refine g_iload_n (pn := 29) K rfl 1 rfl dX9_tellsSort_28 ?_
      refine g_iconst (pn := 30) (v := 3) K rfl ic_3 dX9_tellsSort_29 ?_
      refine g_icmp_ne (tgt := 40) (pn := 33) K rfl (by decide) dX9_tellsSort_30 h (fun h => ?_) (fun h => ?_)
      · refine g_aload_n (pn := 41) K rfl 0 rfl dX9_tellsSort_40 ?_
        refine g_getr (pn := 44) (j := 5) K rfl fl_X9_26 lm_0 rfl dX9_tellsSort_41 ?_
        refine g_iload_n (pn := 45) K rfl 1 rfl dX9_tellsSort_44 ?_
        refine g_bipush (pn := 47) (v := 10) K rfl bp_10 dX9_tellsSort_45 ?_
        refine g_isub (pn := 48) K rfl dX9_tellsSort_47 ?_
        refine g_iald (pn := 49) K rfl lm_5 dX9_tellsSort_48 h (fun h => ?_)
        exact g_iret K dX9_tellsSort_49 (oi h) rfl
      · refine g_aload_n (pn := 34) K rfl 0 rfl dX9_tellsSort_33 ?_
        refine g_geti (pn := 37) K rfl fl_X9_242 lm_0 rfl dX9_tellsSort_34 ?_
        refine g_goto (tgt := 49) K (by decide) dX9_tellsSort_37 ?_
        exact g_iret K dX9_tellsSort_49 (oi h) rfl
    · refine g_aload_n (pn := 20) K rfl 0 rfl dX9_tellsSort_19 ?_
      refine g_getr (pn := 23) (j := 4) K rfl fl_X9_23 lm_0 rfl dX9_tellsSort_20 ?_
      refine g_iconst (pn := 24) (v := 1) K rfl ic_1 dX9_tellsSort_23 ?_
      refine g_iald (pn := 25) K rfl lm_4 dX9_tellsSort_24 h (fun h => ?_)
      refine g_goto (tgt := 49) K (by decide) dX9_tellsSort_25 ?_
      exact g_iret K dX9_tellsSort_49 (oi h) rfl
  · refine g_aload_n (pn := 6) K rfl 0 rfl dX9_tellsSort_5 ?_
    refine g_getr (pn := 9) (j := 4) K rfl fl_X9_23 lm_0 rfl dX9_tellsSort_6 ?_
    refine g_iconst (pn := 10) (v := 2) K rfl ic_2 dX9_tellsSort_9 ?_
    refine g_iald (pn := 11) K rfl lm_4 dX9_tellsSort_10 h (fun h => ?_)
    refine g_goto (tgt := 49) K (by decide) dX9_tellsSort_11 ?_
    exact g_iret K dX9_tellsSort_49 (oi h) rfl
set_option maxHeartbeats 4000000 in
set_option maxRecDepth 20000 in
theorem w_m_laysSort {X : XT} {M : Mem} {a1 : Int32} {a2 : Int32} {M' : Mem}   (h : m_laysSort M a1 a2 = some M') : CT layM X 0 yX9_laysSort cX9_laysSort 3 none [.ref (X.2.2.2.1 0), .int a1, .int a2] M M' none := by
  refine CT.of rfl (Nat.le_of_ble_eq_true rfl) (lv := [(0, .ref (X.2.2.2.1 0)), (1, .int a1), (2, .int a2)]) rfl (fun Γ K => ?_)
  have K : Kx layM X Γ RX9 cX9_laysSort 3 0 none := K
  unfold m_laysSort at h
  refine g_iload_n (pn := 1) K rfl 1 rfl dX9_laysSort_0 ?_
  refine g_iconst (pn := 2) (v := 3) K rfl ic_3 dX9_laysSort_1 ?_
  refine g_icmp_ne (tgt := 13) (pn := 5) K rfl (by decide) dX9_laysSort_2 h (fun h => ?_) (fun h => ?_)
  · refine g_iload_n (pn := 14) K rfl 1 rfl dX9_laysSort_13 ?_
    refine g_bipush (pn := 16) (v := 9) K rfl bp_9 dX9_laysSort_14 ?_
    refine g_icmp_le (tgt := 32) (pn := 19) K rfl (by decide) dX9_laysSort_16 h (fun h => ?_) (fun h => ?_)
    · refine g_aload_n (pn := 33) K rfl 0 rfl dX9_laysSort_32 ?_
      refine g_getr (pn := 36) (j := 4) K rfl fl_X9_23 lm_0 rfl dX9_laysSort_33 ?_
      refine g_iload_n (pn := 37) K rfl 1 rfl dX9_laysSort_36 ?_
      refine g_iconst (pn := 38) (v := 1) K rfl ic_1 dX9_laysSort_37 ?_
      refine jp_e1 h (fun v1 => G layM X Γ 3 (QM layM X Γ none M') 46 [(2, .int a2)] [.int v1, .ref (X.2.2.2.1 4)] M) (fun v1 h => ?_) (fun j2 hj2 h => ?_)
      · refine g_iload_n (pn := 47) K rfl 0 rfl dX9_laysSort_46 ?_
        refine g_iast (pn := 48) K rfl lm_4 dX9_laysSort_47 h (fun M3 h => ?_)
        exact g_vret K dX9_laysSort_48 (oi h)
      refine g_icmp_ne (tgt := 45) (pn := 41) K rfl (by decide) dX9_laysSort_38 h (fun h => ?_) (fun h => ?_)
      · refine g_iconst (pn := 46) (v := 1) K rfl ic_1 dX9_laysSort_45 ?_
        refine g_sub [2] rfl ?_
        exact hj2 _ h
      · refine g_iconst (pn := 42) (v := 2) K rfl ic_2 dX9_laysSort_41 ?_
        refine g_goto (tgt := 46) K (by decide) dX9_laysSort_42 ?_
        refine g_sub [2] rfl ?_
        exact hj2 _ h
    · refine g_aload_n (pn := 20) K rfl 0 rfl dX9_laysSort_19 ?_
      refine g_getr (pn := 23) (j := 5) K rfl fl_X9_26 lm_0 rfl dX9_laysSort_20 ?_
      refine g_iload_n (pn := 24) K rfl 1 rfl dX9_laysSort_23 ?_
      refine g_bipush (pn := 26) (v := 10) K rfl bp_10 dX9_laysSort_24 ?_
      refine g_isub (pn := 27) K rfl dX9_laysSort_26 ?_
      refine g_iload_n (pn := 28) K rfl 2 rfl dX9_laysSort_27 ?_
      refine g_iast (pn := 29) K rfl lm_5 dX9_laysSort_28 h (fun M4 h => ?_)
      refine g_goto (tgt := 48) K (by decide) dX9_laysSort_29 ?_
      exact g_vret K dX9_laysSort_48 (oi h)
  · refine g_aload_n (pn := 6) K rfl 0 rfl dX9_laysSort_5 ?_
    refine g_iload_n (pn := 7) K rfl 2 rfl dX9_laysSort_6 ?_
    refine g_puti (pn := 10) K rfl fp_X9_242 lm_0 rfl dX9_laysSort_7 h (fun M5 h => ?_)
    refine g_goto (tgt := 48) K (by decide) dX9_laysSort_10 ?_
    exact g_vret K dX9_laysSort_48 (oi h)
set_option maxHeartbeats 4000000 in
set_option maxRecDepth 20000 in
theorem w_m_books {X : XT} {M : Mem} {a1 : Int32} {a2 : Int32} {M' : Mem} {r : Int32}   (h : m_books M a1 a2 = some (M', r)) : CT layM X 174 yX9_books cX9_books 7 (some .int) [.ref (X.2.2.2.1 0), .int a1, .int a2] M M' (some (.int r)) := by
  refine CT.of rfl (Nat.le_of_ble_eq_true rfl) (lv := [(0, .ref (X.2.2.2.1 0)), (1, .int a1), (2, .int a2)]) rfl (fun Γ K => ?_)
  have K : Kx layM X Γ RX9 cX9_books 7 174 (some .int) := K
  unfold m_books at h
  refine g_iload_n (pn := 1) K rfl 1 rfl dX9_books_0 ?_
  obtain ⟨v2, hc1, h⟩ := ob_e h
  refine g_callS1 (pn := 4) (As := [.int a1]) (rest := []) K rfl (d' := 1) (Nat.le_of_ble_eq_true rfl) ms_X9_303 (w_m_isSheet hc1) rfl rfl (Nat.le_of_ble_eq_true rfl) dX9_books_1 ?_
  refine g_ifB_eq (tgt := 44) (pn := 7) K rfl (by decide) dX9_books_4 h (fun h => ?_) (fun h => ?_)
  · refine g_bipush (pn := 46) (v := (-2)) K rfl bp_m2 dX9_books_44 ?_
    exact g_iret K dX9_books_46 (oi2 h).2 (oi2 h).1
  · refine g_iload_n (pn := 8) K rfl 2 rfl dX9_books_7 ?_
    refine g_i2l (pn := 9) K rfl dX9_books_8 ?_
    refine g_lconst (pn := 10) (v := 0) K rfl lc_0 dX9_books_9 ?_
    refine g_ldc2 (pn := 13) (v := 3) K rfl cl_X9_337 dX9_books_10 ?_
    obtain ⟨v4, hc3, h⟩ := ob_e h
    refine g_callS1 (pn := 16) (As := [.long a2.toInt64, .long 0, .long 3]) (rest := []) K rfl (d' := 0) (Nat.le_of_ble_eq_true rfl) ms_X9_94 (w_m_in hc3) rfl rfl (Nat.le_of_ble_eq_true rfl) dX9_books_13 ?_
    refine jp_e1 h (fun u5 => G layM X Γ 7 (QM layM X Γ (some (.int r)) M') 47 [(0, .ref (X.2.2.2.1 0)), (1, .int a1), (2, .int a2)] [] M) (fun u5 h => ?_) (fun j6 hj6 h => ?_)
    · refine g_aload_n (pn := 48) K rfl 0 rfl dX9_books_47 ?_
      refine g_getr (pn := 51) (j := 19) K rfl fl_X9_71 lm_0 rfl dX9_books_48 ?_
      refine g_iload_n (pn := 52) K rfl 1 rfl dX9_books_51 ?_
      refine g_zald (pn := 53) K rfl lm_19 dX9_books_52 h (fun h => ?_)
      refine g_if_ne (tgt := 59) (pn := 56) K rfl (by decide) dX9_books_53 h (fun h => ?_) (fun h => ?_)
      · refine g_aload_n (pn := 60) K rfl 0 rfl dX9_books_59 ?_
        refine g_getr (pn := 63) (j := 21) K rfl fl_X9_78 lm_0 rfl dX9_books_60 ?_
        refine g_iload_n (pn := 64) K rfl 1 rfl dX9_books_63 ?_
        refine g_iald (pn := 65) K rfl lm_21 dX9_books_64 h (fun h => ?_)
        refine g_aload_n (pn := 66) K rfl 0 rfl dX9_books_65 ?_
        refine g_geti (pn := 69) K rfl fl_X9_91 lm_0 rfl dX9_books_66 ?_
        refine g_icmp_eq (tgt := 75) (pn := 72) K rfl (by decide) dX9_books_69 h (fun h => ?_) (fun h => ?_)
        · refine g_iconst (pn := 76) (v := 0) K rfl ic_0 dX9_books_75 ?_
          refine g_istore_n (pn := 77) (lv' := [(3, .int 0), (0, .ref (X.2.2.2.1 0)), (1, .int a1), (2, .int a2)]) K rfl dX9_books_76 rfl (Nat.le_of_ble_eq_true rfl) rfl ?_
          refine g_iload_n (pn := 78) K rfl 3 rfl dX9_books_77 ?_
          refine g_if_ne (tgt := 142) (pn := 81) K rfl (by decide) dX9_books_78 h (fun h => ?_) (fun h => ?_)
          · refine g_iload_n (pn := 143) K rfl 3 rfl dX9_books_142 ?_
            refine g_iconst (pn := 144) (v := 3) K rfl ic_3 dX9_books_143 ?_
            refine jp_e1 h (fun v7 => G layM X Γ 7 (QM layM X Γ (some (.int r)) M') 166 [(3, .int 0), (0, .ref (X.2.2.2.1 0)), (1, .int a1), (2, .int a2)] [.int v7] M) (fun v7 h => ?_) (fun j8 hj8 h => ?_)
            · refine g_istore (pn := 168) (lv' := [(4, .int v7), (3, .int 0), (0, .ref (X.2.2.2.1 0)), (1, .int a1), (2, .int a2)]) K rfl dX9_books_166 (Nat.le_of_ble_eq_true rfl) rfl ?_
              refine g_aload_n (pn := 169) K rfl 2 rfl dX9_books_168 ?_
              refine g_iload_n (pn := 170) K rfl 4 rfl dX9_books_169 ?_
              obtain ⟨v10, hc9, h⟩ := ob_e h
              refine g_callV1 (pn := 173) (As := [.int a2]) (rest := []) (a := 0) K rfl (d' := 0) (Nat.le_of_ble_eq_true rfl) mv_X9_341 (recvO K lm_0 rfl) (w_m_tellsSort hc9) rfl rfl (Nat.le_of_ble_eq_true rfl) dX9_books_170 ?_
              refine g_istore (pn := 175) (lv' := [(5, .int v10), (4, .int v7), (3, .int 0), (0, .ref (X.2.2.2.1 0)), (1, .int a1), (2, .int a2)]) K rfl dX9_books_173 (Nat.le_of_ble_eq_true rfl) rfl ?_
              refine g_iconst (pn := 176) (v := 0) K rfl ic_0 dX9_books_175 ?_
              refine g_istore (pn := 178) (lv' := [(6, .int 0), (5, .int v10), (4, .int v7), (3, .int 0), (0, .ref (X.2.2.2.1 0)), (1, .int a1), (2, .int a2)]) K rfl dX9_books_176 (Nat.le_of_ble_eq_true rfl) rfl ?_
              refine jp_e2 h (fun v11 M12 => G layM X Γ 7 (QM layM X Γ (some (.int r)) M') 217 [(5, .int v10), (0, .ref (X.2.2.2.1 0)), (2, .int a2), (3, .int v11)] [] M12) (fun v11 M12 h => ?_) (fun j13 hj13 h => ?_)
              · refine g_aload_n (pn := 218) K rfl 1 rfl dX9_books_217 ?_
                refine g_iload_n (pn := 219) K rfl 2 rfl dX9_books_218 ?_
                refine g_iload (pn := 221) K rfl 0 rfl dX9_books_219 ?_
                obtain ⟨M15, hc14, h⟩ := ob_e h
                refine g_callV0 (pn := 224) (As := [.int a2, .int v10]) (rest := []) (a := 0) K rfl (d' := 0) (Nat.le_of_ble_eq_true rfl) mv_X9_344 (recvO K lm_0 rfl) (w_m_laysSort hc14) rfl rfl (Nat.le_of_ble_eq_true rfl) dX9_books_221 ?_
                refine g_iload_n (pn := 225) K rfl 3 rfl dX9_books_224 ?_
                exact g_iret K dX9_books_225 (oi2 h).2 (oi2 h).1
              have LP178 : ∀ (fu19 : Nat) (v16 : Int32) (v17 : Int32) (M18 : Mem), m_books_L178 a1 a2 v7 j13 fu19 v16 v17 M18 = some (M', r) → G layM X Γ 7 (QM layM X Γ (some (.int r)) M') 178 [(5, .int v10), (4, .int v7), (0, .ref (X.2.2.2.1 0)), (1, .int a1), (2, .int a2), (3, .int v16), (6, .int v17)] [] M18 := by
                intro fu19
                induction fu19 with
                | zero =>
                  intro v16 v17 M18 h
                  rw [m_books_L178] at h
                  cases h
                | succ fu19 ih19 =>
                  intro v16 v17 M18 h
                  rw [m_books_L178] at h
                  refine g_iload (pn := 180) K rfl 6 rfl dX9_books_178 ?_
                  refine g_iload (pn := 182) K rfl 1 rfl dX9_books_180 ?_
                  refine g_icmp_ge (tgt := 217) (pn := 185) K rfl (by decide) dX9_books_182 h (fun h => ?_) (fun h => ?_)
                  · refine g_sub [0, 2, 4, 5] rfl ?_
                    exact hj13 _ _ h
                  · refine g_aload_n (pn := 186) K rfl 2 rfl dX9_books_185 ?_
                    refine g_iload_n (pn := 187) K rfl 4 rfl dX9_books_186 ?_
                    refine g_iload (pn := 189) K rfl 6 rfl dX9_books_187 ?_
                    obtain ⟨M21, hc20, h⟩ := ob_e h
                    refine g_callV0 (pn := 192) (As := [.int a2, .int v17]) (rest := []) (a := 0) K rfl (d' := 0) (Nat.le_of_ble_eq_true rfl) mv_X9_344 (recvO K lm_0 rfl) (w_m_laysSort hc20) rfl rfl (Nat.le_of_ble_eq_true rfl) dX9_books_189 ?_
                    refine g_iload_n (pn := 193) K rfl 5 rfl dX9_books_192 ?_
                    refine g_aload_n (pn := 194) K rfl 2 rfl dX9_books_193 ?_
                    refine g_iload_n (pn := 195) K rfl 3 rfl dX9_books_194 ?_
                    obtain ⟨M23, v24, hc22, h⟩ := ob2_e h
                    refine g_callV1 (pn := 198) (As := [.int a1]) (rest := [.int v16]) (a := 0) K rfl (d' := 173) (Nat.le_of_ble_eq_true rfl) mv_X9_347 (recvO K lm_0 rfl) (w_m_isSo hc22) rfl rfl (Nat.le_of_ble_eq_true rfl) dX9_books_195 ?_
                    refine jp_e1 h (fun v25 => G layM X Γ 7 (QM layM X Γ (some (.int r)) M') 206 [(5, .int v10), (4, .int v7), (0, .ref (X.2.2.2.1 0)), (1, .int a1), (2, .int a2), (6, .int v17)] [.int v25, .int v16] M23) (fun v25 h => ?_) (fun j26 hj26 h => ?_)
                    · refine g_iload (pn := 208) K rfl 5 rfl dX9_books_206 ?_
                      refine g_ishl (pn := 209) K rfl dX9_books_208 ?_
                      refine g_ior (pn := 210) K rfl dX9_books_209 ?_
                      refine g_nmi h (fun v27 h => ?_)
                      refine g_istore_n (pn := 211) (lv' := [(3, .int v27), (5, .int v10), (4, .int v7), (0, .ref (X.2.2.2.1 0)), (1, .int a1), (2, .int a2), (6, .int v17)]) K rfl dX9_books_210 rfl (Nat.le_of_ble_eq_true rfl) rfl ?_
                      obtain ⟨v28, ev28, h⟩ := bnd_e h
                      refine g_iinc (pn := 214) (v := v28) (lv' := [(6, .int v28), (3, .int v27), (5, .int v10), (4, .int v7), (0, .ref (X.2.2.2.1 0)), (1, .int a1), (2, .int a2)]) K rfl 6 rfl ii_1 ev28 dX9_books_211 (Nat.le_of_ble_eq_true rfl) rfl ?_
                      refine g_goto (tgt := 178) K (by decide) dX9_books_214 ?_
                      refine g_sub [2, 3, 4, 5, 6, 1, 0] rfl ?_
                      exact ih19 _ _ _ h
                    refine g_ifB_eq (tgt := 205) (pn := 201) K rfl (by decide) dX9_books_198 h (fun h => ?_) (fun h => ?_)
                    · refine g_iconst (pn := 206) (v := 0) K rfl ic_0 dX9_books_205 ?_
                      refine g_sub [0, 1, 2, 3, 4, 6] rfl ?_
                      exact hj26 _ h
                    · refine g_iconst (pn := 202) (v := 1) K rfl ic_1 dX9_books_201 ?_
                      refine g_goto (tgt := 206) K (by decide) dX9_books_202 ?_
                      refine g_sub [0, 1, 2, 3, 4, 6] rfl ?_
                      exact hj26 _ h
              refine g_sub [1, 2, 4, 5, 6, 3, 0] rfl ?_
              exact LP178 FU _ _ _ h
            refine g_icmp_ge (tgt := 152) (pn := 147) K rfl (by decide) dX9_books_144 h (fun h => ?_) (fun h => ?_)
            · refine g_iload_n (pn := 153) K rfl 3 rfl dX9_books_152 ?_
              refine g_iconst (pn := 154) (v := 3) K rfl ic_3 dX9_books_153 ?_
              refine g_icmp_ne (tgt := 164) (pn := 157) K rfl (by decide) dX9_books_154 h (fun h => ?_) (fun h => ?_)
              · refine g_bipush (pn := 166) (v := 6) K rfl bp_6 dX9_books_164 ?_
                exact hj8 _ h
              · refine g_aload_n (pn := 158) K rfl 1 rfl dX9_books_157 ?_
                refine g_geti (pn := 161) K rfl fl_X9_88 lm_0 rfl dX9_books_158 ?_
                refine g_goto (tgt := 166) K (by decide) dX9_books_161 ?_
                exact hj8 _ h
            · refine g_bipush (pn := 149) (v := 10) K rfl bp_10 dX9_books_147 ?_
              refine g_goto (tgt := 166) K (by decide) dX9_books_149 ?_
              exact hj8 _ h
          · refine g_aload_n (pn := 82) K rfl 1 rfl dX9_books_81 ?_
            refine g_aload_n (pn := 83) K rfl 1 rfl dX9_books_82 ?_
            refine g_geti (pn := 86) K rfl fl_X9_91 lm_0 rfl dX9_books_83 ?_
            obtain ⟨M30, hc29, h⟩ := ob_e h
            refine g_callV0 (pn := 89) (As := [.int (M 0 12)]) (rest := []) (a := 0) K rfl (d' := 172) (Nat.le_of_ble_eq_true rfl) mv_X9_297 (recvO K lm_0 rfl) (w_m_livesPlain hc29) rfl rfl (Nat.le_of_ble_eq_true rfl) dX9_books_86 ?_
            refine g_iconst (pn := 90) (v := 0) K rfl ic_0 dX9_books_89 ?_
            refine g_istore (pn := 92) (lv' := [(4, .int 0), (3, .int 0), (0, .ref (X.2.2.2.1 0)), (1, .int a1), (2, .int a2)]) K rfl dX9_books_90 (Nat.le_of_ble_eq_true rfl) rfl ?_
            refine jp_e1 h (fun v31 => G layM X Γ 7 (QM layM X Γ (some (.int r)) M') 140 [(3, .int v31)] [] M30) (fun v31 h => ?_) (fun j32 hj32 h => ?_)
            · refine g_iload_n (pn := 141) K rfl 0 rfl dX9_books_140 ?_
              exact g_iret K dX9_books_141 (oi2 h).2 (oi2 h).1
            have LP92 : ∀ (fu35 : Nat) (v33 : Int32) (v34 : Int32), m_books_L92 a1 M30 j32 fu35 v33 v34 = some (M', r) → G layM X Γ 7 (QM layM X Γ (some (.int r)) M') 92 [(0, .ref (X.2.2.2.1 0)), (1, .int a1), (3, .int v33), (4, .int v34)] [] M30 := by
              intro fu35
              induction fu35 with
              | zero =>
                intro v33 v34 h
                rw [m_books_L92] at h
                cases h
              | succ fu35 ih35 =>
                intro v33 v34 h
                rw [m_books_L92] at h
                refine g_iload (pn := 94) K rfl 3 rfl dX9_books_92 ?_
                refine g_aload_n (pn := 95) K rfl 0 rfl dX9_books_94 ?_
                refine g_geti (pn := 98) K rfl fl_X9_91 lm_0 rfl dX9_books_95 ?_
                refine g_icmp_ge (tgt := 140) (pn := 101) K rfl (by decide) dX9_books_98 h (fun h => ?_) (fun h => ?_)
                · refine g_sub [2] rfl ?_
                  exact hj32 _ h
                · refine g_iload_n (pn := 102) K rfl 2 rfl dX9_books_101 ?_
                  refine g_aload_n (pn := 103) K rfl 0 rfl dX9_books_102 ?_
                  refine g_getr (pn := 106) (j := 15) K rfl fl_X9_56 lm_0 rfl dX9_books_103 ?_
                  refine g_iload (pn := 108) K rfl 3 rfl dX9_books_106 ?_
                  refine g_iald (pn := 109) K rfl lm_15 dX9_books_108 h (fun h => ?_)
                  refine g_aload_n (pn := 110) K rfl 0 rfl dX9_books_109 ?_
                  refine g_getr (pn := 113) (j := 22) K rfl fl_X9_81 lm_0 rfl dX9_books_110 ?_
                  refine g_bipush (pn := 115) (v := 40) K rfl bp_40 dX9_books_113 ?_
                  refine g_iload_n (pn := 116) K rfl 1 rfl dX9_books_115 ?_
                  refine g_imul (pn := 117) K rfl dX9_books_116 ?_
                  refine g_iload (pn := 119) K rfl 3 rfl dX9_books_117 ?_
                  refine g_iadd (pn := 120) K rfl dX9_books_119 ?_
                  refine g_iald (pn := 121) K rfl lm_22 dX9_books_120 h (fun h => ?_)
                  refine jp_e1 h (fun v36 => G layM X Γ 7 (QM layM X Γ (some (.int r)) M') 129 [(0, .ref (X.2.2.2.1 0)), (1, .int a1), (4, .int v34)] [.int v36, .int v33] M30) (fun v36 h => ?_) (fun j37 hj37 h => ?_)
                  · refine g_iload (pn := 131) K rfl 2 rfl dX9_books_129 ?_
                    refine g_ishl (pn := 132) K rfl dX9_books_131 ?_
                    refine g_ior (pn := 133) K rfl dX9_books_132 ?_
                    refine g_nmi h (fun v38 h => ?_)
                    refine g_istore_n (pn := 134) (lv' := [(3, .int v38), (0, .ref (X.2.2.2.1 0)), (1, .int a1), (4, .int v34)]) K rfl dX9_books_133 rfl (Nat.le_of_ble_eq_true rfl) rfl ?_
                    obtain ⟨v39, ev39, h⟩ := bnd_e h
                    refine g_iinc (pn := 137) (v := v39) (lv' := [(4, .int v39), (3, .int v38), (0, .ref (X.2.2.2.1 0)), (1, .int a1)]) K rfl 3 rfl ii_1 ev39 dX9_books_134 (Nat.le_of_ble_eq_true rfl) rfl ?_
                    refine g_goto (tgt := 92) K (by decide) dX9_books_137 ?_
                    refine g_sub [2, 3, 1, 0] rfl ?_
                    exact ih35 _ _ h
                  refine g_icmp_eq (tgt := 128) (pn := 124) K rfl (by decide) dX9_books_121 h (fun h => ?_) (fun h => ?_)
                  · refine g_iconst (pn := 129) (v := 0) K rfl ic_0 dX9_books_128 ?_
                    refine g_sub [0, 1, 3] rfl ?_
                    exact hj37 _ h
                  · refine g_iconst (pn := 125) (v := 1) K rfl ic_1 dX9_books_124 ?_
                    refine g_goto (tgt := 129) K (by decide) dX9_books_125 ?_
                    refine g_sub [0, 1, 3] rfl ?_
                    exact hj37 _ h
            refine g_sub [2, 3, 1, 0] rfl ?_
            exact LP92 FU _ _ h
        · refine g_bipush (pn := 74) (v := (-2)) K rfl bp_m2 dX9_books_72 ?_
          exact g_iret K dX9_books_74 (oi2 h).2 (oi2 h).1
      · refine g_bipush (pn := 58) (v := (-11)) K rfl bp_m11 dX9_books_56 ?_
        exact g_iret K dX9_books_58 (oi2 h).2 (oi2 h).1
    refine g_ifB_ne (tgt := 47) (pn := 19) K rfl (by decide) dX9_books_16 h (fun h => ?_) (fun h => ?_)
    · exact hj6 _ h
    · refine g_iload_n (pn := 20) K rfl 2 rfl dX9_books_19 ?_
      refine g_i2l (pn := 21) K rfl dX9_books_20 ?_
      refine g_ldc2 (pn := 24) (v := 10) K rfl cl_X9_157 dX9_books_21 ?_
      refine g_ldc2 (pn := 27) (v := 15) K rfl cl_X9_339 dX9_books_24 ?_
      obtain ⟨v41, hc40, h⟩ := ob_e h
      refine g_callS1 (pn := 30) (As := [.long a2.toInt64, .long 10, .long 15]) (rest := []) K rfl (d' := 0) (Nat.le_of_ble_eq_true rfl) ms_X9_94 (w_m_in hc40) rfl rfl (Nat.le_of_ble_eq_true rfl) dX9_books_27 ?_
      refine g_ifB_eq (tgt := 44) (pn := 33) K rfl (by decide) dX9_books_30 h (fun h => ?_) (fun h => ?_)
      · refine g_bipush (pn := 46) (v := (-2)) K rfl bp_m2 dX9_books_44 ?_
        exact g_iret K dX9_books_46 (oi2 h).2 (oi2 h).1
      · refine g_aload_n (pn := 34) K rfl 0 rfl dX9_books_33 ?_
        refine g_iload_n (pn := 35) K rfl 2 rfl dX9_books_34 ?_
        refine g_bipush (pn := 37) (v := 10) K rfl bp_10 dX9_books_35 ?_
        refine g_isub (pn := 38) K rfl dX9_books_37 ?_
        obtain ⟨v43, hc42, h⟩ := ob_e h
        refine g_callV1 (pn := 41) (As := [.int (a2 - 10)]) (rest := []) (a := 0) K rfl (d' := 1) (Nat.le_of_ble_eq_true rfl) mv_X9_100 (recvO K lm_0 rfl) (w_m_isWall hc42) rfl rfl (Nat.le_of_ble_eq_true rfl) dX9_books_38 ?_
        refine g_ifB_ne (tgt := 47) (pn := 44) K rfl (by decide) dX9_books_41 h (fun h => ?_) (fun h => ?_)
        · exact hj6 _ h
        · refine g_bipush (pn := 46) (v := (-2)) K rfl bp_m2 dX9_books_44 ?_
          exact g_iret K dX9_books_46 (oi2 h).2 (oi2 h).1
set_option maxHeartbeats 4000000 in
set_option maxRecDepth 20000 in
theorem w_m_warms {X : XT} {M : Mem} {a1 : Int32} {M' : Mem} {r : Int64}   (h : m_warms M a1 = some (M', r)) : CT layM X 174 yX9_warms cX9_warms 6 (some .long) [.ref (X.2.2.2.1 0), .int a1] M M' (some (.long r)) := by
  refine CT.of rfl (Nat.le_of_ble_eq_true rfl) (lv := [(0, .ref (X.2.2.2.1 0)), (1, .int a1)]) rfl (fun Γ K => ?_)
  have K : Kx layM X Γ RX9 cX9_warms 6 174 (some .long) := K
  unfold m_warms at h
  refine g_iload_n (pn := 1) K rfl 1 rfl dX9_warms_0 ?_
  obtain ⟨v2, hc1, h⟩ := ob_e h
  refine g_callS1 (pn := 4) (As := [.int a1]) (rest := []) K rfl (d' := 1) (Nat.le_of_ble_eq_true rfl) ms_X9_303 (w_m_isSheet hc1) rfl rfl (Nat.le_of_ble_eq_true rfl) dX9_warms_1 ?_
  refine jp_e1 h (fun u3 => G layM X Γ 6 (QM layM X Γ (some (.long r)) M') 29 [] [] M) (fun u3 h => ?_) (fun j4 hj4 h => ?_)
  · refine g_ldc2 (pn := 32) (v := (-4611686018427387904)) K rfl cl_X9_350 dX9_warms_29 ?_
    exact g_lret K dX9_warms_32 (oi2 h).2 (oi2 h).1
  refine g_ifB_eq (tgt := 29) (pn := 7) K rfl (by decide) dX9_warms_4 h (fun h => ?_) (fun h => ?_)
  · refine g_sub [] rfl ?_
    exact hj4 _ h
  · refine g_aload_n (pn := 8) K rfl 0 rfl dX9_warms_7 ?_
    refine g_getr (pn := 11) (j := 19) K rfl fl_X9_71 lm_0 rfl dX9_warms_8 ?_
    refine g_iload_n (pn := 12) K rfl 1 rfl dX9_warms_11 ?_
    refine g_zald (pn := 13) K rfl lm_19 dX9_warms_12 h (fun h => ?_)
    refine g_if_eq (tgt := 29) (pn := 16) K rfl (by decide) dX9_warms_13 h (fun h => ?_) (fun h => ?_)
    · refine g_sub [] rfl ?_
      exact hj4 _ h
    · refine g_aload_n (pn := 17) K rfl 0 rfl dX9_warms_16 ?_
      refine g_getr (pn := 20) (j := 21) K rfl fl_X9_78 lm_0 rfl dX9_warms_17 ?_
      refine g_iload_n (pn := 21) K rfl 1 rfl dX9_warms_20 ?_
      refine g_iald (pn := 22) K rfl lm_21 dX9_warms_21 h (fun h => ?_)
      refine g_aload_n (pn := 23) K rfl 0 rfl dX9_warms_22 ?_
      refine g_geti (pn := 26) K rfl fl_X9_91 lm_0 rfl dX9_warms_23 ?_
      refine g_icmp_eq (tgt := 33) (pn := 29) K rfl (by decide) dX9_warms_26 h (fun h => ?_) (fun h => ?_)
      · refine g_aload_n (pn := 34) K rfl 0 rfl dX9_warms_33 ?_
        refine g_getr (pn := 37) (j := 4) K rfl fl_X9_23 lm_0 rfl dX9_warms_34 ?_
        refine g_iconst (pn := 38) (v := 0) K rfl ic_0 dX9_warms_37 ?_
        refine g_iald (pn := 39) K rfl lm_4 dX9_warms_38 h (fun h => ?_)
        refine g_nmi h (fun v5 h => ?_)
        refine g_istore_n (pn := 40) (lv' := [(2, .int v5), (0, .ref (X.2.2.2.1 0)), (1, .int a1)]) K rfl dX9_warms_39 rfl (Nat.le_of_ble_eq_true rfl) rfl ?_
        refine g_lconst (pn := 41) (v := 0) K rfl lc_0 dX9_warms_40 ?_
        refine g_lstore_n (pn := 42) (lv' := [(3, .long 0), (2, .int v5), (0, .ref (X.2.2.2.1 0)), (1, .int a1)]) K rfl dX9_warms_41 rfl (Nat.le_of_ble_eq_true rfl) rfl ?_
        refine g_iconst (pn := 43) (v := 0) K rfl ic_0 dX9_warms_42 ?_
        refine g_istore (pn := 45) (lv' := [(5, .int 0), (3, .long 0), (2, .int v5), (0, .ref (X.2.2.2.1 0)), (1, .int a1)]) K rfl dX9_warms_43 (Nat.le_of_ble_eq_true rfl) rfl ?_
        refine jp_e2 h (fun v6 M7 => G layM X Γ 6 (QM layM X Γ (some (.long r)) M') 85 [(2, .int v5), (0, .ref (X.2.2.2.1 0)), (3, .long v6)] [] M7) (fun v6 M7 h => ?_) (fun j8 hj8 h => ?_)
        · refine g_aload_n (pn := 86) K rfl 1 rfl dX9_warms_85 ?_
          refine g_getr (pn := 89) (j := 4) K rfl fl_X9_23 lm_0 rfl dX9_warms_86 ?_
          refine g_iconst (pn := 90) (v := 0) K rfl ic_0 dX9_warms_89 ?_
          refine g_iload_n (pn := 91) K rfl 0 rfl dX9_warms_90 ?_
          refine g_iast (pn := 92) K rfl lm_4 dX9_warms_91 h (fun M9 h => ?_)
          refine g_lload_n (pn := 93) K rfl 2 rfl dX9_warms_92 ?_
          exact g_lret K dX9_warms_93 (oi2 h).2 (oi2 h).1
        have LP45 : ∀ (fu13 : Nat) (v10 : Int64) (v11 : Int32) (M12 : Mem), m_warms_L45 a1 j8 fu13 v10 v11 M12 = some (M', r) → G layM X Γ 6 (QM layM X Γ (some (.long r)) M') 45 [(2, .int v5), (0, .ref (X.2.2.2.1 0)), (1, .int a1), (3, .long v10), (5, .int v11)] [] M12 := by
          intro fu13
          induction fu13 with
          | zero =>
            intro v10 v11 M12 h
            rw [m_warms_L45] at h
            cases h
          | succ fu13 ih13 =>
            intro v10 v11 M12 h
            rw [m_warms_L45] at h
            refine g_iload (pn := 47) K rfl 4 rfl dX9_warms_45 ?_
            refine g_bipush (pn := 49) (v := 40) K rfl bp_40 dX9_warms_47 ?_
            refine g_icmp_gt (tgt := 85) (pn := 52) K rfl (by decide) dX9_warms_49 h (fun h => ?_) (fun h => ?_)
            · refine g_sub [0, 1, 3] rfl ?_
              exact hj8 _ _ h
            · refine g_aload_n (pn := 53) K rfl 1 rfl dX9_warms_52 ?_
              refine g_getr (pn := 56) (j := 4) K rfl fl_X9_23 lm_0 rfl dX9_warms_53 ?_
              refine g_iconst (pn := 57) (v := 0) K rfl ic_0 dX9_warms_56 ?_
              refine g_iload (pn := 59) K rfl 4 rfl dX9_warms_57 ?_
              refine g_iast (pn := 60) K rfl lm_4 dX9_warms_59 h (fun M14 h => ?_)
              refine g_lload_n (pn := 61) K rfl 3 rfl dX9_warms_60 ?_
              refine g_aload_n (pn := 62) K rfl 1 rfl dX9_warms_61 ?_
              refine g_iload_n (pn := 63) K rfl 2 rfl dX9_warms_62 ?_
              obtain ⟨M16, v17, hc15, h⟩ := ob2_e h
              refine g_callV1 (pn := 66) (As := [.int a1]) (rest := [.long v10]) (a := 0) K rfl (d' := 173) (Nat.le_of_ble_eq_true rfl) mv_X9_347 (recvO K lm_0 rfl) (w_m_isSo hc15) rfl rfl (Nat.le_of_ble_eq_true rfl) dX9_warms_63 ?_
              refine jp_e1 h (fun v18 => G layM X Γ 6 (QM layM X Γ (some (.long r)) M') 74 [(2, .int v5), (0, .ref (X.2.2.2.1 0)), (1, .int a1), (5, .int v11)] [.long v18, .long v10] M16) (fun v18 h => ?_) (fun j19 hj19 h => ?_)
              · refine g_iload (pn := 76) K rfl 3 rfl dX9_warms_74 ?_
                refine g_lshl (pn := 77) K rfl dX9_warms_76 ?_
                refine g_lor (pn := 78) K rfl dX9_warms_77 ?_
                refine g_nml h (fun v20 h => ?_)
                refine g_lstore_n (pn := 79) (lv' := [(3, .long v20), (2, .int v5), (0, .ref (X.2.2.2.1 0)), (1, .int a1), (5, .int v11)]) K rfl dX9_warms_78 rfl (Nat.le_of_ble_eq_true rfl) rfl ?_
                obtain ⟨v21, ev21, h⟩ := bnd_e h
                refine g_iinc (pn := 82) (v := v21) (lv' := [(5, .int v21), (3, .long v20), (2, .int v5), (0, .ref (X.2.2.2.1 0)), (1, .int a1)]) K rfl 4 rfl ii_1 ev21 dX9_warms_79 (Nat.le_of_ble_eq_true rfl) rfl ?_
                refine g_goto (tgt := 45) K (by decide) dX9_warms_82 ?_
                refine g_sub [2, 3, 4, 1, 0] rfl ?_
                exact ih13 _ _ _ h
              refine g_ifB_eq (tgt := 73) (pn := 69) K rfl (by decide) dX9_warms_66 h (fun h => ?_) (fun h => ?_)
              · refine g_lconst (pn := 74) (v := 0) K rfl lc_0 dX9_warms_73 ?_
                refine g_sub [0, 1, 2, 4] rfl ?_
                exact hj19 _ h
              · refine g_lconst (pn := 70) (v := 1) K rfl lc_1 dX9_warms_69 ?_
                refine g_goto (tgt := 74) K (by decide) dX9_warms_70 ?_
                refine g_sub [0, 1, 2, 4] rfl ?_
                exact hj19 _ h
        refine g_sub [2, 3, 4, 1, 0] rfl ?_
        exact LP45 FU _ _ _ h
      · refine g_sub [] rfl ?_
        exact hj4 _ h
set_option maxHeartbeats 4000000 in
set_option maxRecDepth 20000 in
theorem w_m_sheet {X : XT} {M : Mem} {a1 : Int32} {a2 : Int32} {a3 : Int32} {M' : Mem} {r : Int32}   (h : m_sheet M a1 a2 a3 = some (M', r)) : CT layM X 2 yX9_sheet cX9_sheet 5 (some .int) [.ref (X.2.2.2.1 0), .int a1, .int a2, .int a3] M M' (some (.int r)) := by
  refine CT.of rfl (Nat.le_of_ble_eq_true rfl) (lv := [(0, .ref (X.2.2.2.1 0)), (1, .int a1), (2, .int a2), (3, .int a3)]) rfl (fun Γ K => ?_)
  have K : Kx layM X Γ RX9 cX9_sheet 5 2 (some .int) := K
  unfold m_sheet at h
  refine g_iload_n (pn := 1) K rfl 1 rfl dX9_sheet_0 ?_
  obtain ⟨v2, hc1, h⟩ := ob_e h
  refine g_callS1 (pn := 4) (As := [.int a1]) (rest := []) K rfl (d' := 1) (Nat.le_of_ble_eq_true rfl) ms_X9_303 (w_m_isSheet hc1) rfl rfl (Nat.le_of_ble_eq_true rfl) dX9_sheet_1 ?_
  refine g_ifB_eq (tgt := 31) (pn := 7) K rfl (by decide) dX9_sheet_4 h (fun h => ?_) (fun h => ?_)
  · refine g_bipush (pn := 33) (v := (-2)) K rfl bp_m2 dX9_sheet_31 ?_
    exact g_iret K dX9_sheet_33 (oi2 h).2 (oi2 h).1
  · refine g_iload_n (pn := 8) K rfl 2 rfl dX9_sheet_7 ?_
    refine g_i2l (pn := 9) K rfl dX9_sheet_8 ?_
    refine g_ldc2 (pn := 12) (v := (-1)) K rfl cl_X9_362 dX9_sheet_9 ?_
    refine g_ldc2 (pn := 15) (v := 2) K rfl cl_X9_322 dX9_sheet_12 ?_
    obtain ⟨v4, hc3, h⟩ := ob_e h
    refine g_callS1 (pn := 18) (As := [.long a2.toInt64, .long (-1), .long 2]) (rest := []) K rfl (d' := 0) (Nat.le_of_ble_eq_true rfl) ms_X9_94 (w_m_in hc3) rfl rfl (Nat.le_of_ble_eq_true rfl) dX9_sheet_15 ?_
    refine g_ifB_eq (tgt := 31) (pn := 21) K rfl (by decide) dX9_sheet_18 h (fun h => ?_) (fun h => ?_)
    · refine g_bipush (pn := 33) (v := (-2)) K rfl bp_m2 dX9_sheet_31 ?_
      exact g_iret K dX9_sheet_33 (oi2 h).2 (oi2 h).1
    · refine g_iload_n (pn := 22) K rfl 2 rfl dX9_sheet_21 ?_
      refine jp_e1 h (fun u5 => G layM X Γ 5 (QM layM X Γ (some (.int r)) M') 34 [(0, .ref (X.2.2.2.1 0)), (1, .int a1), (2, .int a2), (3, .int a3)] [] M) (fun u5 h => ?_) (fun j6 hj6 h => ?_)
      · refine g_iload_n (pn := 35) K rfl 2 rfl dX9_sheet_34 ?_
        refine jp_e1 h (fun u7 => G layM X Γ 5 (QM layM X Γ (some (.int r)) M') 45 [(0, .ref (X.2.2.2.1 0)), (1, .int a1), (2, .int a2), (3, .int a3)] [] M) (fun u7 h => ?_) (fun j8 hj8 h => ?_)
        · refine g_aload_n (pn := 46) K rfl 0 rfl dX9_sheet_45 ?_
          refine g_getr (pn := 49) (j := 19) K rfl fl_X9_71 lm_0 rfl dX9_sheet_46 ?_
          refine g_iload_n (pn := 50) K rfl 1 rfl dX9_sheet_49 ?_
          refine g_iload_n (pn := 51) K rfl 2 rfl dX9_sheet_50 ?_
          refine jp_e1 h (fun v9 => G layM X Γ 5 (QM layM X Γ (some (.int r)) M') 59 [(0, .ref (X.2.2.2.1 0)), (1, .int a1), (2, .int a2), (3, .int a3)] [.int v9, .int a1, .ref (X.2.2.2.1 19)] M) (fun v9 h => ?_) (fun j10 hj10 h => ?_)
          · refine g_zast (pn := 60) K rfl lm_19 dX9_sheet_59 h (fun M11 h => ?_)
            refine g_aload_n (pn := 61) K rfl 0 rfl dX9_sheet_60 ?_
            refine g_getr (pn := 64) (j := 20) K rfl fl_X9_75 lm_0 rfl dX9_sheet_61 ?_
            refine g_iload_n (pn := 65) K rfl 1 rfl dX9_sheet_64 ?_
            refine g_iload_n (pn := 66) K rfl 2 rfl dX9_sheet_65 ?_
            refine g_iast (pn := 67) K rfl lm_20 dX9_sheet_66 h (fun M12 h => ?_)
            refine g_aload_n (pn := 68) K rfl 0 rfl dX9_sheet_67 ?_
            refine g_getr (pn := 71) (j := 21) K rfl fl_X9_78 lm_0 rfl dX9_sheet_68 ?_
            refine g_iload_n (pn := 72) K rfl 1 rfl dX9_sheet_71 ?_
            refine g_iload_n (pn := 73) K rfl 3 rfl dX9_sheet_72 ?_
            refine g_iast (pn := 74) K rfl lm_21 dX9_sheet_73 h (fun M13 h => ?_)
            refine g_iconst (pn := 75) (v := 0) K rfl ic_0 dX9_sheet_74 ?_
            refine g_istore (pn := 77) (lv' := [(4, .int 0), (0, .ref (X.2.2.2.1 0)), (1, .int a1), (2, .int a2), (3, .int a3)]) K rfl dX9_sheet_75 (Nat.le_of_ble_eq_true rfl) rfl ?_
            refine jp_e1 h (fun M14 => G layM X Γ 5 (QM layM X Γ (some (.int r)) M') 106 [] [] M14) (fun M14 h => ?_) (fun j15 hj15 h => ?_)
            · refine g_iconst (pn := 107) (v := 1) K rfl ic_1 dX9_sheet_106 ?_
              exact g_iret K dX9_sheet_107 (oi2 h).2 (oi2 h).1
            have LP77 : ∀ (fu18 : Nat) (v16 : Int32) (M17 : Mem), m_sheet_L77 a1 a2 a3 j15 fu18 v16 M17 = some (M', r) → G layM X Γ 5 (QM layM X Γ (some (.int r)) M') 77 [(0, .ref (X.2.2.2.1 0)), (1, .int a1), (2, .int a2), (3, .int a3), (4, .int v16)] [] M17 := by
              intro fu18
              induction fu18 with
              | zero =>
                intro v16 M17 h
                rw [m_sheet_L77] at h
                cases h
              | succ fu18 ih18 =>
                intro v16 M17 h
                rw [m_sheet_L77] at h
                refine g_iload (pn := 79) K rfl 4 rfl dX9_sheet_77 ?_
                refine g_iload_n (pn := 80) K rfl 3 rfl dX9_sheet_79 ?_
                refine g_icmp_ge (tgt := 106) (pn := 83) K rfl (by decide) dX9_sheet_80 h (fun h => ?_) (fun h => ?_)
                · refine g_sub [] rfl ?_
                  exact hj15 _ h
                · refine g_iload_n (pn := 84) K rfl 2 rfl dX9_sheet_83 ?_
                  refine g_if_lt (tgt := 106) (pn := 87) K rfl (by decide) dX9_sheet_84 h (fun h => ?_) (fun h => ?_)
                  · refine g_sub [] rfl ?_
                    exact hj15 _ h
                  · refine g_aload_n (pn := 88) K rfl 0 rfl dX9_sheet_87 ?_
                    refine g_getr (pn := 91) (j := 22) K rfl fl_X9_81 lm_0 rfl dX9_sheet_88 ?_
                    refine g_bipush (pn := 93) (v := 40) K rfl bp_40 dX9_sheet_91 ?_
                    refine g_iload_n (pn := 94) K rfl 1 rfl dX9_sheet_93 ?_
                    refine g_imul (pn := 95) K rfl dX9_sheet_94 ?_
                    refine g_iload (pn := 97) K rfl 4 rfl dX9_sheet_95 ?_
                    refine g_iadd (pn := 98) K rfl dX9_sheet_97 ?_
                    refine g_iconst (pn := 99) (v := 0) K rfl ic_0 dX9_sheet_98 ?_
                    refine g_iast (pn := 100) K rfl lm_22 dX9_sheet_99 h (fun M19 h => ?_)
                    obtain ⟨v20, ev20, h⟩ := bnd_e h
                    refine g_iinc (pn := 103) (v := v20) (lv' := [(4, .int v20), (0, .ref (X.2.2.2.1 0)), (1, .int a1), (2, .int a2), (3, .int a3)]) K rfl 4 rfl ii_1 ev20 dX9_sheet_100 (Nat.le_of_ble_eq_true rfl) rfl ?_
                    refine g_goto (tgt := 77) K (by decide) dX9_sheet_103 ?_
                    refine g_sub [1, 2, 3, 4, 0] rfl ?_
                    exact ih18 _ _ h
            refine g_sub [1, 2, 3, 4, 0] rfl ?_
            exact LP77 FU _ _ h
          refine g_if_lt (tgt := 58) (pn := 54) K rfl (by decide) dX9_sheet_51 h (fun h => ?_) (fun h => ?_)
          · refine g_iconst (pn := 59) (v := 0) K rfl ic_0 dX9_sheet_58 ?_
            exact hj10 _ h
          · refine g_iconst (pn := 55) (v := 1) K rfl ic_1 dX9_sheet_54 ?_
            refine g_goto (tgt := 59) K (by decide) dX9_sheet_55 ?_
            exact hj10 _ h
        refine g_if_lt (tgt := 45) (pn := 38) K rfl (by decide) dX9_sheet_35 h (fun h => ?_) (fun h => ?_)
        · exact hj8 _ h
        · refine g_iload_n (pn := 39) K rfl 3 rfl dX9_sheet_38 ?_
          refine g_if_ge (tgt := 45) (pn := 42) K rfl (by decide) dX9_sheet_39 h (fun h => ?_) (fun h => ?_)
          · exact hj8 _ h
          · refine g_bipush (pn := 44) (v := (-14)) K rfl bp_m14 dX9_sheet_42 ?_
            exact g_iret K dX9_sheet_44 (oi2 h).2 (oi2 h).1
      refine g_if_lt (tgt := 34) (pn := 25) K rfl (by decide) dX9_sheet_22 h (fun h => ?_) (fun h => ?_)
      · exact hj6 _ h
      · refine g_iload_n (pn := 26) K rfl 3 rfl dX9_sheet_25 ?_
        refine g_bipush (pn := 28) (v := 40) K rfl bp_40 dX9_sheet_26 ?_
        refine g_icmp_le (tgt := 34) (pn := 31) K rfl (by decide) dX9_sheet_28 h (fun h => ?_) (fun h => ?_)
        · exact hj6 _ h
        · refine g_bipush (pn := 33) (v := (-2)) K rfl bp_m2 dX9_sheet_31 ?_
          exact g_iret K dX9_sheet_33 (oi2 h).2 (oi2 h).1
set_option maxHeartbeats 4000000 in
set_option maxRecDepth 20000 in
theorem w_m_film {X : XT} {M : Mem} {a1 : Int32} {M' : Mem} {r : Int32}   (h : m_film M a1 = some (M', r)) : CT layM X 173 yX9_film cX9_film 3 (some .int) [.ref (X.2.2.2.1 0), .int a1] M M' (some (.int r)) := by
  refine CT.of rfl (Nat.le_of_ble_eq_true rfl) (lv := [(0, .ref (X.2.2.2.1 0)), (1, .int a1)]) rfl (fun Γ K => ?_)
  have K : Kx layM X Γ RX9 cX9_film 3 173 (some .int) := K
  unfold m_film at h
  refine g_iload_n (pn := 1) K rfl 1 rfl dX9_film_0 ?_
  obtain ⟨v2, hc1, h⟩ := ob_e h
  refine g_callS1 (pn := 4) (As := [.int a1]) (rest := []) K rfl (d' := 1) (Nat.le_of_ble_eq_true rfl) ms_X9_303 (w_m_isSheet hc1) rfl rfl (Nat.le_of_ble_eq_true rfl) dX9_film_1 ?_
  refine g_ifB_ne (tgt := 10) (pn := 7) K rfl (by decide) dX9_film_4 h (fun h => ?_) (fun h => ?_)
  · refine g_aload_n (pn := 11) K rfl 0 rfl dX9_film_10 ?_
    refine g_aload_n (pn := 12) K rfl 0 rfl dX9_film_11 ?_
    refine g_geti (pn := 15) K rfl fl_X9_91 lm_0 rfl dX9_film_12 ?_
    obtain ⟨M4, hc3, h⟩ := ob_e h
    refine g_callV0 (pn := 18) (As := [.int (M 0 12)]) (rest := []) (a := 0) K rfl (d' := 172) (Nat.le_of_ble_eq_true rfl) mv_X9_297 (recvO K lm_0 rfl) (w_m_livesPlain hc3) rfl rfl (Nat.le_of_ble_eq_true rfl) dX9_film_15 ?_
    refine g_aload_n (pn := 19) K rfl 0 rfl dX9_film_18 ?_
    refine g_iload_n (pn := 20) K rfl 1 rfl dX9_film_19 ?_
    refine g_iconst (pn := 21) (v := 2) K rfl ic_2 dX9_film_20 ?_
    refine g_aload_n (pn := 22) K rfl 0 rfl dX9_film_21 ?_
    refine g_geti (pn := 25) K rfl fl_X9_91 lm_0 rfl dX9_film_22 ?_
    obtain ⟨M6, v7, hc5, h⟩ := ob2_e h
    refine g_callV1 (pn := 28) (As := [.int a1, .int 2, .int (M4 0 12)]) (rest := []) (a := 0) K rfl (d' := 2) (Nat.le_of_ble_eq_true rfl) mv_X9_352 (recvO K lm_0 rfl) (w_m_sheet hc5) rfl rfl (Nat.le_of_ble_eq_true rfl) dX9_film_25 ?_
    refine g_pop (pn := 29) K rfl rfl dX9_film_28 ?_
    refine g_iconst (pn := 30) (v := 0) K rfl ic_0 dX9_film_29 ?_
    refine g_istore_n (pn := 31) (lv' := [(2, .int 0), (0, .ref (X.2.2.2.1 0)), (1, .int a1)]) K rfl dX9_film_30 rfl (Nat.le_of_ble_eq_true rfl) rfl ?_
    refine jp_e1 h (fun M8 => G layM X Γ 3 (QM layM X Γ (some (.int r)) M') 62 [(0, .ref (X.2.2.2.1 0))] [] M8) (fun M8 h => ?_) (fun j9 hj9 h => ?_)
    · refine g_aload_n (pn := 63) K rfl 0 rfl dX9_film_62 ?_
      refine g_geti (pn := 66) K rfl fl_X9_91 lm_0 rfl dX9_film_63 ?_
      exact g_iret K dX9_film_66 (oi2 h).2 (oi2 h).1
    have LP31 : ∀ (fu12 : Nat) (v10 : Int32) (M11 : Mem), m_film_L31 a1 j9 fu12 v10 M11 = some (M', r) → G layM X Γ 3 (QM layM X Γ (some (.int r)) M') 31 [(0, .ref (X.2.2.2.1 0)), (1, .int a1), (2, .int v10)] [] M11 := by
      intro fu12
      induction fu12 with
      | zero =>
        intro v10 M11 h
        rw [m_film_L31] at h
        cases h
      | succ fu12 ih12 =>
        intro v10 M11 h
        rw [m_film_L31] at h
        refine g_iload_n (pn := 32) K rfl 2 rfl dX9_film_31 ?_
        refine g_aload_n (pn := 33) K rfl 0 rfl dX9_film_32 ?_
        refine g_geti (pn := 36) K rfl fl_X9_91 lm_0 rfl dX9_film_33 ?_
        refine g_icmp_ge (tgt := 62) (pn := 39) K rfl (by decide) dX9_film_36 h (fun h => ?_) (fun h => ?_)
        · refine g_sub [0] rfl ?_
          exact hj9 _ h
        · refine g_aload_n (pn := 40) K rfl 0 rfl dX9_film_39 ?_
          refine g_getr (pn := 43) (j := 22) K rfl fl_X9_81 lm_0 rfl dX9_film_40 ?_
          refine g_bipush (pn := 45) (v := 40) K rfl bp_40 dX9_film_43 ?_
          refine g_iload_n (pn := 46) K rfl 1 rfl dX9_film_45 ?_
          refine g_imul (pn := 47) K rfl dX9_film_46 ?_
          refine g_iload_n (pn := 48) K rfl 2 rfl dX9_film_47 ?_
          refine g_iadd (pn := 49) K rfl dX9_film_48 ?_
          refine g_aload_n (pn := 50) K rfl 0 rfl dX9_film_49 ?_
          refine g_getr (pn := 53) (j := 15) K rfl fl_X9_56 lm_0 rfl dX9_film_50 ?_
          refine g_iload_n (pn := 54) K rfl 2 rfl dX9_film_53 ?_
          refine g_iald (pn := 55) K rfl lm_15 dX9_film_54 h (fun h => ?_)
          refine g_iast (pn := 56) K rfl lm_22 dX9_film_55 h (fun M13 h => ?_)
          obtain ⟨v14, ev14, h⟩ := bnd_e h
          refine g_iinc (pn := 59) (v := v14) (lv' := [(2, .int v14), (0, .ref (X.2.2.2.1 0)), (1, .int a1)]) K rfl 2 rfl ii_1 ev14 dX9_film_56 (Nat.le_of_ble_eq_true rfl) rfl ?_
          refine g_goto (tgt := 31) K (by decide) dX9_film_59 ?_
          refine g_sub [1, 2, 0] rfl ?_
          exact ih12 _ _ h
    refine g_sub [1, 2, 0] rfl ?_
    exact LP31 FU _ _ h
  · refine g_bipush (pn := 9) (v := (-2)) K rfl bp_m2 dX9_film_7 ?_
    exact g_iret K dX9_film_9 (oi2 h).2 (oi2 h).1
set_option maxHeartbeats 4000000 in
set_option maxRecDepth 20000 in
theorem w_m_draws {X : XT} {M : Mem} {a1 : Int32} {M' : Mem}   (h : m_draws M a1 = some M') : CT layM X 174 yX9_draws cX9_draws 2 none [.ref (X.2.2.2.1 0), .int a1] M M' none := by
  refine CT.of rfl (Nat.le_of_ble_eq_true rfl) (lv := [(0, .ref (X.2.2.2.1 0)), (1, .int a1)]) rfl (fun Γ K => ?_)
  have K : Kx layM X Γ RX9 cX9_draws 2 174 none := K
  unfold m_draws at h
  refine g_aload_n (pn := 1) K rfl 0 rfl dX9_draws_0 ?_
  refine g_iconst (pn := 2) (v := 0) K rfl ic_0 dX9_draws_1 ?_
  refine g_iload_n (pn := 3) K rfl 1 rfl dX9_draws_2 ?_
  refine g_ldcw (pn := 6) (v := 1103515245) K rfl cn_X9_355 dX9_draws_3 ?_
  refine g_imul (pn := 7) K rfl dX9_draws_6 ?_
  refine g_sipush (pn := 10) (v := 12345) K rfl sp_12345 dX9_draws_7 ?_
  refine g_iadd (pn := 11) K rfl dX9_draws_10 ?_
  refine g_bipush (pn := 13) (v := 9) K rfl bp_9 dX9_draws_11 ?_
  refine g_iushr (pn := 14) K rfl dX9_draws_13 ?_
  refine g_bipush (pn := 16) (v := 41) K rfl bp_41 dX9_draws_14 ?_
  refine g_irem (pn := 17) K rfl (by decide) dX9_draws_16 ?_
  obtain ⟨M2, hc1, h⟩ := ob_e h
  refine g_callV0 (pn := 20) (As := [.int 0, .int ((((a1 * 1103515245) + 12345).toUInt32 >>> ((9 : Int32).toUInt32 &&& Int32.toUInt32 31)).toInt32 - (((a1 * 1103515245) + 12345).toUInt32 >>> ((9 : Int32).toUInt32 &&& Int32.toUInt32 31)).toInt32 / 41 * 41)]) (rest := []) (a := 0) K rfl (d' := 173) (Nat.le_of_ble_eq_true rfl) mv_X9_332 (recvO K lm_0 rfl) (w_m_livesBy hc1) rfl rfl (Nat.le_of_ble_eq_true rfl) dX9_draws_17 ?_
  exact g_vret K dX9_draws_20 (oi h)
set_option maxHeartbeats 4000000 in
set_option maxRecDepth 20000 in
theorem w_m_drawn {X : XT} {M : Mem} {a1 : Int32} {M' : Mem} {r : Int32}   (h : m_drawn M a1 = some (M', r)) : CT layM X 175 yX9_drawn cX9_drawn 2 (some .int) [.ref (X.2.2.2.1 0), .int a1] M M' (some (.int r)) := by
  refine CT.of rfl (Nat.le_of_ble_eq_true rfl) (lv := [(0, .ref (X.2.2.2.1 0)), (1, .int a1)]) rfl (fun Γ K => ?_)
  have K : Kx layM X Γ RX9 cX9_drawn 2 175 (some .int) := K
  unfold m_drawn at h
  refine g_aload_n (pn := 1) K rfl 0 rfl dX9_drawn_0 ?_
  refine g_iload_n (pn := 2) K rfl 1 rfl dX9_drawn_1 ?_
  obtain ⟨M2, hc1, h⟩ := ob_e h
  refine g_callV0 (pn := 5) (As := [.int a1]) (rest := []) (a := 0) K rfl (d' := 174) (Nat.le_of_ble_eq_true rfl) mv_X9_356 (recvO K lm_0 rfl) (w_m_draws hc1) rfl rfl (Nat.le_of_ble_eq_true rfl) dX9_drawn_2 ?_
  refine g_aload_n (pn := 6) K rfl 0 rfl dX9_drawn_5 ?_
  refine g_geti (pn := 9) K rfl fl_X9_258 lm_0 rfl dX9_drawn_6 ?_
  exact g_iret K dX9_drawn_9 (oi2 h).2 (oi2 h).1
set_option maxHeartbeats 4000000 in
set_option maxRecDepth 20000 in
theorem w_m_chance {X : XT} {M : Mem} {a1 : Int32} {a2 : Int32} {a3 : Int32} {M' : Mem} {r : Int64}   (h : m_chance M a1 a2 a3 = some (M', r)) : CT layM X 175 yX9_chance cX9_chance 12 (some .long) [.ref (X.2.2.2.1 0), .int a1, .int a2, .int a3] M M' (some (.long r)) := by
  refine CT.of rfl (Nat.le_of_ble_eq_true rfl) (lv := [(0, .ref (X.2.2.2.1 0)), (1, .int a1), (2, .int a2), (3, .int a3)]) rfl (fun Γ K => ?_)
  have K : Kx layM X Γ RX9 cX9_chance 12 175 (some .long) := K
  unfold m_chance at h
  refine g_iload_n (pn := 1) K rfl 2 rfl dX9_chance_0 ?_
  refine g_i2l (pn := 2) K rfl dX9_chance_1 ?_
  refine g_lconst (pn := 3) (v := 1) K rfl lc_1 dX9_chance_2 ?_
  refine g_ldc2 (pn := 6) (v := 20) K rfl cl_X9_108 dX9_chance_3 ?_
  obtain ⟨v2, hc1, h⟩ := ob_e h
  refine g_callS1 (pn := 9) (As := [.long a2.toInt64, .long 1, .long 20]) (rest := []) K rfl (d' := 0) (Nat.le_of_ble_eq_true rfl) ms_X9_94 (w_m_in hc1) rfl rfl (Nat.le_of_ble_eq_true rfl) dX9_chance_6 ?_
  refine jp_e1 h (fun u3 => G layM X Γ 12 (QM layM X Γ (some (.long r)) M') 22 [] [] M) (fun u3 h => ?_) (fun j4 hj4 h => ?_)
  · refine g_ldc2 (pn := 25) (v := (-4611686018427387904)) K rfl cl_X9_350 dX9_chance_22 ?_
    exact g_lret K dX9_chance_25 (oi2 h).2 (oi2 h).1
  refine g_ifB_eq (tgt := 22) (pn := 12) K rfl (by decide) dX9_chance_9 h (fun h => ?_) (fun h => ?_)
  · refine g_sub [] rfl ?_
    exact hj4 _ h
  · refine g_iload_n (pn := 13) K rfl 3 rfl dX9_chance_12 ?_
    refine g_i2l (pn := 14) K rfl dX9_chance_13 ?_
    refine g_lconst (pn := 15) (v := 0) K rfl lc_0 dX9_chance_14 ?_
    refine g_lconst (pn := 16) (v := 1) K rfl lc_1 dX9_chance_15 ?_
    obtain ⟨v6, hc5, h⟩ := ob_e h
    refine g_callS1 (pn := 19) (As := [.long a3.toInt64, .long 0, .long 1]) (rest := []) K rfl (d' := 0) (Nat.le_of_ble_eq_true rfl) ms_X9_94 (w_m_in hc5) rfl rfl (Nat.le_of_ble_eq_true rfl) dX9_chance_16 ?_
    refine g_ifB_ne (tgt := 26) (pn := 22) K rfl (by decide) dX9_chance_19 h (fun h => ?_) (fun h => ?_)
    · refine g_lconst (pn := 27) (v := 0) K rfl lc_0 dX9_chance_26 ?_
      refine g_lstore (pn := 29) (lv' := [(4, .long 0), (0, .ref (X.2.2.2.1 0)), (1, .int a1), (2, .int a2), (3, .int a3)]) K rfl dX9_chance_27 (Nat.le_of_ble_eq_true rfl) rfl ?_
      refine g_iconst (pn := 30) (v := 0) K rfl ic_0 dX9_chance_29 ?_
      refine g_istore (pn := 32) (lv' := [(6, .int 0), (4, .long 0), (0, .ref (X.2.2.2.1 0)), (1, .int a1), (2, .int a2), (3, .int a3)]) K rfl dX9_chance_30 (Nat.le_of_ble_eq_true rfl) rfl ?_
      refine jp_e2 h (fun v7 M8 => G layM X Γ 12 (QM layM X Γ (some (.long r)) M') 70 [(2, .int a2), (3, .int a3), (4, .long v7)] [] M8) (fun v7 M8 h => ?_) (fun j9 hj9 h => ?_)
      · refine g_lload (pn := 72) K rfl 2 rfl dX9_chance_70 ?_
        refine g_lstore (pn := 74) (lv' := [(6, .long v7), (2, .int a2), (3, .int a3), (4, .long v7)]) K rfl dX9_chance_72 (Nat.le_of_ble_eq_true rfl) rfl ?_
        refine g_iload_n (pn := 75) K rfl 1 rfl dX9_chance_74 ?_
        refine g_i2l (pn := 76) K rfl dX9_chance_75 ?_
        refine g_nml h (fun v10 h => ?_)
        refine g_lstore (pn := 78) (lv' := [(8, .long v10), (6, .long v7), (2, .int a2), (3, .int a3), (4, .long v7)]) K rfl dX9_chance_76 (Nat.le_of_ble_eq_true rfl) rfl ?_
        refine jp_e1 h (fun v11 => G layM X Γ 12 (QM layM X Γ (some (.long r)) M') 103 [(2, .int a2), (3, .int a3), (4, .long v7), (6, .long v11)] [] M8) (fun v11 h => ?_) (fun j12 hj12 h => ?_)
        · refine g_iload_n (pn := 104) K rfl 1 rfl dX9_chance_103 ?_
          refine g_if_ne (tgt := 115) (pn := 107) K rfl (by decide) dX9_chance_104 h (fun h => ?_) (fun h => ?_)
          · refine g_iload_n (pn := 116) K rfl 0 rfl dX9_chance_115 ?_
            refine g_i2l (pn := 117) K rfl dX9_chance_116 ?_
            refine g_lload (pn := 119) K rfl 3 rfl dX9_chance_117 ?_
            obtain ⟨hz, h⟩ := nzL_e h
            refine g_ldiv (pn := 120) K rfl hz dX9_chance_119 ?_
            exact g_lret K dX9_chance_120 (oi2 h).2 (oi2 h).1
          · refine g_lload (pn := 109) K rfl 2 rfl dX9_chance_107 ?_
            refine g_lload (pn := 111) K rfl 3 rfl dX9_chance_109 ?_
            obtain ⟨hz, h⟩ := nzL_e h
            refine g_ldiv (pn := 112) K rfl hz dX9_chance_111 ?_
            refine g_goto (tgt := 120) K (by decide) dX9_chance_112 ?_
            exact g_lret K dX9_chance_120 (oi2 h).2 (oi2 h).1
        have LP78 : ∀ (fu15 : Nat) (v13 : Int64) (v14 : Int64), m_chance_L78 j12 fu15 v13 v14 = some (M', r) → G layM X Γ 12 (QM layM X Γ (some (.long r)) M') 78 [(2, .int a2), (3, .int a3), (4, .long v7), (6, .long v13), (8, .long v14)] [] M8 := by
          intro fu15
          induction fu15 with
          | zero =>
            intro v13 v14 h
            rw [m_chance_L78] at h
            cases h
          | succ fu15 ih15 =>
            intro v13 v14 h
            rw [m_chance_L78] at h
            refine g_lload (pn := 80) K rfl 4 rfl dX9_chance_78 ?_
            refine g_lconst (pn := 81) (v := 0) K rfl lc_0 dX9_chance_80 ?_
            refine g_lcmp (pn := 82) K rfl dX9_chance_81 ?_
            refine g_if_eq (tgt := 103) (pn := 85) K rfl (by decide) dX9_chance_82 h (fun h => ?_) (fun h => ?_)
            · refine g_sub [0, 1, 2, 3] rfl ?_
              exact hj12 _ h
            · refine g_lload (pn := 87) K rfl 3 rfl dX9_chance_85 ?_
              refine g_lload (pn := 89) K rfl 4 rfl dX9_chance_87 ?_
              obtain ⟨hz, h⟩ := nzL_e h
              refine g_lrem (pn := 90) K rfl hz dX9_chance_89 ?_
              refine g_nml h (fun v16 h => ?_)
              refine g_lstore (pn := 92) (lv' := [(10, .long v16), (2, .int a2), (3, .int a3), (4, .long v7), (6, .long v13), (8, .long v14)]) K rfl dX9_chance_90 (Nat.le_of_ble_eq_true rfl) rfl ?_
              refine g_lload (pn := 94) K rfl 5 rfl dX9_chance_92 ?_
              refine g_lstore (pn := 96) (lv' := [(6, .long v14), (10, .long v16), (2, .int a2), (3, .int a3), (4, .long v7), (8, .long v14)]) K rfl dX9_chance_94 (Nat.le_of_ble_eq_true rfl) rfl ?_
              refine g_lload (pn := 98) K rfl 1 rfl dX9_chance_96 ?_
              refine g_lstore (pn := 100) (lv' := [(8, .long v16), (6, .long v14), (10, .long v16), (2, .int a2), (3, .int a3), (4, .long v7)]) K rfl dX9_chance_98 (Nat.le_of_ble_eq_true rfl) rfl ?_
              refine g_goto (tgt := 78) K (by decide) dX9_chance_100 ?_
              refine g_sub [3, 4, 5, 1, 0] rfl ?_
              exact ih15 _ _ h
        refine g_sub [2, 3, 4, 1, 0] rfl ?_
        exact LP78 FU _ _ h
      have LP32 : ∀ (fu20 : Nat) (v17 : Int64) (v18 : Int32) (M19 : Mem), m_chance_L32 a1 a2 j9 fu20 v17 v18 M19 = some (M', r) → G layM X Γ 12 (QM layM X Γ (some (.long r)) M') 32 [(0, .ref (X.2.2.2.1 0)), (1, .int a1), (2, .int a2), (3, .int a3), (4, .long v17), (6, .int v18)] [] M19 := by
        intro fu20
        induction fu20 with
        | zero =>
          intro v17 v18 M19 h
          rw [m_chance_L32] at h
          cases h
        | succ fu20 ih20 =>
          intro v17 v18 M19 h
          rw [m_chance_L32] at h
          refine g_iload (pn := 34) K rfl 5 rfl dX9_chance_32 ?_
          refine g_iload_n (pn := 35) K rfl 2 rfl dX9_chance_34 ?_
          refine g_icmp_ge (tgt := 70) (pn := 38) K rfl (by decide) dX9_chance_35 h (fun h => ?_) (fun h => ?_)
          · refine g_sub [2, 3, 4] rfl ?_
            exact hj9 _ _ h
          · refine g_aload_n (pn := 39) K rfl 0 rfl dX9_chance_38 ?_
            refine g_iload_n (pn := 40) K rfl 1 rfl dX9_chance_39 ?_
            refine g_iload (pn := 42) K rfl 5 rfl dX9_chance_40 ?_
            refine g_iadd (pn := 43) K rfl dX9_chance_42 ?_
            obtain ⟨M22, hc21, h⟩ := ob_e h
            refine g_callV0 (pn := 46) (As := [.int (a1 + v18)]) (rest := []) (a := 0) K rfl (d' := 174) (Nat.le_of_ble_eq_true rfl) mv_X9_356 (recvO K lm_0 rfl) (w_m_draws hc21) rfl rfl (Nat.le_of_ble_eq_true rfl) dX9_chance_43 ?_
            refine g_lload (pn := 48) K rfl 4 rfl dX9_chance_46 ?_
            refine g_aload_n (pn := 49) K rfl 0 rfl dX9_chance_48 ?_
            refine g_iconst (pn := 50) (v := 1) K rfl ic_1 dX9_chance_49 ?_
            obtain ⟨v24, hc23, h⟩ := ob_e h
            refine g_callV1 (pn := 53) (As := [.int 1]) (rest := [.long v17]) (a := 0) K rfl (d' := 0) (Nat.le_of_ble_eq_true rfl) mv_X9_290 (recvO K lm_0 rfl) (w_m_setOf hc23) rfl rfl (Nat.le_of_ble_eq_true rfl) dX9_chance_50 ?_
            refine jp_e1 h (fun v25 => G layM X Γ 12 (QM layM X Γ (some (.long r)) M') 61 [(0, .ref (X.2.2.2.1 0)), (1, .int a1), (2, .int a2), (3, .int a3), (6, .int v18)] [.long v25, .long v17] M22) (fun v25 h => ?_) (fun j26 hj26 h => ?_)
            · refine g_ladd (pn := 62) K rfl dX9_chance_61 ?_
              refine g_nml h (fun v27 h => ?_)
              refine g_lstore (pn := 64) (lv' := [(4, .long v27), (0, .ref (X.2.2.2.1 0)), (1, .int a1), (2, .int a2), (3, .int a3), (6, .int v18)]) K rfl dX9_chance_62 (Nat.le_of_ble_eq_true rfl) rfl ?_
              obtain ⟨v28, ev28, h⟩ := bnd_e h
              refine g_iinc (pn := 67) (v := v28) (lv' := [(6, .int v28), (4, .long v27), (0, .ref (X.2.2.2.1 0)), (1, .int a1), (2, .int a2), (3, .int a3)]) K rfl 5 rfl ii_1 ev28 dX9_chance_64 (Nat.le_of_ble_eq_true rfl) rfl ?_
              refine g_goto (tgt := 32) K (by decide) dX9_chance_67 ?_
              refine g_sub [2, 3, 4, 5, 1, 0] rfl ?_
              exact ih20 _ _ _ h
            refine g_if_ne (tgt := 60) (pn := 56) K rfl (by decide) dX9_chance_53 h (fun h => ?_) (fun h => ?_)
            · refine g_lconst (pn := 61) (v := 0) K rfl lc_0 dX9_chance_60 ?_
              refine g_sub [0, 1, 2, 3, 5] rfl ?_
              exact hj26 _ h
            · refine g_lconst (pn := 57) (v := 1) K rfl lc_1 dX9_chance_56 ?_
              refine g_goto (tgt := 61) K (by decide) dX9_chance_57 ?_
              refine g_sub [0, 1, 2, 3, 5] rfl ?_
              exact hj26 _ h
      refine g_sub [2, 3, 4, 5, 1, 0] rfl ?_
      exact LP32 FU _ _ _ h
    · refine g_sub [] rfl ?_
      exact hj4 _ h
set_option maxHeartbeats 4000000 in
set_option maxRecDepth 20000 in
theorem w_m_image {X : XT} {M : Mem}  {M' : Mem} {r : Int32}   (h : m_image M = some (M', r)) : CT layM X 0 yX9_image cX9_image 2 (some .int) [.ref (X.2.2.2.1 0)] M M' (some (.int r)) := by
  refine CT.of rfl (Nat.le_of_ble_eq_true rfl) (lv := [(0, .ref (X.2.2.2.1 0))]) rfl (fun Γ K => ?_)
  have K : Kx layM X Γ RX9 cX9_image 2 0 (some .int) := K
  unfold m_image at h
  refine g_iconst (pn := 1) (v := 0) K rfl ic_0 dX9_image_0 ?_
  refine g_istore_n (pn := 2) (lv' := [(1, .int 0), (0, .ref (X.2.2.2.1 0))]) K rfl dX9_image_1 rfl (Nat.le_of_ble_eq_true rfl) rfl ?_
  refine jp_e1 h (fun M1 => G layM X Γ 2 (QM layM X Γ (some (.int r)) M') 26 [(0, .ref (X.2.2.2.1 0))] [] M1) (fun M1 h => ?_) (fun j2 hj2 h => ?_)
  · refine g_iconst (pn := 27) (v := 0) K rfl ic_0 dX9_image_26 ?_
    refine g_istore_n (pn := 28) (lv' := [(1, .int 0), (0, .ref (X.2.2.2.1 0))]) K rfl dX9_image_27 rfl (Nat.le_of_ble_eq_true rfl) rfl ?_
    refine jp_e1 h (fun M3 => G layM X Γ 2 (QM layM X Γ (some (.int r)) M') 82 [(0, .ref (X.2.2.2.1 0))] [] M3) (fun M3 h => ?_) (fun j4 hj4 h => ?_)
    · refine g_aload_n (pn := 83) K rfl 0 rfl dX9_image_82 ?_
      refine g_aload_n (pn := 84) K rfl 0 rfl dX9_image_83 ?_
      refine g_geti (pn := 87) K rfl fl_X9_91 lm_0 rfl dX9_image_84 ?_
      refine g_puti (pn := 90) K rfl fp_X9_68 lm_0 rfl dX9_image_87 h (fun M5 h => ?_)
      refine g_aload_n (pn := 91) K rfl 0 rfl dX9_image_90 ?_
      refine g_aload_n (pn := 92) K rfl 0 rfl dX9_image_91 ?_
      refine g_geti (pn := 95) K rfl fl_X9_242 lm_0 rfl dX9_image_92 ?_
      refine g_puti (pn := 98) K rfl fp_X9_359 lm_0 rfl dX9_image_95 h (fun M6 h => ?_)
      refine g_aload_n (pn := 99) K rfl 0 rfl dX9_image_98 ?_
      refine g_geti (pn := 102) K rfl fl_X9_91 lm_0 rfl dX9_image_99 ?_
      exact g_iret K dX9_image_102 (oi2 h).2 (oi2 h).1
    have LP28 : ∀ (fu9 : Nat) (v7 : Int32) (M8 : Mem), m_image_L28 j4 fu9 v7 M8 = some (M', r) → G layM X Γ 2 (QM layM X Γ (some (.int r)) M') 28 [(0, .ref (X.2.2.2.1 0)), (1, .int v7)] [] M8 := by
      intro fu9
      induction fu9 with
      | zero =>
        intro v7 M8 h
        rw [m_image_L28] at h
        cases h
      | succ fu9 ih9 =>
        intro v7 M8 h
        rw [m_image_L28] at h
        refine g_iload_n (pn := 29) K rfl 1 rfl dX9_image_28 ?_
        refine g_bipush (pn := 31) (v := 6) K rfl bp_6 dX9_image_29 ?_
        refine g_icmp_ge (tgt := 82) (pn := 34) K rfl (by decide) dX9_image_31 h (fun h => ?_) (fun h => ?_)
        · refine g_sub [0] rfl ?_
          exact hj4 _ h
        · refine g_aload_n (pn := 35) K rfl 0 rfl dX9_image_34 ?_
          refine g_getr (pn := 38) (j := 18) K rfl fl_X9_65 lm_0 rfl dX9_image_35 ?_
          refine g_iload_n (pn := 39) K rfl 1 rfl dX9_image_38 ?_
          refine g_aload_n (pn := 40) K rfl 0 rfl dX9_image_39 ?_
          refine g_getr (pn := 43) (j := 6) K rfl fl_X9_29 lm_0 rfl dX9_image_40 ?_
          refine g_iload_n (pn := 44) K rfl 1 rfl dX9_image_43 ?_
          refine g_iald (pn := 45) K rfl lm_6 dX9_image_44 h (fun h => ?_)
          refine g_iast (pn := 46) K rfl lm_18 dX9_image_45 h (fun M10 h => ?_)
          refine g_aload_n (pn := 47) K rfl 0 rfl dX9_image_46 ?_
          refine g_getr (pn := 50) (j := 18) K rfl fl_X9_65 lm_0 rfl dX9_image_47 ?_
          refine g_bipush (pn := 52) (v := 6) K rfl bp_6 dX9_image_50 ?_
          refine g_iload_n (pn := 53) K rfl 1 rfl dX9_image_52 ?_
          refine g_iadd (pn := 54) K rfl dX9_image_53 ?_
          refine g_aload_n (pn := 55) K rfl 0 rfl dX9_image_54 ?_
          refine g_getr (pn := 58) (j := 7) K rfl fl_X9_32 lm_0 rfl dX9_image_55 ?_
          refine g_iload_n (pn := 59) K rfl 1 rfl dX9_image_58 ?_
          refine g_iald (pn := 60) K rfl lm_7 dX9_image_59 h (fun h => ?_)
          refine g_iast (pn := 61) K rfl lm_18 dX9_image_60 h (fun M11 h => ?_)
          refine g_aload_n (pn := 62) K rfl 0 rfl dX9_image_61 ?_
          refine g_getr (pn := 65) (j := 18) K rfl fl_X9_65 lm_0 rfl dX9_image_62 ?_
          refine g_bipush (pn := 67) (v := 12) K rfl bp_12 dX9_image_65 ?_
          refine g_iload_n (pn := 68) K rfl 1 rfl dX9_image_67 ?_
          refine g_iadd (pn := 69) K rfl dX9_image_68 ?_
          refine g_aload_n (pn := 70) K rfl 0 rfl dX9_image_69 ?_
          refine g_getr (pn := 73) (j := 8) K rfl fl_X9_35 lm_0 rfl dX9_image_70 ?_
          refine g_iload_n (pn := 74) K rfl 1 rfl dX9_image_73 ?_
          refine g_iald (pn := 75) K rfl lm_8 dX9_image_74 h (fun h => ?_)
          refine g_iast (pn := 76) K rfl lm_18 dX9_image_75 h (fun M12 h => ?_)
          obtain ⟨v13, ev13, h⟩ := bnd_e h
          refine g_iinc (pn := 79) (v := v13) (lv' := [(1, .int v13), (0, .ref (X.2.2.2.1 0))]) K rfl 1 rfl ii_1 ev13 dX9_image_76 (Nat.le_of_ble_eq_true rfl) rfl ?_
          refine g_goto (tgt := 28) K (by decide) dX9_image_79 ?_
          refine g_sub [1, 0] rfl ?_
          exact ih9 _ _ h
    refine g_sub [1, 0] rfl ?_
    exact LP28 FU _ _ h
  have LP2 : ∀ (fu16 : Nat) (v14 : Int32) (M15 : Mem), m_image_L2 j2 fu16 v14 M15 = some (M', r) → G layM X Γ 2 (QM layM X Γ (some (.int r)) M') 2 [(0, .ref (X.2.2.2.1 0)), (1, .int v14)] [] M15 := by
    intro fu16
    induction fu16 with
    | zero =>
      intro v14 M15 h
      rw [m_image_L2] at h
      cases h
    | succ fu16 ih16 =>
      intro v14 M15 h
      rw [m_image_L2] at h
      refine g_iload_n (pn := 3) K rfl 1 rfl dX9_image_2 ?_
      refine g_bipush (pn := 5) (v := 6) K rfl bp_6 dX9_image_3 ?_
      refine g_icmp_ge (tgt := 26) (pn := 8) K rfl (by decide) dX9_image_5 h (fun h => ?_) (fun h => ?_)
      · refine g_sub [0] rfl ?_
        exact hj2 _ h
      · refine g_aload_n (pn := 9) K rfl 0 rfl dX9_image_8 ?_
        refine g_getr (pn := 12) (j := 17) K rfl fl_X9_62 lm_0 rfl dX9_image_9 ?_
        refine g_iload_n (pn := 13) K rfl 1 rfl dX9_image_12 ?_
        refine g_aload_n (pn := 14) K rfl 0 rfl dX9_image_13 ?_
        refine g_getr (pn := 17) (j := 4) K rfl fl_X9_23 lm_0 rfl dX9_image_14 ?_
        refine g_iload_n (pn := 18) K rfl 1 rfl dX9_image_17 ?_
        refine g_iald (pn := 19) K rfl lm_4 dX9_image_18 h (fun h => ?_)
        refine g_iast (pn := 20) K rfl lm_17 dX9_image_19 h (fun M17 h => ?_)
        obtain ⟨v18, ev18, h⟩ := bnd_e h
        refine g_iinc (pn := 23) (v := v18) (lv' := [(1, .int v18), (0, .ref (X.2.2.2.1 0))]) K rfl 1 rfl ii_1 ev18 dX9_image_20 (Nat.le_of_ble_eq_true rfl) rfl ?_
        refine g_goto (tgt := 2) K (by decide) dX9_image_23 ?_
        refine g_sub [1, 0] rfl ?_
        exact ih16 _ _ h
  refine g_sub [1, 0] rfl ?_
  exact LP2 FU _ _ h
set_option maxHeartbeats 4000000 in
set_option maxRecDepth 20000 in
theorem w_m_back {X : XT} {M : Mem}  {M' : Mem} {r : Int32}   (h : m_back M = some (M', r)) : CT layM X 0 yX9_back cX9_back 2 (some .int) [.ref (X.2.2.2.1 0)] M M' (some (.int r)) := by
  refine CT.of rfl (Nat.le_of_ble_eq_true rfl) (lv := [(0, .ref (X.2.2.2.1 0))]) rfl (fun Γ K => ?_)
  have K : Kx layM X Γ RX9 cX9_back 2 0 (some .int) := K
  unfold m_back at h
  refine g_aload_n (pn := 1) K rfl 0 rfl dX9_back_0 ?_
  refine g_geti (pn := 4) K rfl fl_X9_68 lm_0 rfl dX9_back_1 ?_
  refine g_iconst (pn := 5) (v := (-1)) K rfl ic_m1 dX9_back_4 ?_
  refine g_icmp_ne (tgt := 11) (pn := 8) K rfl (by decide) dX9_back_5 h (fun h => ?_) (fun h => ?_)
  · refine g_iconst (pn := 12) (v := 0) K rfl ic_0 dX9_back_11 ?_
    refine g_istore_n (pn := 13) (lv' := [(1, .int 0), (0, .ref (X.2.2.2.1 0))]) K rfl dX9_back_12 rfl (Nat.le_of_ble_eq_true rfl) rfl ?_
    refine jp_e1 h (fun M1 => G layM X Γ 2 (QM layM X Γ (some (.int r)) M') 37 [(0, .ref (X.2.2.2.1 0))] [] M1) (fun M1 h => ?_) (fun j2 hj2 h => ?_)
    · refine g_iconst (pn := 38) (v := 0) K rfl ic_0 dX9_back_37 ?_
      refine g_istore_n (pn := 39) (lv' := [(1, .int 0), (0, .ref (X.2.2.2.1 0))]) K rfl dX9_back_38 rfl (Nat.le_of_ble_eq_true rfl) rfl ?_
      refine jp_e1 h (fun M3 => G layM X Γ 2 (QM layM X Γ (some (.int r)) M') 93 [(0, .ref (X.2.2.2.1 0))] [] M3) (fun M3 h => ?_) (fun j4 hj4 h => ?_)
      · refine g_aload_n (pn := 94) K rfl 0 rfl dX9_back_93 ?_
        refine g_aload_n (pn := 95) K rfl 0 rfl dX9_back_94 ?_
        refine g_geti (pn := 98) K rfl fl_X9_68 lm_0 rfl dX9_back_95 ?_
        refine g_puti (pn := 101) K rfl fp_X9_91 lm_0 rfl dX9_back_98 h (fun M5 h => ?_)
        refine g_aload_n (pn := 102) K rfl 0 rfl dX9_back_101 ?_
        refine g_aload_n (pn := 103) K rfl 0 rfl dX9_back_102 ?_
        refine g_geti (pn := 106) K rfl fl_X9_359 lm_0 rfl dX9_back_103 ?_
        refine g_puti (pn := 109) K rfl fp_X9_242 lm_0 rfl dX9_back_106 h (fun M6 h => ?_)
        refine g_aload_n (pn := 110) K rfl 0 rfl dX9_back_109 ?_
        refine g_geti (pn := 113) K rfl fl_X9_91 lm_0 rfl dX9_back_110 ?_
        exact g_iret K dX9_back_113 (oi2 h).2 (oi2 h).1
      have LP39 : ∀ (fu9 : Nat) (v7 : Int32) (M8 : Mem), m_back_L39 j4 fu9 v7 M8 = some (M', r) → G layM X Γ 2 (QM layM X Γ (some (.int r)) M') 39 [(0, .ref (X.2.2.2.1 0)), (1, .int v7)] [] M8 := by
        intro fu9
        induction fu9 with
        | zero =>
          intro v7 M8 h
          rw [m_back_L39] at h
          cases h
        | succ fu9 ih9 =>
          intro v7 M8 h
          rw [m_back_L39] at h
          refine g_iload_n (pn := 40) K rfl 1 rfl dX9_back_39 ?_
          refine g_bipush (pn := 42) (v := 6) K rfl bp_6 dX9_back_40 ?_
          refine g_icmp_ge (tgt := 93) (pn := 45) K rfl (by decide) dX9_back_42 h (fun h => ?_) (fun h => ?_)
          · refine g_sub [0] rfl ?_
            exact hj4 _ h
          · refine g_aload_n (pn := 46) K rfl 0 rfl dX9_back_45 ?_
            refine g_getr (pn := 49) (j := 6) K rfl fl_X9_29 lm_0 rfl dX9_back_46 ?_
            refine g_iload_n (pn := 50) K rfl 1 rfl dX9_back_49 ?_
            refine g_aload_n (pn := 51) K rfl 0 rfl dX9_back_50 ?_
            refine g_getr (pn := 54) (j := 18) K rfl fl_X9_65 lm_0 rfl dX9_back_51 ?_
            refine g_iload_n (pn := 55) K rfl 1 rfl dX9_back_54 ?_
            refine g_iald (pn := 56) K rfl lm_18 dX9_back_55 h (fun h => ?_)
            refine g_iast (pn := 57) K rfl lm_6 dX9_back_56 h (fun M10 h => ?_)
            refine g_aload_n (pn := 58) K rfl 0 rfl dX9_back_57 ?_
            refine g_getr (pn := 61) (j := 7) K rfl fl_X9_32 lm_0 rfl dX9_back_58 ?_
            refine g_iload_n (pn := 62) K rfl 1 rfl dX9_back_61 ?_
            refine g_aload_n (pn := 63) K rfl 0 rfl dX9_back_62 ?_
            refine g_getr (pn := 66) (j := 18) K rfl fl_X9_65 lm_0 rfl dX9_back_63 ?_
            refine g_bipush (pn := 68) (v := 6) K rfl bp_6 dX9_back_66 ?_
            refine g_iload_n (pn := 69) K rfl 1 rfl dX9_back_68 ?_
            refine g_iadd (pn := 70) K rfl dX9_back_69 ?_
            refine g_iald (pn := 71) K rfl lm_18 dX9_back_70 h (fun h => ?_)
            refine g_iast (pn := 72) K rfl lm_7 dX9_back_71 h (fun M11 h => ?_)
            refine g_aload_n (pn := 73) K rfl 0 rfl dX9_back_72 ?_
            refine g_getr (pn := 76) (j := 8) K rfl fl_X9_35 lm_0 rfl dX9_back_73 ?_
            refine g_iload_n (pn := 77) K rfl 1 rfl dX9_back_76 ?_
            refine g_aload_n (pn := 78) K rfl 0 rfl dX9_back_77 ?_
            refine g_getr (pn := 81) (j := 18) K rfl fl_X9_65 lm_0 rfl dX9_back_78 ?_
            refine g_bipush (pn := 83) (v := 12) K rfl bp_12 dX9_back_81 ?_
            refine g_iload_n (pn := 84) K rfl 1 rfl dX9_back_83 ?_
            refine g_iadd (pn := 85) K rfl dX9_back_84 ?_
            refine g_iald (pn := 86) K rfl lm_18 dX9_back_85 h (fun h => ?_)
            refine g_iast (pn := 87) K rfl lm_8 dX9_back_86 h (fun M12 h => ?_)
            obtain ⟨v13, ev13, h⟩ := bnd_e h
            refine g_iinc (pn := 90) (v := v13) (lv' := [(1, .int v13), (0, .ref (X.2.2.2.1 0))]) K rfl 1 rfl ii_1 ev13 dX9_back_87 (Nat.le_of_ble_eq_true rfl) rfl ?_
            refine g_goto (tgt := 39) K (by decide) dX9_back_90 ?_
            refine g_sub [1, 0] rfl ?_
            exact ih9 _ _ h
      refine g_sub [1, 0] rfl ?_
      exact LP39 FU _ _ h
    have LP13 : ∀ (fu16 : Nat) (v14 : Int32) (M15 : Mem), m_back_L13 j2 fu16 v14 M15 = some (M', r) → G layM X Γ 2 (QM layM X Γ (some (.int r)) M') 13 [(0, .ref (X.2.2.2.1 0)), (1, .int v14)] [] M15 := by
      intro fu16
      induction fu16 with
      | zero =>
        intro v14 M15 h
        rw [m_back_L13] at h
        cases h
      | succ fu16 ih16 =>
        intro v14 M15 h
        rw [m_back_L13] at h
        refine g_iload_n (pn := 14) K rfl 1 rfl dX9_back_13 ?_
        refine g_bipush (pn := 16) (v := 6) K rfl bp_6 dX9_back_14 ?_
        refine g_icmp_ge (tgt := 37) (pn := 19) K rfl (by decide) dX9_back_16 h (fun h => ?_) (fun h => ?_)
        · refine g_sub [0] rfl ?_
          exact hj2 _ h
        · refine g_aload_n (pn := 20) K rfl 0 rfl dX9_back_19 ?_
          refine g_getr (pn := 23) (j := 4) K rfl fl_X9_23 lm_0 rfl dX9_back_20 ?_
          refine g_iload_n (pn := 24) K rfl 1 rfl dX9_back_23 ?_
          refine g_aload_n (pn := 25) K rfl 0 rfl dX9_back_24 ?_
          refine g_getr (pn := 28) (j := 17) K rfl fl_X9_62 lm_0 rfl dX9_back_25 ?_
          refine g_iload_n (pn := 29) K rfl 1 rfl dX9_back_28 ?_
          refine g_iald (pn := 30) K rfl lm_17 dX9_back_29 h (fun h => ?_)
          refine g_iast (pn := 31) K rfl lm_4 dX9_back_30 h (fun M17 h => ?_)
          obtain ⟨v18, ev18, h⟩ := bnd_e h
          refine g_iinc (pn := 34) (v := v18) (lv' := [(1, .int v18), (0, .ref (X.2.2.2.1 0))]) K rfl 1 rfl ii_1 ev18 dX9_back_31 (Nat.le_of_ble_eq_true rfl) rfl ?_
          refine g_goto (tgt := 13) K (by decide) dX9_back_34 ?_
          refine g_sub [1, 0] rfl ?_
          exact ih16 _ _ h
    refine g_sub [1, 0] rfl ?_
    exact LP13 FU _ _ h
  · refine g_bipush (pn := 10) (v := (-3)) K rfl bp_m3 dX9_back_8 ?_
    exact g_iret K dX9_back_10 (oi2 h).2 (oi2 h).1
set_option maxHeartbeats 4000000 in
set_option maxRecDepth 20000 in
theorem w_m_count {X : XT} {M : Mem} {a1 : Int32} {r : Int32}   (h : m_count M a1 = some r) : CT layM X 1 yX9_count cX9_count 2 (some .int) [.ref (X.2.2.2.1 0), .int a1] M M (some (.int r)) := by
  refine CT.of rfl (Nat.le_of_ble_eq_true rfl) (lv := [(0, .ref (X.2.2.2.1 0)), (1, .int a1)]) rfl (fun Γ K => ?_)
  have K : Kx layM X Γ RX9 cX9_count 2 1 (some .int) := K
  unfold m_count at h
  refine g_iload_n (pn := 1) K rfl 1 rfl dX9_count_0 ?_
  refine g_i2l (pn := 2) K rfl dX9_count_1 ?_
  refine g_lconst (pn := 3) (v := 0) K rfl lc_0 dX9_count_2 ?_
  refine g_ldc2 (pn := 6) (v := 9) K rfl cl_X9_106 dX9_count_3 ?_
  obtain ⟨v2, hc1, h⟩ := ob_e h
  refine g_callS1 (pn := 9) (As := [.long a1.toInt64, .long 0, .long 9]) (rest := []) K rfl (d' := 0) (Nat.le_of_ble_eq_true rfl) ms_X9_94 (w_m_in hc1) rfl rfl (Nat.le_of_ble_eq_true rfl) dX9_count_6 ?_
  refine g_ifB_ne (tgt := 15) (pn := 12) K rfl (by decide) dX9_count_9 h (fun h => ?_) (fun h => ?_)
  · refine g_iload_n (pn := 16) K rfl 1 rfl dX9_count_15 ?_
    refine g_if_ne (tgt := 24) (pn := 19) K rfl (by decide) dX9_count_16 h (fun h => ?_) (fun h => ?_)
    · refine g_iload_n (pn := 25) K rfl 1 rfl dX9_count_24 ?_
      refine g_bipush (pn := 27) (v := 7) K rfl bp_7 dX9_count_25 ?_
      refine g_icmp_ge (tgt := 41) (pn := 30) K rfl (by decide) dX9_count_27 h (fun h => ?_) (fun h => ?_)
      · refine g_iload_n (pn := 42) K rfl 1 rfl dX9_count_41 ?_
        refine g_bipush (pn := 44) (v := 7) K rfl bp_7 dX9_count_42 ?_
        refine g_icmp_ne (tgt := 54) (pn := 47) K rfl (by decide) dX9_count_44 h (fun h => ?_) (fun h => ?_)
        · refine g_iload_n (pn := 55) K rfl 1 rfl dX9_count_54 ?_
          refine g_bipush (pn := 57) (v := 8) K rfl bp_8 dX9_count_55 ?_
          refine g_icmp_ne (tgt := 67) (pn := 60) K rfl (by decide) dX9_count_57 h (fun h => ?_) (fun h => ?_)
          · refine g_aload_n (pn := 68) K rfl 0 rfl dX9_count_67 ?_
            refine g_geti (pn := 71) K rfl fl_X9_242 lm_0 rfl dX9_count_68 ?_
            exact g_iret K dX9_count_71 (oi h) rfl
          · refine g_aload_n (pn := 61) K rfl 0 rfl dX9_count_60 ?_
            refine g_geti (pn := 64) K rfl fl_X9_124 lm_0 rfl dX9_count_61 ?_
            refine g_goto (tgt := 71) K (by decide) dX9_count_64 ?_
            exact g_iret K dX9_count_71 (oi h) rfl
        · refine g_aload_n (pn := 48) K rfl 0 rfl dX9_count_47 ?_
          refine g_geti (pn := 51) K rfl fl_X9_88 lm_0 rfl dX9_count_48 ?_
          refine g_goto (tgt := 71) K (by decide) dX9_count_51 ?_
          exact g_iret K dX9_count_71 (oi h) rfl
      · refine g_aload_n (pn := 31) K rfl 0 rfl dX9_count_30 ?_
        refine g_getr (pn := 34) (j := 4) K rfl fl_X9_23 lm_0 rfl dX9_count_31 ?_
        refine g_iload_n (pn := 35) K rfl 1 rfl dX9_count_34 ?_
        refine g_iconst (pn := 36) (v := 1) K rfl ic_1 dX9_count_35 ?_
        refine g_isub (pn := 37) K rfl dX9_count_36 ?_
        refine g_iald (pn := 38) K rfl lm_4 dX9_count_37 h (fun h => ?_)
        refine g_goto (tgt := 71) K (by decide) dX9_count_38 ?_
        exact g_iret K dX9_count_71 (oi h) rfl
    · refine g_aload_n (pn := 20) K rfl 0 rfl dX9_count_19 ?_
      refine g_geti (pn := 23) K rfl fl_X9_91 lm_0 rfl dX9_count_20 ?_
      exact g_iret K dX9_count_23 (oi h) rfl
  · refine g_bipush (pn := 14) (v := (-2)) K rfl bp_m2 dX9_count_12 ?_
    exact g_iret K dX9_count_14 (oi h) rfl
set_option maxHeartbeats 4000000 in
set_option maxRecDepth 20000 in
theorem w_m_cell {X : XT} {M : Mem} {a1 : Int32} {a2 : Int32} {a3 : Int32} {M' : Mem} {r : Int32}   (h : m_cell M a1 a2 a3 = some (M', r)) : CT layM X 2 yX9_cell cX9_cell 4 (some .int) [.ref (X.2.2.2.1 0), .int a1, .int a2, .int a3] M M' (some (.int r)) := by
  refine CT.of rfl (Nat.le_of_ble_eq_true rfl) (lv := [(0, .ref (X.2.2.2.1 0)), (1, .int a1), (2, .int a2), (3, .int a3)]) rfl (fun Γ K => ?_)
  have K : Kx layM X Γ RX9 cX9_cell 4 2 (some .int) := K
  unfold m_cell at h
  refine g_iload_n (pn := 1) K rfl 1 rfl dX9_cell_0 ?_
  obtain ⟨v2, hc1, h⟩ := ob_e h
  refine g_callS1 (pn := 4) (As := [.int a1]) (rest := []) K rfl (d' := 1) (Nat.le_of_ble_eq_true rfl) ms_X9_303 (w_m_isSheet hc1) rfl rfl (Nat.le_of_ble_eq_true rfl) dX9_cell_1 ?_
  refine g_ifB_ne (tgt := 10) (pn := 7) K rfl (by decide) dX9_cell_4 h (fun h => ?_) (fun h => ?_)
  · refine g_aload_n (pn := 11) K rfl 0 rfl dX9_cell_10 ?_
    refine g_getr (pn := 14) (j := 19) K rfl fl_X9_71 lm_0 rfl dX9_cell_11 ?_
    refine g_iload_n (pn := 15) K rfl 1 rfl dX9_cell_14 ?_
    refine g_zald (pn := 16) K rfl lm_19 dX9_cell_15 h (fun h => ?_)
    refine g_if_ne (tgt := 22) (pn := 19) K rfl (by decide) dX9_cell_16 h (fun h => ?_) (fun h => ?_)
    · refine g_iload_n (pn := 23) K rfl 2 rfl dX9_cell_22 ?_
      refine g_i2l (pn := 24) K rfl dX9_cell_23 ?_
      refine g_lconst (pn := 25) (v := 0) K rfl lc_0 dX9_cell_24 ?_
      refine g_aload_n (pn := 26) K rfl 0 rfl dX9_cell_25 ?_
      refine g_getr (pn := 29) (j := 21) K rfl fl_X9_78 lm_0 rfl dX9_cell_26 ?_
      refine g_iload_n (pn := 30) K rfl 1 rfl dX9_cell_29 ?_
      refine g_iald (pn := 31) K rfl lm_21 dX9_cell_30 h (fun h => ?_)
      refine g_iconst (pn := 32) (v := 1) K rfl ic_1 dX9_cell_31 ?_
      refine g_isub (pn := 33) K rfl dX9_cell_32 ?_
      refine g_i2l (pn := 34) K rfl dX9_cell_33 ?_
      obtain ⟨v4, hc3, h⟩ := ob_e h
      refine g_callS1 (pn := 37) (As := [.long a2.toInt64, .long 0, .long ((M 21 a1.toNatClampNeg) - 1).toInt64]) (rest := []) K rfl (d' := 0) (Nat.le_of_ble_eq_true rfl) ms_X9_94 (w_m_in hc3) rfl rfl (Nat.le_of_ble_eq_true rfl) dX9_cell_34 ?_
      refine g_ifB_ne (tgt := 43) (pn := 40) K rfl (by decide) dX9_cell_37 h (fun h => ?_) (fun h => ?_)
      · refine g_aload_n (pn := 44) K rfl 0 rfl dX9_cell_43 ?_
        refine g_getr (pn := 47) (j := 22) K rfl fl_X9_81 lm_0 rfl dX9_cell_44 ?_
        refine g_bipush (pn := 49) (v := 40) K rfl bp_40 dX9_cell_47 ?_
        refine g_iload_n (pn := 50) K rfl 1 rfl dX9_cell_49 ?_
        refine g_imul (pn := 51) K rfl dX9_cell_50 ?_
        refine g_iload_n (pn := 52) K rfl 2 rfl dX9_cell_51 ?_
        refine g_iadd (pn := 53) K rfl dX9_cell_52 ?_
        refine g_aload_n (pn := 54) K rfl 0 rfl dX9_cell_53 ?_
        refine g_getr (pn := 57) (j := 20) K rfl fl_X9_75 lm_0 rfl dX9_cell_54 ?_
        refine g_iload_n (pn := 58) K rfl 1 rfl dX9_cell_57 ?_
        refine g_iald (pn := 59) K rfl lm_20 dX9_cell_58 h (fun h => ?_)
        refine jp_e1 h (fun v5 => G layM X Γ 4 (QM layM X Γ (some (.int r)) M') 83 [] [.int v5, .int ((40 * a1) + a2), .ref (X.2.2.2.1 22)] M) (fun v5 h => ?_) (fun j6 hj6 h => ?_)
        · refine g_iast (pn := 84) K rfl lm_22 dX9_cell_83 h (fun M7 h => ?_)
          refine g_iconst (pn := 85) (v := 1) K rfl ic_1 dX9_cell_84 ?_
          exact g_iret K dX9_cell_85 (oi2 h).2 (oi2 h).1
        refine g_if_ne (tgt := 67) (pn := 62) K rfl (by decide) dX9_cell_59 h (fun h => ?_) (fun h => ?_)
        · refine g_aload_n (pn := 68) K rfl 0 rfl dX9_cell_67 ?_
          refine g_getr (pn := 71) (j := 20) K rfl fl_X9_75 lm_0 rfl dX9_cell_68 ?_
          refine g_iload_n (pn := 72) K rfl 1 rfl dX9_cell_71 ?_
          refine g_iald (pn := 73) K rfl lm_20 dX9_cell_72 h (fun h => ?_)
          refine g_iconst (pn := 74) (v := 1) K rfl ic_1 dX9_cell_73 ?_
          refine g_icmp_ne (tgt := 82) (pn := 77) K rfl (by decide) dX9_cell_74 h (fun h => ?_) (fun h => ?_)
          · refine g_iload_n (pn := 83) K rfl 3 rfl dX9_cell_82 ?_
            refine g_sub [] rfl ?_
            exact hj6 _ h
          · refine g_iload_n (pn := 78) K rfl 3 rfl dX9_cell_77 ?_
            refine g_i2s (pn := 79) K rfl dX9_cell_78 ?_
            refine g_goto (tgt := 83) K (by decide) dX9_cell_79 ?_
            refine g_sub [] rfl ?_
            exact hj6 _ h
        · refine g_iload_n (pn := 63) K rfl 3 rfl dX9_cell_62 ?_
          refine g_i2b (pn := 64) K rfl dX9_cell_63 ?_
          refine g_goto (tgt := 83) K (by decide) dX9_cell_64 ?_
          refine g_sub [] rfl ?_
          exact hj6 _ h
      · refine g_bipush (pn := 42) (v := (-12)) K rfl bp_m12 dX9_cell_40 ?_
        exact g_iret K dX9_cell_42 (oi2 h).2 (oi2 h).1
    · refine g_bipush (pn := 21) (v := (-11)) K rfl bp_m11 dX9_cell_19 ?_
      exact g_iret K dX9_cell_21 (oi2 h).2 (oi2 h).1
  · refine g_bipush (pn := 9) (v := (-2)) K rfl bp_m2 dX9_cell_7 ?_
    exact g_iret K dX9_cell_9 (oi2 h).2 (oi2 h).1
set_option maxHeartbeats 4000000 in
set_option maxRecDepth 20000 in
theorem w_m_copy {X : XT} {M : Mem} {a1 : Int32} {a2 : Int32} {a3 : Int32} {a4 : Int32} {a5 : Int32} {M' : Mem} {r : Int32}   (h : m_copy M a1 a2 a3 a4 a5 = some (M', r)) : CT layM X 2 yX9_copy cX9_copy 9 (some .int) [.ref (X.2.2.2.1 0), .int a1, .int a2, .int a3, .int a4, .int a5] M M' (some (.int r)) := by
  refine CT.of rfl (Nat.le_of_ble_eq_true rfl) (lv := [(0, .ref (X.2.2.2.1 0)), (1, .int a1), (2, .int a2), (3, .int a3), (4, .int a4), (5, .int a5)]) rfl (fun Γ K => ?_)
  have K : Kx layM X Γ RX9 cX9_copy 9 2 (some .int) := K
  unfold m_copy at h
  refine g_iload_n (pn := 1) K rfl 1 rfl dX9_copy_0 ?_
  obtain ⟨v2, hc1, h⟩ := ob_e h
  refine g_callS1 (pn := 4) (As := [.int a1]) (rest := []) K rfl (d' := 1) (Nat.le_of_ble_eq_true rfl) ms_X9_303 (w_m_isSheet hc1) rfl rfl (Nat.le_of_ble_eq_true rfl) dX9_copy_1 ?_
  refine g_ifB_eq (tgt := 14) (pn := 7) K rfl (by decide) dX9_copy_4 h (fun h => ?_) (fun h => ?_)
  · refine g_bipush (pn := 16) (v := (-2)) K rfl bp_m2 dX9_copy_14 ?_
    exact g_iret K dX9_copy_16 (oi2 h).2 (oi2 h).1
  · refine g_iload_n (pn := 8) K rfl 3 rfl dX9_copy_7 ?_
    obtain ⟨v4, hc3, h⟩ := ob_e h
    refine g_callS1 (pn := 11) (As := [.int a3]) (rest := []) K rfl (d' := 1) (Nat.le_of_ble_eq_true rfl) ms_X9_303 (w_m_isSheet hc3) rfl rfl (Nat.le_of_ble_eq_true rfl) dX9_copy_8 ?_
    refine g_ifB_ne (tgt := 17) (pn := 14) K rfl (by decide) dX9_copy_11 h (fun h => ?_) (fun h => ?_)
    · refine g_aload_n (pn := 18) K rfl 0 rfl dX9_copy_17 ?_
      refine g_getr (pn := 21) (j := 19) K rfl fl_X9_71 lm_0 rfl dX9_copy_18 ?_
      refine g_iload_n (pn := 22) K rfl 1 rfl dX9_copy_21 ?_
      refine g_zald (pn := 23) K rfl lm_19 dX9_copy_22 h (fun h => ?_)
      refine g_if_eq (tgt := 35) (pn := 26) K rfl (by decide) dX9_copy_23 h (fun h => ?_) (fun h => ?_)
      · refine g_bipush (pn := 37) (v := (-11)) K rfl bp_m11 dX9_copy_35 ?_
        exact g_iret K dX9_copy_37 (oi2 h).2 (oi2 h).1
      · refine g_aload_n (pn := 27) K rfl 0 rfl dX9_copy_26 ?_
        refine g_getr (pn := 30) (j := 19) K rfl fl_X9_71 lm_0 rfl dX9_copy_27 ?_
        refine g_iload_n (pn := 31) K rfl 3 rfl dX9_copy_30 ?_
        refine g_zald (pn := 32) K rfl lm_19 dX9_copy_31 h (fun h => ?_)
        refine g_if_ne (tgt := 38) (pn := 35) K rfl (by decide) dX9_copy_32 h (fun h => ?_) (fun h => ?_)
        · refine g_aload_n (pn := 39) K rfl 0 rfl dX9_copy_38 ?_
          refine g_getr (pn := 42) (j := 20) K rfl fl_X9_75 lm_0 rfl dX9_copy_39 ?_
          refine g_iload_n (pn := 43) K rfl 1 rfl dX9_copy_42 ?_
          refine g_iald (pn := 44) K rfl lm_20 dX9_copy_43 h (fun h => ?_)
          refine g_aload_n (pn := 45) K rfl 0 rfl dX9_copy_44 ?_
          refine g_getr (pn := 48) (j := 20) K rfl fl_X9_75 lm_0 rfl dX9_copy_45 ?_
          refine g_iload_n (pn := 49) K rfl 3 rfl dX9_copy_48 ?_
          refine g_iald (pn := 50) K rfl lm_20 dX9_copy_49 h (fun h => ?_)
          refine g_icmp_eq (tgt := 56) (pn := 53) K rfl (by decide) dX9_copy_50 h (fun h => ?_) (fun h => ?_)
          · refine g_iload (pn := 58) K rfl 5 rfl dX9_copy_56 ?_
            refine g_if_lt (tgt := 97) (pn := 61) K rfl (by decide) dX9_copy_58 h (fun h => ?_) (fun h => ?_)
            · refine g_bipush (pn := 99) (v := (-12)) K rfl bp_m12 dX9_copy_97 ?_
              exact g_iret K dX9_copy_99 (oi2 h).2 (oi2 h).1
            · refine g_iload_n (pn := 62) K rfl 2 rfl dX9_copy_61 ?_
              refine g_if_lt (tgt := 97) (pn := 65) K rfl (by decide) dX9_copy_62 h (fun h => ?_) (fun h => ?_)
              · refine g_bipush (pn := 99) (v := (-12)) K rfl bp_m12 dX9_copy_97 ?_
                exact g_iret K dX9_copy_99 (oi2 h).2 (oi2 h).1
              · refine g_iload (pn := 67) K rfl 4 rfl dX9_copy_65 ?_
                refine g_if_lt (tgt := 97) (pn := 70) K rfl (by decide) dX9_copy_67 h (fun h => ?_) (fun h => ?_)
                · refine g_bipush (pn := 99) (v := (-12)) K rfl bp_m12 dX9_copy_97 ?_
                  exact g_iret K dX9_copy_99 (oi2 h).2 (oi2 h).1
                · refine g_iload_n (pn := 71) K rfl 2 rfl dX9_copy_70 ?_
                  refine g_aload_n (pn := 72) K rfl 0 rfl dX9_copy_71 ?_
                  refine g_getr (pn := 75) (j := 21) K rfl fl_X9_78 lm_0 rfl dX9_copy_72 ?_
                  refine g_iload_n (pn := 76) K rfl 1 rfl dX9_copy_75 ?_
                  refine g_iald (pn := 77) K rfl lm_21 dX9_copy_76 h (fun h => ?_)
                  refine g_iload (pn := 79) K rfl 5 rfl dX9_copy_77 ?_
                  refine g_isub (pn := 80) K rfl dX9_copy_79 ?_
                  refine g_icmp_gt (tgt := 97) (pn := 83) K rfl (by decide) dX9_copy_80 h (fun h => ?_) (fun h => ?_)
                  · refine g_bipush (pn := 99) (v := (-12)) K rfl bp_m12 dX9_copy_97 ?_
                    exact g_iret K dX9_copy_99 (oi2 h).2 (oi2 h).1
                  · refine g_iload (pn := 85) K rfl 4 rfl dX9_copy_83 ?_
                    refine g_aload_n (pn := 86) K rfl 0 rfl dX9_copy_85 ?_
                    refine g_getr (pn := 89) (j := 21) K rfl fl_X9_78 lm_0 rfl dX9_copy_86 ?_
                    refine g_iload_n (pn := 90) K rfl 3 rfl dX9_copy_89 ?_
                    refine g_iald (pn := 91) K rfl lm_21 dX9_copy_90 h (fun h => ?_)
                    refine g_iload (pn := 93) K rfl 5 rfl dX9_copy_91 ?_
                    refine g_isub (pn := 94) K rfl dX9_copy_93 ?_
                    refine g_icmp_le (tgt := 100) (pn := 97) K rfl (by decide) dX9_copy_94 h (fun h => ?_) (fun h => ?_)
                    · refine g_iload_n (pn := 101) K rfl 1 rfl dX9_copy_100 ?_
                      refine g_iload_n (pn := 102) K rfl 3 rfl dX9_copy_101 ?_
                      refine jp_e1 h (fun v5 => G layM X Γ 9 (QM layM X Γ (some (.int r)) M') 116 [(0, .ref (X.2.2.2.1 0)), (1, .int a1), (2, .int a2), (3, .int a3), (4, .int a4), (5, .int a5)] [.int v5] M) (fun v5 h => ?_) (fun j6 hj6 h => ?_)
                      · refine g_istore (pn := 118) (lv' := [(6, .int v5), (0, .ref (X.2.2.2.1 0)), (1, .int a1), (2, .int a2), (3, .int a3), (4, .int a4), (5, .int a5)]) K rfl dX9_copy_116 (Nat.le_of_ble_eq_true rfl) rfl ?_
                        refine g_iconst (pn := 119) (v := 0) K rfl ic_0 dX9_copy_118 ?_
                        refine g_istore (pn := 121) (lv' := [(7, .int 0), (6, .int v5), (0, .ref (X.2.2.2.1 0)), (1, .int a1), (2, .int a2), (3, .int a3), (4, .int a4), (5, .int a5)]) K rfl dX9_copy_119 (Nat.le_of_ble_eq_true rfl) rfl ?_
                        refine jp_e1 h (fun M7 => G layM X Γ 9 (QM layM X Γ (some (.int r)) M') 182 [(5, .int a5)] [] M7) (fun M7 h => ?_) (fun j8 hj8 h => ?_)
                        · refine g_iload (pn := 184) K rfl 0 rfl dX9_copy_182 ?_
                          exact g_iret K dX9_copy_184 (oi2 h).2 (oi2 h).1
                        have LP121 : ∀ (fu11 : Nat) (v9 : Int32) (M10 : Mem), m_copy_L121 a1 a2 a3 a4 a5 v5 j8 fu11 v9 M10 = some (M', r) → G layM X Γ 9 (QM layM X Γ (some (.int r)) M') 121 [(6, .int v5), (0, .ref (X.2.2.2.1 0)), (1, .int a1), (2, .int a2), (3, .int a3), (4, .int a4), (5, .int a5), (7, .int v9)] [] M10 := by
                          intro fu11
                          induction fu11 with
                          | zero =>
                            intro v9 M10 h
                            rw [m_copy_L121] at h
                            cases h
                          | succ fu11 ih11 =>
                            intro v9 M10 h
                            rw [m_copy_L121] at h
                            refine g_iload (pn := 123) K rfl 7 rfl dX9_copy_121 ?_
                            refine g_iload (pn := 125) K rfl 6 rfl dX9_copy_123 ?_
                            refine g_icmp_ge (tgt := 182) (pn := 128) K rfl (by decide) dX9_copy_125 h (fun h => ?_) (fun h => ?_)
                            · refine g_sub [6] rfl ?_
                              exact hj8 _ h
                            · refine g_iload (pn := 130) K rfl 0 rfl dX9_copy_128 ?_
                              refine jp_e1 h (fun v12 => G layM X Γ 9 (QM layM X Γ (some (.int r)) M') 145 [(6, .int v5), (0, .ref (X.2.2.2.1 0)), (1, .int a1), (2, .int a2), (3, .int a3), (4, .int a4), (5, .int a5), (7, .int v9)] [.int v12] M10) (fun v12 h => ?_) (fun j13 hj13 h => ?_)
                              · refine g_istore (pn := 147) (lv' := [(8, .int v12), (6, .int v5), (0, .ref (X.2.2.2.1 0)), (1, .int a1), (2, .int a2), (3, .int a3), (4, .int a4), (5, .int a5), (7, .int v9)]) K rfl dX9_copy_145 (Nat.le_of_ble_eq_true rfl) rfl ?_
                                refine g_aload_n (pn := 148) K rfl 2 rfl dX9_copy_147 ?_
                                refine g_getr (pn := 151) (j := 22) K rfl fl_X9_81 lm_0 rfl dX9_copy_148 ?_
                                refine g_bipush (pn := 153) (v := 40) K rfl bp_40 dX9_copy_151 ?_
                                refine g_iload_n (pn := 154) K rfl 5 rfl dX9_copy_153 ?_
                                refine g_imul (pn := 155) K rfl dX9_copy_154 ?_
                                refine g_iload (pn := 157) K rfl 6 rfl dX9_copy_155 ?_
                                refine g_iadd (pn := 158) K rfl dX9_copy_157 ?_
                                refine g_iload (pn := 160) K rfl 0 rfl dX9_copy_158 ?_
                                refine g_iadd (pn := 161) K rfl dX9_copy_160 ?_
                                refine g_aload_n (pn := 162) K rfl 2 rfl dX9_copy_161 ?_
                                refine g_getr (pn := 165) (j := 22) K rfl fl_X9_81 lm_0 rfl dX9_copy_162 ?_
                                refine g_bipush (pn := 167) (v := 40) K rfl bp_40 dX9_copy_165 ?_
                                refine g_iload_n (pn := 168) K rfl 3 rfl dX9_copy_167 ?_
                                refine g_imul (pn := 169) K rfl dX9_copy_168 ?_
                                refine g_iload_n (pn := 170) K rfl 4 rfl dX9_copy_169 ?_
                                refine g_iadd (pn := 171) K rfl dX9_copy_170 ?_
                                refine g_iload (pn := 173) K rfl 0 rfl dX9_copy_171 ?_
                                refine g_iadd (pn := 174) K rfl dX9_copy_173 ?_
                                refine g_iald (pn := 175) K rfl lm_22 dX9_copy_174 h (fun h => ?_)
                                refine g_iast (pn := 176) K rfl lm_22 dX9_copy_175 h (fun M14 h => ?_)
                                obtain ⟨v15, ev15, h⟩ := bnd_e h
                                refine g_iinc (pn := 179) (v := v15) (lv' := [(7, .int v15), (8, .int v12), (6, .int v5), (0, .ref (X.2.2.2.1 0)), (1, .int a1), (2, .int a2), (3, .int a3), (4, .int a4), (5, .int a5)]) K rfl 8 rfl ii_1 ev15 dX9_copy_176 (Nat.le_of_ble_eq_true rfl) rfl ?_
                                refine g_goto (tgt := 121) K (by decide) dX9_copy_179 ?_
                                refine g_sub [2, 3, 4, 5, 6, 7, 8, 0] rfl ?_
                                exact ih11 _ _ h
                              refine g_if_eq (tgt := 143) (pn := 133) K rfl (by decide) dX9_copy_130 h (fun h => ?_) (fun h => ?_)
                              · refine g_iload (pn := 145) K rfl 7 rfl dX9_copy_143 ?_
                                exact hj13 _ h
                              · refine g_iload (pn := 135) K rfl 6 rfl dX9_copy_133 ?_
                                refine g_iconst (pn := 136) (v := 1) K rfl ic_1 dX9_copy_135 ?_
                                refine g_isub (pn := 137) K rfl dX9_copy_136 ?_
                                refine g_iload (pn := 139) K rfl 7 rfl dX9_copy_137 ?_
                                refine g_isub (pn := 140) K rfl dX9_copy_139 ?_
                                refine g_goto (tgt := 145) K (by decide) dX9_copy_140 ?_
                                exact hj13 _ h
                        refine g_sub [1, 2, 3, 4, 5, 6, 7, 0] rfl ?_
                        exact LP121 FU _ _ h
                      refine jp_e1 h (fun u16 => G layM X Γ 9 (QM layM X Γ (some (.int r)) M') 115 [(0, .ref (X.2.2.2.1 0)), (1, .int a1), (2, .int a2), (3, .int a3), (4, .int a4), (5, .int a5)] [] M) (fun u16 h => ?_) (fun j17 hj17 h => ?_)
                      · refine g_iconst (pn := 116) (v := 0) K rfl ic_0 dX9_copy_115 ?_
                        exact hj6 _ h
                      refine g_icmp_ne (tgt := 115) (pn := 105) K rfl (by decide) dX9_copy_102 h (fun h => ?_) (fun h => ?_)
                      · exact hj17 _ h
                      · refine g_iload_n (pn := 106) K rfl 2 rfl dX9_copy_105 ?_
                        refine g_iload (pn := 108) K rfl 4 rfl dX9_copy_106 ?_
                        refine g_icmp_ge (tgt := 115) (pn := 111) K rfl (by decide) dX9_copy_108 h (fun h => ?_) (fun h => ?_)
                        · exact hj17 _ h
                        · refine g_iconst (pn := 112) (v := 1) K rfl ic_1 dX9_copy_111 ?_
                          refine g_goto (tgt := 116) K (by decide) dX9_copy_112 ?_
                          exact hj6 _ h
                    · refine g_bipush (pn := 99) (v := (-12)) K rfl bp_m12 dX9_copy_97 ?_
                      exact g_iret K dX9_copy_99 (oi2 h).2 (oi2 h).1
          · refine g_bipush (pn := 55) (v := (-13)) K rfl bp_m13 dX9_copy_53 ?_
            exact g_iret K dX9_copy_55 (oi2 h).2 (oi2 h).1
        · refine g_bipush (pn := 37) (v := (-11)) K rfl bp_m11 dX9_copy_35 ?_
          exact g_iret K dX9_copy_37 (oi2 h).2 (oi2 h).1
    · refine g_bipush (pn := 16) (v := (-2)) K rfl bp_m2 dX9_copy_14 ?_
      exact g_iret K dX9_copy_16 (oi2 h).2 (oi2 h).1
set_option maxHeartbeats 4000000 in
set_option maxRecDepth 20000 in
theorem w_m_walls {X : XT} {M : Mem} {a1 : Int32} {a2 : Int32} {a3 : Int32} {a4 : Int32} {M' : Mem} {r : Int32}   (h : m_walls M a1 a2 a3 a4 = some (M', r)) : CT layM X 2 yX9_walls cX9_walls 8 (some .int) [.ref (X.2.2.2.1 0), .int a1, .int a2, .int a3, .int a4] M M' (some (.int r)) := by
  refine CT.of rfl (Nat.le_of_ble_eq_true rfl) (lv := [(0, .ref (X.2.2.2.1 0)), (1, .int a1), (2, .int a2), (3, .int a3), (4, .int a4)]) rfl (fun Γ K => ?_)
  have K : Kx layM X Γ RX9 cX9_walls 8 2 (some .int) := K
  unfold m_walls at h
  refine g_iload_n (pn := 1) K rfl 1 rfl dX9_walls_0 ?_
  obtain ⟨v2, hc1, h⟩ := ob_e h
  refine g_callS1 (pn := 4) (As := [.int a1]) (rest := []) K rfl (d' := 1) (Nat.le_of_ble_eq_true rfl) ms_X9_303 (w_m_isSheet hc1) rfl rfl (Nat.le_of_ble_eq_true rfl) dX9_walls_1 ?_
  refine g_ifB_eq (tgt := 32) (pn := 7) K rfl (by decide) dX9_walls_4 h (fun h => ?_) (fun h => ?_)
  · refine g_bipush (pn := 34) (v := (-2)) K rfl bp_m2 dX9_walls_32 ?_
    exact g_iret K dX9_walls_34 (oi2 h).2 (oi2 h).1
  · refine g_iload_n (pn := 8) K rfl 2 rfl dX9_walls_7 ?_
    refine g_i2l (pn := 9) K rfl dX9_walls_8 ?_
    refine g_lconst (pn := 10) (v := 0) K rfl lc_0 dX9_walls_9 ?_
    refine g_ldc2 (pn := 13) (v := 2) K rfl cl_X9_322 dX9_walls_10 ?_
    obtain ⟨v4, hc3, h⟩ := ob_e h
    refine g_callS1 (pn := 16) (As := [.long a2.toInt64, .long 0, .long 2]) (rest := []) K rfl (d' := 0) (Nat.le_of_ble_eq_true rfl) ms_X9_94 (w_m_in hc3) rfl rfl (Nat.le_of_ble_eq_true rfl) dX9_walls_13 ?_
    refine g_ifB_eq (tgt := 32) (pn := 19) K rfl (by decide) dX9_walls_16 h (fun h => ?_) (fun h => ?_)
    · refine g_bipush (pn := 34) (v := (-2)) K rfl bp_m2 dX9_walls_32 ?_
      exact g_iret K dX9_walls_34 (oi2 h).2 (oi2 h).1
    · refine g_iload (pn := 21) K rfl 4 rfl dX9_walls_19 ?_
      refine g_i2l (pn := 22) K rfl dX9_walls_21 ?_
      refine g_lconst (pn := 23) (v := 0) K rfl lc_0 dX9_walls_22 ?_
      refine g_ldc2 (pn := 26) (v := 6) K rfl cl_X9_110 dX9_walls_23 ?_
      obtain ⟨v6, hc5, h⟩ := ob_e h
      refine g_callS1 (pn := 29) (As := [.long a4.toInt64, .long 0, .long 6]) (rest := []) K rfl (d' := 0) (Nat.le_of_ble_eq_true rfl) ms_X9_94 (w_m_in hc5) rfl rfl (Nat.le_of_ble_eq_true rfl) dX9_walls_26 ?_
      refine g_ifB_ne (tgt := 35) (pn := 32) K rfl (by decide) dX9_walls_29 h (fun h => ?_) (fun h => ?_)
      · refine g_aload_n (pn := 36) K rfl 0 rfl dX9_walls_35 ?_
        refine g_getr (pn := 39) (j := 19) K rfl fl_X9_71 lm_0 rfl dX9_walls_36 ?_
        refine g_iload_n (pn := 40) K rfl 1 rfl dX9_walls_39 ?_
        refine g_zald (pn := 41) K rfl lm_19 dX9_walls_40 h (fun h => ?_)
        refine jp_e1 h (fun u7 => G layM X Γ 8 (QM layM X Γ (some (.int r)) M') 57 [(0, .ref (X.2.2.2.1 0)), (1, .int a1), (3, .int a3), (4, .int a4)] [] M) (fun u7 h => ?_) (fun j8 hj8 h => ?_)
        · refine g_aload_n (pn := 58) K rfl 0 rfl dX9_walls_57 ?_
          refine g_getr (pn := 61) (j := 19) K rfl fl_X9_71 lm_0 rfl dX9_walls_58 ?_
          refine g_iload_n (pn := 62) K rfl 1 rfl dX9_walls_61 ?_
          refine g_zald (pn := 63) K rfl lm_19 dX9_walls_62 h (fun h => ?_)
          refine g_if_ne (tgt := 69) (pn := 66) K rfl (by decide) dX9_walls_63 h (fun h => ?_) (fun h => ?_)
          · refine g_iconst (pn := 70) (v := 0) K rfl ic_0 dX9_walls_69 ?_
            refine g_istore (pn := 72) (lv' := [(5, .int 0), (0, .ref (X.2.2.2.1 0)), (1, .int a1), (3, .int a3), (4, .int a4)]) K rfl dX9_walls_70 (Nat.le_of_ble_eq_true rfl) rfl ?_
            refine g_iconst (pn := 73) (v := 0) K rfl ic_0 dX9_walls_72 ?_
            refine g_istore (pn := 75) (lv' := [(6, .int 0), (5, .int 0), (0, .ref (X.2.2.2.1 0)), (1, .int a1), (3, .int a3), (4, .int a4)]) K rfl dX9_walls_73 (Nat.le_of_ble_eq_true rfl) rfl ?_
            refine jp_e2 h (fun v9 M10 => G layM X Γ 8 (QM layM X Γ (some (.int r)) M') 167 [(5, .int v9)] [] M10) (fun v9 M10 h => ?_) (fun j11 hj11 h => ?_)
            · refine g_iload (pn := 169) K rfl 0 rfl dX9_walls_167 ?_
              exact g_iret K dX9_walls_169 (oi2 h).2 (oi2 h).1
            have LP75 : ∀ (fu15 : Nat) (v12 : Int32) (v13 : Int32) (M14 : Mem), m_walls_L75 a1 a3 a4 j11 fu15 v12 v13 M14 = some (M', r) → G layM X Γ 8 (QM layM X Γ (some (.int r)) M') 75 [(0, .ref (X.2.2.2.1 0)), (1, .int a1), (3, .int a3), (4, .int a4), (5, .int v12), (6, .int v13)] [] M14 := by
              intro fu15
              induction fu15 with
              | zero =>
                intro v12 v13 M14 h
                rw [m_walls_L75] at h
                cases h
              | succ fu15 ih15 =>
                intro v12 v13 M14 h
                rw [m_walls_L75] at h
                refine g_iload (pn := 77) K rfl 5 rfl dX9_walls_75 ?_
                refine g_iload (pn := 79) K rfl 3 rfl dX9_walls_77 ?_
                refine g_icmp_ge (tgt := 167) (pn := 82) K rfl (by decide) dX9_walls_79 h (fun h => ?_) (fun h => ?_)
                · refine g_sub [4] rfl ?_
                  exact hj11 _ _ h
                · refine g_iload_n (pn := 83) K rfl 2 rfl dX9_walls_82 ?_
                  refine g_if_lt (tgt := 103) (pn := 86) K rfl (by decide) dX9_walls_83 h (fun h => ?_) (fun h => ?_)
                  · refine g_bipush (pn := 105) (v := (-12)) K rfl bp_m12 dX9_walls_103 ?_
                    exact g_iret K dX9_walls_105 (oi2 h).2 (oi2 h).1
                  · refine g_iload_n (pn := 87) K rfl 2 rfl dX9_walls_86 ?_
                    refine g_aload_n (pn := 88) K rfl 0 rfl dX9_walls_87 ?_
                    refine g_getr (pn := 91) (j := 21) K rfl fl_X9_78 lm_0 rfl dX9_walls_88 ?_
                    refine g_iload_n (pn := 92) K rfl 1 rfl dX9_walls_91 ?_
                    refine g_iald (pn := 93) K rfl lm_21 dX9_walls_92 h (fun h => ?_)
                    refine g_iconst (pn := 94) (v := 3) K rfl ic_3 dX9_walls_93 ?_
                    refine g_iload (pn := 96) K rfl 5 rfl dX9_walls_94 ?_
                    refine g_imul (pn := 97) K rfl dX9_walls_96 ?_
                    refine g_isub (pn := 98) K rfl dX9_walls_97 ?_
                    refine g_iconst (pn := 99) (v := 3) K rfl ic_3 dX9_walls_98 ?_
                    refine g_isub (pn := 100) K rfl dX9_walls_99 ?_
                    refine g_icmp_le (tgt := 106) (pn := 103) K rfl (by decide) dX9_walls_100 h (fun h => ?_) (fun h => ?_)
                    · refine g_bipush (pn := 108) (v := 40) K rfl bp_40 dX9_walls_106 ?_
                      refine g_iload_n (pn := 109) K rfl 1 rfl dX9_walls_108 ?_
                      refine g_imul (pn := 110) K rfl dX9_walls_109 ?_
                      refine g_iload_n (pn := 111) K rfl 2 rfl dX9_walls_110 ?_
                      refine g_iadd (pn := 112) K rfl dX9_walls_111 ?_
                      refine g_iconst (pn := 113) (v := 3) K rfl ic_3 dX9_walls_112 ?_
                      refine g_iload (pn := 115) K rfl 5 rfl dX9_walls_113 ?_
                      refine g_imul (pn := 116) K rfl dX9_walls_115 ?_
                      refine g_iadd (pn := 117) K rfl dX9_walls_116 ?_
                      refine g_nmi h (fun v16 h => ?_)
                      refine g_istore (pn := 119) (lv' := [(7, .int v16), (0, .ref (X.2.2.2.1 0)), (1, .int a1), (3, .int a3), (4, .int a4), (5, .int v12), (6, .int v13)]) K rfl dX9_walls_117 (Nat.le_of_ble_eq_true rfl) rfl ?_
                      refine g_iload (pn := 121) K rfl 5 rfl dX9_walls_119 ?_
                      refine g_aload_n (pn := 122) K rfl 1 rfl dX9_walls_121 ?_
                      refine g_aload_n (pn := 123) K rfl 1 rfl dX9_walls_122 ?_
                      refine g_getr (pn := 126) (j := 22) K rfl fl_X9_81 lm_0 rfl dX9_walls_123 ?_
                      refine g_iload (pn := 128) K rfl 0 rfl dX9_walls_126 ?_
                      refine g_iald (pn := 129) K rfl lm_22 dX9_walls_128 h (fun h => ?_)
                      refine g_aload_n (pn := 130) K rfl 1 rfl dX9_walls_129 ?_
                      refine g_getr (pn := 133) (j := 22) K rfl fl_X9_81 lm_0 rfl dX9_walls_130 ?_
                      refine g_iload (pn := 135) K rfl 0 rfl dX9_walls_133 ?_
                      refine g_iconst (pn := 136) (v := 1) K rfl ic_1 dX9_walls_135 ?_
                      refine g_iadd (pn := 137) K rfl dX9_walls_136 ?_
                      refine g_iald (pn := 138) K rfl lm_22 dX9_walls_137 h (fun h => ?_)
                      refine g_aload_n (pn := 139) K rfl 1 rfl dX9_walls_138 ?_
                      refine g_getr (pn := 142) (j := 22) K rfl fl_X9_81 lm_0 rfl dX9_walls_139 ?_
                      refine g_iload (pn := 144) K rfl 0 rfl dX9_walls_142 ?_
                      refine g_iconst (pn := 145) (v := 2) K rfl ic_2 dX9_walls_144 ?_
                      refine g_iadd (pn := 146) K rfl dX9_walls_145 ?_
                      refine g_iald (pn := 147) K rfl lm_22 dX9_walls_146 h (fun h => ?_)
                      obtain ⟨M18, v19, hc17, h⟩ := ob2_e h
                      refine g_callV1 (pn := 150) (As := [.int (M14 22 v16.toNatClampNeg), .int (M14 22 (v16 + 1).toNatClampNeg), .int (M14 22 (v16 + 2).toNatClampNeg)]) (rest := [.int v12]) (a := 0) K rfl (d' := 1) (Nat.le_of_ble_eq_true rfl) mv_X9_364 (recvO K lm_0 rfl) (w_m_wall hc17) rfl rfl (Nat.le_of_ble_eq_true rfl) dX9_walls_147 ?_
                      refine jp_e1 h (fun v20 => G layM X Γ 8 (QM layM X Γ (some (.int r)) M') 158 [(0, .ref (X.2.2.2.1 0)), (1, .int a1), (3, .int a3), (4, .int a4), (6, .int v13)] [.int v20, .int v12] M18) (fun v20 h => ?_) (fun j21 hj21 h => ?_)
                      · refine g_iadd (pn := 159) K rfl dX9_walls_158 ?_
                        refine g_nmi h (fun v22 h => ?_)
                        refine g_istore (pn := 161) (lv' := [(5, .int v22), (0, .ref (X.2.2.2.1 0)), (1, .int a1), (3, .int a3), (4, .int a4), (6, .int v13)]) K rfl dX9_walls_159 (Nat.le_of_ble_eq_true rfl) rfl ?_
                        obtain ⟨v23, ev23, h⟩ := bnd_e h
                        refine g_iinc (pn := 164) (v := v23) (lv' := [(6, .int v23), (5, .int v22), (0, .ref (X.2.2.2.1 0)), (1, .int a1), (3, .int a3), (4, .int a4)]) K rfl 5 rfl ii_1 ev23 dX9_walls_161 (Nat.le_of_ble_eq_true rfl) rfl ?_
                        refine g_goto (tgt := 75) K (by decide) dX9_walls_164 ?_
                        refine g_sub [2, 3, 4, 5, 1, 0] rfl ?_
                        exact ih15 _ _ _ h
                      refine g_if_lt (tgt := 157) (pn := 153) K rfl (by decide) dX9_walls_150 h (fun h => ?_) (fun h => ?_)
                      · refine g_iconst (pn := 158) (v := 0) K rfl ic_0 dX9_walls_157 ?_
                        refine g_sub [1, 2, 3, 4, 6] rfl ?_
                        exact hj21 _ h
                      · refine g_iconst (pn := 154) (v := 1) K rfl ic_1 dX9_walls_153 ?_
                        refine g_goto (tgt := 158) K (by decide) dX9_walls_154 ?_
                        refine g_sub [1, 2, 3, 4, 6] rfl ?_
                        exact hj21 _ h
                    · refine g_bipush (pn := 105) (v := (-12)) K rfl bp_m12 dX9_walls_103 ?_
                      exact g_iret K dX9_walls_105 (oi2 h).2 (oi2 h).1
            refine g_sub [2, 3, 4, 5, 1, 0] rfl ?_
            exact LP75 FU _ _ _ h
          · refine g_bipush (pn := 68) (v := (-11)) K rfl bp_m11 dX9_walls_66 ?_
            exact g_iret K dX9_walls_68 (oi2 h).2 (oi2 h).1
        refine g_if_eq (tgt := 57) (pn := 44) K rfl (by decide) dX9_walls_41 h (fun h => ?_) (fun h => ?_)
        · refine g_sub [0, 1, 3, 4] rfl ?_
          exact hj8 _ h
        · refine g_aload_n (pn := 45) K rfl 0 rfl dX9_walls_44 ?_
          refine g_getr (pn := 48) (j := 20) K rfl fl_X9_75 lm_0 rfl dX9_walls_45 ?_
          refine g_iload_n (pn := 49) K rfl 1 rfl dX9_walls_48 ?_
          refine g_iald (pn := 50) K rfl lm_20 dX9_walls_49 h (fun h => ?_)
          refine g_iload_n (pn := 51) K rfl 2 rfl dX9_walls_50 ?_
          refine g_icmp_eq (tgt := 57) (pn := 54) K rfl (by decide) dX9_walls_51 h (fun h => ?_) (fun h => ?_)
          · refine g_sub [0, 1, 3, 4] rfl ?_
            exact hj8 _ h
          · refine g_bipush (pn := 56) (v := (-13)) K rfl bp_m13 dX9_walls_54 ?_
            exact g_iret K dX9_walls_56 (oi2 h).2 (oi2 h).1
      · refine g_bipush (pn := 34) (v := (-2)) K rfl bp_m2 dX9_walls_32 ?_
        exact g_iret K dX9_walls_34 (oi2 h).2 (oi2 h).1
set_option maxHeartbeats 4000000 in
set_option maxRecDepth 20000 in
theorem w_m_over {X : XT} {M : Mem} {a1 : Int32} {r : Int32}   (h : m_over a1 = some r) : CT layM X 0 yX9_over cX9_over 1 (some .int) [.int a1] M M (some (.int r)) := by
  refine CT.of rfl (Nat.le_of_ble_eq_true rfl) (lv := [(0, .int a1)]) rfl (fun Γ K => ?_)
  have K : Kx layM X Γ RX9 cX9_over 1 0 (some .int) := K
  unfold m_over at h
  refine g_iload_n (pn := 1) K rfl 0 rfl dX9_over_0 ?_
  refine g_if_ne (tgt := 8) (pn := 4) K rfl (by decide) dX9_over_1 h (fun h => ?_) (fun h => ?_)
  · refine g_iload_n (pn := 9) K rfl 0 rfl dX9_over_8 ?_
    refine g_iconst (pn := 10) (v := 3) K rfl ic_3 dX9_over_9 ?_
    refine g_icmp_ne (tgt := 17) (pn := 13) K rfl (by decide) dX9_over_10 h (fun h => ?_) (fun h => ?_)
    · refine g_iload_n (pn := 18) K rfl 0 rfl dX9_over_17 ?_
      refine g_iconst (pn := 19) (v := 4) K rfl ic_4 dX9_over_18 ?_
      refine g_icmp_ne (tgt := 26) (pn := 22) K rfl (by decide) dX9_over_19 h (fun h => ?_) (fun h => ?_)
      · refine g_iconst (pn := 27) (v := 0) K rfl ic_0 dX9_over_26 ?_
        exact g_iret K dX9_over_27 (oi h) rfl
      · refine g_iconst (pn := 23) (v := 2) K rfl ic_2 dX9_over_22 ?_
        refine g_goto (tgt := 27) K (by decide) dX9_over_23 ?_
        exact g_iret K dX9_over_27 (oi h) rfl
    · refine g_iconst (pn := 14) (v := 1) K rfl ic_1 dX9_over_13 ?_
      refine g_goto (tgt := 27) K (by decide) dX9_over_14 ?_
      exact g_iret K dX9_over_27 (oi h) rfl
  · refine g_iconst (pn := 5) (v := (-1)) K rfl ic_m1 dX9_over_4 ?_
    refine g_goto (tgt := 27) K (by decide) dX9_over_5 ?_
    exact g_iret K dX9_over_27 (oi h) rfl
set_option maxHeartbeats 4000000 in
set_option maxRecDepth 20000 in
theorem w_m_taken {X : XT} {M : Mem} {a1 : Int32} {a2 : Int32} {r : Int32}   (h : m_taken M a1 a2 = some r) : CT layM X 2 yX9_taken cX9_taken 4 (some .int) [.ref (X.2.2.2.1 0), .int a1, .int a2] M M (some (.int r)) := by
  refine CT.of rfl (Nat.le_of_ble_eq_true rfl) (lv := [(0, .ref (X.2.2.2.1 0)), (1, .int a1), (2, .int a2)]) rfl (fun Γ K => ?_)
  have K : Kx layM X Γ RX9 cX9_taken 4 2 (some .int) := K
  unfold m_taken at h
  refine g_iload_n (pn := 1) K rfl 2 rfl dX9_taken_0 ?_
  refine g_i2l (pn := 2) K rfl dX9_taken_1 ?_
  refine g_lconst (pn := 3) (v := 0) K rfl lc_0 dX9_taken_2 ?_
  refine g_ldc2 (pn := 6) (v := 5) K rfl cl_X9_104 dX9_taken_3 ?_
  obtain ⟨v2, hc1, h⟩ := ob_e h
  refine g_callS1 (pn := 9) (As := [.long a2.toInt64, .long 0, .long 5]) (rest := []) K rfl (d' := 0) (Nat.le_of_ble_eq_true rfl) ms_X9_94 (w_m_in hc1) rfl rfl (Nat.le_of_ble_eq_true rfl) dX9_taken_6 ?_
  refine g_ifB_ne (tgt := 15) (pn := 12) K rfl (by decide) dX9_taken_9 h (fun h => ?_) (fun h => ?_)
  · refine g_aload_n (pn := 16) K rfl 0 rfl dX9_taken_15 ?_
    refine g_iload_n (pn := 17) K rfl 1 rfl dX9_taken_16 ?_
    obtain ⟨v4, hc3, h⟩ := ob_e h
    refine g_callV1 (pn := 20) (As := [.int a1]) (rest := []) (a := 0) K rfl (d' := 1) (Nat.le_of_ble_eq_true rfl) mv_X9_100 (recvO K lm_0 rfl) (w_m_isWall hc3) rfl rfl (Nat.le_of_ble_eq_true rfl) dX9_taken_17 ?_
    refine g_ifB_ne (tgt := 26) (pn := 23) K rfl (by decide) dX9_taken_20 h (fun h => ?_) (fun h => ?_)
    · refine g_aload_n (pn := 27) K rfl 0 rfl dX9_taken_26 ?_
      refine g_getr (pn := 30) (j := 5) K rfl fl_X9_26 lm_0 rfl dX9_taken_27 ?_
      refine g_iload_n (pn := 31) K rfl 1 rfl dX9_taken_30 ?_
      refine g_iald (pn := 32) K rfl lm_5 dX9_taken_31 h (fun h => ?_)
      refine g_nmi h (fun v5 h => ?_)
      refine g_istore_n (pn := 33) (lv' := [(3, .int v5), (0, .ref (X.2.2.2.1 0)), (1, .int a1), (2, .int a2)]) K rfl dX9_taken_32 rfl (Nat.le_of_ble_eq_true rfl) rfl ?_
      refine jp_e1 h (fun v6 => G layM X Γ 4 (QM layM X Γ (some (.int r)) M) 51 [(0, .ref (X.2.2.2.1 0)), (1, .int a1), (2, .int a2), (3, .int v6)] [] M) (fun v6 h => ?_) (fun j7 hj7 h => ?_)
      · refine g_iload_n (pn := 52) K rfl 3 rfl dX9_taken_51 ?_
        refine g_iload_n (pn := 53) K rfl 2 rfl dX9_taken_52 ?_
        refine g_icmp_ne (tgt := 65) (pn := 56) K rfl (by decide) dX9_taken_53 h (fun h => ?_) (fun h => ?_)
        · refine g_bipush (pn := 67) (v := (-13)) K rfl bp_m13 dX9_taken_65 ?_
          exact g_iret K dX9_taken_67 (oi h) rfl
        · refine g_aload_n (pn := 57) K rfl 0 rfl dX9_taken_56 ?_
          refine g_getr (pn := 60) (j := 6) K rfl fl_X9_29 lm_0 rfl dX9_taken_57 ?_
          refine g_iload_n (pn := 61) K rfl 1 rfl dX9_taken_60 ?_
          refine g_iald (pn := 62) K rfl lm_6 dX9_taken_61 h (fun h => ?_)
          refine g_goto (tgt := 67) K (by decide) dX9_taken_62 ?_
          exact g_iret K dX9_taken_67 (oi h) rfl
      have LP33 : ∀ (fu9 : Nat) (v8 : Int32), m_taken_L33 a2 j7 fu9 v8 = some r → G layM X Γ 4 (QM layM X Γ (some (.int r)) M) 33 [(0, .ref (X.2.2.2.1 0)), (1, .int a1), (2, .int a2), (3, .int v8)] [] M := by
        intro fu9
        induction fu9 with
        | zero =>
          intro v8 h
          rw [m_taken_L33] at h
          cases h
        | succ fu9 ih9 =>
          intro v8 h
          rw [m_taken_L33] at h
          refine g_iload_n (pn := 34) K rfl 3 rfl dX9_taken_33 ?_
          refine g_iconst (pn := 35) (v := (-1)) K rfl ic_m1 dX9_taken_34 ?_
          refine g_icmp_eq (tgt := 51) (pn := 38) K rfl (by decide) dX9_taken_35 h (fun h => ?_) (fun h => ?_)
          · exact hj7 _ h
          · refine g_iload_n (pn := 39) K rfl 3 rfl dX9_taken_38 ?_
            refine g_iload_n (pn := 40) K rfl 2 rfl dX9_taken_39 ?_
            refine g_icmp_eq (tgt := 51) (pn := 43) K rfl (by decide) dX9_taken_40 h (fun h => ?_) (fun h => ?_)
            · exact hj7 _ h
            · refine g_iload_n (pn := 44) K rfl 3 rfl dX9_taken_43 ?_
              obtain ⟨v11, hc10, h⟩ := ob_e h
              refine g_callS1 (pn := 47) (As := [.int v8]) (rest := []) K rfl (d' := 0) (Nat.le_of_ble_eq_true rfl) ms_X9_367 (w_m_over hc10) rfl rfl (Nat.le_of_ble_eq_true rfl) dX9_taken_44 ?_
              refine g_istore_n (pn := 48) (lv' := [(3, .int v11), (0, .ref (X.2.2.2.1 0)), (1, .int a1), (2, .int a2)]) K rfl dX9_taken_47 rfl (Nat.le_of_ble_eq_true rfl) rfl ?_
              refine g_goto (tgt := 33) K (by decide) dX9_taken_48 ?_
              refine g_sub [1, 2, 3, 0] rfl ?_
              exact ih9 _ h
      refine g_sub [1, 2, 3, 0] rfl ?_
      exact LP33 FU _ h
    · refine g_bipush (pn := 25) (v := (-11)) K rfl bp_m11 dX9_taken_23 ?_
      exact g_iret K dX9_taken_25 (oi h) rfl
  · refine g_bipush (pn := 14) (v := (-2)) K rfl bp_m2 dX9_taken_12 ?_
    exact g_iret K dX9_taken_14 (oi h) rfl
set_option maxHeartbeats 4000000 in
set_option maxRecDepth 20000 in
theorem w_m_spell {X : XT} {M : Mem} {a1 : Int32} {a2 : Int32} {a3 : Int32} {a4 : Int32} {a5 : Int32} {a6 : Int32} {a7 : Int32} {a8 : Int32} {a9 : Int32} {M' : Mem}   (h : m_spell M a1 a2 a3 a4 a5 a6 a7 a8 a9 = some M') : CT layM X 0 yX9_spell cX9_spell 10 none [.ref (X.2.2.2.1 0), .int a1, .int a2, .int a3, .int a4, .int a5, .int a6, .int a7, .int a8, .int a9] M M' none := by
  refine CT.of rfl (Nat.le_of_ble_eq_true rfl) (lv := [(0, .ref (X.2.2.2.1 0)), (1, .int a1), (2, .int a2), (3, .int a3), (4, .int a4), (5, .int a5), (6, .int a6), (7, .int a7), (8, .int a8), (9, .int a9)]) rfl (fun Γ K => ?_)
  have K : Kx layM X Γ RX9 cX9_spell 10 0 none := K
  unfold m_spell at h
  refine g_aload_n (pn := 1) K rfl 0 rfl dX9_spell_0 ?_
  refine g_getr (pn := 4) (j := 1) K rfl fl_X9_13 lm_0 rfl dX9_spell_1 ?_
  refine g_iload_n (pn := 5) K rfl 1 rfl dX9_spell_4 ?_
  refine g_iload_n (pn := 6) K rfl 2 rfl dX9_spell_5 ?_
  refine g_iast (pn := 7) K rfl lm_1 dX9_spell_6 h (fun M1 h => ?_)
  refine g_aload_n (pn := 8) K rfl 0 rfl dX9_spell_7 ?_
  refine g_getr (pn := 11) (j := 1) K rfl fl_X9_13 lm_0 rfl dX9_spell_8 ?_
  refine g_iload_n (pn := 12) K rfl 1 rfl dX9_spell_11 ?_
  refine g_iconst (pn := 13) (v := 1) K rfl ic_1 dX9_spell_12 ?_
  refine g_iadd (pn := 14) K rfl dX9_spell_13 ?_
  refine g_iload_n (pn := 15) K rfl 3 rfl dX9_spell_14 ?_
  refine g_iast (pn := 16) K rfl lm_1 dX9_spell_15 h (fun M2 h => ?_)
  refine g_aload_n (pn := 17) K rfl 0 rfl dX9_spell_16 ?_
  refine g_getr (pn := 20) (j := 1) K rfl fl_X9_13 lm_0 rfl dX9_spell_17 ?_
  refine g_iload_n (pn := 21) K rfl 1 rfl dX9_spell_20 ?_
  refine g_iconst (pn := 22) (v := 2) K rfl ic_2 dX9_spell_21 ?_
  refine g_iadd (pn := 23) K rfl dX9_spell_22 ?_
  refine g_iload (pn := 25) K rfl 4 rfl dX9_spell_23 ?_
  refine g_iast (pn := 26) K rfl lm_1 dX9_spell_25 h (fun M3 h => ?_)
  refine g_aload_n (pn := 27) K rfl 0 rfl dX9_spell_26 ?_
  refine g_getr (pn := 30) (j := 1) K rfl fl_X9_13 lm_0 rfl dX9_spell_27 ?_
  refine g_iload_n (pn := 31) K rfl 1 rfl dX9_spell_30 ?_
  refine g_iconst (pn := 32) (v := 3) K rfl ic_3 dX9_spell_31 ?_
  refine g_iadd (pn := 33) K rfl dX9_spell_32 ?_
  refine g_iload (pn := 35) K rfl 5 rfl dX9_spell_33 ?_
  refine g_iast (pn := 36) K rfl lm_1 dX9_spell_35 h (fun M4 h => ?_)
  refine g_aload_n (pn := 37) K rfl 0 rfl dX9_spell_36 ?_
  refine g_getr (pn := 40) (j := 1) K rfl fl_X9_13 lm_0 rfl dX9_spell_37 ?_
  refine g_iload_n (pn := 41) K rfl 1 rfl dX9_spell_40 ?_
  refine g_iconst (pn := 42) (v := 4) K rfl ic_4 dX9_spell_41 ?_
  refine g_iadd (pn := 43) K rfl dX9_spell_42 ?_
  refine g_iload (pn := 45) K rfl 6 rfl dX9_spell_43 ?_
  refine g_iast (pn := 46) K rfl lm_1 dX9_spell_45 h (fun M5 h => ?_)
  refine g_aload_n (pn := 47) K rfl 0 rfl dX9_spell_46 ?_
  refine g_getr (pn := 50) (j := 1) K rfl fl_X9_13 lm_0 rfl dX9_spell_47 ?_
  refine g_iload_n (pn := 51) K rfl 1 rfl dX9_spell_50 ?_
  refine g_iconst (pn := 52) (v := 5) K rfl ic_5 dX9_spell_51 ?_
  refine g_iadd (pn := 53) K rfl dX9_spell_52 ?_
  refine g_iload (pn := 55) K rfl 7 rfl dX9_spell_53 ?_
  refine g_iast (pn := 56) K rfl lm_1 dX9_spell_55 h (fun M6 h => ?_)
  refine g_aload_n (pn := 57) K rfl 0 rfl dX9_spell_56 ?_
  refine g_getr (pn := 60) (j := 1) K rfl fl_X9_13 lm_0 rfl dX9_spell_57 ?_
  refine g_iload_n (pn := 61) K rfl 1 rfl dX9_spell_60 ?_
  refine g_bipush (pn := 63) (v := 6) K rfl bp_6 dX9_spell_61 ?_
  refine g_iadd (pn := 64) K rfl dX9_spell_63 ?_
  refine g_iload (pn := 66) K rfl 8 rfl dX9_spell_64 ?_
  refine g_iast (pn := 67) K rfl lm_1 dX9_spell_66 h (fun M7 h => ?_)
  refine g_aload_n (pn := 68) K rfl 0 rfl dX9_spell_67 ?_
  refine g_getr (pn := 71) (j := 1) K rfl fl_X9_13 lm_0 rfl dX9_spell_68 ?_
  refine g_iload_n (pn := 72) K rfl 1 rfl dX9_spell_71 ?_
  refine g_bipush (pn := 74) (v := 7) K rfl bp_7 dX9_spell_72 ?_
  refine g_iadd (pn := 75) K rfl dX9_spell_74 ?_
  refine g_iload (pn := 77) K rfl 9 rfl dX9_spell_75 ?_
  refine g_iast (pn := 78) K rfl lm_1 dX9_spell_77 h (fun M8 h => ?_)
  exact g_vret K dX9_spell_78 (oi h)
