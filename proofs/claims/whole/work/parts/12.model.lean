/-! printed by gen1.py -/
theorem dX9_in_0 : decode cX9_in 0 = .ok (.lload_n 0, 1) := by decide +kernel
theorem dX9_in_1 : decode cX9_in 1 = .ok (.lload_n 2, 1) := by decide +kernel
theorem dX9_in_2 : decode cX9_in 2 = .ok (.lcmp, 1) := by decide +kernel
theorem dX9_in_3 : decode cX9_in 3 = .ok (.ifCond .lt 14, 3) := by decide +kernel
theorem dX9_in_6 : decode cX9_in 6 = .ok (.lload_n 0, 1) := by decide +kernel
theorem dX9_in_7 : decode cX9_in 7 = .ok (.lload 4, 2) := by decide +kernel
theorem dX9_in_9 : decode cX9_in 9 = .ok (.lcmp, 1) := by decide +kernel
theorem dX9_in_10 : decode cX9_in 10 = .ok (.ifCond .gt 7, 3) := by decide +kernel
theorem dX9_in_13 : decode cX9_in 13 = .ok (.iconst 1, 1) := by decide +kernel
theorem dX9_in_14 : decode cX9_in 14 = .ok (.goto 4, 3) := by decide +kernel
theorem dX9_in_17 : decode cX9_in 17 = .ok (.iconst 0, 1) := by decide +kernel
theorem dX9_in_18 : decode cX9_in 18 = .ok (.ireturn, 1) := by decide +kernel
theorem dX9_within_0 : decode cX9_within 0 = .ok (.iload_n 0, 1) := by decide +kernel
theorem dX9_within_1 : decode cX9_within 1 = .ok (.iload_n 1, 1) := by decide +kernel
theorem dX9_within_2 : decode cX9_within 2 = .ok (.if_icmp .ge 7, 3) := by decide +kernel
theorem dX9_within_5 : decode cX9_within 5 = .ok (.iload_n 1, 1) := by decide +kernel
theorem dX9_within_6 : decode cX9_within 6 = .ok (.goto 13, 3) := by decide +kernel
theorem dX9_within_9 : decode cX9_within 9 = .ok (.iload_n 0, 1) := by decide +kernel
theorem dX9_within_10 : decode cX9_within 10 = .ok (.iload_n 2, 1) := by decide +kernel
theorem dX9_within_11 : decode cX9_within 11 = .ok (.if_icmp .le 7, 3) := by decide +kernel
theorem dX9_within_14 : decode cX9_within 14 = .ok (.iload_n 2, 1) := by decide +kernel
theorem dX9_within_15 : decode cX9_within 15 = .ok (.goto 4, 3) := by decide +kernel
theorem dX9_within_18 : decode cX9_within 18 = .ok (.iload_n 0, 1) := by decide +kernel
theorem dX9_within_19 : decode cX9_within 19 = .ok (.ireturn, 1) := by decide +kernel
theorem dX9_bitsOf_0 : decode cX9_bitsOf 0 = .ok (.iconst 0, 1) := by decide +kernel
theorem dX9_bitsOf_1 : decode cX9_bitsOf 1 = .ok (.istore_n 1, 1) := by decide +kernel
theorem dX9_bitsOf_2 : decode cX9_bitsOf 2 = .ok (.iload_n 0, 1) := by decide +kernel
theorem dX9_bitsOf_3 : decode cX9_bitsOf 3 = .ok (.istore_n 2, 1) := by decide +kernel
theorem dX9_bitsOf_4 : decode cX9_bitsOf 4 = .ok (.iload_n 2, 1) := by decide +kernel
theorem dX9_bitsOf_5 : decode cX9_bitsOf 5 = .ok (.ifCond .eq 15, 3) := by decide +kernel
theorem dX9_bitsOf_8 : decode cX9_bitsOf 8 = .ok (.iinc 1 1, 3) := by decide +kernel
theorem dX9_bitsOf_11 : decode cX9_bitsOf 11 = .ok (.iload_n 2, 1) := by decide +kernel
theorem dX9_bitsOf_12 : decode cX9_bitsOf 12 = .ok (.iload_n 2, 1) := by decide +kernel
theorem dX9_bitsOf_13 : decode cX9_bitsOf 13 = .ok (.iconst 1, 1) := by decide +kernel
theorem dX9_bitsOf_14 : decode cX9_bitsOf 14 = .ok (.isub, 1) := by decide +kernel
theorem dX9_bitsOf_15 : decode cX9_bitsOf 15 = .ok (.iand, 1) := by decide +kernel
theorem dX9_bitsOf_16 : decode cX9_bitsOf 16 = .ok (.istore_n 2, 1) := by decide +kernel
theorem dX9_bitsOf_17 : decode cX9_bitsOf 17 = .ok (.goto (-13), 3) := by decide +kernel
theorem dX9_bitsOf_20 : decode cX9_bitsOf 20 = .ok (.iload_n 1, 1) := by decide +kernel
theorem dX9_bitsOf_21 : decode cX9_bitsOf 21 = .ok (.ireturn, 1) := by decide +kernel
theorem dX9_isWall_0 : decode cX9_isWall 0 = .ok (.iload_n 1, 1) := by decide +kernel
theorem dX9_isWall_1 : decode cX9_isWall 1 = .ok (.i2l, 1) := by decide +kernel
theorem dX9_isWall_2 : decode cX9_isWall 2 = .ok (.lconst 0, 1) := by decide +kernel
theorem dX9_isWall_3 : decode cX9_isWall 3 = .ok (.aload_n 0, 1) := by decide +kernel
theorem dX9_isWall_4 : decode cX9_isWall 4 = .ok (.getfield 91, 3) := by decide +kernel
theorem dX9_isWall_7 : decode cX9_isWall 7 = .ok (.iconst 1, 1) := by decide +kernel
theorem dX9_isWall_8 : decode cX9_isWall 8 = .ok (.isub, 1) := by decide +kernel
theorem dX9_isWall_9 : decode cX9_isWall 9 = .ok (.i2l, 1) := by decide +kernel
theorem dX9_isWall_10 : decode cX9_isWall 10 = .ok (.invokestatic 94, 3) := by decide +kernel
theorem dX9_isWall_13 : decode cX9_isWall 13 = .ok (.ireturn, 1) := by decide +kernel
theorem dX9_lastsOf_0 : decode cX9_lastsOf 0 = .ok (.aload_n 0, 1) := by decide +kernel
theorem dX9_lastsOf_1 : decode cX9_lastsOf 1 = .ok (.getfield 26, 3) := by decide +kernel
theorem dX9_lastsOf_4 : decode cX9_lastsOf 4 = .ok (.iload_n 1, 1) := by decide +kernel
theorem dX9_lastsOf_5 : decode cX9_lastsOf 5 = .ok (.iaload, 1) := by decide +kernel
theorem dX9_lastsOf_6 : decode cX9_lastsOf 6 = .ok (.istore_n 2, 1) := by decide +kernel
theorem dX9_lastsOf_7 : decode cX9_lastsOf 7 = .ok (.bipush 10, 2) := by decide +kernel
theorem dX9_lastsOf_9 : decode cX9_lastsOf 9 = .ok (.aload_n 0, 1) := by decide +kernel
theorem dX9_lastsOf_10 : decode cX9_lastsOf 10 = .ok (.getfield 29, 3) := by decide +kernel
theorem dX9_lastsOf_13 : decode cX9_lastsOf 13 = .ok (.iload_n 1, 1) := by decide +kernel
theorem dX9_lastsOf_14 : decode cX9_lastsOf 14 = .ok (.iaload, 1) := by decide +kernel
theorem dX9_lastsOf_15 : decode cX9_lastsOf 15 = .ok (.iconst 2, 1) := by decide +kernel
theorem dX9_lastsOf_16 : decode cX9_lastsOf 16 = .ok (.idiv, 1) := by decide +kernel
theorem dX9_lastsOf_17 : decode cX9_lastsOf 17 = .ok (.isub, 1) := by decide +kernel
theorem dX9_lastsOf_18 : decode cX9_lastsOf 18 = .ok (.istore_n 3, 1) := by decide +kernel
theorem dX9_lastsOf_19 : decode cX9_lastsOf 19 = .ok (.iload_n 2, 1) := by decide +kernel
theorem dX9_lastsOf_20 : decode cX9_lastsOf 20 = .ok (.iconst 1, 1) := by decide +kernel
theorem dX9_lastsOf_21 : decode cX9_lastsOf 21 = .ok (.if_icmp .ne 7, 3) := by decide +kernel
theorem dX9_lastsOf_24 : decode cX9_lastsOf 24 = .ok (.iload_n 3, 1) := by decide +kernel
theorem dX9_lastsOf_25 : decode cX9_lastsOf 25 = .ok (.goto 26, 3) := by decide +kernel
theorem dX9_lastsOf_28 : decode cX9_lastsOf 28 = .ok (.iload_n 2, 1) := by decide +kernel
theorem dX9_lastsOf_29 : decode cX9_lastsOf 29 = .ok (.iconst 3, 1) := by decide +kernel
theorem dX9_lastsOf_30 : decode cX9_lastsOf 30 = .ok (.if_icmp .ne 9, 3) := by decide +kernel
theorem dX9_lastsOf_33 : decode cX9_lastsOf 33 = .ok (.iload_n 3, 1) := by decide +kernel
theorem dX9_lastsOf_34 : decode cX9_lastsOf 34 = .ok (.iconst 2, 1) := by decide +kernel
theorem dX9_lastsOf_35 : decode cX9_lastsOf 35 = .ok (.isub, 1) := by decide +kernel
theorem dX9_lastsOf_36 : decode cX9_lastsOf 36 = .ok (.goto 15, 3) := by decide +kernel
theorem dX9_lastsOf_39 : decode cX9_lastsOf 39 = .ok (.iload_n 2, 1) := by decide +kernel
theorem dX9_lastsOf_40 : decode cX9_lastsOf 40 = .ok (.iconst 4, 1) := by decide +kernel
theorem dX9_lastsOf_41 : decode cX9_lastsOf 41 = .ok (.if_icmp .ne 8, 3) := by decide +kernel
theorem dX9_lastsOf_44 : decode cX9_lastsOf 44 = .ok (.bipush 15, 2) := by decide +kernel
theorem dX9_lastsOf_46 : decode cX9_lastsOf 46 = .ok (.goto 5, 3) := by decide +kernel
theorem dX9_lastsOf_49 : decode cX9_lastsOf 49 = .ok (.bipush 10, 2) := by decide +kernel
theorem dX9_lastsOf_51 : decode cX9_lastsOf 51 = .ok (.istore 4, 2) := by decide +kernel
theorem dX9_lastsOf_53 : decode cX9_lastsOf 53 = .ok (.iload 4, 2) := by decide +kernel
theorem dX9_lastsOf_55 : decode cX9_lastsOf 55 = .ok (.ifCond .ge 7, 3) := by decide +kernel
theorem dX9_lastsOf_58 : decode cX9_lastsOf 58 = .ok (.iconst 0, 1) := by decide +kernel
theorem dX9_lastsOf_59 : decode cX9_lastsOf 59 = .ok (.goto 5, 3) := by decide +kernel
theorem dX9_lastsOf_62 : decode cX9_lastsOf 62 = .ok (.iload 4, 2) := by decide +kernel
theorem dX9_lastsOf_64 : decode cX9_lastsOf 64 = .ok (.ireturn, 1) := by decide +kernel
theorem dX9_byteAt_0 : decode cX9_byteAt 0 = .ok (.iload_n 1, 1) := by decide +kernel
theorem dX9_byteAt_1 : decode cX9_byteAt 1 = .ok (.aload_n 0, 1) := by decide +kernel
theorem dX9_byteAt_2 : decode cX9_byteAt 2 = .ok (.getfield 127, 3) := by decide +kernel
theorem dX9_byteAt_5 : decode cX9_byteAt 5 = .ok (.if_icmp .ge 17, 3) := by decide +kernel
theorem dX9_byteAt_8 : decode cX9_byteAt 8 = .ok (.aload_n 0, 1) := by decide +kernel
theorem dX9_byteAt_9 : decode cX9_byteAt 9 = .ok (.getfield 13, 3) := by decide +kernel
theorem dX9_byteAt_12 : decode cX9_byteAt 12 = .ok (.aload_n 0, 1) := by decide +kernel
theorem dX9_byteAt_13 : decode cX9_byteAt 13 = .ok (.getfield 130, 3) := by decide +kernel
theorem dX9_byteAt_16 : decode cX9_byteAt 16 = .ok (.iload_n 1, 1) := by decide +kernel
theorem dX9_byteAt_17 : decode cX9_byteAt 17 = .ok (.iadd, 1) := by decide +kernel
theorem dX9_byteAt_18 : decode cX9_byteAt 18 = .ok (.iaload, 1) := by decide +kernel
theorem dX9_byteAt_19 : decode cX9_byteAt 19 = .ok (.goto 4, 3) := by decide +kernel
theorem dX9_byteAt_22 : decode cX9_byteAt 22 = .ok (.iconst (-1), 1) := by decide +kernel
theorem dX9_byteAt_23 : decode cX9_byteAt 23 = .ok (.ireturn, 1) := by decide +kernel
theorem dX9_next_0 : decode cX9_next 0 = .ok (.aload_n 0, 1) := by decide +kernel
theorem dX9_next_1 : decode cX9_next 1 = .ok (.aload_n 0, 1) := by decide +kernel
theorem dX9_next_2 : decode cX9_next 2 = .ok (.getfield 133, 3) := by decide +kernel
theorem dX9_next_5 : decode cX9_next 5 = .ok (.invokevirtual 136, 3) := by decide +kernel
theorem dX9_next_8 : decode cX9_next 8 = .ok (.bipush 32, 2) := by decide +kernel
theorem dX9_next_10 : decode cX9_next 10 = .ok (.if_icmp .eq 16, 3) := by decide +kernel
theorem dX9_next_13 : decode cX9_next 13 = .ok (.aload_n 0, 1) := by decide +kernel
theorem dX9_next_14 : decode cX9_next 14 = .ok (.aload_n 0, 1) := by decide +kernel
theorem dX9_next_15 : decode cX9_next 15 = .ok (.getfield 133, 3) := by decide +kernel
theorem dX9_next_18 : decode cX9_next 18 = .ok (.invokevirtual 136, 3) := by decide +kernel
theorem dX9_next_21 : decode cX9_next 21 = .ok (.bipush 10, 2) := by decide +kernel
theorem dX9_next_23 : decode cX9_next 23 = .ok (.if_icmp .ne 16, 3) := by decide +kernel
theorem dX9_next_26 : decode cX9_next 26 = .ok (.aload_n 0, 1) := by decide +kernel
theorem dX9_next_27 : decode cX9_next 27 = .ok (.dup, 1) := by decide +kernel
theorem dX9_next_28 : decode cX9_next 28 = .ok (.getfield 133, 3) := by decide +kernel
theorem dX9_next_31 : decode cX9_next 31 = .ok (.iconst 1, 1) := by decide +kernel
theorem dX9_next_32 : decode cX9_next 32 = .ok (.iadd, 1) := by decide +kernel
theorem dX9_next_33 : decode cX9_next 33 = .ok (.putfield 133, 3) := by decide +kernel
theorem dX9_next_36 : decode cX9_next 36 = .ok (.goto (-36), 3) := by decide +kernel
theorem dX9_next_39 : decode cX9_next 39 = .ok (.aload_n 0, 1) := by decide +kernel
theorem dX9_next_40 : decode cX9_next 40 = .ok (.aload_n 0, 1) := by decide +kernel
theorem dX9_next_41 : decode cX9_next 41 = .ok (.getfield 133, 3) := by decide +kernel
theorem dX9_next_44 : decode cX9_next 44 = .ok (.putfield 139, 3) := by decide +kernel
theorem dX9_next_47 : decode cX9_next 47 = .ok (.aload_n 0, 1) := by decide +kernel
theorem dX9_next_48 : decode cX9_next 48 = .ok (.aload_n 0, 1) := by decide +kernel
theorem dX9_next_49 : decode cX9_next 49 = .ok (.getfield 133, 3) := by decide +kernel
theorem dX9_next_52 : decode cX9_next 52 = .ok (.invokevirtual 136, 3) := by decide +kernel
theorem dX9_next_55 : decode cX9_next 55 = .ok (.istore_n 1, 1) := by decide +kernel
theorem dX9_next_56 : decode cX9_next 56 = .ok (.aload_n 0, 1) := by decide +kernel
theorem dX9_next_57 : decode cX9_next 57 = .ok (.iconst 4, 1) := by decide +kernel
theorem dX9_next_58 : decode cX9_next 58 = .ok (.putfield 142, 3) := by decide +kernel
theorem dX9_next_61 : decode cX9_next 61 = .ok (.iload_n 1, 1) := by decide +kernel
theorem dX9_next_62 : decode cX9_next 62 = .ok (.ifCond .ge 19, 3) := by decide +kernel
theorem dX9_next_65 : decode cX9_next 65 = .ok (.aload_n 0, 1) := by decide +kernel
theorem dX9_next_66 : decode cX9_next 66 = .ok (.iconst 0, 1) := by decide +kernel
theorem dX9_next_67 : decode cX9_next 67 = .ok (.putfield 142, 3) := by decide +kernel
theorem dX9_next_70 : decode cX9_next 70 = .ok (.aload_n 0, 1) := by decide +kernel
theorem dX9_next_71 : decode cX9_next 71 = .ok (.aload_n 0, 1) := by decide +kernel
theorem dX9_next_72 : decode cX9_next 72 = .ok (.getfield 127, 3) := by decide +kernel
theorem dX9_next_75 : decode cX9_next 75 = .ok (.putfield 139, 3) := by decide +kernel
theorem dX9_next_78 : decode cX9_next 78 = .ok (.goto 243, 3) := by decide +kernel
theorem dX9_next_81 : decode cX9_next 81 = .ok (.iload_n 1, 1) := by decide +kernel
theorem dX9_next_82 : decode cX9_next 82 = .ok (.i2l, 1) := by decide +kernel
theorem dX9_next_83 : decode cX9_next 83 = .ok (.ldc2_w 145, 3) := by decide +kernel
theorem dX9_next_86 : decode cX9_next 86 = .ok (.ldc2_w 147, 3) := by decide +kernel
theorem dX9_next_89 : decode cX9_next 89 = .ok (.invokestatic 94, 3) := by decide +kernel
theorem dX9_next_92 : decode cX9_next 92 = .ok (.ifCond .eq 42, 3) := by decide +kernel
theorem dX9_next_95 : decode cX9_next 95 = .ok (.aload_n 0, 1) := by decide +kernel
theorem dX9_next_96 : decode cX9_next 96 = .ok (.iconst 1, 1) := by decide +kernel
theorem dX9_next_97 : decode cX9_next 97 = .ok (.putfield 142, 3) := by decide +kernel
theorem dX9_next_100 : decode cX9_next 100 = .ok (.aload_n 0, 1) := by decide +kernel
theorem dX9_next_101 : decode cX9_next 101 = .ok (.aload_n 0, 1) := by decide +kernel
theorem dX9_next_102 : decode cX9_next 102 = .ok (.getfield 133, 3) := by decide +kernel
theorem dX9_next_105 : decode cX9_next 105 = .ok (.invokevirtual 136, 3) := by decide +kernel
theorem dX9_next_108 : decode cX9_next 108 = .ok (.i2l, 1) := by decide +kernel
theorem dX9_next_109 : decode cX9_next 109 = .ok (.ldc2_w 145, 3) := by decide +kernel
theorem dX9_next_112 : decode cX9_next 112 = .ok (.ldc2_w 147, 3) := by decide +kernel
theorem dX9_next_115 : decode cX9_next 115 = .ok (.invokestatic 94, 3) := by decide +kernel
theorem dX9_next_118 : decode cX9_next 118 = .ok (.ifCond .eq 203, 3) := by decide +kernel
theorem dX9_next_121 : decode cX9_next 121 = .ok (.aload_n 0, 1) := by decide +kernel
theorem dX9_next_122 : decode cX9_next 122 = .ok (.dup, 1) := by decide +kernel
theorem dX9_next_123 : decode cX9_next 123 = .ok (.getfield 133, 3) := by decide +kernel
theorem dX9_next_126 : decode cX9_next 126 = .ok (.iconst 1, 1) := by decide +kernel
theorem dX9_next_127 : decode cX9_next 127 = .ok (.iadd, 1) := by decide +kernel
theorem dX9_next_128 : decode cX9_next 128 = .ok (.putfield 133, 3) := by decide +kernel
theorem dX9_next_131 : decode cX9_next 131 = .ok (.goto (-31), 3) := by decide +kernel
theorem dX9_next_134 : decode cX9_next 134 = .ok (.iload_n 1, 1) := by decide +kernel
theorem dX9_next_135 : decode cX9_next 135 = .ok (.i2l, 1) := by decide +kernel
theorem dX9_next_136 : decode cX9_next 136 = .ok (.ldc2_w 149, 3) := by decide +kernel
theorem dX9_next_139 : decode cX9_next 139 = .ok (.ldc2_w 151, 3) := by decide +kernel
theorem dX9_next_142 : decode cX9_next 142 = .ok (.invokestatic 94, 3) := by decide +kernel
theorem dX9_next_145 : decode cX9_next 145 = .ok (.ifCond .eq 107, 3) := by decide +kernel
theorem dX9_next_148 : decode cX9_next 148 = .ok (.aload_n 0, 1) := by decide +kernel
theorem dX9_next_149 : decode cX9_next 149 = .ok (.iconst 2, 1) := by decide +kernel
theorem dX9_next_150 : decode cX9_next 150 = .ok (.putfield 142, 3) := by decide +kernel
theorem dX9_next_153 : decode cX9_next 153 = .ok (.aload_n 0, 1) := by decide +kernel
theorem dX9_next_154 : decode cX9_next 154 = .ok (.lconst 0, 1) := by decide +kernel
theorem dX9_next_155 : decode cX9_next 155 = .ok (.putfield 153, 3) := by decide +kernel
theorem dX9_next_158 : decode cX9_next 158 = .ok (.iconst 0, 1) := by decide +kernel
theorem dX9_next_159 : decode cX9_next 159 = .ok (.istore_n 2, 1) := by decide +kernel
theorem dX9_next_160 : decode cX9_next 160 = .ok (.aload_n 0, 1) := by decide +kernel
theorem dX9_next_161 : decode cX9_next 161 = .ok (.aload_n 0, 1) := by decide +kernel
theorem dX9_next_162 : decode cX9_next 162 = .ok (.getfield 133, 3) := by decide +kernel
theorem dX9_next_165 : decode cX9_next 165 = .ok (.invokevirtual 136, 3) := by decide +kernel
theorem dX9_next_168 : decode cX9_next 168 = .ok (.i2l, 1) := by decide +kernel
theorem dX9_next_169 : decode cX9_next 169 = .ok (.ldc2_w 149, 3) := by decide +kernel
theorem dX9_next_172 : decode cX9_next 172 = .ok (.ldc2_w 151, 3) := by decide +kernel
theorem dX9_next_175 : decode cX9_next 175 = .ok (.invokestatic 94, 3) := by decide +kernel
theorem dX9_next_178 : decode cX9_next 178 = .ok (.ifCond .eq 57, 3) := by decide +kernel
theorem dX9_next_181 : decode cX9_next 181 = .ok (.aload_n 0, 1) := by decide +kernel
theorem dX9_next_182 : decode cX9_next 182 = .ok (.iload_n 2, 1) := by decide +kernel
theorem dX9_next_183 : decode cX9_next 183 = .ok (.iconst 4, 1) := by decide +kernel
theorem dX9_next_184 : decode cX9_next 184 = .ok (.if_icmp .ge 28, 3) := by decide +kernel
theorem dX9_next_187 : decode cX9_next 187 = .ok (.ldc2_w 157, 3) := by decide +kernel
theorem dX9_next_190 : decode cX9_next 190 = .ok (.aload_n 0, 1) := by decide +kernel
theorem dX9_next_191 : decode cX9_next 191 = .ok (.getfield 153, 3) := by decide +kernel
theorem dX9_next_194 : decode cX9_next 194 = .ok (.lmul, 1) := by decide +kernel
theorem dX9_next_195 : decode cX9_next 195 = .ok (.aload_n 0, 1) := by decide +kernel
theorem dX9_next_196 : decode cX9_next 196 = .ok (.aload_n 0, 1) := by decide +kernel
theorem dX9_next_197 : decode cX9_next 197 = .ok (.getfield 133, 3) := by decide +kernel
theorem dX9_next_200 : decode cX9_next 200 = .ok (.invokevirtual 136, 3) := by decide +kernel
theorem dX9_next_203 : decode cX9_next 203 = .ok (.i2l, 1) := by decide +kernel
theorem dX9_next_204 : decode cX9_next 204 = .ok (.ladd, 1) := by decide +kernel
theorem dX9_next_205 : decode cX9_next 205 = .ok (.ldc2_w 149, 3) := by decide +kernel
theorem dX9_next_208 : decode cX9_next 208 = .ok (.lsub, 1) := by decide +kernel
theorem dX9_next_209 : decode cX9_next 209 = .ok (.goto 7, 3) := by decide +kernel
theorem dX9_next_212 : decode cX9_next 212 = .ok (.aload_n 0, 1) := by decide +kernel
theorem dX9_next_213 : decode cX9_next 213 = .ok (.getfield 153, 3) := by decide +kernel
theorem dX9_next_216 : decode cX9_next 216 = .ok (.putfield 153, 3) := by decide +kernel
theorem dX9_next_219 : decode cX9_next 219 = .ok (.iinc 2 1, 3) := by decide +kernel
theorem dX9_next_222 : decode cX9_next 222 = .ok (.aload_n 0, 1) := by decide +kernel
theorem dX9_next_223 : decode cX9_next 223 = .ok (.dup, 1) := by decide +kernel
theorem dX9_next_224 : decode cX9_next 224 = .ok (.getfield 133, 3) := by decide +kernel
theorem dX9_next_227 : decode cX9_next 227 = .ok (.iconst 1, 1) := by decide +kernel
theorem dX9_next_228 : decode cX9_next 228 = .ok (.iadd, 1) := by decide +kernel
theorem dX9_next_229 : decode cX9_next 229 = .ok (.putfield 133, 3) := by decide +kernel
theorem dX9_next_232 : decode cX9_next 232 = .ok (.goto (-72), 3) := by decide +kernel
theorem dX9_next_235 : decode cX9_next 235 = .ok (.aload_n 0, 1) := by decide +kernel
theorem dX9_next_236 : decode cX9_next 236 = .ok (.iload_n 2, 1) := by decide +kernel
theorem dX9_next_237 : decode cX9_next 237 = .ok (.iconst 4, 1) := by decide +kernel
theorem dX9_next_238 : decode cX9_next 238 = .ok (.if_icmp .le 7, 3) := by decide +kernel
theorem dX9_next_241 : decode cX9_next 241 = .ok (.iconst 4, 1) := by decide +kernel
theorem dX9_next_242 : decode cX9_next 242 = .ok (.goto 4, 3) := by decide +kernel
theorem dX9_next_245 : decode cX9_next 245 = .ok (.iconst 2, 1) := by decide +kernel
theorem dX9_next_246 : decode cX9_next 246 = .ok (.putfield 142, 3) := by decide +kernel
theorem dX9_next_249 : decode cX9_next 249 = .ok (.goto 72, 3) := by decide +kernel
theorem dX9_next_252 : decode cX9_next 252 = .ok (.iload_n 1, 1) := by decide +kernel
theorem dX9_next_253 : decode cX9_next 253 = .ok (.bipush 40, 2) := by decide +kernel
theorem dX9_next_255 : decode cX9_next 255 = .ok (.if_icmp .eq 45, 3) := by decide +kernel
theorem dX9_next_258 : decode cX9_next 258 = .ok (.iload_n 1, 1) := by decide +kernel
theorem dX9_next_259 : decode cX9_next 259 = .ok (.bipush 41, 2) := by decide +kernel
theorem dX9_next_261 : decode cX9_next 261 = .ok (.if_icmp .eq 39, 3) := by decide +kernel
theorem dX9_next_264 : decode cX9_next 264 = .ok (.iload_n 1, 1) := by decide +kernel
theorem dX9_next_265 : decode cX9_next 265 = .ok (.bipush 59, 2) := by decide +kernel
theorem dX9_next_267 : decode cX9_next 267 = .ok (.if_icmp .eq 33, 3) := by decide +kernel
theorem dX9_next_270 : decode cX9_next 270 = .ok (.iload_n 1, 1) := by decide +kernel
theorem dX9_next_271 : decode cX9_next 271 = .ok (.bipush 43, 2) := by decide +kernel
theorem dX9_next_273 : decode cX9_next 273 = .ok (.if_icmp .eq 27, 3) := by decide +kernel
theorem dX9_next_276 : decode cX9_next 276 = .ok (.iload_n 1, 1) := by decide +kernel
theorem dX9_next_277 : decode cX9_next 277 = .ok (.bipush 45, 2) := by decide +kernel
theorem dX9_next_279 : decode cX9_next 279 = .ok (.if_icmp .eq 21, 3) := by decide +kernel
theorem dX9_next_282 : decode cX9_next 282 = .ok (.iload_n 1, 1) := by decide +kernel
theorem dX9_next_283 : decode cX9_next 283 = .ok (.bipush 42, 2) := by decide +kernel
theorem dX9_next_285 : decode cX9_next 285 = .ok (.if_icmp .eq 15, 3) := by decide +kernel
theorem dX9_next_288 : decode cX9_next 288 = .ok (.iload_n 1, 1) := by decide +kernel
theorem dX9_next_289 : decode cX9_next 289 = .ok (.bipush 60, 2) := by decide +kernel
theorem dX9_next_291 : decode cX9_next 291 = .ok (.if_icmp .eq 9, 3) := by decide +kernel
theorem dX9_next_294 : decode cX9_next 294 = .ok (.iload_n 1, 1) := by decide +kernel
theorem dX9_next_295 : decode cX9_next 295 = .ok (.bipush 61, 2) := by decide +kernel
theorem dX9_next_297 : decode cX9_next 297 = .ok (.if_icmp .ne 24, 3) := by decide +kernel
theorem dX9_next_300 : decode cX9_next 300 = .ok (.aload_n 0, 1) := by decide +kernel
theorem dX9_next_301 : decode cX9_next 301 = .ok (.iconst 3, 1) := by decide +kernel
theorem dX9_next_302 : decode cX9_next 302 = .ok (.putfield 142, 3) := by decide +kernel
theorem dX9_next_305 : decode cX9_next 305 = .ok (.aload_n 0, 1) := by decide +kernel
theorem dX9_next_306 : decode cX9_next 306 = .ok (.iload_n 1, 1) := by decide +kernel
theorem dX9_next_307 : decode cX9_next 307 = .ok (.i2l, 1) := by decide +kernel
theorem dX9_next_308 : decode cX9_next 308 = .ok (.putfield 153, 3) := by decide +kernel
theorem dX9_next_311 : decode cX9_next 311 = .ok (.aload_n 0, 1) := by decide +kernel
theorem dX9_next_312 : decode cX9_next 312 = .ok (.dup, 1) := by decide +kernel
theorem dX9_next_313 : decode cX9_next 313 = .ok (.getfield 133, 3) := by decide +kernel
theorem dX9_next_316 : decode cX9_next 316 = .ok (.iconst 1, 1) := by decide +kernel
theorem dX9_next_317 : decode cX9_next 317 = .ok (.iadd, 1) := by decide +kernel
theorem dX9_next_318 : decode cX9_next 318 = .ok (.putfield 133, 3) := by decide +kernel
theorem dX9_next_321 : decode cX9_next 321 = .ok (.return_, 1) := by decide +kernel
theorem dX9_fail_0 : decode cX9_fail 0 = .ok (.aload_n 0, 1) := by decide +kernel
theorem dX9_fail_1 : decode cX9_fail 1 = .ok (.getfield 159, 3) := by decide +kernel
theorem dX9_fail_4 : decode cX9_fail 4 = .ok (.ifCond .ne 16, 3) := by decide +kernel
theorem dX9_fail_7 : decode cX9_fail 7 = .ok (.aload_n 0, 1) := by decide +kernel
theorem dX9_fail_8 : decode cX9_fail 8 = .ok (.iconst 1, 1) := by decide +kernel
theorem dX9_fail_9 : decode cX9_fail 9 = .ok (.putfield 159, 3) := by decide +kernel
theorem dX9_fail_12 : decode cX9_fail 12 = .ok (.aload_n 0, 1) := by decide +kernel
theorem dX9_fail_13 : decode cX9_fail 13 = .ok (.aload_n 0, 1) := by decide +kernel
theorem dX9_fail_14 : decode cX9_fail 14 = .ok (.getfield 139, 3) := by decide +kernel
theorem dX9_fail_17 : decode cX9_fail 17 = .ok (.putfield 163, 3) := by decide +kernel
theorem dX9_fail_20 : decode cX9_fail 20 = .ok (.return_, 1) := by decide +kernel
theorem dX9_isLetter_0 : decode cX9_isLetter 0 = .ok (.aload_n 0, 1) := by decide +kernel
theorem dX9_isLetter_1 : decode cX9_isLetter 1 = .ok (.getfield 139, 3) := by decide +kernel
theorem dX9_isLetter_4 : decode cX9_isLetter 4 = .ok (.iload_n 1, 1) := by decide +kernel
theorem dX9_isLetter_5 : decode cX9_isLetter 5 = .ok (.iadd, 1) := by decide +kernel
theorem dX9_isLetter_6 : decode cX9_isLetter 6 = .ok (.aload_n 0, 1) := by decide +kernel
theorem dX9_isLetter_7 : decode cX9_isLetter 7 = .ok (.getfield 133, 3) := by decide +kernel
theorem dX9_isLetter_10 : decode cX9_isLetter 10 = .ok (.if_icmp .ge 25, 3) := by decide +kernel
theorem dX9_isLetter_13 : decode cX9_isLetter 13 = .ok (.aload_n 0, 1) := by decide +kernel
theorem dX9_isLetter_14 : decode cX9_isLetter 14 = .ok (.aload_n 0, 1) := by decide +kernel
theorem dX9_isLetter_15 : decode cX9_isLetter 15 = .ok (.getfield 139, 3) := by decide +kernel
theorem dX9_isLetter_18 : decode cX9_isLetter 18 = .ok (.iload_n 1, 1) := by decide +kernel
theorem dX9_isLetter_19 : decode cX9_isLetter 19 = .ok (.iadd, 1) := by decide +kernel
theorem dX9_isLetter_20 : decode cX9_isLetter 20 = .ok (.invokevirtual 136, 3) := by decide +kernel
theorem dX9_isLetter_23 : decode cX9_isLetter 23 = .ok (.iload_n 2, 1) := by decide +kernel
theorem dX9_isLetter_24 : decode cX9_isLetter 24 = .ok (.if_icmp .ne 7, 3) := by decide +kernel
theorem dX9_isLetter_27 : decode cX9_isLetter 27 = .ok (.iconst 1, 1) := by decide +kernel
theorem dX9_isLetter_28 : decode cX9_isLetter 28 = .ok (.goto 16, 3) := by decide +kernel
theorem dX9_isLetter_31 : decode cX9_isLetter 31 = .ok (.iconst 0, 1) := by decide +kernel
theorem dX9_isLetter_32 : decode cX9_isLetter 32 = .ok (.goto 12, 3) := by decide +kernel
theorem dX9_isLetter_35 : decode cX9_isLetter 35 = .ok (.iload_n 2, 1) := by decide +kernel
theorem dX9_isLetter_36 : decode cX9_isLetter 36 = .ok (.ifCond .ne 7, 3) := by decide +kernel
theorem dX9_isLetter_39 : decode cX9_isLetter 39 = .ok (.iconst 1, 1) := by decide +kernel
theorem dX9_isLetter_40 : decode cX9_isLetter 40 = .ok (.goto 4, 3) := by decide +kernel
theorem dX9_isLetter_43 : decode cX9_isLetter 43 = .ok (.iconst 0, 1) := by decide +kernel
theorem dX9_isLetter_44 : decode cX9_isLetter 44 = .ok (.ireturn, 1) := by decide +kernel
theorem dX9_isWord_0 : decode cX9_isWord 0 = .ok (.aload_n 0, 1) := by decide +kernel
theorem dX9_isWord_1 : decode cX9_isWord 1 = .ok (.getfield 159, 3) := by decide +kernel
theorem dX9_isWord_4 : decode cX9_isWord 4 = .ok (.ifCond .ne 108, 3) := by decide +kernel
theorem dX9_isWord_7 : decode cX9_isWord 7 = .ok (.aload_n 0, 1) := by decide +kernel
theorem dX9_isWord_8 : decode cX9_isWord 8 = .ok (.getfield 142, 3) := by decide +kernel
theorem dX9_isWord_11 : decode cX9_isWord 11 = .ok (.iconst 1, 1) := by decide +kernel
theorem dX9_isWord_12 : decode cX9_isWord 12 = .ok (.if_icmp .ne 100, 3) := by decide +kernel
theorem dX9_isWord_15 : decode cX9_isWord 15 = .ok (.aload_n 0, 1) := by decide +kernel
theorem dX9_isWord_16 : decode cX9_isWord 16 = .ok (.getfield 133, 3) := by decide +kernel
theorem dX9_isWord_19 : decode cX9_isWord 19 = .ok (.aload_n 0, 1) := by decide +kernel
theorem dX9_isWord_20 : decode cX9_isWord 20 = .ok (.getfield 139, 3) := by decide +kernel
theorem dX9_isWord_23 : decode cX9_isWord 23 = .ok (.bipush 8, 2) := by decide +kernel
theorem dX9_isWord_25 : decode cX9_isWord 25 = .ok (.iadd, 1) := by decide +kernel
theorem dX9_isWord_26 : decode cX9_isWord 26 = .ok (.if_icmp .gt 86, 3) := by decide +kernel
theorem dX9_isWord_29 : decode cX9_isWord 29 = .ok (.aload_n 0, 1) := by decide +kernel
theorem dX9_isWord_30 : decode cX9_isWord 30 = .ok (.iconst 0, 1) := by decide +kernel
theorem dX9_isWord_31 : decode cX9_isWord 31 = .ok (.iload_n 1, 1) := by decide +kernel
theorem dX9_isWord_32 : decode cX9_isWord 32 = .ok (.invokevirtual 166, 3) := by decide +kernel
theorem dX9_isWord_35 : decode cX9_isWord 35 = .ok (.ifCond .eq 77, 3) := by decide +kernel
theorem dX9_isWord_38 : decode cX9_isWord 38 = .ok (.aload_n 0, 1) := by decide +kernel
theorem dX9_isWord_39 : decode cX9_isWord 39 = .ok (.iconst 1, 1) := by decide +kernel
theorem dX9_isWord_40 : decode cX9_isWord 40 = .ok (.iload_n 2, 1) := by decide +kernel
theorem dX9_isWord_41 : decode cX9_isWord 41 = .ok (.invokevirtual 166, 3) := by decide +kernel
theorem dX9_isWord_44 : decode cX9_isWord 44 = .ok (.ifCond .eq 68, 3) := by decide +kernel
theorem dX9_isWord_47 : decode cX9_isWord 47 = .ok (.aload_n 0, 1) := by decide +kernel
theorem dX9_isWord_48 : decode cX9_isWord 48 = .ok (.iconst 2, 1) := by decide +kernel
theorem dX9_isWord_49 : decode cX9_isWord 49 = .ok (.iload_n 3, 1) := by decide +kernel
theorem dX9_isWord_50 : decode cX9_isWord 50 = .ok (.invokevirtual 166, 3) := by decide +kernel
theorem dX9_isWord_53 : decode cX9_isWord 53 = .ok (.ifCond .eq 59, 3) := by decide +kernel
theorem dX9_isWord_56 : decode cX9_isWord 56 = .ok (.aload_n 0, 1) := by decide +kernel
theorem dX9_isWord_57 : decode cX9_isWord 57 = .ok (.iconst 3, 1) := by decide +kernel
theorem dX9_isWord_58 : decode cX9_isWord 58 = .ok (.iload 4, 2) := by decide +kernel
theorem dX9_isWord_60 : decode cX9_isWord 60 = .ok (.invokevirtual 166, 3) := by decide +kernel
theorem dX9_isWord_63 : decode cX9_isWord 63 = .ok (.ifCond .eq 49, 3) := by decide +kernel
theorem dX9_isWord_66 : decode cX9_isWord 66 = .ok (.aload_n 0, 1) := by decide +kernel
theorem dX9_isWord_67 : decode cX9_isWord 67 = .ok (.iconst 4, 1) := by decide +kernel
theorem dX9_isWord_68 : decode cX9_isWord 68 = .ok (.iload 5, 2) := by decide +kernel
theorem dX9_isWord_70 : decode cX9_isWord 70 = .ok (.invokevirtual 166, 3) := by decide +kernel
theorem dX9_isWord_73 : decode cX9_isWord 73 = .ok (.ifCond .eq 39, 3) := by decide +kernel
theorem dX9_isWord_76 : decode cX9_isWord 76 = .ok (.aload_n 0, 1) := by decide +kernel
theorem dX9_isWord_77 : decode cX9_isWord 77 = .ok (.iconst 5, 1) := by decide +kernel
theorem dX9_isWord_78 : decode cX9_isWord 78 = .ok (.iload 6, 2) := by decide +kernel
theorem dX9_isWord_80 : decode cX9_isWord 80 = .ok (.invokevirtual 166, 3) := by decide +kernel
theorem dX9_isWord_83 : decode cX9_isWord 83 = .ok (.ifCond .eq 29, 3) := by decide +kernel
theorem dX9_isWord_86 : decode cX9_isWord 86 = .ok (.aload_n 0, 1) := by decide +kernel
theorem dX9_isWord_87 : decode cX9_isWord 87 = .ok (.bipush 6, 2) := by decide +kernel
theorem dX9_isWord_89 : decode cX9_isWord 89 = .ok (.iload 7, 2) := by decide +kernel
theorem dX9_isWord_91 : decode cX9_isWord 91 = .ok (.invokevirtual 166, 3) := by decide +kernel
theorem dX9_isWord_94 : decode cX9_isWord 94 = .ok (.ifCond .eq 18, 3) := by decide +kernel
theorem dX9_isWord_97 : decode cX9_isWord 97 = .ok (.aload_n 0, 1) := by decide +kernel
theorem dX9_isWord_98 : decode cX9_isWord 98 = .ok (.bipush 7, 2) := by decide +kernel
theorem dX9_isWord_100 : decode cX9_isWord 100 = .ok (.iload 8, 2) := by decide +kernel
theorem dX9_isWord_102 : decode cX9_isWord 102 = .ok (.invokevirtual 166, 3) := by decide +kernel
theorem dX9_isWord_105 : decode cX9_isWord 105 = .ok (.ifCond .eq 7, 3) := by decide +kernel
theorem dX9_isWord_108 : decode cX9_isWord 108 = .ok (.iconst 1, 1) := by decide +kernel
theorem dX9_isWord_109 : decode cX9_isWord 109 = .ok (.goto 4, 3) := by decide +kernel
theorem dX9_isWord_112 : decode cX9_isWord 112 = .ok (.iconst 0, 1) := by decide +kernel
theorem dX9_isWord_113 : decode cX9_isWord 113 = .ok (.ireturn, 1) := by decide +kernel
theorem dX9_isSign_0 : decode cX9_isSign 0 = .ok (.aload_n 0, 1) := by decide +kernel
theorem dX9_isSign_1 : decode cX9_isSign 1 = .ok (.getfield 159, 3) := by decide +kernel
theorem dX9_isSign_4 : decode cX9_isSign 4 = .ok (.ifCond .ne 25, 3) := by decide +kernel
theorem dX9_isSign_7 : decode cX9_isSign 7 = .ok (.aload_n 0, 1) := by decide +kernel
theorem dX9_isSign_8 : decode cX9_isSign 8 = .ok (.getfield 142, 3) := by decide +kernel
theorem dX9_isSign_11 : decode cX9_isSign 11 = .ok (.iconst 3, 1) := by decide +kernel
theorem dX9_isSign_12 : decode cX9_isSign 12 = .ok (.if_icmp .ne 17, 3) := by decide +kernel
theorem dX9_isSign_15 : decode cX9_isSign 15 = .ok (.aload_n 0, 1) := by decide +kernel
theorem dX9_isSign_16 : decode cX9_isSign 16 = .ok (.getfield 153, 3) := by decide +kernel
theorem dX9_isSign_19 : decode cX9_isSign 19 = .ok (.iload_n 1, 1) := by decide +kernel
theorem dX9_isSign_20 : decode cX9_isSign 20 = .ok (.i2l, 1) := by decide +kernel
theorem dX9_isSign_21 : decode cX9_isSign 21 = .ok (.lcmp, 1) := by decide +kernel
theorem dX9_isSign_22 : decode cX9_isSign 22 = .ok (.ifCond .ne 7, 3) := by decide +kernel
theorem dX9_isSign_25 : decode cX9_isSign 25 = .ok (.iconst 1, 1) := by decide +kernel
theorem dX9_isSign_26 : decode cX9_isSign 26 = .ok (.goto 4, 3) := by decide +kernel
theorem dX9_isSign_29 : decode cX9_isSign 29 = .ok (.iconst 0, 1) := by decide +kernel
theorem dX9_isSign_30 : decode cX9_isSign 30 = .ok (.ireturn, 1) := by decide +kernel
theorem dX9_opens_0 : decode cX9_opens 0 = .ok (.aload_n 0, 1) := by decide +kernel
theorem dX9_opens_1 : decode cX9_opens 1 = .ok (.getfield 170, 3) := by decide +kernel
theorem dX9_opens_4 : decode cX9_opens 4 = .ok (.iconst 5, 1) := by decide +kernel
theorem dX9_opens_5 : decode cX9_opens 5 = .ok (.if_icmp .ne 9, 3) := by decide +kernel
theorem dX9_opens_8 : decode cX9_opens 8 = .ok (.aload_n 0, 1) := by decide +kernel
theorem dX9_opens_9 : decode cX9_opens 9 = .ok (.invokevirtual 173, 3) := by decide +kernel
theorem dX9_opens_12 : decode cX9_opens 12 = .ok (.iconst 0, 1) := by decide +kernel
theorem dX9_opens_13 : decode cX9_opens 13 = .ok (.ireturn, 1) := by decide +kernel
theorem dX9_opens_14 : decode cX9_opens 14 = .ok (.aload_n 0, 1) := by decide +kernel
theorem dX9_opens_15 : decode cX9_opens 15 = .ok (.dup, 1) := by decide +kernel
theorem dX9_opens_16 : decode cX9_opens 16 = .ok (.getfield 170, 3) := by decide +kernel
theorem dX9_opens_19 : decode cX9_opens 19 = .ok (.iconst 1, 1) := by decide +kernel
theorem dX9_opens_20 : decode cX9_opens 20 = .ok (.iadd, 1) := by decide +kernel
theorem dX9_opens_21 : decode cX9_opens 21 = .ok (.putfield 170, 3) := by decide +kernel
theorem dX9_opens_24 : decode cX9_opens 24 = .ok (.aload_n 0, 1) := by decide +kernel
theorem dX9_opens_25 : decode cX9_opens 25 = .ok (.invokevirtual 176, 3) := by decide +kernel
theorem dX9_opens_28 : decode cX9_opens 28 = .ok (.iconst 1, 1) := by decide +kernel
theorem dX9_opens_29 : decode cX9_opens 29 = .ok (.ireturn, 1) := by decide +kernel
theorem dX9_name_0 : decode cX9_name 0 = .ok (.aload_n 0, 1) := by decide +kernel
theorem dX9_name_1 : decode cX9_name 1 = .ok (.bipush 119, 2) := by decide +kernel
theorem dX9_name_3 : decode cX9_name 3 = .ok (.bipush 97, 2) := by decide +kernel
theorem dX9_name_5 : decode cX9_name 5 = .ok (.bipush 114, 2) := by decide +kernel
theorem dX9_name_7 : decode cX9_name 7 = .ok (.bipush 109, 2) := by decide +kernel
theorem dX9_name_9 : decode cX9_name 9 = .ok (.iconst 0, 1) := by decide +kernel
theorem dX9_name_10 : decode cX9_name 10 = .ok (.iconst 0, 1) := by decide +kernel
theorem dX9_name_11 : decode cX9_name 11 = .ok (.iconst 0, 1) := by decide +kernel
theorem dX9_name_12 : decode cX9_name 12 = .ok (.iconst 0, 1) := by decide +kernel
theorem dX9_name_13 : decode cX9_name 13 = .ok (.invokevirtual 179, 3) := by decide +kernel
theorem dX9_name_16 : decode cX9_name 16 = .ok (.ifCond .eq 8, 3) := by decide +kernel
theorem dX9_name_19 : decode cX9_name 19 = .ok (.aload_n 0, 1) := by decide +kernel
theorem dX9_name_20 : decode cX9_name 20 = .ok (.getfield 183, 3) := by decide +kernel
theorem dX9_name_23 : decode cX9_name 23 = .ok (.ireturn, 1) := by decide +kernel
theorem dX9_name_24 : decode cX9_name 24 = .ok (.aload_n 0, 1) := by decide +kernel
theorem dX9_name_25 : decode cX9_name 25 = .ok (.bipush 97, 2) := by decide +kernel
theorem dX9_name_27 : decode cX9_name 27 = .ok (.bipush 103, 2) := by decide +kernel
theorem dX9_name_29 : decode cX9_name 29 = .ok (.bipush 101, 2) := by decide +kernel
theorem dX9_name_31 : decode cX9_name 31 = .ok (.iconst 0, 1) := by decide +kernel
theorem dX9_name_32 : decode cX9_name 32 = .ok (.iconst 0, 1) := by decide +kernel
theorem dX9_name_33 : decode cX9_name 33 = .ok (.iconst 0, 1) := by decide +kernel
theorem dX9_name_34 : decode cX9_name 34 = .ok (.iconst 0, 1) := by decide +kernel
theorem dX9_name_35 : decode cX9_name 35 = .ok (.iconst 0, 1) := by decide +kernel
theorem dX9_name_36 : decode cX9_name 36 = .ok (.invokevirtual 179, 3) := by decide +kernel
theorem dX9_name_39 : decode cX9_name 39 = .ok (.ifCond .eq 8, 3) := by decide +kernel
theorem dX9_name_42 : decode cX9_name 42 = .ok (.aload_n 0, 1) := by decide +kernel
theorem dX9_name_43 : decode cX9_name 43 = .ok (.getfield 186, 3) := by decide +kernel
theorem dX9_name_46 : decode cX9_name 46 = .ok (.ireturn, 1) := by decide +kernel
theorem dX9_name_47 : decode cX9_name 47 = .ok (.aload_n 0, 1) := by decide +kernel
theorem dX9_name_48 : decode cX9_name 48 = .ok (.bipush 100, 2) := by decide +kernel
theorem dX9_name_50 : decode cX9_name 50 = .ok (.bipush 105, 2) := by decide +kernel
theorem dX9_name_52 : decode cX9_name 52 = .ok (.bipush 114, 2) := by decide +kernel
theorem dX9_name_54 : decode cX9_name 54 = .ok (.bipush 116, 2) := by decide +kernel
theorem dX9_name_56 : decode cX9_name 56 = .ok (.iconst 0, 1) := by decide +kernel
theorem dX9_name_57 : decode cX9_name 57 = .ok (.iconst 0, 1) := by decide +kernel
theorem dX9_name_58 : decode cX9_name 58 = .ok (.iconst 0, 1) := by decide +kernel
theorem dX9_name_59 : decode cX9_name 59 = .ok (.iconst 0, 1) := by decide +kernel
theorem dX9_name_60 : decode cX9_name 60 = .ok (.invokevirtual 179, 3) := by decide +kernel
theorem dX9_name_63 : decode cX9_name 63 = .ok (.ifCond .eq 8, 3) := by decide +kernel
theorem dX9_name_66 : decode cX9_name 66 = .ok (.aload_n 0, 1) := by decide +kernel
theorem dX9_name_67 : decode cX9_name 67 = .ok (.getfield 189, 3) := by decide +kernel
theorem dX9_name_70 : decode cX9_name 70 = .ok (.ireturn, 1) := by decide +kernel
theorem dX9_name_71 : decode cX9_name 71 = .ok (.aload_n 0, 1) := by decide +kernel
theorem dX9_name_72 : decode cX9_name 72 = .ok (.bipush 121, 2) := by decide +kernel
theorem dX9_name_74 : decode cX9_name 74 = .ok (.bipush 97, 2) := by decide +kernel
theorem dX9_name_76 : decode cX9_name 76 = .ok (.bipush 114, 2) := by decide +kernel
theorem dX9_name_78 : decode cX9_name 78 = .ok (.bipush 100, 2) := by decide +kernel
theorem dX9_name_80 : decode cX9_name 80 = .ok (.bipush 115, 2) := by decide +kernel
theorem dX9_name_82 : decode cX9_name 82 = .ok (.iconst 0, 1) := by decide +kernel
theorem dX9_name_83 : decode cX9_name 83 = .ok (.iconst 0, 1) := by decide +kernel
theorem dX9_name_84 : decode cX9_name 84 = .ok (.iconst 0, 1) := by decide +kernel
theorem dX9_name_85 : decode cX9_name 85 = .ok (.invokevirtual 179, 3) := by decide +kernel
theorem dX9_name_88 : decode cX9_name 88 = .ok (.ifCond .eq 8, 3) := by decide +kernel
theorem dX9_name_91 : decode cX9_name 91 = .ok (.aload_n 0, 1) := by decide +kernel
theorem dX9_name_92 : decode cX9_name 92 = .ok (.getfield 192, 3) := by decide +kernel
theorem dX9_name_95 : decode cX9_name 95 = .ok (.ireturn, 1) := by decide +kernel
theorem dX9_name_96 : decode cX9_name 96 = .ok (.aload_n 0, 1) := by decide +kernel
theorem dX9_name_97 : decode cX9_name 97 = .ok (.bipush 111, 2) := by decide +kernel
theorem dX9_name_99 : decode cX9_name 99 = .ok (.bipush 102, 2) := by decide +kernel
theorem dX9_name_101 : decode cX9_name 101 = .ok (.bipush 102, 2) := by decide +kernel
theorem dX9_name_103 : decode cX9_name 103 = .ok (.iconst 0, 1) := by decide +kernel
theorem dX9_name_104 : decode cX9_name 104 = .ok (.iconst 0, 1) := by decide +kernel
theorem dX9_name_105 : decode cX9_name 105 = .ok (.iconst 0, 1) := by decide +kernel
theorem dX9_name_106 : decode cX9_name 106 = .ok (.iconst 0, 1) := by decide +kernel
theorem dX9_name_107 : decode cX9_name 107 = .ok (.iconst 0, 1) := by decide +kernel
theorem dX9_name_108 : decode cX9_name 108 = .ok (.invokevirtual 179, 3) := by decide +kernel
theorem dX9_name_111 : decode cX9_name 111 = .ok (.ifCond .eq 8, 3) := by decide +kernel
theorem dX9_name_114 : decode cX9_name 114 = .ok (.aload_n 0, 1) := by decide +kernel
theorem dX9_name_115 : decode cX9_name 115 = .ok (.getfield 195, 3) := by decide +kernel
theorem dX9_name_118 : decode cX9_name 118 = .ok (.ireturn, 1) := by decide +kernel
theorem dX9_name_119 : decode cX9_name 119 = .ok (.aload_n 0, 1) := by decide +kernel
theorem dX9_name_120 : decode cX9_name 120 = .ok (.bipush 110, 2) := by decide +kernel
theorem dX9_name_122 : decode cX9_name 122 = .ok (.bipush 117, 2) := by decide +kernel
theorem dX9_name_124 : decode cX9_name 124 = .ok (.bipush 109, 2) := by decide +kernel
theorem dX9_name_126 : decode cX9_name 126 = .ok (.bipush 98, 2) := by decide +kernel
theorem dX9_name_128 : decode cX9_name 128 = .ok (.bipush 101, 2) := by decide +kernel
theorem dX9_name_130 : decode cX9_name 130 = .ok (.bipush 114, 2) := by decide +kernel
theorem dX9_name_132 : decode cX9_name 132 = .ok (.iconst 0, 1) := by decide +kernel
theorem dX9_name_133 : decode cX9_name 133 = .ok (.iconst 0, 1) := by decide +kernel
theorem dX9_name_134 : decode cX9_name 134 = .ok (.invokevirtual 179, 3) := by decide +kernel
theorem dX9_name_137 : decode cX9_name 137 = .ok (.ifCond .eq 8, 3) := by decide +kernel
theorem dX9_name_140 : decode cX9_name 140 = .ok (.aload_n 0, 1) := by decide +kernel
theorem dX9_name_141 : decode cX9_name 141 = .ok (.getfield 198, 3) := by decide +kernel
theorem dX9_name_144 : decode cX9_name 144 = .ok (.ireturn, 1) := by decide +kernel
theorem dX9_name_145 : decode cX9_name 145 = .ok (.aload_n 0, 1) := by decide +kernel
theorem dX9_name_146 : decode cX9_name 146 = .ok (.invokevirtual 173, 3) := by decide +kernel
theorem dX9_name_149 : decode cX9_name 149 = .ok (.iconst 0, 1) := by decide +kernel
theorem dX9_name_150 : decode cX9_name 150 = .ok (.ireturn, 1) := by decide +kernel
theorem dX9_term_0 : decode cX9_term 0 = .ok (.aload_n 0, 1) := by decide +kernel
theorem dX9_term_1 : decode cX9_term 1 = .ok (.invokevirtual 208, 3) := by decide +kernel
theorem dX9_term_4 : decode cX9_term 4 = .ok (.istore_n 1, 1) := by decide +kernel
theorem dX9_term_5 : decode cX9_term 5 = .ok (.aload_n 0, 1) := by decide +kernel
theorem dX9_term_6 : decode cX9_term 6 = .ok (.bipush 42, 2) := by decide +kernel
theorem dX9_term_8 : decode cX9_term 8 = .ok (.invokevirtual 201, 3) := by decide +kernel
theorem dX9_term_11 : decode cX9_term 11 = .ok (.ifCond .eq 17, 3) := by decide +kernel
theorem dX9_term_14 : decode cX9_term 14 = .ok (.aload_n 0, 1) := by decide +kernel
theorem dX9_term_15 : decode cX9_term 15 = .ok (.invokevirtual 176, 3) := by decide +kernel
theorem dX9_term_18 : decode cX9_term 18 = .ok (.iload_n 1, 1) := by decide +kernel
theorem dX9_term_19 : decode cX9_term 19 = .ok (.aload_n 0, 1) := by decide +kernel
theorem dX9_term_20 : decode cX9_term 20 = .ok (.invokevirtual 208, 3) := by decide +kernel
theorem dX9_term_23 : decode cX9_term 23 = .ok (.imul, 1) := by decide +kernel
theorem dX9_term_24 : decode cX9_term 24 = .ok (.istore_n 1, 1) := by decide +kernel
theorem dX9_term_25 : decode cX9_term 25 = .ok (.goto (-20), 3) := by decide +kernel
theorem dX9_term_28 : decode cX9_term 28 = .ok (.iload_n 1, 1) := by decide +kernel
theorem dX9_term_29 : decode cX9_term 29 = .ok (.ireturn, 1) := by decide +kernel
theorem dX9_added_0 : decode cX9_added 0 = .ok (.aload_n 0, 1) := by decide +kernel
theorem dX9_added_1 : decode cX9_added 1 = .ok (.invokevirtual 218, 3) := by decide +kernel
theorem dX9_added_4 : decode cX9_added 4 = .ok (.istore_n 1, 1) := by decide +kernel
theorem dX9_added_5 : decode cX9_added 5 = .ok (.aload_n 0, 1) := by decide +kernel
theorem dX9_added_6 : decode cX9_added 6 = .ok (.bipush 43, 2) := by decide +kernel
theorem dX9_added_8 : decode cX9_added 8 = .ok (.invokevirtual 201, 3) := by decide +kernel
theorem dX9_added_11 : decode cX9_added 11 = .ok (.ifCond .ne 12, 3) := by decide +kernel
theorem dX9_added_14 : decode cX9_added 14 = .ok (.aload_n 0, 1) := by decide +kernel
theorem dX9_added_15 : decode cX9_added 15 = .ok (.bipush 45, 2) := by decide +kernel
theorem dX9_added_17 : decode cX9_added 17 = .ok (.invokevirtual 201, 3) := by decide +kernel
theorem dX9_added_20 : decode cX9_added 20 = .ok (.ifCond .eq 46, 3) := by decide +kernel
theorem dX9_added_23 : decode cX9_added 23 = .ok (.aload_n 0, 1) := by decide +kernel
theorem dX9_added_24 : decode cX9_added 24 = .ok (.getfield 153, 3) := by decide +kernel
theorem dX9_added_27 : decode cX9_added 27 = .ok (.ldc2_w 221, 3) := by decide +kernel
theorem dX9_added_30 : decode cX9_added 30 = .ok (.lcmp, 1) := by decide +kernel
theorem dX9_added_31 : decode cX9_added 31 = .ok (.ifCond .ne 7, 3) := by decide +kernel
theorem dX9_added_34 : decode cX9_added 34 = .ok (.iconst 1, 1) := by decide +kernel
theorem dX9_added_35 : decode cX9_added 35 = .ok (.goto 4, 3) := by decide +kernel
theorem dX9_added_38 : decode cX9_added 38 = .ok (.iconst 0, 1) := by decide +kernel
theorem dX9_added_39 : decode cX9_added 39 = .ok (.istore_n 2, 1) := by decide +kernel
theorem dX9_added_40 : decode cX9_added 40 = .ok (.aload_n 0, 1) := by decide +kernel
theorem dX9_added_41 : decode cX9_added 41 = .ok (.invokevirtual 176, 3) := by decide +kernel
theorem dX9_added_44 : decode cX9_added 44 = .ok (.aload_n 0, 1) := by decide +kernel
theorem dX9_added_45 : decode cX9_added 45 = .ok (.invokevirtual 218, 3) := by decide +kernel
theorem dX9_added_48 : decode cX9_added 48 = .ok (.istore_n 3, 1) := by decide +kernel
theorem dX9_added_49 : decode cX9_added 49 = .ok (.iload_n 2, 1) := by decide +kernel
theorem dX9_added_50 : decode cX9_added 50 = .ok (.ifCond .eq 9, 3) := by decide +kernel
theorem dX9_added_53 : decode cX9_added 53 = .ok (.iload_n 1, 1) := by decide +kernel
theorem dX9_added_54 : decode cX9_added 54 = .ok (.iload_n 3, 1) := by decide +kernel
theorem dX9_added_55 : decode cX9_added 55 = .ok (.iadd, 1) := by decide +kernel
theorem dX9_added_56 : decode cX9_added 56 = .ok (.goto 6, 3) := by decide +kernel
theorem dX9_added_59 : decode cX9_added 59 = .ok (.iload_n 1, 1) := by decide +kernel
theorem dX9_added_60 : decode cX9_added 60 = .ok (.iload_n 3, 1) := by decide +kernel
theorem dX9_added_61 : decode cX9_added 61 = .ok (.isub, 1) := by decide +kernel
theorem dX9_added_62 : decode cX9_added 62 = .ok (.istore_n 1, 1) := by decide +kernel
theorem dX9_added_63 : decode cX9_added 63 = .ok (.goto (-58), 3) := by decide +kernel
theorem dX9_added_66 : decode cX9_added 66 = .ok (.iload_n 1, 1) := by decide +kernel
theorem dX9_added_67 : decode cX9_added 67 = .ok (.ireturn, 1) := by decide +kernel
theorem dX9_not_0 : decode cX9_not 0 = .ok (.aload_n 0, 1) := by decide +kernel
theorem dX9_not_1 : decode cX9_not 1 = .ok (.bipush 110, 2) := by decide +kernel
theorem dX9_not_3 : decode cX9_not 3 = .ok (.bipush 111, 2) := by decide +kernel
theorem dX9_not_5 : decode cX9_not 5 = .ok (.bipush 116, 2) := by decide +kernel
theorem dX9_not_7 : decode cX9_not 7 = .ok (.iconst 0, 1) := by decide +kernel
theorem dX9_not_8 : decode cX9_not 8 = .ok (.iconst 0, 1) := by decide +kernel
theorem dX9_not_9 : decode cX9_not 9 = .ok (.iconst 0, 1) := by decide +kernel
theorem dX9_not_10 : decode cX9_not 10 = .ok (.iconst 0, 1) := by decide +kernel
theorem dX9_not_11 : decode cX9_not 11 = .ok (.iconst 0, 1) := by decide +kernel
theorem dX9_not_12 : decode cX9_not 12 = .ok (.invokevirtual 179, 3) := by decide +kernel
theorem dX9_not_15 : decode cX9_not 15 = .ok (.ifCond .eq 37, 3) := by decide +kernel
theorem dX9_not_18 : decode cX9_not 18 = .ok (.aload_n 0, 1) := by decide +kernel
theorem dX9_not_19 : decode cX9_not 19 = .ok (.invokevirtual 204, 3) := by decide +kernel
theorem dX9_not_22 : decode cX9_not 22 = .ok (.ifCond .ne 5, 3) := by decide +kernel
theorem dX9_not_25 : decode cX9_not 25 = .ok (.iconst 0, 1) := by decide +kernel
theorem dX9_not_26 : decode cX9_not 26 = .ok (.ireturn, 1) := by decide +kernel
theorem dX9_not_27 : decode cX9_not 27 = .ok (.aload_n 0, 1) := by decide +kernel
theorem dX9_not_28 : decode cX9_not 28 = .ok (.invokevirtual 223, 3) := by decide +kernel
theorem dX9_not_31 : decode cX9_not 31 = .ok (.istore_n 1, 1) := by decide +kernel
theorem dX9_not_32 : decode cX9_not 32 = .ok (.aload_n 0, 1) := by decide +kernel
theorem dX9_not_33 : decode cX9_not 33 = .ok (.dup, 1) := by decide +kernel
theorem dX9_not_34 : decode cX9_not 34 = .ok (.getfield 170, 3) := by decide +kernel
theorem dX9_not_37 : decode cX9_not 37 = .ok (.iconst 1, 1) := by decide +kernel
theorem dX9_not_38 : decode cX9_not 38 = .ok (.isub, 1) := by decide +kernel
theorem dX9_not_39 : decode cX9_not 39 = .ok (.putfield 170, 3) := by decide +kernel
theorem dX9_not_42 : decode cX9_not 42 = .ok (.iload_n 1, 1) := by decide +kernel
theorem dX9_not_43 : decode cX9_not 43 = .ok (.ifCond .ne 7, 3) := by decide +kernel
theorem dX9_not_46 : decode cX9_not 46 = .ok (.iconst 1, 1) := by decide +kernel
theorem dX9_not_47 : decode cX9_not 47 = .ok (.goto 4, 3) := by decide +kernel
theorem dX9_not_50 : decode cX9_not 50 = .ok (.iconst 0, 1) := by decide +kernel
theorem dX9_not_51 : decode cX9_not 51 = .ok (.ireturn, 1) := by decide +kernel
theorem dX9_not_52 : decode cX9_not 52 = .ok (.aload_n 0, 1) := by decide +kernel
theorem dX9_not_53 : decode cX9_not 53 = .ok (.invokevirtual 226, 3) := by decide +kernel
theorem dX9_not_56 : decode cX9_not 56 = .ok (.istore_n 1, 1) := by decide +kernel
theorem dX9_not_57 : decode cX9_not 57 = .ok (.aload_n 0, 1) := by decide +kernel
theorem dX9_not_58 : decode cX9_not 58 = .ok (.bipush 60, 2) := by decide +kernel
theorem dX9_not_60 : decode cX9_not 60 = .ok (.invokevirtual 201, 3) := by decide +kernel
theorem dX9_not_63 : decode cX9_not 63 = .ok (.ifCond .ne 14, 3) := by decide +kernel
theorem dX9_not_66 : decode cX9_not 66 = .ok (.aload_n 0, 1) := by decide +kernel
theorem dX9_not_67 : decode cX9_not 67 = .ok (.bipush 61, 2) := by decide +kernel
theorem dX9_not_69 : decode cX9_not 69 = .ok (.invokevirtual 201, 3) := by decide +kernel
theorem dX9_not_72 : decode cX9_not 72 = .ok (.ifCond .ne 5, 3) := by decide +kernel
theorem dX9_not_75 : decode cX9_not 75 = .ok (.iload_n 1, 1) := by decide +kernel
theorem dX9_not_76 : decode cX9_not 76 = .ok (.ireturn, 1) := by decide +kernel
theorem dX9_not_77 : decode cX9_not 77 = .ok (.aload_n 0, 1) := by decide +kernel
theorem dX9_not_78 : decode cX9_not 78 = .ok (.getfield 153, 3) := by decide +kernel
theorem dX9_not_81 : decode cX9_not 81 = .ok (.ldc2_w 229, 3) := by decide +kernel
theorem dX9_not_84 : decode cX9_not 84 = .ok (.lcmp, 1) := by decide +kernel
theorem dX9_not_85 : decode cX9_not 85 = .ok (.ifCond .ne 7, 3) := by decide +kernel
theorem dX9_not_88 : decode cX9_not 88 = .ok (.iconst 1, 1) := by decide +kernel
theorem dX9_not_89 : decode cX9_not 89 = .ok (.goto 4, 3) := by decide +kernel
theorem dX9_not_92 : decode cX9_not 92 = .ok (.iconst 0, 1) := by decide +kernel
theorem dX9_not_93 : decode cX9_not 93 = .ok (.istore_n 2, 1) := by decide +kernel
theorem dX9_not_94 : decode cX9_not 94 = .ok (.aload_n 0, 1) := by decide +kernel
theorem dX9_not_95 : decode cX9_not 95 = .ok (.invokevirtual 176, 3) := by decide +kernel
theorem dX9_not_98 : decode cX9_not 98 = .ok (.aload_n 0, 1) := by decide +kernel
theorem dX9_not_99 : decode cX9_not 99 = .ok (.invokevirtual 226, 3) := by decide +kernel
theorem dX9_not_102 : decode cX9_not 102 = .ok (.istore_n 3, 1) := by decide +kernel
theorem dX9_not_103 : decode cX9_not 103 = .ok (.iload_n 2, 1) := by decide +kernel
theorem dX9_not_104 : decode cX9_not 104 = .ok (.ifCond .eq 11, 3) := by decide +kernel
theorem dX9_not_107 : decode cX9_not 107 = .ok (.iload_n 1, 1) := by decide +kernel
theorem dX9_not_108 : decode cX9_not 108 = .ok (.iload_n 3, 1) := by decide +kernel
theorem dX9_not_109 : decode cX9_not 109 = .ok (.if_icmp .ge 15, 3) := by decide +kernel
theorem dX9_not_112 : decode cX9_not 112 = .ok (.goto 8, 3) := by decide +kernel
theorem dX9_not_115 : decode cX9_not 115 = .ok (.iload_n 1, 1) := by decide +kernel
theorem dX9_not_116 : decode cX9_not 116 = .ok (.iload_n 3, 1) := by decide +kernel
theorem dX9_not_117 : decode cX9_not 117 = .ok (.if_icmp .ne 7, 3) := by decide +kernel
theorem dX9_not_120 : decode cX9_not 120 = .ok (.iconst 1, 1) := by decide +kernel
theorem dX9_not_121 : decode cX9_not 121 = .ok (.goto 4, 3) := by decide +kernel
theorem dX9_not_124 : decode cX9_not 124 = .ok (.iconst 0, 1) := by decide +kernel
theorem dX9_not_125 : decode cX9_not 125 = .ok (.ireturn, 1) := by decide +kernel
theorem dX9_both_0 : decode cX9_both 0 = .ok (.aload_n 0, 1) := by decide +kernel
theorem dX9_both_1 : decode cX9_both 1 = .ok (.invokevirtual 223, 3) := by decide +kernel
theorem dX9_both_4 : decode cX9_both 4 = .ok (.istore_n 1, 1) := by decide +kernel
theorem dX9_both_5 : decode cX9_both 5 = .ok (.aload_n 0, 1) := by decide +kernel
theorem dX9_both_6 : decode cX9_both 6 = .ok (.bipush 97, 2) := by decide +kernel
theorem dX9_both_8 : decode cX9_both 8 = .ok (.bipush 110, 2) := by decide +kernel
theorem dX9_both_10 : decode cX9_both 10 = .ok (.bipush 100, 2) := by decide +kernel
theorem dX9_both_12 : decode cX9_both 12 = .ok (.iconst 0, 1) := by decide +kernel
theorem dX9_both_13 : decode cX9_both 13 = .ok (.iconst 0, 1) := by decide +kernel
theorem dX9_both_14 : decode cX9_both 14 = .ok (.iconst 0, 1) := by decide +kernel
theorem dX9_both_15 : decode cX9_both 15 = .ok (.iconst 0, 1) := by decide +kernel
theorem dX9_both_16 : decode cX9_both 16 = .ok (.iconst 0, 1) := by decide +kernel
theorem dX9_both_17 : decode cX9_both 17 = .ok (.invokevirtual 179, 3) := by decide +kernel
theorem dX9_both_20 : decode cX9_both 20 = .ok (.ifCond .eq 29, 3) := by decide +kernel
theorem dX9_both_23 : decode cX9_both 23 = .ok (.aload_n 0, 1) := by decide +kernel
theorem dX9_both_24 : decode cX9_both 24 = .ok (.invokevirtual 176, 3) := by decide +kernel
theorem dX9_both_27 : decode cX9_both 27 = .ok (.aload_n 0, 1) := by decide +kernel
theorem dX9_both_28 : decode cX9_both 28 = .ok (.invokevirtual 223, 3) := by decide +kernel
theorem dX9_both_31 : decode cX9_both 31 = .ok (.istore_n 2, 1) := by decide +kernel
theorem dX9_both_32 : decode cX9_both 32 = .ok (.iload_n 1, 1) := by decide +kernel
theorem dX9_both_33 : decode cX9_both 33 = .ok (.ifCond .eq 11, 3) := by decide +kernel
theorem dX9_both_36 : decode cX9_both 36 = .ok (.iload_n 2, 1) := by decide +kernel
theorem dX9_both_37 : decode cX9_both 37 = .ok (.ifCond .eq 7, 3) := by decide +kernel
theorem dX9_both_40 : decode cX9_both 40 = .ok (.iconst 1, 1) := by decide +kernel
theorem dX9_both_41 : decode cX9_both 41 = .ok (.goto 4, 3) := by decide +kernel
theorem dX9_both_44 : decode cX9_both 44 = .ok (.iconst 0, 1) := by decide +kernel
theorem dX9_both_45 : decode cX9_both 45 = .ok (.istore_n 1, 1) := by decide +kernel
theorem dX9_both_46 : decode cX9_both 46 = .ok (.goto (-41), 3) := by decide +kernel
theorem dX9_both_49 : decode cX9_both 49 = .ok (.iload_n 1, 1) := by decide +kernel
theorem dX9_both_50 : decode cX9_both 50 = .ok (.ireturn, 1) := by decide +kernel
theorem dX9_either_0 : decode cX9_either 0 = .ok (.aload_n 0, 1) := by decide +kernel
theorem dX9_either_1 : decode cX9_either 1 = .ok (.invokevirtual 231, 3) := by decide +kernel
theorem dX9_either_4 : decode cX9_either 4 = .ok (.istore_n 1, 1) := by decide +kernel
theorem dX9_either_5 : decode cX9_either 5 = .ok (.aload_n 0, 1) := by decide +kernel
theorem dX9_either_6 : decode cX9_either 6 = .ok (.bipush 111, 2) := by decide +kernel
theorem dX9_either_8 : decode cX9_either 8 = .ok (.bipush 114, 2) := by decide +kernel
theorem dX9_either_10 : decode cX9_either 10 = .ok (.iconst 0, 1) := by decide +kernel
theorem dX9_either_11 : decode cX9_either 11 = .ok (.iconst 0, 1) := by decide +kernel
theorem dX9_either_12 : decode cX9_either 12 = .ok (.iconst 0, 1) := by decide +kernel
theorem dX9_either_13 : decode cX9_either 13 = .ok (.iconst 0, 1) := by decide +kernel
theorem dX9_either_14 : decode cX9_either 14 = .ok (.iconst 0, 1) := by decide +kernel
theorem dX9_either_15 : decode cX9_either 15 = .ok (.iconst 0, 1) := by decide +kernel
theorem dX9_either_16 : decode cX9_either 16 = .ok (.invokevirtual 179, 3) := by decide +kernel
theorem dX9_either_19 : decode cX9_either 19 = .ok (.ifCond .eq 29, 3) := by decide +kernel
theorem dX9_either_22 : decode cX9_either 22 = .ok (.aload_n 0, 1) := by decide +kernel
theorem dX9_either_23 : decode cX9_either 23 = .ok (.invokevirtual 176, 3) := by decide +kernel
theorem dX9_either_26 : decode cX9_either 26 = .ok (.aload_n 0, 1) := by decide +kernel
theorem dX9_either_27 : decode cX9_either 27 = .ok (.invokevirtual 231, 3) := by decide +kernel
theorem dX9_either_30 : decode cX9_either 30 = .ok (.istore_n 2, 1) := by decide +kernel
theorem dX9_either_31 : decode cX9_either 31 = .ok (.iload_n 1, 1) := by decide +kernel
theorem dX9_either_32 : decode cX9_either 32 = .ok (.ifCond .ne 7, 3) := by decide +kernel
theorem dX9_either_35 : decode cX9_either 35 = .ok (.iload_n 2, 1) := by decide +kernel
theorem dX9_either_36 : decode cX9_either 36 = .ok (.ifCond .eq 7, 3) := by decide +kernel
theorem dX9_either_39 : decode cX9_either 39 = .ok (.iconst 1, 1) := by decide +kernel
theorem dX9_either_40 : decode cX9_either 40 = .ok (.goto 4, 3) := by decide +kernel
theorem dX9_either_43 : decode cX9_either 43 = .ok (.iconst 0, 1) := by decide +kernel
theorem dX9_either_44 : decode cX9_either 44 = .ok (.istore_n 1, 1) := by decide +kernel
theorem dX9_either_45 : decode cX9_either 45 = .ok (.goto (-40), 3) := by decide +kernel
theorem dX9_either_48 : decode cX9_either 48 = .ok (.iload_n 1, 1) := by decide +kernel
theorem dX9_either_49 : decode cX9_either 49 = .ok (.ireturn, 1) := by decide +kernel
theorem dX9_atom_0 : decode cX9_atom 0 = .ok (.iconst 0, 1) := by decide +kernel
theorem dX9_atom_1 : decode cX9_atom 1 = .ok (.istore_n 1, 1) := by decide +kernel
theorem dX9_atom_2 : decode cX9_atom 2 = .ok (.aload_n 0, 1) := by decide +kernel
theorem dX9_atom_3 : decode cX9_atom 3 = .ok (.bipush 45, 2) := by decide +kernel
theorem dX9_atom_5 : decode cX9_atom 5 = .ok (.invokevirtual 201, 3) := by decide +kernel
theorem dX9_atom_8 : decode cX9_atom 8 = .ok (.ifCond .eq 29, 3) := by decide +kernel
theorem dX9_atom_11 : decode cX9_atom 11 = .ok (.aload_n 0, 1) := by decide +kernel
theorem dX9_atom_12 : decode cX9_atom 12 = .ok (.invokevirtual 204, 3) := by decide +kernel
theorem dX9_atom_15 : decode cX9_atom 15 = .ok (.ifCond .eq 146, 3) := by decide +kernel
theorem dX9_atom_18 : decode cX9_atom 18 = .ok (.aload_n 0, 1) := by decide +kernel
theorem dX9_atom_19 : decode cX9_atom 19 = .ok (.invokevirtual 208, 3) := by decide +kernel
theorem dX9_atom_22 : decode cX9_atom 22 = .ok (.ineg, 1) := by decide +kernel
theorem dX9_atom_23 : decode cX9_atom 23 = .ok (.istore_n 1, 1) := by decide +kernel
theorem dX9_atom_24 : decode cX9_atom 24 = .ok (.aload_n 0, 1) := by decide +kernel
theorem dX9_atom_25 : decode cX9_atom 25 = .ok (.dup, 1) := by decide +kernel
theorem dX9_atom_26 : decode cX9_atom 26 = .ok (.getfield 170, 3) := by decide +kernel
theorem dX9_atom_29 : decode cX9_atom 29 = .ok (.iconst 1, 1) := by decide +kernel
theorem dX9_atom_30 : decode cX9_atom 30 = .ok (.isub, 1) := by decide +kernel
theorem dX9_atom_31 : decode cX9_atom 31 = .ok (.putfield 170, 3) := by decide +kernel
theorem dX9_atom_34 : decode cX9_atom 34 = .ok (.goto 127, 3) := by decide +kernel
theorem dX9_atom_37 : decode cX9_atom 37 = .ok (.aload_n 0, 1) := by decide +kernel
theorem dX9_atom_38 : decode cX9_atom 38 = .ok (.bipush 40, 2) := by decide +kernel
theorem dX9_atom_40 : decode cX9_atom 40 = .ok (.invokevirtual 201, 3) := by decide +kernel
theorem dX9_atom_43 : decode cX9_atom 43 = .ok (.ifCond .eq 52, 3) := by decide +kernel
theorem dX9_atom_46 : decode cX9_atom 46 = .ok (.aload_n 0, 1) := by decide +kernel
theorem dX9_atom_47 : decode cX9_atom 47 = .ok (.invokevirtual 204, 3) := by decide +kernel
theorem dX9_atom_50 : decode cX9_atom 50 = .ok (.ifCond .eq 111, 3) := by decide +kernel
theorem dX9_atom_53 : decode cX9_atom 53 = .ok (.aload_n 0, 1) := by decide +kernel
theorem dX9_atom_54 : decode cX9_atom 54 = .ok (.invokevirtual 212, 3) := by decide +kernel
theorem dX9_atom_57 : decode cX9_atom 57 = .ok (.istore_n 1, 1) := by decide +kernel
theorem dX9_atom_58 : decode cX9_atom 58 = .ok (.aload_n 0, 1) := by decide +kernel
theorem dX9_atom_59 : decode cX9_atom 59 = .ok (.bipush 41, 2) := by decide +kernel
theorem dX9_atom_61 : decode cX9_atom 61 = .ok (.invokevirtual 201, 3) := by decide +kernel
theorem dX9_atom_64 : decode cX9_atom 64 = .ok (.ifCond .ne 7, 3) := by decide +kernel
theorem dX9_atom_67 : decode cX9_atom 67 = .ok (.aload_n 0, 1) := by decide +kernel
theorem dX9_atom_68 : decode cX9_atom 68 = .ok (.invokevirtual 173, 3) := by decide +kernel
theorem dX9_atom_71 : decode cX9_atom 71 = .ok (.aload_n 0, 1) := by decide +kernel
theorem dX9_atom_72 : decode cX9_atom 72 = .ok (.dup, 1) := by decide +kernel
theorem dX9_atom_73 : decode cX9_atom 73 = .ok (.getfield 170, 3) := by decide +kernel
theorem dX9_atom_76 : decode cX9_atom 76 = .ok (.iconst 1, 1) := by decide +kernel
theorem dX9_atom_77 : decode cX9_atom 77 = .ok (.isub, 1) := by decide +kernel
theorem dX9_atom_78 : decode cX9_atom 78 = .ok (.putfield 170, 3) := by decide +kernel
theorem dX9_atom_81 : decode cX9_atom 81 = .ok (.aload_n 0, 1) := by decide +kernel
theorem dX9_atom_82 : decode cX9_atom 82 = .ok (.getfield 159, 3) := by decide +kernel
theorem dX9_atom_85 : decode cX9_atom 85 = .ok (.ifCond .ne 76, 3) := by decide +kernel
theorem dX9_atom_88 : decode cX9_atom 88 = .ok (.aload_n 0, 1) := by decide +kernel
theorem dX9_atom_89 : decode cX9_atom 89 = .ok (.invokevirtual 176, 3) := by decide +kernel
theorem dX9_atom_92 : decode cX9_atom 92 = .ok (.goto 69, 3) := by decide +kernel
theorem dX9_atom_95 : decode cX9_atom 95 = .ok (.aload_n 0, 1) := by decide +kernel
theorem dX9_atom_96 : decode cX9_atom 96 = .ok (.getfield 159, 3) := by decide +kernel
theorem dX9_atom_99 : decode cX9_atom 99 = .ok (.ifCond .ne 24, 3) := by decide +kernel
theorem dX9_atom_102 : decode cX9_atom 102 = .ok (.aload_n 0, 1) := by decide +kernel
theorem dX9_atom_103 : decode cX9_atom 103 = .ok (.getfield 142, 3) := by decide +kernel
theorem dX9_atom_106 : decode cX9_atom 106 = .ok (.iconst 2, 1) := by decide +kernel
theorem dX9_atom_107 : decode cX9_atom 107 = .ok (.if_icmp .ne 16, 3) := by decide +kernel
theorem dX9_atom_110 : decode cX9_atom 110 = .ok (.aload_n 0, 1) := by decide +kernel
theorem dX9_atom_111 : decode cX9_atom 111 = .ok (.getfield 153, 3) := by decide +kernel
theorem dX9_atom_114 : decode cX9_atom 114 = .ok (.l2i, 1) := by decide +kernel
theorem dX9_atom_115 : decode cX9_atom 115 = .ok (.istore_n 1, 1) := by decide +kernel
theorem dX9_atom_116 : decode cX9_atom 116 = .ok (.aload_n 0, 1) := by decide +kernel
theorem dX9_atom_117 : decode cX9_atom 117 = .ok (.invokevirtual 176, 3) := by decide +kernel
theorem dX9_atom_120 : decode cX9_atom 120 = .ok (.goto 41, 3) := by decide +kernel
theorem dX9_atom_123 : decode cX9_atom 123 = .ok (.aload_n 0, 1) := by decide +kernel
theorem dX9_atom_124 : decode cX9_atom 124 = .ok (.getfield 159, 3) := by decide +kernel
theorem dX9_atom_127 : decode cX9_atom 127 = .ok (.ifCond .ne 30, 3) := by decide +kernel
theorem dX9_atom_130 : decode cX9_atom 130 = .ok (.aload_n 0, 1) := by decide +kernel
theorem dX9_atom_131 : decode cX9_atom 131 = .ok (.getfield 142, 3) := by decide +kernel
theorem dX9_atom_134 : decode cX9_atom 134 = .ok (.iconst 1, 1) := by decide +kernel
theorem dX9_atom_135 : decode cX9_atom 135 = .ok (.if_icmp .ne 22, 3) := by decide +kernel
theorem dX9_atom_138 : decode cX9_atom 138 = .ok (.aload_n 0, 1) := by decide +kernel
theorem dX9_atom_139 : decode cX9_atom 139 = .ok (.invokevirtual 215, 3) := by decide +kernel
theorem dX9_atom_142 : decode cX9_atom 142 = .ok (.istore_n 1, 1) := by decide +kernel
theorem dX9_atom_143 : decode cX9_atom 143 = .ok (.aload_n 0, 1) := by decide +kernel
theorem dX9_atom_144 : decode cX9_atom 144 = .ok (.getfield 159, 3) := by decide +kernel
theorem dX9_atom_147 : decode cX9_atom 147 = .ok (.ifCond .ne 14, 3) := by decide +kernel
theorem dX9_atom_150 : decode cX9_atom 150 = .ok (.aload_n 0, 1) := by decide +kernel
theorem dX9_atom_151 : decode cX9_atom 151 = .ok (.invokevirtual 176, 3) := by decide +kernel
theorem dX9_atom_154 : decode cX9_atom 154 = .ok (.goto 7, 3) := by decide +kernel
theorem dX9_atom_157 : decode cX9_atom 157 = .ok (.aload_n 0, 1) := by decide +kernel
theorem dX9_atom_158 : decode cX9_atom 158 = .ok (.invokevirtual 173, 3) := by decide +kernel
theorem dX9_atom_161 : decode cX9_atom 161 = .ok (.iload_n 1, 1) := by decide +kernel
theorem dX9_atom_162 : decode cX9_atom 162 = .ok (.ireturn, 1) := by decide +kernel
theorem dX9_part_0 : decode cX9_part 0 = .ok (.iload_n 1, 1) := by decide +kernel
theorem dX9_part_1 : decode cX9_part 1 = .ok (.ifCond .ne 7, 3) := by decide +kernel
theorem dX9_part_4 : decode cX9_part 4 = .ok (.aload_n 0, 1) := by decide +kernel
theorem dX9_part_5 : decode cX9_part 5 = .ok (.invokevirtual 173, 3) := by decide +kernel
theorem dX9_part_8 : decode cX9_part 8 = .ok (.aload_n 0, 1) := by decide +kernel
theorem dX9_part_9 : decode cX9_part 9 = .ok (.getfield 159, 3) := by decide +kernel
theorem dX9_part_12 : decode cX9_part 12 = .ok (.ifCond .ne 7, 3) := by decide +kernel
theorem dX9_part_15 : decode cX9_part 15 = .ok (.aload_n 0, 1) := by decide +kernel
theorem dX9_part_16 : decode cX9_part 16 = .ok (.invokevirtual 176, 3) := by decide +kernel
theorem dX9_part_19 : decode cX9_part 19 = .ok (.aload_n 0, 1) := by decide +kernel
theorem dX9_part_20 : decode cX9_part 20 = .ok (.getfield 159, 3) := by decide +kernel
theorem dX9_part_23 : decode cX9_part 23 = .ok (.ifCond .eq 7, 3) := by decide +kernel
theorem dX9_part_26 : decode cX9_part 26 = .ok (.iconst 0, 1) := by decide +kernel
theorem dX9_part_27 : decode cX9_part 27 = .ok (.goto 7, 3) := by decide +kernel
theorem dX9_part_30 : decode cX9_part 30 = .ok (.aload_n 0, 1) := by decide +kernel
theorem dX9_part_31 : decode cX9_part 31 = .ok (.invokevirtual 212, 3) := by decide +kernel
theorem dX9_part_34 : decode cX9_part 34 = .ok (.istore_n 2, 1) := by decide +kernel
theorem dX9_part_35 : decode cX9_part 35 = .ok (.aload_n 0, 1) := by decide +kernel
theorem dX9_part_36 : decode cX9_part 36 = .ok (.bipush 59, 2) := by decide +kernel
theorem dX9_part_38 : decode cX9_part 38 = .ok (.invokevirtual 201, 3) := by decide +kernel
theorem dX9_part_41 : decode cX9_part 41 = .ok (.ifCond .ne 7, 3) := by decide +kernel
theorem dX9_part_44 : decode cX9_part 44 = .ok (.aload_n 0, 1) := by decide +kernel
theorem dX9_part_45 : decode cX9_part 45 = .ok (.invokevirtual 173, 3) := by decide +kernel
theorem dX9_part_48 : decode cX9_part 48 = .ok (.aload_n 0, 1) := by decide +kernel
theorem dX9_part_49 : decode cX9_part 49 = .ok (.getfield 159, 3) := by decide +kernel
theorem dX9_part_52 : decode cX9_part 52 = .ok (.ifCond .ne 7, 3) := by decide +kernel
theorem dX9_part_55 : decode cX9_part 55 = .ok (.aload_n 0, 1) := by decide +kernel
theorem dX9_part_56 : decode cX9_part 56 = .ok (.invokevirtual 176, 3) := by decide +kernel
theorem dX9_part_59 : decode cX9_part 59 = .ok (.iload_n 2, 1) := by decide +kernel
theorem dX9_part_60 : decode cX9_part 60 = .ok (.ireturn, 1) := by decide +kernel
theorem dX9_read_0 : decode cX9_read 0 = .ok (.aload_n 0, 1) := by decide +kernel
theorem dX9_read_1 : decode cX9_read 1 = .ok (.sipush 160, 3) := by decide +kernel
theorem dX9_read_4 : decode cX9_read 4 = .ok (.iload_n 1, 1) := by decide +kernel
theorem dX9_read_5 : decode cX9_read 5 = .ok (.imul, 1) := by decide +kernel
theorem dX9_read_6 : decode cX9_read 6 = .ok (.putfield 130, 3) := by decide +kernel
theorem dX9_read_9 : decode cX9_read 9 = .ok (.aload_n 0, 1) := by decide +kernel
theorem dX9_read_10 : decode cX9_read 10 = .ok (.aload_n 0, 1) := by decide +kernel
theorem dX9_read_11 : decode cX9_read 11 = .ok (.getfield 17, 3) := by decide +kernel
theorem dX9_read_14 : decode cX9_read 14 = .ok (.iload_n 1, 1) := by decide +kernel
theorem dX9_read_15 : decode cX9_read 15 = .ok (.iaload, 1) := by decide +kernel
theorem dX9_read_16 : decode cX9_read 16 = .ok (.putfield 127, 3) := by decide +kernel
theorem dX9_read_19 : decode cX9_read 19 = .ok (.aload_n 0, 1) := by decide +kernel
theorem dX9_read_20 : decode cX9_read 20 = .ok (.iconst 0, 1) := by decide +kernel
theorem dX9_read_21 : decode cX9_read 21 = .ok (.putfield 133, 3) := by decide +kernel
theorem dX9_read_24 : decode cX9_read 24 = .ok (.aload_n 0, 1) := by decide +kernel
theorem dX9_read_25 : decode cX9_read 25 = .ok (.iconst 0, 1) := by decide +kernel
theorem dX9_read_26 : decode cX9_read 26 = .ok (.putfield 170, 3) := by decide +kernel
theorem dX9_read_29 : decode cX9_read 29 = .ok (.aload_n 0, 1) := by decide +kernel
theorem dX9_read_30 : decode cX9_read 30 = .ok (.iconst 0, 1) := by decide +kernel
theorem dX9_read_31 : decode cX9_read 31 = .ok (.putfield 159, 3) := by decide +kernel
theorem dX9_read_34 : decode cX9_read 34 = .ok (.aload_n 0, 1) := by decide +kernel
theorem dX9_read_35 : decode cX9_read 35 = .ok (.invokevirtual 176, 3) := by decide +kernel
theorem dX9_read_38 : decode cX9_read 38 = .ok (.aload_n 0, 1) := by decide +kernel
theorem dX9_read_39 : decode cX9_read 39 = .ok (.aload_n 0, 1) := by decide +kernel
theorem dX9_read_40 : decode cX9_read 40 = .ok (.bipush 114, 2) := by decide +kernel
theorem dX9_read_42 : decode cX9_read 42 = .ok (.bipush 105, 2) := by decide +kernel
theorem dX9_read_44 : decode cX9_read 44 = .ok (.bipush 112, 2) := by decide +kernel
theorem dX9_read_46 : decode cX9_read 46 = .ok (.bipush 101, 2) := by decide +kernel
theorem dX9_read_48 : decode cX9_read 48 = .ok (.bipush 110, 2) := by decide +kernel
theorem dX9_read_50 : decode cX9_read 50 = .ok (.bipush 115, 2) := by decide +kernel
theorem dX9_read_52 : decode cX9_read 52 = .ok (.iconst 0, 1) := by decide +kernel
theorem dX9_read_53 : decode cX9_read 53 = .ok (.iconst 0, 1) := by decide +kernel
theorem dX9_read_54 : decode cX9_read 54 = .ok (.invokevirtual 179, 3) := by decide +kernel
theorem dX9_read_57 : decode cX9_read 57 = .ok (.invokevirtual 234, 3) := by decide +kernel
theorem dX9_read_60 : decode cX9_read 60 = .ok (.istore_n 3, 1) := by decide +kernel
theorem dX9_read_61 : decode cX9_read 61 = .ok (.aload_n 0, 1) := by decide +kernel
theorem dX9_read_62 : decode cX9_read 62 = .ok (.getfield 159, 3) := by decide +kernel
theorem dX9_read_65 : decode cX9_read 65 = .ok (.ifCond .eq 7, 3) := by decide +kernel
theorem dX9_read_68 : decode cX9_read 68 = .ok (.iconst 0, 1) := by decide +kernel
theorem dX9_read_69 : decode cX9_read 69 = .ok (.goto 24, 3) := by decide +kernel
theorem dX9_read_72 : decode cX9_read 72 = .ok (.aload_n 0, 1) := by decide +kernel
theorem dX9_read_73 : decode cX9_read 73 = .ok (.aload_n 0, 1) := by decide +kernel
theorem dX9_read_74 : decode cX9_read 74 = .ok (.bipush 116, 2) := by decide +kernel
theorem dX9_read_76 : decode cX9_read 76 = .ok (.bipush 97, 2) := by decide +kernel
theorem dX9_read_78 : decode cX9_read 78 = .ok (.bipush 107, 2) := by decide +kernel
theorem dX9_read_80 : decode cX9_read 80 = .ok (.bipush 101, 2) := by decide +kernel
theorem dX9_read_82 : decode cX9_read 82 = .ok (.bipush 115, 2) := by decide +kernel
theorem dX9_read_84 : decode cX9_read 84 = .ok (.iconst 0, 1) := by decide +kernel
theorem dX9_read_85 : decode cX9_read 85 = .ok (.iconst 0, 1) := by decide +kernel
theorem dX9_read_86 : decode cX9_read 86 = .ok (.iconst 0, 1) := by decide +kernel
theorem dX9_read_87 : decode cX9_read 87 = .ok (.invokevirtual 179, 3) := by decide +kernel
theorem dX9_read_90 : decode cX9_read 90 = .ok (.invokevirtual 234, 3) := by decide +kernel
theorem dX9_read_93 : decode cX9_read 93 = .ok (.istore 4, 2) := by decide +kernel
theorem dX9_read_95 : decode cX9_read 95 = .ok (.aload_n 0, 1) := by decide +kernel
theorem dX9_read_96 : decode cX9_read 96 = .ok (.getfield 159, 3) := by decide +kernel
theorem dX9_read_99 : decode cX9_read 99 = .ok (.ifCond .eq 7, 3) := by decide +kernel
theorem dX9_read_102 : decode cX9_read 102 = .ok (.iconst 0, 1) := by decide +kernel
theorem dX9_read_103 : decode cX9_read 103 = .ok (.goto 25, 3) := by decide +kernel
theorem dX9_read_106 : decode cX9_read 106 = .ok (.aload_n 0, 1) := by decide +kernel
theorem dX9_read_107 : decode cX9_read 107 = .ok (.aload_n 0, 1) := by decide +kernel
theorem dX9_read_108 : decode cX9_read 108 = .ok (.bipush 115, 2) := by decide +kernel
theorem dX9_read_110 : decode cX9_read 110 = .ok (.bipush 112, 2) := by decide +kernel
theorem dX9_read_112 : decode cX9_read 112 = .ok (.bipush 111, 2) := by decide +kernel
theorem dX9_read_114 : decode cX9_read 114 = .ok (.bipush 105, 2) := by decide +kernel
theorem dX9_read_116 : decode cX9_read 116 = .ok (.bipush 108, 2) := by decide +kernel
theorem dX9_read_118 : decode cX9_read 118 = .ok (.bipush 115, 2) := by decide +kernel
theorem dX9_read_120 : decode cX9_read 120 = .ok (.iconst 0, 1) := by decide +kernel
theorem dX9_read_121 : decode cX9_read 121 = .ok (.iconst 0, 1) := by decide +kernel
theorem dX9_read_122 : decode cX9_read 122 = .ok (.invokevirtual 179, 3) := by decide +kernel
theorem dX9_read_125 : decode cX9_read 125 = .ok (.invokevirtual 234, 3) := by decide +kernel
theorem dX9_read_128 : decode cX9_read 128 = .ok (.istore 5, 2) := by decide +kernel
theorem dX9_read_130 : decode cX9_read 130 = .ok (.aload_n 0, 1) := by decide +kernel
theorem dX9_read_131 : decode cX9_read 131 = .ok (.getfield 159, 3) := by decide +kernel
theorem dX9_read_134 : decode cX9_read 134 = .ok (.ifCond .ne 14, 3) := by decide +kernel
theorem dX9_read_137 : decode cX9_read 137 = .ok (.aload_n 0, 1) := by decide +kernel
theorem dX9_read_138 : decode cX9_read 138 = .ok (.getfield 142, 3) := by decide +kernel
theorem dX9_read_141 : decode cX9_read 141 = .ok (.ifCond .eq 7, 3) := by decide +kernel
theorem dX9_read_144 : decode cX9_read 144 = .ok (.aload_n 0, 1) := by decide +kernel
theorem dX9_read_145 : decode cX9_read 145 = .ok (.invokevirtual 173, 3) := by decide +kernel
theorem dX9_read_148 : decode cX9_read 148 = .ok (.iload_n 2, 1) := by decide +kernel
theorem dX9_read_149 : decode cX9_read 149 = .ok (.ifCond .ne 7, 3) := by decide +kernel
theorem dX9_read_152 : decode cX9_read 152 = .ok (.iload_n 3, 1) := by decide +kernel
theorem dX9_read_153 : decode cX9_read 153 = .ok (.goto 15, 3) := by decide +kernel
theorem dX9_read_156 : decode cX9_read 156 = .ok (.iload_n 2, 1) := by decide +kernel
theorem dX9_read_157 : decode cX9_read 157 = .ok (.iconst 1, 1) := by decide +kernel
theorem dX9_read_158 : decode cX9_read 158 = .ok (.if_icmp .ne 8, 3) := by decide +kernel
theorem dX9_read_161 : decode cX9_read 161 = .ok (.iload 4, 2) := by decide +kernel
theorem dX9_read_163 : decode cX9_read 163 = .ok (.goto 5, 3) := by decide +kernel
theorem dX9_read_166 : decode cX9_read 166 = .ok (.iload 5, 2) := by decide +kernel
theorem dX9_read_168 : decode cX9_read 168 = .ok (.ireturn, 1) := by decide +kernel
theorem dX9_text_0 : decode cX9_text 0 = .ok (.aload_n 0, 1) := by decide +kernel
theorem dX9_text_1 : decode cX9_text 1 = .ok (.getfield 88, 3) := by decide +kernel
theorem dX9_text_4 : decode cX9_text 4 = .ok (.bipush 6, 2) := by decide +kernel
theorem dX9_text_6 : decode cX9_text 6 = .ok (.if_icmp .ne 6, 3) := by decide +kernel
theorem dX9_text_9 : decode cX9_text 9 = .ok (.bipush (-4), 2) := by decide +kernel
theorem dX9_text_11 : decode cX9_text 11 = .ok (.ireturn, 1) := by decide +kernel
theorem dX9_text_12 : decode cX9_text 12 = .ok (.iconst 0, 1) := by decide +kernel
theorem dX9_text_13 : decode cX9_text 13 = .ok (.istore_n 1, 1) := by decide +kernel
theorem dX9_text_14 : decode cX9_text 14 = .ok (.iload_n 1, 1) := by decide +kernel
theorem dX9_text_15 : decode cX9_text 15 = .ok (.aload_n 0, 1) := by decide +kernel
theorem dX9_text_16 : decode cX9_text 16 = .ok (.getfield 124, 3) := by decide +kernel
theorem dX9_text_19 : decode cX9_text 19 = .ok (.if_icmp .ge 30, 3) := by decide +kernel
theorem dX9_text_22 : decode cX9_text 22 = .ok (.aload_n 0, 1) := by decide +kernel
theorem dX9_text_23 : decode cX9_text 23 = .ok (.getfield 13, 3) := by decide +kernel
theorem dX9_text_26 : decode cX9_text 26 = .ok (.sipush 160, 3) := by decide +kernel
theorem dX9_text_29 : decode cX9_text 29 = .ok (.aload_n 0, 1) := by decide +kernel
theorem dX9_text_30 : decode cX9_text 30 = .ok (.getfield 88, 3) := by decide +kernel
theorem dX9_text_33 : decode cX9_text 33 = .ok (.imul, 1) := by decide +kernel
theorem dX9_text_34 : decode cX9_text 34 = .ok (.iload_n 1, 1) := by decide +kernel
theorem dX9_text_35 : decode cX9_text 35 = .ok (.iadd, 1) := by decide +kernel
theorem dX9_text_36 : decode cX9_text 36 = .ok (.aload_n 0, 1) := by decide +kernel
theorem dX9_text_37 : decode cX9_text 37 = .ok (.getfield 20, 3) := by decide +kernel
theorem dX9_text_40 : decode cX9_text 40 = .ok (.iload_n 1, 1) := by decide +kernel
theorem dX9_text_41 : decode cX9_text 41 = .ok (.iaload, 1) := by decide +kernel
theorem dX9_text_42 : decode cX9_text 42 = .ok (.iastore, 1) := by decide +kernel
theorem dX9_text_43 : decode cX9_text 43 = .ok (.iinc 1 1, 3) := by decide +kernel
theorem dX9_text_46 : decode cX9_text 46 = .ok (.goto (-32), 3) := by decide +kernel
theorem dX9_text_49 : decode cX9_text 49 = .ok (.aload_n 0, 1) := by decide +kernel
theorem dX9_text_50 : decode cX9_text 50 = .ok (.getfield 17, 3) := by decide +kernel
theorem dX9_text_53 : decode cX9_text 53 = .ok (.aload_n 0, 1) := by decide +kernel
theorem dX9_text_54 : decode cX9_text 54 = .ok (.getfield 88, 3) := by decide +kernel
theorem dX9_text_57 : decode cX9_text 57 = .ok (.aload_n 0, 1) := by decide +kernel
theorem dX9_text_58 : decode cX9_text 58 = .ok (.getfield 124, 3) := by decide +kernel
theorem dX9_text_61 : decode cX9_text 61 = .ok (.iastore, 1) := by decide +kernel
theorem dX9_text_62 : decode cX9_text 62 = .ok (.aload_n 0, 1) := by decide +kernel
theorem dX9_text_63 : decode cX9_text 63 = .ok (.iconst 0, 1) := by decide +kernel
theorem dX9_text_64 : decode cX9_text 64 = .ok (.putfield 124, 3) := by decide +kernel
theorem dX9_text_67 : decode cX9_text 67 = .ok (.aload_n 0, 1) := by decide +kernel
theorem dX9_text_68 : decode cX9_text 68 = .ok (.aload_n 0, 1) := by decide +kernel
theorem dX9_text_69 : decode cX9_text 69 = .ok (.getfield 88, 3) := by decide +kernel
theorem dX9_text_72 : decode cX9_text 72 = .ok (.iconst 0, 1) := by decide +kernel
theorem dX9_text_73 : decode cX9_text 73 = .ok (.invokevirtual 238, 3) := by decide +kernel
theorem dX9_text_76 : decode cX9_text 76 = .ok (.istore_n 1, 1) := by decide +kernel
theorem dX9_text_77 : decode cX9_text 77 = .ok (.aload_n 0, 1) := by decide +kernel
theorem dX9_text_78 : decode cX9_text 78 = .ok (.getfield 159, 3) := by decide +kernel
theorem dX9_text_81 : decode cX9_text 81 = .ok (.ifCond .eq 11, 3) := by decide +kernel
theorem dX9_text_84 : decode cX9_text 84 = .ok (.bipush (-100), 2) := by decide +kernel
theorem dX9_text_86 : decode cX9_text 86 = .ok (.aload_n 0, 1) := by decide +kernel
theorem dX9_text_87 : decode cX9_text 87 = .ok (.getfield 163, 3) := by decide +kernel
theorem dX9_text_90 : decode cX9_text 90 = .ok (.isub, 1) := by decide +kernel
theorem dX9_text_91 : decode cX9_text 91 = .ok (.ireturn, 1) := by decide +kernel
theorem dX9_text_92 : decode cX9_text 92 = .ok (.aload_n 0, 1) := by decide +kernel
theorem dX9_text_93 : decode cX9_text 93 = .ok (.dup, 1) := by decide +kernel
theorem dX9_text_94 : decode cX9_text 94 = .ok (.getfield 88, 3) := by decide +kernel
theorem dX9_text_97 : decode cX9_text 97 = .ok (.iconst 1, 1) := by decide +kernel
theorem dX9_text_98 : decode cX9_text 98 = .ok (.iadd, 1) := by decide +kernel
theorem dX9_text_99 : decode cX9_text 99 = .ok (.putfield 88, 3) := by decide +kernel
theorem dX9_text_102 : decode cX9_text 102 = .ok (.aload_n 0, 1) := by decide +kernel
theorem dX9_text_103 : decode cX9_text 103 = .ok (.getfield 88, 3) := by decide +kernel
theorem dX9_text_106 : decode cX9_text 106 = .ok (.iconst 1, 1) := by decide +kernel
theorem dX9_text_107 : decode cX9_text 107 = .ok (.isub, 1) := by decide +kernel
theorem dX9_text_108 : decode cX9_text 108 = .ok (.ireturn, 1) := by decide +kernel
theorem dX9_force_0 : decode cX9_force 0 = .ok (.iload_n 1, 1) := by decide +kernel
theorem dX9_force_1 : decode cX9_force 1 = .ok (.i2l, 1) := by decide +kernel
theorem dX9_force_2 : decode cX9_force 2 = .ok (.lconst 0, 1) := by decide +kernel
theorem dX9_force_3 : decode cX9_force 3 = .ok (.aload_n 0, 1) := by decide +kernel
theorem dX9_force_4 : decode cX9_force 4 = .ok (.getfield 88, 3) := by decide +kernel
theorem dX9_force_7 : decode cX9_force 7 = .ok (.iconst 1, 1) := by decide +kernel
theorem dX9_force_8 : decode cX9_force 8 = .ok (.isub, 1) := by decide +kernel
theorem dX9_force_9 : decode cX9_force 9 = .ok (.i2l, 1) := by decide +kernel
theorem dX9_force_10 : decode cX9_force 10 = .ok (.invokestatic 94, 3) := by decide +kernel
theorem dX9_force_13 : decode cX9_force 13 = .ok (.ifCond .ne 6, 3) := by decide +kernel
theorem dX9_force_16 : decode cX9_force 16 = .ok (.bipush (-2), 2) := by decide +kernel
theorem dX9_force_18 : decode cX9_force 18 = .ok (.ireturn, 1) := by decide +kernel
theorem dX9_force_19 : decode cX9_force 19 = .ok (.aload_n 0, 1) := by decide +kernel
theorem dX9_force_20 : decode cX9_force 20 = .ok (.getfield 242, 3) := by decide +kernel
theorem dX9_force_23 : decode cX9_force 23 = .ok (.istore_n 2, 1) := by decide +kernel
theorem dX9_force_24 : decode cX9_force 24 = .ok (.aload_n 0, 1) := by decide +kernel
theorem dX9_force_25 : decode cX9_force 25 = .ok (.iload_n 1, 1) := by decide +kernel
theorem dX9_force_26 : decode cX9_force 26 = .ok (.putfield 242, 3) := by decide +kernel
theorem dX9_force_29 : decode cX9_force 29 = .ok (.iload_n 2, 1) := by decide +kernel
theorem dX9_force_30 : decode cX9_force 30 = .ok (.ireturn, 1) := by decide +kernel
theorem dX9_says_0 : decode cX9_says 0 = .ok (.aload_n 0, 1) := by decide +kernel
theorem dX9_says_1 : decode cX9_says 1 = .ok (.aload_n 0, 1) := by decide +kernel
theorem dX9_says_2 : decode cX9_says 2 = .ok (.getfield 23, 3) := by decide +kernel
theorem dX9_says_5 : decode cX9_says 5 = .ok (.iconst 0, 1) := by decide +kernel
theorem dX9_says_6 : decode cX9_says 6 = .ok (.iaload, 1) := by decide +kernel
theorem dX9_says_7 : decode cX9_says 7 = .ok (.putfield 183, 3) := by decide +kernel
theorem dX9_says_10 : decode cX9_says 10 = .ok (.aload_n 0, 1) := by decide +kernel
theorem dX9_says_11 : decode cX9_says 11 = .ok (.aload_n 0, 1) := by decide +kernel
theorem dX9_says_12 : decode cX9_says 12 = .ok (.getfield 23, 3) := by decide +kernel
theorem dX9_says_15 : decode cX9_says 15 = .ok (.iconst 1, 1) := by decide +kernel
theorem dX9_says_16 : decode cX9_says 16 = .ok (.iaload, 1) := by decide +kernel
theorem dX9_says_17 : decode cX9_says 17 = .ok (.putfield 186, 3) := by decide +kernel
theorem dX9_says_20 : decode cX9_says 20 = .ok (.aload_n 0, 1) := by decide +kernel
theorem dX9_says_21 : decode cX9_says 21 = .ok (.aload_n 0, 1) := by decide +kernel
theorem dX9_says_22 : decode cX9_says 22 = .ok (.getfield 23, 3) := by decide +kernel
theorem dX9_says_25 : decode cX9_says 25 = .ok (.iconst 2, 1) := by decide +kernel
theorem dX9_says_26 : decode cX9_says 26 = .ok (.iaload, 1) := by decide +kernel
theorem dX9_says_27 : decode cX9_says 27 = .ok (.putfield 189, 3) := by decide +kernel
theorem dX9_says_30 : decode cX9_says 30 = .ok (.aload_n 0, 1) := by decide +kernel
theorem dX9_says_31 : decode cX9_says 31 = .ok (.aload_n 0, 1) := by decide +kernel
theorem dX9_says_32 : decode cX9_says 32 = .ok (.getfield 32, 3) := by decide +kernel
theorem dX9_says_35 : decode cX9_says 35 = .ok (.iload_n 2, 1) := by decide +kernel
theorem dX9_says_36 : decode cX9_says 36 = .ok (.iaload, 1) := by decide +kernel
theorem dX9_says_37 : decode cX9_says 37 = .ok (.putfield 192, 3) := by decide +kernel
theorem dX9_says_40 : decode cX9_says 40 = .ok (.aload_n 0, 1) := by decide +kernel
theorem dX9_says_41 : decode cX9_says 41 = .ok (.iload_n 3, 1) := by decide +kernel
theorem dX9_says_42 : decode cX9_says 42 = .ok (.putfield 195, 3) := by decide +kernel
theorem dX9_says_45 : decode cX9_says 45 = .ok (.aload_n 0, 1) := by decide +kernel
theorem dX9_says_46 : decode cX9_says 46 = .ok (.aload_n 0, 1) := by decide +kernel
theorem dX9_says_47 : decode cX9_says 47 = .ok (.getfield 29, 3) := by decide +kernel
theorem dX9_says_50 : decode cX9_says 50 = .ok (.iload_n 2, 1) := by decide +kernel
theorem dX9_says_51 : decode cX9_says 51 = .ok (.iaload, 1) := by decide +kernel
theorem dX9_says_52 : decode cX9_says 52 = .ok (.putfield 198, 3) := by decide +kernel
theorem dX9_says_55 : decode cX9_says 55 = .ok (.aload_n 0, 1) := by decide +kernel
theorem dX9_says_56 : decode cX9_says 56 = .ok (.aload_n 0, 1) := by decide +kernel
theorem dX9_says_57 : decode cX9_says 57 = .ok (.getfield 242, 3) := by decide +kernel
theorem dX9_says_60 : decode cX9_says 60 = .ok (.iload_n 1, 1) := by decide +kernel
theorem dX9_says_61 : decode cX9_says 61 = .ok (.invokevirtual 238, 3) := by decide +kernel
theorem dX9_says_64 : decode cX9_says 64 = .ok (.iload 4, 2) := by decide +kernel
theorem dX9_says_66 : decode cX9_says 66 = .ok (.iload 5, 2) := by decide +kernel
theorem dX9_says_68 : decode cX9_says 68 = .ok (.invokestatic 245, 3) := by decide +kernel
theorem dX9_says_71 : decode cX9_says 71 = .ok (.ireturn, 1) := by decide +kernel
theorem dX9_ripensOf_0 : decode cX9_ripensOf 0 = .ok (.aload_n 0, 1) := by decide +kernel
theorem dX9_ripensOf_1 : decode cX9_ripensOf 1 = .ok (.getfield 26, 3) := by decide +kernel
theorem dX9_ripensOf_4 : decode cX9_ripensOf 4 = .ok (.iload_n 1, 1) := by decide +kernel
theorem dX9_ripensOf_5 : decode cX9_ripensOf 5 = .ok (.iaload, 1) := by decide +kernel
theorem dX9_ripensOf_6 : decode cX9_ripensOf 6 = .ok (.istore_n 2, 1) := by decide +kernel
theorem dX9_ripensOf_7 : decode cX9_ripensOf 7 = .ok (.aload_n 0, 1) := by decide +kernel
theorem dX9_ripensOf_8 : decode cX9_ripensOf 8 = .ok (.getfield 29, 3) := by decide +kernel
theorem dX9_ripensOf_11 : decode cX9_ripensOf 11 = .ok (.iload_n 1, 1) := by decide +kernel
theorem dX9_ripensOf_12 : decode cX9_ripensOf 12 = .ok (.iaload, 1) := by decide +kernel
theorem dX9_ripensOf_13 : decode cX9_ripensOf 13 = .ok (.istore_n 3, 1) := by decide +kernel
theorem dX9_ripensOf_14 : decode cX9_ripensOf 14 = .ok (.aload_n 0, 1) := by decide +kernel
theorem dX9_ripensOf_15 : decode cX9_ripensOf 15 = .ok (.iconst 0, 1) := by decide +kernel
theorem dX9_ripensOf_16 : decode cX9_ripensOf 16 = .ok (.iload_n 1, 1) := by decide +kernel
theorem dX9_ripensOf_17 : decode cX9_ripensOf 17 = .ok (.iconst 0, 1) := by decide +kernel
theorem dX9_ripensOf_18 : decode cX9_ripensOf 18 = .ok (.iconst 1, 1) := by decide +kernel
theorem dX9_ripensOf_19 : decode cX9_ripensOf 19 = .ok (.sipush 240, 3) := by decide +kernel
theorem dX9_ripensOf_22 : decode cX9_ripensOf 22 = .ok (.invokevirtual 249, 3) := by decide +kernel
theorem dX9_ripensOf_25 : decode cX9_ripensOf 25 = .ok (.istore 4, 2) := by decide +kernel
theorem dX9_ripensOf_27 : decode cX9_ripensOf 27 = .ok (.iload_n 2, 1) := by decide +kernel
theorem dX9_ripensOf_28 : decode cX9_ripensOf 28 = .ok (.iconst 1, 1) := by decide +kernel
theorem dX9_ripensOf_29 : decode cX9_ripensOf 29 = .ok (.if_icmp .eq 8, 3) := by decide +kernel
theorem dX9_ripensOf_32 : decode cX9_ripensOf 32 = .ok (.iload_n 2, 1) := by decide +kernel
theorem dX9_ripensOf_33 : decode cX9_ripensOf 33 = .ok (.iconst 3, 1) := by decide +kernel
theorem dX9_ripensOf_34 : decode cX9_ripensOf 34 = .ok (.if_icmp .ne 47, 3) := by decide +kernel
theorem dX9_ripensOf_37 : decode cX9_ripensOf 37 = .ok (.aload_n 0, 1) := by decide +kernel
theorem dX9_ripensOf_38 : decode cX9_ripensOf 38 = .ok (.getfield 35, 3) := by decide +kernel
theorem dX9_ripensOf_41 : decode cX9_ripensOf 41 = .ok (.iload_n 1, 1) := by decide +kernel
theorem dX9_ripensOf_42 : decode cX9_ripensOf 42 = .ok (.iaload, 1) := by decide +kernel
theorem dX9_ripensOf_43 : decode cX9_ripensOf 43 = .ok (.iconst 1, 1) := by decide +kernel
theorem dX9_ripensOf_44 : decode cX9_ripensOf 44 = .ok (.if_icmp .ne 10, 3) := by decide +kernel
theorem dX9_ripensOf_47 : decode cX9_ripensOf 47 = .ok (.iload 4, 2) := by decide +kernel
theorem dX9_ripensOf_49 : decode cX9_ripensOf 49 = .ok (.iload_n 3, 1) := by decide +kernel
theorem dX9_ripensOf_50 : decode cX9_ripensOf 50 = .ok (.isub, 1) := by decide +kernel
theorem dX9_ripensOf_51 : decode cX9_ripensOf 51 = .ok (.goto 9, 3) := by decide +kernel
theorem dX9_ripensOf_54 : decode cX9_ripensOf 54 = .ok (.iload 4, 2) := by decide +kernel
theorem dX9_ripensOf_56 : decode cX9_ripensOf 56 = .ok (.iconst 3, 1) := by decide +kernel
theorem dX9_ripensOf_57 : decode cX9_ripensOf 57 = .ok (.iload_n 3, 1) := by decide +kernel
theorem dX9_ripensOf_58 : decode cX9_ripensOf 58 = .ok (.imul, 1) := by decide +kernel
theorem dX9_ripensOf_59 : decode cX9_ripensOf 59 = .ok (.isub, 1) := by decide +kernel
theorem dX9_ripensOf_60 : decode cX9_ripensOf 60 = .ok (.istore 5, 2) := by decide +kernel
theorem dX9_ripensOf_62 : decode cX9_ripensOf 62 = .ok (.iload_n 2, 1) := by decide +kernel
theorem dX9_ripensOf_63 : decode cX9_ripensOf 63 = .ok (.iconst 3, 1) := by decide +kernel
theorem dX9_ripensOf_64 : decode cX9_ripensOf 64 = .ok (.if_icmp .ne 10, 3) := by decide +kernel
theorem dX9_ripensOf_67 : decode cX9_ripensOf 67 = .ok (.iload 5, 2) := by decide +kernel
theorem dX9_ripensOf_69 : decode cX9_ripensOf 69 = .ok (.iconst 2, 1) := by decide +kernel
theorem dX9_ripensOf_70 : decode cX9_ripensOf 70 = .ok (.idiv, 1) := by decide +kernel
theorem dX9_ripensOf_71 : decode cX9_ripensOf 71 = .ok (.goto 5, 3) := by decide +kernel
theorem dX9_ripensOf_74 : decode cX9_ripensOf 74 = .ok (.iload 5, 2) := by decide +kernel
theorem dX9_ripensOf_76 : decode cX9_ripensOf 76 = .ok (.istore 4, 2) := by decide +kernel
theorem dX9_ripensOf_78 : decode cX9_ripensOf 78 = .ok (.goto 41, 3) := by decide +kernel
theorem dX9_ripensOf_81 : decode cX9_ripensOf 81 = .ok (.iload_n 2, 1) := by decide +kernel
theorem dX9_ripensOf_82 : decode cX9_ripensOf 82 = .ok (.iconst 2, 1) := by decide +kernel
theorem dX9_ripensOf_83 : decode cX9_ripensOf 83 = .ok (.if_icmp .eq 8, 3) := by decide +kernel
theorem dX9_ripensOf_86 : decode cX9_ripensOf 86 = .ok (.iload_n 2, 1) := by decide +kernel
theorem dX9_ripensOf_87 : decode cX9_ripensOf 87 = .ok (.iconst 4, 1) := by decide +kernel
theorem dX9_ripensOf_88 : decode cX9_ripensOf 88 = .ok (.if_icmp .ne 31, 3) := by decide +kernel
theorem dX9_ripensOf_91 : decode cX9_ripensOf 91 = .ok (.iload_n 2, 1) := by decide +kernel
theorem dX9_ripensOf_92 : decode cX9_ripensOf 92 = .ok (.iconst 4, 1) := by decide +kernel
theorem dX9_ripensOf_93 : decode cX9_ripensOf 93 = .ok (.if_icmp .ne 18, 3) := by decide +kernel
theorem dX9_ripensOf_96 : decode cX9_ripensOf 96 = .ok (.aload_n 0, 1) := by decide +kernel
theorem dX9_ripensOf_97 : decode cX9_ripensOf 97 = .ok (.getfield 35, 3) := by decide +kernel
theorem dX9_ripensOf_100 : decode cX9_ripensOf 100 = .ok (.iload_n 1, 1) := by decide +kernel
theorem dX9_ripensOf_101 : decode cX9_ripensOf 101 = .ok (.iaload, 1) := by decide +kernel
theorem dX9_ripensOf_102 : decode cX9_ripensOf 102 = .ok (.iconst 1, 1) := by decide +kernel
theorem dX9_ripensOf_103 : decode cX9_ripensOf 103 = .ok (.if_icmp .ne 8, 3) := by decide +kernel
theorem dX9_ripensOf_106 : decode cX9_ripensOf 106 = .ok (.iload 4, 2) := by decide +kernel
theorem dX9_ripensOf_108 : decode cX9_ripensOf 108 = .ok (.goto 9, 3) := by decide +kernel
theorem dX9_ripensOf_111 : decode cX9_ripensOf 111 = .ok (.iload 4, 2) := by decide +kernel
theorem dX9_ripensOf_113 : decode cX9_ripensOf 113 = .ok (.iconst 2, 1) := by decide +kernel
theorem dX9_ripensOf_114 : decode cX9_ripensOf 114 = .ok (.iload_n 3, 1) := by decide +kernel
theorem dX9_ripensOf_115 : decode cX9_ripensOf 115 = .ok (.imul, 1) := by decide +kernel
theorem dX9_ripensOf_116 : decode cX9_ripensOf 116 = .ok (.iadd, 1) := by decide +kernel
theorem dX9_ripensOf_117 : decode cX9_ripensOf 117 = .ok (.istore 4, 2) := by decide +kernel
theorem dX9_ripensOf_119 : decode cX9_ripensOf 119 = .ok (.iload 4, 2) := by decide +kernel
theorem dX9_ripensOf_121 : decode cX9_ripensOf 121 = .ok (.iconst 1, 1) := by decide +kernel
theorem dX9_ripensOf_122 : decode cX9_ripensOf 122 = .ok (.if_icmp .ge 7, 3) := by decide +kernel
theorem dX9_ripensOf_125 : decode cX9_ripensOf 125 = .ok (.iconst 1, 1) := by decide +kernel
theorem dX9_ripensOf_126 : decode cX9_ripensOf 126 = .ok (.goto 5, 3) := by decide +kernel
theorem dX9_ripensOf_129 : decode cX9_ripensOf 129 = .ok (.iload 4, 2) := by decide +kernel
theorem dX9_ripensOf_131 : decode cX9_ripensOf 131 = .ok (.ireturn, 1) := by decide +kernel
theorem dX9_takesOf_0 : decode cX9_takesOf 0 = .ok (.aload_n 0, 1) := by decide +kernel
theorem dX9_takesOf_1 : decode cX9_takesOf 1 = .ok (.getfield 32, 3) := by decide +kernel
theorem dX9_takesOf_4 : decode cX9_takesOf 4 = .ok (.iload_n 1, 1) := by decide +kernel
theorem dX9_takesOf_5 : decode cX9_takesOf 5 = .ok (.iaload, 1) := by decide +kernel
theorem dX9_takesOf_6 : decode cX9_takesOf 6 = .ok (.aload_n 0, 1) := by decide +kernel
theorem dX9_takesOf_7 : decode cX9_takesOf 7 = .ok (.iconst 1, 1) := by decide +kernel
theorem dX9_takesOf_8 : decode cX9_takesOf 8 = .ok (.iload_n 1, 1) := by decide +kernel
theorem dX9_takesOf_9 : decode cX9_takesOf 9 = .ok (.iconst 0, 1) := by decide +kernel
theorem dX9_takesOf_10 : decode cX9_takesOf 10 = .ok (.iconst 1, 1) := by decide +kernel
theorem dX9_takesOf_11 : decode cX9_takesOf 11 = .ok (.bipush 20, 2) := by decide +kernel
theorem dX9_takesOf_13 : decode cX9_takesOf 13 = .ok (.invokevirtual 249, 3) := by decide +kernel
theorem dX9_takesOf_16 : decode cX9_takesOf 16 = .ok (.imul, 1) := by decide +kernel
theorem dX9_takesOf_17 : decode cX9_takesOf 17 = .ok (.istore_n 2, 1) := by decide +kernel
theorem dX9_takesOf_18 : decode cX9_takesOf 18 = .ok (.aload_n 0, 1) := by decide +kernel
theorem dX9_takesOf_19 : decode cX9_takesOf 19 = .ok (.getfield 26, 3) := by decide +kernel
theorem dX9_takesOf_22 : decode cX9_takesOf 22 = .ok (.iload_n 1, 1) := by decide +kernel
theorem dX9_takesOf_23 : decode cX9_takesOf 23 = .ok (.iaload, 1) := by decide +kernel
theorem dX9_takesOf_24 : decode cX9_takesOf 24 = .ok (.istore_n 3, 1) := by decide +kernel
theorem dX9_takesOf_25 : decode cX9_takesOf 25 = .ok (.iload_n 3, 1) := by decide +kernel
theorem dX9_takesOf_26 : decode cX9_takesOf 26 = .ok (.iconst 3, 1) := by decide +kernel
theorem dX9_takesOf_27 : decode cX9_takesOf 27 = .ok (.if_icmp .ne 9, 3) := by decide +kernel
theorem dX9_takesOf_30 : decode cX9_takesOf 30 = .ok (.iload_n 2, 1) := by decide +kernel
theorem dX9_takesOf_31 : decode cX9_takesOf 31 = .ok (.iconst 3, 1) := by decide +kernel
theorem dX9_takesOf_32 : decode cX9_takesOf 32 = .ok (.iadd, 1) := by decide +kernel
theorem dX9_takesOf_33 : decode cX9_takesOf 33 = .ok (.goto 15, 3) := by decide +kernel
theorem dX9_takesOf_36 : decode cX9_takesOf 36 = .ok (.iload_n 3, 1) := by decide +kernel
theorem dX9_takesOf_37 : decode cX9_takesOf 37 = .ok (.iconst 5, 1) := by decide +kernel
theorem dX9_takesOf_38 : decode cX9_takesOf 38 = .ok (.if_icmp .ne 9, 3) := by decide +kernel
theorem dX9_takesOf_41 : decode cX9_takesOf 41 = .ok (.iconst 2, 1) := by decide +kernel
theorem dX9_takesOf_42 : decode cX9_takesOf 42 = .ok (.iload_n 2, 1) := by decide +kernel
theorem dX9_takesOf_43 : decode cX9_takesOf 43 = .ok (.imul, 1) := by decide +kernel
theorem dX9_takesOf_44 : decode cX9_takesOf 44 = .ok (.goto 4, 3) := by decide +kernel
theorem dX9_takesOf_47 : decode cX9_takesOf 47 = .ok (.iload_n 2, 1) := by decide +kernel
theorem dX9_takesOf_48 : decode cX9_takesOf 48 = .ok (.istore 4, 2) := by decide +kernel
theorem dX9_takesOf_50 : decode cX9_takesOf 50 = .ok (.iload 4, 2) := by decide +kernel
theorem dX9_takesOf_52 : decode cX9_takesOf 52 = .ok (.iconst 1, 1) := by decide +kernel
theorem dX9_takesOf_53 : decode cX9_takesOf 53 = .ok (.if_icmp .ge 7, 3) := by decide +kernel
theorem dX9_takesOf_56 : decode cX9_takesOf 56 = .ok (.iconst 1, 1) := by decide +kernel
theorem dX9_takesOf_57 : decode cX9_takesOf 57 = .ok (.goto 5, 3) := by decide +kernel
theorem dX9_takesOf_60 : decode cX9_takesOf 60 = .ok (.iload 4, 2) := by decide +kernel
theorem dX9_takesOf_62 : decode cX9_takesOf 62 = .ok (.ireturn, 1) := by decide +kernel
theorem dX9_set_0 : decode cX9_set 0 = .ok (.iload_n 1, 1) := by decide +kernel
theorem dX9_set_1 : decode cX9_set 1 = .ok (.i2l, 1) := by decide +kernel
theorem dX9_set_2 : decode cX9_set 2 = .ok (.lconst 0, 1) := by decide +kernel
theorem dX9_set_3 : decode cX9_set 3 = .ok (.ldc2_w 98, 3) := by decide +kernel
theorem dX9_set_6 : decode cX9_set 6 = .ok (.invokestatic 94, 3) := by decide +kernel
theorem dX9_set_9 : decode cX9_set 9 = .ok (.ifCond .eq 16, 3) := by decide +kernel
theorem dX9_set_12 : decode cX9_set 12 = .ok (.iload_n 1, 1) := by decide +kernel
theorem dX9_set_13 : decode cX9_set 13 = .ok (.iconst 5, 1) := by decide +kernel
theorem dX9_set_14 : decode cX9_set 14 = .ok (.if_icmp .le 14, 3) := by decide +kernel
theorem dX9_set_17 : decode cX9_set 17 = .ok (.aload_n 0, 1) := by decide +kernel
theorem dX9_set_18 : decode cX9_set 18 = .ok (.iload_n 2, 1) := by decide +kernel
theorem dX9_set_19 : decode cX9_set 19 = .ok (.invokevirtual 100, 3) := by decide +kernel
theorem dX9_set_22 : decode cX9_set 22 = .ok (.ifCond .ne 6, 3) := by decide +kernel
theorem dX9_set_25 : decode cX9_set 25 = .ok (.bipush (-2), 2) := by decide +kernel
theorem dX9_set_27 : decode cX9_set 27 = .ok (.ireturn, 1) := by decide +kernel
theorem dX9_set_28 : decode cX9_set 28 = .ok (.iload_n 1, 1) := by decide +kernel
theorem dX9_set_29 : decode cX9_set 29 = .ok (.ifCond .ne 8, 3) := by decide +kernel
theorem dX9_set_32 : decode cX9_set 32 = .ok (.bipush 40, 2) := by decide +kernel
theorem dX9_set_34 : decode cX9_set 34 = .ok (.goto 50, 3) := by decide +kernel
theorem dX9_set_37 : decode cX9_set 37 = .ok (.iload_n 1, 1) := by decide +kernel
theorem dX9_set_38 : decode cX9_set 38 = .ok (.iconst 3, 1) := by decide +kernel
theorem dX9_set_39 : decode cX9_set 39 = .ok (.if_icmp .ne 7, 3) := by decide +kernel
theorem dX9_set_42 : decode cX9_set 42 = .ok (.iconst 2, 1) := by decide +kernel
theorem dX9_set_43 : decode cX9_set 43 = .ok (.goto 41, 3) := by decide +kernel
theorem dX9_set_46 : decode cX9_set 46 = .ok (.iload_n 1, 1) := by decide +kernel
theorem dX9_set_47 : decode cX9_set 47 = .ok (.iconst 4, 1) := by decide +kernel
theorem dX9_set_48 : decode cX9_set 48 = .ok (.if_icmp .ne 8, 3) := by decide +kernel
theorem dX9_set_51 : decode cX9_set 51 = .ok (.bipush 60, 2) := by decide +kernel
theorem dX9_set_53 : decode cX9_set 53 = .ok (.goto 31, 3) := by decide +kernel
theorem dX9_set_56 : decode cX9_set 56 = .ok (.iload_n 1, 1) := by decide +kernel
theorem dX9_set_57 : decode cX9_set 57 = .ok (.iconst 5, 1) := by decide +kernel
theorem dX9_set_58 : decode cX9_set 58 = .ok (.if_icmp .eq 9, 3) := by decide +kernel
theorem dX9_set_61 : decode cX9_set 61 = .ok (.iload_n 1, 1) := by decide +kernel
theorem dX9_set_62 : decode cX9_set 62 = .ok (.bipush 7, 2) := by decide +kernel
theorem dX9_set_64 : decode cX9_set 64 = .ok (.if_icmp .ne 8, 3) := by decide +kernel
theorem dX9_set_67 : decode cX9_set 67 = .ok (.bipush 20, 2) := by decide +kernel
theorem dX9_set_69 : decode cX9_set 69 = .ok (.goto 15, 3) := by decide +kernel
theorem dX9_set_72 : decode cX9_set 72 = .ok (.iload_n 1, 1) := by decide +kernel
theorem dX9_set_73 : decode cX9_set 73 = .ok (.bipush 8, 2) := by decide +kernel
theorem dX9_set_75 : decode cX9_set 75 = .ok (.if_icmp .ne 7, 3) := by decide +kernel
theorem dX9_set_78 : decode cX9_set 78 = .ok (.iconst 1, 1) := by decide +kernel
theorem dX9_set_79 : decode cX9_set 79 = .ok (.goto 5, 3) := by decide +kernel
theorem dX9_set_82 : decode cX9_set 82 = .ok (.bipush 9, 2) := by decide +kernel
theorem dX9_set_84 : decode cX9_set 84 = .ok (.istore 4, 2) := by decide +kernel
theorem dX9_set_86 : decode cX9_set 86 = .ok (.iload_n 3, 1) := by decide +kernel
theorem dX9_set_87 : decode cX9_set 87 = .ok (.i2l, 1) := by decide +kernel
theorem dX9_set_88 : decode cX9_set 88 = .ok (.iload_n 1, 1) := by decide +kernel
theorem dX9_set_89 : decode cX9_set 89 = .ok (.iconst 3, 1) := by decide +kernel
theorem dX9_set_90 : decode cX9_set 90 = .ok (.if_icmp .eq 9, 3) := by decide +kernel
theorem dX9_set_93 : decode cX9_set 93 = .ok (.iload_n 1, 1) := by decide +kernel
theorem dX9_set_94 : decode cX9_set 94 = .ok (.bipush 7, 2) := by decide +kernel
theorem dX9_set_96 : decode cX9_set 96 = .ok (.if_icmp .ne 7, 3) := by decide +kernel
theorem dX9_set_99 : decode cX9_set 99 = .ok (.lconst 1, 1) := by decide +kernel
theorem dX9_set_100 : decode cX9_set 100 = .ok (.goto 4, 3) := by decide +kernel
theorem dX9_set_103 : decode cX9_set 103 = .ok (.lconst 0, 1) := by decide +kernel
theorem dX9_set_104 : decode cX9_set 104 = .ok (.iload 4, 2) := by decide +kernel
theorem dX9_set_106 : decode cX9_set 106 = .ok (.i2l, 1) := by decide +kernel
theorem dX9_set_107 : decode cX9_set 107 = .ok (.invokestatic 94, 3) := by decide +kernel
theorem dX9_set_110 : decode cX9_set 110 = .ok (.ifCond .ne 6, 3) := by decide +kernel
theorem dX9_set_113 : decode cX9_set 113 = .ok (.bipush (-2), 2) := by decide +kernel
theorem dX9_set_115 : decode cX9_set 115 = .ok (.ireturn, 1) := by decide +kernel
theorem dX9_set_116 : decode cX9_set 116 = .ok (.iload_n 1, 1) := by decide +kernel
theorem dX9_set_117 : decode cX9_set 117 = .ok (.bipush 6, 2) := by decide +kernel
theorem dX9_set_119 : decode cX9_set 119 = .ok (.if_icmp .ge 12, 3) := by decide +kernel
theorem dX9_set_122 : decode cX9_set 122 = .ok (.aload_n 0, 1) := by decide +kernel
theorem dX9_set_123 : decode cX9_set 123 = .ok (.getfield 23, 3) := by decide +kernel
theorem dX9_set_126 : decode cX9_set 126 = .ok (.iload_n 1, 1) := by decide +kernel
theorem dX9_set_127 : decode cX9_set 127 = .ok (.iaload, 1) := by decide +kernel
theorem dX9_set_128 : decode cX9_set 128 = .ok (.goto 39, 3) := by decide +kernel
theorem dX9_set_131 : decode cX9_set 131 = .ok (.iload_n 1, 1) := by decide +kernel
theorem dX9_set_132 : decode cX9_set 132 = .ok (.bipush 6, 2) := by decide +kernel
theorem dX9_set_134 : decode cX9_set 134 = .ok (.if_icmp .ne 12, 3) := by decide +kernel
theorem dX9_set_137 : decode cX9_set 137 = .ok (.aload_n 0, 1) := by decide +kernel
theorem dX9_set_138 : decode cX9_set 138 = .ok (.getfield 29, 3) := by decide +kernel
theorem dX9_set_141 : decode cX9_set 141 = .ok (.iload_n 2, 1) := by decide +kernel
theorem dX9_set_142 : decode cX9_set 142 = .ok (.iaload, 1) := by decide +kernel
theorem dX9_set_143 : decode cX9_set 143 = .ok (.goto 24, 3) := by decide +kernel
theorem dX9_set_146 : decode cX9_set 146 = .ok (.iload_n 1, 1) := by decide +kernel
theorem dX9_set_147 : decode cX9_set 147 = .ok (.bipush 7, 2) := by decide +kernel
theorem dX9_set_149 : decode cX9_set 149 = .ok (.if_icmp .ne 12, 3) := by decide +kernel
theorem dX9_set_152 : decode cX9_set 152 = .ok (.aload_n 0, 1) := by decide +kernel
theorem dX9_set_153 : decode cX9_set 153 = .ok (.getfield 32, 3) := by decide +kernel
theorem dX9_set_156 : decode cX9_set 156 = .ok (.iload_n 2, 1) := by decide +kernel
theorem dX9_set_157 : decode cX9_set 157 = .ok (.iaload, 1) := by decide +kernel
theorem dX9_set_158 : decode cX9_set 158 = .ok (.goto 9, 3) := by decide +kernel
theorem dX9_set_161 : decode cX9_set 161 = .ok (.aload_n 0, 1) := by decide +kernel
theorem dX9_set_162 : decode cX9_set 162 = .ok (.getfield 35, 3) := by decide +kernel
theorem dX9_set_165 : decode cX9_set 165 = .ok (.iload_n 2, 1) := by decide +kernel
theorem dX9_set_166 : decode cX9_set 166 = .ok (.iaload, 1) := by decide +kernel
theorem dX9_set_167 : decode cX9_set 167 = .ok (.istore 5, 2) := by decide +kernel
theorem dX9_set_169 : decode cX9_set 169 = .ok (.iload_n 1, 1) := by decide +kernel
theorem dX9_set_170 : decode cX9_set 170 = .ok (.bipush 6, 2) := by decide +kernel
theorem dX9_set_172 : decode cX9_set 172 = .ok (.if_icmp .ge 13, 3) := by decide +kernel
theorem dX9_set_175 : decode cX9_set 175 = .ok (.aload_n 0, 1) := by decide +kernel
theorem dX9_set_176 : decode cX9_set 176 = .ok (.getfield 23, 3) := by decide +kernel
theorem dX9_set_179 : decode cX9_set 179 = .ok (.iload_n 1, 1) := by decide +kernel
theorem dX9_set_180 : decode cX9_set 180 = .ok (.iload_n 3, 1) := by decide +kernel
theorem dX9_set_181 : decode cX9_set 181 = .ok (.iastore, 1) := by decide +kernel
theorem dX9_set_182 : decode cX9_set 182 = .ok (.goto 42, 3) := by decide +kernel
theorem dX9_set_185 : decode cX9_set 185 = .ok (.iload_n 1, 1) := by decide +kernel
theorem dX9_set_186 : decode cX9_set 186 = .ok (.bipush 6, 2) := by decide +kernel
theorem dX9_set_188 : decode cX9_set 188 = .ok (.if_icmp .ne 13, 3) := by decide +kernel
theorem dX9_set_191 : decode cX9_set 191 = .ok (.aload_n 0, 1) := by decide +kernel
theorem dX9_set_192 : decode cX9_set 192 = .ok (.getfield 29, 3) := by decide +kernel
theorem dX9_set_195 : decode cX9_set 195 = .ok (.iload_n 2, 1) := by decide +kernel
theorem dX9_set_196 : decode cX9_set 196 = .ok (.iload_n 3, 1) := by decide +kernel
theorem dX9_set_197 : decode cX9_set 197 = .ok (.iastore, 1) := by decide +kernel
theorem dX9_set_198 : decode cX9_set 198 = .ok (.goto 26, 3) := by decide +kernel
theorem dX9_set_201 : decode cX9_set 201 = .ok (.iload_n 1, 1) := by decide +kernel
theorem dX9_set_202 : decode cX9_set 202 = .ok (.bipush 7, 2) := by decide +kernel
theorem dX9_set_204 : decode cX9_set 204 = .ok (.if_icmp .ne 13, 3) := by decide +kernel
theorem dX9_set_207 : decode cX9_set 207 = .ok (.aload_n 0, 1) := by decide +kernel
theorem dX9_set_208 : decode cX9_set 208 = .ok (.getfield 32, 3) := by decide +kernel
theorem dX9_set_211 : decode cX9_set 211 = .ok (.iload_n 2, 1) := by decide +kernel
theorem dX9_set_212 : decode cX9_set 212 = .ok (.iload_n 3, 1) := by decide +kernel
theorem dX9_set_213 : decode cX9_set 213 = .ok (.iastore, 1) := by decide +kernel
theorem dX9_set_214 : decode cX9_set 214 = .ok (.goto 10, 3) := by decide +kernel
theorem dX9_set_217 : decode cX9_set 217 = .ok (.aload_n 0, 1) := by decide +kernel
theorem dX9_set_218 : decode cX9_set 218 = .ok (.getfield 35, 3) := by decide +kernel
theorem dX9_set_221 : decode cX9_set 221 = .ok (.iload_n 2, 1) := by decide +kernel
theorem dX9_set_222 : decode cX9_set 222 = .ok (.iload_n 3, 1) := by decide +kernel
theorem dX9_set_223 : decode cX9_set 223 = .ok (.iastore, 1) := by decide +kernel
theorem dX9_set_224 : decode cX9_set 224 = .ok (.iload 5, 2) := by decide +kernel
theorem dX9_set_226 : decode cX9_set 226 = .ok (.ireturn, 1) := by decide +kernel
theorem dX9_wall_0 : decode cX9_wall 0 = .ok (.iload_n 1, 1) := by decide +kernel
theorem dX9_wall_1 : decode cX9_wall 1 = .ok (.i2l, 1) := by decide +kernel
theorem dX9_wall_2 : decode cX9_wall 2 = .ok (.lconst 0, 1) := by decide +kernel
theorem dX9_wall_3 : decode cX9_wall 3 = .ok (.ldc2_w 104, 3) := by decide +kernel
theorem dX9_wall_6 : decode cX9_wall 6 = .ok (.invokestatic 94, 3) := by decide +kernel
theorem dX9_wall_9 : decode cX9_wall 9 = .ok (.ifCond .eq 27, 3) := by decide +kernel
theorem dX9_wall_12 : decode cX9_wall 12 = .ok (.iload_n 2, 1) := by decide +kernel
theorem dX9_wall_13 : decode cX9_wall 13 = .ok (.i2l, 1) := by decide +kernel
theorem dX9_wall_14 : decode cX9_wall 14 = .ok (.lconst 0, 1) := by decide +kernel
theorem dX9_wall_15 : decode cX9_wall 15 = .ok (.ldc2_w 106, 3) := by decide +kernel
theorem dX9_wall_18 : decode cX9_wall 18 = .ok (.invokestatic 94, 3) := by decide +kernel
theorem dX9_wall_21 : decode cX9_wall 21 = .ok (.ifCond .eq 15, 3) := by decide +kernel
theorem dX9_wall_24 : decode cX9_wall 24 = .ok (.iload_n 3, 1) := by decide +kernel
theorem dX9_wall_25 : decode cX9_wall 25 = .ok (.i2l, 1) := by decide +kernel
theorem dX9_wall_26 : decode cX9_wall 26 = .ok (.lconst 1, 1) := by decide +kernel
theorem dX9_wall_27 : decode cX9_wall 27 = .ok (.ldc2_w 108, 3) := by decide +kernel
theorem dX9_wall_30 : decode cX9_wall 30 = .ok (.invokestatic 94, 3) := by decide +kernel
theorem dX9_wall_33 : decode cX9_wall 33 = .ok (.ifCond .ne 6, 3) := by decide +kernel
theorem dX9_wall_36 : decode cX9_wall 36 = .ok (.bipush (-2), 2) := by decide +kernel
theorem dX9_wall_38 : decode cX9_wall 38 = .ok (.ireturn, 1) := by decide +kernel
theorem dX9_wall_39 : decode cX9_wall 39 = .ok (.aload_n 0, 1) := by decide +kernel
theorem dX9_wall_40 : decode cX9_wall 40 = .ok (.getfield 91, 3) := by decide +kernel
theorem dX9_wall_43 : decode cX9_wall 43 = .ok (.bipush 6, 2) := by decide +kernel
theorem dX9_wall_45 : decode cX9_wall 45 = .ok (.if_icmp .ne 6, 3) := by decide +kernel
theorem dX9_wall_48 : decode cX9_wall 48 = .ok (.bipush (-4), 2) := by decide +kernel
theorem dX9_wall_50 : decode cX9_wall 50 = .ok (.ireturn, 1) := by decide +kernel
theorem dX9_wall_51 : decode cX9_wall 51 = .ok (.aload_n 0, 1) := by decide +kernel
theorem dX9_wall_52 : decode cX9_wall 52 = .ok (.getfield 26, 3) := by decide +kernel
theorem dX9_wall_55 : decode cX9_wall 55 = .ok (.aload_n 0, 1) := by decide +kernel
theorem dX9_wall_56 : decode cX9_wall 56 = .ok (.getfield 91, 3) := by decide +kernel
theorem dX9_wall_59 : decode cX9_wall 59 = .ok (.iload_n 1, 1) := by decide +kernel
theorem dX9_wall_60 : decode cX9_wall 60 = .ok (.iastore, 1) := by decide +kernel
theorem dX9_wall_61 : decode cX9_wall 61 = .ok (.aload_n 0, 1) := by decide +kernel
theorem dX9_wall_62 : decode cX9_wall 62 = .ok (.getfield 29, 3) := by decide +kernel
theorem dX9_wall_65 : decode cX9_wall 65 = .ok (.aload_n 0, 1) := by decide +kernel
theorem dX9_wall_66 : decode cX9_wall 66 = .ok (.getfield 91, 3) := by decide +kernel
theorem dX9_wall_69 : decode cX9_wall 69 = .ok (.iload_n 2, 1) := by decide +kernel
theorem dX9_wall_70 : decode cX9_wall 70 = .ok (.iastore, 1) := by decide +kernel
theorem dX9_wall_71 : decode cX9_wall 71 = .ok (.aload_n 0, 1) := by decide +kernel
theorem dX9_wall_72 : decode cX9_wall 72 = .ok (.getfield 32, 3) := by decide +kernel
theorem dX9_wall_75 : decode cX9_wall 75 = .ok (.aload_n 0, 1) := by decide +kernel
theorem dX9_wall_76 : decode cX9_wall 76 = .ok (.getfield 91, 3) := by decide +kernel
theorem dX9_wall_79 : decode cX9_wall 79 = .ok (.iload_n 3, 1) := by decide +kernel
theorem dX9_wall_80 : decode cX9_wall 80 = .ok (.iastore, 1) := by decide +kernel
theorem dX9_wall_81 : decode cX9_wall 81 = .ok (.aload_n 0, 1) := by decide +kernel
theorem dX9_wall_82 : decode cX9_wall 82 = .ok (.getfield 35, 3) := by decide +kernel
theorem dX9_wall_85 : decode cX9_wall 85 = .ok (.aload_n 0, 1) := by decide +kernel
theorem dX9_wall_86 : decode cX9_wall 86 = .ok (.getfield 91, 3) := by decide +kernel
theorem dX9_wall_89 : decode cX9_wall 89 = .ok (.iconst 0, 1) := by decide +kernel
theorem dX9_wall_90 : decode cX9_wall 90 = .ok (.iastore, 1) := by decide +kernel
theorem dX9_wall_91 : decode cX9_wall 91 = .ok (.aload_n 0, 1) := by decide +kernel
theorem dX9_wall_92 : decode cX9_wall 92 = .ok (.dup, 1) := by decide +kernel
theorem dX9_wall_93 : decode cX9_wall 93 = .ok (.getfield 91, 3) := by decide +kernel
theorem dX9_wall_96 : decode cX9_wall 96 = .ok (.iconst 1, 1) := by decide +kernel
theorem dX9_wall_97 : decode cX9_wall 97 = .ok (.iadd, 1) := by decide +kernel
theorem dX9_wall_98 : decode cX9_wall 98 = .ok (.putfield 91, 3) := by decide +kernel
theorem dX9_wall_101 : decode cX9_wall 101 = .ok (.aload_n 0, 1) := by decide +kernel
theorem dX9_wall_102 : decode cX9_wall 102 = .ok (.getfield 91, 3) := by decide +kernel
theorem dX9_wall_105 : decode cX9_wall 105 = .ok (.iconst 1, 1) := by decide +kernel
theorem dX9_wall_106 : decode cX9_wall 106 = .ok (.isub, 1) := by decide +kernel
theorem dX9_wall_107 : decode cX9_wall 107 = .ok (.ireturn, 1) := by decide +kernel
theorem dX9_told_0 : decode cX9_told 0 = .ok (.aload_n 0, 1) := by decide +kernel
theorem dX9_told_1 : decode cX9_told 1 = .ok (.iload_n 1, 1) := by decide +kernel
theorem dX9_told_2 : decode cX9_told 2 = .ok (.invokevirtual 100, 3) := by decide +kernel
theorem dX9_told_5 : decode cX9_told 5 = .ok (.ifCond .eq 15, 3) := by decide +kernel
theorem dX9_told_8 : decode cX9_told 8 = .ok (.iload_n 2, 1) := by decide +kernel
theorem dX9_told_9 : decode cX9_told 9 = .ok (.i2l, 1) := by decide +kernel
theorem dX9_told_10 : decode cX9_told 10 = .ok (.lconst 0, 1) := by decide +kernel
theorem dX9_told_11 : decode cX9_told 11 = .ok (.ldc2_w 110, 3) := by decide +kernel
theorem dX9_told_14 : decode cX9_told 14 = .ok (.invokestatic 94, 3) := by decide +kernel
theorem dX9_told_17 : decode cX9_told 17 = .ok (.ifCond .ne 6, 3) := by decide +kernel
theorem dX9_told_20 : decode cX9_told 20 = .ok (.bipush (-2), 2) := by decide +kernel
theorem dX9_told_22 : decode cX9_told 22 = .ok (.ireturn, 1) := by decide +kernel
theorem dX9_told_23 : decode cX9_told 23 = .ok (.iload_n 2, 1) := by decide +kernel
theorem dX9_told_24 : decode cX9_told 24 = .ok (.iconst 4, 1) := by decide +kernel
theorem dX9_told_25 : decode cX9_told 25 = .ok (.if_icmp .ge 51, 3) := by decide +kernel
theorem dX9_told_28 : decode cX9_told 28 = .ok (.iload_n 2, 1) := by decide +kernel
theorem dX9_told_29 : decode cX9_told 29 = .ok (.ifCond .ne 12, 3) := by decide +kernel
theorem dX9_told_32 : decode cX9_told 32 = .ok (.aload_n 0, 1) := by decide +kernel
theorem dX9_told_33 : decode cX9_told 33 = .ok (.getfield 26, 3) := by decide +kernel
theorem dX9_told_36 : decode cX9_told 36 = .ok (.iload_n 1, 1) := by decide +kernel
theorem dX9_told_37 : decode cX9_told 37 = .ok (.iaload, 1) := by decide +kernel
theorem dX9_told_38 : decode cX9_told 38 = .ok (.goto 37, 3) := by decide +kernel
theorem dX9_told_41 : decode cX9_told 41 = .ok (.iload_n 2, 1) := by decide +kernel
theorem dX9_told_42 : decode cX9_told 42 = .ok (.iconst 1, 1) := by decide +kernel
theorem dX9_told_43 : decode cX9_told 43 = .ok (.if_icmp .ne 12, 3) := by decide +kernel
theorem dX9_told_46 : decode cX9_told 46 = .ok (.aload_n 0, 1) := by decide +kernel
theorem dX9_told_47 : decode cX9_told 47 = .ok (.getfield 29, 3) := by decide +kernel
theorem dX9_told_50 : decode cX9_told 50 = .ok (.iload_n 1, 1) := by decide +kernel
theorem dX9_told_51 : decode cX9_told 51 = .ok (.iaload, 1) := by decide +kernel
theorem dX9_told_52 : decode cX9_told 52 = .ok (.goto 23, 3) := by decide +kernel
theorem dX9_told_55 : decode cX9_told 55 = .ok (.iload_n 2, 1) := by decide +kernel
theorem dX9_told_56 : decode cX9_told 56 = .ok (.iconst 2, 1) := by decide +kernel
theorem dX9_told_57 : decode cX9_told 57 = .ok (.if_icmp .ne 12, 3) := by decide +kernel
theorem dX9_told_60 : decode cX9_told 60 = .ok (.aload_n 0, 1) := by decide +kernel
theorem dX9_told_61 : decode cX9_told 61 = .ok (.getfield 32, 3) := by decide +kernel
theorem dX9_told_64 : decode cX9_told 64 = .ok (.iload_n 1, 1) := by decide +kernel
theorem dX9_told_65 : decode cX9_told 65 = .ok (.iaload, 1) := by decide +kernel
theorem dX9_told_66 : decode cX9_told 66 = .ok (.goto 9, 3) := by decide +kernel
theorem dX9_told_69 : decode cX9_told 69 = .ok (.aload_n 0, 1) := by decide +kernel
theorem dX9_told_70 : decode cX9_told 70 = .ok (.getfield 35, 3) := by decide +kernel
theorem dX9_told_73 : decode cX9_told 73 = .ok (.iload_n 1, 1) := by decide +kernel
theorem dX9_told_74 : decode cX9_told 74 = .ok (.iaload, 1) := by decide +kernel
theorem dX9_told_75 : decode cX9_told 75 = .ok (.ireturn, 1) := by decide +kernel
theorem dX9_told_76 : decode cX9_told 76 = .ok (.iload_n 2, 1) := by decide +kernel
theorem dX9_told_77 : decode cX9_told 77 = .ok (.iconst 4, 1) := by decide +kernel
theorem dX9_told_78 : decode cX9_told 78 = .ok (.if_icmp .ne 11, 3) := by decide +kernel
theorem dX9_told_81 : decode cX9_told 81 = .ok (.aload_n 0, 1) := by decide +kernel
theorem dX9_told_82 : decode cX9_told 82 = .ok (.iload_n 1, 1) := by decide +kernel
theorem dX9_told_83 : decode cX9_told 83 = .ok (.invokevirtual 112, 3) := by decide +kernel
theorem dX9_told_86 : decode cX9_told 86 = .ok (.goto 21, 3) := by decide +kernel
theorem dX9_told_89 : decode cX9_told 89 = .ok (.iload_n 2, 1) := by decide +kernel
theorem dX9_told_90 : decode cX9_told 90 = .ok (.iconst 5, 1) := by decide +kernel
theorem dX9_told_91 : decode cX9_told 91 = .ok (.if_icmp .ne 11, 3) := by decide +kernel
theorem dX9_told_94 : decode cX9_told 94 = .ok (.aload_n 0, 1) := by decide +kernel
theorem dX9_told_95 : decode cX9_told 95 = .ok (.iload_n 1, 1) := by decide +kernel
theorem dX9_told_96 : decode cX9_told 96 = .ok (.invokevirtual 116, 3) := by decide +kernel
theorem dX9_told_99 : decode cX9_told 99 = .ok (.goto 8, 3) := by decide +kernel
theorem dX9_told_102 : decode cX9_told 102 = .ok (.aload_n 0, 1) := by decide +kernel
theorem dX9_told_103 : decode cX9_told 103 = .ok (.iload_n 1, 1) := by decide +kernel
theorem dX9_told_104 : decode cX9_told 104 = .ok (.invokevirtual 119, 3) := by decide +kernel
theorem dX9_told_107 : decode cX9_told 107 = .ok (.ireturn, 1) := by decide +kernel
theorem dX9_feed_0 : decode cX9_feed 0 = .ok (.iload_n 1, 1) := by decide +kernel
theorem dX9_feed_1 : decode cX9_feed 1 = .ok (.i2l, 1) := by decide +kernel
theorem dX9_feed_2 : decode cX9_feed 2 = .ok (.lconst 0, 1) := by decide +kernel
theorem dX9_feed_3 : decode cX9_feed 3 = .ok (.ldc2_w 122, 3) := by decide +kernel
theorem dX9_feed_6 : decode cX9_feed 6 = .ok (.invokestatic 94, 3) := by decide +kernel
theorem dX9_feed_9 : decode cX9_feed 9 = .ok (.ifCond .ne 6, 3) := by decide +kernel
theorem dX9_feed_12 : decode cX9_feed 12 = .ok (.bipush (-2), 2) := by decide +kernel
theorem dX9_feed_14 : decode cX9_feed 14 = .ok (.ireturn, 1) := by decide +kernel
theorem dX9_feed_15 : decode cX9_feed 15 = .ok (.aload_n 0, 1) := by decide +kernel
theorem dX9_feed_16 : decode cX9_feed 16 = .ok (.getfield 124, 3) := by decide +kernel
theorem dX9_feed_19 : decode cX9_feed 19 = .ok (.sipush 160, 3) := by decide +kernel
theorem dX9_feed_22 : decode cX9_feed 22 = .ok (.if_icmp .ne 6, 3) := by decide +kernel
theorem dX9_feed_25 : decode cX9_feed 25 = .ok (.bipush (-4), 2) := by decide +kernel
theorem dX9_feed_27 : decode cX9_feed 27 = .ok (.ireturn, 1) := by decide +kernel
theorem dX9_feed_28 : decode cX9_feed 28 = .ok (.aload_n 0, 1) := by decide +kernel
theorem dX9_feed_29 : decode cX9_feed 29 = .ok (.getfield 20, 3) := by decide +kernel
theorem dX9_feed_32 : decode cX9_feed 32 = .ok (.aload_n 0, 1) := by decide +kernel
theorem dX9_feed_33 : decode cX9_feed 33 = .ok (.getfield 124, 3) := by decide +kernel
theorem dX9_feed_36 : decode cX9_feed 36 = .ok (.iload_n 1, 1) := by decide +kernel
theorem dX9_feed_37 : decode cX9_feed 37 = .ok (.iastore, 1) := by decide +kernel
theorem dX9_feed_38 : decode cX9_feed 38 = .ok (.aload_n 0, 1) := by decide +kernel
theorem dX9_feed_39 : decode cX9_feed 39 = .ok (.dup, 1) := by decide +kernel
theorem dX9_feed_40 : decode cX9_feed 40 = .ok (.getfield 124, 3) := by decide +kernel
theorem dX9_feed_43 : decode cX9_feed 43 = .ok (.iconst 1, 1) := by decide +kernel
theorem dX9_feed_44 : decode cX9_feed 44 = .ok (.iadd, 1) := by decide +kernel
theorem dX9_feed_45 : decode cX9_feed 45 = .ok (.putfield 124, 3) := by decide +kernel
theorem dX9_feed_48 : decode cX9_feed 48 = .ok (.aload_n 0, 1) := by decide +kernel
theorem dX9_feed_49 : decode cX9_feed 49 = .ok (.getfield 124, 3) := by decide +kernel
theorem dX9_feed_52 : decode cX9_feed 52 = .ok (.ireturn, 1) := by decide +kernel
theorem dX9_gathers_0 : decode cX9_gathers 0 = .ok (.iconst 0, 1) := by decide +kernel
theorem dX9_gathers_1 : decode cX9_gathers 1 = .ok (.istore_n 1, 1) := by decide +kernel
theorem dX9_gathers_2 : decode cX9_gathers 2 = .ok (.iload_n 1, 1) := by decide +kernel
theorem dX9_gathers_3 : decode cX9_gathers 3 = .ok (.aload_n 0, 1) := by decide +kernel
theorem dX9_gathers_4 : decode cX9_gathers 4 = .ok (.getfield 91, 3) := by decide +kernel
theorem dX9_gathers_7 : decode cX9_gathers 7 = .ok (.if_icmp .ge 60, 3) := by decide +kernel
theorem dX9_gathers_10 : decode cX9_gathers 10 = .ok (.aload_n 0, 1) := by decide +kernel
theorem dX9_gathers_11 : decode cX9_gathers 11 = .ok (.getfield 41, 3) := by decide +kernel
theorem dX9_gathers_14 : decode cX9_gathers 14 = .ok (.iload_n 1, 1) := by decide +kernel
theorem dX9_gathers_15 : decode cX9_gathers 15 = .ok (.aload_n 0, 1) := by decide +kernel
theorem dX9_gathers_16 : decode cX9_gathers 16 = .ok (.iload_n 1, 1) := by decide +kernel
theorem dX9_gathers_17 : decode cX9_gathers 17 = .ok (.invokevirtual 112, 3) := by decide +kernel
theorem dX9_gathers_20 : decode cX9_gathers 20 = .ok (.iastore, 1) := by decide +kernel
theorem dX9_gathers_21 : decode cX9_gathers 21 = .ok (.aload_n 0, 1) := by decide +kernel
theorem dX9_gathers_22 : decode cX9_gathers 22 = .ok (.getfield 44, 3) := by decide +kernel
theorem dX9_gathers_25 : decode cX9_gathers 25 = .ok (.iload_n 1, 1) := by decide +kernel
theorem dX9_gathers_26 : decode cX9_gathers 26 = .ok (.aload_n 0, 1) := by decide +kernel
theorem dX9_gathers_27 : decode cX9_gathers 27 = .ok (.iload_n 1, 1) := by decide +kernel
theorem dX9_gathers_28 : decode cX9_gathers 28 = .ok (.invokevirtual 116, 3) := by decide +kernel
theorem dX9_gathers_31 : decode cX9_gathers 31 = .ok (.iastore, 1) := by decide +kernel
theorem dX9_gathers_32 : decode cX9_gathers 32 = .ok (.aload_n 0, 1) := by decide +kernel
theorem dX9_gathers_33 : decode cX9_gathers 33 = .ok (.iload_n 1, 1) := by decide +kernel
theorem dX9_gathers_34 : decode cX9_gathers 34 = .ok (.invokevirtual 119, 3) := by decide +kernel
theorem dX9_gathers_37 : decode cX9_gathers 37 = .ok (.aload_n 0, 1) := by decide +kernel
theorem dX9_gathers_38 : decode cX9_gathers 38 = .ok (.getfield 23, 3) := by decide +kernel
theorem dX9_gathers_41 : decode cX9_gathers 41 = .ok (.iconst 3, 1) := by decide +kernel
theorem dX9_gathers_42 : decode cX9_gathers 42 = .ok (.iaload, 1) := by decide +kernel
theorem dX9_gathers_43 : decode cX9_gathers 43 = .ok (.idiv, 1) := by decide +kernel
theorem dX9_gathers_44 : decode cX9_gathers 44 = .ok (.istore_n 2, 1) := by decide +kernel
theorem dX9_gathers_45 : decode cX9_gathers 45 = .ok (.aload_n 0, 1) := by decide +kernel
theorem dX9_gathers_46 : decode cX9_gathers 46 = .ok (.getfield 47, 3) := by decide +kernel
theorem dX9_gathers_49 : decode cX9_gathers 49 = .ok (.iload_n 1, 1) := by decide +kernel
theorem dX9_gathers_50 : decode cX9_gathers 50 = .ok (.iload_n 2, 1) := by decide +kernel
theorem dX9_gathers_51 : decode cX9_gathers 51 = .ok (.iconst 1, 1) := by decide +kernel
theorem dX9_gathers_52 : decode cX9_gathers 52 = .ok (.if_icmp .ge 7, 3) := by decide +kernel
theorem dX9_gathers_55 : decode cX9_gathers 55 = .ok (.iconst 1, 1) := by decide +kernel
theorem dX9_gathers_56 : decode cX9_gathers 56 = .ok (.goto 4, 3) := by decide +kernel
theorem dX9_gathers_59 : decode cX9_gathers 59 = .ok (.iload_n 2, 1) := by decide +kernel
theorem dX9_gathers_60 : decode cX9_gathers 60 = .ok (.iastore, 1) := by decide +kernel
theorem dX9_gathers_61 : decode cX9_gathers 61 = .ok (.iinc 1 1, 3) := by decide +kernel
theorem dX9_gathers_64 : decode cX9_gathers 64 = .ok (.goto (-62), 3) := by decide +kernel
theorem dX9_gathers_67 : decode cX9_gathers 67 = .ok (.return_, 1) := by decide +kernel
theorem dX9_toTrowel_0 : decode cX9_toTrowel 0 = .ok (.iconst (-1), 1) := by decide +kernel
theorem dX9_toTrowel_1 : decode cX9_toTrowel 1 = .ok (.istore_n 1, 1) := by decide +kernel
theorem dX9_toTrowel_2 : decode cX9_toTrowel 2 = .ok (.iconst 0, 1) := by decide +kernel
theorem dX9_toTrowel_3 : decode cX9_toTrowel 3 = .ok (.istore_n 2, 1) := by decide +kernel
theorem dX9_toTrowel_4 : decode cX9_toTrowel 4 = .ok (.iload_n 2, 1) := by decide +kernel
theorem dX9_toTrowel_5 : decode cX9_toTrowel 5 = .ok (.aload_n 0, 1) := by decide +kernel
theorem dX9_toTrowel_6 : decode cX9_toTrowel 6 = .ok (.getfield 253, 3) := by decide +kernel
theorem dX9_toTrowel_9 : decode cX9_toTrowel 9 = .ok (.if_icmp .ge 84, 3) := by decide +kernel
theorem dX9_toTrowel_12 : decode cX9_toTrowel 12 = .ok (.aload_n 0, 1) := by decide +kernel
theorem dX9_toTrowel_13 : decode cX9_toTrowel 13 = .ok (.getfield 38, 3) := by decide +kernel
theorem dX9_toTrowel_16 : decode cX9_toTrowel 16 = .ok (.iload_n 2, 1) := by decide +kernel
theorem dX9_toTrowel_17 : decode cX9_toTrowel 17 = .ok (.iaload, 1) := by decide +kernel
theorem dX9_toTrowel_18 : decode cX9_toTrowel 18 = .ok (.istore_n 3, 1) := by decide +kernel
theorem dX9_toTrowel_19 : decode cX9_toTrowel 19 = .ok (.aload_n 0, 1) := by decide +kernel
theorem dX9_toTrowel_20 : decode cX9_toTrowel 20 = .ok (.getfield 56, 3) := by decide +kernel
theorem dX9_toTrowel_23 : decode cX9_toTrowel 23 = .ok (.iload_n 3, 1) := by decide +kernel
theorem dX9_toTrowel_24 : decode cX9_toTrowel 24 = .ok (.iaload, 1) := by decide +kernel
theorem dX9_toTrowel_25 : decode cX9_toTrowel 25 = .ok (.iconst (-1), 1) := by decide +kernel
theorem dX9_toTrowel_26 : decode cX9_toTrowel 26 = .ok (.if_icmp .ne 27, 3) := by decide +kernel
theorem dX9_toTrowel_29 : decode cX9_toTrowel 29 = .ok (.aload_n 0, 1) := by decide +kernel
theorem dX9_toTrowel_30 : decode cX9_toTrowel 30 = .ok (.getfield 255, 3) := by decide +kernel
theorem dX9_toTrowel_33 : decode cX9_toTrowel 33 = .ok (.aload_n 0, 1) := by decide +kernel
theorem dX9_toTrowel_34 : decode cX9_toTrowel 34 = .ok (.getfield 53, 3) := by decide +kernel
theorem dX9_toTrowel_37 : decode cX9_toTrowel 37 = .ok (.iload_n 3, 1) := by decide +kernel
theorem dX9_toTrowel_38 : decode cX9_toTrowel 38 = .ok (.iaload, 1) := by decide +kernel
theorem dX9_toTrowel_39 : decode cX9_toTrowel 39 = .ok (.aload_n 0, 1) := by decide +kernel
theorem dX9_toTrowel_40 : decode cX9_toTrowel 40 = .ok (.getfield 23, 3) := by decide +kernel
theorem dX9_toTrowel_43 : decode cX9_toTrowel 43 = .ok (.iconst 5, 1) := by decide +kernel
theorem dX9_toTrowel_44 : decode cX9_toTrowel 44 = .ok (.iaload, 1) := by decide +kernel
theorem dX9_toTrowel_45 : decode cX9_toTrowel 45 = .ok (.isub, 1) := by decide +kernel
theorem dX9_toTrowel_46 : decode cX9_toTrowel 46 = .ok (.if_icmp .lt 7, 3) := by decide +kernel
theorem dX9_toTrowel_49 : decode cX9_toTrowel 49 = .ok (.iconst 1, 1) := by decide +kernel
theorem dX9_toTrowel_50 : decode cX9_toTrowel 50 = .ok (.goto 4, 3) := by decide +kernel
theorem dX9_toTrowel_53 : decode cX9_toTrowel 53 = .ok (.iconst 0, 1) := by decide +kernel
theorem dX9_toTrowel_54 : decode cX9_toTrowel 54 = .ok (.istore 4, 2) := by decide +kernel
theorem dX9_toTrowel_56 : decode cX9_toTrowel 56 = .ok (.iload 4, 2) := by decide +kernel
theorem dX9_toTrowel_58 : decode cX9_toTrowel 58 = .ok (.ifCond .eq 27, 3) := by decide +kernel
theorem dX9_toTrowel_61 : decode cX9_toTrowel 61 = .ok (.iload_n 1, 1) := by decide +kernel
theorem dX9_toTrowel_62 : decode cX9_toTrowel 62 = .ok (.iconst (-1), 1) := by decide +kernel
theorem dX9_toTrowel_63 : decode cX9_toTrowel 63 = .ok (.if_icmp .eq 18, 3) := by decide +kernel
theorem dX9_toTrowel_66 : decode cX9_toTrowel 66 = .ok (.aload_n 0, 1) := by decide +kernel
theorem dX9_toTrowel_67 : decode cX9_toTrowel 67 = .ok (.getfield 53, 3) := by decide +kernel
theorem dX9_toTrowel_70 : decode cX9_toTrowel 70 = .ok (.iload_n 3, 1) := by decide +kernel
theorem dX9_toTrowel_71 : decode cX9_toTrowel 71 = .ok (.iaload, 1) := by decide +kernel
theorem dX9_toTrowel_72 : decode cX9_toTrowel 72 = .ok (.aload_n 0, 1) := by decide +kernel
theorem dX9_toTrowel_73 : decode cX9_toTrowel 73 = .ok (.getfield 53, 3) := by decide +kernel
theorem dX9_toTrowel_76 : decode cX9_toTrowel 76 = .ok (.iload_n 1, 1) := by decide +kernel
theorem dX9_toTrowel_77 : decode cX9_toTrowel 77 = .ok (.iaload, 1) := by decide +kernel
theorem dX9_toTrowel_78 : decode cX9_toTrowel 78 = .ok (.if_icmp .ge 7, 3) := by decide +kernel
theorem dX9_toTrowel_81 : decode cX9_toTrowel 81 = .ok (.iload_n 3, 1) := by decide +kernel
theorem dX9_toTrowel_82 : decode cX9_toTrowel 82 = .ok (.goto 4, 3) := by decide +kernel
theorem dX9_toTrowel_85 : decode cX9_toTrowel 85 = .ok (.iload_n 1, 1) := by decide +kernel
theorem dX9_toTrowel_86 : decode cX9_toTrowel 86 = .ok (.istore_n 1, 1) := by decide +kernel
theorem dX9_toTrowel_87 : decode cX9_toTrowel 87 = .ok (.iinc 2 1, 3) := by decide +kernel
theorem dX9_toTrowel_90 : decode cX9_toTrowel 90 = .ok (.goto (-86), 3) := by decide +kernel
theorem dX9_toTrowel_93 : decode cX9_toTrowel 93 = .ok (.iload_n 1, 1) := by decide +kernel
theorem dX9_toTrowel_94 : decode cX9_toTrowel 94 = .ok (.ireturn, 1) := by decide +kernel
theorem dX9_trowels_0 : decode cX9_trowels 0 = .ok (.aload_n 0, 1) := by decide +kernel
theorem dX9_trowels_1 : decode cX9_trowels 1 = .ok (.getfield 255, 3) := by decide +kernel
theorem dX9_trowels_4 : decode cX9_trowels 4 = .ok (.aload_n 0, 1) := by decide +kernel
theorem dX9_trowels_5 : decode cX9_trowels 5 = .ok (.getfield 53, 3) := by decide +kernel
theorem dX9_trowels_8 : decode cX9_trowels 8 = .ok (.iload_n 1, 1) := by decide +kernel
theorem dX9_trowels_9 : decode cX9_trowels 9 = .ok (.iaload, 1) := by decide +kernel
theorem dX9_trowels_10 : decode cX9_trowels 10 = .ok (.isub, 1) := by decide +kernel
theorem dX9_trowels_11 : decode cX9_trowels 11 = .ok (.aload_n 0, 1) := by decide +kernel
theorem dX9_trowels_12 : decode cX9_trowels 12 = .ok (.getfield 44, 3) := by decide +kernel
theorem dX9_trowels_15 : decode cX9_trowels 15 = .ok (.iload_n 1, 1) := by decide +kernel
theorem dX9_trowels_16 : decode cX9_trowels 16 = .ok (.iaload, 1) := by decide +kernel
theorem dX9_trowels_17 : decode cX9_trowels 17 = .ok (.isub, 1) := by decide +kernel
theorem dX9_trowels_18 : decode cX9_trowels 18 = .ok (.istore_n 2, 1) := by decide +kernel
theorem dX9_trowels_19 : decode cX9_trowels 19 = .ok (.aload_n 0, 1) := by decide +kernel
theorem dX9_trowels_20 : decode cX9_trowels 20 = .ok (.getfield 255, 3) := by decide +kernel
theorem dX9_trowels_23 : decode cX9_trowels 23 = .ok (.aload_n 0, 1) := by decide +kernel
theorem dX9_trowels_24 : decode cX9_trowels 24 = .ok (.getfield 53, 3) := by decide +kernel
theorem dX9_trowels_27 : decode cX9_trowels 27 = .ok (.iload_n 1, 1) := by decide +kernel
theorem dX9_trowels_28 : decode cX9_trowels 28 = .ok (.iaload, 1) := by decide +kernel
theorem dX9_trowels_29 : decode cX9_trowels 29 = .ok (.isub, 1) := by decide +kernel
theorem dX9_trowels_30 : decode cX9_trowels 30 = .ok (.istore_n 3, 1) := by decide +kernel
theorem dX9_trowels_31 : decode cX9_trowels 31 = .ok (.aload_n 0, 1) := by decide +kernel
theorem dX9_trowels_32 : decode cX9_trowels 32 = .ok (.getfield 56, 3) := by decide +kernel
theorem dX9_trowels_35 : decode cX9_trowels 35 = .ok (.iload_n 1, 1) := by decide +kernel
theorem dX9_trowels_36 : decode cX9_trowels 36 = .ok (.aload_n 0, 1) := by decide +kernel
theorem dX9_trowels_37 : decode cX9_trowels 37 = .ok (.getfield 255, 3) := by decide +kernel
theorem dX9_trowels_40 : decode cX9_trowels 40 = .ok (.iastore, 1) := by decide +kernel
theorem dX9_trowels_41 : decode cX9_trowels 41 = .ok (.aload_n 0, 1) := by decide +kernel
theorem dX9_trowels_42 : decode cX9_trowels 42 = .ok (.getfield 59, 3) := by decide +kernel
theorem dX9_trowels_45 : decode cX9_trowels 45 = .ok (.iload_n 1, 1) := by decide +kernel
theorem dX9_trowels_46 : decode cX9_trowels 46 = .ok (.iload_n 2, 1) := by decide +kernel
theorem dX9_trowels_47 : decode cX9_trowels 47 = .ok (.ifCond .le 7, 3) := by decide +kernel
theorem dX9_trowels_50 : decode cX9_trowels 50 = .ok (.iload_n 2, 1) := by decide +kernel
theorem dX9_trowels_51 : decode cX9_trowels 51 = .ok (.goto 12, 3) := by decide +kernel
theorem dX9_trowels_54 : decode cX9_trowels 54 = .ok (.iload_n 3, 1) := by decide +kernel
theorem dX9_trowels_55 : decode cX9_trowels 55 = .ok (.ifCond .ge 7, 3) := by decide +kernel
theorem dX9_trowels_58 : decode cX9_trowels 58 = .ok (.iload_n 3, 1) := by decide +kernel
theorem dX9_trowels_59 : decode cX9_trowels 59 = .ok (.goto 4, 3) := by decide +kernel
theorem dX9_trowels_62 : decode cX9_trowels 62 = .ok (.iconst 0, 1) := by decide +kernel
theorem dX9_trowels_63 : decode cX9_trowels 63 = .ok (.iastore, 1) := by decide +kernel
theorem dX9_trowels_64 : decode cX9_trowels 64 = .ok (.aload_n 0, 1) := by decide +kernel
theorem dX9_trowels_65 : decode cX9_trowels 65 = .ok (.dup, 1) := by decide +kernel
theorem dX9_trowels_66 : decode cX9_trowels 66 = .ok (.getfield 258, 3) := by decide +kernel
theorem dX9_trowels_69 : decode cX9_trowels 69 = .ok (.aload_n 0, 1) := by decide +kernel
theorem dX9_trowels_70 : decode cX9_trowels 70 = .ok (.getfield 59, 3) := by decide +kernel
theorem dX9_trowels_73 : decode cX9_trowels 73 = .ok (.iload_n 1, 1) := by decide +kernel
theorem dX9_trowels_74 : decode cX9_trowels 74 = .ok (.iaload, 1) := by decide +kernel
theorem dX9_trowels_75 : decode cX9_trowels 75 = .ok (.ifCond .eq 22, 3) := by decide +kernel
theorem dX9_trowels_78 : decode cX9_trowels 78 = .ok (.aload_n 0, 1) := by decide +kernel
theorem dX9_trowels_79 : decode cX9_trowels 79 = .ok (.iconst 2, 1) := by decide +kernel
theorem dX9_trowels_80 : decode cX9_trowels 80 = .ok (.iload_n 1, 1) := by decide +kernel
theorem dX9_trowels_81 : decode cX9_trowels 81 = .ok (.aload_n 0, 1) := by decide +kernel
theorem dX9_trowels_82 : decode cX9_trowels 82 = .ok (.getfield 59, 3) := by decide +kernel
theorem dX9_trowels_85 : decode cX9_trowels 85 = .ok (.iload_n 1, 1) := by decide +kernel
theorem dX9_trowels_86 : decode cX9_trowels 86 = .ok (.iaload, 1) := by decide +kernel
theorem dX9_trowels_87 : decode cX9_trowels 87 = .ok (.iconst 0, 1) := by decide +kernel
theorem dX9_trowels_88 : decode cX9_trowels 88 = .ok (.sipush 999, 3) := by decide +kernel
theorem dX9_trowels_91 : decode cX9_trowels 91 = .ok (.invokevirtual 249, 3) := by decide +kernel
theorem dX9_trowels_94 : decode cX9_trowels 94 = .ok (.goto 4, 3) := by decide +kernel
theorem dX9_trowels_97 : decode cX9_trowels 97 = .ok (.iconst 0, 1) := by decide +kernel
theorem dX9_trowels_98 : decode cX9_trowels 98 = .ok (.iadd, 1) := by decide +kernel
theorem dX9_trowels_99 : decode cX9_trowels 99 = .ok (.putfield 258, 3) := by decide +kernel
theorem dX9_trowels_102 : decode cX9_trowels 102 = .ok (.aload_n 0, 1) := by decide +kernel
theorem dX9_trowels_103 : decode cX9_trowels 103 = .ok (.dup, 1) := by decide +kernel
theorem dX9_trowels_104 : decode cX9_trowels 104 = .ok (.getfield 255, 3) := by decide +kernel
theorem dX9_trowels_107 : decode cX9_trowels 107 = .ok (.aload_n 0, 1) := by decide +kernel
theorem dX9_trowels_108 : decode cX9_trowels 108 = .ok (.getfield 32, 3) := by decide +kernel
theorem dX9_trowels_111 : decode cX9_trowels 111 = .ok (.iload_n 1, 1) := by decide +kernel
theorem dX9_trowels_112 : decode cX9_trowels 112 = .ok (.iaload, 1) := by decide +kernel
theorem dX9_trowels_113 : decode cX9_trowels 113 = .ok (.iadd, 1) := by decide +kernel
theorem dX9_trowels_114 : decode cX9_trowels 114 = .ok (.putfield 255, 3) := by decide +kernel
theorem dX9_trowels_117 : decode cX9_trowels 117 = .ok (.return_, 1) := by decide +kernel
theorem dX9_begins_0 : decode cX9_begins 0 = .ok (.aload_n 0, 1) := by decide +kernel
theorem dX9_begins_1 : decode cX9_begins 1 = .ok (.getfield 50, 3) := by decide +kernel
theorem dX9_begins_4 : decode cX9_begins 4 = .ok (.iload_n 1, 1) := by decide +kernel
theorem dX9_begins_5 : decode cX9_begins 5 = .ok (.aload_n 0, 1) := by decide +kernel
theorem dX9_begins_6 : decode cX9_begins 6 = .ok (.getfield 255, 3) := by decide +kernel
theorem dX9_begins_9 : decode cX9_begins 9 = .ok (.iastore, 1) := by decide +kernel
theorem dX9_begins_10 : decode cX9_begins 10 = .ok (.aload_n 0, 1) := by decide +kernel
theorem dX9_begins_11 : decode cX9_begins 11 = .ok (.aload_n 0, 1) := by decide +kernel
theorem dX9_begins_12 : decode cX9_begins 12 = .ok (.getfield 255, 3) := by decide +kernel
theorem dX9_begins_15 : decode cX9_begins 15 = .ok (.putfield 261, 3) := by decide +kernel
theorem dX9_begins_18 : decode cX9_begins 18 = .ok (.aload_n 0, 1) := by decide +kernel
theorem dX9_begins_19 : decode cX9_begins 19 = .ok (.dup, 1) := by decide +kernel
theorem dX9_begins_20 : decode cX9_begins 20 = .ok (.getfield 255, 3) := by decide +kernel
theorem dX9_begins_23 : decode cX9_begins 23 = .ok (.aload_n 0, 1) := by decide +kernel
theorem dX9_begins_24 : decode cX9_begins 24 = .ok (.getfield 47, 3) := by decide +kernel
theorem dX9_begins_27 : decode cX9_begins 27 = .ok (.iload_n 1, 1) := by decide +kernel
theorem dX9_begins_28 : decode cX9_begins 28 = .ok (.iaload, 1) := by decide +kernel
theorem dX9_begins_29 : decode cX9_begins 29 = .ok (.iadd, 1) := by decide +kernel
theorem dX9_begins_30 : decode cX9_begins 30 = .ok (.putfield 255, 3) := by decide +kernel
theorem dX9_begins_33 : decode cX9_begins 33 = .ok (.aload_n 0, 1) := by decide +kernel
theorem dX9_begins_34 : decode cX9_begins 34 = .ok (.getfield 53, 3) := by decide +kernel
theorem dX9_begins_37 : decode cX9_begins 37 = .ok (.iload_n 1, 1) := by decide +kernel
theorem dX9_begins_38 : decode cX9_begins 38 = .ok (.aload_n 0, 1) := by decide +kernel
theorem dX9_begins_39 : decode cX9_begins 39 = .ok (.getfield 255, 3) := by decide +kernel
theorem dX9_begins_42 : decode cX9_begins 42 = .ok (.aload_n 0, 1) := by decide +kernel
theorem dX9_begins_43 : decode cX9_begins 43 = .ok (.getfield 41, 3) := by decide +kernel
theorem dX9_begins_46 : decode cX9_begins 46 = .ok (.iload_n 1, 1) := by decide +kernel
theorem dX9_begins_47 : decode cX9_begins 47 = .ok (.iaload, 1) := by decide +kernel
theorem dX9_begins_48 : decode cX9_begins 48 = .ok (.iadd, 1) := by decide +kernel
theorem dX9_begins_49 : decode cX9_begins 49 = .ok (.iastore, 1) := by decide +kernel
theorem dX9_begins_50 : decode cX9_begins 50 = .ok (.aload_n 0, 1) := by decide +kernel
theorem dX9_begins_51 : decode cX9_begins 51 = .ok (.dup, 1) := by decide +kernel
theorem dX9_begins_52 : decode cX9_begins 52 = .ok (.getfield 253, 3) := by decide +kernel
theorem dX9_begins_55 : decode cX9_begins 55 = .ok (.iconst 1, 1) := by decide +kernel
theorem dX9_begins_56 : decode cX9_begins 56 = .ok (.iadd, 1) := by decide +kernel
theorem dX9_begins_57 : decode cX9_begins 57 = .ok (.putfield 253, 3) := by decide +kernel
theorem dX9_begins_60 : decode cX9_begins 60 = .ok (.return_, 1) := by decide +kernel
theorem dX9_lives_0 : decode cX9_lives 0 = .ok (.iconst 0, 1) := by decide +kernel
theorem dX9_lives_1 : decode cX9_lives 1 = .ok (.istore_n 1, 1) := by decide +kernel
theorem dX9_lives_2 : decode cX9_lives 2 = .ok (.iload_n 1, 1) := by decide +kernel
theorem dX9_lives_3 : decode cX9_lives 3 = .ok (.bipush 6, 2) := by decide +kernel
theorem dX9_lives_5 : decode cX9_lives 5 = .ok (.if_icmp .ge 37, 3) := by decide +kernel
theorem dX9_lives_8 : decode cX9_lives 8 = .ok (.aload_n 0, 1) := by decide +kernel
theorem dX9_lives_9 : decode cX9_lives 9 = .ok (.getfield 50, 3) := by decide +kernel
theorem dX9_lives_12 : decode cX9_lives 12 = .ok (.iload_n 1, 1) := by decide +kernel
theorem dX9_lives_13 : decode cX9_lives 13 = .ok (.iconst (-1), 1) := by decide +kernel
theorem dX9_lives_14 : decode cX9_lives 14 = .ok (.iastore, 1) := by decide +kernel
theorem dX9_lives_15 : decode cX9_lives 15 = .ok (.aload_n 0, 1) := by decide +kernel
theorem dX9_lives_16 : decode cX9_lives 16 = .ok (.getfield 53, 3) := by decide +kernel
theorem dX9_lives_19 : decode cX9_lives 19 = .ok (.iload_n 1, 1) := by decide +kernel
theorem dX9_lives_20 : decode cX9_lives 20 = .ok (.iconst (-1), 1) := by decide +kernel
theorem dX9_lives_21 : decode cX9_lives 21 = .ok (.iastore, 1) := by decide +kernel
theorem dX9_lives_22 : decode cX9_lives 22 = .ok (.aload_n 0, 1) := by decide +kernel
theorem dX9_lives_23 : decode cX9_lives 23 = .ok (.getfield 56, 3) := by decide +kernel
theorem dX9_lives_26 : decode cX9_lives 26 = .ok (.iload_n 1, 1) := by decide +kernel
theorem dX9_lives_27 : decode cX9_lives 27 = .ok (.iconst (-1), 1) := by decide +kernel
theorem dX9_lives_28 : decode cX9_lives 28 = .ok (.iastore, 1) := by decide +kernel
theorem dX9_lives_29 : decode cX9_lives 29 = .ok (.aload_n 0, 1) := by decide +kernel
theorem dX9_lives_30 : decode cX9_lives 30 = .ok (.getfield 59, 3) := by decide +kernel
theorem dX9_lives_33 : decode cX9_lives 33 = .ok (.iload_n 1, 1) := by decide +kernel
theorem dX9_lives_34 : decode cX9_lives 34 = .ok (.iconst 0, 1) := by decide +kernel
theorem dX9_lives_35 : decode cX9_lives 35 = .ok (.iastore, 1) := by decide +kernel
theorem dX9_lives_36 : decode cX9_lives 36 = .ok (.iinc 1 1, 3) := by decide +kernel
theorem dX9_lives_39 : decode cX9_lives 39 = .ok (.goto (-37), 3) := by decide +kernel
theorem dX9_lives_42 : decode cX9_lives 42 = .ok (.aload_n 0, 1) := by decide +kernel
theorem dX9_lives_43 : decode cX9_lives 43 = .ok (.iconst 0, 1) := by decide +kernel
theorem dX9_lives_44 : decode cX9_lives 44 = .ok (.putfield 255, 3) := by decide +kernel
theorem dX9_lives_47 : decode cX9_lives 47 = .ok (.aload_n 0, 1) := by decide +kernel
theorem dX9_lives_48 : decode cX9_lives 48 = .ok (.iconst 0, 1) := by decide +kernel
theorem dX9_lives_49 : decode cX9_lives 49 = .ok (.putfield 253, 3) := by decide +kernel
theorem dX9_lives_52 : decode cX9_lives 52 = .ok (.aload_n 0, 1) := by decide +kernel
theorem dX9_lives_53 : decode cX9_lives 53 = .ok (.iconst 0, 1) := by decide +kernel
theorem dX9_lives_54 : decode cX9_lives 54 = .ok (.putfield 261, 3) := by decide +kernel
theorem dX9_lives_57 : decode cX9_lives 57 = .ok (.aload_n 0, 1) := by decide +kernel
theorem dX9_lives_58 : decode cX9_lives 58 = .ok (.iconst 0, 1) := by decide +kernel
theorem dX9_lives_59 : decode cX9_lives 59 = .ok (.putfield 264, 3) := by decide +kernel
theorem dX9_lives_62 : decode cX9_lives 62 = .ok (.aload_n 0, 1) := by decide +kernel
theorem dX9_lives_63 : decode cX9_lives 63 = .ok (.iconst 0, 1) := by decide +kernel
theorem dX9_lives_64 : decode cX9_lives 64 = .ok (.putfield 258, 3) := by decide +kernel
theorem dX9_lives_67 : decode cX9_lives 67 = .ok (.iconst 0, 1) := by decide +kernel
theorem dX9_lives_68 : decode cX9_lives 68 = .ok (.istore_n 1, 1) := by decide +kernel
theorem dX9_lives_69 : decode cX9_lives 69 = .ok (.iload_n 1, 1) := by decide +kernel
theorem dX9_lives_70 : decode cX9_lives 70 = .ok (.aload_n 0, 1) := by decide +kernel
theorem dX9_lives_71 : decode cX9_lives 71 = .ok (.getfield 267, 3) := by decide +kernel
theorem dX9_lives_74 : decode cX9_lives 74 = .ok (.if_icmp .ge 109, 3) := by decide +kernel
theorem dX9_lives_77 : decode cX9_lives 77 = .ok (.aload_n 0, 1) := by decide +kernel
theorem dX9_lives_78 : decode cX9_lives 78 = .ok (.getfield 255, 3) := by decide +kernel
theorem dX9_lives_81 : decode cX9_lives 81 = .ok (.sipush 4000, 3) := by decide +kernel
theorem dX9_lives_84 : decode cX9_lives 84 = .ok (.if_icmp .ge 99, 3) := by decide +kernel
theorem dX9_lives_87 : decode cX9_lives 87 = .ok (.aload_n 0, 1) := by decide +kernel
theorem dX9_lives_88 : decode cX9_lives 88 = .ok (.invokevirtual 270, 3) := by decide +kernel
theorem dX9_lives_91 : decode cX9_lives 91 = .ok (.istore_n 2, 1) := by decide +kernel
theorem dX9_lives_92 : decode cX9_lives 92 = .ok (.iload_n 2, 1) := by decide +kernel
theorem dX9_lives_93 : decode cX9_lives 93 = .ok (.iconst (-1), 1) := by decide +kernel
theorem dX9_lives_94 : decode cX9_lives 94 = .ok (.if_icmp .eq 14, 3) := by decide +kernel
theorem dX9_lives_97 : decode cX9_lives 97 = .ok (.aload_n 0, 1) := by decide +kernel
theorem dX9_lives_98 : decode cX9_lives 98 = .ok (.iload_n 2, 1) := by decide +kernel
theorem dX9_lives_99 : decode cX9_lives 99 = .ok (.invokevirtual 273, 3) := by decide +kernel
theorem dX9_lives_102 : decode cX9_lives 102 = .ok (.iinc 1 1, 3) := by decide +kernel
theorem dX9_lives_105 : decode cX9_lives 105 = .ok (.goto 75, 3) := by decide +kernel
theorem dX9_lives_108 : decode cX9_lives 108 = .ok (.aload_n 0, 1) := by decide +kernel
theorem dX9_lives_109 : decode cX9_lives 109 = .ok (.getfield 253, 3) := by decide +kernel
theorem dX9_lives_112 : decode cX9_lives 112 = .ok (.aload_n 0, 1) := by decide +kernel
theorem dX9_lives_113 : decode cX9_lives 113 = .ok (.getfield 267, 3) := by decide +kernel
theorem dX9_lives_116 : decode cX9_lives 116 = .ok (.if_icmp .ge 44, 3) := by decide +kernel
theorem dX9_lives_119 : decode cX9_lives 119 = .ok (.aload_n 0, 1) := by decide +kernel
theorem dX9_lives_120 : decode cX9_lives 120 = .ok (.getfield 253, 3) := by decide +kernel
theorem dX9_lives_123 : decode cX9_lives 123 = .ok (.ifCond .eq 21, 3) := by decide +kernel
theorem dX9_lives_126 : decode cX9_lives 126 = .ok (.aload_n 0, 1) := by decide +kernel
theorem dX9_lives_127 : decode cX9_lives 127 = .ok (.getfield 255, 3) := by decide +kernel
theorem dX9_lives_130 : decode cX9_lives 130 = .ok (.aload_n 0, 1) := by decide +kernel
theorem dX9_lives_131 : decode cX9_lives 131 = .ok (.getfield 261, 3) := by decide +kernel
theorem dX9_lives_134 : decode cX9_lives 134 = .ok (.aload_n 0, 1) := by decide +kernel
theorem dX9_lives_135 : decode cX9_lives 135 = .ok (.getfield 23, 3) := by decide +kernel
theorem dX9_lives_138 : decode cX9_lives 138 = .ok (.iconst 4, 1) := by decide +kernel
theorem dX9_lives_139 : decode cX9_lives 139 = .ok (.iaload, 1) := by decide +kernel
theorem dX9_lives_140 : decode cX9_lives 140 = .ok (.iadd, 1) := by decide +kernel
theorem dX9_lives_141 : decode cX9_lives 141 = .ok (.if_icmp .lt 19, 3) := by decide +kernel
theorem dX9_lives_144 : decode cX9_lives 144 = .ok (.aload_n 0, 1) := by decide +kernel
theorem dX9_lives_145 : decode cX9_lives 145 = .ok (.aload_n 0, 1) := by decide +kernel
theorem dX9_lives_146 : decode cX9_lives 146 = .ok (.getfield 38, 3) := by decide +kernel
theorem dX9_lives_149 : decode cX9_lives 149 = .ok (.aload_n 0, 1) := by decide +kernel
theorem dX9_lives_150 : decode cX9_lives 150 = .ok (.getfield 253, 3) := by decide +kernel
theorem dX9_lives_153 : decode cX9_lives 153 = .ok (.iaload, 1) := by decide +kernel
theorem dX9_lives_154 : decode cX9_lives 154 = .ok (.invokevirtual 277, 3) := by decide +kernel
theorem dX9_lives_157 : decode cX9_lives 157 = .ok (.goto 23, 3) := by decide +kernel
theorem dX9_lives_160 : decode cX9_lives 160 = .ok (.aload_n 0, 1) := by decide +kernel
theorem dX9_lives_161 : decode cX9_lives 161 = .ok (.dup, 1) := by decide +kernel
theorem dX9_lives_162 : decode cX9_lives 162 = .ok (.getfield 255, 3) := by decide +kernel
theorem dX9_lives_165 : decode cX9_lives 165 = .ok (.iconst 1, 1) := by decide +kernel
theorem dX9_lives_166 : decode cX9_lives 166 = .ok (.iadd, 1) := by decide +kernel
theorem dX9_lives_167 : decode cX9_lives 167 = .ok (.putfield 255, 3) := by decide +kernel
theorem dX9_lives_170 : decode cX9_lives 170 = .ok (.aload_n 0, 1) := by decide +kernel
theorem dX9_lives_171 : decode cX9_lives 171 = .ok (.dup, 1) := by decide +kernel
theorem dX9_lives_172 : decode cX9_lives 172 = .ok (.getfield 264, 3) := by decide +kernel
theorem dX9_lives_175 : decode cX9_lives 175 = .ok (.iconst 1, 1) := by decide +kernel
theorem dX9_lives_176 : decode cX9_lives 176 = .ok (.iadd, 1) := by decide +kernel
theorem dX9_lives_177 : decode cX9_lives 177 = .ok (.putfield 264, 3) := by decide +kernel
theorem dX9_lives_180 : decode cX9_lives 180 = .ok (.goto (-111), 3) := by decide +kernel
theorem dX9_lives_183 : decode cX9_lives 183 = .ok (.return_, 1) := by decide +kernel
theorem dX9_livesPlain_0 : decode cX9_livesPlain 0 = .ok (.aload_n 0, 1) := by decide +kernel
theorem dX9_livesPlain_1 : decode cX9_livesPlain 1 = .ok (.invokevirtual 280, 3) := by decide +kernel
theorem dX9_livesPlain_4 : decode cX9_livesPlain 4 = .ok (.aload_n 0, 1) := by decide +kernel
theorem dX9_livesPlain_5 : decode cX9_livesPlain 5 = .ok (.iload_n 1, 1) := by decide +kernel
theorem dX9_livesPlain_6 : decode cX9_livesPlain 6 = .ok (.putfield 267, 3) := by decide +kernel
theorem dX9_livesPlain_9 : decode cX9_livesPlain 9 = .ok (.iconst 0, 1) := by decide +kernel
theorem dX9_livesPlain_10 : decode cX9_livesPlain 10 = .ok (.istore_n 2, 1) := by decide +kernel
theorem dX9_livesPlain_11 : decode cX9_livesPlain 11 = .ok (.iload_n 2, 1) := by decide +kernel
theorem dX9_livesPlain_12 : decode cX9_livesPlain 12 = .ok (.iload_n 1, 1) := by decide +kernel
theorem dX9_livesPlain_13 : decode cX9_livesPlain 13 = .ok (.if_icmp .ge 16, 3) := by decide +kernel
theorem dX9_livesPlain_16 : decode cX9_livesPlain 16 = .ok (.aload_n 0, 1) := by decide +kernel
theorem dX9_livesPlain_17 : decode cX9_livesPlain 17 = .ok (.getfield 38, 3) := by decide +kernel
theorem dX9_livesPlain_20 : decode cX9_livesPlain 20 = .ok (.iload_n 2, 1) := by decide +kernel
theorem dX9_livesPlain_21 : decode cX9_livesPlain 21 = .ok (.iload_n 2, 1) := by decide +kernel
theorem dX9_livesPlain_22 : decode cX9_livesPlain 22 = .ok (.iastore, 1) := by decide +kernel
theorem dX9_livesPlain_23 : decode cX9_livesPlain 23 = .ok (.iinc 2 1, 3) := by decide +kernel
theorem dX9_livesPlain_26 : decode cX9_livesPlain 26 = .ok (.goto (-15), 3) := by decide +kernel
theorem dX9_livesPlain_29 : decode cX9_livesPlain 29 = .ok (.aload_n 0, 1) := by decide +kernel
theorem dX9_livesPlain_30 : decode cX9_livesPlain 30 = .ok (.invokevirtual 283, 3) := by decide +kernel
theorem dX9_livesPlain_33 : decode cX9_livesPlain 33 = .ok (.return_, 1) := by decide +kernel
theorem dX9_setOf_0 : decode cX9_setOf 0 = .ok (.iconst 0, 1) := by decide +kernel
theorem dX9_setOf_1 : decode cX9_setOf 1 = .ok (.istore_n 2, 1) := by decide +kernel
theorem dX9_setOf_2 : decode cX9_setOf 2 = .ok (.iconst 0, 1) := by decide +kernel
theorem dX9_setOf_3 : decode cX9_setOf 3 = .ok (.istore_n 3, 1) := by decide +kernel
theorem dX9_setOf_4 : decode cX9_setOf 4 = .ok (.iload_n 3, 1) := by decide +kernel
theorem dX9_setOf_5 : decode cX9_setOf 5 = .ok (.aload_n 0, 1) := by decide +kernel
theorem dX9_setOf_6 : decode cX9_setOf 6 = .ok (.getfield 91, 3) := by decide +kernel
theorem dX9_setOf_9 : decode cX9_setOf 9 = .ok (.if_icmp .ge 44, 3) := by decide +kernel
theorem dX9_setOf_12 : decode cX9_setOf 12 = .ok (.iload_n 2, 1) := by decide +kernel
theorem dX9_setOf_13 : decode cX9_setOf 13 = .ok (.iload_n 1, 1) := by decide +kernel
theorem dX9_setOf_14 : decode cX9_setOf 14 = .ok (.ifCond .le 15, 3) := by decide +kernel
theorem dX9_setOf_17 : decode cX9_setOf 17 = .ok (.aload_n 0, 1) := by decide +kernel
theorem dX9_setOf_18 : decode cX9_setOf 18 = .ok (.getfield 59, 3) := by decide +kernel
theorem dX9_setOf_21 : decode cX9_setOf 21 = .ok (.iload_n 3, 1) := by decide +kernel
theorem dX9_setOf_22 : decode cX9_setOf 22 = .ok (.iaload, 1) := by decide +kernel
theorem dX9_setOf_23 : decode cX9_setOf 23 = .ok (.ifCond .le 21, 3) := by decide +kernel
theorem dX9_setOf_26 : decode cX9_setOf 26 = .ok (.goto 12, 3) := by decide +kernel
theorem dX9_setOf_29 : decode cX9_setOf 29 = .ok (.aload_n 0, 1) := by decide +kernel
theorem dX9_setOf_30 : decode cX9_setOf 30 = .ok (.getfield 59, 3) := by decide +kernel
theorem dX9_setOf_33 : decode cX9_setOf 33 = .ok (.iload_n 3, 1) := by decide +kernel
theorem dX9_setOf_34 : decode cX9_setOf 34 = .ok (.iaload, 1) := by decide +kernel
theorem dX9_setOf_35 : decode cX9_setOf 35 = .ok (.ifCond .ge 9, 3) := by decide +kernel
theorem dX9_setOf_38 : decode cX9_setOf 38 = .ok (.iconst 1, 1) := by decide +kernel
theorem dX9_setOf_39 : decode cX9_setOf 39 = .ok (.iload_n 3, 1) := by decide +kernel
theorem dX9_setOf_40 : decode cX9_setOf 40 = .ok (.ishl, 1) := by decide +kernel
theorem dX9_setOf_41 : decode cX9_setOf 41 = .ok (.goto 4, 3) := by decide +kernel
theorem dX9_setOf_44 : decode cX9_setOf 44 = .ok (.iconst 0, 1) := by decide +kernel
theorem dX9_setOf_45 : decode cX9_setOf 45 = .ok (.ior, 1) := by decide +kernel
theorem dX9_setOf_46 : decode cX9_setOf 46 = .ok (.istore_n 2, 1) := by decide +kernel
theorem dX9_setOf_47 : decode cX9_setOf 47 = .ok (.iinc 3 1, 3) := by decide +kernel
theorem dX9_setOf_50 : decode cX9_setOf 50 = .ok (.goto (-46), 3) := by decide +kernel
theorem dX9_setOf_53 : decode cX9_setOf 53 = .ok (.iload_n 2, 1) := by decide +kernel
theorem dX9_setOf_54 : decode cX9_setOf 54 = .ok (.ireturn, 1) := by decide +kernel
theorem dX9_isTells_0 : decode cX9_isTells 0 = .ok (.iload_n 1, 1) := by decide +kernel
theorem dX9_isTells_1 : decode cX9_isTells 1 = .ok (.i2l, 1) := by decide +kernel
theorem dX9_isTells_2 : decode cX9_isTells 2 = .ok (.lconst 0, 1) := by decide +kernel
theorem dX9_isTells_3 : decode cX9_isTells 3 = .ok (.ldc2_w 286, 3) := by decide +kernel
theorem dX9_isTells_6 : decode cX9_isTells 6 = .ok (.invokestatic 94, 3) := by decide +kernel
theorem dX9_isTells_9 : decode cX9_isTells 9 = .ok (.ifCond .ne 28, 3) := by decide +kernel
theorem dX9_isTells_12 : decode cX9_isTells 12 = .ok (.iload_n 1, 1) := by decide +kernel
theorem dX9_isTells_13 : decode cX9_isTells 13 = .ok (.i2l, 1) := by decide +kernel
theorem dX9_isTells_14 : decode cX9_isTells 14 = .ok (.ldc2_w 157, 3) := by decide +kernel
theorem dX9_isTells_17 : decode cX9_isTells 17 = .ok (.ldc2_w 288, 3) := by decide +kernel
theorem dX9_isTells_20 : decode cX9_isTells 20 = .ok (.invokestatic 94, 3) := by decide +kernel
theorem dX9_isTells_23 : decode cX9_isTells 23 = .ok (.ifCond .eq 18, 3) := by decide +kernel
theorem dX9_isTells_26 : decode cX9_isTells 26 = .ok (.aload_n 0, 1) := by decide +kernel
theorem dX9_isTells_27 : decode cX9_isTells 27 = .ok (.iload_n 1, 1) := by decide +kernel
theorem dX9_isTells_28 : decode cX9_isTells 28 = .ok (.bipush 10, 2) := by decide +kernel
theorem dX9_isTells_30 : decode cX9_isTells 30 = .ok (.irem, 1) := by decide +kernel
theorem dX9_isTells_31 : decode cX9_isTells 31 = .ok (.invokevirtual 100, 3) := by decide +kernel
theorem dX9_isTells_34 : decode cX9_isTells 34 = .ok (.ifCond .eq 7, 3) := by decide +kernel
theorem dX9_isTells_37 : decode cX9_isTells 37 = .ok (.iconst 1, 1) := by decide +kernel
theorem dX9_isTells_38 : decode cX9_isTells 38 = .ok (.goto 4, 3) := by decide +kernel
theorem dX9_isTells_41 : decode cX9_isTells 41 = .ok (.iconst 0, 1) := by decide +kernel
theorem dX9_isTells_42 : decode cX9_isTells 42 = .ok (.ireturn, 1) := by decide +kernel
theorem dX9_tells_0 : decode cX9_tells 0 = .ok (.iload_n 1, 1) := by decide +kernel
theorem dX9_tells_1 : decode cX9_tells 1 = .ok (.iconst 5, 1) := by decide +kernel
theorem dX9_tells_2 : decode cX9_tells 2 = .ok (.if_icmp .ge 53, 3) := by decide +kernel
theorem dX9_tells_5 : decode cX9_tells 5 = .ok (.iload_n 1, 1) := by decide +kernel
theorem dX9_tells_6 : decode cX9_tells 6 = .ok (.ifCond .ne 10, 3) := by decide +kernel
theorem dX9_tells_9 : decode cX9_tells 9 = .ok (.aload_n 0, 1) := by decide +kernel
theorem dX9_tells_10 : decode cX9_tells 10 = .ok (.getfield 258, 3) := by decide +kernel
theorem dX9_tells_13 : decode cX9_tells 13 = .ok (.goto 41, 3) := by decide +kernel
theorem dX9_tells_16 : decode cX9_tells 16 = .ok (.iload_n 1, 1) := by decide +kernel
theorem dX9_tells_17 : decode cX9_tells 17 = .ok (.iconst 1, 1) := by decide +kernel
theorem dX9_tells_18 : decode cX9_tells 18 = .ok (.if_icmp .ne 10, 3) := by decide +kernel
theorem dX9_tells_21 : decode cX9_tells 21 = .ok (.aload_n 0, 1) := by decide +kernel
theorem dX9_tells_22 : decode cX9_tells 22 = .ok (.getfield 255, 3) := by decide +kernel
theorem dX9_tells_25 : decode cX9_tells 25 = .ok (.goto 29, 3) := by decide +kernel
theorem dX9_tells_28 : decode cX9_tells 28 = .ok (.iload_n 1, 1) := by decide +kernel
theorem dX9_tells_29 : decode cX9_tells 29 = .ok (.iconst 2, 1) := by decide +kernel
theorem dX9_tells_30 : decode cX9_tells 30 = .ok (.if_icmp .ne 10, 3) := by decide +kernel
theorem dX9_tells_33 : decode cX9_tells 33 = .ok (.aload_n 0, 1) := by decide +kernel
theorem dX9_tells_34 : decode cX9_tells 34 = .ok (.getfield 264, 3) := by decide +kernel
theorem dX9_tells_37 : decode cX9_tells 37 = .ok (.goto 17, 3) := by decide +kernel
theorem dX9_tells_40 : decode cX9_tells 40 = .ok (.aload_n 0, 1) := by decide +kernel
theorem dX9_tells_41 : decode cX9_tells 41 = .ok (.iload_n 1, 1) := by decide +kernel
theorem dX9_tells_42 : decode cX9_tells 42 = .ok (.iconst 3, 1) := by decide +kernel
theorem dX9_tells_43 : decode cX9_tells 43 = .ok (.if_icmp .ne 7, 3) := by decide +kernel
theorem dX9_tells_46 : decode cX9_tells 46 = .ok (.iconst 1, 1) := by decide +kernel
theorem dX9_tells_47 : decode cX9_tells 47 = .ok (.goto 4, 3) := by decide +kernel
theorem dX9_tells_50 : decode cX9_tells 50 = .ok (.iconst (-1), 1) := by decide +kernel
theorem dX9_tells_51 : decode cX9_tells 51 = .ok (.invokevirtual 290, 3) := by decide +kernel
theorem dX9_tells_54 : decode cX9_tells 54 = .ok (.ireturn, 1) := by decide +kernel
theorem dX9_tells_55 : decode cX9_tells 55 = .ok (.iload_n 1, 1) := by decide +kernel
theorem dX9_tells_56 : decode cX9_tells 56 = .ok (.bipush 10, 2) := by decide +kernel
theorem dX9_tells_58 : decode cX9_tells 58 = .ok (.irem, 1) := by decide +kernel
theorem dX9_tells_59 : decode cX9_tells 59 = .ok (.istore_n 2, 1) := by decide +kernel
theorem dX9_tells_60 : decode cX9_tells 60 = .ok (.iload_n 1, 1) := by decide +kernel
theorem dX9_tells_61 : decode cX9_tells 61 = .ok (.bipush 20, 2) := by decide +kernel
theorem dX9_tells_63 : decode cX9_tells 63 = .ok (.if_icmp .ge 12, 3) := by decide +kernel
theorem dX9_tells_66 : decode cX9_tells 66 = .ok (.aload_n 0, 1) := by decide +kernel
theorem dX9_tells_67 : decode cX9_tells 67 = .ok (.getfield 50, 3) := by decide +kernel
theorem dX9_tells_70 : decode cX9_tells 70 = .ok (.iload_n 2, 1) := by decide +kernel
theorem dX9_tells_71 : decode cX9_tells 71 = .ok (.iaload, 1) := by decide +kernel
theorem dX9_tells_72 : decode cX9_tells 72 = .ok (.goto 39, 3) := by decide +kernel
theorem dX9_tells_75 : decode cX9_tells 75 = .ok (.iload_n 1, 1) := by decide +kernel
theorem dX9_tells_76 : decode cX9_tells 76 = .ok (.bipush 30, 2) := by decide +kernel
theorem dX9_tells_78 : decode cX9_tells 78 = .ok (.if_icmp .ge 12, 3) := by decide +kernel
theorem dX9_tells_81 : decode cX9_tells 81 = .ok (.aload_n 0, 1) := by decide +kernel
theorem dX9_tells_82 : decode cX9_tells 82 = .ok (.getfield 53, 3) := by decide +kernel
theorem dX9_tells_85 : decode cX9_tells 85 = .ok (.iload_n 2, 1) := by decide +kernel
theorem dX9_tells_86 : decode cX9_tells 86 = .ok (.iaload, 1) := by decide +kernel
theorem dX9_tells_87 : decode cX9_tells 87 = .ok (.goto 24, 3) := by decide +kernel
theorem dX9_tells_90 : decode cX9_tells 90 = .ok (.iload_n 1, 1) := by decide +kernel
theorem dX9_tells_91 : decode cX9_tells 91 = .ok (.bipush 40, 2) := by decide +kernel
theorem dX9_tells_93 : decode cX9_tells 93 = .ok (.if_icmp .ge 12, 3) := by decide +kernel
theorem dX9_tells_96 : decode cX9_tells 96 = .ok (.aload_n 0, 1) := by decide +kernel
theorem dX9_tells_97 : decode cX9_tells 97 = .ok (.getfield 56, 3) := by decide +kernel
theorem dX9_tells_100 : decode cX9_tells 100 = .ok (.iload_n 2, 1) := by decide +kernel
theorem dX9_tells_101 : decode cX9_tells 101 = .ok (.iaload, 1) := by decide +kernel
theorem dX9_tells_102 : decode cX9_tells 102 = .ok (.goto 9, 3) := by decide +kernel
theorem dX9_tells_105 : decode cX9_tells 105 = .ok (.aload_n 0, 1) := by decide +kernel
theorem dX9_tells_106 : decode cX9_tells 106 = .ok (.getfield 59, 3) := by decide +kernel
theorem dX9_tells_109 : decode cX9_tells 109 = .ok (.iload_n 2, 1) := by decide +kernel
theorem dX9_tells_110 : decode cX9_tells 110 = .ok (.iaload, 1) := by decide +kernel
theorem dX9_tells_111 : decode cX9_tells 111 = .ok (.ireturn, 1) := by decide +kernel
theorem dX9_day_0 : decode cX9_day 0 = .ok (.aload_n 0, 1) := by decide +kernel
theorem dX9_day_1 : decode cX9_day 1 = .ok (.iload_n 1, 1) := by decide +kernel
theorem dX9_day_2 : decode cX9_day 2 = .ok (.invokevirtual 293, 3) := by decide +kernel
theorem dX9_day_5 : decode cX9_day 5 = .ok (.ifCond .ne 7, 3) := by decide +kernel
theorem dX9_day_8 : decode cX9_day 8 = .ok (.ldc_w 296, 3) := by decide +kernel
theorem dX9_day_11 : decode cX9_day 11 = .ok (.ireturn, 1) := by decide +kernel
theorem dX9_day_12 : decode cX9_day 12 = .ok (.aload_n 0, 1) := by decide +kernel
theorem dX9_day_13 : decode cX9_day 13 = .ok (.aload_n 0, 1) := by decide +kernel
theorem dX9_day_14 : decode cX9_day 14 = .ok (.getfield 91, 3) := by decide +kernel
theorem dX9_day_17 : decode cX9_day 17 = .ok (.invokevirtual 297, 3) := by decide +kernel
theorem dX9_day_20 : decode cX9_day 20 = .ok (.aload_n 0, 1) := by decide +kernel
theorem dX9_day_21 : decode cX9_day 21 = .ok (.iload_n 1, 1) := by decide +kernel
theorem dX9_day_22 : decode cX9_day 22 = .ok (.invokevirtual 300, 3) := by decide +kernel
theorem dX9_day_25 : decode cX9_day 25 = .ok (.ireturn, 1) := by decide +kernel
theorem dX9_laysOrder_0 : decode cX9_laysOrder 0 = .ok (.aload_n 0, 1) := by decide +kernel
theorem dX9_laysOrder_1 : decode cX9_laysOrder 1 = .ok (.getfield 78, 3) := by decide +kernel
theorem dX9_laysOrder_4 : decode cX9_laysOrder 4 = .ok (.iload_n 1, 1) := by decide +kernel
theorem dX9_laysOrder_5 : decode cX9_laysOrder 5 = .ok (.iaload, 1) := by decide +kernel
theorem dX9_laysOrder_6 : decode cX9_laysOrder 6 = .ok (.aload_n 0, 1) := by decide +kernel
theorem dX9_laysOrder_7 : decode cX9_laysOrder 7 = .ok (.getfield 91, 3) := by decide +kernel
theorem dX9_laysOrder_10 : decode cX9_laysOrder 10 = .ok (.if_icmp .eq 5, 3) := by decide +kernel
theorem dX9_laysOrder_13 : decode cX9_laysOrder 13 = .ok (.iconst 0, 1) := by decide +kernel
theorem dX9_laysOrder_14 : decode cX9_laysOrder 14 = .ok (.ireturn, 1) := by decide +kernel
theorem dX9_laysOrder_15 : decode cX9_laysOrder 15 = .ok (.iconst 0, 1) := by decide +kernel
theorem dX9_laysOrder_16 : decode cX9_laysOrder 16 = .ok (.istore_n 2, 1) := by decide +kernel
theorem dX9_laysOrder_17 : decode cX9_laysOrder 17 = .ok (.iconst 0, 1) := by decide +kernel
theorem dX9_laysOrder_18 : decode cX9_laysOrder 18 = .ok (.istore_n 3, 1) := by decide +kernel
theorem dX9_laysOrder_19 : decode cX9_laysOrder 19 = .ok (.iload_n 3, 1) := by decide +kernel
theorem dX9_laysOrder_20 : decode cX9_laysOrder 20 = .ok (.aload_n 0, 1) := by decide +kernel
theorem dX9_laysOrder_21 : decode cX9_laysOrder 21 = .ok (.getfield 91, 3) := by decide +kernel
theorem dX9_laysOrder_24 : decode cX9_laysOrder 24 = .ok (.if_icmp .ge 58, 3) := by decide +kernel
theorem dX9_laysOrder_27 : decode cX9_laysOrder 27 = .ok (.aload_n 0, 1) := by decide +kernel
theorem dX9_laysOrder_28 : decode cX9_laysOrder 28 = .ok (.getfield 81, 3) := by decide +kernel
theorem dX9_laysOrder_31 : decode cX9_laysOrder 31 = .ok (.bipush 40, 2) := by decide +kernel
theorem dX9_laysOrder_33 : decode cX9_laysOrder 33 = .ok (.iload_n 1, 1) := by decide +kernel
theorem dX9_laysOrder_34 : decode cX9_laysOrder 34 = .ok (.imul, 1) := by decide +kernel
theorem dX9_laysOrder_35 : decode cX9_laysOrder 35 = .ok (.iload_n 3, 1) := by decide +kernel
theorem dX9_laysOrder_36 : decode cX9_laysOrder 36 = .ok (.iadd, 1) := by decide +kernel
theorem dX9_laysOrder_37 : decode cX9_laysOrder 37 = .ok (.iaload, 1) := by decide +kernel
theorem dX9_laysOrder_38 : decode cX9_laysOrder 38 = .ok (.istore 4, 2) := by decide +kernel
theorem dX9_laysOrder_40 : decode cX9_laysOrder 40 = .ok (.aload_n 0, 1) := by decide +kernel
theorem dX9_laysOrder_41 : decode cX9_laysOrder 41 = .ok (.iload 4, 2) := by decide +kernel
theorem dX9_laysOrder_43 : decode cX9_laysOrder 43 = .ok (.invokevirtual 100, 3) := by decide +kernel
theorem dX9_laysOrder_46 : decode cX9_laysOrder 46 = .ok (.ifCond .eq 13, 3) := by decide +kernel
theorem dX9_laysOrder_49 : decode cX9_laysOrder 49 = .ok (.iload_n 2, 1) := by decide +kernel
theorem dX9_laysOrder_50 : decode cX9_laysOrder 50 = .ok (.iload 4, 2) := by decide +kernel
theorem dX9_laysOrder_52 : decode cX9_laysOrder 52 = .ok (.ishr, 1) := by decide +kernel
theorem dX9_laysOrder_53 : decode cX9_laysOrder 53 = .ok (.iconst 1, 1) := by decide +kernel
theorem dX9_laysOrder_54 : decode cX9_laysOrder 54 = .ok (.iand, 1) := by decide +kernel
theorem dX9_laysOrder_55 : decode cX9_laysOrder 55 = .ok (.iconst 1, 1) := by decide +kernel
theorem dX9_laysOrder_56 : decode cX9_laysOrder 56 = .ok (.if_icmp .ne 5, 3) := by decide +kernel
theorem dX9_laysOrder_59 : decode cX9_laysOrder 59 = .ok (.iconst 0, 1) := by decide +kernel
theorem dX9_laysOrder_60 : decode cX9_laysOrder 60 = .ok (.ireturn, 1) := by decide +kernel
theorem dX9_laysOrder_61 : decode cX9_laysOrder 61 = .ok (.iload_n 2, 1) := by decide +kernel
theorem dX9_laysOrder_62 : decode cX9_laysOrder 62 = .ok (.iconst 1, 1) := by decide +kernel
theorem dX9_laysOrder_63 : decode cX9_laysOrder 63 = .ok (.iload 4, 2) := by decide +kernel
theorem dX9_laysOrder_65 : decode cX9_laysOrder 65 = .ok (.ishl, 1) := by decide +kernel
theorem dX9_laysOrder_66 : decode cX9_laysOrder 66 = .ok (.ior, 1) := by decide +kernel
theorem dX9_laysOrder_67 : decode cX9_laysOrder 67 = .ok (.istore_n 2, 1) := by decide +kernel
theorem dX9_laysOrder_68 : decode cX9_laysOrder 68 = .ok (.aload_n 0, 1) := by decide +kernel
theorem dX9_laysOrder_69 : decode cX9_laysOrder 69 = .ok (.getfield 38, 3) := by decide +kernel
theorem dX9_laysOrder_72 : decode cX9_laysOrder 72 = .ok (.iload_n 3, 1) := by decide +kernel
theorem dX9_laysOrder_73 : decode cX9_laysOrder 73 = .ok (.iload 4, 2) := by decide +kernel
theorem dX9_laysOrder_75 : decode cX9_laysOrder 75 = .ok (.iastore, 1) := by decide +kernel
theorem dX9_laysOrder_76 : decode cX9_laysOrder 76 = .ok (.iinc 3 1, 3) := by decide +kernel
theorem dX9_laysOrder_79 : decode cX9_laysOrder 79 = .ok (.goto (-60), 3) := by decide +kernel
theorem dX9_laysOrder_82 : decode cX9_laysOrder 82 = .ok (.aload_n 0, 1) := by decide +kernel
theorem dX9_laysOrder_83 : decode cX9_laysOrder 83 = .ok (.aload_n 0, 1) := by decide +kernel
theorem dX9_laysOrder_84 : decode cX9_laysOrder 84 = .ok (.getfield 91, 3) := by decide +kernel
theorem dX9_laysOrder_87 : decode cX9_laysOrder 87 = .ok (.putfield 267, 3) := by decide +kernel
theorem dX9_laysOrder_90 : decode cX9_laysOrder 90 = .ok (.iconst 1, 1) := by decide +kernel
theorem dX9_laysOrder_91 : decode cX9_laysOrder 91 = .ok (.ireturn, 1) := by decide +kernel
theorem dX9_isSheet_0 : decode cX9_isSheet 0 = .ok (.iload_n 0, 1) := by decide +kernel
theorem dX9_isSheet_1 : decode cX9_isSheet 1 = .ok (.i2l, 1) := by decide +kernel
theorem dX9_isSheet_2 : decode cX9_isSheet 2 = .ok (.lconst 0, 1) := by decide +kernel
theorem dX9_isSheet_3 : decode cX9_isSheet 3 = .ok (.ldc2_w 337, 3) := by decide +kernel
theorem dX9_isSheet_6 : decode cX9_isSheet 6 = .ok (.invokestatic 94, 3) := by decide +kernel
theorem dX9_isSheet_9 : decode cX9_isSheet 9 = .ok (.ireturn, 1) := by decide +kernel
theorem dX9_order_0 : decode cX9_order 0 = .ok (.iload_n 1, 1) := by decide +kernel
theorem dX9_order_1 : decode cX9_order 1 = .ok (.invokestatic 303, 3) := by decide +kernel
theorem dX9_order_4 : decode cX9_order 4 = .ok (.ifCond .eq 28, 3) := by decide +kernel
theorem dX9_order_7 : decode cX9_order 7 = .ok (.aload_n 0, 1) := by decide +kernel
theorem dX9_order_8 : decode cX9_order 8 = .ok (.iload_n 2, 1) := by decide +kernel
theorem dX9_order_9 : decode cX9_order 9 = .ok (.invokevirtual 293, 3) := by decide +kernel
theorem dX9_order_12 : decode cX9_order 12 = .ok (.ifCond .eq 20, 3) := by decide +kernel
theorem dX9_order_15 : decode cX9_order 15 = .ok (.aload_n 0, 1) := by decide +kernel
theorem dX9_order_16 : decode cX9_order 16 = .ok (.getfield 71, 3) := by decide +kernel
theorem dX9_order_19 : decode cX9_order 19 = .ok (.iload_n 1, 1) := by decide +kernel
theorem dX9_order_20 : decode cX9_order 20 = .ok (.baload, 1) := by decide +kernel
theorem dX9_order_21 : decode cX9_order 21 = .ok (.ifCond .eq 11, 3) := by decide +kernel
theorem dX9_order_24 : decode cX9_order 24 = .ok (.aload_n 0, 1) := by decide +kernel
theorem dX9_order_25 : decode cX9_order 25 = .ok (.iload_n 1, 1) := by decide +kernel
theorem dX9_order_26 : decode cX9_order 26 = .ok (.invokevirtual 306, 3) := by decide +kernel
theorem dX9_order_29 : decode cX9_order 29 = .ok (.ifCond .ne 7, 3) := by decide +kernel
theorem dX9_order_32 : decode cX9_order 32 = .ok (.ldc_w 296, 3) := by decide +kernel
theorem dX9_order_35 : decode cX9_order 35 = .ok (.ireturn, 1) := by decide +kernel
theorem dX9_order_36 : decode cX9_order 36 = .ok (.aload_n 0, 1) := by decide +kernel
theorem dX9_order_37 : decode cX9_order 37 = .ok (.invokevirtual 280, 3) := by decide +kernel
theorem dX9_order_40 : decode cX9_order 40 = .ok (.aload_n 0, 1) := by decide +kernel
theorem dX9_order_41 : decode cX9_order 41 = .ok (.invokevirtual 283, 3) := by decide +kernel
theorem dX9_order_44 : decode cX9_order 44 = .ok (.aload_n 0, 1) := by decide +kernel
theorem dX9_order_45 : decode cX9_order 45 = .ok (.iload_n 2, 1) := by decide +kernel
theorem dX9_order_46 : decode cX9_order 46 = .ok (.invokevirtual 300, 3) := by decide +kernel
theorem dX9_order_49 : decode cX9_order 49 = .ok (.ireturn, 1) := by decide +kernel
def m_in (a1 : Int64) (a2 : Int64) (a3 : Int64) : Option Bool :=
if (lg_cmp a1 a2) < 0 then
(some false)
else
(if 0 < (lg_cmp a1 a3) then
(some false)
else
(some true))
def m_within (a1 : Int32) (a2 : Int32) (a3 : Int32) : Option Int32 :=
if a2 ≤ a1 then
(if a1 ≤ a3 then
(some a1)
else
(some a3))
else
(some a2)
def m_bitsOf_L4 (j2 : Int32 → Option Int32) : Nat → Int32 → Int32 → Option Int32
  | 0, _, _ => none
  | fu5 + 1, v3, v4 =>
    if v4 = 0 then
    (j2 v3)
    else
    (bnd (v3 + 1) fun (v6 : Int32) =>
    bnd ((v4 &&& (v4 - 1))) fun (v7 : Int32) =>
    m_bitsOf_L4 j2 fu5 v6 v7)
def m_bitsOf (a1 : Int32) : Option Int32 :=
jp (fun (v1 : Int32) =>
some v1) fun j2 =>
m_bitsOf_L4 j2 FU 0 a1
def m_isWall (M : Mem) (a1 : Int32) : Option Bool :=
ob (m_in (a1.toInt64) 0 (((M 0 12) - 1).toInt64)) fun (v2 : Bool) =>
some v2
def m_lastsOf (M : Mem) (a1 : Int32) : Option Int32 :=
ck a1 6 <|
bnd ((M 5 a1.toNatClampNeg)) fun (v1 : Int32) =>
ck a1 6 <|
bnd ((10 - ((M 6 a1.toNatClampNeg) / 2))) fun (v2 : Int32) =>
jp (fun (v3 : Int32) =>
if 0 ≤ v3 then
(some v3)
else
(some 0)) fun j4 =>
if v1 = 1 then
(j4 v2)
else
(if v1 = 3 then
(j4 (v2 - 2))
else
(if v1 = 4 then
(j4 15)
else
(j4 10)))
def m_byteAt (M : Mem) (a1 : Int32) : Option Int32 :=
if (M 0 20) ≤ a1 then
(some (-1))
else
(ck ((M 0 19) + a1) 960 <|
some (M 1 ((M 0 19) + a1).toNatClampNeg))
def m_next_L160 (j20 : Int32 → Mem → Option Mem) : Nat → Int32 → Mem → Option Mem
  | 0, _, _ => none
  | fu26 + 1, v24, M25 =>
    ob (m_byteAt M25 (M25 0 21)) fun (v28 : Int32) =>
    ob (m_in (v28.toInt64) 48 57) fun (v30 : Bool) =>
    if v30 = true then
    (jp (fun (v31 : Int64) =>
    rq (v31.toInt32.toInt64 = v31) <|
    bnd (wr M25 0 24 v31.toInt32) fun (M33 : Mem) =>
    bnd (v24 + 1) fun (v34 : Int32) =>
    bnd (wr M33 0 21 ((M33 0 21) + 1)) fun (M35 : Mem) =>
    m_next_L160 j20 fu26 v34 M35) fun j32 =>
    if 4 ≤ v24 then
    (j32 ((M25 0 24).toInt64))
    else
    (ob (m_byteAt M25 (M25 0 21)) fun (v37 : Int32) =>
    j32 (((10 * (M25 0 24).toInt64) + v37.toInt64) - 48)))
    else
    (j20 v24 M25)
def m_next_L100  : Nat → Mem → Option Mem
  | 0, _ => none
  | fu40 + 1, M39 =>
    ob (m_byteAt M39 (M39 0 21)) fun (v42 : Int32) =>
    ob (m_in (v42.toInt64) 97 122) fun (v44 : Bool) =>
    if v44 = true then
    (bnd (wr M39 0 21 ((M39 0 21) + 1)) fun (M45 : Mem) =>
    m_next_L100 fu40 M45)
    else
    (some M39)
def m_next_L0 (j2 : Mem → Option Mem) : Nat → Mem → Option Mem
  | 0, _ => none
  | fu49 + 1, M48 =>
    ob (m_byteAt M48 (M48 0 21)) fun (v51 : Int32) =>
    jp (fun (u52 : Unit) =>
    bnd (wr M48 0 21 ((M48 0 21) + 1)) fun (M54 : Mem) =>
    m_next_L0 j2 fu49 M54) fun j53 =>
    if v51 = 32 then
    (j53 ())
    else
    (ob (m_byteAt M48 (M48 0 21)) fun (v56 : Int32) =>
    if v56 = 10 then
    (j53 ())
    else
    (j2 M48))
def m_next (M : Mem) : Option Mem :=
jp (fun (M1 : Mem) =>
bnd (wr M1 0 23 (M1 0 21)) fun (M3 : Mem) =>
ob (m_byteAt M3 (M3 0 21)) fun (v5 : Int32) =>
bnd (wr M3 0 22 4) fun (M6 : Mem) =>
if 0 ≤ v5 then
(ob (m_in (v5.toInt64) 97 122) fun (v8 : Bool) =>
if v8 = true then
(bnd (wr M6 0 22 1) fun (M38 : Mem) =>
m_next_L100 FU M38)
else
(ob (m_in (v5.toInt64) 48 57) fun (v10 : Bool) =>
if v10 = true then
(bnd (wr M6 0 22 2) fun (M16 : Mem) =>
rq ((0 : Int64).toInt32.toInt64 = 0) <|
bnd (wr M16 0 24 (0 : Int64).toInt32) fun (M17 : Mem) =>
jp (fun (v18 : Int32) (M19 : Mem) =>
jp (fun (v21 : Int32) =>
bnd (wr M19 0 22 v21) fun (M23 : Mem) =>
some M23) fun j22 =>
if v18 ≤ 4 then
(j22 2)
else
(j22 4)) fun j20 =>
m_next_L160 j20 FU 0 M17)
else
(jp (fun (u11 : Unit) =>
bnd (wr M6 0 22 3) fun (M13 : Mem) =>
rq ((v5.toInt64).toInt32.toInt64 = v5.toInt64) <|
bnd (wr M13 0 24 (v5.toInt64).toInt32) fun (M14 : Mem) =>
bnd (wr M14 0 21 ((M14 0 21) + 1)) fun (M15 : Mem) =>
some M15) fun j12 =>
if v5 = 40 then
(j12 ())
else
(if v5 = 41 then
(j12 ())
else
(if v5 = 59 then
(j12 ())
else
(if v5 = 43 then
(j12 ())
else
(if v5 = 45 then
(j12 ())
else
(if v5 = 42 then
(j12 ())
else
(if v5 = 60 then
(j12 ())
else
(if v5 = 61 then
(j12 ())
else
(some M6)))))))))))
else
(bnd (wr M6 0 22 0) fun (M46 : Mem) =>
bnd (wr M46 0 23 (M46 0 20)) fun (M47 : Mem) =>
some M47)) fun j2 =>
m_next_L0 j2 FU M
def m_fail (M : Mem) : Option Mem :=
if (M 0 26) = 0 then
(bnd (wr M 0 26 1) fun (M1 : Mem) =>
bnd (wr M1 0 27 (M1 0 23)) fun (M2 : Mem) =>
some M2)
else
(some M)
def m_isLetter (M : Mem) (a1 : Int32) (a2 : Int32) : Option Bool :=
if (M 0 21) ≤ ((M 0 23) + a1) then
(if a2 = 0 then
(some true)
else
(some false))
else
(ob (m_byteAt M ((M 0 23) + a1)) fun (v2 : Int32) =>
if v2 = a2 then
(some true)
else
(some false))
def m_isWord (M : Mem) (a1 : Int32) (a2 : Int32) (a3 : Int32) (a4 : Int32) (a5 : Int32) (a6 : Int32) (a7 : Int32) (a8 : Int32) : Option Bool :=
if (M 0 26) = 0 then
(if (M 0 22) = 1 then
(if ((M 0 23) + 8) < (M 0 21) then
(some false)
else
(ob (m_isLetter M 0 a1) fun (v2 : Bool) =>
if v2 = true then
(ob (m_isLetter M 1 a2) fun (v4 : Bool) =>
if v4 = true then
(ob (m_isLetter M 2 a3) fun (v6 : Bool) =>
if v6 = true then
(ob (m_isLetter M 3 a4) fun (v8 : Bool) =>
if v8 = true then
(ob (m_isLetter M 4 a5) fun (v10 : Bool) =>
if v10 = true then
(ob (m_isLetter M 5 a6) fun (v12 : Bool) =>
if v12 = true then
(ob (m_isLetter M 6 a7) fun (v14 : Bool) =>
if v14 = true then
(ob (m_isLetter M 7 a8) fun (v16 : Bool) =>
if v16 = true then
(some true)
else
(some false))
else
(some false))
else
(some false))
else
(some false))
else
(some false))
else
(some false))
else
(some false))
else
(some false)))
else
(some false))
else
(some false)
def m_isSign (M : Mem) (a1 : Int32) : Option Bool :=
if (M 0 26) = 0 then
(if (M 0 22) = 3 then
(if (lg_cmp ((M 0 24).toInt64) (a1.toInt64)) = 0 then
(some true)
else
(some false))
else
(some false))
else
(some false)
def m_opens (M : Mem) : Option (Mem × Bool) :=
if (M 0 25) = 5 then
(ob (m_fail M) fun (M5 : Mem) =>
some (M5, false))
else
(bnd (wr M 0 25 ((M 0 25) + 1)) fun (M1 : Mem) =>
ob (m_next M1) fun (M3 : Mem) =>
some (M3, true))
def m_name (M : Mem) : Option (Mem × Int32) :=
ob (m_isWord M 119 97 114 109 0 0 0 0) fun (v2 : Bool) =>
if v2 = true then
(some (M, (M 0 13)))
else
(ob (m_isWord M 97 103 101 0 0 0 0 0) fun (v4 : Bool) =>
if v4 = true then
(some (M, (M 0 14)))
else
(ob (m_isWord M 100 105 114 116 0 0 0 0) fun (v6 : Bool) =>
if v6 = true then
(some (M, (M 0 15)))
else
(ob (m_isWord M 121 97 114 100 115 0 0 0) fun (v8 : Bool) =>
if v8 = true then
(some (M, (M 0 16)))
else
(ob (m_isWord M 111 102 102 0 0 0 0 0) fun (v10 : Bool) =>
if v10 = true then
(some (M, (M 0 17)))
else
(ob (m_isWord M 110 117 109 98 101 114 0 0) fun (v12 : Bool) =>
if v12 = true then
(some (M, (M 0 18)))
else
(ob (m_fail M) fun (M14 : Mem) =>
some (M14, 0)))))))
def m_term_L5 (ao : Mem → Option (Mem × Int32)) (j6 : Int32 → Mem → Option (Mem × Int32)) : Nat → Int32 → Mem → Option (Mem × Int32)
  | 0, _, _ => none
  | fu9 + 1, v7, M8 =>
    ob (m_isSign M8 42) fun (v11 : Bool) =>
    if v11 = true then
    (ob (m_next M8) fun (M13 : Mem) =>
    ob2 (ao M13) fun (M15 : Mem) (v16 : Int32) =>
    bnd ((v7 * v16)) fun (v17 : Int32) =>
    m_term_L5 ao j6 fu9 v17 M15)
    else
    (j6 v7 M8)
def m_term (ao : Mem → Option (Mem × Int32)) (M : Mem) : Option (Mem × Int32) :=
ob2 (ao M) fun (M2 : Mem) (v3 : Int32) =>
jp (fun (v4 : Int32) (M5 : Mem) =>
some (M5, v4)) fun j6 =>
m_term_L5 ao j6 FU v3 M2
def m_added_L5 (ao : Mem → Option (Mem × Int32)) (j6 : Int32 → Mem → Option (Mem × Int32)) : Nat → Int32 → Mem → Option (Mem × Int32)
  | 0, _, _ => none
  | fu9 + 1, v7, M8 =>
    ob (m_isSign M8 43) fun (v11 : Bool) =>
    jp (fun (u12 : Unit) =>
    jp (fun (v14 : Int32) =>
    ob (m_next M8) fun (M17 : Mem) =>
    ob2 (m_term ao M17) fun (M19 : Mem) (v20 : Int32) =>
    jp (fun (v21 : Int32) =>
    m_added_L5 ao j6 fu9 v21 M19) fun j22 =>
    if v14 = 0 then
    (j22 (v7 - v20))
    else
    (j22 (v7 + v20))) fun j15 =>
    if (lg_cmp ((M8 0 24).toInt64) 43) = 0 then
    (j15 1)
    else
    (j15 0)) fun j13 =>
    if v11 = true then
    (j13 ())
    else
    (ob (m_isSign M8 45) fun (v24 : Bool) =>
    if v24 = true then
    (j13 ())
    else
    (j6 v7 M8))
def m_added (ao : Mem → Option (Mem × Int32)) (M : Mem) : Option (Mem × Int32) :=
ob2 (m_term ao M) fun (M2 : Mem) (v3 : Int32) =>
jp (fun (v4 : Int32) (M5 : Mem) =>
some (M5, v4)) fun j6 =>
m_added_L5 ao j6 FU v3 M2
def m_notB (ao : Mem → Option (Mem × Int32)) (slf : Mem → Option (Mem × Int32)) (M : Mem) : Option (Mem × Int32) :=
ob (m_isWord M 110 111 116 0 0 0 0 0) fun (v2 : Bool) =>
if v2 = true then
(ob2 (m_opens M) fun (M20 : Mem) (v21 : Bool) =>
if v21 = true then
(ob2 (slf M20) fun (M23 : Mem) (v24 : Int32) =>
bnd (wr M23 0 25 ((M23 0 25) - 1)) fun (M25 : Mem) =>
if v24 = 0 then
(some (M25, 1))
else
(some (M25, 0)))
else
(some (M20, 0)))
else
(ob2 (m_added ao M) fun (M4 : Mem) (v5 : Int32) =>
ob (m_isSign M4 60) fun (v7 : Bool) =>
jp (fun (u8 : Unit) =>
jp (fun (v10 : Int32) =>
ob (m_next M4) fun (M13 : Mem) =>
ob2 (m_added ao M13) fun (M15 : Mem) (v16 : Int32) =>
if v10 = 0 then
(if v5 = v16 then
(some (M15, 1))
else
(some (M15, 0)))
else
(if v16 ≤ v5 then
(some (M15, 0))
else
(some (M15, 1)))) fun j11 =>
if (lg_cmp ((M4 0 24).toInt64) 60) = 0 then
(j11 1)
else
(j11 0)) fun j9 =>
if v7 = true then
(j9 ())
else
(ob (m_isSign M4 61) fun (v18 : Bool) =>
if v18 = true then
(j9 ())
else
(some (M4, v5))))
def m_not (ao : Mem → Option (Mem × Int32)) : Nat → Mem → Option (Mem × Int32)
  | 0, _ => none
  | k + 1, M => m_notB ao (m_not ao k) M
def m_both_L5 (ao : Mem → Option (Mem × Int32)) (j6 : Int32 → Mem → Option (Mem × Int32)) : Nat → Int32 → Mem → Option (Mem × Int32)
  | 0, _, _ => none
  | fu9 + 1, v7, M8 =>
    ob (m_isWord M8 97 110 100 0 0 0 0 0) fun (v11 : Bool) =>
    if v11 = true then
    (ob (m_next M8) fun (M13 : Mem) =>
    ob2 (m_not ao 10 M13) fun (M15 : Mem) (v16 : Int32) =>
    jp (fun (v17 : Int32) =>
    m_both_L5 ao j6 fu9 v17 M15) fun j18 =>
    jp (fun (u19 : Unit) =>
    j18 0) fun j20 =>
    if v7 = 0 then
    (j20 ())
    else
    (if v16 = 0 then
    (j20 ())
    else
    (j18 1)))
    else
    (j6 v7 M8)
def m_both (ao : Mem → Option (Mem × Int32)) (M : Mem) : Option (Mem × Int32) :=
ob2 (m_not ao 10 M) fun (M2 : Mem) (v3 : Int32) =>
jp (fun (v4 : Int32) (M5 : Mem) =>
some (M5, v4)) fun j6 =>
m_both_L5 ao j6 FU v3 M2
def m_either_L5 (ao : Mem → Option (Mem × Int32)) (j6 : Int32 → Mem → Option (Mem × Int32)) : Nat → Int32 → Mem → Option (Mem × Int32)
  | 0, _, _ => none
  | fu9 + 1, v7, M8 =>
    ob (m_isWord M8 111 114 0 0 0 0 0 0) fun (v11 : Bool) =>
    if v11 = true then
    (ob (m_next M8) fun (M13 : Mem) =>
    ob2 (m_both ao M13) fun (M15 : Mem) (v16 : Int32) =>
    jp (fun (v17 : Int32) =>
    m_either_L5 ao j6 fu9 v17 M15) fun j18 =>
    jp (fun (u19 : Unit) =>
    j18 1) fun j20 =>
    if v7 = 0 then
    (if v16 = 0 then
    (j18 0)
    else
    (j20 ()))
    else
    (j20 ()))
    else
    (j6 v7 M8)
def m_either (ao : Mem → Option (Mem × Int32)) (M : Mem) : Option (Mem × Int32) :=
ob2 (m_both ao M) fun (M2 : Mem) (v3 : Int32) =>
jp (fun (v4 : Int32) (M5 : Mem) =>
some (M5, v4)) fun j6 =>
m_either_L5 ao j6 FU v3 M2
def m_atomB (ao : Mem → Option (Mem × Int32)) (M : Mem) : Option (Mem × Int32) :=
ob (m_isSign M 45) fun (v2 : Bool) =>
if v2 = true then
(ob2 (m_opens M) fun (M37 : Mem) (v38 : Bool) =>
if v38 = true then
(ob2 (ao M37) fun (M40 : Mem) (v41 : Int32) =>
bnd ((-v41)) fun (v42 : Int32) =>
bnd (wr M40 0 25 ((M40 0 25) - 1)) fun (M43 : Mem) =>
some (M43, v42))
else
(some (M37, 0)))
else
(ob (m_isSign M 40) fun (v4 : Bool) =>
if v4 = true then
(ob2 (m_opens M) fun (M22 : Mem) (v23 : Bool) =>
if v23 = true then
(ob2 (m_either ao M22) fun (M25 : Mem) (v26 : Int32) =>
ob (m_isSign M25 41) fun (v28 : Bool) =>
jp (fun (M29 : Mem) =>
bnd (wr M29 0 25 ((M29 0 25) - 1)) fun (M31 : Mem) =>
if (M31 0 26) = 0 then
(ob (m_next M31) fun (M33 : Mem) =>
some (M33, v26))
else
(some (M31, v26))) fun j30 =>
if v28 = true then
(j30 M25)
else
(ob (m_fail M25) fun (M35 : Mem) =>
j30 M35))
else
(some (M22, 0)))
else
(jp (fun (v5 : Int32) (M6 : Mem) =>
jp (fun (v8 : Int32) (M9 : Mem) =>
ob (m_fail M9) fun (M12 : Mem) =>
some (M12, v8)) fun j10 =>
if (M6 0 26) = 0 then
(if (M6 0 22) = 1 then
(ob2 (m_name M6) fun (M14 : Mem) (v15 : Int32) =>
if (M14 0 26) = 0 then
(ob (m_next M14) fun (M17 : Mem) =>
some (M17, v15))
else
(some (M14, v15)))
else
(j10 v5 M6))
else
(j10 v5 M6)) fun j7 =>
if (M 0 26) = 0 then
(if (M 0 22) = 2 then
(bnd (((M 0 24).toInt64).toInt32) fun (v18 : Int32) =>
ob (m_next M) fun (M20 : Mem) =>
some (M20, v18))
else
(j7 0 M))
else
(j7 0 M)))
def m_atom : Nat → Mem → Option (Mem × Int32)
  | 0, _ => none
  | n + 1, M => m_atomB (m_atom n) M
def m_part (M : Mem) (a1 : Int32) : Option (Mem × Int32) :=
jp (fun (M1 : Mem) =>
jp (fun (M3 : Mem) =>
jp (fun (v5 : Int32) (M6 : Mem) =>
ob (m_isSign M6 59) fun (v9 : Bool) =>
jp (fun (M10 : Mem) =>
if (M10 0 26) = 0 then
(ob (m_next M10) fun (M13 : Mem) =>
some (M13, v5))
else
(some (M10, v5))) fun j11 =>
if v9 = true then
(j11 M6)
else
(ob (m_fail M6) fun (M15 : Mem) =>
j11 M15)) fun j7 =>
if (M3 0 26) = 0 then
(ob2 (m_either (m_atom 8) M3) fun (M17 : Mem) (v18 : Int32) =>
j7 v18 M17)
else
(j7 0 M3)) fun j4 =>
if (M1 0 26) = 0 then
(ob (m_next M1) fun (M20 : Mem) =>
j4 M20)
else
(j4 M1)) fun j2 =>
if a1 = 0 then
(ob (m_fail M) fun (M22 : Mem) =>
j2 M22)
else
(j2 M)
def m_read (M : Mem) (a1 : Int32) (a2 : Int32) : Option (Mem × Int32) :=
bnd (wr M 0 19 (160 * a1)) fun (M1 : Mem) =>
ck a1 6 <|
bnd (wr M1 0 20 (M1 2 a1.toNatClampNeg)) fun (M2 : Mem) =>
bnd (wr M2 0 21 0) fun (M3 : Mem) =>
bnd (wr M3 0 25 0) fun (M4 : Mem) =>
bnd (wr M4 0 26 0) fun (M5 : Mem) =>
ob (m_next M5) fun (M7 : Mem) =>
ob (m_isWord M7 114 105 112 101 110 115 0 0) fun (v9 : Bool) =>
ob2 (m_part M7 (b2i v9)) fun (M11 : Mem) (v12 : Int32) =>
jp (fun (v13 : Int32) (M14 : Mem) =>
jp (fun (v16 : Int32) (M17 : Mem) =>
jp (fun (M19 : Mem) =>
if a2 = 0 then
(some (M19, v12))
else
(if a2 = 1 then
(some (M19, v13))
else
(some (M19, v16)))) fun j20 =>
if (M17 0 26) = 0 then
(if (M17 0 22) = 0 then
(j20 M17)
else
(ob (m_fail M17) fun (M22 : Mem) =>
j20 M22))
else
(j20 M17)) fun j18 =>
if (M14 0 26) = 0 then
(ob (m_isWord M14 115 112 111 105 108 115 0 0) fun (v24 : Bool) =>
ob2 (m_part M14 (b2i v24)) fun (M26 : Mem) (v27 : Int32) =>
j18 v27 M26)
else
(j18 0 M14)) fun j15 =>
if (M11 0 26) = 0 then
(ob (m_isWord M11 116 97 107 101 115 0 0 0) fun (v29 : Bool) =>
ob2 (m_part M11 (b2i v29)) fun (M31 : Mem) (v32 : Int32) =>
j15 v32 M31)
else
(j15 0 M11)
def m_text_L14 (j2 : Mem → Option (Mem × Int32)) : Nat → Int32 → Mem → Option (Mem × Int32)
  | 0, _, _ => none
  | fu11 + 1, v9, M10 =>
    if (M10 0 6) ≤ v9 then
    (j2 M10)
    else
    (ck v9 160 <|
    ck ((160 * (M10 0 3)) + v9) 960 <|
    bnd (wr M10 1 ((160 * (M10 0 3)) + v9).toNatClampNeg (M10 3 v9.toNatClampNeg)) fun (M12 : Mem) =>
    bnd (v9 + 1) fun (v13 : Int32) =>
    m_text_L14 j2 fu11 v13 M12)
def m_text (M : Mem) : Option (Mem × Int32) :=
if (M 0 3) = 6 then
(some (M, (-4)))
else
(jp (fun (M1 : Mem) =>
ck (M1 0 3) 6 <|
bnd (wr M1 2 (M1 0 3).toNatClampNeg (M1 0 6)) fun (M3 : Mem) =>
bnd (wr M3 0 6 0) fun (M4 : Mem) =>
ob2 (m_read M4 (M4 0 3) 0) fun (M6 : Mem) (v7 : Int32) =>
if (M6 0 26) = 0 then
(bnd (wr M6 0 3 ((M6 0 3) + 1)) fun (M8 : Mem) =>
some (M8, ((M8 0 3) - 1)))
else
(some (M6, ((-100) - (M6 0 27))))) fun j2 =>
m_text_L14 j2 FU 0 M)
def m_force (M : Mem) (a1 : Int32) : Option (Mem × Int32) :=
ob (m_in (a1.toInt64) 0 (((M 0 3) - 1).toInt64)) fun (v2 : Bool) =>
if v2 = true then
(bnd ((M 0 4)) fun (v3 : Int32) =>
bnd (wr M 0 4 a1) fun (M4 : Mem) =>
some (M4, v3))
else
(some (M, (-2)))
def m_says (M : Mem) (a1 : Int32) (a2 : Int32) (a3 : Int32) (a4 : Int32) (a5 : Int32) : Option (Mem × Int32) :=
ck 0 6 <|
bnd (wr M 0 13 (M 4 (0 : Int32).toNatClampNeg)) fun (M1 : Mem) =>
ck 1 6 <|
bnd (wr M1 0 14 (M1 4 (1 : Int32).toNatClampNeg)) fun (M2 : Mem) =>
ck 2 6 <|
bnd (wr M2 0 15 (M2 4 (2 : Int32).toNatClampNeg)) fun (M3 : Mem) =>
ck a2 6 <|
bnd (wr M3 0 16 (M3 7 a2.toNatClampNeg)) fun (M4 : Mem) =>
bnd (wr M4 0 17 a3) fun (M5 : Mem) =>
ck a2 6 <|
bnd (wr M5 0 18 (M5 6 a2.toNatClampNeg)) fun (M6 : Mem) =>
ob2 (m_read M6 (M6 0 4) a1) fun (M8 : Mem) (v9 : Int32) =>
ob (m_within v9 a4 a5) fun (v11 : Int32) =>
some (M8, v11)
def m_ripensOf (M : Mem) (a1 : Int32) : Option (Mem × Int32) :=
ck a1 6 <|
bnd ((M 5 a1.toNatClampNeg)) fun (v1 : Int32) =>
ck a1 6 <|
bnd ((M 6 a1.toNatClampNeg)) fun (v2 : Int32) =>
ob2 (m_says M 0 a1 0 1 240) fun (M4 : Mem) (v5 : Int32) =>
jp (fun (v6 : Int32) =>
if 1 ≤ v6 then
(some (M4, v6))
else
(some (M4, 1))) fun j7 =>
jp (fun (u8 : Unit) =>
ck a1 6 <|
jp (fun (v10 : Int32) =>
jp (fun (v12 : Int32) =>
j7 v12) fun j13 =>
if v1 = 3 then
(j13 (v10 / 2))
else
(j13 v10)) fun j11 =>
if (M4 8 a1.toNatClampNeg) = 1 then
(j11 (v5 - v2))
else
(j11 (v5 - (3 * v2)))) fun j9 =>
if v1 = 1 then
(j9 ())
else
(if v1 = 3 then
(j9 ())
else
(jp (fun (u14 : Unit) =>
jp (fun (v16 : Int32) =>
j7 v16) fun j17 =>
jp (fun (u18 : Unit) =>
j17 (v5 + (2 * v2))) fun j19 =>
if v1 = 4 then
(ck a1 6 <|
if (M4 8 a1.toNatClampNeg) = 1 then
(j17 v5)
else
(j19 ()))
else
(j19 ())) fun j15 =>
if v1 = 2 then
(j15 ())
else
(if v1 = 4 then
(j15 ())
else
(j7 v5))))
def m_takesOf (M : Mem) (a1 : Int32) : Option (Mem × Int32) :=
ck a1 6 <|
ob2 (m_says M 1 a1 0 1 20) fun (M2 : Mem) (v3 : Int32) =>
bnd (((M 7 a1.toNatClampNeg) * v3)) fun (v4 : Int32) =>
ck a1 6 <|
bnd ((M2 5 a1.toNatClampNeg)) fun (v5 : Int32) =>
jp (fun (v6 : Int32) =>
if 1 ≤ v6 then
(some (M2, v6))
else
(some (M2, 1))) fun j7 =>
if v5 = 3 then
(j7 (v4 + 3))
else
(if v5 = 5 then
(j7 (2 * v4))
else
(j7 v4))
def m_set (M : Mem) (a1 : Int32) (a2 : Int32) (a3 : Int32) : Option (Mem × Int32) :=
ob (m_in (a1.toInt64) 0 8) fun (v2 : Bool) =>
if v2 = true then
(jp (fun (u3 : Unit) =>
jp (fun (v5 : Int32) =>
jp (fun (v7 : Int64) =>
ob (m_in (a3.toInt64) v7 (v5.toInt64)) fun (v10 : Bool) =>
if v10 = true then
(jp (fun (v11 : Int32) =>
if 6 ≤ a1 then
(if a1 = 6 then
(ck a2 6 <|
bnd (wr M 6 a2.toNatClampNeg a3) fun (M15 : Mem) =>
some (M15, v11))
else
(if a1 = 7 then
(ck a2 6 <|
bnd (wr M 7 a2.toNatClampNeg a3) fun (M14 : Mem) =>
some (M14, v11))
else
(ck a2 6 <|
bnd (wr M 8 a2.toNatClampNeg a3) fun (M13 : Mem) =>
some (M13, v11))))
else
(ck a1 6 <|
bnd (wr M 4 a1.toNatClampNeg a3) fun (M16 : Mem) =>
some (M16, v11))) fun j12 =>
if 6 ≤ a1 then
(if a1 = 6 then
(ck a2 6 <|
j12 (M 6 a2.toNatClampNeg))
else
(if a1 = 7 then
(ck a2 6 <|
j12 (M 7 a2.toNatClampNeg))
else
(ck a2 6 <|
j12 (M 8 a2.toNatClampNeg))))
else
(ck a1 6 <|
j12 (M 4 a1.toNatClampNeg)))
else
(some (M, (-2)))) fun j8 =>
jp (fun (u17 : Unit) =>
j8 1) fun j18 =>
if a1 = 3 then
(j18 ())
else
(if a1 = 7 then
(j18 ())
else
(j8 0))) fun j6 =>
if a1 = 0 then
(j6 40)
else
(if a1 = 3 then
(j6 2)
else
(if a1 = 4 then
(j6 60)
else
(jp (fun (u19 : Unit) =>
j6 20) fun j20 =>
if a1 = 5 then
(j20 ())
else
(if a1 = 7 then
(j20 ())
else
(if a1 = 8 then
(j6 1)
else
(j6 9))))))) fun j4 =>
if a1 ≤ 5 then
(j4 ())
else
(ob (m_isWall M a2) fun (v22 : Bool) =>
if v22 = true then
(j4 ())
else
(some (M, (-2)))))
else
(some (M, (-2)))
def m_wall (M : Mem) (a1 : Int32) (a2 : Int32) (a3 : Int32) : Option (Mem × Int32) :=
ob (m_in (a1.toInt64) 0 5) fun (v2 : Bool) =>
if v2 = true then
(ob (m_in (a2.toInt64) 0 9) fun (v4 : Bool) =>
if v4 = true then
(ob (m_in (a3.toInt64) 1 20) fun (v6 : Bool) =>
if v6 = true then
(if (M 0 12) = 6 then
(some (M, (-4)))
else
(ck (M 0 12) 6 <|
bnd (wr M 5 (M 0 12).toNatClampNeg a1) fun (M7 : Mem) =>
ck (M7 0 12) 6 <|
bnd (wr M7 6 (M7 0 12).toNatClampNeg a2) fun (M8 : Mem) =>
ck (M8 0 12) 6 <|
bnd (wr M8 7 (M8 0 12).toNatClampNeg a3) fun (M9 : Mem) =>
ck (M9 0 12) 6 <|
bnd (wr M9 8 (M9 0 12).toNatClampNeg 0) fun (M10 : Mem) =>
bnd (wr M10 0 12 ((M10 0 12) + 1)) fun (M11 : Mem) =>
some (M11, ((M11 0 12) - 1))))
else
(some (M, (-2))))
else
(some (M, (-2))))
else
(some (M, (-2)))
def m_told (M : Mem) (a1 : Int32) (a2 : Int32) : Option (Mem × Int32) :=
ob (m_isWall M a1) fun (v2 : Bool) =>
if v2 = true then
(ob (m_in (a2.toInt64) 0 6) fun (v4 : Bool) =>
if v4 = true then
(if 4 ≤ a2 then
(if a2 = 4 then
(ob2 (m_ripensOf M a1) fun (M11 : Mem) (v12 : Int32) =>
some (M11, v12))
else
(if a2 = 5 then
(ob (m_lastsOf M a1) fun (v9 : Int32) =>
some (M, v9))
else
(ob2 (m_takesOf M a1) fun (M6 : Mem) (v7 : Int32) =>
some (M6, v7))))
else
(if a2 = 0 then
(ck a1 6 <|
some (M, (M 5 a1.toNatClampNeg)))
else
(if a2 = 1 then
(ck a1 6 <|
some (M, (M 6 a1.toNatClampNeg)))
else
(if a2 = 2 then
(ck a1 6 <|
some (M, (M 7 a1.toNatClampNeg)))
else
(ck a1 6 <|
some (M, (M 8 a1.toNatClampNeg)))))))
else
(some (M, (-2))))
else
(some (M, (-2)))
def m_feed (M : Mem) (a1 : Int32) : Option (Mem × Int32) :=
ob (m_in (a1.toInt64) 0 255) fun (v2 : Bool) =>
if v2 = true then
(if (M 0 6) = 160 then
(some (M, (-4)))
else
(ck (M 0 6) 160 <|
bnd (wr M 3 (M 0 6).toNatClampNeg a1) fun (M3 : Mem) =>
bnd (wr M3 0 6 ((M3 0 6) + 1)) fun (M4 : Mem) =>
some (M4, (M4 0 6))))
else
(some (M, (-2)))
def m_gathers_L2 (j2 : Mem → Option Mem) : Nat → Int32 → Mem → Option Mem
  | 0, _, _ => none
  | fu5 + 1, v3, M4 =>
    if (M4 0 12) ≤ v3 then
    (j2 M4)
    else
    (ob2 (m_ripensOf M4 v3) fun (M7 : Mem) (v8 : Int32) =>
    ck v3 6 <|
    bnd (wr M7 10 v3.toNatClampNeg v8) fun (M9 : Mem) =>
    ob (m_lastsOf M9 v3) fun (v11 : Int32) =>
    ck v3 6 <|
    bnd (wr M9 11 v3.toNatClampNeg v11) fun (M12 : Mem) =>
    ob2 (m_takesOf M12 v3) fun (M14 : Mem) (v15 : Int32) =>
    ck 3 6 <|
    nz (M14 4 (3 : Int32).toNatClampNeg) <|
    bnd ((v15 / (M14 4 (3 : Int32).toNatClampNeg))) fun (v16 : Int32) =>
    jp (fun (v17 : Int32) =>
    ck v3 6 <|
    bnd (wr M14 12 v3.toNatClampNeg v17) fun (M19 : Mem) =>
    bnd (v3 + 1) fun (v20 : Int32) =>
    m_gathers_L2 j2 fu5 v20 M19) fun j18 =>
    if 1 ≤ v16 then
    (j18 v16)
    else
    (j18 1))
def m_gathers (M : Mem) : Option Mem :=
jp (fun (M1 : Mem) =>
some M1) fun j2 =>
m_gathers_L2 j2 FU 0 M
def m_toTrowel_L4 (M : Mem) (j2 : Int32 → Option Int32) : Nat → Int32 → Int32 → Option Int32
  | 0, _, _ => none
  | fu5 + 1, v3, v4 =>
    if (M 0 38) ≤ v4 then
    (j2 v3)
    else
    (ck v4 6 <|
    bnd ((M 9 v4.toNatClampNeg)) fun (v6 : Int32) =>
    ck v6 6 <|
    jp (fun (v7 : Int32) =>
    jp (fun (v9 : Int32) =>
    bnd (v4 + 1) fun (v11 : Int32) =>
    m_toTrowel_L4 M j2 fu5 v9 v11) fun j10 =>
    jp (fun (u12 : Unit) =>
    j10 v3) fun j13 =>
    if v7 = 0 then
    (j13 ())
    else
    (jp (fun (u14 : Unit) =>
    j10 v6) fun j15 =>
    if v3 = (-1) then
    (j15 ())
    else
    (ck v6 6 <|
    ck v3 6 <|
    if (M 14 v3.toNatClampNeg) ≤ (M 14 v6.toNatClampNeg) then
    (j13 ())
    else
    (j15 ())))) fun j8 =>
    jp (fun (u16 : Unit) =>
    j8 0) fun j17 =>
    if (M 15 v6.toNatClampNeg) = (-1) then
    (ck v6 6 <|
    ck 5 6 <|
    if (M 0 37) < ((M 14 v6.toNatClampNeg) - (M 4 (5 : Int32).toNatClampNeg)) then
    (j17 ())
    else
    (j8 1))
    else
    (j17 ()))
def m_toTrowel (M : Mem) : Option Int32 :=
jp (fun (v1 : Int32) =>
some v1) fun j2 =>
m_toTrowel_L4 M j2 FU (-1) 0
def m_trowels (M : Mem) (a1 : Int32) : Option Mem :=
ck a1 6 <|
ck a1 6 <|
bnd ((((M 0 37) - (M 14 a1.toNatClampNeg)) - (M 11 a1.toNatClampNeg))) fun (v1 : Int32) =>
ck a1 6 <|
bnd (((M 0 37) - (M 14 a1.toNatClampNeg))) fun (v2 : Int32) =>
ck a1 6 <|
bnd (wr M 15 a1.toNatClampNeg (M 0 37)) fun (M3 : Mem) =>
jp (fun (v4 : Int32) =>
ck a1 6 <|
bnd (wr M3 16 a1.toNatClampNeg v4) fun (M6 : Mem) =>
ck a1 6 <|
jp (fun (v7 : Int32) (M8 : Mem) =>
bnd (wr M8 0 41 ((M6 0 41) + v7)) fun (M10 : Mem) =>
ck a1 6 <|
bnd (wr M10 0 37 ((M10 0 37) + (M10 7 a1.toNatClampNeg))) fun (M11 : Mem) =>
some M11) fun j9 =>
if (M6 16 a1.toNatClampNeg) = 0 then
(j9 0 M6)
else
(ck a1 6 <|
ob2 (m_says M6 2 a1 (M6 16 a1.toNatClampNeg) 0 999) fun (M13 : Mem) (v14 : Int32) =>
j9 v14 M13)) fun j5 =>
if v1 ≤ 0 then
(if 0 ≤ v2 then
(j5 0)
else
(j5 v2))
else
(j5 v1)
def m_begins (M : Mem) (a1 : Int32) : Option Mem :=
ck a1 6 <|
bnd (wr M 13 a1.toNatClampNeg (M 0 37)) fun (M1 : Mem) =>
bnd (wr M1 0 39 (M1 0 37)) fun (M2 : Mem) =>
ck a1 6 <|
bnd (wr M2 0 37 ((M2 0 37) + (M2 12 a1.toNatClampNeg))) fun (M3 : Mem) =>
ck a1 6 <|
ck a1 6 <|
bnd (wr M3 14 a1.toNatClampNeg ((M3 0 37) + (M3 10 a1.toNatClampNeg))) fun (M4 : Mem) =>
bnd (wr M4 0 38 ((M4 0 38) + 1)) fun (M5 : Mem) =>
some M5
def m_lives_L69 (j9 : Mem → Option Mem) : Nat → Int32 → Mem → Option Mem
  | 0, _, _ => none
  | fu12 + 1, v10, M11 =>
    if (M11 0 29) ≤ v10 then
    (j9 M11)
    else
    (if 4000 ≤ (M11 0 37) then
    (j9 M11)
    else
    (ob (m_toTrowel M11) fun (v14 : Int32) =>
    if v14 = (-1) then
    (jp (fun (M15 : Mem) =>
    bnd (wr M15 0 37 ((M15 0 37) + 1)) fun (M17 : Mem) =>
    bnd (wr M17 0 40 ((M17 0 40) + 1)) fun (M18 : Mem) =>
    m_lives_L69 j9 fu12 v10 M18) fun j16 =>
    if (M11 0 29) ≤ (M11 0 38) then
    (j16 M11)
    else
    (jp (fun (u19 : Unit) =>
    ck (M11 0 38) 6 <|
    ob (m_begins M11 (M11 9 (M11 0 38).toNatClampNeg)) fun (M22 : Mem) =>
    m_lives_L69 j9 fu12 v10 M22) fun j20 =>
    if (M11 0 38) = 0 then
    (j20 ())
    else
    (ck 4 6 <|
    if (M11 0 37) < ((M11 0 39) + (M11 4 (4 : Int32).toNatClampNeg)) then
    (j16 M11)
    else
    (j20 ()))))
    else
    (ob (m_trowels M11 v14) fun (M24 : Mem) =>
    bnd (v10 + 1) fun (v25 : Int32) =>
    m_lives_L69 j9 fu12 v25 M24)))
def m_lives_L2 (j2 : Mem → Option Mem) : Nat → Int32 → Mem → Option Mem
  | 0, _, _ => none
  | fu28 + 1, v26, M27 =>
    if 6 ≤ v26 then
    (j2 M27)
    else
    (ck v26 6 <|
    bnd (wr M27 13 v26.toNatClampNeg (-1)) fun (M29 : Mem) =>
    ck v26 6 <|
    bnd (wr M29 14 v26.toNatClampNeg (-1)) fun (M30 : Mem) =>
    ck v26 6 <|
    bnd (wr M30 15 v26.toNatClampNeg (-1)) fun (M31 : Mem) =>
    ck v26 6 <|
    bnd (wr M31 16 v26.toNatClampNeg 0) fun (M32 : Mem) =>
    bnd (v26 + 1) fun (v33 : Int32) =>
    m_lives_L2 j2 fu28 v33 M32)
def m_lives (M : Mem) : Option Mem :=
jp (fun (M1 : Mem) =>
bnd (wr M1 0 37 0) fun (M3 : Mem) =>
bnd (wr M3 0 38 0) fun (M4 : Mem) =>
bnd (wr M4 0 39 0) fun (M5 : Mem) =>
bnd (wr M5 0 40 0) fun (M6 : Mem) =>
bnd (wr M6 0 41 0) fun (M7 : Mem) =>
jp (fun (M8 : Mem) =>
some M8) fun j9 =>
m_lives_L69 j9 FU 0 M7) fun j2 =>
m_lives_L2 j2 FU 0 M
def m_livesPlain_L11 (a1 : Int32) (j5 : Mem → Option Mem) : Nat → Int32 → Mem → Option Mem
  | 0, _, _ => none
  | fu10 + 1, v8, M9 =>
    if a1 ≤ v8 then
    (j5 M9)
    else
    (ck v8 6 <|
    bnd (wr M9 9 v8.toNatClampNeg v8) fun (M11 : Mem) =>
    bnd (v8 + 1) fun (v12 : Int32) =>
    m_livesPlain_L11 a1 j5 fu10 v12 M11)
def m_livesPlain (M : Mem) (a1 : Int32) : Option Mem :=
ob (m_gathers M) fun (M2 : Mem) =>
bnd (wr M2 0 29 a1) fun (M3 : Mem) =>
jp (fun (M4 : Mem) =>
ob (m_lives M4) fun (M7 : Mem) =>
some M7) fun j5 =>
m_livesPlain_L11 a1 j5 FU 0 M3
def m_setOf_L4 (M : Mem) (a1 : Int32) (j2 : Int32 → Option Int32) : Nat → Int32 → Int32 → Option Int32
  | 0, _, _ => none
  | fu5 + 1, v3, v4 =>
    if (M 0 12) ≤ v4 then
    (j2 v3)
    else
    (jp (fun (v6 : Int32) =>
    bnd ((v3 ||| v6)) fun (v8 : Int32) =>
    bnd (v4 + 1) fun (v9 : Int32) =>
    m_setOf_L4 M a1 j2 fu5 v8 v9) fun j7 =>
    jp (fun (u10 : Unit) =>
    j7 0) fun j11 =>
    jp (fun (u12 : Unit) =>
    j7 (1 <<< (v4 &&& 31))) fun j13 =>
    if a1 ≤ 0 then
    (ck v4 6 <|
    if 0 ≤ (M 16 v4.toNatClampNeg) then
    (j11 ())
    else
    (j13 ()))
    else
    (ck v4 6 <|
    if (M 16 v4.toNatClampNeg) ≤ 0 then
    (j11 ())
    else
    (j13 ())))
def m_setOf (M : Mem) (a1 : Int32) : Option Int32 :=
jp (fun (v1 : Int32) =>
some v1) fun j2 =>
m_setOf_L4 M a1 j2 FU 0 0
def m_isTells (M : Mem) (a1 : Int32) : Option Bool :=
ob (m_in (a1.toInt64) 0 4) fun (v2 : Bool) =>
if v2 = true then
(some true)
else
(ob (m_in (a1.toInt64) 10 49) fun (v4 : Bool) =>
if v4 = true then
(ob (m_isWall M (a1 - a1 / 10 * 10)) fun (v6 : Bool) =>
if v6 = true then
(some true)
else
(some false))
else
(some false))
def m_tells (M : Mem) (a1 : Int32) : Option Int32 :=
if 5 ≤ a1 then
(bnd ((a1 - a1 / 10 * 10)) fun (v1 : Int32) =>
if 20 ≤ a1 then
(if 30 ≤ a1 then
(if 40 ≤ a1 then
(ck v1 6 <|
some (M 16 v1.toNatClampNeg))
else
(ck v1 6 <|
some (M 15 v1.toNatClampNeg)))
else
(ck v1 6 <|
some (M 14 v1.toNatClampNeg)))
else
(ck v1 6 <|
some (M 13 v1.toNatClampNeg)))
else
(if a1 = 0 then
(some (M 0 41))
else
(if a1 = 1 then
(some (M 0 37))
else
(if a1 = 2 then
(some (M 0 40))
else
(jp (fun (v2 : Int32) =>
ob (m_setOf M v2) fun (v5 : Int32) =>
some v5) fun j3 =>
if a1 = 3 then
(j3 1)
else
(j3 (-1))))))
def m_day (M : Mem) (a1 : Int32) : Option (Mem × Int32) :=
ob (m_isTells M a1) fun (v2 : Bool) =>
if v2 = true then
(ob (m_livesPlain M (M 0 12)) fun (M4 : Mem) =>
ob (m_tells M4 a1) fun (v6 : Int32) =>
some (M4, v6))
else
(some (M, (-100000)))
def m_laysOrder_L19 (a1 : Int32) (j2 : Mem → Option (Mem × Bool)) : Nat → Int32 → Int32 → Mem → Option (Mem × Bool)
  | 0, _, _, _ => none
  | fu7 + 1, v4, v5, M6 =>
    if (M6 0 12) ≤ v5 then
    (j2 M6)
    else
    (ck ((40 * a1) + v5) 160 <|
    bnd ((M6 22 ((40 * a1) + v5).toNatClampNeg)) fun (v8 : Int32) =>
    ob (m_isWall M6 v8) fun (v10 : Bool) =>
    if v10 = true then
    (if ((v4 >>> (v8 &&& 31)) &&& 1) = 1 then
    (some (M6, false))
    else
    (bnd ((v4 ||| (1 <<< (v8 &&& 31)))) fun (v11 : Int32) =>
    ck v5 6 <|
    bnd (wr M6 9 v5.toNatClampNeg v8) fun (M12 : Mem) =>
    bnd (v5 + 1) fun (v13 : Int32) =>
    m_laysOrder_L19 a1 j2 fu7 v11 v13 M12))
    else
    (some (M6, false)))
def m_laysOrder (M : Mem) (a1 : Int32) : Option (Mem × Bool) :=
ck a1 4 <|
if (M 21 a1.toNatClampNeg) = (M 0 12) then
(jp (fun (M1 : Mem) =>
bnd (wr M1 0 29 (M1 0 12)) fun (M3 : Mem) =>
some (M3, true)) fun j2 =>
m_laysOrder_L19 a1 j2 FU 0 0 M)
else
(some (M, false))
def m_isSheet (a1 : Int32) : Option Bool :=
ob (m_in (a1.toInt64) 0 3) fun (v2 : Bool) =>
some v2
def m_order (M : Mem) (a1 : Int32) (a2 : Int32) : Option (Mem × Int32) :=
ob (m_isSheet a1) fun (v2 : Bool) =>
jp (fun (M3 : Mem) =>
some (M3, (-100000))) fun j4 =>
if v2 = true then
(ob (m_isTells M a2) fun (v6 : Bool) =>
if v6 = true then
(ck a1 4 <|
if (M 19 a1.toNatClampNeg) = 0 then
(j4 M)
else
(ob2 (m_laysOrder M a1) fun (M8 : Mem) (v9 : Bool) =>
if v9 = true then
(ob (m_gathers M8) fun (M11 : Mem) =>
ob (m_lives M11) fun (M13 : Mem) =>
ob (m_tells M13 a2) fun (v15 : Int32) =>
some (M13, v15))
else
(j4 M8)))
else
(j4 M))
else
(j4 M)
set_option maxHeartbeats 4000000 in
set_option maxRecDepth 20000 in
theorem w_m_in {X : XT} {M : Mem} {a1 : Int64} {a2 : Int64} {a3 : Int64} {r : Bool}   (h : m_in a1 a2 a3 = some r) : CT layM X 0 yX9_in cX9_in 6 (some .boolean) [.long a1, .long a2, .long a3] M M (some (.int (b2i r))) := by
  refine CT.of rfl (Nat.le_of_ble_eq_true rfl) (lv := [(0, .long a1), (2, .long a2), (4, .long a3)]) rfl (fun Γ K => ?_)
  have K : Kx layM X Γ RX9 cX9_in 6 0 (some .boolean) := K
  unfold m_in at h
  refine g_lload_n (pn := 1) K rfl 0 rfl dX9_in_0 ?_
  refine g_lload_n (pn := 2) K rfl 1 rfl dX9_in_1 ?_
  refine g_lcmp (pn := 3) K rfl dX9_in_2 ?_
  refine g_if_lt (tgt := 17) (pn := 6) K rfl (by decide) dX9_in_3 h (fun h => ?_) (fun h => ?_)
  · refine g_iconst (pn := 18) (v := 0) K rfl ic_0 dX9_in_17 ?_
    exact g_zret K rfl dX9_in_18 (bq0 (oi h)) rfl
  · refine g_lload_n (pn := 7) K rfl 0 rfl dX9_in_6 ?_
    refine g_lload (pn := 9) K rfl 2 rfl dX9_in_7 ?_
    refine g_lcmp (pn := 10) K rfl dX9_in_9 ?_
    refine g_if_gt (tgt := 17) (pn := 13) K rfl (by decide) dX9_in_10 h (fun h => ?_) (fun h => ?_)
    · refine g_iconst (pn := 18) (v := 0) K rfl ic_0 dX9_in_17 ?_
      exact g_zret K rfl dX9_in_18 (bq0 (oi h)) rfl
    · refine g_iconst (pn := 14) (v := 1) K rfl ic_1 dX9_in_13 ?_
      refine g_goto (tgt := 18) K (by decide) dX9_in_14 ?_
      exact g_zret K rfl dX9_in_18 (bq1 (oi h)) rfl
set_option maxHeartbeats 4000000 in
set_option maxRecDepth 20000 in
theorem w_m_within {X : XT} {M : Mem} {a1 : Int32} {a2 : Int32} {a3 : Int32} {r : Int32}   (h : m_within a1 a2 a3 = some r) : CT layM X 0 yX9_within cX9_within 3 (some .int) [.int a1, .int a2, .int a3] M M (some (.int r)) := by
  refine CT.of rfl (Nat.le_of_ble_eq_true rfl) (lv := [(0, .int a1), (1, .int a2), (2, .int a3)]) rfl (fun Γ K => ?_)
  have K : Kx layM X Γ RX9 cX9_within 3 0 (some .int) := K
  unfold m_within at h
  refine g_iload_n (pn := 1) K rfl 0 rfl dX9_within_0 ?_
  refine g_iload_n (pn := 2) K rfl 1 rfl dX9_within_1 ?_
  refine g_icmp_ge (tgt := 9) (pn := 5) K rfl (by decide) dX9_within_2 h (fun h => ?_) (fun h => ?_)
  · refine g_iload_n (pn := 10) K rfl 0 rfl dX9_within_9 ?_
    refine g_iload_n (pn := 11) K rfl 2 rfl dX9_within_10 ?_
    refine g_icmp_le (tgt := 18) (pn := 14) K rfl (by decide) dX9_within_11 h (fun h => ?_) (fun h => ?_)
    · refine g_iload_n (pn := 19) K rfl 0 rfl dX9_within_18 ?_
      exact g_iret K dX9_within_19 (oi h) rfl
    · refine g_iload_n (pn := 15) K rfl 2 rfl dX9_within_14 ?_
      refine g_goto (tgt := 19) K (by decide) dX9_within_15 ?_
      exact g_iret K dX9_within_19 (oi h) rfl
  · refine g_iload_n (pn := 6) K rfl 1 rfl dX9_within_5 ?_
    refine g_goto (tgt := 19) K (by decide) dX9_within_6 ?_
    exact g_iret K dX9_within_19 (oi h) rfl
set_option maxHeartbeats 4000000 in
set_option maxRecDepth 20000 in
theorem w_m_bitsOf {X : XT} {M : Mem} {a1 : Int32} {r : Int32}   (h : m_bitsOf a1 = some r) : CT layM X 0 yX9_bitsOf cX9_bitsOf 3 (some .int) [.int a1] M M (some (.int r)) := by
  refine CT.of rfl (Nat.le_of_ble_eq_true rfl) (lv := [(0, .int a1)]) rfl (fun Γ K => ?_)
  have K : Kx layM X Γ RX9 cX9_bitsOf 3 0 (some .int) := K
  unfold m_bitsOf at h
  refine g_iconst (pn := 1) (v := 0) K rfl ic_0 dX9_bitsOf_0 ?_
  refine g_istore_n (pn := 2) (lv' := [(1, .int 0), (0, .int a1)]) K rfl dX9_bitsOf_1 rfl (Nat.le_of_ble_eq_true rfl) rfl ?_
  refine g_iload_n (pn := 3) K rfl 1 rfl dX9_bitsOf_2 ?_
  refine g_istore_n (pn := 4) (lv' := [(2, .int a1), (1, .int 0), (0, .int a1)]) K rfl dX9_bitsOf_3 rfl (Nat.le_of_ble_eq_true rfl) rfl ?_
  refine jp_e1 h (fun v1 => G layM X Γ 3 (QM layM X Γ (some (.int r)) M) 20 [(1, .int v1)] [] M) (fun v1 h => ?_) (fun j2 hj2 h => ?_)
  · refine g_iload_n (pn := 21) K rfl 0 rfl dX9_bitsOf_20 ?_
    exact g_iret K dX9_bitsOf_21 (oi h) rfl
  have LP4 : ∀ (fu5 : Nat) (v3 : Int32) (v4 : Int32), m_bitsOf_L4 j2 fu5 v3 v4 = some r → G layM X Γ 3 (QM layM X Γ (some (.int r)) M) 4 [(1, .int v3), (2, .int v4)] [] M := by
    intro fu5
    induction fu5 with
    | zero =>
      intro v3 v4 h
      rw [m_bitsOf_L4] at h
      cases h
    | succ fu5 ih5 =>
      intro v3 v4 h
      rw [m_bitsOf_L4] at h
      refine g_iload_n (pn := 5) K rfl 1 rfl dX9_bitsOf_4 ?_
      refine g_if_eq (tgt := 20) (pn := 8) K rfl (by decide) dX9_bitsOf_5 h (fun h => ?_) (fun h => ?_)
      · refine g_sub [0] rfl ?_
        exact hj2 _ h
      · obtain ⟨v6, ev6, h⟩ := bnd_e h
        refine g_iinc (pn := 11) (v := v6) (lv' := [(1, .int v6), (2, .int v4)]) K rfl 0 rfl ii_1 ev6 dX9_bitsOf_8 (Nat.le_of_ble_eq_true rfl) rfl ?_
        refine g_iload_n (pn := 12) K rfl 1 rfl dX9_bitsOf_11 ?_
        refine g_iload_n (pn := 13) K rfl 1 rfl dX9_bitsOf_12 ?_
        refine g_iconst (pn := 14) (v := 1) K rfl ic_1 dX9_bitsOf_13 ?_
        refine g_isub (pn := 15) K rfl dX9_bitsOf_14 ?_
        refine g_iand (pn := 16) K rfl dX9_bitsOf_15 ?_
        refine g_nmi h (fun v7 h => ?_)
        refine g_istore_n (pn := 17) (lv' := [(2, .int v7), (1, .int v6)]) K rfl dX9_bitsOf_16 rfl (Nat.le_of_ble_eq_true rfl) rfl ?_
        refine g_goto (tgt := 4) K (by decide) dX9_bitsOf_17 ?_
        refine g_sub [1, 0] rfl ?_
        exact ih5 _ _ h
  refine g_sub [1, 0] rfl ?_
  exact LP4 FU _ _ h
set_option maxHeartbeats 4000000 in
set_option maxRecDepth 20000 in
theorem w_m_isWall {X : XT} {M : Mem} {a1 : Int32} {r : Bool}   (h : m_isWall M a1 = some r) : CT layM X 1 yX9_isWall cX9_isWall 2 (some .boolean) [.ref (X.2.2.2.1 0), .int a1] M M (some (.int (b2i r))) := by
  refine CT.of rfl (Nat.le_of_ble_eq_true rfl) (lv := [(0, .ref (X.2.2.2.1 0)), (1, .int a1)]) rfl (fun Γ K => ?_)
  have K : Kx layM X Γ RX9 cX9_isWall 2 1 (some .boolean) := K
  unfold m_isWall at h
  refine g_iload_n (pn := 1) K rfl 1 rfl dX9_isWall_0 ?_
  refine g_i2l (pn := 2) K rfl dX9_isWall_1 ?_
  refine g_lconst (pn := 3) (v := 0) K rfl lc_0 dX9_isWall_2 ?_
  refine g_aload_n (pn := 4) K rfl 0 rfl dX9_isWall_3 ?_
  refine g_geti (pn := 7) K rfl fl_X9_91 lm_0 rfl dX9_isWall_4 ?_
  refine g_iconst (pn := 8) (v := 1) K rfl ic_1 dX9_isWall_7 ?_
  refine g_isub (pn := 9) K rfl dX9_isWall_8 ?_
  refine g_i2l (pn := 10) K rfl dX9_isWall_9 ?_
  obtain ⟨v2, hc1, h⟩ := ob_e h
  refine g_callS1 (pn := 13) (As := [.long a1.toInt64, .long 0, .long ((M 0 12) - 1).toInt64]) (rest := []) K rfl (d' := 0) (Nat.le_of_ble_eq_true rfl) ms_X9_94 (w_m_in hc1) rfl rfl (Nat.le_of_ble_eq_true rfl) dX9_isWall_10 ?_
  exact g_zret K (narrow_b2i _) dX9_isWall_13 (bqz (oi h)) rfl
set_option maxHeartbeats 4000000 in
set_option maxRecDepth 20000 in
theorem w_m_lastsOf {X : XT} {M : Mem} {a1 : Int32} {r : Int32}   (h : m_lastsOf M a1 = some r) : CT layM X 0 yX9_lastsOf cX9_lastsOf 5 (some .int) [.ref (X.2.2.2.1 0), .int a1] M M (some (.int r)) := by
  refine CT.of rfl (Nat.le_of_ble_eq_true rfl) (lv := [(0, .ref (X.2.2.2.1 0)), (1, .int a1)]) rfl (fun Γ K => ?_)
  have K : Kx layM X Γ RX9 cX9_lastsOf 5 0 (some .int) := K
  unfold m_lastsOf at h
  refine g_aload_n (pn := 1) K rfl 0 rfl dX9_lastsOf_0 ?_
  refine g_getr (pn := 4) (j := 5) K rfl fl_X9_26 lm_0 rfl dX9_lastsOf_1 ?_
  refine g_iload_n (pn := 5) K rfl 1 rfl dX9_lastsOf_4 ?_
  refine g_iald (pn := 6) K rfl lm_5 dX9_lastsOf_5 h (fun h => ?_)
  refine g_nmi h (fun v1 h => ?_)
  refine g_istore_n (pn := 7) (lv' := [(2, .int v1), (0, .ref (X.2.2.2.1 0)), (1, .int a1)]) K rfl dX9_lastsOf_6 rfl (Nat.le_of_ble_eq_true rfl) rfl ?_
  refine g_bipush (pn := 9) (v := 10) K rfl bp_10 dX9_lastsOf_7 ?_
  refine g_aload_n (pn := 10) K rfl 1 rfl dX9_lastsOf_9 ?_
  refine g_getr (pn := 13) (j := 6) K rfl fl_X9_29 lm_0 rfl dX9_lastsOf_10 ?_
  refine g_iload_n (pn := 14) K rfl 2 rfl dX9_lastsOf_13 ?_
  refine g_iald (pn := 15) K rfl lm_6 dX9_lastsOf_14 h (fun h => ?_)
  refine g_iconst (pn := 16) (v := 2) K rfl ic_2 dX9_lastsOf_15 ?_
  refine g_idiv (pn := 17) K rfl (by decide) dX9_lastsOf_16 ?_
  refine g_isub (pn := 18) K rfl dX9_lastsOf_17 ?_
  refine g_nmi h (fun v2 h => ?_)
  refine g_istore_n (pn := 19) (lv' := [(3, .int v2), (2, .int v1), (0, .ref (X.2.2.2.1 0)), (1, .int a1)]) K rfl dX9_lastsOf_18 rfl (Nat.le_of_ble_eq_true rfl) rfl ?_
  refine g_iload_n (pn := 20) K rfl 1 rfl dX9_lastsOf_19 ?_
  refine g_iconst (pn := 21) (v := 1) K rfl ic_1 dX9_lastsOf_20 ?_
  refine jp_e1 h (fun v3 => G layM X Γ 5 (QM layM X Γ (some (.int r)) M) 51 [] [.int v3] M) (fun v3 h => ?_) (fun j4 hj4 h => ?_)
  · refine g_istore (pn := 53) (lv' := [(4, .int v3)]) K rfl dX9_lastsOf_51 (Nat.le_of_ble_eq_true rfl) rfl ?_
    refine g_iload (pn := 55) K rfl 0 rfl dX9_lastsOf_53 ?_
    refine g_if_ge (tgt := 62) (pn := 58) K rfl (by decide) dX9_lastsOf_55 h (fun h => ?_) (fun h => ?_)
    · refine g_iload (pn := 64) K rfl 0 rfl dX9_lastsOf_62 ?_
      exact g_iret K dX9_lastsOf_64 (oi h) rfl
    · refine g_iconst (pn := 59) (v := 0) K rfl ic_0 dX9_lastsOf_58 ?_
      refine g_goto (tgt := 64) K (by decide) dX9_lastsOf_59 ?_
      exact g_iret K dX9_lastsOf_64 (oi h) rfl
  refine g_icmp_ne (tgt := 28) (pn := 24) K rfl (by decide) dX9_lastsOf_21 h (fun h => ?_) (fun h => ?_)
  · refine g_iload_n (pn := 29) K rfl 1 rfl dX9_lastsOf_28 ?_
    refine g_iconst (pn := 30) (v := 3) K rfl ic_3 dX9_lastsOf_29 ?_
    refine g_icmp_ne (tgt := 39) (pn := 33) K rfl (by decide) dX9_lastsOf_30 h (fun h => ?_) (fun h => ?_)
    · refine g_iload_n (pn := 40) K rfl 1 rfl dX9_lastsOf_39 ?_
      refine g_iconst (pn := 41) (v := 4) K rfl ic_4 dX9_lastsOf_40 ?_
      refine g_icmp_ne (tgt := 49) (pn := 44) K rfl (by decide) dX9_lastsOf_41 h (fun h => ?_) (fun h => ?_)
      · refine g_bipush (pn := 51) (v := 10) K rfl bp_10 dX9_lastsOf_49 ?_
        refine g_sub [] rfl ?_
        exact hj4 _ h
      · refine g_bipush (pn := 46) (v := 15) K rfl bp_15 dX9_lastsOf_44 ?_
        refine g_goto (tgt := 51) K (by decide) dX9_lastsOf_46 ?_
        refine g_sub [] rfl ?_
        exact hj4 _ h
    · refine g_iload_n (pn := 34) K rfl 0 rfl dX9_lastsOf_33 ?_
      refine g_iconst (pn := 35) (v := 2) K rfl ic_2 dX9_lastsOf_34 ?_
      refine g_isub (pn := 36) K rfl dX9_lastsOf_35 ?_
      refine g_goto (tgt := 51) K (by decide) dX9_lastsOf_36 ?_
      refine g_sub [] rfl ?_
      exact hj4 _ h
  · refine g_iload_n (pn := 25) K rfl 0 rfl dX9_lastsOf_24 ?_
    refine g_goto (tgt := 51) K (by decide) dX9_lastsOf_25 ?_
    refine g_sub [] rfl ?_
    exact hj4 _ h
set_option maxHeartbeats 4000000 in
set_option maxRecDepth 20000 in
theorem w_m_byteAt {X : XT} {M : Mem} {a1 : Int32} {r : Int32}   (h : m_byteAt M a1 = some r) : CT layM X 0 yX9_byteAt cX9_byteAt 2 (some .int) [.ref (X.2.2.2.1 0), .int a1] M M (some (.int r)) := by
  refine CT.of rfl (Nat.le_of_ble_eq_true rfl) (lv := [(0, .ref (X.2.2.2.1 0)), (1, .int a1)]) rfl (fun Γ K => ?_)
  have K : Kx layM X Γ RX9 cX9_byteAt 2 0 (some .int) := K
  unfold m_byteAt at h
  refine g_iload_n (pn := 1) K rfl 1 rfl dX9_byteAt_0 ?_
  refine g_aload_n (pn := 2) K rfl 0 rfl dX9_byteAt_1 ?_
  refine g_geti (pn := 5) K rfl fl_X9_127 lm_0 rfl dX9_byteAt_2 ?_
  refine g_icmp_ge (tgt := 22) (pn := 8) K rfl (by decide) dX9_byteAt_5 h (fun h => ?_) (fun h => ?_)
  · refine g_iconst (pn := 23) (v := (-1)) K rfl ic_m1 dX9_byteAt_22 ?_
    exact g_iret K dX9_byteAt_23 (oi h) rfl
  · refine g_aload_n (pn := 9) K rfl 0 rfl dX9_byteAt_8 ?_
    refine g_getr (pn := 12) (j := 1) K rfl fl_X9_13 lm_0 rfl dX9_byteAt_9 ?_
    refine g_aload_n (pn := 13) K rfl 0 rfl dX9_byteAt_12 ?_
    refine g_geti (pn := 16) K rfl fl_X9_130 lm_0 rfl dX9_byteAt_13 ?_
    refine g_iload_n (pn := 17) K rfl 1 rfl dX9_byteAt_16 ?_
    refine g_iadd (pn := 18) K rfl dX9_byteAt_17 ?_
    refine g_iald (pn := 19) K rfl lm_1 dX9_byteAt_18 h (fun h => ?_)
    refine g_goto (tgt := 23) K (by decide) dX9_byteAt_19 ?_
    exact g_iret K dX9_byteAt_23 (oi h) rfl
set_option maxHeartbeats 4000000 in
set_option maxRecDepth 20000 in
theorem w_m_next {X : XT} {M : Mem}  {M' : Mem}   (h : m_next M = some M') : CT layM X 1 yX9_next cX9_next 3 none [.ref (X.2.2.2.1 0)] M M' none := by
  refine CT.of rfl (Nat.le_of_ble_eq_true rfl) (lv := [(0, .ref (X.2.2.2.1 0))]) rfl (fun Γ K => ?_)
  have K : Kx layM X Γ RX9 cX9_next 3 1 none := K
  unfold m_next at h
  refine jp_e1 h (fun M1 => G layM X Γ 3 (QM layM X Γ none M') 39 [(0, .ref (X.2.2.2.1 0))] [] M1) (fun M1 h => ?_) (fun j2 hj2 h => ?_)
  · refine g_aload_n (pn := 40) K rfl 0 rfl dX9_next_39 ?_
    refine g_aload_n (pn := 41) K rfl 0 rfl dX9_next_40 ?_
    refine g_geti (pn := 44) K rfl fl_X9_133 lm_0 rfl dX9_next_41 ?_
    refine g_puti (pn := 47) K rfl fp_X9_139 lm_0 rfl dX9_next_44 h (fun M3 h => ?_)
    refine g_aload_n (pn := 48) K rfl 0 rfl dX9_next_47 ?_
    refine g_aload_n (pn := 49) K rfl 0 rfl dX9_next_48 ?_
    refine g_geti (pn := 52) K rfl fl_X9_133 lm_0 rfl dX9_next_49 ?_
    obtain ⟨v5, hc4, h⟩ := ob_e h
    refine g_callV1 (pn := 55) (As := [.int (M3 0 21)]) (rest := []) (a := 0) K rfl (d' := 0) (Nat.le_of_ble_eq_true rfl) mv_X9_136 (recvO K lm_0 rfl) (w_m_byteAt hc4) rfl rfl (Nat.le_of_ble_eq_true rfl) dX9_next_52 ?_
    refine g_istore_n (pn := 56) (lv' := [(1, .int v5), (0, .ref (X.2.2.2.1 0))]) K rfl dX9_next_55 rfl (Nat.le_of_ble_eq_true rfl) rfl ?_
    refine g_aload_n (pn := 57) K rfl 1 rfl dX9_next_56 ?_
    refine g_iconst (pn := 58) (v := 4) K rfl ic_4 dX9_next_57 ?_
    refine g_puti (pn := 61) K rfl fp_X9_142 lm_0 rfl dX9_next_58 h (fun M6 h => ?_)
    refine g_iload_n (pn := 62) K rfl 0 rfl dX9_next_61 ?_
    refine g_if_ge (tgt := 81) (pn := 65) K rfl (by decide) dX9_next_62 h (fun h => ?_) (fun h => ?_)
    · refine g_iload_n (pn := 82) K rfl 0 rfl dX9_next_81 ?_
      refine g_i2l (pn := 83) K rfl dX9_next_82 ?_
      refine g_ldc2 (pn := 86) (v := 97) K rfl cl_X9_145 dX9_next_83 ?_
      refine g_ldc2 (pn := 89) (v := 122) K rfl cl_X9_147 dX9_next_86 ?_
      obtain ⟨v8, hc7, h⟩ := ob_e h
      refine g_callS1 (pn := 92) (As := [.long v5.toInt64, .long 97, .long 122]) (rest := []) K rfl (d' := 0) (Nat.le_of_ble_eq_true rfl) ms_X9_94 (w_m_in hc7) rfl rfl (Nat.le_of_ble_eq_true rfl) dX9_next_89 ?_
      refine g_ifB_eq (tgt := 134) (pn := 95) K rfl (by decide) dX9_next_92 h (fun h => ?_) (fun h => ?_)
      · refine g_iload_n (pn := 135) K rfl 0 rfl dX9_next_134 ?_
        refine g_i2l (pn := 136) K rfl dX9_next_135 ?_
        refine g_ldc2 (pn := 139) (v := 48) K rfl cl_X9_149 dX9_next_136 ?_
        refine g_ldc2 (pn := 142) (v := 57) K rfl cl_X9_151 dX9_next_139 ?_
        obtain ⟨v10, hc9, h⟩ := ob_e h
        refine g_callS1 (pn := 145) (As := [.long v5.toInt64, .long 48, .long 57]) (rest := []) K rfl (d' := 0) (Nat.le_of_ble_eq_true rfl) ms_X9_94 (w_m_in hc9) rfl rfl (Nat.le_of_ble_eq_true rfl) dX9_next_142 ?_
        refine g_ifB_eq (tgt := 252) (pn := 148) K rfl (by decide) dX9_next_145 h (fun h => ?_) (fun h => ?_)
        · refine g_iload_n (pn := 253) K rfl 0 rfl dX9_next_252 ?_
          refine g_bipush (pn := 255) (v := 40) K rfl bp_40 dX9_next_253 ?_
          refine jp_e1 h (fun u11 => G layM X Γ 3 (QM layM X Γ none M') 300 [(1, .int v5), (0, .ref (X.2.2.2.1 0))] [] M6) (fun u11 h => ?_) (fun j12 hj12 h => ?_)
          · refine g_aload_n (pn := 301) K rfl 1 rfl dX9_next_300 ?_
            refine g_iconst (pn := 302) (v := 3) K rfl ic_3 dX9_next_301 ?_
            refine g_puti (pn := 305) K rfl fp_X9_142 lm_0 rfl dX9_next_302 h (fun M13 h => ?_)
            refine g_aload_n (pn := 306) K rfl 1 rfl dX9_next_305 ?_
            refine g_iload_n (pn := 307) K rfl 0 rfl dX9_next_306 ?_
            refine g_i2l (pn := 308) K rfl dX9_next_307 ?_
            refine g_putl (pn := 311) K rfl fp_X9_153 lm_0 rfl dX9_next_308 h (fun M14 h => ?_)
            refine g_aload_n (pn := 312) K rfl 1 rfl dX9_next_311 ?_
            refine g_dup (pn := 313) K rfl rfl dX9_next_312 ?_
            refine g_geti (pn := 316) K rfl fl_X9_133 lm_0 rfl dX9_next_313 ?_
            refine g_iconst (pn := 317) (v := 1) K rfl ic_1 dX9_next_316 ?_
            refine g_iadd (pn := 318) K rfl dX9_next_317 ?_
            refine g_puti (pn := 321) K rfl fp_X9_133 lm_0 rfl dX9_next_318 h (fun M15 h => ?_)
            exact g_vret K dX9_next_321 (oi h)
          refine g_icmp_eq (tgt := 300) (pn := 258) K rfl (by decide) dX9_next_255 h (fun h => ?_) (fun h => ?_)
          · exact hj12 _ h
          · refine g_iload_n (pn := 259) K rfl 0 rfl dX9_next_258 ?_
            refine g_bipush (pn := 261) (v := 41) K rfl bp_41 dX9_next_259 ?_
            refine g_icmp_eq (tgt := 300) (pn := 264) K rfl (by decide) dX9_next_261 h (fun h => ?_) (fun h => ?_)
            · exact hj12 _ h
            · refine g_iload_n (pn := 265) K rfl 0 rfl dX9_next_264 ?_
              refine g_bipush (pn := 267) (v := 59) K rfl bp_59 dX9_next_265 ?_
              refine g_icmp_eq (tgt := 300) (pn := 270) K rfl (by decide) dX9_next_267 h (fun h => ?_) (fun h => ?_)
              · exact hj12 _ h
              · refine g_iload_n (pn := 271) K rfl 0 rfl dX9_next_270 ?_
                refine g_bipush (pn := 273) (v := 43) K rfl bp_43 dX9_next_271 ?_
                refine g_icmp_eq (tgt := 300) (pn := 276) K rfl (by decide) dX9_next_273 h (fun h => ?_) (fun h => ?_)
                · exact hj12 _ h
                · refine g_iload_n (pn := 277) K rfl 0 rfl dX9_next_276 ?_
                  refine g_bipush (pn := 279) (v := 45) K rfl bp_45 dX9_next_277 ?_
                  refine g_icmp_eq (tgt := 300) (pn := 282) K rfl (by decide) dX9_next_279 h (fun h => ?_) (fun h => ?_)
                  · exact hj12 _ h
                  · refine g_iload_n (pn := 283) K rfl 0 rfl dX9_next_282 ?_
                    refine g_bipush (pn := 285) (v := 42) K rfl bp_42 dX9_next_283 ?_
                    refine g_icmp_eq (tgt := 300) (pn := 288) K rfl (by decide) dX9_next_285 h (fun h => ?_) (fun h => ?_)
                    · exact hj12 _ h
                    · refine g_iload_n (pn := 289) K rfl 0 rfl dX9_next_288 ?_
                      refine g_bipush (pn := 291) (v := 60) K rfl bp_60 dX9_next_289 ?_
                      refine g_icmp_eq (tgt := 300) (pn := 294) K rfl (by decide) dX9_next_291 h (fun h => ?_) (fun h => ?_)
                      · exact hj12 _ h
                      · refine g_iload_n (pn := 295) K rfl 0 rfl dX9_next_294 ?_
                        refine g_bipush (pn := 297) (v := 61) K rfl bp_61 dX9_next_295 ?_
                        refine g_icmp_ne (tgt := 321) (pn := 300) K rfl (by decide) dX9_next_297 h (fun h => ?_) (fun h => ?_)
                        · exact g_vret K dX9_next_321 (oi h)
                        · exact hj12 _ h
        · refine g_aload_n (pn := 149) K rfl 1 rfl dX9_next_148 ?_
          refine g_iconst (pn := 150) (v := 2) K rfl ic_2 dX9_next_149 ?_
          refine g_puti (pn := 153) K rfl fp_X9_142 lm_0 rfl dX9_next_150 h (fun M16 h => ?_)
          refine g_aload_n (pn := 154) K rfl 1 rfl dX9_next_153 ?_
          refine g_lconst (pn := 155) (v := 0) K rfl lc_0 dX9_next_154 ?_
          refine g_putl (pn := 158) K rfl fp_X9_153 lm_0 rfl dX9_next_155 h (fun M17 h => ?_)
          refine g_iconst (pn := 159) (v := 0) K rfl ic_0 dX9_next_158 ?_
          refine g_istore_n (pn := 160) (lv' := [(2, .int 0), (1, .int v5), (0, .ref (X.2.2.2.1 0))]) K rfl dX9_next_159 rfl (Nat.le_of_ble_eq_true rfl) rfl ?_
          refine jp_e2 h (fun v18 M19 => G layM X Γ 3 (QM layM X Γ none M') 235 [(0, .ref (X.2.2.2.1 0)), (2, .int v18)] [] M19) (fun v18 M19 h => ?_) (fun j20 hj20 h => ?_)
          · refine g_aload_n (pn := 236) K rfl 0 rfl dX9_next_235 ?_
            refine g_iload_n (pn := 237) K rfl 1 rfl dX9_next_236 ?_
            refine g_iconst (pn := 238) (v := 4) K rfl ic_4 dX9_next_237 ?_
            refine jp_e1 h (fun v21 => G layM X Γ 3 (QM layM X Γ none M') 246 [] [.int v21, .ref (X.2.2.2.1 0)] M19) (fun v21 h => ?_) (fun j22 hj22 h => ?_)
            · refine g_puti (pn := 249) K rfl fp_X9_142 lm_0 rfl dX9_next_246 h (fun M23 h => ?_)
              refine g_goto (tgt := 321) K (by decide) dX9_next_249 ?_
              exact g_vret K dX9_next_321 (oi h)
            refine g_icmp_le (tgt := 245) (pn := 241) K rfl (by decide) dX9_next_238 h (fun h => ?_) (fun h => ?_)
            · refine g_iconst (pn := 246) (v := 2) K rfl ic_2 dX9_next_245 ?_
              refine g_sub [] rfl ?_
              exact hj22 _ h
            · refine g_iconst (pn := 242) (v := 4) K rfl ic_4 dX9_next_241 ?_
              refine g_goto (tgt := 246) K (by decide) dX9_next_242 ?_
              refine g_sub [] rfl ?_
              exact hj22 _ h
          have LP160 : ∀ (fu26 : Nat) (v24 : Int32) (M25 : Mem), m_next_L160 j20 fu26 v24 M25 = some M' → G layM X Γ 3 (QM layM X Γ none M') 160 [(0, .ref (X.2.2.2.1 0)), (2, .int v24)] [] M25 := by
            intro fu26
            induction fu26 with
            | zero =>
              intro v24 M25 h
              rw [m_next_L160] at h
              cases h
            | succ fu26 ih26 =>
              intro v24 M25 h
              rw [m_next_L160] at h
              refine g_aload_n (pn := 161) K rfl 0 rfl dX9_next_160 ?_
              refine g_aload_n (pn := 162) K rfl 0 rfl dX9_next_161 ?_
              refine g_geti (pn := 165) K rfl fl_X9_133 lm_0 rfl dX9_next_162 ?_
              obtain ⟨v28, hc27, h⟩ := ob_e h
              refine g_callV1 (pn := 168) (As := [.int (M25 0 21)]) (rest := []) (a := 0) K rfl (d' := 0) (Nat.le_of_ble_eq_true rfl) mv_X9_136 (recvO K lm_0 rfl) (w_m_byteAt hc27) rfl rfl (Nat.le_of_ble_eq_true rfl) dX9_next_165 ?_
              refine g_i2l (pn := 169) K rfl dX9_next_168 ?_
              refine g_ldc2 (pn := 172) (v := 48) K rfl cl_X9_149 dX9_next_169 ?_
              refine g_ldc2 (pn := 175) (v := 57) K rfl cl_X9_151 dX9_next_172 ?_
              obtain ⟨v30, hc29, h⟩ := ob_e h
              refine g_callS1 (pn := 178) (As := [.long v28.toInt64, .long 48, .long 57]) (rest := []) K rfl (d' := 0) (Nat.le_of_ble_eq_true rfl) ms_X9_94 (w_m_in hc29) rfl rfl (Nat.le_of_ble_eq_true rfl) dX9_next_175 ?_
              refine g_ifB_eq (tgt := 235) (pn := 181) K rfl (by decide) dX9_next_178 h (fun h => ?_) (fun h => ?_)
              · exact hj20 _ _ h
              · refine g_aload_n (pn := 182) K rfl 0 rfl dX9_next_181 ?_
                refine g_iload_n (pn := 183) K rfl 1 rfl dX9_next_182 ?_
                refine g_iconst (pn := 184) (v := 4) K rfl ic_4 dX9_next_183 ?_
                refine jp_e1 h (fun v31 => G layM X Γ 3 (QM layM X Γ none M') 216 [(0, .ref (X.2.2.2.1 0)), (2, .int v24)] [.long v31, .ref (X.2.2.2.1 0)] M25) (fun v31 h => ?_) (fun j32 hj32 h => ?_)
                · refine g_putl (pn := 219) K rfl fp_X9_153 lm_0 rfl dX9_next_216 h (fun M33 h => ?_)
                  obtain ⟨v34, ev34, h⟩ := bnd_e h
                  refine g_iinc (pn := 222) (v := v34) (lv' := [(2, .int v34), (0, .ref (X.2.2.2.1 0))]) K rfl 1 rfl ii_1 ev34 dX9_next_219 (Nat.le_of_ble_eq_true rfl) rfl ?_
                  refine g_aload_n (pn := 223) K rfl 1 rfl dX9_next_222 ?_
                  refine g_dup (pn := 224) K rfl rfl dX9_next_223 ?_
                  refine g_geti (pn := 227) K rfl fl_X9_133 lm_0 rfl dX9_next_224 ?_
                  refine g_iconst (pn := 228) (v := 1) K rfl ic_1 dX9_next_227 ?_
                  refine g_iadd (pn := 229) K rfl dX9_next_228 ?_
                  refine g_puti (pn := 232) K rfl fp_X9_133 lm_0 rfl dX9_next_229 h (fun M35 h => ?_)
                  refine g_goto (tgt := 160) K (by decide) dX9_next_232 ?_
                  refine g_sub [1, 0] rfl ?_
                  exact ih26 _ _ h
                refine g_icmp_ge (tgt := 212) (pn := 187) K rfl (by decide) dX9_next_184 h (fun h => ?_) (fun h => ?_)
                · refine g_aload_n (pn := 213) K rfl 0 rfl dX9_next_212 ?_
                  refine g_getl (pn := 216) K rfl fl_X9_153 lm_0 rfl dX9_next_213 ?_
                  exact hj32 _ h
                · refine g_ldc2 (pn := 190) (v := 10) K rfl cl_X9_157 dX9_next_187 ?_
                  refine g_aload_n (pn := 191) K rfl 0 rfl dX9_next_190 ?_
                  refine g_getl (pn := 194) K rfl fl_X9_153 lm_0 rfl dX9_next_191 ?_
                  refine g_lmul (pn := 195) K rfl dX9_next_194 ?_
                  refine g_aload_n (pn := 196) K rfl 0 rfl dX9_next_195 ?_
                  refine g_aload_n (pn := 197) K rfl 0 rfl dX9_next_196 ?_
                  refine g_geti (pn := 200) K rfl fl_X9_133 lm_0 rfl dX9_next_197 ?_
                  obtain ⟨v37, hc36, h⟩ := ob_e h
                  refine g_callV1 (pn := 203) (As := [.int (M25 0 21)]) (rest := [.long (10 * (M25 0 24).toInt64), .ref (X.2.2.2.1 0)]) (a := 0) K rfl (d' := 0) (Nat.le_of_ble_eq_true rfl) mv_X9_136 (recvO K lm_0 rfl) (w_m_byteAt hc36) rfl rfl (Nat.le_of_ble_eq_true rfl) dX9_next_200 ?_
                  refine g_i2l (pn := 204) K rfl dX9_next_203 ?_
                  refine g_ladd (pn := 205) K rfl dX9_next_204 ?_
                  refine g_ldc2 (pn := 208) (v := 48) K rfl cl_X9_149 dX9_next_205 ?_
                  refine g_lsub (pn := 209) K rfl dX9_next_208 ?_
                  refine g_goto (tgt := 216) K (by decide) dX9_next_209 ?_
                  exact hj32 _ h
          refine g_sub [2, 0] rfl ?_
          exact LP160 FU _ _ h
      · refine g_aload_n (pn := 96) K rfl 1 rfl dX9_next_95 ?_
        refine g_iconst (pn := 97) (v := 1) K rfl ic_1 dX9_next_96 ?_
        refine g_puti (pn := 100) K rfl fp_X9_142 lm_0 rfl dX9_next_97 h (fun M38 h => ?_)
        have LP100 : ∀ (fu40 : Nat) (M39 : Mem), m_next_L100 fu40 M39 = some M' → G layM X Γ 3 (QM layM X Γ none M') 100 [(0, .ref (X.2.2.2.1 0))] [] M39 := by
          intro fu40
          induction fu40 with
          | zero =>
            intro M39 h
            rw [m_next_L100] at h
            cases h
          | succ fu40 ih40 =>
            intro M39 h
            rw [m_next_L100] at h
            refine g_aload_n (pn := 101) K rfl 0 rfl dX9_next_100 ?_
            refine g_aload_n (pn := 102) K rfl 0 rfl dX9_next_101 ?_
            refine g_geti (pn := 105) K rfl fl_X9_133 lm_0 rfl dX9_next_102 ?_
            obtain ⟨v42, hc41, h⟩ := ob_e h
            refine g_callV1 (pn := 108) (As := [.int (M39 0 21)]) (rest := []) (a := 0) K rfl (d' := 0) (Nat.le_of_ble_eq_true rfl) mv_X9_136 (recvO K lm_0 rfl) (w_m_byteAt hc41) rfl rfl (Nat.le_of_ble_eq_true rfl) dX9_next_105 ?_
            refine g_i2l (pn := 109) K rfl dX9_next_108 ?_
            refine g_ldc2 (pn := 112) (v := 97) K rfl cl_X9_145 dX9_next_109 ?_
            refine g_ldc2 (pn := 115) (v := 122) K rfl cl_X9_147 dX9_next_112 ?_
            obtain ⟨v44, hc43, h⟩ := ob_e h
            refine g_callS1 (pn := 118) (As := [.long v42.toInt64, .long 97, .long 122]) (rest := []) K rfl (d' := 0) (Nat.le_of_ble_eq_true rfl) ms_X9_94 (w_m_in hc43) rfl rfl (Nat.le_of_ble_eq_true rfl) dX9_next_115 ?_
            refine g_ifB_eq (tgt := 321) (pn := 121) K rfl (by decide) dX9_next_118 h (fun h => ?_) (fun h => ?_)
            · exact g_vret K dX9_next_321 (oi h)
            · refine g_aload_n (pn := 122) K rfl 0 rfl dX9_next_121 ?_
              refine g_dup (pn := 123) K rfl rfl dX9_next_122 ?_
              refine g_geti (pn := 126) K rfl fl_X9_133 lm_0 rfl dX9_next_123 ?_
              refine g_iconst (pn := 127) (v := 1) K rfl ic_1 dX9_next_126 ?_
              refine g_iadd (pn := 128) K rfl dX9_next_127 ?_
              refine g_puti (pn := 131) K rfl fp_X9_133 lm_0 rfl dX9_next_128 h (fun M45 h => ?_)
              refine g_goto (tgt := 100) K (by decide) dX9_next_131 ?_
              exact ih40 _ h
        refine g_sub [1] rfl ?_
        exact LP100 FU _ h
    · refine g_aload_n (pn := 66) K rfl 1 rfl dX9_next_65 ?_
      refine g_iconst (pn := 67) (v := 0) K rfl ic_0 dX9_next_66 ?_
      refine g_puti (pn := 70) K rfl fp_X9_142 lm_0 rfl dX9_next_67 h (fun M46 h => ?_)
      refine g_aload_n (pn := 71) K rfl 1 rfl dX9_next_70 ?_
      refine g_aload_n (pn := 72) K rfl 1 rfl dX9_next_71 ?_
      refine g_geti (pn := 75) K rfl fl_X9_127 lm_0 rfl dX9_next_72 ?_
      refine g_puti (pn := 78) K rfl fp_X9_139 lm_0 rfl dX9_next_75 h (fun M47 h => ?_)
      refine g_goto (tgt := 321) K (by decide) dX9_next_78 ?_
      exact g_vret K dX9_next_321 (oi h)
  have LP0 : ∀ (fu49 : Nat) (M48 : Mem), m_next_L0 j2 fu49 M48 = some M' → G layM X Γ 3 (QM layM X Γ none M') 0 [(0, .ref (X.2.2.2.1 0))] [] M48 := by
    intro fu49
    induction fu49 with
    | zero =>
      intro M48 h
      rw [m_next_L0] at h
      cases h
    | succ fu49 ih49 =>
      intro M48 h
      rw [m_next_L0] at h
      refine g_aload_n (pn := 1) K rfl 0 rfl dX9_next_0 ?_
      refine g_aload_n (pn := 2) K rfl 0 rfl dX9_next_1 ?_
      refine g_geti (pn := 5) K rfl fl_X9_133 lm_0 rfl dX9_next_2 ?_
      obtain ⟨v51, hc50, h⟩ := ob_e h
      refine g_callV1 (pn := 8) (As := [.int (M48 0 21)]) (rest := []) (a := 0) K rfl (d' := 0) (Nat.le_of_ble_eq_true rfl) mv_X9_136 (recvO K lm_0 rfl) (w_m_byteAt hc50) rfl rfl (Nat.le_of_ble_eq_true rfl) dX9_next_5 ?_
      refine g_bipush (pn := 10) (v := 32) K rfl bp_32 dX9_next_8 ?_
      refine jp_e1 h (fun u52 => G layM X Γ 3 (QM layM X Γ none M') 26 [(0, .ref (X.2.2.2.1 0))] [] M48) (fun u52 h => ?_) (fun j53 hj53 h => ?_)
      · refine g_aload_n (pn := 27) K rfl 0 rfl dX9_next_26 ?_
        refine g_dup (pn := 28) K rfl rfl dX9_next_27 ?_
        refine g_geti (pn := 31) K rfl fl_X9_133 lm_0 rfl dX9_next_28 ?_
        refine g_iconst (pn := 32) (v := 1) K rfl ic_1 dX9_next_31 ?_
        refine g_iadd (pn := 33) K rfl dX9_next_32 ?_
        refine g_puti (pn := 36) K rfl fp_X9_133 lm_0 rfl dX9_next_33 h (fun M54 h => ?_)
        refine g_goto (tgt := 0) K (by decide) dX9_next_36 ?_
        exact ih49 _ h
      refine g_icmp_eq (tgt := 26) (pn := 13) K rfl (by decide) dX9_next_10 h (fun h => ?_) (fun h => ?_)
      · exact hj53 _ h
      · refine g_aload_n (pn := 14) K rfl 0 rfl dX9_next_13 ?_
        refine g_aload_n (pn := 15) K rfl 0 rfl dX9_next_14 ?_
        refine g_geti (pn := 18) K rfl fl_X9_133 lm_0 rfl dX9_next_15 ?_
        obtain ⟨v56, hc55, h⟩ := ob_e h
        refine g_callV1 (pn := 21) (As := [.int (M48 0 21)]) (rest := []) (a := 0) K rfl (d' := 0) (Nat.le_of_ble_eq_true rfl) mv_X9_136 (recvO K lm_0 rfl) (w_m_byteAt hc55) rfl rfl (Nat.le_of_ble_eq_true rfl) dX9_next_18 ?_
        refine g_bipush (pn := 23) (v := 10) K rfl bp_10 dX9_next_21 ?_
        refine g_icmp_ne (tgt := 39) (pn := 26) K rfl (by decide) dX9_next_23 h (fun h => ?_) (fun h => ?_)
        · exact hj2 _ h
        · exact hj53 _ h
  exact LP0 FU _ h
set_option maxHeartbeats 4000000 in
set_option maxRecDepth 20000 in
theorem w_m_fail {X : XT} {M : Mem}  {M' : Mem}   (h : m_fail M = some M') : CT layM X 0 yX9_fail cX9_fail 1 none [.ref (X.2.2.2.1 0)] M M' none := by
  refine CT.of rfl (Nat.le_of_ble_eq_true rfl) (lv := [(0, .ref (X.2.2.2.1 0))]) rfl (fun Γ K => ?_)
  have K : Kx layM X Γ RX9 cX9_fail 1 0 none := K
  unfold m_fail at h
  refine g_aload_n (pn := 1) K rfl 0 rfl dX9_fail_0 ?_
  refine g_geti (pn := 4) K rfl fl_X9_159 lm_0 rfl dX9_fail_1 ?_
  refine g_if_ne (tgt := 20) (pn := 7) K rfl (by decide) dX9_fail_4 h (fun h => ?_) (fun h => ?_)
  · exact g_vret K dX9_fail_20 (oi h)
  · refine g_aload_n (pn := 8) K rfl 0 rfl dX9_fail_7 ?_
    refine g_iconst (pn := 9) (v := 1) K rfl ic_1 dX9_fail_8 ?_
    refine g_putz (pn := 12) K rfl fp_X9_159 lm_0 rfl rfl rfl dX9_fail_9 h (fun M1 h => ?_)
    refine g_aload_n (pn := 13) K rfl 0 rfl dX9_fail_12 ?_
    refine g_aload_n (pn := 14) K rfl 0 rfl dX9_fail_13 ?_
    refine g_geti (pn := 17) K rfl fl_X9_139 lm_0 rfl dX9_fail_14 ?_
    refine g_puti (pn := 20) K rfl fp_X9_163 lm_0 rfl dX9_fail_17 h (fun M2 h => ?_)
    exact g_vret K dX9_fail_20 (oi h)
set_option maxHeartbeats 4000000 in
set_option maxRecDepth 20000 in
theorem w_m_isLetter {X : XT} {M : Mem} {a1 : Int32} {a2 : Int32} {r : Bool}   (h : m_isLetter M a1 a2 = some r) : CT layM X 1 yX9_isLetter cX9_isLetter 3 (some .boolean) [.ref (X.2.2.2.1 0), .int a1, .int a2] M M (some (.int (b2i r))) := by
  refine CT.of rfl (Nat.le_of_ble_eq_true rfl) (lv := [(0, .ref (X.2.2.2.1 0)), (1, .int a1), (2, .int a2)]) rfl (fun Γ K => ?_)
  have K : Kx layM X Γ RX9 cX9_isLetter 3 1 (some .boolean) := K
  unfold m_isLetter at h
  refine g_aload_n (pn := 1) K rfl 0 rfl dX9_isLetter_0 ?_
  refine g_geti (pn := 4) K rfl fl_X9_139 lm_0 rfl dX9_isLetter_1 ?_
  refine g_iload_n (pn := 5) K rfl 1 rfl dX9_isLetter_4 ?_
  refine g_iadd (pn := 6) K rfl dX9_isLetter_5 ?_
  refine g_aload_n (pn := 7) K rfl 0 rfl dX9_isLetter_6 ?_
  refine g_geti (pn := 10) K rfl fl_X9_133 lm_0 rfl dX9_isLetter_7 ?_
  refine g_icmp_ge (tgt := 35) (pn := 13) K rfl (by decide) dX9_isLetter_10 h (fun h => ?_) (fun h => ?_)
  · refine g_iload_n (pn := 36) K rfl 2 rfl dX9_isLetter_35 ?_
    refine g_if_ne (tgt := 43) (pn := 39) K rfl (by decide) dX9_isLetter_36 h (fun h => ?_) (fun h => ?_)
    · refine g_iconst (pn := 44) (v := 0) K rfl ic_0 dX9_isLetter_43 ?_
      exact g_zret K rfl dX9_isLetter_44 (bq0 (oi h)) rfl
    · refine g_iconst (pn := 40) (v := 1) K rfl ic_1 dX9_isLetter_39 ?_
      refine g_goto (tgt := 44) K (by decide) dX9_isLetter_40 ?_
      exact g_zret K rfl dX9_isLetter_44 (bq1 (oi h)) rfl
  · refine g_aload_n (pn := 14) K rfl 0 rfl dX9_isLetter_13 ?_
    refine g_aload_n (pn := 15) K rfl 0 rfl dX9_isLetter_14 ?_
    refine g_geti (pn := 18) K rfl fl_X9_139 lm_0 rfl dX9_isLetter_15 ?_
    refine g_iload_n (pn := 19) K rfl 1 rfl dX9_isLetter_18 ?_
    refine g_iadd (pn := 20) K rfl dX9_isLetter_19 ?_
    obtain ⟨v2, hc1, h⟩ := ob_e h
    refine g_callV1 (pn := 23) (As := [.int ((M 0 23) + a1)]) (rest := []) (a := 0) K rfl (d' := 0) (Nat.le_of_ble_eq_true rfl) mv_X9_136 (recvO K lm_0 rfl) (w_m_byteAt hc1) rfl rfl (Nat.le_of_ble_eq_true rfl) dX9_isLetter_20 ?_
    refine g_iload_n (pn := 24) K rfl 2 rfl dX9_isLetter_23 ?_
    refine g_icmp_ne (tgt := 31) (pn := 27) K rfl (by decide) dX9_isLetter_24 h (fun h => ?_) (fun h => ?_)
    · refine g_iconst (pn := 32) (v := 0) K rfl ic_0 dX9_isLetter_31 ?_
      refine g_goto (tgt := 44) K (by decide) dX9_isLetter_32 ?_
      exact g_zret K rfl dX9_isLetter_44 (bq0 (oi h)) rfl
    · refine g_iconst (pn := 28) (v := 1) K rfl ic_1 dX9_isLetter_27 ?_
      refine g_goto (tgt := 44) K (by decide) dX9_isLetter_28 ?_
      exact g_zret K rfl dX9_isLetter_44 (bq1 (oi h)) rfl
set_option maxHeartbeats 4000000 in
set_option maxRecDepth 20000 in
theorem w_m_isWord {X : XT} {M : Mem} {a1 : Int32} {a2 : Int32} {a3 : Int32} {a4 : Int32} {a5 : Int32} {a6 : Int32} {a7 : Int32} {a8 : Int32} {r : Bool}   (h : m_isWord M a1 a2 a3 a4 a5 a6 a7 a8 = some r) : CT layM X 2 yX9_isWord cX9_isWord 9 (some .boolean) [.ref (X.2.2.2.1 0), .int a1, .int a2, .int a3, .int a4, .int a5, .int a6, .int a7, .int a8] M M (some (.int (b2i r))) := by
  refine CT.of rfl (Nat.le_of_ble_eq_true rfl) (lv := [(0, .ref (X.2.2.2.1 0)), (1, .int a1), (2, .int a2), (3, .int a3), (4, .int a4), (5, .int a5), (6, .int a6), (7, .int a7), (8, .int a8)]) rfl (fun Γ K => ?_)
  have K : Kx layM X Γ RX9 cX9_isWord 9 2 (some .boolean) := K
  unfold m_isWord at h
  refine g_aload_n (pn := 1) K rfl 0 rfl dX9_isWord_0 ?_
  refine g_geti (pn := 4) K rfl fl_X9_159 lm_0 rfl dX9_isWord_1 ?_
  refine g_if_ne (tgt := 112) (pn := 7) K rfl (by decide) dX9_isWord_4 h (fun h => ?_) (fun h => ?_)
  · refine g_iconst (pn := 113) (v := 0) K rfl ic_0 dX9_isWord_112 ?_
    exact g_zret K rfl dX9_isWord_113 (bq0 (oi h)) rfl
  · refine g_aload_n (pn := 8) K rfl 0 rfl dX9_isWord_7 ?_
    refine g_geti (pn := 11) K rfl fl_X9_142 lm_0 rfl dX9_isWord_8 ?_
    refine g_iconst (pn := 12) (v := 1) K rfl ic_1 dX9_isWord_11 ?_
    refine g_icmp_ne (tgt := 112) (pn := 15) K rfl (by decide) dX9_isWord_12 h (fun h => ?_) (fun h => ?_)
    · refine g_iconst (pn := 113) (v := 0) K rfl ic_0 dX9_isWord_112 ?_
      exact g_zret K rfl dX9_isWord_113 (bq0 (oi h)) rfl
    · refine g_aload_n (pn := 16) K rfl 0 rfl dX9_isWord_15 ?_
      refine g_geti (pn := 19) K rfl fl_X9_133 lm_0 rfl dX9_isWord_16 ?_
      refine g_aload_n (pn := 20) K rfl 0 rfl dX9_isWord_19 ?_
      refine g_geti (pn := 23) K rfl fl_X9_139 lm_0 rfl dX9_isWord_20 ?_
      refine g_bipush (pn := 25) (v := 8) K rfl bp_8 dX9_isWord_23 ?_
      refine g_iadd (pn := 26) K rfl dX9_isWord_25 ?_
      refine g_icmp_gt (tgt := 112) (pn := 29) K rfl (by decide) dX9_isWord_26 h (fun h => ?_) (fun h => ?_)
      · refine g_iconst (pn := 113) (v := 0) K rfl ic_0 dX9_isWord_112 ?_
        exact g_zret K rfl dX9_isWord_113 (bq0 (oi h)) rfl
      · refine g_aload_n (pn := 30) K rfl 0 rfl dX9_isWord_29 ?_
        refine g_iconst (pn := 31) (v := 0) K rfl ic_0 dX9_isWord_30 ?_
        refine g_iload_n (pn := 32) K rfl 1 rfl dX9_isWord_31 ?_
        obtain ⟨v2, hc1, h⟩ := ob_e h
        refine g_callV1 (pn := 35) (As := [.int 0, .int a1]) (rest := []) (a := 0) K rfl (d' := 1) (Nat.le_of_ble_eq_true rfl) mv_X9_166 (recvO K lm_0 rfl) (w_m_isLetter hc1) rfl rfl (Nat.le_of_ble_eq_true rfl) dX9_isWord_32 ?_
        refine g_ifB_eq (tgt := 112) (pn := 38) K rfl (by decide) dX9_isWord_35 h (fun h => ?_) (fun h => ?_)
        · refine g_iconst (pn := 113) (v := 0) K rfl ic_0 dX9_isWord_112 ?_
          exact g_zret K rfl dX9_isWord_113 (bq0 (oi h)) rfl
        · refine g_aload_n (pn := 39) K rfl 0 rfl dX9_isWord_38 ?_
          refine g_iconst (pn := 40) (v := 1) K rfl ic_1 dX9_isWord_39 ?_
          refine g_iload_n (pn := 41) K rfl 2 rfl dX9_isWord_40 ?_
          obtain ⟨v4, hc3, h⟩ := ob_e h
          refine g_callV1 (pn := 44) (As := [.int 1, .int a2]) (rest := []) (a := 0) K rfl (d' := 1) (Nat.le_of_ble_eq_true rfl) mv_X9_166 (recvO K lm_0 rfl) (w_m_isLetter hc3) rfl rfl (Nat.le_of_ble_eq_true rfl) dX9_isWord_41 ?_
          refine g_ifB_eq (tgt := 112) (pn := 47) K rfl (by decide) dX9_isWord_44 h (fun h => ?_) (fun h => ?_)
          · refine g_iconst (pn := 113) (v := 0) K rfl ic_0 dX9_isWord_112 ?_
            exact g_zret K rfl dX9_isWord_113 (bq0 (oi h)) rfl
          · refine g_aload_n (pn := 48) K rfl 0 rfl dX9_isWord_47 ?_
            refine g_iconst (pn := 49) (v := 2) K rfl ic_2 dX9_isWord_48 ?_
            refine g_iload_n (pn := 50) K rfl 3 rfl dX9_isWord_49 ?_
            obtain ⟨v6, hc5, h⟩ := ob_e h
            refine g_callV1 (pn := 53) (As := [.int 2, .int a3]) (rest := []) (a := 0) K rfl (d' := 1) (Nat.le_of_ble_eq_true rfl) mv_X9_166 (recvO K lm_0 rfl) (w_m_isLetter hc5) rfl rfl (Nat.le_of_ble_eq_true rfl) dX9_isWord_50 ?_
            refine g_ifB_eq (tgt := 112) (pn := 56) K rfl (by decide) dX9_isWord_53 h (fun h => ?_) (fun h => ?_)
            · refine g_iconst (pn := 113) (v := 0) K rfl ic_0 dX9_isWord_112 ?_
              exact g_zret K rfl dX9_isWord_113 (bq0 (oi h)) rfl
            · refine g_aload_n (pn := 57) K rfl 0 rfl dX9_isWord_56 ?_
              refine g_iconst (pn := 58) (v := 3) K rfl ic_3 dX9_isWord_57 ?_
              refine g_iload (pn := 60) K rfl 4 rfl dX9_isWord_58 ?_
              obtain ⟨v8, hc7, h⟩ := ob_e h
              refine g_callV1 (pn := 63) (As := [.int 3, .int a4]) (rest := []) (a := 0) K rfl (d' := 1) (Nat.le_of_ble_eq_true rfl) mv_X9_166 (recvO K lm_0 rfl) (w_m_isLetter hc7) rfl rfl (Nat.le_of_ble_eq_true rfl) dX9_isWord_60 ?_
              refine g_ifB_eq (tgt := 112) (pn := 66) K rfl (by decide) dX9_isWord_63 h (fun h => ?_) (fun h => ?_)
              · refine g_iconst (pn := 113) (v := 0) K rfl ic_0 dX9_isWord_112 ?_
                exact g_zret K rfl dX9_isWord_113 (bq0 (oi h)) rfl
              · refine g_aload_n (pn := 67) K rfl 0 rfl dX9_isWord_66 ?_
                refine g_iconst (pn := 68) (v := 4) K rfl ic_4 dX9_isWord_67 ?_
                refine g_iload (pn := 70) K rfl 5 rfl dX9_isWord_68 ?_
                obtain ⟨v10, hc9, h⟩ := ob_e h
                refine g_callV1 (pn := 73) (As := [.int 4, .int a5]) (rest := []) (a := 0) K rfl (d' := 1) (Nat.le_of_ble_eq_true rfl) mv_X9_166 (recvO K lm_0 rfl) (w_m_isLetter hc9) rfl rfl (Nat.le_of_ble_eq_true rfl) dX9_isWord_70 ?_
                refine g_ifB_eq (tgt := 112) (pn := 76) K rfl (by decide) dX9_isWord_73 h (fun h => ?_) (fun h => ?_)
                · refine g_iconst (pn := 113) (v := 0) K rfl ic_0 dX9_isWord_112 ?_
                  exact g_zret K rfl dX9_isWord_113 (bq0 (oi h)) rfl
                · refine g_aload_n (pn := 77) K rfl 0 rfl dX9_isWord_76 ?_
                  refine g_iconst (pn := 78) (v := 5) K rfl ic_5 dX9_isWord_77 ?_
                  refine g_iload (pn := 80) K rfl 6 rfl dX9_isWord_78 ?_
                  obtain ⟨v12, hc11, h⟩ := ob_e h
                  refine g_callV1 (pn := 83) (As := [.int 5, .int a6]) (rest := []) (a := 0) K rfl (d' := 1) (Nat.le_of_ble_eq_true rfl) mv_X9_166 (recvO K lm_0 rfl) (w_m_isLetter hc11) rfl rfl (Nat.le_of_ble_eq_true rfl) dX9_isWord_80 ?_
                  refine g_ifB_eq (tgt := 112) (pn := 86) K rfl (by decide) dX9_isWord_83 h (fun h => ?_) (fun h => ?_)
                  · refine g_iconst (pn := 113) (v := 0) K rfl ic_0 dX9_isWord_112 ?_
                    exact g_zret K rfl dX9_isWord_113 (bq0 (oi h)) rfl
                  · refine g_aload_n (pn := 87) K rfl 0 rfl dX9_isWord_86 ?_
                    refine g_bipush (pn := 89) (v := 6) K rfl bp_6 dX9_isWord_87 ?_
                    refine g_iload (pn := 91) K rfl 7 rfl dX9_isWord_89 ?_
                    obtain ⟨v14, hc13, h⟩ := ob_e h
                    refine g_callV1 (pn := 94) (As := [.int 6, .int a7]) (rest := []) (a := 0) K rfl (d' := 1) (Nat.le_of_ble_eq_true rfl) mv_X9_166 (recvO K lm_0 rfl) (w_m_isLetter hc13) rfl rfl (Nat.le_of_ble_eq_true rfl) dX9_isWord_91 ?_
                    refine g_ifB_eq (tgt := 112) (pn := 97) K rfl (by decide) dX9_isWord_94 h (fun h => ?_) (fun h => ?_)
                    · refine g_iconst (pn := 113) (v := 0) K rfl ic_0 dX9_isWord_112 ?_
                      exact g_zret K rfl dX9_isWord_113 (bq0 (oi h)) rfl
                    · refine g_aload_n (pn := 98) K rfl 0 rfl dX9_isWord_97 ?_
                      refine g_bipush (pn := 100) (v := 7) K rfl bp_7 dX9_isWord_98 ?_
                      refine g_iload (pn := 102) K rfl 8 rfl dX9_isWord_100 ?_
                      obtain ⟨v16, hc15, h⟩ := ob_e h
                      refine g_callV1 (pn := 105) (As := [.int 7, .int a8]) (rest := []) (a := 0) K rfl (d' := 1) (Nat.le_of_ble_eq_true rfl) mv_X9_166 (recvO K lm_0 rfl) (w_m_isLetter hc15) rfl rfl (Nat.le_of_ble_eq_true rfl) dX9_isWord_102 ?_
                      refine g_ifB_eq (tgt := 112) (pn := 108) K rfl (by decide) dX9_isWord_105 h (fun h => ?_) (fun h => ?_)
                      · refine g_iconst (pn := 113) (v := 0) K rfl ic_0 dX9_isWord_112 ?_
                        exact g_zret K rfl dX9_isWord_113 (bq0 (oi h)) rfl
                      · refine g_iconst (pn := 109) (v := 1) K rfl ic_1 dX9_isWord_108 ?_
                        refine g_goto (tgt := 113) K (by decide) dX9_isWord_109 ?_
                        exact g_zret K rfl dX9_isWord_113 (bq1 (oi h)) rfl
set_option maxHeartbeats 4000000 in
set_option maxRecDepth 20000 in
theorem w_m_isSign {X : XT} {M : Mem} {a1 : Int32} {r : Bool}   (h : m_isSign M a1 = some r) : CT layM X 0 yX9_isSign cX9_isSign 2 (some .boolean) [.ref (X.2.2.2.1 0), .int a1] M M (some (.int (b2i r))) := by
  refine CT.of rfl (Nat.le_of_ble_eq_true rfl) (lv := [(0, .ref (X.2.2.2.1 0)), (1, .int a1)]) rfl (fun Γ K => ?_)
  have K : Kx layM X Γ RX9 cX9_isSign 2 0 (some .boolean) := K
  unfold m_isSign at h
  refine g_aload_n (pn := 1) K rfl 0 rfl dX9_isSign_0 ?_
  refine g_geti (pn := 4) K rfl fl_X9_159 lm_0 rfl dX9_isSign_1 ?_
  refine g_if_ne (tgt := 29) (pn := 7) K rfl (by decide) dX9_isSign_4 h (fun h => ?_) (fun h => ?_)
  · refine g_iconst (pn := 30) (v := 0) K rfl ic_0 dX9_isSign_29 ?_
    exact g_zret K rfl dX9_isSign_30 (bq0 (oi h)) rfl
  · refine g_aload_n (pn := 8) K rfl 0 rfl dX9_isSign_7 ?_
    refine g_geti (pn := 11) K rfl fl_X9_142 lm_0 rfl dX9_isSign_8 ?_
    refine g_iconst (pn := 12) (v := 3) K rfl ic_3 dX9_isSign_11 ?_
    refine g_icmp_ne (tgt := 29) (pn := 15) K rfl (by decide) dX9_isSign_12 h (fun h => ?_) (fun h => ?_)
    · refine g_iconst (pn := 30) (v := 0) K rfl ic_0 dX9_isSign_29 ?_
      exact g_zret K rfl dX9_isSign_30 (bq0 (oi h)) rfl
    · refine g_aload_n (pn := 16) K rfl 0 rfl dX9_isSign_15 ?_
      refine g_getl (pn := 19) K rfl fl_X9_153 lm_0 rfl dX9_isSign_16 ?_
      refine g_iload_n (pn := 20) K rfl 1 rfl dX9_isSign_19 ?_
      refine g_i2l (pn := 21) K rfl dX9_isSign_20 ?_
      refine g_lcmp (pn := 22) K rfl dX9_isSign_21 ?_
      refine g_if_ne (tgt := 29) (pn := 25) K rfl (by decide) dX9_isSign_22 h (fun h => ?_) (fun h => ?_)
      · refine g_iconst (pn := 30) (v := 0) K rfl ic_0 dX9_isSign_29 ?_
        exact g_zret K rfl dX9_isSign_30 (bq0 (oi h)) rfl
      · refine g_iconst (pn := 26) (v := 1) K rfl ic_1 dX9_isSign_25 ?_
        refine g_goto (tgt := 30) K (by decide) dX9_isSign_26 ?_
        exact g_zret K rfl dX9_isSign_30 (bq1 (oi h)) rfl
set_option maxHeartbeats 4000000 in
set_option maxRecDepth 20000 in
theorem w_m_opens {X : XT} {M : Mem}  {M' : Mem} {r : Bool}   (h : m_opens M = some (M', r)) : CT layM X 2 yX9_opens cX9_opens 1 (some .boolean) [.ref (X.2.2.2.1 0)] M M' (some (.int (b2i r))) := by
  refine CT.of rfl (Nat.le_of_ble_eq_true rfl) (lv := [(0, .ref (X.2.2.2.1 0))]) rfl (fun Γ K => ?_)
  have K : Kx layM X Γ RX9 cX9_opens 1 2 (some .boolean) := K
  unfold m_opens at h
  refine g_aload_n (pn := 1) K rfl 0 rfl dX9_opens_0 ?_
  refine g_geti (pn := 4) K rfl fl_X9_170 lm_0 rfl dX9_opens_1 ?_
  refine g_iconst (pn := 5) (v := 5) K rfl ic_5 dX9_opens_4 ?_
  refine g_icmp_ne (tgt := 14) (pn := 8) K rfl (by decide) dX9_opens_5 h (fun h => ?_) (fun h => ?_)
  · refine g_aload_n (pn := 15) K rfl 0 rfl dX9_opens_14 ?_
    refine g_dup (pn := 16) K rfl rfl dX9_opens_15 ?_
    refine g_geti (pn := 19) K rfl fl_X9_170 lm_0 rfl dX9_opens_16 ?_
    refine g_iconst (pn := 20) (v := 1) K rfl ic_1 dX9_opens_19 ?_
    refine g_iadd (pn := 21) K rfl dX9_opens_20 ?_
    refine g_puti (pn := 24) K rfl fp_X9_170 lm_0 rfl dX9_opens_21 h (fun M1 h => ?_)
    refine g_aload_n (pn := 25) K rfl 0 rfl dX9_opens_24 ?_
    obtain ⟨M3, hc2, h⟩ := ob_e h
    refine g_callV0 (pn := 28) (As := []) (rest := []) (a := 0) K rfl (d' := 1) (Nat.le_of_ble_eq_true rfl) mv_X9_176 (recvO K lm_0 rfl) (w_m_next hc2) rfl rfl (Nat.le_of_ble_eq_true rfl) dX9_opens_25 ?_
    refine g_iconst (pn := 29) (v := 1) K rfl ic_1 dX9_opens_28 ?_
    exact g_zret K rfl dX9_opens_29 (bq1 (oi2 h).2) (oi2 h).1
  · refine g_aload_n (pn := 9) K rfl 0 rfl dX9_opens_8 ?_
    obtain ⟨M5, hc4, h⟩ := ob_e h
    refine g_callV0 (pn := 12) (As := []) (rest := []) (a := 0) K rfl (d' := 0) (Nat.le_of_ble_eq_true rfl) mv_X9_173 (recvO K lm_0 rfl) (w_m_fail hc4) rfl rfl (Nat.le_of_ble_eq_true rfl) dX9_opens_9 ?_
    refine g_iconst (pn := 13) (v := 0) K rfl ic_0 dX9_opens_12 ?_
    exact g_zret K rfl dX9_opens_13 (bq0 (oi2 h).2) (oi2 h).1
set_option maxHeartbeats 4000000 in
set_option maxRecDepth 20000 in
theorem w_m_name {X : XT} {M : Mem}  {M' : Mem} {r : Int32}   (h : m_name M = some (M', r)) : CT layM X 3 yX9_name cX9_name 1 (some .int) [.ref (X.2.2.2.1 0)] M M' (some (.int r)) := by
  refine CT.of rfl (Nat.le_of_ble_eq_true rfl) (lv := [(0, .ref (X.2.2.2.1 0))]) rfl (fun Γ K => ?_)
  have K : Kx layM X Γ RX9 cX9_name 1 3 (some .int) := K
  unfold m_name at h
  refine g_aload_n (pn := 1) K rfl 0 rfl dX9_name_0 ?_
  refine g_bipush (pn := 3) (v := 119) K rfl bp_119 dX9_name_1 ?_
  refine g_bipush (pn := 5) (v := 97) K rfl bp_97 dX9_name_3 ?_
  refine g_bipush (pn := 7) (v := 114) K rfl bp_114 dX9_name_5 ?_
  refine g_bipush (pn := 9) (v := 109) K rfl bp_109 dX9_name_7 ?_
  refine g_iconst (pn := 10) (v := 0) K rfl ic_0 dX9_name_9 ?_
  refine g_iconst (pn := 11) (v := 0) K rfl ic_0 dX9_name_10 ?_
  refine g_iconst (pn := 12) (v := 0) K rfl ic_0 dX9_name_11 ?_
  refine g_iconst (pn := 13) (v := 0) K rfl ic_0 dX9_name_12 ?_
  obtain ⟨v2, hc1, h⟩ := ob_e h
  refine g_callV1 (pn := 16) (As := [.int 119, .int 97, .int 114, .int 109, .int 0, .int 0, .int 0, .int 0]) (rest := []) (a := 0) K rfl (d' := 2) (Nat.le_of_ble_eq_true rfl) mv_X9_179 (recvO K lm_0 rfl) (w_m_isWord hc1) rfl rfl (Nat.le_of_ble_eq_true rfl) dX9_name_13 ?_
  refine g_ifB_eq (tgt := 24) (pn := 19) K rfl (by decide) dX9_name_16 h (fun h => ?_) (fun h => ?_)
  · refine g_aload_n (pn := 25) K rfl 0 rfl dX9_name_24 ?_
    refine g_bipush (pn := 27) (v := 97) K rfl bp_97 dX9_name_25 ?_
    refine g_bipush (pn := 29) (v := 103) K rfl bp_103 dX9_name_27 ?_
    refine g_bipush (pn := 31) (v := 101) K rfl bp_101 dX9_name_29 ?_
    refine g_iconst (pn := 32) (v := 0) K rfl ic_0 dX9_name_31 ?_
    refine g_iconst (pn := 33) (v := 0) K rfl ic_0 dX9_name_32 ?_
    refine g_iconst (pn := 34) (v := 0) K rfl ic_0 dX9_name_33 ?_
    refine g_iconst (pn := 35) (v := 0) K rfl ic_0 dX9_name_34 ?_
    refine g_iconst (pn := 36) (v := 0) K rfl ic_0 dX9_name_35 ?_
    obtain ⟨v4, hc3, h⟩ := ob_e h
    refine g_callV1 (pn := 39) (As := [.int 97, .int 103, .int 101, .int 0, .int 0, .int 0, .int 0, .int 0]) (rest := []) (a := 0) K rfl (d' := 2) (Nat.le_of_ble_eq_true rfl) mv_X9_179 (recvO K lm_0 rfl) (w_m_isWord hc3) rfl rfl (Nat.le_of_ble_eq_true rfl) dX9_name_36 ?_
    refine g_ifB_eq (tgt := 47) (pn := 42) K rfl (by decide) dX9_name_39 h (fun h => ?_) (fun h => ?_)
    · refine g_aload_n (pn := 48) K rfl 0 rfl dX9_name_47 ?_
      refine g_bipush (pn := 50) (v := 100) K rfl bp_100 dX9_name_48 ?_
      refine g_bipush (pn := 52) (v := 105) K rfl bp_105 dX9_name_50 ?_
      refine g_bipush (pn := 54) (v := 114) K rfl bp_114 dX9_name_52 ?_
      refine g_bipush (pn := 56) (v := 116) K rfl bp_116 dX9_name_54 ?_
      refine g_iconst (pn := 57) (v := 0) K rfl ic_0 dX9_name_56 ?_
      refine g_iconst (pn := 58) (v := 0) K rfl ic_0 dX9_name_57 ?_
      refine g_iconst (pn := 59) (v := 0) K rfl ic_0 dX9_name_58 ?_
      refine g_iconst (pn := 60) (v := 0) K rfl ic_0 dX9_name_59 ?_
      obtain ⟨v6, hc5, h⟩ := ob_e h
      refine g_callV1 (pn := 63) (As := [.int 100, .int 105, .int 114, .int 116, .int 0, .int 0, .int 0, .int 0]) (rest := []) (a := 0) K rfl (d' := 2) (Nat.le_of_ble_eq_true rfl) mv_X9_179 (recvO K lm_0 rfl) (w_m_isWord hc5) rfl rfl (Nat.le_of_ble_eq_true rfl) dX9_name_60 ?_
      refine g_ifB_eq (tgt := 71) (pn := 66) K rfl (by decide) dX9_name_63 h (fun h => ?_) (fun h => ?_)
      · refine g_aload_n (pn := 72) K rfl 0 rfl dX9_name_71 ?_
        refine g_bipush (pn := 74) (v := 121) K rfl bp_121 dX9_name_72 ?_
        refine g_bipush (pn := 76) (v := 97) K rfl bp_97 dX9_name_74 ?_
        refine g_bipush (pn := 78) (v := 114) K rfl bp_114 dX9_name_76 ?_
        refine g_bipush (pn := 80) (v := 100) K rfl bp_100 dX9_name_78 ?_
        refine g_bipush (pn := 82) (v := 115) K rfl bp_115 dX9_name_80 ?_
        refine g_iconst (pn := 83) (v := 0) K rfl ic_0 dX9_name_82 ?_
        refine g_iconst (pn := 84) (v := 0) K rfl ic_0 dX9_name_83 ?_
        refine g_iconst (pn := 85) (v := 0) K rfl ic_0 dX9_name_84 ?_
        obtain ⟨v8, hc7, h⟩ := ob_e h
        refine g_callV1 (pn := 88) (As := [.int 121, .int 97, .int 114, .int 100, .int 115, .int 0, .int 0, .int 0]) (rest := []) (a := 0) K rfl (d' := 2) (Nat.le_of_ble_eq_true rfl) mv_X9_179 (recvO K lm_0 rfl) (w_m_isWord hc7) rfl rfl (Nat.le_of_ble_eq_true rfl) dX9_name_85 ?_
        refine g_ifB_eq (tgt := 96) (pn := 91) K rfl (by decide) dX9_name_88 h (fun h => ?_) (fun h => ?_)
        · refine g_aload_n (pn := 97) K rfl 0 rfl dX9_name_96 ?_
          refine g_bipush (pn := 99) (v := 111) K rfl bp_111 dX9_name_97 ?_
          refine g_bipush (pn := 101) (v := 102) K rfl bp_102 dX9_name_99 ?_
          refine g_bipush (pn := 103) (v := 102) K rfl bp_102 dX9_name_101 ?_
          refine g_iconst (pn := 104) (v := 0) K rfl ic_0 dX9_name_103 ?_
          refine g_iconst (pn := 105) (v := 0) K rfl ic_0 dX9_name_104 ?_
          refine g_iconst (pn := 106) (v := 0) K rfl ic_0 dX9_name_105 ?_
          refine g_iconst (pn := 107) (v := 0) K rfl ic_0 dX9_name_106 ?_
          refine g_iconst (pn := 108) (v := 0) K rfl ic_0 dX9_name_107 ?_
          obtain ⟨v10, hc9, h⟩ := ob_e h
          refine g_callV1 (pn := 111) (As := [.int 111, .int 102, .int 102, .int 0, .int 0, .int 0, .int 0, .int 0]) (rest := []) (a := 0) K rfl (d' := 2) (Nat.le_of_ble_eq_true rfl) mv_X9_179 (recvO K lm_0 rfl) (w_m_isWord hc9) rfl rfl (Nat.le_of_ble_eq_true rfl) dX9_name_108 ?_
          refine g_ifB_eq (tgt := 119) (pn := 114) K rfl (by decide) dX9_name_111 h (fun h => ?_) (fun h => ?_)
          · refine g_aload_n (pn := 120) K rfl 0 rfl dX9_name_119 ?_
            refine g_bipush (pn := 122) (v := 110) K rfl bp_110 dX9_name_120 ?_
            refine g_bipush (pn := 124) (v := 117) K rfl bp_117 dX9_name_122 ?_
            refine g_bipush (pn := 126) (v := 109) K rfl bp_109 dX9_name_124 ?_
            refine g_bipush (pn := 128) (v := 98) K rfl bp_98 dX9_name_126 ?_
            refine g_bipush (pn := 130) (v := 101) K rfl bp_101 dX9_name_128 ?_
            refine g_bipush (pn := 132) (v := 114) K rfl bp_114 dX9_name_130 ?_
            refine g_iconst (pn := 133) (v := 0) K rfl ic_0 dX9_name_132 ?_
            refine g_iconst (pn := 134) (v := 0) K rfl ic_0 dX9_name_133 ?_
            obtain ⟨v12, hc11, h⟩ := ob_e h
            refine g_callV1 (pn := 137) (As := [.int 110, .int 117, .int 109, .int 98, .int 101, .int 114, .int 0, .int 0]) (rest := []) (a := 0) K rfl (d' := 2) (Nat.le_of_ble_eq_true rfl) mv_X9_179 (recvO K lm_0 rfl) (w_m_isWord hc11) rfl rfl (Nat.le_of_ble_eq_true rfl) dX9_name_134 ?_
            refine g_ifB_eq (tgt := 145) (pn := 140) K rfl (by decide) dX9_name_137 h (fun h => ?_) (fun h => ?_)
            · refine g_aload_n (pn := 146) K rfl 0 rfl dX9_name_145 ?_
              obtain ⟨M14, hc13, h⟩ := ob_e h
              refine g_callV0 (pn := 149) (As := []) (rest := []) (a := 0) K rfl (d' := 0) (Nat.le_of_ble_eq_true rfl) mv_X9_173 (recvO K lm_0 rfl) (w_m_fail hc13) rfl rfl (Nat.le_of_ble_eq_true rfl) dX9_name_146 ?_
              refine g_iconst (pn := 150) (v := 0) K rfl ic_0 dX9_name_149 ?_
              exact g_iret K dX9_name_150 (oi2 h).2 (oi2 h).1
            · refine g_aload_n (pn := 141) K rfl 0 rfl dX9_name_140 ?_
              refine g_geti (pn := 144) K rfl fl_X9_198 lm_0 rfl dX9_name_141 ?_
              exact g_iret K dX9_name_144 (oi2 h).2 (oi2 h).1
          · refine g_aload_n (pn := 115) K rfl 0 rfl dX9_name_114 ?_
            refine g_geti (pn := 118) K rfl fl_X9_195 lm_0 rfl dX9_name_115 ?_
            exact g_iret K dX9_name_118 (oi2 h).2 (oi2 h).1
        · refine g_aload_n (pn := 92) K rfl 0 rfl dX9_name_91 ?_
          refine g_geti (pn := 95) K rfl fl_X9_192 lm_0 rfl dX9_name_92 ?_
          exact g_iret K dX9_name_95 (oi2 h).2 (oi2 h).1
      · refine g_aload_n (pn := 67) K rfl 0 rfl dX9_name_66 ?_
        refine g_geti (pn := 70) K rfl fl_X9_189 lm_0 rfl dX9_name_67 ?_
        exact g_iret K dX9_name_70 (oi2 h).2 (oi2 h).1
    · refine g_aload_n (pn := 43) K rfl 0 rfl dX9_name_42 ?_
      refine g_geti (pn := 46) K rfl fl_X9_186 lm_0 rfl dX9_name_43 ?_
      exact g_iret K dX9_name_46 (oi2 h).2 (oi2 h).1
  · refine g_aload_n (pn := 20) K rfl 0 rfl dX9_name_19 ?_
    refine g_geti (pn := 23) K rfl fl_X9_183 lm_0 rfl dX9_name_20 ?_
    exact g_iret K dX9_name_23 (oi2 h).2 (oi2 h).1
set_option maxHeartbeats 4000000 in
set_option maxRecDepth 20000 in
theorem w_m_term {X : XT} {M : Mem} {ao : Mem → Option (Mem × Int32)} {M' : Mem} {r : Int32}  {D : Nat} (hD : 6 ≤ D) (hao : ∀ (M M' : Mem) (r : Int32), ao M = some (M', r) → CT layM X D yX9_atom cX9_atom 2 (some .int) [.ref (X.2.2.2.1 0)] M M' (some (.int r))) (h : m_term ao M = some (M', r)) : CT layM X (D + 1) yX9_term cX9_term 2 (some .int) [.ref (X.2.2.2.1 0)] M M' (some (.int r)) := by
  refine CT.of rfl (Nat.le_of_ble_eq_true rfl) (lv := [(0, .ref (X.2.2.2.1 0))]) rfl (fun Γ K => ?_)
  have K : Kx layM X Γ RX9 cX9_term 2 (D + 1) (some .int) := K
  unfold m_term at h
  refine g_aload_n (pn := 1) K rfl 0 rfl dX9_term_0 ?_
  obtain ⟨M2, v3, hc1, h⟩ := ob2_e h
  refine g_callV1 (pn := 4) (As := []) (rest := []) (a := 0) K rfl (d' := D) (by omega) mv_X9_208 (recvO K lm_0 rfl) (hao _ _ _ hc1) rfl rfl (Nat.le_of_ble_eq_true rfl) dX9_term_1 ?_
  refine g_istore_n (pn := 5) (lv' := [(1, .int v3), (0, .ref (X.2.2.2.1 0))]) K rfl dX9_term_4 rfl (Nat.le_of_ble_eq_true rfl) rfl ?_
  refine jp_e2 h (fun v4 M5 => G layM X Γ 2 (QM layM X Γ (some (.int r)) M') 28 [(1, .int v4)] [] M5) (fun v4 M5 h => ?_) (fun j6 hj6 h => ?_)
  · refine g_iload_n (pn := 29) K rfl 0 rfl dX9_term_28 ?_
    exact g_iret K dX9_term_29 (oi2 h).2 (oi2 h).1
  have LP5 : ∀ (fu9 : Nat) (v7 : Int32) (M8 : Mem), m_term_L5 ao j6 fu9 v7 M8 = some (M', r) → G layM X Γ 2 (QM layM X Γ (some (.int r)) M') 5 [(0, .ref (X.2.2.2.1 0)), (1, .int v7)] [] M8 := by
    intro fu9
    induction fu9 with
    | zero =>
      intro v7 M8 h
      rw [m_term_L5] at h
      cases h
    | succ fu9 ih9 =>
      intro v7 M8 h
      rw [m_term_L5] at h
      refine g_aload_n (pn := 6) K rfl 0 rfl dX9_term_5 ?_
      refine g_bipush (pn := 8) (v := 42) K rfl bp_42 dX9_term_6 ?_
      obtain ⟨v11, hc10, h⟩ := ob_e h
      refine g_callV1 (pn := 11) (As := [.int 42]) (rest := []) (a := 0) K rfl (d' := 0) (by omega) mv_X9_201 (recvO K lm_0 rfl) (w_m_isSign hc10) rfl rfl (Nat.le_of_ble_eq_true rfl) dX9_term_8 ?_
      refine g_ifB_eq (tgt := 28) (pn := 14) K rfl (by decide) dX9_term_11 h (fun h => ?_) (fun h => ?_)
      · refine g_sub [1] rfl ?_
        exact hj6 _ _ h
      · refine g_aload_n (pn := 15) K rfl 0 rfl dX9_term_14 ?_
        obtain ⟨M13, hc12, h⟩ := ob_e h
        refine g_callV0 (pn := 18) (As := []) (rest := []) (a := 0) K rfl (d' := 1) (by omega) mv_X9_176 (recvO K lm_0 rfl) (w_m_next hc12) rfl rfl (Nat.le_of_ble_eq_true rfl) dX9_term_15 ?_
        refine g_iload_n (pn := 19) K rfl 1 rfl dX9_term_18 ?_
        refine g_aload_n (pn := 20) K rfl 0 rfl dX9_term_19 ?_
        obtain ⟨M15, v16, hc14, h⟩ := ob2_e h
        refine g_callV1 (pn := 23) (As := []) (rest := [.int v7]) (a := 0) K rfl (d' := D) (by omega) mv_X9_208 (recvO K lm_0 rfl) (hao _ _ _ hc14) rfl rfl (Nat.le_of_ble_eq_true rfl) dX9_term_20 ?_
        refine g_imul (pn := 24) K rfl dX9_term_23 ?_
        refine g_nmi h (fun v17 h => ?_)
        refine g_istore_n (pn := 25) (lv' := [(1, .int v17), (0, .ref (X.2.2.2.1 0))]) K rfl dX9_term_24 rfl (Nat.le_of_ble_eq_true rfl) rfl ?_
        refine g_goto (tgt := 5) K (by decide) dX9_term_25 ?_
        refine g_sub [1, 0] rfl ?_
        exact ih9 _ _ h
  refine g_sub [1, 0] rfl ?_
  exact LP5 FU _ _ h
set_option maxHeartbeats 4000000 in
set_option maxRecDepth 20000 in
theorem w_m_added {X : XT} {M : Mem} {ao : Mem → Option (Mem × Int32)} {M' : Mem} {r : Int32}  {D : Nat} (hD : 6 ≤ D) (hao : ∀ (M M' : Mem) (r : Int32), ao M = some (M', r) → CT layM X D yX9_atom cX9_atom 2 (some .int) [.ref (X.2.2.2.1 0)] M M' (some (.int r))) (h : m_added ao M = some (M', r)) : CT layM X (D + 2) yX9_added cX9_added 4 (some .int) [.ref (X.2.2.2.1 0)] M M' (some (.int r)) := by
  refine CT.of rfl (Nat.le_of_ble_eq_true rfl) (lv := [(0, .ref (X.2.2.2.1 0))]) rfl (fun Γ K => ?_)
  have K : Kx layM X Γ RX9 cX9_added 4 (D + 2) (some .int) := K
  unfold m_added at h
  refine g_aload_n (pn := 1) K rfl 0 rfl dX9_added_0 ?_
  obtain ⟨M2, v3, hc1, h⟩ := ob2_e h
  refine g_callV1 (pn := 4) (As := []) (rest := []) (a := 0) K rfl (d' := (D + 1)) (by omega) mv_X9_218 (recvO K lm_0 rfl) (w_m_term hD hao hc1) rfl rfl (Nat.le_of_ble_eq_true rfl) dX9_added_1 ?_
  refine g_istore_n (pn := 5) (lv' := [(1, .int v3), (0, .ref (X.2.2.2.1 0))]) K rfl dX9_added_4 rfl (Nat.le_of_ble_eq_true rfl) rfl ?_
  refine jp_e2 h (fun v4 M5 => G layM X Γ 4 (QM layM X Γ (some (.int r)) M') 66 [(1, .int v4)] [] M5) (fun v4 M5 h => ?_) (fun j6 hj6 h => ?_)
  · refine g_iload_n (pn := 67) K rfl 0 rfl dX9_added_66 ?_
    exact g_iret K dX9_added_67 (oi2 h).2 (oi2 h).1
  have LP5 : ∀ (fu9 : Nat) (v7 : Int32) (M8 : Mem), m_added_L5 ao j6 fu9 v7 M8 = some (M', r) → G layM X Γ 4 (QM layM X Γ (some (.int r)) M') 5 [(0, .ref (X.2.2.2.1 0)), (1, .int v7)] [] M8 := by
    intro fu9
    induction fu9 with
    | zero =>
      intro v7 M8 h
      rw [m_added_L5] at h
      cases h
    | succ fu9 ih9 =>
      intro v7 M8 h
      rw [m_added_L5] at h
      refine g_aload_n (pn := 6) K rfl 0 rfl dX9_added_5 ?_
      refine g_bipush (pn := 8) (v := 43) K rfl bp_43 dX9_added_6 ?_
      obtain ⟨v11, hc10, h⟩ := ob_e h
      refine g_callV1 (pn := 11) (As := [.int 43]) (rest := []) (a := 0) K rfl (d' := 0) (by omega) mv_X9_201 (recvO K lm_0 rfl) (w_m_isSign hc10) rfl rfl (Nat.le_of_ble_eq_true rfl) dX9_added_8 ?_
      refine jp_e1 h (fun u12 => G layM X Γ 4 (QM layM X Γ (some (.int r)) M') 23 [(0, .ref (X.2.2.2.1 0)), (1, .int v7)] [] M8) (fun u12 h => ?_) (fun j13 hj13 h => ?_)
      · refine g_aload_n (pn := 24) K rfl 0 rfl dX9_added_23 ?_
        refine g_getl (pn := 27) K rfl fl_X9_153 lm_0 rfl dX9_added_24 ?_
        refine g_ldc2 (pn := 30) (v := 43) K rfl cl_X9_221 dX9_added_27 ?_
        refine g_lcmp (pn := 31) K rfl dX9_added_30 ?_
        refine jp_e1 h (fun v14 => G layM X Γ 4 (QM layM X Γ (some (.int r)) M') 39 [(0, .ref (X.2.2.2.1 0)), (1, .int v7)] [.int v14] M8) (fun v14 h => ?_) (fun j15 hj15 h => ?_)
        · refine g_istore_n (pn := 40) (lv' := [(2, .int v14), (0, .ref (X.2.2.2.1 0)), (1, .int v7)]) K rfl dX9_added_39 rfl (Nat.le_of_ble_eq_true rfl) rfl ?_
          refine g_aload_n (pn := 41) K rfl 1 rfl dX9_added_40 ?_
          obtain ⟨M17, hc16, h⟩ := ob_e h
          refine g_callV0 (pn := 44) (As := []) (rest := []) (a := 0) K rfl (d' := 1) (by omega) mv_X9_176 (recvO K lm_0 rfl) (w_m_next hc16) rfl rfl (Nat.le_of_ble_eq_true rfl) dX9_added_41 ?_
          refine g_aload_n (pn := 45) K rfl 1 rfl dX9_added_44 ?_
          obtain ⟨M19, v20, hc18, h⟩ := ob2_e h
          refine g_callV1 (pn := 48) (As := []) (rest := []) (a := 0) K rfl (d' := (D + 1)) (by omega) mv_X9_218 (recvO K lm_0 rfl) (w_m_term hD hao hc18) rfl rfl (Nat.le_of_ble_eq_true rfl) dX9_added_45 ?_
          refine g_istore_n (pn := 49) (lv' := [(3, .int v20), (2, .int v14), (0, .ref (X.2.2.2.1 0)), (1, .int v7)]) K rfl dX9_added_48 rfl (Nat.le_of_ble_eq_true rfl) rfl ?_
          refine g_iload_n (pn := 50) K rfl 1 rfl dX9_added_49 ?_
          refine jp_e1 h (fun v21 => G layM X Γ 4 (QM layM X Γ (some (.int r)) M') 62 [(0, .ref (X.2.2.2.1 0))] [.int v21] M19) (fun v21 h => ?_) (fun j22 hj22 h => ?_)
          · refine g_istore_n (pn := 63) (lv' := [(1, .int v21), (0, .ref (X.2.2.2.1 0))]) K rfl dX9_added_62 rfl (Nat.le_of_ble_eq_true rfl) rfl ?_
            refine g_goto (tgt := 5) K (by decide) dX9_added_63 ?_
            refine g_sub [1, 0] rfl ?_
            exact ih9 _ _ h
          refine g_if_eq (tgt := 59) (pn := 53) K rfl (by decide) dX9_added_50 h (fun h => ?_) (fun h => ?_)
          · refine g_iload_n (pn := 60) K rfl 3 rfl dX9_added_59 ?_
            refine g_iload_n (pn := 61) K rfl 0 rfl dX9_added_60 ?_
            refine g_isub (pn := 62) K rfl dX9_added_61 ?_
            refine g_sub [2] rfl ?_
            exact hj22 _ h
          · refine g_iload_n (pn := 54) K rfl 3 rfl dX9_added_53 ?_
            refine g_iload_n (pn := 55) K rfl 0 rfl dX9_added_54 ?_
            refine g_iadd (pn := 56) K rfl dX9_added_55 ?_
            refine g_goto (tgt := 62) K (by decide) dX9_added_56 ?_
            refine g_sub [2] rfl ?_
            exact hj22 _ h
        refine g_if_ne (tgt := 38) (pn := 34) K rfl (by decide) dX9_added_31 h (fun h => ?_) (fun h => ?_)
        · refine g_iconst (pn := 39) (v := 0) K rfl ic_0 dX9_added_38 ?_
          exact hj15 _ h
        · refine g_iconst (pn := 35) (v := 1) K rfl ic_1 dX9_added_34 ?_
          refine g_goto (tgt := 39) K (by decide) dX9_added_35 ?_
          exact hj15 _ h
      refine g_ifB_ne (tgt := 23) (pn := 14) K rfl (by decide) dX9_added_11 h (fun h => ?_) (fun h => ?_)
      · exact hj13 _ h
      · refine g_aload_n (pn := 15) K rfl 0 rfl dX9_added_14 ?_
        refine g_bipush (pn := 17) (v := 45) K rfl bp_45 dX9_added_15 ?_
        obtain ⟨v24, hc23, h⟩ := ob_e h
        refine g_callV1 (pn := 20) (As := [.int 45]) (rest := []) (a := 0) K rfl (d' := 0) (by omega) mv_X9_201 (recvO K lm_0 rfl) (w_m_isSign hc23) rfl rfl (Nat.le_of_ble_eq_true rfl) dX9_added_17 ?_
        refine g_ifB_eq (tgt := 66) (pn := 23) K rfl (by decide) dX9_added_20 h (fun h => ?_) (fun h => ?_)
        · refine g_sub [1] rfl ?_
          exact hj6 _ _ h
        · exact hj13 _ h
  refine g_sub [1, 0] rfl ?_
  exact LP5 FU _ _ h
set_option maxHeartbeats 4000000 in
set_option maxRecDepth 20000 in
theorem w_m_notB {X : XT} {M : Mem} {ao : Mem → Option (Mem × Int32)} {slf : Mem → Option (Mem × Int32)} {M' : Mem} {r : Int32}  {D : Nat} (hD : 6 ≤ D) (hao : ∀ (M M' : Mem) (r : Int32), ao M = some (M', r) → CT layM X D yX9_atom cX9_atom 2 (some .int) [.ref (X.2.2.2.1 0)] M M' (some (.int r))) {E : Nat} (hE : D + 3 ≤ E) (hslf : ∀ (M M' : Mem) (r : Int32), slf M = some (M', r) → CT layM X E yX9_not cX9_not 4 (some .int) [.ref (X.2.2.2.1 0)] M M' (some (.int r))) (h : m_notB ao slf M = some (M', r)) : CT layM X (E + 1) yX9_not cX9_not 4 (some .int) [.ref (X.2.2.2.1 0)] M M' (some (.int r)) := by
  refine CT.of rfl (Nat.le_of_ble_eq_true rfl) (lv := [(0, .ref (X.2.2.2.1 0))]) rfl (fun Γ K => ?_)
  have K : Kx layM X Γ RX9 cX9_not 4 (E + 1) (some .int) := K
  unfold m_notB at h
  refine g_aload_n (pn := 1) K rfl 0 rfl dX9_not_0 ?_
  refine g_bipush (pn := 3) (v := 110) K rfl bp_110 dX9_not_1 ?_
  refine g_bipush (pn := 5) (v := 111) K rfl bp_111 dX9_not_3 ?_
  refine g_bipush (pn := 7) (v := 116) K rfl bp_116 dX9_not_5 ?_
  refine g_iconst (pn := 8) (v := 0) K rfl ic_0 dX9_not_7 ?_
  refine g_iconst (pn := 9) (v := 0) K rfl ic_0 dX9_not_8 ?_
  refine g_iconst (pn := 10) (v := 0) K rfl ic_0 dX9_not_9 ?_
  refine g_iconst (pn := 11) (v := 0) K rfl ic_0 dX9_not_10 ?_
  refine g_iconst (pn := 12) (v := 0) K rfl ic_0 dX9_not_11 ?_
  obtain ⟨v2, hc1, h⟩ := ob_e h
  refine g_callV1 (pn := 15) (As := [.int 110, .int 111, .int 116, .int 0, .int 0, .int 0, .int 0, .int 0]) (rest := []) (a := 0) K rfl (d' := 2) (by omega) mv_X9_179 (recvO K lm_0 rfl) (w_m_isWord hc1) rfl rfl (Nat.le_of_ble_eq_true rfl) dX9_not_12 ?_
  refine g_ifB_eq (tgt := 52) (pn := 18) K rfl (by decide) dX9_not_15 h (fun h => ?_) (fun h => ?_)
  · refine g_aload_n (pn := 53) K rfl 0 rfl dX9_not_52 ?_
    obtain ⟨M4, v5, hc3, h⟩ := ob2_e h
    refine g_callV1 (pn := 56) (As := []) (rest := []) (a := 0) K rfl (d' := (D + 2)) (by omega) mv_X9_226 (recvO K lm_0 rfl) (w_m_added hD hao hc3) rfl rfl (Nat.le_of_ble_eq_true rfl) dX9_not_53 ?_
    refine g_istore_n (pn := 57) (lv' := [(1, .int v5), (0, .ref (X.2.2.2.1 0))]) K rfl dX9_not_56 rfl (Nat.le_of_ble_eq_true rfl) rfl ?_
    refine g_aload_n (pn := 58) K rfl 1 rfl dX9_not_57 ?_
    refine g_bipush (pn := 60) (v := 60) K rfl bp_60 dX9_not_58 ?_
    obtain ⟨v7, hc6, h⟩ := ob_e h
    refine g_callV1 (pn := 63) (As := [.int 60]) (rest := []) (a := 0) K rfl (d' := 0) (by omega) mv_X9_201 (recvO K lm_0 rfl) (w_m_isSign hc6) rfl rfl (Nat.le_of_ble_eq_true rfl) dX9_not_60 ?_
    refine jp_e1 h (fun u8 => G layM X Γ 4 (QM layM X Γ (some (.int r)) M') 77 [(1, .int v5), (0, .ref (X.2.2.2.1 0))] [] M4) (fun u8 h => ?_) (fun j9 hj9 h => ?_)
    · refine g_aload_n (pn := 78) K rfl 1 rfl dX9_not_77 ?_
      refine g_getl (pn := 81) K rfl fl_X9_153 lm_0 rfl dX9_not_78 ?_
      refine g_ldc2 (pn := 84) (v := 60) K rfl cl_X9_229 dX9_not_81 ?_
      refine g_lcmp (pn := 85) K rfl dX9_not_84 ?_
      refine jp_e1 h (fun v10 => G layM X Γ 4 (QM layM X Γ (some (.int r)) M') 93 [(1, .int v5), (0, .ref (X.2.2.2.1 0))] [.int v10] M4) (fun v10 h => ?_) (fun j11 hj11 h => ?_)
      · refine g_istore_n (pn := 94) (lv' := [(2, .int v10), (1, .int v5), (0, .ref (X.2.2.2.1 0))]) K rfl dX9_not_93 rfl (Nat.le_of_ble_eq_true rfl) rfl ?_
        refine g_aload_n (pn := 95) K rfl 2 rfl dX9_not_94 ?_
        obtain ⟨M13, hc12, h⟩ := ob_e h
        refine g_callV0 (pn := 98) (As := []) (rest := []) (a := 0) K rfl (d' := 1) (by omega) mv_X9_176 (recvO K lm_0 rfl) (w_m_next hc12) rfl rfl (Nat.le_of_ble_eq_true rfl) dX9_not_95 ?_
        refine g_aload_n (pn := 99) K rfl 2 rfl dX9_not_98 ?_
        obtain ⟨M15, v16, hc14, h⟩ := ob2_e h
        refine g_callV1 (pn := 102) (As := []) (rest := []) (a := 0) K rfl (d' := (D + 2)) (by omega) mv_X9_226 (recvO K lm_0 rfl) (w_m_added hD hao hc14) rfl rfl (Nat.le_of_ble_eq_true rfl) dX9_not_99 ?_
        refine g_istore_n (pn := 103) (lv' := [(3, .int v16), (2, .int v10), (1, .int v5), (0, .ref (X.2.2.2.1 0))]) K rfl dX9_not_102 rfl (Nat.le_of_ble_eq_true rfl) rfl ?_
        refine g_iload_n (pn := 104) K rfl 1 rfl dX9_not_103 ?_
        refine g_if_eq (tgt := 115) (pn := 107) K rfl (by decide) dX9_not_104 h (fun h => ?_) (fun h => ?_)
        · refine g_iload_n (pn := 116) K rfl 2 rfl dX9_not_115 ?_
          refine g_iload_n (pn := 117) K rfl 0 rfl dX9_not_116 ?_
          refine g_icmp_ne (tgt := 124) (pn := 120) K rfl (by decide) dX9_not_117 h (fun h => ?_) (fun h => ?_)
          · refine g_iconst (pn := 125) (v := 0) K rfl ic_0 dX9_not_124 ?_
            exact g_iret K dX9_not_125 (oi2 h).2 (oi2 h).1
          · refine g_iconst (pn := 121) (v := 1) K rfl ic_1 dX9_not_120 ?_
            refine g_goto (tgt := 125) K (by decide) dX9_not_121 ?_
            exact g_iret K dX9_not_125 (oi2 h).2 (oi2 h).1
        · refine g_iload_n (pn := 108) K rfl 2 rfl dX9_not_107 ?_
          refine g_iload_n (pn := 109) K rfl 0 rfl dX9_not_108 ?_
          refine g_icmp_ge (tgt := 124) (pn := 112) K rfl (by decide) dX9_not_109 h (fun h => ?_) (fun h => ?_)
          · refine g_iconst (pn := 125) (v := 0) K rfl ic_0 dX9_not_124 ?_
            exact g_iret K dX9_not_125 (oi2 h).2 (oi2 h).1
          · refine g_goto (tgt := 120) K (by decide) dX9_not_112 ?_
            refine g_iconst (pn := 121) (v := 1) K rfl ic_1 dX9_not_120 ?_
            refine g_goto (tgt := 125) K (by decide) dX9_not_121 ?_
            exact g_iret K dX9_not_125 (oi2 h).2 (oi2 h).1
      refine g_if_ne (tgt := 92) (pn := 88) K rfl (by decide) dX9_not_85 h (fun h => ?_) (fun h => ?_)
      · refine g_iconst (pn := 93) (v := 0) K rfl ic_0 dX9_not_92 ?_
        exact hj11 _ h
      · refine g_iconst (pn := 89) (v := 1) K rfl ic_1 dX9_not_88 ?_
        refine g_goto (tgt := 93) K (by decide) dX9_not_89 ?_
        exact hj11 _ h
    refine g_ifB_ne (tgt := 77) (pn := 66) K rfl (by decide) dX9_not_63 h (fun h => ?_) (fun h => ?_)
    · exact hj9 _ h
    · refine g_aload_n (pn := 67) K rfl 1 rfl dX9_not_66 ?_
      refine g_bipush (pn := 69) (v := 61) K rfl bp_61 dX9_not_67 ?_
      obtain ⟨v18, hc17, h⟩ := ob_e h
      refine g_callV1 (pn := 72) (As := [.int 61]) (rest := []) (a := 0) K rfl (d' := 0) (by omega) mv_X9_201 (recvO K lm_0 rfl) (w_m_isSign hc17) rfl rfl (Nat.le_of_ble_eq_true rfl) dX9_not_69 ?_
      refine g_ifB_ne (tgt := 77) (pn := 75) K rfl (by decide) dX9_not_72 h (fun h => ?_) (fun h => ?_)
      · exact hj9 _ h
      · refine g_iload_n (pn := 76) K rfl 0 rfl dX9_not_75 ?_
        exact g_iret K dX9_not_76 (oi2 h).2 (oi2 h).1
  · refine g_aload_n (pn := 19) K rfl 0 rfl dX9_not_18 ?_
    obtain ⟨M20, v21, hc19, h⟩ := ob2_e h
    refine g_callV1 (pn := 22) (As := []) (rest := []) (a := 0) K rfl (d' := 2) (by omega) mv_X9_204 (recvO K lm_0 rfl) (w_m_opens hc19) rfl rfl (Nat.le_of_ble_eq_true rfl) dX9_not_19 ?_
    refine g_ifB_ne (tgt := 27) (pn := 25) K rfl (by decide) dX9_not_22 h (fun h => ?_) (fun h => ?_)
    · refine g_aload_n (pn := 28) K rfl 0 rfl dX9_not_27 ?_
      obtain ⟨M23, v24, hc22, h⟩ := ob2_e h
      refine g_callV1 (pn := 31) (As := []) (rest := []) (a := 0) K rfl (d' := E) (by omega) mv_X9_223 (recvO K lm_0 rfl) (hslf _ _ _ hc22) rfl rfl (Nat.le_of_ble_eq_true rfl) dX9_not_28 ?_
      refine g_istore_n (pn := 32) (lv' := [(1, .int v24), (0, .ref (X.2.2.2.1 0))]) K rfl dX9_not_31 rfl (Nat.le_of_ble_eq_true rfl) rfl ?_
      refine g_aload_n (pn := 33) K rfl 1 rfl dX9_not_32 ?_
      refine g_dup (pn := 34) K rfl rfl dX9_not_33 ?_
      refine g_geti (pn := 37) K rfl fl_X9_170 lm_0 rfl dX9_not_34 ?_
      refine g_iconst (pn := 38) (v := 1) K rfl ic_1 dX9_not_37 ?_
      refine g_isub (pn := 39) K rfl dX9_not_38 ?_
      refine g_puti (pn := 42) K rfl fp_X9_170 lm_0 rfl dX9_not_39 h (fun M25 h => ?_)
      refine g_iload_n (pn := 43) K rfl 0 rfl dX9_not_42 ?_
      refine g_if_ne (tgt := 50) (pn := 46) K rfl (by decide) dX9_not_43 h (fun h => ?_) (fun h => ?_)
      · refine g_iconst (pn := 51) (v := 0) K rfl ic_0 dX9_not_50 ?_
        exact g_iret K dX9_not_51 (oi2 h).2 (oi2 h).1
      · refine g_iconst (pn := 47) (v := 1) K rfl ic_1 dX9_not_46 ?_
        refine g_goto (tgt := 51) K (by decide) dX9_not_47 ?_
        exact g_iret K dX9_not_51 (oi2 h).2 (oi2 h).1
    · refine g_iconst (pn := 26) (v := 0) K rfl ic_0 dX9_not_25 ?_
      exact g_iret K dX9_not_26 (oi2 h).2 (oi2 h).1
theorem w_m_not {X : XT} {ao : Mem → Option (Mem × Int32)} {D : Nat} (hD : 6 ≤ D) (hao : ∀ (M M' : Mem) (r : Int32), ao M = some (M', r) → CT layM X D yX9_atom cX9_atom 2 (some .int) [.ref (X.2.2.2.1 0)] M M' (some (.int r))) (k : Nat) : ∀ {M M' : Mem} {r : Int32}, m_not ao k M = some (M', r) → CT layM X (D + 4 + k) yX9_not cX9_not 4 (some .int) [.ref (X.2.2.2.1 0)] M M' (some (.int r)) := by
  induction k with
  | zero =>
    intro M M' r h
    rw [m_not] at h
    cases h
  | succ k ih =>
    intro M M' r h
    rw [m_not] at h
    exact w_m_notB (E := D + 4 + k) hD hao (by omega) (fun M M' r h => ih h) h
set_option maxHeartbeats 4000000 in
set_option maxRecDepth 20000 in
theorem w_m_both {X : XT} {M : Mem} {ao : Mem → Option (Mem × Int32)} {M' : Mem} {r : Int32}  {D : Nat} (hD : 6 ≤ D) (hao : ∀ (M M' : Mem) (r : Int32), ao M = some (M', r) → CT layM X D yX9_atom cX9_atom 2 (some .int) [.ref (X.2.2.2.1 0)] M M' (some (.int r))) (h : m_both ao M = some (M', r)) : CT layM X (D + 15) yX9_both cX9_both 3 (some .int) [.ref (X.2.2.2.1 0)] M M' (some (.int r)) := by
  refine CT.of rfl (Nat.le_of_ble_eq_true rfl) (lv := [(0, .ref (X.2.2.2.1 0))]) rfl (fun Γ K => ?_)
  have K : Kx layM X Γ RX9 cX9_both 3 (D + 15) (some .int) := K
  unfold m_both at h
  refine g_aload_n (pn := 1) K rfl 0 rfl dX9_both_0 ?_
  obtain ⟨M2, v3, hc1, h⟩ := ob2_e h
  refine g_callV1 (pn := 4) (As := []) (rest := []) (a := 0) K rfl (d' := (D + 14)) (by omega) mv_X9_223 (recvO K lm_0 rfl) (w_m_not hD hao 10 hc1) rfl rfl (Nat.le_of_ble_eq_true rfl) dX9_both_1 ?_
  refine g_istore_n (pn := 5) (lv' := [(1, .int v3), (0, .ref (X.2.2.2.1 0))]) K rfl dX9_both_4 rfl (Nat.le_of_ble_eq_true rfl) rfl ?_
  refine jp_e2 h (fun v4 M5 => G layM X Γ 3 (QM layM X Γ (some (.int r)) M') 49 [(1, .int v4)] [] M5) (fun v4 M5 h => ?_) (fun j6 hj6 h => ?_)
  · refine g_iload_n (pn := 50) K rfl 0 rfl dX9_both_49 ?_
    exact g_iret K dX9_both_50 (oi2 h).2 (oi2 h).1
  have LP5 : ∀ (fu9 : Nat) (v7 : Int32) (M8 : Mem), m_both_L5 ao j6 fu9 v7 M8 = some (M', r) → G layM X Γ 3 (QM layM X Γ (some (.int r)) M') 5 [(0, .ref (X.2.2.2.1 0)), (1, .int v7)] [] M8 := by
    intro fu9
    induction fu9 with
    | zero =>
      intro v7 M8 h
      rw [m_both_L5] at h
      cases h
    | succ fu9 ih9 =>
      intro v7 M8 h
      rw [m_both_L5] at h
      refine g_aload_n (pn := 6) K rfl 0 rfl dX9_both_5 ?_
      refine g_bipush (pn := 8) (v := 97) K rfl bp_97 dX9_both_6 ?_
      refine g_bipush (pn := 10) (v := 110) K rfl bp_110 dX9_both_8 ?_
      refine g_bipush (pn := 12) (v := 100) K rfl bp_100 dX9_both_10 ?_
      refine g_iconst (pn := 13) (v := 0) K rfl ic_0 dX9_both_12 ?_
      refine g_iconst (pn := 14) (v := 0) K rfl ic_0 dX9_both_13 ?_
      refine g_iconst (pn := 15) (v := 0) K rfl ic_0 dX9_both_14 ?_
      refine g_iconst (pn := 16) (v := 0) K rfl ic_0 dX9_both_15 ?_
      refine g_iconst (pn := 17) (v := 0) K rfl ic_0 dX9_both_16 ?_
      obtain ⟨v11, hc10, h⟩ := ob_e h
      refine g_callV1 (pn := 20) (As := [.int 97, .int 110, .int 100, .int 0, .int 0, .int 0, .int 0, .int 0]) (rest := []) (a := 0) K rfl (d' := 2) (by omega) mv_X9_179 (recvO K lm_0 rfl) (w_m_isWord hc10) rfl rfl (Nat.le_of_ble_eq_true rfl) dX9_both_17 ?_
      refine g_ifB_eq (tgt := 49) (pn := 23) K rfl (by decide) dX9_both_20 h (fun h => ?_) (fun h => ?_)
      · refine g_sub [1] rfl ?_
        exact hj6 _ _ h
      · refine g_aload_n (pn := 24) K rfl 0 rfl dX9_both_23 ?_
        obtain ⟨M13, hc12, h⟩ := ob_e h
        refine g_callV0 (pn := 27) (As := []) (rest := []) (a := 0) K rfl (d' := 1) (by omega) mv_X9_176 (recvO K lm_0 rfl) (w_m_next hc12) rfl rfl (Nat.le_of_ble_eq_true rfl) dX9_both_24 ?_
        refine g_aload_n (pn := 28) K rfl 0 rfl dX9_both_27 ?_
        obtain ⟨M15, v16, hc14, h⟩ := ob2_e h
        refine g_callV1 (pn := 31) (As := []) (rest := []) (a := 0) K rfl (d' := (D + 14)) (by omega) mv_X9_223 (recvO K lm_0 rfl) (w_m_not hD hao 10 hc14) rfl rfl (Nat.le_of_ble_eq_true rfl) dX9_both_28 ?_
        refine g_istore_n (pn := 32) (lv' := [(2, .int v16), (0, .ref (X.2.2.2.1 0)), (1, .int v7)]) K rfl dX9_both_31 rfl (Nat.le_of_ble_eq_true rfl) rfl ?_
        refine g_iload_n (pn := 33) K rfl 2 rfl dX9_both_32 ?_
        refine jp_e1 h (fun v17 => G layM X Γ 3 (QM layM X Γ (some (.int r)) M') 45 [(0, .ref (X.2.2.2.1 0))] [.int v17] M15) (fun v17 h => ?_) (fun j18 hj18 h => ?_)
        · refine g_istore_n (pn := 46) (lv' := [(1, .int v17), (0, .ref (X.2.2.2.1 0))]) K rfl dX9_both_45 rfl (Nat.le_of_ble_eq_true rfl) rfl ?_
          refine g_goto (tgt := 5) K (by decide) dX9_both_46 ?_
          refine g_sub [1, 0] rfl ?_
          exact ih9 _ _ h
        refine jp_e1 h (fun u19 => G layM X Γ 3 (QM layM X Γ (some (.int r)) M') 44 [(0, .ref (X.2.2.2.1 0))] [] M15) (fun u19 h => ?_) (fun j20 hj20 h => ?_)
        · refine g_iconst (pn := 45) (v := 0) K rfl ic_0 dX9_both_44 ?_
          exact hj18 _ h
        refine g_if_eq (tgt := 44) (pn := 36) K rfl (by decide) dX9_both_33 h (fun h => ?_) (fun h => ?_)
        · refine g_sub [1] rfl ?_
          exact hj20 _ h
        · refine g_iload_n (pn := 37) K rfl 0 rfl dX9_both_36 ?_
          refine g_if_eq (tgt := 44) (pn := 40) K rfl (by decide) dX9_both_37 h (fun h => ?_) (fun h => ?_)
          · refine g_sub [1] rfl ?_
            exact hj20 _ h
          · refine g_iconst (pn := 41) (v := 1) K rfl ic_1 dX9_both_40 ?_
            refine g_goto (tgt := 45) K (by decide) dX9_both_41 ?_
            refine g_sub [1] rfl ?_
            exact hj18 _ h
  refine g_sub [1, 0] rfl ?_
  exact LP5 FU _ _ h
set_option maxHeartbeats 4000000 in
set_option maxRecDepth 20000 in
theorem w_m_either {X : XT} {M : Mem} {ao : Mem → Option (Mem × Int32)} {M' : Mem} {r : Int32}  {D : Nat} (hD : 6 ≤ D) (hao : ∀ (M M' : Mem) (r : Int32), ao M = some (M', r) → CT layM X D yX9_atom cX9_atom 2 (some .int) [.ref (X.2.2.2.1 0)] M M' (some (.int r))) (h : m_either ao M = some (M', r)) : CT layM X (D + 16) yX9_either cX9_either 3 (some .int) [.ref (X.2.2.2.1 0)] M M' (some (.int r)) := by
  refine CT.of rfl (Nat.le_of_ble_eq_true rfl) (lv := [(0, .ref (X.2.2.2.1 0))]) rfl (fun Γ K => ?_)
  have K : Kx layM X Γ RX9 cX9_either 3 (D + 16) (some .int) := K
  unfold m_either at h
  refine g_aload_n (pn := 1) K rfl 0 rfl dX9_either_0 ?_
  obtain ⟨M2, v3, hc1, h⟩ := ob2_e h
  refine g_callV1 (pn := 4) (As := []) (rest := []) (a := 0) K rfl (d' := (D + 15)) (by omega) mv_X9_231 (recvO K lm_0 rfl) (w_m_both hD hao hc1) rfl rfl (Nat.le_of_ble_eq_true rfl) dX9_either_1 ?_
  refine g_istore_n (pn := 5) (lv' := [(1, .int v3), (0, .ref (X.2.2.2.1 0))]) K rfl dX9_either_4 rfl (Nat.le_of_ble_eq_true rfl) rfl ?_
  refine jp_e2 h (fun v4 M5 => G layM X Γ 3 (QM layM X Γ (some (.int r)) M') 48 [(1, .int v4)] [] M5) (fun v4 M5 h => ?_) (fun j6 hj6 h => ?_)
  · refine g_iload_n (pn := 49) K rfl 0 rfl dX9_either_48 ?_
    exact g_iret K dX9_either_49 (oi2 h).2 (oi2 h).1
  have LP5 : ∀ (fu9 : Nat) (v7 : Int32) (M8 : Mem), m_either_L5 ao j6 fu9 v7 M8 = some (M', r) → G layM X Γ 3 (QM layM X Γ (some (.int r)) M') 5 [(0, .ref (X.2.2.2.1 0)), (1, .int v7)] [] M8 := by
    intro fu9
    induction fu9 with
    | zero =>
      intro v7 M8 h
      rw [m_either_L5] at h
      cases h
    | succ fu9 ih9 =>
      intro v7 M8 h
      rw [m_either_L5] at h
      refine g_aload_n (pn := 6) K rfl 0 rfl dX9_either_5 ?_
      refine g_bipush (pn := 8) (v := 111) K rfl bp_111 dX9_either_6 ?_
      refine g_bipush (pn := 10) (v := 114) K rfl bp_114 dX9_either_8 ?_
      refine g_iconst (pn := 11) (v := 0) K rfl ic_0 dX9_either_10 ?_
      refine g_iconst (pn := 12) (v := 0) K rfl ic_0 dX9_either_11 ?_
      refine g_iconst (pn := 13) (v := 0) K rfl ic_0 dX9_either_12 ?_
      refine g_iconst (pn := 14) (v := 0) K rfl ic_0 dX9_either_13 ?_
      refine g_iconst (pn := 15) (v := 0) K rfl ic_0 dX9_either_14 ?_
      refine g_iconst (pn := 16) (v := 0) K rfl ic_0 dX9_either_15 ?_
      obtain ⟨v11, hc10, h⟩ := ob_e h
      refine g_callV1 (pn := 19) (As := [.int 111, .int 114, .int 0, .int 0, .int 0, .int 0, .int 0, .int 0]) (rest := []) (a := 0) K rfl (d' := 2) (by omega) mv_X9_179 (recvO K lm_0 rfl) (w_m_isWord hc10) rfl rfl (Nat.le_of_ble_eq_true rfl) dX9_either_16 ?_
      refine g_ifB_eq (tgt := 48) (pn := 22) K rfl (by decide) dX9_either_19 h (fun h => ?_) (fun h => ?_)
      · refine g_sub [1] rfl ?_
        exact hj6 _ _ h
      · refine g_aload_n (pn := 23) K rfl 0 rfl dX9_either_22 ?_
        obtain ⟨M13, hc12, h⟩ := ob_e h
        refine g_callV0 (pn := 26) (As := []) (rest := []) (a := 0) K rfl (d' := 1) (by omega) mv_X9_176 (recvO K lm_0 rfl) (w_m_next hc12) rfl rfl (Nat.le_of_ble_eq_true rfl) dX9_either_23 ?_
        refine g_aload_n (pn := 27) K rfl 0 rfl dX9_either_26 ?_
        obtain ⟨M15, v16, hc14, h⟩ := ob2_e h
        refine g_callV1 (pn := 30) (As := []) (rest := []) (a := 0) K rfl (d' := (D + 15)) (by omega) mv_X9_231 (recvO K lm_0 rfl) (w_m_both hD hao hc14) rfl rfl (Nat.le_of_ble_eq_true rfl) dX9_either_27 ?_
        refine g_istore_n (pn := 31) (lv' := [(2, .int v16), (0, .ref (X.2.2.2.1 0)), (1, .int v7)]) K rfl dX9_either_30 rfl (Nat.le_of_ble_eq_true rfl) rfl ?_
        refine g_iload_n (pn := 32) K rfl 2 rfl dX9_either_31 ?_
        refine jp_e1 h (fun v17 => G layM X Γ 3 (QM layM X Γ (some (.int r)) M') 44 [(0, .ref (X.2.2.2.1 0))] [.int v17] M15) (fun v17 h => ?_) (fun j18 hj18 h => ?_)
        · refine g_istore_n (pn := 45) (lv' := [(1, .int v17), (0, .ref (X.2.2.2.1 0))]) K rfl dX9_either_44 rfl (Nat.le_of_ble_eq_true rfl) rfl ?_
          refine g_goto (tgt := 5) K (by decide) dX9_either_45 ?_
          refine g_sub [1, 0] rfl ?_
          exact ih9 _ _ h
        refine jp_e1 h (fun u19 => G layM X Γ 3 (QM layM X Γ (some (.int r)) M') 39 [(0, .ref (X.2.2.2.1 0))] [] M15) (fun u19 h => ?_) (fun j20 hj20 h => ?_)
        · refine g_iconst (pn := 40) (v := 1) K rfl ic_1 dX9_either_39 ?_
          refine g_goto (tgt := 44) K (by decide) dX9_either_40 ?_
          exact hj18 _ h
        refine g_if_ne (tgt := 39) (pn := 35) K rfl (by decide) dX9_either_32 h (fun h => ?_) (fun h => ?_)
        · refine g_sub [1] rfl ?_
          exact hj20 _ h
        · refine g_iload_n (pn := 36) K rfl 0 rfl dX9_either_35 ?_
          refine g_if_eq (tgt := 43) (pn := 39) K rfl (by decide) dX9_either_36 h (fun h => ?_) (fun h => ?_)
          · refine g_iconst (pn := 44) (v := 0) K rfl ic_0 dX9_either_43 ?_
            refine g_sub [1] rfl ?_
            exact hj18 _ h
          · refine g_sub [1] rfl ?_
            exact hj20 _ h
  refine g_sub [1, 0] rfl ?_
  exact LP5 FU _ _ h
set_option maxHeartbeats 4000000 in
set_option maxRecDepth 20000 in
theorem w_m_atomB {X : XT} {M : Mem} {ao : Mem → Option (Mem × Int32)} {M' : Mem} {r : Int32}  {D : Nat} (hD : 6 ≤ D) (hao : ∀ (M M' : Mem) (r : Int32), ao M = some (M', r) → CT layM X D yX9_atom cX9_atom 2 (some .int) [.ref (X.2.2.2.1 0)] M M' (some (.int r))) (h : m_atomB ao M = some (M', r)) : CT layM X (D + 18) yX9_atom cX9_atom 2 (some .int) [.ref (X.2.2.2.1 0)] M M' (some (.int r)) := by
  refine CT.of rfl (Nat.le_of_ble_eq_true rfl) (lv := [(0, .ref (X.2.2.2.1 0))]) rfl (fun Γ K => ?_)
  have K : Kx layM X Γ RX9 cX9_atom 2 (D + 18) (some .int) := K
  unfold m_atomB at h
  refine g_iconst (pn := 1) (v := 0) K rfl ic_0 dX9_atom_0 ?_
  refine g_istore_n (pn := 2) (lv' := [(1, .int 0), (0, .ref (X.2.2.2.1 0))]) K rfl dX9_atom_1 rfl (Nat.le_of_ble_eq_true rfl) rfl ?_
  refine g_aload_n (pn := 3) K rfl 1 rfl dX9_atom_2 ?_
  refine g_bipush (pn := 5) (v := 45) K rfl bp_45 dX9_atom_3 ?_
  obtain ⟨v2, hc1, h⟩ := ob_e h
  refine g_callV1 (pn := 8) (As := [.int 45]) (rest := []) (a := 0) K rfl (d' := 0) (by omega) mv_X9_201 (recvO K lm_0 rfl) (w_m_isSign hc1) rfl rfl (Nat.le_of_ble_eq_true rfl) dX9_atom_5 ?_
  refine g_ifB_eq (tgt := 37) (pn := 11) K rfl (by decide) dX9_atom_8 h (fun h => ?_) (fun h => ?_)
  · refine g_aload_n (pn := 38) K rfl 1 rfl dX9_atom_37 ?_
    refine g_bipush (pn := 40) (v := 40) K rfl bp_40 dX9_atom_38 ?_
    obtain ⟨v4, hc3, h⟩ := ob_e h
    refine g_callV1 (pn := 43) (As := [.int 40]) (rest := []) (a := 0) K rfl (d' := 0) (by omega) mv_X9_201 (recvO K lm_0 rfl) (w_m_isSign hc3) rfl rfl (Nat.le_of_ble_eq_true rfl) dX9_atom_40 ?_
    refine g_ifB_eq (tgt := 95) (pn := 46) K rfl (by decide) dX9_atom_43 h (fun h => ?_) (fun h => ?_)
    · refine g_aload_n (pn := 96) K rfl 1 rfl dX9_atom_95 ?_
      refine g_geti (pn := 99) K rfl fl_X9_159 lm_0 rfl dX9_atom_96 ?_
      refine jp_e2 h (fun v5 M6 => G layM X Γ 2 (QM layM X Γ (some (.int r)) M') 123 [(0, .ref (X.2.2.2.1 0)), (1, .int v5)] [] M6) (fun v5 M6 h => ?_) (fun j7 hj7 h => ?_)
      · refine g_aload_n (pn := 124) K rfl 0 rfl dX9_atom_123 ?_
        refine g_geti (pn := 127) K rfl fl_X9_159 lm_0 rfl dX9_atom_124 ?_
        refine jp_e2 h (fun v8 M9 => G layM X Γ 2 (QM layM X Γ (some (.int r)) M') 157 [(0, .ref (X.2.2.2.1 0)), (1, .int v8)] [] M9) (fun v8 M9 h => ?_) (fun j10 hj10 h => ?_)
        · refine g_aload_n (pn := 158) K rfl 0 rfl dX9_atom_157 ?_
          obtain ⟨M12, hc11, h⟩ := ob_e h
          refine g_callV0 (pn := 161) (As := []) (rest := []) (a := 0) K rfl (d' := 0) (by omega) mv_X9_173 (recvO K lm_0 rfl) (w_m_fail hc11) rfl rfl (Nat.le_of_ble_eq_true rfl) dX9_atom_158 ?_
          refine g_iload_n (pn := 162) K rfl 1 rfl dX9_atom_161 ?_
          exact g_iret K dX9_atom_162 (oi2 h).2 (oi2 h).1
        refine g_if_ne (tgt := 157) (pn := 130) K rfl (by decide) dX9_atom_127 h (fun h => ?_) (fun h => ?_)
        · exact hj10 _ _ h
        · refine g_aload_n (pn := 131) K rfl 0 rfl dX9_atom_130 ?_
          refine g_geti (pn := 134) K rfl fl_X9_142 lm_0 rfl dX9_atom_131 ?_
          refine g_iconst (pn := 135) (v := 1) K rfl ic_1 dX9_atom_134 ?_
          refine g_icmp_ne (tgt := 157) (pn := 138) K rfl (by decide) dX9_atom_135 h (fun h => ?_) (fun h => ?_)
          · exact hj10 _ _ h
          · refine g_aload_n (pn := 139) K rfl 0 rfl dX9_atom_138 ?_
            obtain ⟨M14, v15, hc13, h⟩ := ob2_e h
            refine g_callV1 (pn := 142) (As := []) (rest := []) (a := 0) K rfl (d' := 3) (by omega) mv_X9_215 (recvO K lm_0 rfl) (w_m_name hc13) rfl rfl (Nat.le_of_ble_eq_true rfl) dX9_atom_139 ?_
            refine g_istore_n (pn := 143) (lv' := [(1, .int v15), (0, .ref (X.2.2.2.1 0))]) K rfl dX9_atom_142 rfl (Nat.le_of_ble_eq_true rfl) rfl ?_
            refine g_aload_n (pn := 144) K rfl 1 rfl dX9_atom_143 ?_
            refine g_geti (pn := 147) K rfl fl_X9_159 lm_0 rfl dX9_atom_144 ?_
            refine g_if_ne (tgt := 161) (pn := 150) K rfl (by decide) dX9_atom_147 h (fun h => ?_) (fun h => ?_)
            · refine g_iload_n (pn := 162) K rfl 0 rfl dX9_atom_161 ?_
              exact g_iret K dX9_atom_162 (oi2 h).2 (oi2 h).1
            · refine g_aload_n (pn := 151) K rfl 1 rfl dX9_atom_150 ?_
              obtain ⟨M17, hc16, h⟩ := ob_e h
              refine g_callV0 (pn := 154) (As := []) (rest := []) (a := 0) K rfl (d' := 1) (by omega) mv_X9_176 (recvO K lm_0 rfl) (w_m_next hc16) rfl rfl (Nat.le_of_ble_eq_true rfl) dX9_atom_151 ?_
              refine g_goto (tgt := 161) K (by decide) dX9_atom_154 ?_
              refine g_iload_n (pn := 162) K rfl 0 rfl dX9_atom_161 ?_
              exact g_iret K dX9_atom_162 (oi2 h).2 (oi2 h).1
      refine g_if_ne (tgt := 123) (pn := 102) K rfl (by decide) dX9_atom_99 h (fun h => ?_) (fun h => ?_)
      · refine g_sub [1, 0] rfl ?_
        exact hj7 _ _ h
      · refine g_aload_n (pn := 103) K rfl 1 rfl dX9_atom_102 ?_
        refine g_geti (pn := 106) K rfl fl_X9_142 lm_0 rfl dX9_atom_103 ?_
        refine g_iconst (pn := 107) (v := 2) K rfl ic_2 dX9_atom_106 ?_
        refine g_icmp_ne (tgt := 123) (pn := 110) K rfl (by decide) dX9_atom_107 h (fun h => ?_) (fun h => ?_)
        · refine g_sub [1, 0] rfl ?_
          exact hj7 _ _ h
        · refine g_aload_n (pn := 111) K rfl 1 rfl dX9_atom_110 ?_
          refine g_getl (pn := 114) K rfl fl_X9_153 lm_0 rfl dX9_atom_111 ?_
          refine g_l2i (pn := 115) K rfl dX9_atom_114 ?_
          refine g_nmi h (fun v18 h => ?_)
          refine g_istore_n (pn := 116) (lv' := [(1, .int v18), (0, .ref (X.2.2.2.1 0))]) K rfl dX9_atom_115 rfl (Nat.le_of_ble_eq_true rfl) rfl ?_
          refine g_aload_n (pn := 117) K rfl 1 rfl dX9_atom_116 ?_
          obtain ⟨M20, hc19, h⟩ := ob_e h
          refine g_callV0 (pn := 120) (As := []) (rest := []) (a := 0) K rfl (d' := 1) (by omega) mv_X9_176 (recvO K lm_0 rfl) (w_m_next hc19) rfl rfl (Nat.le_of_ble_eq_true rfl) dX9_atom_117 ?_
          refine g_goto (tgt := 161) K (by decide) dX9_atom_120 ?_
          refine g_iload_n (pn := 162) K rfl 0 rfl dX9_atom_161 ?_
          exact g_iret K dX9_atom_162 (oi2 h).2 (oi2 h).1
    · refine g_aload_n (pn := 47) K rfl 1 rfl dX9_atom_46 ?_
      obtain ⟨M22, v23, hc21, h⟩ := ob2_e h
      refine g_callV1 (pn := 50) (As := []) (rest := []) (a := 0) K rfl (d' := 2) (by omega) mv_X9_204 (recvO K lm_0 rfl) (w_m_opens hc21) rfl rfl (Nat.le_of_ble_eq_true rfl) dX9_atom_47 ?_
      refine g_ifB_eq (tgt := 161) (pn := 53) K rfl (by decide) dX9_atom_50 h (fun h => ?_) (fun h => ?_)
      · refine g_iload_n (pn := 162) K rfl 0 rfl dX9_atom_161 ?_
        exact g_iret K dX9_atom_162 (oi2 h).2 (oi2 h).1
      · refine g_aload_n (pn := 54) K rfl 1 rfl dX9_atom_53 ?_
        obtain ⟨M25, v26, hc24, h⟩ := ob2_e h
        refine g_callV1 (pn := 57) (As := []) (rest := []) (a := 0) K rfl (d' := (D + 16)) (by omega) mv_X9_212 (recvO K lm_0 rfl) (w_m_either hD hao hc24) rfl rfl (Nat.le_of_ble_eq_true rfl) dX9_atom_54 ?_
        refine g_istore_n (pn := 58) (lv' := [(1, .int v26), (0, .ref (X.2.2.2.1 0))]) K rfl dX9_atom_57 rfl (Nat.le_of_ble_eq_true rfl) rfl ?_
        refine g_aload_n (pn := 59) K rfl 1 rfl dX9_atom_58 ?_
        refine g_bipush (pn := 61) (v := 41) K rfl bp_41 dX9_atom_59 ?_
        obtain ⟨v28, hc27, h⟩ := ob_e h
        refine g_callV1 (pn := 64) (As := [.int 41]) (rest := []) (a := 0) K rfl (d' := 0) (by omega) mv_X9_201 (recvO K lm_0 rfl) (w_m_isSign hc27) rfl rfl (Nat.le_of_ble_eq_true rfl) dX9_atom_61 ?_
        refine jp_e1 h (fun M29 => G layM X Γ 2 (QM layM X Γ (some (.int r)) M') 71 [(1, .int v26), (0, .ref (X.2.2.2.1 0))] [] M29) (fun M29 h => ?_) (fun j30 hj30 h => ?_)
        · refine g_aload_n (pn := 72) K rfl 1 rfl dX9_atom_71 ?_
          refine g_dup (pn := 73) K rfl rfl dX9_atom_72 ?_
          refine g_geti (pn := 76) K rfl fl_X9_170 lm_0 rfl dX9_atom_73 ?_
          refine g_iconst (pn := 77) (v := 1) K rfl ic_1 dX9_atom_76 ?_
          refine g_isub (pn := 78) K rfl dX9_atom_77 ?_
          refine g_puti (pn := 81) K rfl fp_X9_170 lm_0 rfl dX9_atom_78 h (fun M31 h => ?_)
          refine g_aload_n (pn := 82) K rfl 1 rfl dX9_atom_81 ?_
          refine g_geti (pn := 85) K rfl fl_X9_159 lm_0 rfl dX9_atom_82 ?_
          refine g_if_ne (tgt := 161) (pn := 88) K rfl (by decide) dX9_atom_85 h (fun h => ?_) (fun h => ?_)
          · refine g_iload_n (pn := 162) K rfl 0 rfl dX9_atom_161 ?_
            exact g_iret K dX9_atom_162 (oi2 h).2 (oi2 h).1
          · refine g_aload_n (pn := 89) K rfl 1 rfl dX9_atom_88 ?_
            obtain ⟨M33, hc32, h⟩ := ob_e h
            refine g_callV0 (pn := 92) (As := []) (rest := []) (a := 0) K rfl (d' := 1) (by omega) mv_X9_176 (recvO K lm_0 rfl) (w_m_next hc32) rfl rfl (Nat.le_of_ble_eq_true rfl) dX9_atom_89 ?_
            refine g_goto (tgt := 161) K (by decide) dX9_atom_92 ?_
            refine g_iload_n (pn := 162) K rfl 0 rfl dX9_atom_161 ?_
            exact g_iret K dX9_atom_162 (oi2 h).2 (oi2 h).1
        refine g_ifB_ne (tgt := 71) (pn := 67) K rfl (by decide) dX9_atom_64 h (fun h => ?_) (fun h => ?_)
        · exact hj30 _ h
        · refine g_aload_n (pn := 68) K rfl 1 rfl dX9_atom_67 ?_
          obtain ⟨M35, hc34, h⟩ := ob_e h
          refine g_callV0 (pn := 71) (As := []) (rest := []) (a := 0) K rfl (d' := 0) (by omega) mv_X9_173 (recvO K lm_0 rfl) (w_m_fail hc34) rfl rfl (Nat.le_of_ble_eq_true rfl) dX9_atom_68 ?_
          exact hj30 _ h
  · refine g_aload_n (pn := 12) K rfl 1 rfl dX9_atom_11 ?_
    obtain ⟨M37, v38, hc36, h⟩ := ob2_e h
    refine g_callV1 (pn := 15) (As := []) (rest := []) (a := 0) K rfl (d' := 2) (by omega) mv_X9_204 (recvO K lm_0 rfl) (w_m_opens hc36) rfl rfl (Nat.le_of_ble_eq_true rfl) dX9_atom_12 ?_
    refine g_ifB_eq (tgt := 161) (pn := 18) K rfl (by decide) dX9_atom_15 h (fun h => ?_) (fun h => ?_)
    · refine g_iload_n (pn := 162) K rfl 0 rfl dX9_atom_161 ?_
      exact g_iret K dX9_atom_162 (oi2 h).2 (oi2 h).1
    · refine g_aload_n (pn := 19) K rfl 1 rfl dX9_atom_18 ?_
      obtain ⟨M40, v41, hc39, h⟩ := ob2_e h
      refine g_callV1 (pn := 22) (As := []) (rest := []) (a := 0) K rfl (d' := D) (by omega) mv_X9_208 (recvO K lm_0 rfl) (hao _ _ _ hc39) rfl rfl (Nat.le_of_ble_eq_true rfl) dX9_atom_19 ?_
      refine g_ineg (pn := 23) K rfl dX9_atom_22 ?_
      refine g_nmi h (fun v42 h => ?_)
      refine g_istore_n (pn := 24) (lv' := [(1, .int v42), (0, .ref (X.2.2.2.1 0))]) K rfl dX9_atom_23 rfl (Nat.le_of_ble_eq_true rfl) rfl ?_
      refine g_aload_n (pn := 25) K rfl 1 rfl dX9_atom_24 ?_
      refine g_dup (pn := 26) K rfl rfl dX9_atom_25 ?_
      refine g_geti (pn := 29) K rfl fl_X9_170 lm_0 rfl dX9_atom_26 ?_
      refine g_iconst (pn := 30) (v := 1) K rfl ic_1 dX9_atom_29 ?_
      refine g_isub (pn := 31) K rfl dX9_atom_30 ?_
      refine g_puti (pn := 34) K rfl fp_X9_170 lm_0 rfl dX9_atom_31 h (fun M43 h => ?_)
      refine g_goto (tgt := 161) K (by decide) dX9_atom_34 ?_
      refine g_iload_n (pn := 162) K rfl 0 rfl dX9_atom_161 ?_
      exact g_iret K dX9_atom_162 (oi2 h).2 (oi2 h).1
theorem w_m_atom {X : XT} (n : Nat) : ∀ {M M' : Mem} {r : Int32}, m_atom n M = some (M', r) → CT layM X (6 + 18 * n) yX9_atom cX9_atom 2 (some .int) [.ref (X.2.2.2.1 0)] M M' (some (.int r)) := by
  induction n with
  | zero =>
    intro M M' r h
    rw [m_atom] at h
    cases h
  | succ n ih =>
    intro M M' r h
    rw [m_atom] at h
    have e : 6 + 18 * (n + 1) = 6 + 18 * n + 18 := by omega
    rw [e]
    exact w_m_atomB (D := 6 + 18 * n) (by omega) (fun M M' r h => ih h) h
set_option maxHeartbeats 4000000 in
set_option maxRecDepth 20000 in
theorem w_m_part {X : XT} {M : Mem} {a1 : Int32} {M' : Mem} {r : Int32}   (h : m_part M a1 = some (M', r)) : CT layM X 167 yX9_part cX9_part 3 (some .int) [.ref (X.2.2.2.1 0), .int a1] M M' (some (.int r)) := by
  refine CT.of rfl (Nat.le_of_ble_eq_true rfl) (lv := [(0, .ref (X.2.2.2.1 0)), (1, .int a1)]) rfl (fun Γ K => ?_)
  have K : Kx layM X Γ RX9 cX9_part 3 167 (some .int) := K
  unfold m_part at h
  refine g_iload_n (pn := 1) K rfl 1 rfl dX9_part_0 ?_
  refine jp_e1 h (fun M1 => G layM X Γ 3 (QM layM X Γ (some (.int r)) M') 8 [(0, .ref (X.2.2.2.1 0))] [] M1) (fun M1 h => ?_) (fun j2 hj2 h => ?_)
  · refine g_aload_n (pn := 9) K rfl 0 rfl dX9_part_8 ?_
    refine g_geti (pn := 12) K rfl fl_X9_159 lm_0 rfl dX9_part_9 ?_
    refine jp_e1 h (fun M3 => G layM X Γ 3 (QM layM X Γ (some (.int r)) M') 19 [(0, .ref (X.2.2.2.1 0))] [] M3) (fun M3 h => ?_) (fun j4 hj4 h => ?_)
    · refine g_aload_n (pn := 20) K rfl 0 rfl dX9_part_19 ?_
      refine g_geti (pn := 23) K rfl fl_X9_159 lm_0 rfl dX9_part_20 ?_
      refine jp_e2 h (fun v5 M6 => G layM X Γ 3 (QM layM X Γ (some (.int r)) M') 34 [(0, .ref (X.2.2.2.1 0))] [.int v5] M6) (fun v5 M6 h => ?_) (fun j7 hj7 h => ?_)
      · refine g_istore_n (pn := 35) (lv' := [(2, .int v5), (0, .ref (X.2.2.2.1 0))]) K rfl dX9_part_34 rfl (Nat.le_of_ble_eq_true rfl) rfl ?_
        refine g_aload_n (pn := 36) K rfl 1 rfl dX9_part_35 ?_
        refine g_bipush (pn := 38) (v := 59) K rfl bp_59 dX9_part_36 ?_
        obtain ⟨v9, hc8, h⟩ := ob_e h
        refine g_callV1 (pn := 41) (As := [.int 59]) (rest := []) (a := 0) K rfl (d' := 0) (Nat.le_of_ble_eq_true rfl) mv_X9_201 (recvO K lm_0 rfl) (w_m_isSign hc8) rfl rfl (Nat.le_of_ble_eq_true rfl) dX9_part_38 ?_
        refine jp_e1 h (fun M10 => G layM X Γ 3 (QM layM X Γ (some (.int r)) M') 48 [(2, .int v5), (0, .ref (X.2.2.2.1 0))] [] M10) (fun M10 h => ?_) (fun j11 hj11 h => ?_)
        · refine g_aload_n (pn := 49) K rfl 1 rfl dX9_part_48 ?_
          refine g_geti (pn := 52) K rfl fl_X9_159 lm_0 rfl dX9_part_49 ?_
          refine g_if_ne (tgt := 59) (pn := 55) K rfl (by decide) dX9_part_52 h (fun h => ?_) (fun h => ?_)
          · refine g_iload_n (pn := 60) K rfl 0 rfl dX9_part_59 ?_
            exact g_iret K dX9_part_60 (oi2 h).2 (oi2 h).1
          · refine g_aload_n (pn := 56) K rfl 1 rfl dX9_part_55 ?_
            obtain ⟨M13, hc12, h⟩ := ob_e h
            refine g_callV0 (pn := 59) (As := []) (rest := []) (a := 0) K rfl (d' := 1) (Nat.le_of_ble_eq_true rfl) mv_X9_176 (recvO K lm_0 rfl) (w_m_next hc12) rfl rfl (Nat.le_of_ble_eq_true rfl) dX9_part_56 ?_
            refine g_iload_n (pn := 60) K rfl 0 rfl dX9_part_59 ?_
            exact g_iret K dX9_part_60 (oi2 h).2 (oi2 h).1
        refine g_ifB_ne (tgt := 48) (pn := 44) K rfl (by decide) dX9_part_41 h (fun h => ?_) (fun h => ?_)
        · exact hj11 _ h
        · refine g_aload_n (pn := 45) K rfl 1 rfl dX9_part_44 ?_
          obtain ⟨M15, hc14, h⟩ := ob_e h
          refine g_callV0 (pn := 48) (As := []) (rest := []) (a := 0) K rfl (d' := 0) (Nat.le_of_ble_eq_true rfl) mv_X9_173 (recvO K lm_0 rfl) (w_m_fail hc14) rfl rfl (Nat.le_of_ble_eq_true rfl) dX9_part_45 ?_
          exact hj11 _ h
      refine g_if_eq (tgt := 30) (pn := 26) K rfl (by decide) dX9_part_23 h (fun h => ?_) (fun h => ?_)
      · refine g_aload_n (pn := 31) K rfl 0 rfl dX9_part_30 ?_
        obtain ⟨M17, v18, hc16, h⟩ := ob2_e h
        refine g_callV1 (pn := 34) (As := []) (rest := []) (a := 0) K rfl (d' := 166) (Nat.le_of_ble_eq_true rfl) mv_X9_212 (recvO K lm_0 rfl) (w_m_either (D := 150) (by decide) (fun M M' r h => w_m_atom 8 h) hc16) rfl rfl (Nat.le_of_ble_eq_true rfl) dX9_part_31 ?_
        exact hj7 _ _ h
      · refine g_iconst (pn := 27) (v := 0) K rfl ic_0 dX9_part_26 ?_
        refine g_goto (tgt := 34) K (by decide) dX9_part_27 ?_
        exact hj7 _ _ h
    refine g_if_ne (tgt := 19) (pn := 15) K rfl (by decide) dX9_part_12 h (fun h => ?_) (fun h => ?_)
    · exact hj4 _ h
    · refine g_aload_n (pn := 16) K rfl 0 rfl dX9_part_15 ?_
      obtain ⟨M20, hc19, h⟩ := ob_e h
      refine g_callV0 (pn := 19) (As := []) (rest := []) (a := 0) K rfl (d' := 1) (Nat.le_of_ble_eq_true rfl) mv_X9_176 (recvO K lm_0 rfl) (w_m_next hc19) rfl rfl (Nat.le_of_ble_eq_true rfl) dX9_part_16 ?_
      exact hj4 _ h
  refine g_if_ne (tgt := 8) (pn := 4) K rfl (by decide) dX9_part_1 h (fun h => ?_) (fun h => ?_)
  · refine g_sub [0] rfl ?_
    exact hj2 _ h
  · refine g_aload_n (pn := 5) K rfl 0 rfl dX9_part_4 ?_
    obtain ⟨M22, hc21, h⟩ := ob_e h
    refine g_callV0 (pn := 8) (As := []) (rest := []) (a := 0) K rfl (d' := 0) (Nat.le_of_ble_eq_true rfl) mv_X9_173 (recvO K lm_0 rfl) (w_m_fail hc21) rfl rfl (Nat.le_of_ble_eq_true rfl) dX9_part_5 ?_
    refine g_sub [0] rfl ?_
    exact hj2 _ h
set_option maxHeartbeats 4000000 in
set_option maxRecDepth 20000 in
theorem w_m_read {X : XT} {M : Mem} {a1 : Int32} {a2 : Int32} {M' : Mem} {r : Int32}   (h : m_read M a1 a2 = some (M', r)) : CT layM X 168 yX9_read cX9_read 6 (some .int) [.ref (X.2.2.2.1 0), .int a1, .int a2] M M' (some (.int r)) := by
  refine CT.of rfl (Nat.le_of_ble_eq_true rfl) (lv := [(0, .ref (X.2.2.2.1 0)), (1, .int a1), (2, .int a2)]) rfl (fun Γ K => ?_)
  have K : Kx layM X Γ RX9 cX9_read 6 168 (some .int) := K
  unfold m_read at h
  refine g_aload_n (pn := 1) K rfl 0 rfl dX9_read_0 ?_
  refine g_sipush (pn := 4) (v := 160) K rfl sp_160 dX9_read_1 ?_
  refine g_iload_n (pn := 5) K rfl 1 rfl dX9_read_4 ?_
  refine g_imul (pn := 6) K rfl dX9_read_5 ?_
  refine g_puti (pn := 9) K rfl fp_X9_130 lm_0 rfl dX9_read_6 h (fun M1 h => ?_)
  refine g_aload_n (pn := 10) K rfl 0 rfl dX9_read_9 ?_
  refine g_aload_n (pn := 11) K rfl 0 rfl dX9_read_10 ?_
  refine g_getr (pn := 14) (j := 2) K rfl fl_X9_17 lm_0 rfl dX9_read_11 ?_
  refine g_iload_n (pn := 15) K rfl 1 rfl dX9_read_14 ?_
  refine g_iald (pn := 16) K rfl lm_2 dX9_read_15 h (fun h => ?_)
  refine g_puti (pn := 19) K rfl fp_X9_127 lm_0 rfl dX9_read_16 h (fun M2 h => ?_)
  refine g_aload_n (pn := 20) K rfl 0 rfl dX9_read_19 ?_
  refine g_iconst (pn := 21) (v := 0) K rfl ic_0 dX9_read_20 ?_
  refine g_puti (pn := 24) K rfl fp_X9_133 lm_0 rfl dX9_read_21 h (fun M3 h => ?_)
  refine g_aload_n (pn := 25) K rfl 0 rfl dX9_read_24 ?_
  refine g_iconst (pn := 26) (v := 0) K rfl ic_0 dX9_read_25 ?_
  refine g_puti (pn := 29) K rfl fp_X9_170 lm_0 rfl dX9_read_26 h (fun M4 h => ?_)
  refine g_aload_n (pn := 30) K rfl 0 rfl dX9_read_29 ?_
  refine g_iconst (pn := 31) (v := 0) K rfl ic_0 dX9_read_30 ?_
  refine g_putz (pn := 34) K rfl fp_X9_159 lm_0 rfl rfl rfl dX9_read_31 h (fun M5 h => ?_)
  refine g_aload_n (pn := 35) K rfl 0 rfl dX9_read_34 ?_
  obtain ⟨M7, hc6, h⟩ := ob_e h
  refine g_callV0 (pn := 38) (As := []) (rest := []) (a := 0) K rfl (d' := 1) (Nat.le_of_ble_eq_true rfl) mv_X9_176 (recvO K lm_0 rfl) (w_m_next hc6) rfl rfl (Nat.le_of_ble_eq_true rfl) dX9_read_35 ?_
  refine g_aload_n (pn := 39) K rfl 0 rfl dX9_read_38 ?_
  refine g_aload_n (pn := 40) K rfl 0 rfl dX9_read_39 ?_
  refine g_bipush (pn := 42) (v := 114) K rfl bp_114 dX9_read_40 ?_
  refine g_bipush (pn := 44) (v := 105) K rfl bp_105 dX9_read_42 ?_
  refine g_bipush (pn := 46) (v := 112) K rfl bp_112 dX9_read_44 ?_
  refine g_bipush (pn := 48) (v := 101) K rfl bp_101 dX9_read_46 ?_
  refine g_bipush (pn := 50) (v := 110) K rfl bp_110 dX9_read_48 ?_
  refine g_bipush (pn := 52) (v := 115) K rfl bp_115 dX9_read_50 ?_
  refine g_iconst (pn := 53) (v := 0) K rfl ic_0 dX9_read_52 ?_
  refine g_iconst (pn := 54) (v := 0) K rfl ic_0 dX9_read_53 ?_
  obtain ⟨v9, hc8, h⟩ := ob_e h
  refine g_callV1 (pn := 57) (As := [.int 114, .int 105, .int 112, .int 101, .int 110, .int 115, .int 0, .int 0]) (rest := [.ref (X.2.2.2.1 0)]) (a := 0) K rfl (d' := 2) (Nat.le_of_ble_eq_true rfl) mv_X9_179 (recvO K lm_0 rfl) (w_m_isWord hc8) rfl rfl (Nat.le_of_ble_eq_true rfl) dX9_read_54 ?_
  obtain ⟨M11, v12, hc10, h⟩ := ob2_e h
  refine g_callV1 (pn := 60) (As := [.int (b2i v9)]) (rest := []) (a := 0) K rfl (d' := 167) (Nat.le_of_ble_eq_true rfl) mv_X9_234 (recvO K lm_0 rfl) (w_m_part hc10) rfl rfl (Nat.le_of_ble_eq_true rfl) dX9_read_57 ?_
  refine g_istore_n (pn := 61) (lv' := [(3, .int v12), (0, .ref (X.2.2.2.1 0)), (1, .int a1), (2, .int a2)]) K rfl dX9_read_60 rfl (Nat.le_of_ble_eq_true rfl) rfl ?_
  refine g_aload_n (pn := 62) K rfl 1 rfl dX9_read_61 ?_
  refine g_geti (pn := 65) K rfl fl_X9_159 lm_0 rfl dX9_read_62 ?_
  refine jp_e2 h (fun v13 M14 => G layM X Γ 6 (QM layM X Γ (some (.int r)) M') 93 [(3, .int v12), (0, .ref (X.2.2.2.1 0)), (2, .int a2)] [.int v13] M14) (fun v13 M14 h => ?_) (fun j15 hj15 h => ?_)
  · refine g_istore (pn := 95) (lv' := [(4, .int v13), (3, .int v12), (0, .ref (X.2.2.2.1 0)), (2, .int a2)]) K rfl dX9_read_93 (Nat.le_of_ble_eq_true rfl) rfl ?_
    refine g_aload_n (pn := 96) K rfl 2 rfl dX9_read_95 ?_
    refine g_geti (pn := 99) K rfl fl_X9_159 lm_0 rfl dX9_read_96 ?_
    refine jp_e2 h (fun v16 M17 => G layM X Γ 6 (QM layM X Γ (some (.int r)) M') 128 [(4, .int v13), (3, .int v12), (0, .ref (X.2.2.2.1 0)), (2, .int a2)] [.int v16] M17) (fun v16 M17 h => ?_) (fun j18 hj18 h => ?_)
    · refine g_istore (pn := 130) (lv' := [(5, .int v16), (4, .int v13), (3, .int v12), (0, .ref (X.2.2.2.1 0)), (2, .int a2)]) K rfl dX9_read_128 (Nat.le_of_ble_eq_true rfl) rfl ?_
      refine g_aload_n (pn := 131) K rfl 3 rfl dX9_read_130 ?_
      refine g_geti (pn := 134) K rfl fl_X9_159 lm_0 rfl dX9_read_131 ?_
      refine jp_e1 h (fun M19 => G layM X Γ 6 (QM layM X Γ (some (.int r)) M') 148 [(5, .int v16), (4, .int v13), (3, .int v12), (2, .int a2)] [] M19) (fun M19 h => ?_) (fun j20 hj20 h => ?_)
      · refine g_iload_n (pn := 149) K rfl 3 rfl dX9_read_148 ?_
        refine g_if_ne (tgt := 156) (pn := 152) K rfl (by decide) dX9_read_149 h (fun h => ?_) (fun h => ?_)
        · refine g_iload_n (pn := 157) K rfl 3 rfl dX9_read_156 ?_
          refine g_iconst (pn := 158) (v := 1) K rfl ic_1 dX9_read_157 ?_
          refine g_icmp_ne (tgt := 166) (pn := 161) K rfl (by decide) dX9_read_158 h (fun h => ?_) (fun h => ?_)
          · refine g_iload (pn := 168) K rfl 0 rfl dX9_read_166 ?_
            exact g_iret K dX9_read_168 (oi2 h).2 (oi2 h).1
          · refine g_iload (pn := 163) K rfl 1 rfl dX9_read_161 ?_
            refine g_goto (tgt := 168) K (by decide) dX9_read_163 ?_
            exact g_iret K dX9_read_168 (oi2 h).2 (oi2 h).1
        · refine g_iload_n (pn := 153) K rfl 2 rfl dX9_read_152 ?_
          refine g_goto (tgt := 168) K (by decide) dX9_read_153 ?_
          exact g_iret K dX9_read_168 (oi2 h).2 (oi2 h).1
      refine g_if_ne (tgt := 148) (pn := 137) K rfl (by decide) dX9_read_134 h (fun h => ?_) (fun h => ?_)
      · refine g_sub [0, 1, 2, 4] rfl ?_
        exact hj20 _ h
      · refine g_aload_n (pn := 138) K rfl 3 rfl dX9_read_137 ?_
        refine g_geti (pn := 141) K rfl fl_X9_142 lm_0 rfl dX9_read_138 ?_
        refine g_if_eq (tgt := 148) (pn := 144) K rfl (by decide) dX9_read_141 h (fun h => ?_) (fun h => ?_)
        · refine g_sub [0, 1, 2, 4] rfl ?_
          exact hj20 _ h
        · refine g_aload_n (pn := 145) K rfl 3 rfl dX9_read_144 ?_
          obtain ⟨M22, hc21, h⟩ := ob_e h
          refine g_callV0 (pn := 148) (As := []) (rest := []) (a := 0) K rfl (d' := 0) (Nat.le_of_ble_eq_true rfl) mv_X9_173 (recvO K lm_0 rfl) (w_m_fail hc21) rfl rfl (Nat.le_of_ble_eq_true rfl) dX9_read_145 ?_
          refine g_sub [0, 1, 2, 4] rfl ?_
          exact hj20 _ h
    refine g_if_eq (tgt := 106) (pn := 102) K rfl (by decide) dX9_read_99 h (fun h => ?_) (fun h => ?_)
    · refine g_aload_n (pn := 107) K rfl 2 rfl dX9_read_106 ?_
      refine g_aload_n (pn := 108) K rfl 2 rfl dX9_read_107 ?_
      refine g_bipush (pn := 110) (v := 115) K rfl bp_115 dX9_read_108 ?_
      refine g_bipush (pn := 112) (v := 112) K rfl bp_112 dX9_read_110 ?_
      refine g_bipush (pn := 114) (v := 111) K rfl bp_111 dX9_read_112 ?_
      refine g_bipush (pn := 116) (v := 105) K rfl bp_105 dX9_read_114 ?_
      refine g_bipush (pn := 118) (v := 108) K rfl bp_108 dX9_read_116 ?_
      refine g_bipush (pn := 120) (v := 115) K rfl bp_115 dX9_read_118 ?_
      refine g_iconst (pn := 121) (v := 0) K rfl ic_0 dX9_read_120 ?_
      refine g_iconst (pn := 122) (v := 0) K rfl ic_0 dX9_read_121 ?_
      obtain ⟨v24, hc23, h⟩ := ob_e h
      refine g_callV1 (pn := 125) (As := [.int 115, .int 112, .int 111, .int 105, .int 108, .int 115, .int 0, .int 0]) (rest := [.ref (X.2.2.2.1 0)]) (a := 0) K rfl (d' := 2) (Nat.le_of_ble_eq_true rfl) mv_X9_179 (recvO K lm_0 rfl) (w_m_isWord hc23) rfl rfl (Nat.le_of_ble_eq_true rfl) dX9_read_122 ?_
      obtain ⟨M26, v27, hc25, h⟩ := ob2_e h
      refine g_callV1 (pn := 128) (As := [.int (b2i v24)]) (rest := []) (a := 0) K rfl (d' := 167) (Nat.le_of_ble_eq_true rfl) mv_X9_234 (recvO K lm_0 rfl) (w_m_part hc25) rfl rfl (Nat.le_of_ble_eq_true rfl) dX9_read_125 ?_
      exact hj18 _ _ h
    · refine g_iconst (pn := 103) (v := 0) K rfl ic_0 dX9_read_102 ?_
      refine g_goto (tgt := 128) K (by decide) dX9_read_103 ?_
      exact hj18 _ _ h
  refine g_if_eq (tgt := 72) (pn := 68) K rfl (by decide) dX9_read_65 h (fun h => ?_) (fun h => ?_)
  · refine g_aload_n (pn := 73) K rfl 1 rfl dX9_read_72 ?_
    refine g_aload_n (pn := 74) K rfl 1 rfl dX9_read_73 ?_
    refine g_bipush (pn := 76) (v := 116) K rfl bp_116 dX9_read_74 ?_
    refine g_bipush (pn := 78) (v := 97) K rfl bp_97 dX9_read_76 ?_
    refine g_bipush (pn := 80) (v := 107) K rfl bp_107 dX9_read_78 ?_
    refine g_bipush (pn := 82) (v := 101) K rfl bp_101 dX9_read_80 ?_
    refine g_bipush (pn := 84) (v := 115) K rfl bp_115 dX9_read_82 ?_
    refine g_iconst (pn := 85) (v := 0) K rfl ic_0 dX9_read_84 ?_
    refine g_iconst (pn := 86) (v := 0) K rfl ic_0 dX9_read_85 ?_
    refine g_iconst (pn := 87) (v := 0) K rfl ic_0 dX9_read_86 ?_
    obtain ⟨v29, hc28, h⟩ := ob_e h
    refine g_callV1 (pn := 90) (As := [.int 116, .int 97, .int 107, .int 101, .int 115, .int 0, .int 0, .int 0]) (rest := [.ref (X.2.2.2.1 0)]) (a := 0) K rfl (d' := 2) (Nat.le_of_ble_eq_true rfl) mv_X9_179 (recvO K lm_0 rfl) (w_m_isWord hc28) rfl rfl (Nat.le_of_ble_eq_true rfl) dX9_read_87 ?_
    obtain ⟨M31, v32, hc30, h⟩ := ob2_e h
    refine g_callV1 (pn := 93) (As := [.int (b2i v29)]) (rest := []) (a := 0) K rfl (d' := 167) (Nat.le_of_ble_eq_true rfl) mv_X9_234 (recvO K lm_0 rfl) (w_m_part hc30) rfl rfl (Nat.le_of_ble_eq_true rfl) dX9_read_90 ?_
    refine g_sub [0, 1, 3] rfl ?_
    exact hj15 _ _ h
  · refine g_iconst (pn := 69) (v := 0) K rfl ic_0 dX9_read_68 ?_
    refine g_goto (tgt := 93) K (by decide) dX9_read_69 ?_
    refine g_sub [0, 1, 3] rfl ?_
    exact hj15 _ _ h
set_option maxHeartbeats 4000000 in
set_option maxRecDepth 20000 in
theorem w_m_text {X : XT} {M : Mem}  {M' : Mem} {r : Int32}   (h : m_text M = some (M', r)) : CT layM X 169 yX9_text cX9_text 2 (some .int) [.ref (X.2.2.2.1 0)] M M' (some (.int r)) := by
  refine CT.of rfl (Nat.le_of_ble_eq_true rfl) (lv := [(0, .ref (X.2.2.2.1 0))]) rfl (fun Γ K => ?_)
  have K : Kx layM X Γ RX9 cX9_text 2 169 (some .int) := K
  unfold m_text at h
  refine g_aload_n (pn := 1) K rfl 0 rfl dX9_text_0 ?_
  refine g_geti (pn := 4) K rfl fl_X9_88 lm_0 rfl dX9_text_1 ?_
  refine g_bipush (pn := 6) (v := 6) K rfl bp_6 dX9_text_4 ?_
  refine g_icmp_ne (tgt := 12) (pn := 9) K rfl (by decide) dX9_text_6 h (fun h => ?_) (fun h => ?_)
  · refine g_iconst (pn := 13) (v := 0) K rfl ic_0 dX9_text_12 ?_
    refine g_istore_n (pn := 14) (lv' := [(1, .int 0), (0, .ref (X.2.2.2.1 0))]) K rfl dX9_text_13 rfl (Nat.le_of_ble_eq_true rfl) rfl ?_
    refine jp_e1 h (fun M1 => G layM X Γ 2 (QM layM X Γ (some (.int r)) M') 49 [(0, .ref (X.2.2.2.1 0))] [] M1) (fun M1 h => ?_) (fun j2 hj2 h => ?_)
    · refine g_aload_n (pn := 50) K rfl 0 rfl dX9_text_49 ?_
      refine g_getr (pn := 53) (j := 2) K rfl fl_X9_17 lm_0 rfl dX9_text_50 ?_
      refine g_aload_n (pn := 54) K rfl 0 rfl dX9_text_53 ?_
      refine g_geti (pn := 57) K rfl fl_X9_88 lm_0 rfl dX9_text_54 ?_
      refine g_aload_n (pn := 58) K rfl 0 rfl dX9_text_57 ?_
      refine g_geti (pn := 61) K rfl fl_X9_124 lm_0 rfl dX9_text_58 ?_
      refine g_iast (pn := 62) K rfl lm_2 dX9_text_61 h (fun M3 h => ?_)
      refine g_aload_n (pn := 63) K rfl 0 rfl dX9_text_62 ?_
      refine g_iconst (pn := 64) (v := 0) K rfl ic_0 dX9_text_63 ?_
      refine g_puti (pn := 67) K rfl fp_X9_124 lm_0 rfl dX9_text_64 h (fun M4 h => ?_)
      refine g_aload_n (pn := 68) K rfl 0 rfl dX9_text_67 ?_
      refine g_aload_n (pn := 69) K rfl 0 rfl dX9_text_68 ?_
      refine g_geti (pn := 72) K rfl fl_X9_88 lm_0 rfl dX9_text_69 ?_
      refine g_iconst (pn := 73) (v := 0) K rfl ic_0 dX9_text_72 ?_
      obtain ⟨M6, v7, hc5, h⟩ := ob2_e h
      refine g_callV1 (pn := 76) (As := [.int (M4 0 3), .int 0]) (rest := []) (a := 0) K rfl (d' := 168) (Nat.le_of_ble_eq_true rfl) mv_X9_238 (recvO K lm_0 rfl) (w_m_read hc5) rfl rfl (Nat.le_of_ble_eq_true rfl) dX9_text_73 ?_
      refine g_istore_n (pn := 77) (lv' := [(1, .int v7), (0, .ref (X.2.2.2.1 0))]) K rfl dX9_text_76 rfl (Nat.le_of_ble_eq_true rfl) rfl ?_
      refine g_aload_n (pn := 78) K rfl 1 rfl dX9_text_77 ?_
      refine g_geti (pn := 81) K rfl fl_X9_159 lm_0 rfl dX9_text_78 ?_
      refine g_if_eq (tgt := 92) (pn := 84) K rfl (by decide) dX9_text_81 h (fun h => ?_) (fun h => ?_)
      · refine g_aload_n (pn := 93) K rfl 1 rfl dX9_text_92 ?_
        refine g_dup (pn := 94) K rfl rfl dX9_text_93 ?_
        refine g_geti (pn := 97) K rfl fl_X9_88 lm_0 rfl dX9_text_94 ?_
        refine g_iconst (pn := 98) (v := 1) K rfl ic_1 dX9_text_97 ?_
        refine g_iadd (pn := 99) K rfl dX9_text_98 ?_
        refine g_puti (pn := 102) K rfl fp_X9_88 lm_0 rfl dX9_text_99 h (fun M8 h => ?_)
        refine g_aload_n (pn := 103) K rfl 1 rfl dX9_text_102 ?_
        refine g_geti (pn := 106) K rfl fl_X9_88 lm_0 rfl dX9_text_103 ?_
        refine g_iconst (pn := 107) (v := 1) K rfl ic_1 dX9_text_106 ?_
        refine g_isub (pn := 108) K rfl dX9_text_107 ?_
        exact g_iret K dX9_text_108 (oi2 h).2 (oi2 h).1
      · refine g_bipush (pn := 86) (v := (-100)) K rfl bp_m100 dX9_text_84 ?_
        refine g_aload_n (pn := 87) K rfl 1 rfl dX9_text_86 ?_
        refine g_geti (pn := 90) K rfl fl_X9_163 lm_0 rfl dX9_text_87 ?_
        refine g_isub (pn := 91) K rfl dX9_text_90 ?_
        exact g_iret K dX9_text_91 (oi2 h).2 (oi2 h).1
    have LP14 : ∀ (fu11 : Nat) (v9 : Int32) (M10 : Mem), m_text_L14 j2 fu11 v9 M10 = some (M', r) → G layM X Γ 2 (QM layM X Γ (some (.int r)) M') 14 [(0, .ref (X.2.2.2.1 0)), (1, .int v9)] [] M10 := by
      intro fu11
      induction fu11 with
      | zero =>
        intro v9 M10 h
        rw [m_text_L14] at h
        cases h
      | succ fu11 ih11 =>
        intro v9 M10 h
        rw [m_text_L14] at h
        refine g_iload_n (pn := 15) K rfl 1 rfl dX9_text_14 ?_
        refine g_aload_n (pn := 16) K rfl 0 rfl dX9_text_15 ?_
        refine g_geti (pn := 19) K rfl fl_X9_124 lm_0 rfl dX9_text_16 ?_
        refine g_icmp_ge (tgt := 49) (pn := 22) K rfl (by decide) dX9_text_19 h (fun h => ?_) (fun h => ?_)
        · refine g_sub [0] rfl ?_
          exact hj2 _ h
        · refine g_aload_n (pn := 23) K rfl 0 rfl dX9_text_22 ?_
          refine g_getr (pn := 26) (j := 1) K rfl fl_X9_13 lm_0 rfl dX9_text_23 ?_
          refine g_sipush (pn := 29) (v := 160) K rfl sp_160 dX9_text_26 ?_
          refine g_aload_n (pn := 30) K rfl 0 rfl dX9_text_29 ?_
          refine g_geti (pn := 33) K rfl fl_X9_88 lm_0 rfl dX9_text_30 ?_
          refine g_imul (pn := 34) K rfl dX9_text_33 ?_
          refine g_iload_n (pn := 35) K rfl 1 rfl dX9_text_34 ?_
          refine g_iadd (pn := 36) K rfl dX9_text_35 ?_
          refine g_aload_n (pn := 37) K rfl 0 rfl dX9_text_36 ?_
          refine g_getr (pn := 40) (j := 3) K rfl fl_X9_20 lm_0 rfl dX9_text_37 ?_
          refine g_iload_n (pn := 41) K rfl 1 rfl dX9_text_40 ?_
          refine g_iald (pn := 42) K rfl lm_3 dX9_text_41 h (fun h => ?_)
          refine g_iast (pn := 43) K rfl lm_1 dX9_text_42 h (fun M12 h => ?_)
          obtain ⟨v13, ev13, h⟩ := bnd_e h
          refine g_iinc (pn := 46) (v := v13) (lv' := [(1, .int v13), (0, .ref (X.2.2.2.1 0))]) K rfl 1 rfl ii_1 ev13 dX9_text_43 (Nat.le_of_ble_eq_true rfl) rfl ?_
          refine g_goto (tgt := 14) K (by decide) dX9_text_46 ?_
          refine g_sub [1, 0] rfl ?_
          exact ih11 _ _ h
    refine g_sub [1, 0] rfl ?_
    exact LP14 FU _ _ h
  · refine g_bipush (pn := 11) (v := (-4)) K rfl bp_m4 dX9_text_9 ?_
    exact g_iret K dX9_text_11 (oi2 h).2 (oi2 h).1
set_option maxHeartbeats 4000000 in
set_option maxRecDepth 20000 in
theorem w_m_force {X : XT} {M : Mem} {a1 : Int32} {M' : Mem} {r : Int32}   (h : m_force M a1 = some (M', r)) : CT layM X 1 yX9_force cX9_force 3 (some .int) [.ref (X.2.2.2.1 0), .int a1] M M' (some (.int r)) := by
  refine CT.of rfl (Nat.le_of_ble_eq_true rfl) (lv := [(0, .ref (X.2.2.2.1 0)), (1, .int a1)]) rfl (fun Γ K => ?_)
  have K : Kx layM X Γ RX9 cX9_force 3 1 (some .int) := K
  unfold m_force at h
  refine g_iload_n (pn := 1) K rfl 1 rfl dX9_force_0 ?_
  refine g_i2l (pn := 2) K rfl dX9_force_1 ?_
  refine g_lconst (pn := 3) (v := 0) K rfl lc_0 dX9_force_2 ?_
  refine g_aload_n (pn := 4) K rfl 0 rfl dX9_force_3 ?_
  refine g_geti (pn := 7) K rfl fl_X9_88 lm_0 rfl dX9_force_4 ?_
  refine g_iconst (pn := 8) (v := 1) K rfl ic_1 dX9_force_7 ?_
  refine g_isub (pn := 9) K rfl dX9_force_8 ?_
  refine g_i2l (pn := 10) K rfl dX9_force_9 ?_
  obtain ⟨v2, hc1, h⟩ := ob_e h
  refine g_callS1 (pn := 13) (As := [.long a1.toInt64, .long 0, .long ((M 0 3) - 1).toInt64]) (rest := []) K rfl (d' := 0) (Nat.le_of_ble_eq_true rfl) ms_X9_94 (w_m_in hc1) rfl rfl (Nat.le_of_ble_eq_true rfl) dX9_force_10 ?_
  refine g_ifB_ne (tgt := 19) (pn := 16) K rfl (by decide) dX9_force_13 h (fun h => ?_) (fun h => ?_)
  · refine g_aload_n (pn := 20) K rfl 0 rfl dX9_force_19 ?_
    refine g_geti (pn := 23) K rfl fl_X9_242 lm_0 rfl dX9_force_20 ?_
    refine g_nmi h (fun v3 h => ?_)
    refine g_istore_n (pn := 24) (lv' := [(2, .int v3), (0, .ref (X.2.2.2.1 0)), (1, .int a1)]) K rfl dX9_force_23 rfl (Nat.le_of_ble_eq_true rfl) rfl ?_
    refine g_aload_n (pn := 25) K rfl 1 rfl dX9_force_24 ?_
    refine g_iload_n (pn := 26) K rfl 2 rfl dX9_force_25 ?_
    refine g_puti (pn := 29) K rfl fp_X9_242 lm_0 rfl dX9_force_26 h (fun M4 h => ?_)
    refine g_iload_n (pn := 30) K rfl 0 rfl dX9_force_29 ?_
    exact g_iret K dX9_force_30 (oi2 h).2 (oi2 h).1
  · refine g_bipush (pn := 18) (v := (-2)) K rfl bp_m2 dX9_force_16 ?_
    exact g_iret K dX9_force_18 (oi2 h).2 (oi2 h).1
set_option maxHeartbeats 4000000 in
set_option maxRecDepth 20000 in
theorem w_m_says {X : XT} {M : Mem} {a1 : Int32} {a2 : Int32} {a3 : Int32} {a4 : Int32} {a5 : Int32} {M' : Mem} {r : Int32}   (h : m_says M a1 a2 a3 a4 a5 = some (M', r)) : CT layM X 169 yX9_says cX9_says 6 (some .int) [.ref (X.2.2.2.1 0), .int a1, .int a2, .int a3, .int a4, .int a5] M M' (some (.int r)) := by
  refine CT.of rfl (Nat.le_of_ble_eq_true rfl) (lv := [(0, .ref (X.2.2.2.1 0)), (1, .int a1), (2, .int a2), (3, .int a3), (4, .int a4), (5, .int a5)]) rfl (fun Γ K => ?_)
  have K : Kx layM X Γ RX9 cX9_says 6 169 (some .int) := K
  unfold m_says at h
  refine g_aload_n (pn := 1) K rfl 0 rfl dX9_says_0 ?_
  refine g_aload_n (pn := 2) K rfl 0 rfl dX9_says_1 ?_
  refine g_getr (pn := 5) (j := 4) K rfl fl_X9_23 lm_0 rfl dX9_says_2 ?_
  refine g_iconst (pn := 6) (v := 0) K rfl ic_0 dX9_says_5 ?_
  refine g_iald (pn := 7) K rfl lm_4 dX9_says_6 h (fun h => ?_)
  refine g_puti (pn := 10) K rfl fp_X9_183 lm_0 rfl dX9_says_7 h (fun M1 h => ?_)
  refine g_aload_n (pn := 11) K rfl 0 rfl dX9_says_10 ?_
  refine g_aload_n (pn := 12) K rfl 0 rfl dX9_says_11 ?_
  refine g_getr (pn := 15) (j := 4) K rfl fl_X9_23 lm_0 rfl dX9_says_12 ?_
  refine g_iconst (pn := 16) (v := 1) K rfl ic_1 dX9_says_15 ?_
  refine g_iald (pn := 17) K rfl lm_4 dX9_says_16 h (fun h => ?_)
  refine g_puti (pn := 20) K rfl fp_X9_186 lm_0 rfl dX9_says_17 h (fun M2 h => ?_)
  refine g_aload_n (pn := 21) K rfl 0 rfl dX9_says_20 ?_
  refine g_aload_n (pn := 22) K rfl 0 rfl dX9_says_21 ?_
  refine g_getr (pn := 25) (j := 4) K rfl fl_X9_23 lm_0 rfl dX9_says_22 ?_
  refine g_iconst (pn := 26) (v := 2) K rfl ic_2 dX9_says_25 ?_
  refine g_iald (pn := 27) K rfl lm_4 dX9_says_26 h (fun h => ?_)
  refine g_puti (pn := 30) K rfl fp_X9_189 lm_0 rfl dX9_says_27 h (fun M3 h => ?_)
  refine g_aload_n (pn := 31) K rfl 0 rfl dX9_says_30 ?_
  refine g_aload_n (pn := 32) K rfl 0 rfl dX9_says_31 ?_
  refine g_getr (pn := 35) (j := 7) K rfl fl_X9_32 lm_0 rfl dX9_says_32 ?_
  refine g_iload_n (pn := 36) K rfl 2 rfl dX9_says_35 ?_
  refine g_iald (pn := 37) K rfl lm_7 dX9_says_36 h (fun h => ?_)
  refine g_puti (pn := 40) K rfl fp_X9_192 lm_0 rfl dX9_says_37 h (fun M4 h => ?_)
  refine g_aload_n (pn := 41) K rfl 0 rfl dX9_says_40 ?_
  refine g_iload_n (pn := 42) K rfl 3 rfl dX9_says_41 ?_
  refine g_puti (pn := 45) K rfl fp_X9_195 lm_0 rfl dX9_says_42 h (fun M5 h => ?_)
  refine g_aload_n (pn := 46) K rfl 0 rfl dX9_says_45 ?_
  refine g_aload_n (pn := 47) K rfl 0 rfl dX9_says_46 ?_
  refine g_getr (pn := 50) (j := 6) K rfl fl_X9_29 lm_0 rfl dX9_says_47 ?_
  refine g_iload_n (pn := 51) K rfl 2 rfl dX9_says_50 ?_
  refine g_iald (pn := 52) K rfl lm_6 dX9_says_51 h (fun h => ?_)
  refine g_puti (pn := 55) K rfl fp_X9_198 lm_0 rfl dX9_says_52 h (fun M6 h => ?_)
  refine g_aload_n (pn := 56) K rfl 0 rfl dX9_says_55 ?_
  refine g_aload_n (pn := 57) K rfl 0 rfl dX9_says_56 ?_
  refine g_geti (pn := 60) K rfl fl_X9_242 lm_0 rfl dX9_says_57 ?_
  refine g_iload_n (pn := 61) K rfl 1 rfl dX9_says_60 ?_
  obtain ⟨M8, v9, hc7, h⟩ := ob2_e h
  refine g_callV1 (pn := 64) (As := [.int (M6 0 4), .int a1]) (rest := []) (a := 0) K rfl (d' := 168) (Nat.le_of_ble_eq_true rfl) mv_X9_238 (recvO K lm_0 rfl) (w_m_read hc7) rfl rfl (Nat.le_of_ble_eq_true rfl) dX9_says_61 ?_
  refine g_iload (pn := 66) K rfl 4 rfl dX9_says_64 ?_
  refine g_iload (pn := 68) K rfl 5 rfl dX9_says_66 ?_
  obtain ⟨v11, hc10, h⟩ := ob_e h
  refine g_callS1 (pn := 71) (As := [.int v9, .int a4, .int a5]) (rest := []) K rfl (d' := 0) (Nat.le_of_ble_eq_true rfl) ms_X9_245 (w_m_within hc10) rfl rfl (Nat.le_of_ble_eq_true rfl) dX9_says_68 ?_
  exact g_iret K dX9_says_71 (oi2 h).2 (oi2 h).1
set_option maxHeartbeats 4000000 in
set_option maxRecDepth 20000 in
theorem w_m_ripensOf {X : XT} {M : Mem} {a1 : Int32} {M' : Mem} {r : Int32}   (h : m_ripensOf M a1 = some (M', r)) : CT layM X 170 yX9_ripensOf cX9_ripensOf 6 (some .int) [.ref (X.2.2.2.1 0), .int a1] M M' (some (.int r)) := by
  refine CT.of rfl (Nat.le_of_ble_eq_true rfl) (lv := [(0, .ref (X.2.2.2.1 0)), (1, .int a1)]) rfl (fun Γ K => ?_)
  have K : Kx layM X Γ RX9 cX9_ripensOf 6 170 (some .int) := K
  unfold m_ripensOf at h
  refine g_aload_n (pn := 1) K rfl 0 rfl dX9_ripensOf_0 ?_
  refine g_getr (pn := 4) (j := 5) K rfl fl_X9_26 lm_0 rfl dX9_ripensOf_1 ?_
  refine g_iload_n (pn := 5) K rfl 1 rfl dX9_ripensOf_4 ?_
  refine g_iald (pn := 6) K rfl lm_5 dX9_ripensOf_5 h (fun h => ?_)
  refine g_nmi h (fun v1 h => ?_)
  refine g_istore_n (pn := 7) (lv' := [(2, .int v1), (0, .ref (X.2.2.2.1 0)), (1, .int a1)]) K rfl dX9_ripensOf_6 rfl (Nat.le_of_ble_eq_true rfl) rfl ?_
  refine g_aload_n (pn := 8) K rfl 1 rfl dX9_ripensOf_7 ?_
  refine g_getr (pn := 11) (j := 6) K rfl fl_X9_29 lm_0 rfl dX9_ripensOf_8 ?_
  refine g_iload_n (pn := 12) K rfl 2 rfl dX9_ripensOf_11 ?_
  refine g_iald (pn := 13) K rfl lm_6 dX9_ripensOf_12 h (fun h => ?_)
  refine g_nmi h (fun v2 h => ?_)
  refine g_istore_n (pn := 14) (lv' := [(3, .int v2), (2, .int v1), (0, .ref (X.2.2.2.1 0)), (1, .int a1)]) K rfl dX9_ripensOf_13 rfl (Nat.le_of_ble_eq_true rfl) rfl ?_
  refine g_aload_n (pn := 15) K rfl 2 rfl dX9_ripensOf_14 ?_
  refine g_iconst (pn := 16) (v := 0) K rfl ic_0 dX9_ripensOf_15 ?_
  refine g_iload_n (pn := 17) K rfl 3 rfl dX9_ripensOf_16 ?_
  refine g_iconst (pn := 18) (v := 0) K rfl ic_0 dX9_ripensOf_17 ?_
  refine g_iconst (pn := 19) (v := 1) K rfl ic_1 dX9_ripensOf_18 ?_
  refine g_sipush (pn := 22) (v := 240) K rfl sp_240 dX9_ripensOf_19 ?_
  obtain ⟨M4, v5, hc3, h⟩ := ob2_e h
  refine g_callV1 (pn := 25) (As := [.int 0, .int a1, .int 0, .int 1, .int 240]) (rest := []) (a := 0) K rfl (d' := 169) (Nat.le_of_ble_eq_true rfl) mv_X9_249 (recvO K lm_0 rfl) (w_m_says hc3) rfl rfl (Nat.le_of_ble_eq_true rfl) dX9_ripensOf_22 ?_
  refine g_istore (pn := 27) (lv' := [(4, .int v5), (3, .int v2), (2, .int v1), (0, .ref (X.2.2.2.1 0)), (1, .int a1)]) K rfl dX9_ripensOf_25 (Nat.le_of_ble_eq_true rfl) rfl ?_
  refine g_iload_n (pn := 28) K rfl 2 rfl dX9_ripensOf_27 ?_
  refine g_iconst (pn := 29) (v := 1) K rfl ic_1 dX9_ripensOf_28 ?_
  refine jp_e1 h (fun v6 => G layM X Γ 6 (QM layM X Γ (some (.int r)) M') 119 [(4, .int v6)] [] M4) (fun v6 h => ?_) (fun j7 hj7 h => ?_)
  · refine g_iload (pn := 121) K rfl 0 rfl dX9_ripensOf_119 ?_
    refine g_iconst (pn := 122) (v := 1) K rfl ic_1 dX9_ripensOf_121 ?_
    refine g_icmp_ge (tgt := 129) (pn := 125) K rfl (by decide) dX9_ripensOf_122 h (fun h => ?_) (fun h => ?_)
    · refine g_iload (pn := 131) K rfl 0 rfl dX9_ripensOf_129 ?_
      exact g_iret K dX9_ripensOf_131 (oi2 h).2 (oi2 h).1
    · refine g_iconst (pn := 126) (v := 1) K rfl ic_1 dX9_ripensOf_125 ?_
      refine g_goto (tgt := 131) K (by decide) dX9_ripensOf_126 ?_
      exact g_iret K dX9_ripensOf_131 (oi2 h).2 (oi2 h).1
  refine jp_e1 h (fun u8 => G layM X Γ 6 (QM layM X Γ (some (.int r)) M') 37 [(4, .int v5), (3, .int v2), (2, .int v1), (0, .ref (X.2.2.2.1 0)), (1, .int a1)] [] M4) (fun u8 h => ?_) (fun j9 hj9 h => ?_)
  · refine g_aload_n (pn := 38) K rfl 3 rfl dX9_ripensOf_37 ?_
    refine g_getr (pn := 41) (j := 8) K rfl fl_X9_35 lm_0 rfl dX9_ripensOf_38 ?_
    refine g_iload_n (pn := 42) K rfl 4 rfl dX9_ripensOf_41 ?_
    refine g_iald (pn := 43) K rfl lm_8 dX9_ripensOf_42 h (fun h => ?_)
    refine g_iconst (pn := 44) (v := 1) K rfl ic_1 dX9_ripensOf_43 ?_
    refine jp_e1 h (fun v10 => G layM X Γ 6 (QM layM X Γ (some (.int r)) M') 60 [(2, .int v1)] [.int v10] M4) (fun v10 h => ?_) (fun j11 hj11 h => ?_)
    · refine g_istore (pn := 62) (lv' := [(5, .int v10), (2, .int v1)]) K rfl dX9_ripensOf_60 (Nat.le_of_ble_eq_true rfl) rfl ?_
      refine g_iload_n (pn := 63) K rfl 1 rfl dX9_ripensOf_62 ?_
      refine g_iconst (pn := 64) (v := 3) K rfl ic_3 dX9_ripensOf_63 ?_
      refine jp_e1 h (fun v12 => G layM X Γ 6 (QM layM X Γ (some (.int r)) M') 76 [] [.int v12] M4) (fun v12 h => ?_) (fun j13 hj13 h => ?_)
      · refine g_istore (pn := 78) (lv' := [(4, .int v12)]) K rfl dX9_ripensOf_76 (Nat.le_of_ble_eq_true rfl) rfl ?_
        refine g_goto (tgt := 119) K (by decide) dX9_ripensOf_78 ?_
        exact hj7 _ h
      refine g_icmp_ne (tgt := 74) (pn := 67) K rfl (by decide) dX9_ripensOf_64 h (fun h => ?_) (fun h => ?_)
      · refine g_iload (pn := 76) K rfl 0 rfl dX9_ripensOf_74 ?_
        refine g_sub [] rfl ?_
        exact hj13 _ h
      · refine g_iload (pn := 69) K rfl 0 rfl dX9_ripensOf_67 ?_
        refine g_iconst (pn := 70) (v := 2) K rfl ic_2 dX9_ripensOf_69 ?_
        refine g_idiv (pn := 71) K rfl (by decide) dX9_ripensOf_70 ?_
        refine g_goto (tgt := 76) K (by decide) dX9_ripensOf_71 ?_
        refine g_sub [] rfl ?_
        exact hj13 _ h
    refine g_icmp_ne (tgt := 54) (pn := 47) K rfl (by decide) dX9_ripensOf_44 h (fun h => ?_) (fun h => ?_)
    · refine g_iload (pn := 56) K rfl 0 rfl dX9_ripensOf_54 ?_
      refine g_iconst (pn := 57) (v := 3) K rfl ic_3 dX9_ripensOf_56 ?_
      refine g_iload_n (pn := 58) K rfl 1 rfl dX9_ripensOf_57 ?_
      refine g_imul (pn := 59) K rfl dX9_ripensOf_58 ?_
      refine g_isub (pn := 60) K rfl dX9_ripensOf_59 ?_
      refine g_sub [2] rfl ?_
      exact hj11 _ h
    · refine g_iload (pn := 49) K rfl 0 rfl dX9_ripensOf_47 ?_
      refine g_iload_n (pn := 50) K rfl 1 rfl dX9_ripensOf_49 ?_
      refine g_isub (pn := 51) K rfl dX9_ripensOf_50 ?_
      refine g_goto (tgt := 60) K (by decide) dX9_ripensOf_51 ?_
      refine g_sub [2] rfl ?_
      exact hj11 _ h
  refine g_icmp_eq (tgt := 37) (pn := 32) K rfl (by decide) dX9_ripensOf_29 h (fun h => ?_) (fun h => ?_)
  · exact hj9 _ h
  · refine g_iload_n (pn := 33) K rfl 2 rfl dX9_ripensOf_32 ?_
    refine g_iconst (pn := 34) (v := 3) K rfl ic_3 dX9_ripensOf_33 ?_
    refine g_icmp_ne (tgt := 81) (pn := 37) K rfl (by decide) dX9_ripensOf_34 h (fun h => ?_) (fun h => ?_)
    · refine g_iload_n (pn := 82) K rfl 2 rfl dX9_ripensOf_81 ?_
      refine g_iconst (pn := 83) (v := 2) K rfl ic_2 dX9_ripensOf_82 ?_
      refine jp_e1 h (fun u14 => G layM X Γ 6 (QM layM X Γ (some (.int r)) M') 91 [(4, .int v5), (3, .int v2), (2, .int v1), (0, .ref (X.2.2.2.1 0)), (1, .int a1)] [] M4) (fun u14 h => ?_) (fun j15 hj15 h => ?_)
      · refine g_iload_n (pn := 92) K rfl 2 rfl dX9_ripensOf_91 ?_
        refine g_iconst (pn := 93) (v := 4) K rfl ic_4 dX9_ripensOf_92 ?_
        refine jp_e1 h (fun v16 => G layM X Γ 6 (QM layM X Γ (some (.int r)) M') 117 [] [.int v16] M4) (fun v16 h => ?_) (fun j17 hj17 h => ?_)
        · refine g_istore (pn := 119) (lv' := [(4, .int v16)]) K rfl dX9_ripensOf_117 (Nat.le_of_ble_eq_true rfl) rfl ?_
          exact hj7 _ h
        refine jp_e1 h (fun u18 => G layM X Γ 6 (QM layM X Γ (some (.int r)) M') 111 [(4, .int v5), (3, .int v2)] [] M4) (fun u18 h => ?_) (fun j19 hj19 h => ?_)
        · refine g_iload (pn := 113) K rfl 0 rfl dX9_ripensOf_111 ?_
          refine g_iconst (pn := 114) (v := 2) K rfl ic_2 dX9_ripensOf_113 ?_
          refine g_iload_n (pn := 115) K rfl 1 rfl dX9_ripensOf_114 ?_
          refine g_imul (pn := 116) K rfl dX9_ripensOf_115 ?_
          refine g_iadd (pn := 117) K rfl dX9_ripensOf_116 ?_
          refine g_sub [] rfl ?_
          exact hj17 _ h
        refine g_icmp_ne (tgt := 111) (pn := 96) K rfl (by decide) dX9_ripensOf_93 h (fun h => ?_) (fun h => ?_)
        · refine g_sub [0, 1] rfl ?_
          exact hj19 _ h
        · refine g_aload_n (pn := 97) K rfl 3 rfl dX9_ripensOf_96 ?_
          refine g_getr (pn := 100) (j := 8) K rfl fl_X9_35 lm_0 rfl dX9_ripensOf_97 ?_
          refine g_iload_n (pn := 101) K rfl 4 rfl dX9_ripensOf_100 ?_
          refine g_iald (pn := 102) K rfl lm_8 dX9_ripensOf_101 h (fun h => ?_)
          refine g_iconst (pn := 103) (v := 1) K rfl ic_1 dX9_ripensOf_102 ?_
          refine g_icmp_ne (tgt := 111) (pn := 106) K rfl (by decide) dX9_ripensOf_103 h (fun h => ?_) (fun h => ?_)
          · refine g_sub [0, 1] rfl ?_
            exact hj19 _ h
          · refine g_iload (pn := 108) K rfl 0 rfl dX9_ripensOf_106 ?_
            refine g_goto (tgt := 117) K (by decide) dX9_ripensOf_108 ?_
            refine g_sub [] rfl ?_
            exact hj17 _ h
      refine g_icmp_eq (tgt := 91) (pn := 86) K rfl (by decide) dX9_ripensOf_83 h (fun h => ?_) (fun h => ?_)
      · exact hj15 _ h
      · refine g_iload_n (pn := 87) K rfl 2 rfl dX9_ripensOf_86 ?_
        refine g_iconst (pn := 88) (v := 4) K rfl ic_4 dX9_ripensOf_87 ?_
        refine g_icmp_ne (tgt := 119) (pn := 91) K rfl (by decide) dX9_ripensOf_88 h (fun h => ?_) (fun h => ?_)
        · refine g_sub [0] rfl ?_
          exact hj7 _ h
        · exact hj15 _ h
    · exact hj9 _ h
set_option maxHeartbeats 4000000 in
set_option maxRecDepth 20000 in
theorem w_m_takesOf {X : XT} {M : Mem} {a1 : Int32} {M' : Mem} {r : Int32}   (h : m_takesOf M a1 = some (M', r)) : CT layM X 170 yX9_takesOf cX9_takesOf 5 (some .int) [.ref (X.2.2.2.1 0), .int a1] M M' (some (.int r)) := by
  refine CT.of rfl (Nat.le_of_ble_eq_true rfl) (lv := [(0, .ref (X.2.2.2.1 0)), (1, .int a1)]) rfl (fun Γ K => ?_)
  have K : Kx layM X Γ RX9 cX9_takesOf 5 170 (some .int) := K
  unfold m_takesOf at h
  refine g_aload_n (pn := 1) K rfl 0 rfl dX9_takesOf_0 ?_
  refine g_getr (pn := 4) (j := 7) K rfl fl_X9_32 lm_0 rfl dX9_takesOf_1 ?_
  refine g_iload_n (pn := 5) K rfl 1 rfl dX9_takesOf_4 ?_
  refine g_iald (pn := 6) K rfl lm_7 dX9_takesOf_5 h (fun h => ?_)
  refine g_aload_n (pn := 7) K rfl 0 rfl dX9_takesOf_6 ?_
  refine g_iconst (pn := 8) (v := 1) K rfl ic_1 dX9_takesOf_7 ?_
  refine g_iload_n (pn := 9) K rfl 1 rfl dX9_takesOf_8 ?_
  refine g_iconst (pn := 10) (v := 0) K rfl ic_0 dX9_takesOf_9 ?_
  refine g_iconst (pn := 11) (v := 1) K rfl ic_1 dX9_takesOf_10 ?_
  refine g_bipush (pn := 13) (v := 20) K rfl bp_20 dX9_takesOf_11 ?_
  obtain ⟨M2, v3, hc1, h⟩ := ob2_e h
  refine g_callV1 (pn := 16) (As := [.int 1, .int a1, .int 0, .int 1, .int 20]) (rest := [.int (M 7 a1.toNatClampNeg)]) (a := 0) K rfl (d' := 169) (Nat.le_of_ble_eq_true rfl) mv_X9_249 (recvO K lm_0 rfl) (w_m_says hc1) rfl rfl (Nat.le_of_ble_eq_true rfl) dX9_takesOf_13 ?_
  refine g_imul (pn := 17) K rfl dX9_takesOf_16 ?_
  refine g_nmi h (fun v4 h => ?_)
  refine g_istore_n (pn := 18) (lv' := [(2, .int v4), (0, .ref (X.2.2.2.1 0)), (1, .int a1)]) K rfl dX9_takesOf_17 rfl (Nat.le_of_ble_eq_true rfl) rfl ?_
  refine g_aload_n (pn := 19) K rfl 1 rfl dX9_takesOf_18 ?_
  refine g_getr (pn := 22) (j := 5) K rfl fl_X9_26 lm_0 rfl dX9_takesOf_19 ?_
  refine g_iload_n (pn := 23) K rfl 2 rfl dX9_takesOf_22 ?_
  refine g_iald (pn := 24) K rfl lm_5 dX9_takesOf_23 h (fun h => ?_)
  refine g_nmi h (fun v5 h => ?_)
  refine g_istore_n (pn := 25) (lv' := [(3, .int v5), (2, .int v4), (0, .ref (X.2.2.2.1 0)), (1, .int a1)]) K rfl dX9_takesOf_24 rfl (Nat.le_of_ble_eq_true rfl) rfl ?_
  refine g_iload_n (pn := 26) K rfl 0 rfl dX9_takesOf_25 ?_
  refine g_iconst (pn := 27) (v := 3) K rfl ic_3 dX9_takesOf_26 ?_
  refine jp_e1 h (fun v6 => G layM X Γ 5 (QM layM X Γ (some (.int r)) M') 48 [] [.int v6] M2) (fun v6 h => ?_) (fun j7 hj7 h => ?_)
  · refine g_istore (pn := 50) (lv' := [(4, .int v6)]) K rfl dX9_takesOf_48 (Nat.le_of_ble_eq_true rfl) rfl ?_
    refine g_iload (pn := 52) K rfl 0 rfl dX9_takesOf_50 ?_
    refine g_iconst (pn := 53) (v := 1) K rfl ic_1 dX9_takesOf_52 ?_
    refine g_icmp_ge (tgt := 60) (pn := 56) K rfl (by decide) dX9_takesOf_53 h (fun h => ?_) (fun h => ?_)
    · refine g_iload (pn := 62) K rfl 0 rfl dX9_takesOf_60 ?_
      exact g_iret K dX9_takesOf_62 (oi2 h).2 (oi2 h).1
    · refine g_iconst (pn := 57) (v := 1) K rfl ic_1 dX9_takesOf_56 ?_
      refine g_goto (tgt := 62) K (by decide) dX9_takesOf_57 ?_
      exact g_iret K dX9_takesOf_62 (oi2 h).2 (oi2 h).1
  refine g_icmp_ne (tgt := 36) (pn := 30) K rfl (by decide) dX9_takesOf_27 h (fun h => ?_) (fun h => ?_)
  · refine g_iload_n (pn := 37) K rfl 0 rfl dX9_takesOf_36 ?_
    refine g_iconst (pn := 38) (v := 5) K rfl ic_5 dX9_takesOf_37 ?_
    refine g_icmp_ne (tgt := 47) (pn := 41) K rfl (by decide) dX9_takesOf_38 h (fun h => ?_) (fun h => ?_)
    · refine g_iload_n (pn := 48) K rfl 1 rfl dX9_takesOf_47 ?_
      refine g_sub [] rfl ?_
      exact hj7 _ h
    · refine g_iconst (pn := 42) (v := 2) K rfl ic_2 dX9_takesOf_41 ?_
      refine g_iload_n (pn := 43) K rfl 1 rfl dX9_takesOf_42 ?_
      refine g_imul (pn := 44) K rfl dX9_takesOf_43 ?_
      refine g_goto (tgt := 48) K (by decide) dX9_takesOf_44 ?_
      refine g_sub [] rfl ?_
      exact hj7 _ h
  · refine g_iload_n (pn := 31) K rfl 1 rfl dX9_takesOf_30 ?_
    refine g_iconst (pn := 32) (v := 3) K rfl ic_3 dX9_takesOf_31 ?_
    refine g_iadd (pn := 33) K rfl dX9_takesOf_32 ?_
    refine g_goto (tgt := 48) K (by decide) dX9_takesOf_33 ?_
    refine g_sub [] rfl ?_
    exact hj7 _ h
set_option maxHeartbeats 4000000 in
set_option maxRecDepth 20000 in
theorem w_m_set {X : XT} {M : Mem} {a1 : Int32} {a2 : Int32} {a3 : Int32} {M' : Mem} {r : Int32}   (h : m_set M a1 a2 a3 = some (M', r)) : CT layM X 2 yX9_set cX9_set 6 (some .int) [.ref (X.2.2.2.1 0), .int a1, .int a2, .int a3] M M' (some (.int r)) := by
  refine CT.of rfl (Nat.le_of_ble_eq_true rfl) (lv := [(0, .ref (X.2.2.2.1 0)), (1, .int a1), (2, .int a2), (3, .int a3)]) rfl (fun Γ K => ?_)
  have K : Kx layM X Γ RX9 cX9_set 6 2 (some .int) := K
  unfold m_set at h
  refine g_iload_n (pn := 1) K rfl 1 rfl dX9_set_0 ?_
  refine g_i2l (pn := 2) K rfl dX9_set_1 ?_
  refine g_lconst (pn := 3) (v := 0) K rfl lc_0 dX9_set_2 ?_
  refine g_ldc2 (pn := 6) (v := 8) K rfl cl_X9_98 dX9_set_3 ?_
  obtain ⟨v2, hc1, h⟩ := ob_e h
  refine g_callS1 (pn := 9) (As := [.long a1.toInt64, .long 0, .long 8]) (rest := []) K rfl (d' := 0) (Nat.le_of_ble_eq_true rfl) ms_X9_94 (w_m_in hc1) rfl rfl (Nat.le_of_ble_eq_true rfl) dX9_set_6 ?_
  refine g_ifB_eq (tgt := 25) (pn := 12) K rfl (by decide) dX9_set_9 h (fun h => ?_) (fun h => ?_)
  · refine g_bipush (pn := 27) (v := (-2)) K rfl bp_m2 dX9_set_25 ?_
    exact g_iret K dX9_set_27 (oi2 h).2 (oi2 h).1
  · refine g_iload_n (pn := 13) K rfl 1 rfl dX9_set_12 ?_
    refine g_iconst (pn := 14) (v := 5) K rfl ic_5 dX9_set_13 ?_
    refine jp_e1 h (fun u3 => G layM X Γ 6 (QM layM X Γ (some (.int r)) M') 28 [(0, .ref (X.2.2.2.1 0)), (1, .int a1), (2, .int a2), (3, .int a3)] [] M) (fun u3 h => ?_) (fun j4 hj4 h => ?_)
    · refine g_iload_n (pn := 29) K rfl 1 rfl dX9_set_28 ?_
      refine jp_e1 h (fun v5 => G layM X Γ 6 (QM layM X Γ (some (.int r)) M') 84 [(0, .ref (X.2.2.2.1 0)), (1, .int a1), (2, .int a2), (3, .int a3)] [.int v5] M) (fun v5 h => ?_) (fun j6 hj6 h => ?_)
      · refine g_istore (pn := 86) (lv' := [(4, .int v5), (0, .ref (X.2.2.2.1 0)), (1, .int a1), (2, .int a2), (3, .int a3)]) K rfl dX9_set_84 (Nat.le_of_ble_eq_true rfl) rfl ?_
        refine g_iload_n (pn := 87) K rfl 4 rfl dX9_set_86 ?_
        refine g_i2l (pn := 88) K rfl dX9_set_87 ?_
        refine g_iload_n (pn := 89) K rfl 2 rfl dX9_set_88 ?_
        refine g_iconst (pn := 90) (v := 3) K rfl ic_3 dX9_set_89 ?_
        refine jp_e1 h (fun v7 => G layM X Γ 6 (QM layM X Γ (some (.int r)) M') 104 [(4, .int v5), (0, .ref (X.2.2.2.1 0)), (1, .int a1), (2, .int a2), (3, .int a3)] [.long v7, .long a3.toInt64] M) (fun v7 h => ?_) (fun j8 hj8 h => ?_)
        · refine g_iload (pn := 106) K rfl 0 rfl dX9_set_104 ?_
          refine g_i2l (pn := 107) K rfl dX9_set_106 ?_
          obtain ⟨v10, hc9, h⟩ := ob_e h
          refine g_callS1 (pn := 110) (As := [.long a3.toInt64, .long v7, .long v5.toInt64]) (rest := []) K rfl (d' := 0) (Nat.le_of_ble_eq_true rfl) ms_X9_94 (w_m_in hc9) rfl rfl (Nat.le_of_ble_eq_true rfl) dX9_set_107 ?_
          refine g_ifB_ne (tgt := 116) (pn := 113) K rfl (by decide) dX9_set_110 h (fun h => ?_) (fun h => ?_)
          · refine g_iload_n (pn := 117) K rfl 2 rfl dX9_set_116 ?_
            refine g_bipush (pn := 119) (v := 6) K rfl bp_6 dX9_set_117 ?_
            refine jp_e1 h (fun v11 => G layM X Γ 6 (QM layM X Γ (some (.int r)) M') 167 [(0, .ref (X.2.2.2.1 0)), (1, .int a1), (2, .int a2), (3, .int a3)] [.int v11] M) (fun v11 h => ?_) (fun j12 hj12 h => ?_)
            · refine g_istore (pn := 169) (lv' := [(5, .int v11), (0, .ref (X.2.2.2.1 0)), (1, .int a1), (2, .int a2), (3, .int a3)]) K rfl dX9_set_167 (Nat.le_of_ble_eq_true rfl) rfl ?_
              refine g_iload_n (pn := 170) K rfl 2 rfl dX9_set_169 ?_
              refine g_bipush (pn := 172) (v := 6) K rfl bp_6 dX9_set_170 ?_
              refine g_icmp_ge (tgt := 185) (pn := 175) K rfl (by decide) dX9_set_172 h (fun h => ?_) (fun h => ?_)
              · refine g_iload_n (pn := 186) K rfl 2 rfl dX9_set_185 ?_
                refine g_bipush (pn := 188) (v := 6) K rfl bp_6 dX9_set_186 ?_
                refine g_icmp_ne (tgt := 201) (pn := 191) K rfl (by decide) dX9_set_188 h (fun h => ?_) (fun h => ?_)
                · refine g_iload_n (pn := 202) K rfl 2 rfl dX9_set_201 ?_
                  refine g_bipush (pn := 204) (v := 7) K rfl bp_7 dX9_set_202 ?_
                  refine g_icmp_ne (tgt := 217) (pn := 207) K rfl (by decide) dX9_set_204 h (fun h => ?_) (fun h => ?_)
                  · refine g_aload_n (pn := 218) K rfl 1 rfl dX9_set_217 ?_
                    refine g_getr (pn := 221) (j := 8) K rfl fl_X9_35 lm_0 rfl dX9_set_218 ?_
                    refine g_iload_n (pn := 222) K rfl 3 rfl dX9_set_221 ?_
                    refine g_iload_n (pn := 223) K rfl 4 rfl dX9_set_222 ?_
                    refine g_iast (pn := 224) K rfl lm_8 dX9_set_223 h (fun M13 h => ?_)
                    refine g_iload (pn := 226) K rfl 0 rfl dX9_set_224 ?_
                    exact g_iret K dX9_set_226 (oi2 h).2 (oi2 h).1
                  · refine g_aload_n (pn := 208) K rfl 1 rfl dX9_set_207 ?_
                    refine g_getr (pn := 211) (j := 7) K rfl fl_X9_32 lm_0 rfl dX9_set_208 ?_
                    refine g_iload_n (pn := 212) K rfl 3 rfl dX9_set_211 ?_
                    refine g_iload_n (pn := 213) K rfl 4 rfl dX9_set_212 ?_
                    refine g_iast (pn := 214) K rfl lm_7 dX9_set_213 h (fun M14 h => ?_)
                    refine g_goto (tgt := 224) K (by decide) dX9_set_214 ?_
                    refine g_iload (pn := 226) K rfl 0 rfl dX9_set_224 ?_
                    exact g_iret K dX9_set_226 (oi2 h).2 (oi2 h).1
                · refine g_aload_n (pn := 192) K rfl 1 rfl dX9_set_191 ?_
                  refine g_getr (pn := 195) (j := 6) K rfl fl_X9_29 lm_0 rfl dX9_set_192 ?_
                  refine g_iload_n (pn := 196) K rfl 3 rfl dX9_set_195 ?_
                  refine g_iload_n (pn := 197) K rfl 4 rfl dX9_set_196 ?_
                  refine g_iast (pn := 198) K rfl lm_6 dX9_set_197 h (fun M15 h => ?_)
                  refine g_goto (tgt := 224) K (by decide) dX9_set_198 ?_
                  refine g_iload (pn := 226) K rfl 0 rfl dX9_set_224 ?_
                  exact g_iret K dX9_set_226 (oi2 h).2 (oi2 h).1
              · refine g_aload_n (pn := 176) K rfl 1 rfl dX9_set_175 ?_
                refine g_getr (pn := 179) (j := 4) K rfl fl_X9_23 lm_0 rfl dX9_set_176 ?_
                refine g_iload_n (pn := 180) K rfl 2 rfl dX9_set_179 ?_
                refine g_iload_n (pn := 181) K rfl 4 rfl dX9_set_180 ?_
                refine g_iast (pn := 182) K rfl lm_4 dX9_set_181 h (fun M16 h => ?_)
                refine g_goto (tgt := 224) K (by decide) dX9_set_182 ?_
                refine g_iload (pn := 226) K rfl 0 rfl dX9_set_224 ?_
                exact g_iret K dX9_set_226 (oi2 h).2 (oi2 h).1
            refine g_icmp_ge (tgt := 131) (pn := 122) K rfl (by decide) dX9_set_119 h (fun h => ?_) (fun h => ?_)
            · refine g_iload_n (pn := 132) K rfl 2 rfl dX9_set_131 ?_
              refine g_bipush (pn := 134) (v := 6) K rfl bp_6 dX9_set_132 ?_
              refine g_icmp_ne (tgt := 146) (pn := 137) K rfl (by decide) dX9_set_134 h (fun h => ?_) (fun h => ?_)
              · refine g_iload_n (pn := 147) K rfl 2 rfl dX9_set_146 ?_
                refine g_bipush (pn := 149) (v := 7) K rfl bp_7 dX9_set_147 ?_
                refine g_icmp_ne (tgt := 161) (pn := 152) K rfl (by decide) dX9_set_149 h (fun h => ?_) (fun h => ?_)
                · refine g_aload_n (pn := 162) K rfl 1 rfl dX9_set_161 ?_
                  refine g_getr (pn := 165) (j := 8) K rfl fl_X9_35 lm_0 rfl dX9_set_162 ?_
                  refine g_iload_n (pn := 166) K rfl 3 rfl dX9_set_165 ?_
                  refine g_iald (pn := 167) K rfl lm_8 dX9_set_166 h (fun h => ?_)
                  refine g_sub [1, 2, 3, 4] rfl ?_
                  exact hj12 _ h
                · refine g_aload_n (pn := 153) K rfl 1 rfl dX9_set_152 ?_
                  refine g_getr (pn := 156) (j := 7) K rfl fl_X9_32 lm_0 rfl dX9_set_153 ?_
                  refine g_iload_n (pn := 157) K rfl 3 rfl dX9_set_156 ?_
                  refine g_iald (pn := 158) K rfl lm_7 dX9_set_157 h (fun h => ?_)
                  refine g_goto (tgt := 167) K (by decide) dX9_set_158 ?_
                  refine g_sub [1, 2, 3, 4] rfl ?_
                  exact hj12 _ h
              · refine g_aload_n (pn := 138) K rfl 1 rfl dX9_set_137 ?_
                refine g_getr (pn := 141) (j := 6) K rfl fl_X9_29 lm_0 rfl dX9_set_138 ?_
                refine g_iload_n (pn := 142) K rfl 3 rfl dX9_set_141 ?_
                refine g_iald (pn := 143) K rfl lm_6 dX9_set_142 h (fun h => ?_)
                refine g_goto (tgt := 167) K (by decide) dX9_set_143 ?_
                refine g_sub [1, 2, 3, 4] rfl ?_
                exact hj12 _ h
            · refine g_aload_n (pn := 123) K rfl 1 rfl dX9_set_122 ?_
              refine g_getr (pn := 126) (j := 4) K rfl fl_X9_23 lm_0 rfl dX9_set_123 ?_
              refine g_iload_n (pn := 127) K rfl 2 rfl dX9_set_126 ?_
              refine g_iald (pn := 128) K rfl lm_4 dX9_set_127 h (fun h => ?_)
              refine g_goto (tgt := 167) K (by decide) dX9_set_128 ?_
              refine g_sub [1, 2, 3, 4] rfl ?_
              exact hj12 _ h
          · refine g_bipush (pn := 115) (v := (-2)) K rfl bp_m2 dX9_set_113 ?_
            exact g_iret K dX9_set_115 (oi2 h).2 (oi2 h).1
        refine jp_e1 h (fun u17 => G layM X Γ 6 (QM layM X Γ (some (.int r)) M') 99 [(4, .int v5), (0, .ref (X.2.2.2.1 0)), (1, .int a1), (2, .int a2), (3, .int a3)] [.long a3.toInt64] M) (fun u17 h => ?_) (fun j18 hj18 h => ?_)
        · refine g_lconst (pn := 100) (v := 1) K rfl lc_1 dX9_set_99 ?_
          refine g_goto (tgt := 104) K (by decide) dX9_set_100 ?_
          exact hj8 _ h
        refine g_icmp_eq (tgt := 99) (pn := 93) K rfl (by decide) dX9_set_90 h (fun h => ?_) (fun h => ?_)
        · exact hj18 _ h
        · refine g_iload_n (pn := 94) K rfl 2 rfl dX9_set_93 ?_
          refine g_bipush (pn := 96) (v := 7) K rfl bp_7 dX9_set_94 ?_
          refine g_icmp_ne (tgt := 103) (pn := 99) K rfl (by decide) dX9_set_96 h (fun h => ?_) (fun h => ?_)
          · refine g_lconst (pn := 104) (v := 0) K rfl lc_0 dX9_set_103 ?_
            exact hj8 _ h
          · exact hj18 _ h
      refine g_if_ne (tgt := 37) (pn := 32) K rfl (by decide) dX9_set_29 h (fun h => ?_) (fun h => ?_)
      · refine g_iload_n (pn := 38) K rfl 1 rfl dX9_set_37 ?_
        refine g_iconst (pn := 39) (v := 3) K rfl ic_3 dX9_set_38 ?_
        refine g_icmp_ne (tgt := 46) (pn := 42) K rfl (by decide) dX9_set_39 h (fun h => ?_) (fun h => ?_)
        · refine g_iload_n (pn := 47) K rfl 1 rfl dX9_set_46 ?_
          refine g_iconst (pn := 48) (v := 4) K rfl ic_4 dX9_set_47 ?_
          refine g_icmp_ne (tgt := 56) (pn := 51) K rfl (by decide) dX9_set_48 h (fun h => ?_) (fun h => ?_)
          · refine g_iload_n (pn := 57) K rfl 1 rfl dX9_set_56 ?_
            refine g_iconst (pn := 58) (v := 5) K rfl ic_5 dX9_set_57 ?_
            refine jp_e1 h (fun u19 => G layM X Γ 6 (QM layM X Γ (some (.int r)) M') 67 [(0, .ref (X.2.2.2.1 0)), (1, .int a1), (2, .int a2), (3, .int a3)] [] M) (fun u19 h => ?_) (fun j20 hj20 h => ?_)
            · refine g_bipush (pn := 69) (v := 20) K rfl bp_20 dX9_set_67 ?_
              refine g_goto (tgt := 84) K (by decide) dX9_set_69 ?_
              exact hj6 _ h
            refine g_icmp_eq (tgt := 67) (pn := 61) K rfl (by decide) dX9_set_58 h (fun h => ?_) (fun h => ?_)
            · exact hj20 _ h
            · refine g_iload_n (pn := 62) K rfl 1 rfl dX9_set_61 ?_
              refine g_bipush (pn := 64) (v := 7) K rfl bp_7 dX9_set_62 ?_
              refine g_icmp_ne (tgt := 72) (pn := 67) K rfl (by decide) dX9_set_64 h (fun h => ?_) (fun h => ?_)
              · refine g_iload_n (pn := 73) K rfl 1 rfl dX9_set_72 ?_
                refine g_bipush (pn := 75) (v := 8) K rfl bp_8 dX9_set_73 ?_
                refine g_icmp_ne (tgt := 82) (pn := 78) K rfl (by decide) dX9_set_75 h (fun h => ?_) (fun h => ?_)
                · refine g_bipush (pn := 84) (v := 9) K rfl bp_9 dX9_set_82 ?_
                  exact hj6 _ h
                · refine g_iconst (pn := 79) (v := 1) K rfl ic_1 dX9_set_78 ?_
                  refine g_goto (tgt := 84) K (by decide) dX9_set_79 ?_
                  exact hj6 _ h
              · exact hj20 _ h
          · refine g_bipush (pn := 53) (v := 60) K rfl bp_60 dX9_set_51 ?_
            refine g_goto (tgt := 84) K (by decide) dX9_set_53 ?_
            exact hj6 _ h
        · refine g_iconst (pn := 43) (v := 2) K rfl ic_2 dX9_set_42 ?_
          refine g_goto (tgt := 84) K (by decide) dX9_set_43 ?_
          exact hj6 _ h
      · refine g_bipush (pn := 34) (v := 40) K rfl bp_40 dX9_set_32 ?_
        refine g_goto (tgt := 84) K (by decide) dX9_set_34 ?_
        exact hj6 _ h
    refine g_icmp_le (tgt := 28) (pn := 17) K rfl (by decide) dX9_set_14 h (fun h => ?_) (fun h => ?_)
    · exact hj4 _ h
    · refine g_aload_n (pn := 18) K rfl 0 rfl dX9_set_17 ?_
      refine g_iload_n (pn := 19) K rfl 2 rfl dX9_set_18 ?_
      obtain ⟨v22, hc21, h⟩ := ob_e h
      refine g_callV1 (pn := 22) (As := [.int a2]) (rest := []) (a := 0) K rfl (d' := 1) (Nat.le_of_ble_eq_true rfl) mv_X9_100 (recvO K lm_0 rfl) (w_m_isWall hc21) rfl rfl (Nat.le_of_ble_eq_true rfl) dX9_set_19 ?_
      refine g_ifB_ne (tgt := 28) (pn := 25) K rfl (by decide) dX9_set_22 h (fun h => ?_) (fun h => ?_)
      · exact hj4 _ h
      · refine g_bipush (pn := 27) (v := (-2)) K rfl bp_m2 dX9_set_25 ?_
        exact g_iret K dX9_set_27 (oi2 h).2 (oi2 h).1
set_option maxHeartbeats 4000000 in
set_option maxRecDepth 20000 in
theorem w_m_wall {X : XT} {M : Mem} {a1 : Int32} {a2 : Int32} {a3 : Int32} {M' : Mem} {r : Int32}   (h : m_wall M a1 a2 a3 = some (M', r)) : CT layM X 1 yX9_wall cX9_wall 4 (some .int) [.ref (X.2.2.2.1 0), .int a1, .int a2, .int a3] M M' (some (.int r)) := by
  refine CT.of rfl (Nat.le_of_ble_eq_true rfl) (lv := [(0, .ref (X.2.2.2.1 0)), (1, .int a1), (2, .int a2), (3, .int a3)]) rfl (fun Γ K => ?_)
  have K : Kx layM X Γ RX9 cX9_wall 4 1 (some .int) := K
  unfold m_wall at h
  refine g_iload_n (pn := 1) K rfl 1 rfl dX9_wall_0 ?_
  refine g_i2l (pn := 2) K rfl dX9_wall_1 ?_
  refine g_lconst (pn := 3) (v := 0) K rfl lc_0 dX9_wall_2 ?_
  refine g_ldc2 (pn := 6) (v := 5) K rfl cl_X9_104 dX9_wall_3 ?_
  obtain ⟨v2, hc1, h⟩ := ob_e h
  refine g_callS1 (pn := 9) (As := [.long a1.toInt64, .long 0, .long 5]) (rest := []) K rfl (d' := 0) (Nat.le_of_ble_eq_true rfl) ms_X9_94 (w_m_in hc1) rfl rfl (Nat.le_of_ble_eq_true rfl) dX9_wall_6 ?_
  refine g_ifB_eq (tgt := 36) (pn := 12) K rfl (by decide) dX9_wall_9 h (fun h => ?_) (fun h => ?_)
  · refine g_bipush (pn := 38) (v := (-2)) K rfl bp_m2 dX9_wall_36 ?_
    exact g_iret K dX9_wall_38 (oi2 h).2 (oi2 h).1
  · refine g_iload_n (pn := 13) K rfl 2 rfl dX9_wall_12 ?_
    refine g_i2l (pn := 14) K rfl dX9_wall_13 ?_
    refine g_lconst (pn := 15) (v := 0) K rfl lc_0 dX9_wall_14 ?_
    refine g_ldc2 (pn := 18) (v := 9) K rfl cl_X9_106 dX9_wall_15 ?_
    obtain ⟨v4, hc3, h⟩ := ob_e h
    refine g_callS1 (pn := 21) (As := [.long a2.toInt64, .long 0, .long 9]) (rest := []) K rfl (d' := 0) (Nat.le_of_ble_eq_true rfl) ms_X9_94 (w_m_in hc3) rfl rfl (Nat.le_of_ble_eq_true rfl) dX9_wall_18 ?_
    refine g_ifB_eq (tgt := 36) (pn := 24) K rfl (by decide) dX9_wall_21 h (fun h => ?_) (fun h => ?_)
    · refine g_bipush (pn := 38) (v := (-2)) K rfl bp_m2 dX9_wall_36 ?_
      exact g_iret K dX9_wall_38 (oi2 h).2 (oi2 h).1
    · refine g_iload_n (pn := 25) K rfl 3 rfl dX9_wall_24 ?_
      refine g_i2l (pn := 26) K rfl dX9_wall_25 ?_
      refine g_lconst (pn := 27) (v := 1) K rfl lc_1 dX9_wall_26 ?_
      refine g_ldc2 (pn := 30) (v := 20) K rfl cl_X9_108 dX9_wall_27 ?_
      obtain ⟨v6, hc5, h⟩ := ob_e h
      refine g_callS1 (pn := 33) (As := [.long a3.toInt64, .long 1, .long 20]) (rest := []) K rfl (d' := 0) (Nat.le_of_ble_eq_true rfl) ms_X9_94 (w_m_in hc5) rfl rfl (Nat.le_of_ble_eq_true rfl) dX9_wall_30 ?_
      refine g_ifB_ne (tgt := 39) (pn := 36) K rfl (by decide) dX9_wall_33 h (fun h => ?_) (fun h => ?_)
      · refine g_aload_n (pn := 40) K rfl 0 rfl dX9_wall_39 ?_
        refine g_geti (pn := 43) K rfl fl_X9_91 lm_0 rfl dX9_wall_40 ?_
        refine g_bipush (pn := 45) (v := 6) K rfl bp_6 dX9_wall_43 ?_
        refine g_icmp_ne (tgt := 51) (pn := 48) K rfl (by decide) dX9_wall_45 h (fun h => ?_) (fun h => ?_)
        · refine g_aload_n (pn := 52) K rfl 0 rfl dX9_wall_51 ?_
          refine g_getr (pn := 55) (j := 5) K rfl fl_X9_26 lm_0 rfl dX9_wall_52 ?_
          refine g_aload_n (pn := 56) K rfl 0 rfl dX9_wall_55 ?_
          refine g_geti (pn := 59) K rfl fl_X9_91 lm_0 rfl dX9_wall_56 ?_
          refine g_iload_n (pn := 60) K rfl 1 rfl dX9_wall_59 ?_
          refine g_iast (pn := 61) K rfl lm_5 dX9_wall_60 h (fun M7 h => ?_)
          refine g_aload_n (pn := 62) K rfl 0 rfl dX9_wall_61 ?_
          refine g_getr (pn := 65) (j := 6) K rfl fl_X9_29 lm_0 rfl dX9_wall_62 ?_
          refine g_aload_n (pn := 66) K rfl 0 rfl dX9_wall_65 ?_
          refine g_geti (pn := 69) K rfl fl_X9_91 lm_0 rfl dX9_wall_66 ?_
          refine g_iload_n (pn := 70) K rfl 2 rfl dX9_wall_69 ?_
          refine g_iast (pn := 71) K rfl lm_6 dX9_wall_70 h (fun M8 h => ?_)
          refine g_aload_n (pn := 72) K rfl 0 rfl dX9_wall_71 ?_
          refine g_getr (pn := 75) (j := 7) K rfl fl_X9_32 lm_0 rfl dX9_wall_72 ?_
          refine g_aload_n (pn := 76) K rfl 0 rfl dX9_wall_75 ?_
          refine g_geti (pn := 79) K rfl fl_X9_91 lm_0 rfl dX9_wall_76 ?_
          refine g_iload_n (pn := 80) K rfl 3 rfl dX9_wall_79 ?_
          refine g_iast (pn := 81) K rfl lm_7 dX9_wall_80 h (fun M9 h => ?_)
          refine g_aload_n (pn := 82) K rfl 0 rfl dX9_wall_81 ?_
          refine g_getr (pn := 85) (j := 8) K rfl fl_X9_35 lm_0 rfl dX9_wall_82 ?_
          refine g_aload_n (pn := 86) K rfl 0 rfl dX9_wall_85 ?_
          refine g_geti (pn := 89) K rfl fl_X9_91 lm_0 rfl dX9_wall_86 ?_
          refine g_iconst (pn := 90) (v := 0) K rfl ic_0 dX9_wall_89 ?_
          refine g_iast (pn := 91) K rfl lm_8 dX9_wall_90 h (fun M10 h => ?_)
          refine g_aload_n (pn := 92) K rfl 0 rfl dX9_wall_91 ?_
          refine g_dup (pn := 93) K rfl rfl dX9_wall_92 ?_
          refine g_geti (pn := 96) K rfl fl_X9_91 lm_0 rfl dX9_wall_93 ?_
          refine g_iconst (pn := 97) (v := 1) K rfl ic_1 dX9_wall_96 ?_
          refine g_iadd (pn := 98) K rfl dX9_wall_97 ?_
          refine g_puti (pn := 101) K rfl fp_X9_91 lm_0 rfl dX9_wall_98 h (fun M11 h => ?_)
          refine g_aload_n (pn := 102) K rfl 0 rfl dX9_wall_101 ?_
          refine g_geti (pn := 105) K rfl fl_X9_91 lm_0 rfl dX9_wall_102 ?_
          refine g_iconst (pn := 106) (v := 1) K rfl ic_1 dX9_wall_105 ?_
          refine g_isub (pn := 107) K rfl dX9_wall_106 ?_
          exact g_iret K dX9_wall_107 (oi2 h).2 (oi2 h).1
        · refine g_bipush (pn := 50) (v := (-4)) K rfl bp_m4 dX9_wall_48 ?_
          exact g_iret K dX9_wall_50 (oi2 h).2 (oi2 h).1
      · refine g_bipush (pn := 38) (v := (-2)) K rfl bp_m2 dX9_wall_36 ?_
        exact g_iret K dX9_wall_38 (oi2 h).2 (oi2 h).1
set_option maxHeartbeats 4000000 in
set_option maxRecDepth 20000 in
theorem w_m_told {X : XT} {M : Mem} {a1 : Int32} {a2 : Int32} {M' : Mem} {r : Int32}   (h : m_told M a1 a2 = some (M', r)) : CT layM X 171 yX9_told cX9_told 3 (some .int) [.ref (X.2.2.2.1 0), .int a1, .int a2] M M' (some (.int r)) := by
  refine CT.of rfl (Nat.le_of_ble_eq_true rfl) (lv := [(0, .ref (X.2.2.2.1 0)), (1, .int a1), (2, .int a2)]) rfl (fun Γ K => ?_)
  have K : Kx layM X Γ RX9 cX9_told 3 171 (some .int) := K
  unfold m_told at h
  refine g_aload_n (pn := 1) K rfl 0 rfl dX9_told_0 ?_
  refine g_iload_n (pn := 2) K rfl 1 rfl dX9_told_1 ?_
  obtain ⟨v2, hc1, h⟩ := ob_e h
  refine g_callV1 (pn := 5) (As := [.int a1]) (rest := []) (a := 0) K rfl (d' := 1) (Nat.le_of_ble_eq_true rfl) mv_X9_100 (recvO K lm_0 rfl) (w_m_isWall hc1) rfl rfl (Nat.le_of_ble_eq_true rfl) dX9_told_2 ?_
  refine g_ifB_eq (tgt := 20) (pn := 8) K rfl (by decide) dX9_told_5 h (fun h => ?_) (fun h => ?_)
  · refine g_bipush (pn := 22) (v := (-2)) K rfl bp_m2 dX9_told_20 ?_
    exact g_iret K dX9_told_22 (oi2 h).2 (oi2 h).1
  · refine g_iload_n (pn := 9) K rfl 2 rfl dX9_told_8 ?_
    refine g_i2l (pn := 10) K rfl dX9_told_9 ?_
    refine g_lconst (pn := 11) (v := 0) K rfl lc_0 dX9_told_10 ?_
    refine g_ldc2 (pn := 14) (v := 6) K rfl cl_X9_110 dX9_told_11 ?_
    obtain ⟨v4, hc3, h⟩ := ob_e h
    refine g_callS1 (pn := 17) (As := [.long a2.toInt64, .long 0, .long 6]) (rest := []) K rfl (d' := 0) (Nat.le_of_ble_eq_true rfl) ms_X9_94 (w_m_in hc3) rfl rfl (Nat.le_of_ble_eq_true rfl) dX9_told_14 ?_
    refine g_ifB_ne (tgt := 23) (pn := 20) K rfl (by decide) dX9_told_17 h (fun h => ?_) (fun h => ?_)
    · refine g_iload_n (pn := 24) K rfl 2 rfl dX9_told_23 ?_
      refine g_iconst (pn := 25) (v := 4) K rfl ic_4 dX9_told_24 ?_
      refine g_icmp_ge (tgt := 76) (pn := 28) K rfl (by decide) dX9_told_25 h (fun h => ?_) (fun h => ?_)
      · refine g_iload_n (pn := 77) K rfl 2 rfl dX9_told_76 ?_
        refine g_iconst (pn := 78) (v := 4) K rfl ic_4 dX9_told_77 ?_
        refine g_icmp_ne (tgt := 89) (pn := 81) K rfl (by decide) dX9_told_78 h (fun h => ?_) (fun h => ?_)
        · refine g_iload_n (pn := 90) K rfl 2 rfl dX9_told_89 ?_
          refine g_iconst (pn := 91) (v := 5) K rfl ic_5 dX9_told_90 ?_
          refine g_icmp_ne (tgt := 102) (pn := 94) K rfl (by decide) dX9_told_91 h (fun h => ?_) (fun h => ?_)
          · refine g_aload_n (pn := 103) K rfl 0 rfl dX9_told_102 ?_
            refine g_iload_n (pn := 104) K rfl 1 rfl dX9_told_103 ?_
            obtain ⟨M6, v7, hc5, h⟩ := ob2_e h
            refine g_callV1 (pn := 107) (As := [.int a1]) (rest := []) (a := 0) K rfl (d' := 170) (Nat.le_of_ble_eq_true rfl) mv_X9_119 (recvO K lm_0 rfl) (w_m_takesOf hc5) rfl rfl (Nat.le_of_ble_eq_true rfl) dX9_told_104 ?_
            exact g_iret K dX9_told_107 (oi2 h).2 (oi2 h).1
          · refine g_aload_n (pn := 95) K rfl 0 rfl dX9_told_94 ?_
            refine g_iload_n (pn := 96) K rfl 1 rfl dX9_told_95 ?_
            obtain ⟨v9, hc8, h⟩ := ob_e h
            refine g_callV1 (pn := 99) (As := [.int a1]) (rest := []) (a := 0) K rfl (d' := 0) (Nat.le_of_ble_eq_true rfl) mv_X9_116 (recvO K lm_0 rfl) (w_m_lastsOf hc8) rfl rfl (Nat.le_of_ble_eq_true rfl) dX9_told_96 ?_
            refine g_goto (tgt := 107) K (by decide) dX9_told_99 ?_
            exact g_iret K dX9_told_107 (oi2 h).2 (oi2 h).1
        · refine g_aload_n (pn := 82) K rfl 0 rfl dX9_told_81 ?_
          refine g_iload_n (pn := 83) K rfl 1 rfl dX9_told_82 ?_
          obtain ⟨M11, v12, hc10, h⟩ := ob2_e h
          refine g_callV1 (pn := 86) (As := [.int a1]) (rest := []) (a := 0) K rfl (d' := 170) (Nat.le_of_ble_eq_true rfl) mv_X9_112 (recvO K lm_0 rfl) (w_m_ripensOf hc10) rfl rfl (Nat.le_of_ble_eq_true rfl) dX9_told_83 ?_
          refine g_goto (tgt := 107) K (by decide) dX9_told_86 ?_
          exact g_iret K dX9_told_107 (oi2 h).2 (oi2 h).1
      · refine g_iload_n (pn := 29) K rfl 2 rfl dX9_told_28 ?_
        refine g_if_ne (tgt := 41) (pn := 32) K rfl (by decide) dX9_told_29 h (fun h => ?_) (fun h => ?_)
        · refine g_iload_n (pn := 42) K rfl 2 rfl dX9_told_41 ?_
          refine g_iconst (pn := 43) (v := 1) K rfl ic_1 dX9_told_42 ?_
          refine g_icmp_ne (tgt := 55) (pn := 46) K rfl (by decide) dX9_told_43 h (fun h => ?_) (fun h => ?_)
          · refine g_iload_n (pn := 56) K rfl 2 rfl dX9_told_55 ?_
            refine g_iconst (pn := 57) (v := 2) K rfl ic_2 dX9_told_56 ?_
            refine g_icmp_ne (tgt := 69) (pn := 60) K rfl (by decide) dX9_told_57 h (fun h => ?_) (fun h => ?_)
            · refine g_aload_n (pn := 70) K rfl 0 rfl dX9_told_69 ?_
              refine g_getr (pn := 73) (j := 8) K rfl fl_X9_35 lm_0 rfl dX9_told_70 ?_
              refine g_iload_n (pn := 74) K rfl 1 rfl dX9_told_73 ?_
              refine g_iald (pn := 75) K rfl lm_8 dX9_told_74 h (fun h => ?_)
              exact g_iret K dX9_told_75 (oi2 h).2 (oi2 h).1
            · refine g_aload_n (pn := 61) K rfl 0 rfl dX9_told_60 ?_
              refine g_getr (pn := 64) (j := 7) K rfl fl_X9_32 lm_0 rfl dX9_told_61 ?_
              refine g_iload_n (pn := 65) K rfl 1 rfl dX9_told_64 ?_
              refine g_iald (pn := 66) K rfl lm_7 dX9_told_65 h (fun h => ?_)
              refine g_goto (tgt := 75) K (by decide) dX9_told_66 ?_
              exact g_iret K dX9_told_75 (oi2 h).2 (oi2 h).1
          · refine g_aload_n (pn := 47) K rfl 0 rfl dX9_told_46 ?_
            refine g_getr (pn := 50) (j := 6) K rfl fl_X9_29 lm_0 rfl dX9_told_47 ?_
            refine g_iload_n (pn := 51) K rfl 1 rfl dX9_told_50 ?_
            refine g_iald (pn := 52) K rfl lm_6 dX9_told_51 h (fun h => ?_)
            refine g_goto (tgt := 75) K (by decide) dX9_told_52 ?_
            exact g_iret K dX9_told_75 (oi2 h).2 (oi2 h).1
        · refine g_aload_n (pn := 33) K rfl 0 rfl dX9_told_32 ?_
          refine g_getr (pn := 36) (j := 5) K rfl fl_X9_26 lm_0 rfl dX9_told_33 ?_
          refine g_iload_n (pn := 37) K rfl 1 rfl dX9_told_36 ?_
          refine g_iald (pn := 38) K rfl lm_5 dX9_told_37 h (fun h => ?_)
          refine g_goto (tgt := 75) K (by decide) dX9_told_38 ?_
          exact g_iret K dX9_told_75 (oi2 h).2 (oi2 h).1
    · refine g_bipush (pn := 22) (v := (-2)) K rfl bp_m2 dX9_told_20 ?_
      exact g_iret K dX9_told_22 (oi2 h).2 (oi2 h).1
set_option maxHeartbeats 4000000 in
set_option maxRecDepth 20000 in
theorem w_m_feed {X : XT} {M : Mem} {a1 : Int32} {M' : Mem} {r : Int32}   (h : m_feed M a1 = some (M', r)) : CT layM X 1 yX9_feed cX9_feed 2 (some .int) [.ref (X.2.2.2.1 0), .int a1] M M' (some (.int r)) := by
  refine CT.of rfl (Nat.le_of_ble_eq_true rfl) (lv := [(0, .ref (X.2.2.2.1 0)), (1, .int a1)]) rfl (fun Γ K => ?_)
  have K : Kx layM X Γ RX9 cX9_feed 2 1 (some .int) := K
  unfold m_feed at h
  refine g_iload_n (pn := 1) K rfl 1 rfl dX9_feed_0 ?_
  refine g_i2l (pn := 2) K rfl dX9_feed_1 ?_
  refine g_lconst (pn := 3) (v := 0) K rfl lc_0 dX9_feed_2 ?_
  refine g_ldc2 (pn := 6) (v := 255) K rfl cl_X9_122 dX9_feed_3 ?_
  obtain ⟨v2, hc1, h⟩ := ob_e h
  refine g_callS1 (pn := 9) (As := [.long a1.toInt64, .long 0, .long 255]) (rest := []) K rfl (d' := 0) (Nat.le_of_ble_eq_true rfl) ms_X9_94 (w_m_in hc1) rfl rfl (Nat.le_of_ble_eq_true rfl) dX9_feed_6 ?_
  refine g_ifB_ne (tgt := 15) (pn := 12) K rfl (by decide) dX9_feed_9 h (fun h => ?_) (fun h => ?_)
  · refine g_aload_n (pn := 16) K rfl 0 rfl dX9_feed_15 ?_
    refine g_geti (pn := 19) K rfl fl_X9_124 lm_0 rfl dX9_feed_16 ?_
    refine g_sipush (pn := 22) (v := 160) K rfl sp_160 dX9_feed_19 ?_
    refine g_icmp_ne (tgt := 28) (pn := 25) K rfl (by decide) dX9_feed_22 h (fun h => ?_) (fun h => ?_)
    · refine g_aload_n (pn := 29) K rfl 0 rfl dX9_feed_28 ?_
      refine g_getr (pn := 32) (j := 3) K rfl fl_X9_20 lm_0 rfl dX9_feed_29 ?_
      refine g_aload_n (pn := 33) K rfl 0 rfl dX9_feed_32 ?_
      refine g_geti (pn := 36) K rfl fl_X9_124 lm_0 rfl dX9_feed_33 ?_
      refine g_iload_n (pn := 37) K rfl 1 rfl dX9_feed_36 ?_
      refine g_iast (pn := 38) K rfl lm_3 dX9_feed_37 h (fun M3 h => ?_)
      refine g_aload_n (pn := 39) K rfl 0 rfl dX9_feed_38 ?_
      refine g_dup (pn := 40) K rfl rfl dX9_feed_39 ?_
      refine g_geti (pn := 43) K rfl fl_X9_124 lm_0 rfl dX9_feed_40 ?_
      refine g_iconst (pn := 44) (v := 1) K rfl ic_1 dX9_feed_43 ?_
      refine g_iadd (pn := 45) K rfl dX9_feed_44 ?_
      refine g_puti (pn := 48) K rfl fp_X9_124 lm_0 rfl dX9_feed_45 h (fun M4 h => ?_)
      refine g_aload_n (pn := 49) K rfl 0 rfl dX9_feed_48 ?_
      refine g_geti (pn := 52) K rfl fl_X9_124 lm_0 rfl dX9_feed_49 ?_
      exact g_iret K dX9_feed_52 (oi2 h).2 (oi2 h).1
    · refine g_bipush (pn := 27) (v := (-4)) K rfl bp_m4 dX9_feed_25 ?_
      exact g_iret K dX9_feed_27 (oi2 h).2 (oi2 h).1
  · refine g_bipush (pn := 14) (v := (-2)) K rfl bp_m2 dX9_feed_12 ?_
    exact g_iret K dX9_feed_14 (oi2 h).2 (oi2 h).1
set_option maxHeartbeats 4000000 in
set_option maxRecDepth 20000 in
theorem w_m_gathers {X : XT} {M : Mem}  {M' : Mem}   (h : m_gathers M = some M') : CT layM X 171 yX9_gathers cX9_gathers 3 none [.ref (X.2.2.2.1 0)] M M' none := by
  refine CT.of rfl (Nat.le_of_ble_eq_true rfl) (lv := [(0, .ref (X.2.2.2.1 0))]) rfl (fun Γ K => ?_)
  have K : Kx layM X Γ RX9 cX9_gathers 3 171 none := K
  unfold m_gathers at h
  refine g_iconst (pn := 1) (v := 0) K rfl ic_0 dX9_gathers_0 ?_
  refine g_istore_n (pn := 2) (lv' := [(1, .int 0), (0, .ref (X.2.2.2.1 0))]) K rfl dX9_gathers_1 rfl (Nat.le_of_ble_eq_true rfl) rfl ?_
  refine jp_e1 h (fun M1 => G layM X Γ 3 (QM layM X Γ none M') 67 [] [] M1) (fun M1 h => ?_) (fun j2 hj2 h => ?_)
  · exact g_vret K dX9_gathers_67 (oi h)
  have LP2 : ∀ (fu5 : Nat) (v3 : Int32) (M4 : Mem), m_gathers_L2 j2 fu5 v3 M4 = some M' → G layM X Γ 3 (QM layM X Γ none M') 2 [(0, .ref (X.2.2.2.1 0)), (1, .int v3)] [] M4 := by
    intro fu5
    induction fu5 with
    | zero =>
      intro v3 M4 h
      rw [m_gathers_L2] at h
      cases h
    | succ fu5 ih5 =>
      intro v3 M4 h
      rw [m_gathers_L2] at h
      refine g_iload_n (pn := 3) K rfl 1 rfl dX9_gathers_2 ?_
      refine g_aload_n (pn := 4) K rfl 0 rfl dX9_gathers_3 ?_
      refine g_geti (pn := 7) K rfl fl_X9_91 lm_0 rfl dX9_gathers_4 ?_
      refine g_icmp_ge (tgt := 67) (pn := 10) K rfl (by decide) dX9_gathers_7 h (fun h => ?_) (fun h => ?_)
      · refine g_sub [] rfl ?_
        exact hj2 _ h
      · refine g_aload_n (pn := 11) K rfl 0 rfl dX9_gathers_10 ?_
        refine g_getr (pn := 14) (j := 10) K rfl fl_X9_41 lm_0 rfl dX9_gathers_11 ?_
        refine g_iload_n (pn := 15) K rfl 1 rfl dX9_gathers_14 ?_
        refine g_aload_n (pn := 16) K rfl 0 rfl dX9_gathers_15 ?_
        refine g_iload_n (pn := 17) K rfl 1 rfl dX9_gathers_16 ?_
        obtain ⟨M7, v8, hc6, h⟩ := ob2_e h
        refine g_callV1 (pn := 20) (As := [.int v3]) (rest := [.int v3, .ref (X.2.2.2.1 10)]) (a := 0) K rfl (d' := 170) (Nat.le_of_ble_eq_true rfl) mv_X9_112 (recvO K lm_0 rfl) (w_m_ripensOf hc6) rfl rfl (Nat.le_of_ble_eq_true rfl) dX9_gathers_17 ?_
        refine g_iast (pn := 21) K rfl lm_10 dX9_gathers_20 h (fun M9 h => ?_)
        refine g_aload_n (pn := 22) K rfl 0 rfl dX9_gathers_21 ?_
        refine g_getr (pn := 25) (j := 11) K rfl fl_X9_44 lm_0 rfl dX9_gathers_22 ?_
        refine g_iload_n (pn := 26) K rfl 1 rfl dX9_gathers_25 ?_
        refine g_aload_n (pn := 27) K rfl 0 rfl dX9_gathers_26 ?_
        refine g_iload_n (pn := 28) K rfl 1 rfl dX9_gathers_27 ?_
        obtain ⟨v11, hc10, h⟩ := ob_e h
        refine g_callV1 (pn := 31) (As := [.int v3]) (rest := [.int v3, .ref (X.2.2.2.1 11)]) (a := 0) K rfl (d' := 0) (Nat.le_of_ble_eq_true rfl) mv_X9_116 (recvO K lm_0 rfl) (w_m_lastsOf hc10) rfl rfl (Nat.le_of_ble_eq_true rfl) dX9_gathers_28 ?_
        refine g_iast (pn := 32) K rfl lm_11 dX9_gathers_31 h (fun M12 h => ?_)
        refine g_aload_n (pn := 33) K rfl 0 rfl dX9_gathers_32 ?_
        refine g_iload_n (pn := 34) K rfl 1 rfl dX9_gathers_33 ?_
        obtain ⟨M14, v15, hc13, h⟩ := ob2_e h
        refine g_callV1 (pn := 37) (As := [.int v3]) (rest := []) (a := 0) K rfl (d' := 170) (Nat.le_of_ble_eq_true rfl) mv_X9_119 (recvO K lm_0 rfl) (w_m_takesOf hc13) rfl rfl (Nat.le_of_ble_eq_true rfl) dX9_gathers_34 ?_
        refine g_aload_n (pn := 38) K rfl 0 rfl dX9_gathers_37 ?_
        refine g_getr (pn := 41) (j := 4) K rfl fl_X9_23 lm_0 rfl dX9_gathers_38 ?_
        refine g_iconst (pn := 42) (v := 3) K rfl ic_3 dX9_gathers_41 ?_
        refine g_iald (pn := 43) K rfl lm_4 dX9_gathers_42 h (fun h => ?_)
        obtain ⟨hz, h⟩ := nz_e h
        refine g_idiv (pn := 44) K rfl hz dX9_gathers_43 ?_
        refine g_nmi h (fun v16 h => ?_)
        refine g_istore_n (pn := 45) (lv' := [(2, .int v16), (0, .ref (X.2.2.2.1 0)), (1, .int v3)]) K rfl dX9_gathers_44 rfl (Nat.le_of_ble_eq_true rfl) rfl ?_
        refine g_aload_n (pn := 46) K rfl 1 rfl dX9_gathers_45 ?_
        refine g_getr (pn := 49) (j := 12) K rfl fl_X9_47 lm_0 rfl dX9_gathers_46 ?_
        refine g_iload_n (pn := 50) K rfl 2 rfl dX9_gathers_49 ?_
        refine g_iload_n (pn := 51) K rfl 0 rfl dX9_gathers_50 ?_
        refine g_iconst (pn := 52) (v := 1) K rfl ic_1 dX9_gathers_51 ?_
        refine jp_e1 h (fun v17 => G layM X Γ 3 (QM layM X Γ none M') 60 [(0, .ref (X.2.2.2.1 0)), (1, .int v3)] [.int v17, .int v3, .ref (X.2.2.2.1 12)] M14) (fun v17 h => ?_) (fun j18 hj18 h => ?_)
        · refine g_iast (pn := 61) K rfl lm_12 dX9_gathers_60 h (fun M19 h => ?_)
          obtain ⟨v20, ev20, h⟩ := bnd_e h
          refine g_iinc (pn := 64) (v := v20) (lv' := [(1, .int v20), (0, .ref (X.2.2.2.1 0))]) K rfl 1 rfl ii_1 ev20 dX9_gathers_61 (Nat.le_of_ble_eq_true rfl) rfl ?_
          refine g_goto (tgt := 2) K (by decide) dX9_gathers_64 ?_
          refine g_sub [1, 0] rfl ?_
          exact ih5 _ _ h
        refine g_icmp_ge (tgt := 59) (pn := 55) K rfl (by decide) dX9_gathers_52 h (fun h => ?_) (fun h => ?_)
        · refine g_iload_n (pn := 60) K rfl 0 rfl dX9_gathers_59 ?_
          refine g_sub [1, 2] rfl ?_
          exact hj18 _ h
        · refine g_iconst (pn := 56) (v := 1) K rfl ic_1 dX9_gathers_55 ?_
          refine g_goto (tgt := 60) K (by decide) dX9_gathers_56 ?_
          refine g_sub [1, 2] rfl ?_
          exact hj18 _ h
  refine g_sub [1, 0] rfl ?_
  exact LP2 FU _ _ h
set_option maxHeartbeats 4000000 in
set_option maxRecDepth 20000 in
theorem w_m_toTrowel {X : XT} {M : Mem}  {r : Int32}   (h : m_toTrowel M = some r) : CT layM X 0 yX9_toTrowel cX9_toTrowel 5 (some .int) [.ref (X.2.2.2.1 0)] M M (some (.int r)) := by
  refine CT.of rfl (Nat.le_of_ble_eq_true rfl) (lv := [(0, .ref (X.2.2.2.1 0))]) rfl (fun Γ K => ?_)
  have K : Kx layM X Γ RX9 cX9_toTrowel 5 0 (some .int) := K
  unfold m_toTrowel at h
  refine g_iconst (pn := 1) (v := (-1)) K rfl ic_m1 dX9_toTrowel_0 ?_
  refine g_istore_n (pn := 2) (lv' := [(1, .int (-1)), (0, .ref (X.2.2.2.1 0))]) K rfl dX9_toTrowel_1 rfl (Nat.le_of_ble_eq_true rfl) rfl ?_
  refine g_iconst (pn := 3) (v := 0) K rfl ic_0 dX9_toTrowel_2 ?_
  refine g_istore_n (pn := 4) (lv' := [(2, .int 0), (1, .int (-1)), (0, .ref (X.2.2.2.1 0))]) K rfl dX9_toTrowel_3 rfl (Nat.le_of_ble_eq_true rfl) rfl ?_
  refine jp_e1 h (fun v1 => G layM X Γ 5 (QM layM X Γ (some (.int r)) M) 93 [(1, .int v1)] [] M) (fun v1 h => ?_) (fun j2 hj2 h => ?_)
  · refine g_iload_n (pn := 94) K rfl 0 rfl dX9_toTrowel_93 ?_
    exact g_iret K dX9_toTrowel_94 (oi h) rfl
  have LP4 : ∀ (fu5 : Nat) (v3 : Int32) (v4 : Int32), m_toTrowel_L4 M j2 fu5 v3 v4 = some r → G layM X Γ 5 (QM layM X Γ (some (.int r)) M) 4 [(0, .ref (X.2.2.2.1 0)), (1, .int v3), (2, .int v4)] [] M := by
    intro fu5
    induction fu5 with
    | zero =>
      intro v3 v4 h
      rw [m_toTrowel_L4] at h
      cases h
    | succ fu5 ih5 =>
      intro v3 v4 h
      rw [m_toTrowel_L4] at h
      refine g_iload_n (pn := 5) K rfl 2 rfl dX9_toTrowel_4 ?_
      refine g_aload_n (pn := 6) K rfl 0 rfl dX9_toTrowel_5 ?_
      refine g_geti (pn := 9) K rfl fl_X9_253 lm_0 rfl dX9_toTrowel_6 ?_
      refine g_icmp_ge (tgt := 93) (pn := 12) K rfl (by decide) dX9_toTrowel_9 h (fun h => ?_) (fun h => ?_)
      · refine g_sub [1] rfl ?_
        exact hj2 _ h
      · refine g_aload_n (pn := 13) K rfl 0 rfl dX9_toTrowel_12 ?_
        refine g_getr (pn := 16) (j := 9) K rfl fl_X9_38 lm_0 rfl dX9_toTrowel_13 ?_
        refine g_iload_n (pn := 17) K rfl 2 rfl dX9_toTrowel_16 ?_
        refine g_iald (pn := 18) K rfl lm_9 dX9_toTrowel_17 h (fun h => ?_)
        refine g_nmi h (fun v6 h => ?_)
        refine g_istore_n (pn := 19) (lv' := [(3, .int v6), (0, .ref (X.2.2.2.1 0)), (1, .int v3), (2, .int v4)]) K rfl dX9_toTrowel_18 rfl (Nat.le_of_ble_eq_true rfl) rfl ?_
        refine g_aload_n (pn := 20) K rfl 1 rfl dX9_toTrowel_19 ?_
        refine g_getr (pn := 23) (j := 15) K rfl fl_X9_56 lm_0 rfl dX9_toTrowel_20 ?_
        refine g_iload_n (pn := 24) K rfl 0 rfl dX9_toTrowel_23 ?_
        refine g_iald (pn := 25) K rfl lm_15 dX9_toTrowel_24 h (fun h => ?_)
        refine g_iconst (pn := 26) (v := (-1)) K rfl ic_m1 dX9_toTrowel_25 ?_
        refine jp_e1 h (fun v7 => G layM X Γ 5 (QM layM X Γ (some (.int r)) M) 54 [(3, .int v6), (0, .ref (X.2.2.2.1 0)), (1, .int v3), (2, .int v4)] [.int v7] M) (fun v7 h => ?_) (fun j8 hj8 h => ?_)
        · refine g_istore (pn := 56) (lv' := [(4, .int v7), (3, .int v6), (0, .ref (X.2.2.2.1 0)), (1, .int v3), (2, .int v4)]) K rfl dX9_toTrowel_54 (Nat.le_of_ble_eq_true rfl) rfl ?_
          refine g_iload (pn := 58) K rfl 0 rfl dX9_toTrowel_56 ?_
          refine jp_e1 h (fun v9 => G layM X Γ 5 (QM layM X Γ (some (.int r)) M) 86 [(0, .ref (X.2.2.2.1 0)), (2, .int v4)] [.int v9] M) (fun v9 h => ?_) (fun j10 hj10 h => ?_)
          · refine g_istore_n (pn := 87) (lv' := [(1, .int v9), (0, .ref (X.2.2.2.1 0)), (2, .int v4)]) K rfl dX9_toTrowel_86 rfl (Nat.le_of_ble_eq_true rfl) rfl ?_
            obtain ⟨v11, ev11, h⟩ := bnd_e h
            refine g_iinc (pn := 90) (v := v11) (lv' := [(2, .int v11), (1, .int v9), (0, .ref (X.2.2.2.1 0))]) K rfl 2 rfl ii_1 ev11 dX9_toTrowel_87 (Nat.le_of_ble_eq_true rfl) rfl ?_
            refine g_goto (tgt := 4) K (by decide) dX9_toTrowel_90 ?_
            refine g_sub [2, 1, 0] rfl ?_
            exact ih5 _ _ h
          refine jp_e1 h (fun u12 => G layM X Γ 5 (QM layM X Γ (some (.int r)) M) 85 [(0, .ref (X.2.2.2.1 0)), (1, .int v3), (2, .int v4)] [] M) (fun u12 h => ?_) (fun j13 hj13 h => ?_)
          · refine g_iload_n (pn := 86) K rfl 1 rfl dX9_toTrowel_85 ?_
            refine g_sub [0, 2] rfl ?_
            exact hj10 _ h
          refine g_if_eq (tgt := 85) (pn := 61) K rfl (by decide) dX9_toTrowel_58 h (fun h => ?_) (fun h => ?_)
          · refine g_sub [2, 3, 4] rfl ?_
            exact hj13 _ h
          · refine g_iload_n (pn := 62) K rfl 3 rfl dX9_toTrowel_61 ?_
            refine g_iconst (pn := 63) (v := (-1)) K rfl ic_m1 dX9_toTrowel_62 ?_
            refine jp_e1 h (fun u14 => G layM X Γ 5 (QM layM X Γ (some (.int r)) M) 81 [(3, .int v6), (0, .ref (X.2.2.2.1 0)), (2, .int v4)] [] M) (fun u14 h => ?_) (fun j15 hj15 h => ?_)
            · refine g_iload_n (pn := 82) K rfl 0 rfl dX9_toTrowel_81 ?_
              refine g_goto (tgt := 86) K (by decide) dX9_toTrowel_82 ?_
              refine g_sub [1, 2] rfl ?_
              exact hj10 _ h
            refine g_icmp_eq (tgt := 81) (pn := 66) K rfl (by decide) dX9_toTrowel_63 h (fun h => ?_) (fun h => ?_)
            · refine g_sub [1, 2, 4] rfl ?_
              exact hj15 _ h
            · refine g_aload_n (pn := 67) K rfl 2 rfl dX9_toTrowel_66 ?_
              refine g_getr (pn := 70) (j := 14) K rfl fl_X9_53 lm_0 rfl dX9_toTrowel_67 ?_
              refine g_iload_n (pn := 71) K rfl 1 rfl dX9_toTrowel_70 ?_
              refine g_iald (pn := 72) K rfl lm_14 dX9_toTrowel_71 h (fun h => ?_)
              refine g_aload_n (pn := 73) K rfl 2 rfl dX9_toTrowel_72 ?_
              refine g_getr (pn := 76) (j := 14) K rfl fl_X9_53 lm_0 rfl dX9_toTrowel_73 ?_
              refine g_iload_n (pn := 77) K rfl 3 rfl dX9_toTrowel_76 ?_
              refine g_iald (pn := 78) K rfl lm_14 dX9_toTrowel_77 h (fun h => ?_)
              refine g_icmp_ge (tgt := 85) (pn := 81) K rfl (by decide) dX9_toTrowel_78 h (fun h => ?_) (fun h => ?_)
              · refine g_sub [2, 3, 4] rfl ?_
                exact hj13 _ h
              · refine g_sub [1, 2, 4] rfl ?_
                exact hj15 _ h
        refine jp_e1 h (fun u16 => G layM X Γ 5 (QM layM X Γ (some (.int r)) M) 53 [(3, .int v6), (0, .ref (X.2.2.2.1 0)), (1, .int v3), (2, .int v4)] [] M) (fun u16 h => ?_) (fun j17 hj17 h => ?_)
        · refine g_iconst (pn := 54) (v := 0) K rfl ic_0 dX9_toTrowel_53 ?_
          exact hj8 _ h
        refine g_icmp_ne (tgt := 53) (pn := 29) K rfl (by decide) dX9_toTrowel_26 h (fun h => ?_) (fun h => ?_)
        · exact hj17 _ h
        · refine g_aload_n (pn := 30) K rfl 1 rfl dX9_toTrowel_29 ?_
          refine g_geti (pn := 33) K rfl fl_X9_255 lm_0 rfl dX9_toTrowel_30 ?_
          refine g_aload_n (pn := 34) K rfl 1 rfl dX9_toTrowel_33 ?_
          refine g_getr (pn := 37) (j := 14) K rfl fl_X9_53 lm_0 rfl dX9_toTrowel_34 ?_
          refine g_iload_n (pn := 38) K rfl 0 rfl dX9_toTrowel_37 ?_
          refine g_iald (pn := 39) K rfl lm_14 dX9_toTrowel_38 h (fun h => ?_)
          refine g_aload_n (pn := 40) K rfl 1 rfl dX9_toTrowel_39 ?_
          refine g_getr (pn := 43) (j := 4) K rfl fl_X9_23 lm_0 rfl dX9_toTrowel_40 ?_
          refine g_iconst (pn := 44) (v := 5) K rfl ic_5 dX9_toTrowel_43 ?_
          refine g_iald (pn := 45) K rfl lm_4 dX9_toTrowel_44 h (fun h => ?_)
          refine g_isub (pn := 46) K rfl dX9_toTrowel_45 ?_
          refine g_icmp_lt (tgt := 53) (pn := 49) K rfl (by decide) dX9_toTrowel_46 h (fun h => ?_) (fun h => ?_)
          · exact hj17 _ h
          · refine g_iconst (pn := 50) (v := 1) K rfl ic_1 dX9_toTrowel_49 ?_
            refine g_goto (tgt := 54) K (by decide) dX9_toTrowel_50 ?_
            exact hj8 _ h
  refine g_sub [2, 1, 0] rfl ?_
  exact LP4 FU _ _ h
set_option maxHeartbeats 4000000 in
set_option maxRecDepth 20000 in
theorem w_m_trowels {X : XT} {M : Mem} {a1 : Int32} {M' : Mem}   (h : m_trowels M a1 = some M') : CT layM X 170 yX9_trowels cX9_trowels 4 none [.ref (X.2.2.2.1 0), .int a1] M M' none := by
  refine CT.of rfl (Nat.le_of_ble_eq_true rfl) (lv := [(0, .ref (X.2.2.2.1 0)), (1, .int a1)]) rfl (fun Γ K => ?_)
  have K : Kx layM X Γ RX9 cX9_trowels 4 170 none := K
  unfold m_trowels at h
  refine g_aload_n (pn := 1) K rfl 0 rfl dX9_trowels_0 ?_
  refine g_geti (pn := 4) K rfl fl_X9_255 lm_0 rfl dX9_trowels_1 ?_
  refine g_aload_n (pn := 5) K rfl 0 rfl dX9_trowels_4 ?_
  refine g_getr (pn := 8) (j := 14) K rfl fl_X9_53 lm_0 rfl dX9_trowels_5 ?_
  refine g_iload_n (pn := 9) K rfl 1 rfl dX9_trowels_8 ?_
  refine g_iald (pn := 10) K rfl lm_14 dX9_trowels_9 h (fun h => ?_)
  refine g_isub (pn := 11) K rfl dX9_trowels_10 ?_
  refine g_aload_n (pn := 12) K rfl 0 rfl dX9_trowels_11 ?_
  refine g_getr (pn := 15) (j := 11) K rfl fl_X9_44 lm_0 rfl dX9_trowels_12 ?_
  refine g_iload_n (pn := 16) K rfl 1 rfl dX9_trowels_15 ?_
  refine g_iald (pn := 17) K rfl lm_11 dX9_trowels_16 h (fun h => ?_)
  refine g_isub (pn := 18) K rfl dX9_trowels_17 ?_
  refine g_nmi h (fun v1 h => ?_)
  refine g_istore_n (pn := 19) (lv' := [(2, .int v1), (0, .ref (X.2.2.2.1 0)), (1, .int a1)]) K rfl dX9_trowels_18 rfl (Nat.le_of_ble_eq_true rfl) rfl ?_
  refine g_aload_n (pn := 20) K rfl 1 rfl dX9_trowels_19 ?_
  refine g_geti (pn := 23) K rfl fl_X9_255 lm_0 rfl dX9_trowels_20 ?_
  refine g_aload_n (pn := 24) K rfl 1 rfl dX9_trowels_23 ?_
  refine g_getr (pn := 27) (j := 14) K rfl fl_X9_53 lm_0 rfl dX9_trowels_24 ?_
  refine g_iload_n (pn := 28) K rfl 2 rfl dX9_trowels_27 ?_
  refine g_iald (pn := 29) K rfl lm_14 dX9_trowels_28 h (fun h => ?_)
  refine g_isub (pn := 30) K rfl dX9_trowels_29 ?_
  refine g_nmi h (fun v2 h => ?_)
  refine g_istore_n (pn := 31) (lv' := [(3, .int v2), (2, .int v1), (0, .ref (X.2.2.2.1 0)), (1, .int a1)]) K rfl dX9_trowels_30 rfl (Nat.le_of_ble_eq_true rfl) rfl ?_
  refine g_aload_n (pn := 32) K rfl 2 rfl dX9_trowels_31 ?_
  refine g_getr (pn := 35) (j := 15) K rfl fl_X9_56 lm_0 rfl dX9_trowels_32 ?_
  refine g_iload_n (pn := 36) K rfl 3 rfl dX9_trowels_35 ?_
  refine g_aload_n (pn := 37) K rfl 2 rfl dX9_trowels_36 ?_
  refine g_geti (pn := 40) K rfl fl_X9_255 lm_0 rfl dX9_trowels_37 ?_
  refine g_iast (pn := 41) K rfl lm_15 dX9_trowels_40 h (fun M3 h => ?_)
  refine g_aload_n (pn := 42) K rfl 2 rfl dX9_trowels_41 ?_
  refine g_getr (pn := 45) (j := 16) K rfl fl_X9_59 lm_0 rfl dX9_trowels_42 ?_
  refine g_iload_n (pn := 46) K rfl 3 rfl dX9_trowels_45 ?_
  refine g_iload_n (pn := 47) K rfl 1 rfl dX9_trowels_46 ?_
  refine jp_e1 h (fun v4 => G layM X Γ 4 (QM layM X Γ none M') 63 [(0, .ref (X.2.2.2.1 0)), (1, .int a1)] [.int v4, .int a1, .ref (X.2.2.2.1 16)] M3) (fun v4 h => ?_) (fun j5 hj5 h => ?_)
  · refine g_iast (pn := 64) K rfl lm_16 dX9_trowels_63 h (fun M6 h => ?_)
    refine g_aload_n (pn := 65) K rfl 0 rfl dX9_trowels_64 ?_
    refine g_dup (pn := 66) K rfl rfl dX9_trowels_65 ?_
    refine g_geti (pn := 69) K rfl fl_X9_258 lm_0 rfl dX9_trowels_66 ?_
    refine g_aload_n (pn := 70) K rfl 0 rfl dX9_trowels_69 ?_
    refine g_getr (pn := 73) (j := 16) K rfl fl_X9_59 lm_0 rfl dX9_trowels_70 ?_
    refine g_iload_n (pn := 74) K rfl 1 rfl dX9_trowels_73 ?_
    refine g_iald (pn := 75) K rfl lm_16 dX9_trowels_74 h (fun h => ?_)
    refine jp_e2 h (fun v7 M8 => G layM X Γ 4 (QM layM X Γ none M') 98 [(0, .ref (X.2.2.2.1 0)), (1, .int a1)] [.int v7, .int (M6 0 41), .ref (X.2.2.2.1 0)] M8) (fun v7 M8 h => ?_) (fun j9 hj9 h => ?_)
    · refine g_iadd (pn := 99) K rfl dX9_trowels_98 ?_
      refine g_puti (pn := 102) K rfl fp_X9_258 lm_0 rfl dX9_trowels_99 h (fun M10 h => ?_)
      refine g_aload_n (pn := 103) K rfl 0 rfl dX9_trowels_102 ?_
      refine g_dup (pn := 104) K rfl rfl dX9_trowels_103 ?_
      refine g_geti (pn := 107) K rfl fl_X9_255 lm_0 rfl dX9_trowels_104 ?_
      refine g_aload_n (pn := 108) K rfl 0 rfl dX9_trowels_107 ?_
      refine g_getr (pn := 111) (j := 7) K rfl fl_X9_32 lm_0 rfl dX9_trowels_108 ?_
      refine g_iload_n (pn := 112) K rfl 1 rfl dX9_trowels_111 ?_
      refine g_iald (pn := 113) K rfl lm_7 dX9_trowels_112 h (fun h => ?_)
      refine g_iadd (pn := 114) K rfl dX9_trowels_113 ?_
      refine g_puti (pn := 117) K rfl fp_X9_255 lm_0 rfl dX9_trowels_114 h (fun M11 h => ?_)
      exact g_vret K dX9_trowels_117 (oi h)
    refine g_if_eq (tgt := 97) (pn := 78) K rfl (by decide) dX9_trowels_75 h (fun h => ?_) (fun h => ?_)
    · refine g_iconst (pn := 98) (v := 0) K rfl ic_0 dX9_trowels_97 ?_
      exact hj9 _ _ h
    · refine g_aload_n (pn := 79) K rfl 0 rfl dX9_trowels_78 ?_
      refine g_iconst (pn := 80) (v := 2) K rfl ic_2 dX9_trowels_79 ?_
      refine g_iload_n (pn := 81) K rfl 1 rfl dX9_trowels_80 ?_
      refine g_aload_n (pn := 82) K rfl 0 rfl dX9_trowels_81 ?_
      refine g_getr (pn := 85) (j := 16) K rfl fl_X9_59 lm_0 rfl dX9_trowels_82 ?_
      refine g_iload_n (pn := 86) K rfl 1 rfl dX9_trowels_85 ?_
      refine g_iald (pn := 87) K rfl lm_16 dX9_trowels_86 h (fun h => ?_)
      refine g_iconst (pn := 88) (v := 0) K rfl ic_0 dX9_trowels_87 ?_
      refine g_sipush (pn := 91) (v := 999) K rfl sp_999 dX9_trowels_88 ?_
      obtain ⟨M13, v14, hc12, h⟩ := ob2_e h
      refine g_callV1 (pn := 94) (As := [.int 2, .int a1, .int (M6 16 a1.toNatClampNeg), .int 0, .int 999]) (rest := [.int (M6 0 41), .ref (X.2.2.2.1 0)]) (a := 0) K rfl (d' := 169) (Nat.le_of_ble_eq_true rfl) mv_X9_249 (recvO K lm_0 rfl) (w_m_says hc12) rfl rfl (Nat.le_of_ble_eq_true rfl) dX9_trowels_91 ?_
      refine g_goto (tgt := 98) K (by decide) dX9_trowels_94 ?_
      exact hj9 _ _ h
  refine g_if_le (tgt := 54) (pn := 50) K rfl (by decide) dX9_trowels_47 h (fun h => ?_) (fun h => ?_)
  · refine g_iload_n (pn := 55) K rfl 0 rfl dX9_trowels_54 ?_
    refine g_if_ge (tgt := 62) (pn := 58) K rfl (by decide) dX9_trowels_55 h (fun h => ?_) (fun h => ?_)
    · refine g_iconst (pn := 63) (v := 0) K rfl ic_0 dX9_trowels_62 ?_
      refine g_sub [2, 3] rfl ?_
      exact hj5 _ h
    · refine g_iload_n (pn := 59) K rfl 0 rfl dX9_trowels_58 ?_
      refine g_goto (tgt := 63) K (by decide) dX9_trowels_59 ?_
      refine g_sub [2, 3] rfl ?_
      exact hj5 _ h
  · refine g_iload_n (pn := 51) K rfl 1 rfl dX9_trowels_50 ?_
    refine g_goto (tgt := 63) K (by decide) dX9_trowels_51 ?_
    refine g_sub [2, 3] rfl ?_
    exact hj5 _ h
set_option maxHeartbeats 4000000 in
set_option maxRecDepth 20000 in
theorem w_m_begins {X : XT} {M : Mem} {a1 : Int32} {M' : Mem}   (h : m_begins M a1 = some M') : CT layM X 0 yX9_begins cX9_begins 2 none [.ref (X.2.2.2.1 0), .int a1] M M' none := by
  refine CT.of rfl (Nat.le_of_ble_eq_true rfl) (lv := [(0, .ref (X.2.2.2.1 0)), (1, .int a1)]) rfl (fun Γ K => ?_)
  have K : Kx layM X Γ RX9 cX9_begins 2 0 none := K
  unfold m_begins at h
  refine g_aload_n (pn := 1) K rfl 0 rfl dX9_begins_0 ?_
  refine g_getr (pn := 4) (j := 13) K rfl fl_X9_50 lm_0 rfl dX9_begins_1 ?_
  refine g_iload_n (pn := 5) K rfl 1 rfl dX9_begins_4 ?_
  refine g_aload_n (pn := 6) K rfl 0 rfl dX9_begins_5 ?_
  refine g_geti (pn := 9) K rfl fl_X9_255 lm_0 rfl dX9_begins_6 ?_
  refine g_iast (pn := 10) K rfl lm_13 dX9_begins_9 h (fun M1 h => ?_)
  refine g_aload_n (pn := 11) K rfl 0 rfl dX9_begins_10 ?_
  refine g_aload_n (pn := 12) K rfl 0 rfl dX9_begins_11 ?_
  refine g_geti (pn := 15) K rfl fl_X9_255 lm_0 rfl dX9_begins_12 ?_
  refine g_puti (pn := 18) K rfl fp_X9_261 lm_0 rfl dX9_begins_15 h (fun M2 h => ?_)
  refine g_aload_n (pn := 19) K rfl 0 rfl dX9_begins_18 ?_
  refine g_dup (pn := 20) K rfl rfl dX9_begins_19 ?_
  refine g_geti (pn := 23) K rfl fl_X9_255 lm_0 rfl dX9_begins_20 ?_
  refine g_aload_n (pn := 24) K rfl 0 rfl dX9_begins_23 ?_
  refine g_getr (pn := 27) (j := 12) K rfl fl_X9_47 lm_0 rfl dX9_begins_24 ?_
  refine g_iload_n (pn := 28) K rfl 1 rfl dX9_begins_27 ?_
  refine g_iald (pn := 29) K rfl lm_12 dX9_begins_28 h (fun h => ?_)
  refine g_iadd (pn := 30) K rfl dX9_begins_29 ?_
  refine g_puti (pn := 33) K rfl fp_X9_255 lm_0 rfl dX9_begins_30 h (fun M3 h => ?_)
  refine g_aload_n (pn := 34) K rfl 0 rfl dX9_begins_33 ?_
  refine g_getr (pn := 37) (j := 14) K rfl fl_X9_53 lm_0 rfl dX9_begins_34 ?_
  refine g_iload_n (pn := 38) K rfl 1 rfl dX9_begins_37 ?_
  refine g_aload_n (pn := 39) K rfl 0 rfl dX9_begins_38 ?_
  refine g_geti (pn := 42) K rfl fl_X9_255 lm_0 rfl dX9_begins_39 ?_
  refine g_aload_n (pn := 43) K rfl 0 rfl dX9_begins_42 ?_
  refine g_getr (pn := 46) (j := 10) K rfl fl_X9_41 lm_0 rfl dX9_begins_43 ?_
  refine g_iload_n (pn := 47) K rfl 1 rfl dX9_begins_46 ?_
  refine g_iald (pn := 48) K rfl lm_10 dX9_begins_47 h (fun h => ?_)
  refine g_iadd (pn := 49) K rfl dX9_begins_48 ?_
  refine g_iast (pn := 50) K rfl lm_14 dX9_begins_49 h (fun M4 h => ?_)
  refine g_aload_n (pn := 51) K rfl 0 rfl dX9_begins_50 ?_
  refine g_dup (pn := 52) K rfl rfl dX9_begins_51 ?_
  refine g_geti (pn := 55) K rfl fl_X9_253 lm_0 rfl dX9_begins_52 ?_
  refine g_iconst (pn := 56) (v := 1) K rfl ic_1 dX9_begins_55 ?_
  refine g_iadd (pn := 57) K rfl dX9_begins_56 ?_
  refine g_puti (pn := 60) K rfl fp_X9_253 lm_0 rfl dX9_begins_57 h (fun M5 h => ?_)
  exact g_vret K dX9_begins_60 (oi h)
set_option maxHeartbeats 4000000 in
set_option maxRecDepth 20000 in
theorem w_m_lives {X : XT} {M : Mem}  {M' : Mem}   (h : m_lives M = some M') : CT layM X 171 yX9_lives cX9_lives 3 none [.ref (X.2.2.2.1 0)] M M' none := by
  refine CT.of rfl (Nat.le_of_ble_eq_true rfl) (lv := [(0, .ref (X.2.2.2.1 0))]) rfl (fun Γ K => ?_)
  have K : Kx layM X Γ RX9 cX9_lives 3 171 none := K
  unfold m_lives at h
  refine g_iconst (pn := 1) (v := 0) K rfl ic_0 dX9_lives_0 ?_
  refine g_istore_n (pn := 2) (lv' := [(1, .int 0), (0, .ref (X.2.2.2.1 0))]) K rfl dX9_lives_1 rfl (Nat.le_of_ble_eq_true rfl) rfl ?_
  refine jp_e1 h (fun M1 => G layM X Γ 3 (QM layM X Γ none M') 42 [(0, .ref (X.2.2.2.1 0))] [] M1) (fun M1 h => ?_) (fun j2 hj2 h => ?_)
  · refine g_aload_n (pn := 43) K rfl 0 rfl dX9_lives_42 ?_
    refine g_iconst (pn := 44) (v := 0) K rfl ic_0 dX9_lives_43 ?_
    refine g_puti (pn := 47) K rfl fp_X9_255 lm_0 rfl dX9_lives_44 h (fun M3 h => ?_)
    refine g_aload_n (pn := 48) K rfl 0 rfl dX9_lives_47 ?_
    refine g_iconst (pn := 49) (v := 0) K rfl ic_0 dX9_lives_48 ?_
    refine g_puti (pn := 52) K rfl fp_X9_253 lm_0 rfl dX9_lives_49 h (fun M4 h => ?_)
    refine g_aload_n (pn := 53) K rfl 0 rfl dX9_lives_52 ?_
    refine g_iconst (pn := 54) (v := 0) K rfl ic_0 dX9_lives_53 ?_
    refine g_puti (pn := 57) K rfl fp_X9_261 lm_0 rfl dX9_lives_54 h (fun M5 h => ?_)
    refine g_aload_n (pn := 58) K rfl 0 rfl dX9_lives_57 ?_
    refine g_iconst (pn := 59) (v := 0) K rfl ic_0 dX9_lives_58 ?_
    refine g_puti (pn := 62) K rfl fp_X9_264 lm_0 rfl dX9_lives_59 h (fun M6 h => ?_)
    refine g_aload_n (pn := 63) K rfl 0 rfl dX9_lives_62 ?_
    refine g_iconst (pn := 64) (v := 0) K rfl ic_0 dX9_lives_63 ?_
    refine g_puti (pn := 67) K rfl fp_X9_258 lm_0 rfl dX9_lives_64 h (fun M7 h => ?_)
    refine g_iconst (pn := 68) (v := 0) K rfl ic_0 dX9_lives_67 ?_
    refine g_istore_n (pn := 69) (lv' := [(1, .int 0), (0, .ref (X.2.2.2.1 0))]) K rfl dX9_lives_68 rfl (Nat.le_of_ble_eq_true rfl) rfl ?_
    refine jp_e1 h (fun M8 => G layM X Γ 3 (QM layM X Γ none M') 183 [] [] M8) (fun M8 h => ?_) (fun j9 hj9 h => ?_)
    · exact g_vret K dX9_lives_183 (oi h)
    have LP69 : ∀ (fu12 : Nat) (v10 : Int32) (M11 : Mem), m_lives_L69 j9 fu12 v10 M11 = some M' → G layM X Γ 3 (QM layM X Γ none M') 69 [(0, .ref (X.2.2.2.1 0)), (1, .int v10)] [] M11 := by
      intro fu12
      induction fu12 with
      | zero =>
        intro v10 M11 h
        rw [m_lives_L69] at h
        cases h
      | succ fu12 ih12 =>
        intro v10 M11 h
        rw [m_lives_L69] at h
        refine g_iload_n (pn := 70) K rfl 1 rfl dX9_lives_69 ?_
        refine g_aload_n (pn := 71) K rfl 0 rfl dX9_lives_70 ?_
        refine g_geti (pn := 74) K rfl fl_X9_267 lm_0 rfl dX9_lives_71 ?_
        refine g_icmp_ge (tgt := 183) (pn := 77) K rfl (by decide) dX9_lives_74 h (fun h => ?_) (fun h => ?_)
        · refine g_sub [] rfl ?_
          exact hj9 _ h
        · refine g_aload_n (pn := 78) K rfl 0 rfl dX9_lives_77 ?_
          refine g_geti (pn := 81) K rfl fl_X9_255 lm_0 rfl dX9_lives_78 ?_
          refine g_sipush (pn := 84) (v := 4000) K rfl sp_4000 dX9_lives_81 ?_
          refine g_icmp_ge (tgt := 183) (pn := 87) K rfl (by decide) dX9_lives_84 h (fun h => ?_) (fun h => ?_)
          · refine g_sub [] rfl ?_
            exact hj9 _ h
          · refine g_aload_n (pn := 88) K rfl 0 rfl dX9_lives_87 ?_
            obtain ⟨v14, hc13, h⟩ := ob_e h
            refine g_callV1 (pn := 91) (As := []) (rest := []) (a := 0) K rfl (d' := 0) (Nat.le_of_ble_eq_true rfl) mv_X9_270 (recvO K lm_0 rfl) (w_m_toTrowel hc13) rfl rfl (Nat.le_of_ble_eq_true rfl) dX9_lives_88 ?_
            refine g_istore_n (pn := 92) (lv' := [(2, .int v14), (0, .ref (X.2.2.2.1 0)), (1, .int v10)]) K rfl dX9_lives_91 rfl (Nat.le_of_ble_eq_true rfl) rfl ?_
            refine g_iload_n (pn := 93) K rfl 0 rfl dX9_lives_92 ?_
            refine g_iconst (pn := 94) (v := (-1)) K rfl ic_m1 dX9_lives_93 ?_
            refine g_icmp_eq (tgt := 108) (pn := 97) K rfl (by decide) dX9_lives_94 h (fun h => ?_) (fun h => ?_)
            · refine g_aload_n (pn := 109) K rfl 1 rfl dX9_lives_108 ?_
              refine g_geti (pn := 112) K rfl fl_X9_253 lm_0 rfl dX9_lives_109 ?_
              refine g_aload_n (pn := 113) K rfl 1 rfl dX9_lives_112 ?_
              refine g_geti (pn := 116) K rfl fl_X9_267 lm_0 rfl dX9_lives_113 ?_
              refine jp_e1 h (fun M15 => G layM X Γ 3 (QM layM X Γ none M') 160 [(0, .ref (X.2.2.2.1 0)), (1, .int v10)] [] M15) (fun M15 h => ?_) (fun j16 hj16 h => ?_)
              · refine g_aload_n (pn := 161) K rfl 0 rfl dX9_lives_160 ?_
                refine g_dup (pn := 162) K rfl rfl dX9_lives_161 ?_
                refine g_geti (pn := 165) K rfl fl_X9_255 lm_0 rfl dX9_lives_162 ?_
                refine g_iconst (pn := 166) (v := 1) K rfl ic_1 dX9_lives_165 ?_
                refine g_iadd (pn := 167) K rfl dX9_lives_166 ?_
                refine g_puti (pn := 170) K rfl fp_X9_255 lm_0 rfl dX9_lives_167 h (fun M17 h => ?_)
                refine g_aload_n (pn := 171) K rfl 0 rfl dX9_lives_170 ?_
                refine g_dup (pn := 172) K rfl rfl dX9_lives_171 ?_
                refine g_geti (pn := 175) K rfl fl_X9_264 lm_0 rfl dX9_lives_172 ?_
                refine g_iconst (pn := 176) (v := 1) K rfl ic_1 dX9_lives_175 ?_
                refine g_iadd (pn := 177) K rfl dX9_lives_176 ?_
                refine g_puti (pn := 180) K rfl fp_X9_264 lm_0 rfl dX9_lives_177 h (fun M18 h => ?_)
                refine g_goto (tgt := 69) K (by decide) dX9_lives_180 ?_
                exact ih12 _ _ h
              refine g_icmp_ge (tgt := 160) (pn := 119) K rfl (by decide) dX9_lives_116 h (fun h => ?_) (fun h => ?_)
              · refine g_sub [1, 2] rfl ?_
                exact hj16 _ h
              · refine g_aload_n (pn := 120) K rfl 1 rfl dX9_lives_119 ?_
                refine g_geti (pn := 123) K rfl fl_X9_253 lm_0 rfl dX9_lives_120 ?_
                refine jp_e1 h (fun u19 => G layM X Γ 3 (QM layM X Γ none M') 144 [(0, .ref (X.2.2.2.1 0)), (1, .int v10)] [] M11) (fun u19 h => ?_) (fun j20 hj20 h => ?_)
                · refine g_aload_n (pn := 145) K rfl 0 rfl dX9_lives_144 ?_
                  refine g_aload_n (pn := 146) K rfl 0 rfl dX9_lives_145 ?_
                  refine g_getr (pn := 149) (j := 9) K rfl fl_X9_38 lm_0 rfl dX9_lives_146 ?_
                  refine g_aload_n (pn := 150) K rfl 0 rfl dX9_lives_149 ?_
                  refine g_geti (pn := 153) K rfl fl_X9_253 lm_0 rfl dX9_lives_150 ?_
                  refine g_iald (pn := 154) K rfl lm_9 dX9_lives_153 h (fun h => ?_)
                  obtain ⟨M22, hc21, h⟩ := ob_e h
                  refine g_callV0 (pn := 157) (As := [.int (M11 9 (M11 0 38).toNatClampNeg)]) (rest := []) (a := 0) K rfl (d' := 0) (Nat.le_of_ble_eq_true rfl) mv_X9_277 (recvO K lm_0 rfl) (w_m_begins hc21) rfl rfl (Nat.le_of_ble_eq_true rfl) dX9_lives_154 ?_
                  refine g_goto (tgt := 180) K (by decide) dX9_lives_157 ?_
                  refine g_goto (tgt := 69) K (by decide) dX9_lives_180 ?_
                  exact ih12 _ _ h
                refine g_if_eq (tgt := 144) (pn := 126) K rfl (by decide) dX9_lives_123 h (fun h => ?_) (fun h => ?_)
                · refine g_sub [1, 2] rfl ?_
                  exact hj20 _ h
                · refine g_aload_n (pn := 127) K rfl 1 rfl dX9_lives_126 ?_
                  refine g_geti (pn := 130) K rfl fl_X9_255 lm_0 rfl dX9_lives_127 ?_
                  refine g_aload_n (pn := 131) K rfl 1 rfl dX9_lives_130 ?_
                  refine g_geti (pn := 134) K rfl fl_X9_261 lm_0 rfl dX9_lives_131 ?_
                  refine g_aload_n (pn := 135) K rfl 1 rfl dX9_lives_134 ?_
                  refine g_getr (pn := 138) (j := 4) K rfl fl_X9_23 lm_0 rfl dX9_lives_135 ?_
                  refine g_iconst (pn := 139) (v := 4) K rfl ic_4 dX9_lives_138 ?_
                  refine g_iald (pn := 140) K rfl lm_4 dX9_lives_139 h (fun h => ?_)
                  refine g_iadd (pn := 141) K rfl dX9_lives_140 ?_
                  refine g_icmp_lt (tgt := 160) (pn := 144) K rfl (by decide) dX9_lives_141 h (fun h => ?_) (fun h => ?_)
                  · refine g_sub [1, 2] rfl ?_
                    exact hj16 _ h
                  · refine g_sub [1, 2] rfl ?_
                    exact hj20 _ h
            · refine g_aload_n (pn := 98) K rfl 1 rfl dX9_lives_97 ?_
              refine g_iload_n (pn := 99) K rfl 0 rfl dX9_lives_98 ?_
              obtain ⟨M24, hc23, h⟩ := ob_e h
              refine g_callV0 (pn := 102) (As := [.int v14]) (rest := []) (a := 0) K rfl (d' := 170) (Nat.le_of_ble_eq_true rfl) mv_X9_273 (recvO K lm_0 rfl) (w_m_trowels hc23) rfl rfl (Nat.le_of_ble_eq_true rfl) dX9_lives_99 ?_
              obtain ⟨v25, ev25, h⟩ := bnd_e h
              refine g_iinc (pn := 105) (v := v25) (lv' := [(1, .int v25), (2, .int v14), (0, .ref (X.2.2.2.1 0))]) K rfl 2 rfl ii_1 ev25 dX9_lives_102 (Nat.le_of_ble_eq_true rfl) rfl ?_
              refine g_goto (tgt := 180) K (by decide) dX9_lives_105 ?_
              refine g_goto (tgt := 69) K (by decide) dX9_lives_180 ?_
              refine g_sub [2, 0] rfl ?_
              exact ih12 _ _ h
    refine g_sub [1, 0] rfl ?_
    exact LP69 FU _ _ h
  have LP2 : ∀ (fu28 : Nat) (v26 : Int32) (M27 : Mem), m_lives_L2 j2 fu28 v26 M27 = some M' → G layM X Γ 3 (QM layM X Γ none M') 2 [(0, .ref (X.2.2.2.1 0)), (1, .int v26)] [] M27 := by
    intro fu28
    induction fu28 with
    | zero =>
      intro v26 M27 h
      rw [m_lives_L2] at h
      cases h
    | succ fu28 ih28 =>
      intro v26 M27 h
      rw [m_lives_L2] at h
      refine g_iload_n (pn := 3) K rfl 1 rfl dX9_lives_2 ?_
      refine g_bipush (pn := 5) (v := 6) K rfl bp_6 dX9_lives_3 ?_
      refine g_icmp_ge (tgt := 42) (pn := 8) K rfl (by decide) dX9_lives_5 h (fun h => ?_) (fun h => ?_)
      · refine g_sub [0] rfl ?_
        exact hj2 _ h
      · refine g_aload_n (pn := 9) K rfl 0 rfl dX9_lives_8 ?_
        refine g_getr (pn := 12) (j := 13) K rfl fl_X9_50 lm_0 rfl dX9_lives_9 ?_
        refine g_iload_n (pn := 13) K rfl 1 rfl dX9_lives_12 ?_
        refine g_iconst (pn := 14) (v := (-1)) K rfl ic_m1 dX9_lives_13 ?_
        refine g_iast (pn := 15) K rfl lm_13 dX9_lives_14 h (fun M29 h => ?_)
        refine g_aload_n (pn := 16) K rfl 0 rfl dX9_lives_15 ?_
        refine g_getr (pn := 19) (j := 14) K rfl fl_X9_53 lm_0 rfl dX9_lives_16 ?_
        refine g_iload_n (pn := 20) K rfl 1 rfl dX9_lives_19 ?_
        refine g_iconst (pn := 21) (v := (-1)) K rfl ic_m1 dX9_lives_20 ?_
        refine g_iast (pn := 22) K rfl lm_14 dX9_lives_21 h (fun M30 h => ?_)
        refine g_aload_n (pn := 23) K rfl 0 rfl dX9_lives_22 ?_
        refine g_getr (pn := 26) (j := 15) K rfl fl_X9_56 lm_0 rfl dX9_lives_23 ?_
        refine g_iload_n (pn := 27) K rfl 1 rfl dX9_lives_26 ?_
        refine g_iconst (pn := 28) (v := (-1)) K rfl ic_m1 dX9_lives_27 ?_
        refine g_iast (pn := 29) K rfl lm_15 dX9_lives_28 h (fun M31 h => ?_)
        refine g_aload_n (pn := 30) K rfl 0 rfl dX9_lives_29 ?_
        refine g_getr (pn := 33) (j := 16) K rfl fl_X9_59 lm_0 rfl dX9_lives_30 ?_
        refine g_iload_n (pn := 34) K rfl 1 rfl dX9_lives_33 ?_
        refine g_iconst (pn := 35) (v := 0) K rfl ic_0 dX9_lives_34 ?_
        refine g_iast (pn := 36) K rfl lm_16 dX9_lives_35 h (fun M32 h => ?_)
        obtain ⟨v33, ev33, h⟩ := bnd_e h
        refine g_iinc (pn := 39) (v := v33) (lv' := [(1, .int v33), (0, .ref (X.2.2.2.1 0))]) K rfl 1 rfl ii_1 ev33 dX9_lives_36 (Nat.le_of_ble_eq_true rfl) rfl ?_
        refine g_goto (tgt := 2) K (by decide) dX9_lives_39 ?_
        refine g_sub [1, 0] rfl ?_
        exact ih28 _ _ h
  refine g_sub [1, 0] rfl ?_
  exact LP2 FU _ _ h
set_option maxHeartbeats 4000000 in
set_option maxRecDepth 20000 in
theorem w_m_livesPlain {X : XT} {M : Mem} {a1 : Int32} {M' : Mem}   (h : m_livesPlain M a1 = some M') : CT layM X 172 yX9_livesPlain cX9_livesPlain 3 none [.ref (X.2.2.2.1 0), .int a1] M M' none := by
  refine CT.of rfl (Nat.le_of_ble_eq_true rfl) (lv := [(0, .ref (X.2.2.2.1 0)), (1, .int a1)]) rfl (fun Γ K => ?_)
  have K : Kx layM X Γ RX9 cX9_livesPlain 3 172 none := K
  unfold m_livesPlain at h
  refine g_aload_n (pn := 1) K rfl 0 rfl dX9_livesPlain_0 ?_
  obtain ⟨M2, hc1, h⟩ := ob_e h
  refine g_callV0 (pn := 4) (As := []) (rest := []) (a := 0) K rfl (d' := 171) (Nat.le_of_ble_eq_true rfl) mv_X9_280 (recvO K lm_0 rfl) (w_m_gathers hc1) rfl rfl (Nat.le_of_ble_eq_true rfl) dX9_livesPlain_1 ?_
  refine g_aload_n (pn := 5) K rfl 0 rfl dX9_livesPlain_4 ?_
  refine g_iload_n (pn := 6) K rfl 1 rfl dX9_livesPlain_5 ?_
  refine g_puti (pn := 9) K rfl fp_X9_267 lm_0 rfl dX9_livesPlain_6 h (fun M3 h => ?_)
  refine g_iconst (pn := 10) (v := 0) K rfl ic_0 dX9_livesPlain_9 ?_
  refine g_istore_n (pn := 11) (lv' := [(2, .int 0), (0, .ref (X.2.2.2.1 0)), (1, .int a1)]) K rfl dX9_livesPlain_10 rfl (Nat.le_of_ble_eq_true rfl) rfl ?_
  refine jp_e1 h (fun M4 => G layM X Γ 3 (QM layM X Γ none M') 29 [(0, .ref (X.2.2.2.1 0))] [] M4) (fun M4 h => ?_) (fun j5 hj5 h => ?_)
  · refine g_aload_n (pn := 30) K rfl 0 rfl dX9_livesPlain_29 ?_
    obtain ⟨M7, hc6, h⟩ := ob_e h
    refine g_callV0 (pn := 33) (As := []) (rest := []) (a := 0) K rfl (d' := 171) (Nat.le_of_ble_eq_true rfl) mv_X9_283 (recvO K lm_0 rfl) (w_m_lives hc6) rfl rfl (Nat.le_of_ble_eq_true rfl) dX9_livesPlain_30 ?_
    exact g_vret K dX9_livesPlain_33 (oi h)
  have LP11 : ∀ (fu10 : Nat) (v8 : Int32) (M9 : Mem), m_livesPlain_L11 a1 j5 fu10 v8 M9 = some M' → G layM X Γ 3 (QM layM X Γ none M') 11 [(0, .ref (X.2.2.2.1 0)), (1, .int a1), (2, .int v8)] [] M9 := by
    intro fu10
    induction fu10 with
    | zero =>
      intro v8 M9 h
      rw [m_livesPlain_L11] at h
      cases h
    | succ fu10 ih10 =>
      intro v8 M9 h
      rw [m_livesPlain_L11] at h
      refine g_iload_n (pn := 12) K rfl 2 rfl dX9_livesPlain_11 ?_
      refine g_iload_n (pn := 13) K rfl 1 rfl dX9_livesPlain_12 ?_
      refine g_icmp_ge (tgt := 29) (pn := 16) K rfl (by decide) dX9_livesPlain_13 h (fun h => ?_) (fun h => ?_)
      · refine g_sub [0] rfl ?_
        exact hj5 _ h
      · refine g_aload_n (pn := 17) K rfl 0 rfl dX9_livesPlain_16 ?_
        refine g_getr (pn := 20) (j := 9) K rfl fl_X9_38 lm_0 rfl dX9_livesPlain_17 ?_
        refine g_iload_n (pn := 21) K rfl 2 rfl dX9_livesPlain_20 ?_
        refine g_iload_n (pn := 22) K rfl 2 rfl dX9_livesPlain_21 ?_
        refine g_iast (pn := 23) K rfl lm_9 dX9_livesPlain_22 h (fun M11 h => ?_)
        obtain ⟨v12, ev12, h⟩ := bnd_e h
        refine g_iinc (pn := 26) (v := v12) (lv' := [(2, .int v12), (0, .ref (X.2.2.2.1 0)), (1, .int a1)]) K rfl 2 rfl ii_1 ev12 dX9_livesPlain_23 (Nat.le_of_ble_eq_true rfl) rfl ?_
        refine g_goto (tgt := 11) K (by decide) dX9_livesPlain_26 ?_
        refine g_sub [1, 2, 0] rfl ?_
        exact ih10 _ _ h
  refine g_sub [1, 2, 0] rfl ?_
  exact LP11 FU _ _ h
set_option maxHeartbeats 4000000 in
set_option maxRecDepth 20000 in
theorem w_m_setOf {X : XT} {M : Mem} {a1 : Int32} {r : Int32}   (h : m_setOf M a1 = some r) : CT layM X 0 yX9_setOf cX9_setOf 4 (some .int) [.ref (X.2.2.2.1 0), .int a1] M M (some (.int r)) := by
  refine CT.of rfl (Nat.le_of_ble_eq_true rfl) (lv := [(0, .ref (X.2.2.2.1 0)), (1, .int a1)]) rfl (fun Γ K => ?_)
  have K : Kx layM X Γ RX9 cX9_setOf 4 0 (some .int) := K
  unfold m_setOf at h
  refine g_iconst (pn := 1) (v := 0) K rfl ic_0 dX9_setOf_0 ?_
  refine g_istore_n (pn := 2) (lv' := [(2, .int 0), (0, .ref (X.2.2.2.1 0)), (1, .int a1)]) K rfl dX9_setOf_1 rfl (Nat.le_of_ble_eq_true rfl) rfl ?_
  refine g_iconst (pn := 3) (v := 0) K rfl ic_0 dX9_setOf_2 ?_
  refine g_istore_n (pn := 4) (lv' := [(3, .int 0), (2, .int 0), (0, .ref (X.2.2.2.1 0)), (1, .int a1)]) K rfl dX9_setOf_3 rfl (Nat.le_of_ble_eq_true rfl) rfl ?_
  refine jp_e1 h (fun v1 => G layM X Γ 4 (QM layM X Γ (some (.int r)) M) 53 [(2, .int v1)] [] M) (fun v1 h => ?_) (fun j2 hj2 h => ?_)
  · refine g_iload_n (pn := 54) K rfl 0 rfl dX9_setOf_53 ?_
    exact g_iret K dX9_setOf_54 (oi h) rfl
  have LP4 : ∀ (fu5 : Nat) (v3 : Int32) (v4 : Int32), m_setOf_L4 M a1 j2 fu5 v3 v4 = some r → G layM X Γ 4 (QM layM X Γ (some (.int r)) M) 4 [(0, .ref (X.2.2.2.1 0)), (1, .int a1), (2, .int v3), (3, .int v4)] [] M := by
    intro fu5
    induction fu5 with
    | zero =>
      intro v3 v4 h
      rw [m_setOf_L4] at h
      cases h
    | succ fu5 ih5 =>
      intro v3 v4 h
      rw [m_setOf_L4] at h
      refine g_iload_n (pn := 5) K rfl 3 rfl dX9_setOf_4 ?_
      refine g_aload_n (pn := 6) K rfl 0 rfl dX9_setOf_5 ?_
      refine g_geti (pn := 9) K rfl fl_X9_91 lm_0 rfl dX9_setOf_6 ?_
      refine g_icmp_ge (tgt := 53) (pn := 12) K rfl (by decide) dX9_setOf_9 h (fun h => ?_) (fun h => ?_)
      · refine g_sub [2] rfl ?_
        exact hj2 _ h
      · refine g_iload_n (pn := 13) K rfl 2 rfl dX9_setOf_12 ?_
        refine g_iload_n (pn := 14) K rfl 1 rfl dX9_setOf_13 ?_
        refine jp_e1 h (fun v6 => G layM X Γ 4 (QM layM X Γ (some (.int r)) M) 45 [(0, .ref (X.2.2.2.1 0)), (1, .int a1), (3, .int v4)] [.int v6, .int v3] M) (fun v6 h => ?_) (fun j7 hj7 h => ?_)
        · refine g_ior (pn := 46) K rfl dX9_setOf_45 ?_
          refine g_nmi h (fun v8 h => ?_)
          refine g_istore_n (pn := 47) (lv' := [(2, .int v8), (0, .ref (X.2.2.2.1 0)), (1, .int a1), (3, .int v4)]) K rfl dX9_setOf_46 rfl (Nat.le_of_ble_eq_true rfl) rfl ?_
          obtain ⟨v9, ev9, h⟩ := bnd_e h
          refine g_iinc (pn := 50) (v := v9) (lv' := [(3, .int v9), (2, .int v8), (0, .ref (X.2.2.2.1 0)), (1, .int a1)]) K rfl 3 rfl ii_1 ev9 dX9_setOf_47 (Nat.le_of_ble_eq_true rfl) rfl ?_
          refine g_goto (tgt := 4) K (by decide) dX9_setOf_50 ?_
          refine g_sub [2, 3, 1, 0] rfl ?_
          exact ih5 _ _ h
        refine jp_e1 h (fun u10 => G layM X Γ 4 (QM layM X Γ (some (.int r)) M) 44 [(0, .ref (X.2.2.2.1 0)), (1, .int a1), (3, .int v4)] [.int v3] M) (fun u10 h => ?_) (fun j11 hj11 h => ?_)
        · refine g_iconst (pn := 45) (v := 0) K rfl ic_0 dX9_setOf_44 ?_
          exact hj7 _ h
        refine jp_e1 h (fun u12 => G layM X Γ 4 (QM layM X Γ (some (.int r)) M) 38 [(0, .ref (X.2.2.2.1 0)), (1, .int a1), (3, .int v4)] [.int v3] M) (fun u12 h => ?_) (fun j13 hj13 h => ?_)
        · refine g_iconst (pn := 39) (v := 1) K rfl ic_1 dX9_setOf_38 ?_
          refine g_iload_n (pn := 40) K rfl 2 rfl dX9_setOf_39 ?_
          refine g_ishl (pn := 41) K rfl dX9_setOf_40 ?_
          refine g_goto (tgt := 45) K (by decide) dX9_setOf_41 ?_
          exact hj7 _ h
        refine g_if_le (tgt := 29) (pn := 17) K rfl (by decide) dX9_setOf_14 h (fun h => ?_) (fun h => ?_)
        · refine g_aload_n (pn := 30) K rfl 0 rfl dX9_setOf_29 ?_
          refine g_getr (pn := 33) (j := 16) K rfl fl_X9_59 lm_0 rfl dX9_setOf_30 ?_
          refine g_iload_n (pn := 34) K rfl 3 rfl dX9_setOf_33 ?_
          refine g_iald (pn := 35) K rfl lm_16 dX9_setOf_34 h (fun h => ?_)
          refine g_if_ge (tgt := 44) (pn := 38) K rfl (by decide) dX9_setOf_35 h (fun h => ?_) (fun h => ?_)
          · refine g_sub [0, 1, 3] rfl ?_
            exact hj11 _ h
          · refine g_sub [0, 1, 3] rfl ?_
            exact hj13 _ h
        · refine g_aload_n (pn := 18) K rfl 0 rfl dX9_setOf_17 ?_
          refine g_getr (pn := 21) (j := 16) K rfl fl_X9_59 lm_0 rfl dX9_setOf_18 ?_
          refine g_iload_n (pn := 22) K rfl 3 rfl dX9_setOf_21 ?_
          refine g_iald (pn := 23) K rfl lm_16 dX9_setOf_22 h (fun h => ?_)
          refine g_if_le (tgt := 44) (pn := 26) K rfl (by decide) dX9_setOf_23 h (fun h => ?_) (fun h => ?_)
          · refine g_sub [0, 1, 3] rfl ?_
            exact hj11 _ h
          · refine g_goto (tgt := 38) K (by decide) dX9_setOf_26 ?_
            refine g_sub [0, 1, 3] rfl ?_
            exact hj13 _ h
  refine g_sub [2, 3, 1, 0] rfl ?_
  exact LP4 FU _ _ h
set_option maxHeartbeats 4000000 in
set_option maxRecDepth 20000 in
theorem w_m_isTells {X : XT} {M : Mem} {a1 : Int32} {r : Bool}   (h : m_isTells M a1 = some r) : CT layM X 2 yX9_isTells cX9_isTells 2 (some .boolean) [.ref (X.2.2.2.1 0), .int a1] M M (some (.int (b2i r))) := by
  refine CT.of rfl (Nat.le_of_ble_eq_true rfl) (lv := [(0, .ref (X.2.2.2.1 0)), (1, .int a1)]) rfl (fun Γ K => ?_)
  have K : Kx layM X Γ RX9 cX9_isTells 2 2 (some .boolean) := K
  unfold m_isTells at h
  refine g_iload_n (pn := 1) K rfl 1 rfl dX9_isTells_0 ?_
  refine g_i2l (pn := 2) K rfl dX9_isTells_1 ?_
  refine g_lconst (pn := 3) (v := 0) K rfl lc_0 dX9_isTells_2 ?_
  refine g_ldc2 (pn := 6) (v := 4) K rfl cl_X9_286 dX9_isTells_3 ?_
  obtain ⟨v2, hc1, h⟩ := ob_e h
  refine g_callS1 (pn := 9) (As := [.long a1.toInt64, .long 0, .long 4]) (rest := []) K rfl (d' := 0) (Nat.le_of_ble_eq_true rfl) ms_X9_94 (w_m_in hc1) rfl rfl (Nat.le_of_ble_eq_true rfl) dX9_isTells_6 ?_
  refine g_ifB_ne (tgt := 37) (pn := 12) K rfl (by decide) dX9_isTells_9 h (fun h => ?_) (fun h => ?_)
  · refine g_iconst (pn := 38) (v := 1) K rfl ic_1 dX9_isTells_37 ?_
    refine g_goto (tgt := 42) K (by decide) dX9_isTells_38 ?_
    exact g_zret K rfl dX9_isTells_42 (bq1 (oi h)) rfl
  · refine g_iload_n (pn := 13) K rfl 1 rfl dX9_isTells_12 ?_
    refine g_i2l (pn := 14) K rfl dX9_isTells_13 ?_
    refine g_ldc2 (pn := 17) (v := 10) K rfl cl_X9_157 dX9_isTells_14 ?_
    refine g_ldc2 (pn := 20) (v := 49) K rfl cl_X9_288 dX9_isTells_17 ?_
    obtain ⟨v4, hc3, h⟩ := ob_e h
    refine g_callS1 (pn := 23) (As := [.long a1.toInt64, .long 10, .long 49]) (rest := []) K rfl (d' := 0) (Nat.le_of_ble_eq_true rfl) ms_X9_94 (w_m_in hc3) rfl rfl (Nat.le_of_ble_eq_true rfl) dX9_isTells_20 ?_
    refine g_ifB_eq (tgt := 41) (pn := 26) K rfl (by decide) dX9_isTells_23 h (fun h => ?_) (fun h => ?_)
    · refine g_iconst (pn := 42) (v := 0) K rfl ic_0 dX9_isTells_41 ?_
      exact g_zret K rfl dX9_isTells_42 (bq0 (oi h)) rfl
    · refine g_aload_n (pn := 27) K rfl 0 rfl dX9_isTells_26 ?_
      refine g_iload_n (pn := 28) K rfl 1 rfl dX9_isTells_27 ?_
      refine g_bipush (pn := 30) (v := 10) K rfl bp_10 dX9_isTells_28 ?_
      refine g_irem (pn := 31) K rfl (by decide) dX9_isTells_30 ?_
      obtain ⟨v6, hc5, h⟩ := ob_e h
      refine g_callV1 (pn := 34) (As := [.int (a1 - a1 / 10 * 10)]) (rest := []) (a := 0) K rfl (d' := 1) (Nat.le_of_ble_eq_true rfl) mv_X9_100 (recvO K lm_0 rfl) (w_m_isWall hc5) rfl rfl (Nat.le_of_ble_eq_true rfl) dX9_isTells_31 ?_
      refine g_ifB_eq (tgt := 41) (pn := 37) K rfl (by decide) dX9_isTells_34 h (fun h => ?_) (fun h => ?_)
      · refine g_iconst (pn := 42) (v := 0) K rfl ic_0 dX9_isTells_41 ?_
        exact g_zret K rfl dX9_isTells_42 (bq0 (oi h)) rfl
      · refine g_iconst (pn := 38) (v := 1) K rfl ic_1 dX9_isTells_37 ?_
        refine g_goto (tgt := 42) K (by decide) dX9_isTells_38 ?_
        exact g_zret K rfl dX9_isTells_42 (bq1 (oi h)) rfl
set_option maxHeartbeats 4000000 in
set_option maxRecDepth 20000 in
theorem w_m_tells {X : XT} {M : Mem} {a1 : Int32} {r : Int32}   (h : m_tells M a1 = some r) : CT layM X 1 yX9_tells cX9_tells 3 (some .int) [.ref (X.2.2.2.1 0), .int a1] M M (some (.int r)) := by
  refine CT.of rfl (Nat.le_of_ble_eq_true rfl) (lv := [(0, .ref (X.2.2.2.1 0)), (1, .int a1)]) rfl (fun Γ K => ?_)
  have K : Kx layM X Γ RX9 cX9_tells 3 1 (some .int) := K
  unfold m_tells at h
  refine g_iload_n (pn := 1) K rfl 1 rfl dX9_tells_0 ?_
  refine g_iconst (pn := 2) (v := 5) K rfl ic_5 dX9_tells_1 ?_
  refine g_icmp_ge (tgt := 55) (pn := 5) K rfl (by decide) dX9_tells_2 h (fun h => ?_) (fun h => ?_)
  · refine g_iload_n (pn := 56) K rfl 1 rfl dX9_tells_55 ?_
    refine g_bipush (pn := 58) (v := 10) K rfl bp_10 dX9_tells_56 ?_
    refine g_irem (pn := 59) K rfl (by decide) dX9_tells_58 ?_
    refine g_nmi h (fun v1 h => ?_)
    refine g_istore_n (pn := 60) (lv' := [(2, .int v1), (0, .ref (X.2.2.2.1 0)), (1, .int a1)]) K rfl dX9_tells_59 rfl (Nat.le_of_ble_eq_true rfl) rfl ?_
    refine g_iload_n (pn := 61) K rfl 2 rfl dX9_tells_60 ?_
    refine g_bipush (pn := 63) (v := 20) K rfl bp_20 dX9_tells_61 ?_
    refine g_icmp_ge (tgt := 75) (pn := 66) K rfl (by decide) dX9_tells_63 h (fun h => ?_) (fun h => ?_)
    · refine g_iload_n (pn := 76) K rfl 2 rfl dX9_tells_75 ?_
      refine g_bipush (pn := 78) (v := 30) K rfl bp_30 dX9_tells_76 ?_
      refine g_icmp_ge (tgt := 90) (pn := 81) K rfl (by decide) dX9_tells_78 h (fun h => ?_) (fun h => ?_)
      · refine g_iload_n (pn := 91) K rfl 2 rfl dX9_tells_90 ?_
        refine g_bipush (pn := 93) (v := 40) K rfl bp_40 dX9_tells_91 ?_
        refine g_icmp_ge (tgt := 105) (pn := 96) K rfl (by decide) dX9_tells_93 h (fun h => ?_) (fun h => ?_)
        · refine g_aload_n (pn := 106) K rfl 1 rfl dX9_tells_105 ?_
          refine g_getr (pn := 109) (j := 16) K rfl fl_X9_59 lm_0 rfl dX9_tells_106 ?_
          refine g_iload_n (pn := 110) K rfl 0 rfl dX9_tells_109 ?_
          refine g_iald (pn := 111) K rfl lm_16 dX9_tells_110 h (fun h => ?_)
          exact g_iret K dX9_tells_111 (oi h) rfl
        · refine g_aload_n (pn := 97) K rfl 1 rfl dX9_tells_96 ?_
          refine g_getr (pn := 100) (j := 15) K rfl fl_X9_56 lm_0 rfl dX9_tells_97 ?_
          refine g_iload_n (pn := 101) K rfl 0 rfl dX9_tells_100 ?_
          refine g_iald (pn := 102) K rfl lm_15 dX9_tells_101 h (fun h => ?_)
          refine g_goto (tgt := 111) K (by decide) dX9_tells_102 ?_
          exact g_iret K dX9_tells_111 (oi h) rfl
      · refine g_aload_n (pn := 82) K rfl 1 rfl dX9_tells_81 ?_
        refine g_getr (pn := 85) (j := 14) K rfl fl_X9_53 lm_0 rfl dX9_tells_82 ?_
        refine g_iload_n (pn := 86) K rfl 0 rfl dX9_tells_85 ?_
        refine g_iald (pn := 87) K rfl lm_14 dX9_tells_86 h (fun h => ?_)
        refine g_goto (tgt := 111) K (by decide) dX9_tells_87 ?_
        exact g_iret K dX9_tells_111 (oi h) rfl
    · refine g_aload_n (pn := 67) K rfl 1 rfl dX9_tells_66 ?_
      refine g_getr (pn := 70) (j := 13) K rfl fl_X9_50 lm_0 rfl dX9_tells_67 ?_
      refine g_iload_n (pn := 71) K rfl 0 rfl dX9_tells_70 ?_
      refine g_iald (pn := 72) K rfl lm_13 dX9_tells_71 h (fun h => ?_)
      refine g_goto (tgt := 111) K (by decide) dX9_tells_72 ?_
      exact g_iret K dX9_tells_111 (oi h) rfl
  · refine g_iload_n (pn := 6) K rfl 1 rfl dX9_tells_5 ?_
    refine g_if_ne (tgt := 16) (pn := 9) K rfl (by decide) dX9_tells_6 h (fun h => ?_) (fun h => ?_)
    · refine g_iload_n (pn := 17) K rfl 1 rfl dX9_tells_16 ?_
      refine g_iconst (pn := 18) (v := 1) K rfl ic_1 dX9_tells_17 ?_
      refine g_icmp_ne (tgt := 28) (pn := 21) K rfl (by decide) dX9_tells_18 h (fun h => ?_) (fun h => ?_)
      · refine g_iload_n (pn := 29) K rfl 1 rfl dX9_tells_28 ?_
        refine g_iconst (pn := 30) (v := 2) K rfl ic_2 dX9_tells_29 ?_
        refine g_icmp_ne (tgt := 40) (pn := 33) K rfl (by decide) dX9_tells_30 h (fun h => ?_) (fun h => ?_)
        · refine g_aload_n (pn := 41) K rfl 0 rfl dX9_tells_40 ?_
          refine g_iload_n (pn := 42) K rfl 1 rfl dX9_tells_41 ?_
          refine g_iconst (pn := 43) (v := 3) K rfl ic_3 dX9_tells_42 ?_
          refine jp_e1 h (fun v2 => G layM X Γ 3 (QM layM X Γ (some (.int r)) M) 51 [] [.int v2, .ref (X.2.2.2.1 0)] M) (fun v2 h => ?_) (fun j3 hj3 h => ?_)
          · obtain ⟨v5, hc4, h⟩ := ob_e h
            refine g_callV1 (pn := 54) (As := [.int v2]) (rest := []) (a := 0) K rfl (d' := 0) (Nat.le_of_ble_eq_true rfl) mv_X9_290 (recvO K lm_0 rfl) (w_m_setOf hc4) rfl rfl (Nat.le_of_ble_eq_true rfl) dX9_tells_51 ?_
            exact g_iret K dX9_tells_54 (oi h) rfl
          refine g_icmp_ne (tgt := 50) (pn := 46) K rfl (by decide) dX9_tells_43 h (fun h => ?_) (fun h => ?_)
          · refine g_iconst (pn := 51) (v := (-1)) K rfl ic_m1 dX9_tells_50 ?_
            refine g_sub [] rfl ?_
            exact hj3 _ h
          · refine g_iconst (pn := 47) (v := 1) K rfl ic_1 dX9_tells_46 ?_
            refine g_goto (tgt := 51) K (by decide) dX9_tells_47 ?_
            refine g_sub [] rfl ?_
            exact hj3 _ h
        · refine g_aload_n (pn := 34) K rfl 0 rfl dX9_tells_33 ?_
          refine g_geti (pn := 37) K rfl fl_X9_264 lm_0 rfl dX9_tells_34 ?_
          refine g_goto (tgt := 54) K (by decide) dX9_tells_37 ?_
          exact g_iret K dX9_tells_54 (oi h) rfl
      · refine g_aload_n (pn := 22) K rfl 0 rfl dX9_tells_21 ?_
        refine g_geti (pn := 25) K rfl fl_X9_255 lm_0 rfl dX9_tells_22 ?_
        refine g_goto (tgt := 54) K (by decide) dX9_tells_25 ?_
        exact g_iret K dX9_tells_54 (oi h) rfl
    · refine g_aload_n (pn := 10) K rfl 0 rfl dX9_tells_9 ?_
      refine g_geti (pn := 13) K rfl fl_X9_258 lm_0 rfl dX9_tells_10 ?_
      refine g_goto (tgt := 54) K (by decide) dX9_tells_13 ?_
      exact g_iret K dX9_tells_54 (oi h) rfl
set_option maxHeartbeats 4000000 in
set_option maxRecDepth 20000 in
theorem w_m_day {X : XT} {M : Mem} {a1 : Int32} {M' : Mem} {r : Int32}   (h : m_day M a1 = some (M', r)) : CT layM X 173 yX9_day cX9_day 2 (some .int) [.ref (X.2.2.2.1 0), .int a1] M M' (some (.int r)) := by
  refine CT.of rfl (Nat.le_of_ble_eq_true rfl) (lv := [(0, .ref (X.2.2.2.1 0)), (1, .int a1)]) rfl (fun Γ K => ?_)
  have K : Kx layM X Γ RX9 cX9_day 2 173 (some .int) := K
  unfold m_day at h
  refine g_aload_n (pn := 1) K rfl 0 rfl dX9_day_0 ?_
  refine g_iload_n (pn := 2) K rfl 1 rfl dX9_day_1 ?_
  obtain ⟨v2, hc1, h⟩ := ob_e h
  refine g_callV1 (pn := 5) (As := [.int a1]) (rest := []) (a := 0) K rfl (d' := 2) (Nat.le_of_ble_eq_true rfl) mv_X9_293 (recvO K lm_0 rfl) (w_m_isTells hc1) rfl rfl (Nat.le_of_ble_eq_true rfl) dX9_day_2 ?_
  refine g_ifB_ne (tgt := 12) (pn := 8) K rfl (by decide) dX9_day_5 h (fun h => ?_) (fun h => ?_)
  · refine g_aload_n (pn := 13) K rfl 0 rfl dX9_day_12 ?_
    refine g_aload_n (pn := 14) K rfl 0 rfl dX9_day_13 ?_
    refine g_geti (pn := 17) K rfl fl_X9_91 lm_0 rfl dX9_day_14 ?_
    obtain ⟨M4, hc3, h⟩ := ob_e h
    refine g_callV0 (pn := 20) (As := [.int (M 0 12)]) (rest := []) (a := 0) K rfl (d' := 172) (Nat.le_of_ble_eq_true rfl) mv_X9_297 (recvO K lm_0 rfl) (w_m_livesPlain hc3) rfl rfl (Nat.le_of_ble_eq_true rfl) dX9_day_17 ?_
    refine g_aload_n (pn := 21) K rfl 0 rfl dX9_day_20 ?_
    refine g_iload_n (pn := 22) K rfl 1 rfl dX9_day_21 ?_
    obtain ⟨v6, hc5, h⟩ := ob_e h
    refine g_callV1 (pn := 25) (As := [.int a1]) (rest := []) (a := 0) K rfl (d' := 1) (Nat.le_of_ble_eq_true rfl) mv_X9_300 (recvO K lm_0 rfl) (w_m_tells hc5) rfl rfl (Nat.le_of_ble_eq_true rfl) dX9_day_22 ?_
    exact g_iret K dX9_day_25 (oi2 h).2 (oi2 h).1
  · refine g_ldcw (pn := 11) (v := (-100000)) K rfl cn_X9_296 dX9_day_8 ?_
    exact g_iret K dX9_day_11 (oi2 h).2 (oi2 h).1
set_option maxHeartbeats 4000000 in
set_option maxRecDepth 20000 in
theorem w_m_laysOrder {X : XT} {M : Mem} {a1 : Int32} {M' : Mem} {r : Bool}   (h : m_laysOrder M a1 = some (M', r)) : CT layM X 2 yX9_laysOrder cX9_laysOrder 5 (some .boolean) [.ref (X.2.2.2.1 0), .int a1] M M' (some (.int (b2i r))) := by
  refine CT.of rfl (Nat.le_of_ble_eq_true rfl) (lv := [(0, .ref (X.2.2.2.1 0)), (1, .int a1)]) rfl (fun Γ K => ?_)
  have K : Kx layM X Γ RX9 cX9_laysOrder 5 2 (some .boolean) := K
  unfold m_laysOrder at h
  refine g_aload_n (pn := 1) K rfl 0 rfl dX9_laysOrder_0 ?_
  refine g_getr (pn := 4) (j := 21) K rfl fl_X9_78 lm_0 rfl dX9_laysOrder_1 ?_
  refine g_iload_n (pn := 5) K rfl 1 rfl dX9_laysOrder_4 ?_
  refine g_iald (pn := 6) K rfl lm_21 dX9_laysOrder_5 h (fun h => ?_)
  refine g_aload_n (pn := 7) K rfl 0 rfl dX9_laysOrder_6 ?_
  refine g_geti (pn := 10) K rfl fl_X9_91 lm_0 rfl dX9_laysOrder_7 ?_
  refine g_icmp_eq (tgt := 15) (pn := 13) K rfl (by decide) dX9_laysOrder_10 h (fun h => ?_) (fun h => ?_)
  · refine g_iconst (pn := 16) (v := 0) K rfl ic_0 dX9_laysOrder_15 ?_
    refine g_istore_n (pn := 17) (lv' := [(2, .int 0), (0, .ref (X.2.2.2.1 0)), (1, .int a1)]) K rfl dX9_laysOrder_16 rfl (Nat.le_of_ble_eq_true rfl) rfl ?_
    refine g_iconst (pn := 18) (v := 0) K rfl ic_0 dX9_laysOrder_17 ?_
    refine g_istore_n (pn := 19) (lv' := [(3, .int 0), (2, .int 0), (0, .ref (X.2.2.2.1 0)), (1, .int a1)]) K rfl dX9_laysOrder_18 rfl (Nat.le_of_ble_eq_true rfl) rfl ?_
    refine jp_e1 h (fun M1 => G layM X Γ 5 (QM layM X Γ (some (.int (b2i r))) M') 82 [(0, .ref (X.2.2.2.1 0))] [] M1) (fun M1 h => ?_) (fun j2 hj2 h => ?_)
    · refine g_aload_n (pn := 83) K rfl 0 rfl dX9_laysOrder_82 ?_
      refine g_aload_n (pn := 84) K rfl 0 rfl dX9_laysOrder_83 ?_
      refine g_geti (pn := 87) K rfl fl_X9_91 lm_0 rfl dX9_laysOrder_84 ?_
      refine g_puti (pn := 90) K rfl fp_X9_267 lm_0 rfl dX9_laysOrder_87 h (fun M3 h => ?_)
      refine g_iconst (pn := 91) (v := 1) K rfl ic_1 dX9_laysOrder_90 ?_
      exact g_zret K rfl dX9_laysOrder_91 (bq1 (oi2 h).2) (oi2 h).1
    have LP19 : ∀ (fu7 : Nat) (v4 : Int32) (v5 : Int32) (M6 : Mem), m_laysOrder_L19 a1 j2 fu7 v4 v5 M6 = some (M', r) → G layM X Γ 5 (QM layM X Γ (some (.int (b2i r))) M') 19 [(0, .ref (X.2.2.2.1 0)), (1, .int a1), (2, .int v4), (3, .int v5)] [] M6 := by
      intro fu7
      induction fu7 with
      | zero =>
        intro v4 v5 M6 h
        rw [m_laysOrder_L19] at h
        cases h
      | succ fu7 ih7 =>
        intro v4 v5 M6 h
        rw [m_laysOrder_L19] at h
        refine g_iload_n (pn := 20) K rfl 3 rfl dX9_laysOrder_19 ?_
        refine g_aload_n (pn := 21) K rfl 0 rfl dX9_laysOrder_20 ?_
        refine g_geti (pn := 24) K rfl fl_X9_91 lm_0 rfl dX9_laysOrder_21 ?_
        refine g_icmp_ge (tgt := 82) (pn := 27) K rfl (by decide) dX9_laysOrder_24 h (fun h => ?_) (fun h => ?_)
        · refine g_sub [0] rfl ?_
          exact hj2 _ h
        · refine g_aload_n (pn := 28) K rfl 0 rfl dX9_laysOrder_27 ?_
          refine g_getr (pn := 31) (j := 22) K rfl fl_X9_81 lm_0 rfl dX9_laysOrder_28 ?_
          refine g_bipush (pn := 33) (v := 40) K rfl bp_40 dX9_laysOrder_31 ?_
          refine g_iload_n (pn := 34) K rfl 1 rfl dX9_laysOrder_33 ?_
          refine g_imul (pn := 35) K rfl dX9_laysOrder_34 ?_
          refine g_iload_n (pn := 36) K rfl 3 rfl dX9_laysOrder_35 ?_
          refine g_iadd (pn := 37) K rfl dX9_laysOrder_36 ?_
          refine g_iald (pn := 38) K rfl lm_22 dX9_laysOrder_37 h (fun h => ?_)
          refine g_nmi h (fun v8 h => ?_)
          refine g_istore (pn := 40) (lv' := [(4, .int v8), (0, .ref (X.2.2.2.1 0)), (1, .int a1), (2, .int v4), (3, .int v5)]) K rfl dX9_laysOrder_38 (Nat.le_of_ble_eq_true rfl) rfl ?_
          refine g_aload_n (pn := 41) K rfl 1 rfl dX9_laysOrder_40 ?_
          refine g_iload (pn := 43) K rfl 0 rfl dX9_laysOrder_41 ?_
          obtain ⟨v10, hc9, h⟩ := ob_e h
          refine g_callV1 (pn := 46) (As := [.int v8]) (rest := []) (a := 0) K rfl (d' := 1) (Nat.le_of_ble_eq_true rfl) mv_X9_100 (recvO K lm_0 rfl) (w_m_isWall hc9) rfl rfl (Nat.le_of_ble_eq_true rfl) dX9_laysOrder_43 ?_
          refine g_ifB_eq (tgt := 59) (pn := 49) K rfl (by decide) dX9_laysOrder_46 h (fun h => ?_) (fun h => ?_)
          · refine g_iconst (pn := 60) (v := 0) K rfl ic_0 dX9_laysOrder_59 ?_
            exact g_zret K rfl dX9_laysOrder_60 (bq0 (oi2 h).2) (oi2 h).1
          · refine g_iload_n (pn := 50) K rfl 3 rfl dX9_laysOrder_49 ?_
            refine g_iload (pn := 52) K rfl 0 rfl dX9_laysOrder_50 ?_
            refine g_ishr (pn := 53) K rfl dX9_laysOrder_52 ?_
            refine g_iconst (pn := 54) (v := 1) K rfl ic_1 dX9_laysOrder_53 ?_
            refine g_iand (pn := 55) K rfl dX9_laysOrder_54 ?_
            refine g_iconst (pn := 56) (v := 1) K rfl ic_1 dX9_laysOrder_55 ?_
            refine g_icmp_ne (tgt := 61) (pn := 59) K rfl (by decide) dX9_laysOrder_56 h (fun h => ?_) (fun h => ?_)
            · refine g_iload_n (pn := 62) K rfl 3 rfl dX9_laysOrder_61 ?_
              refine g_iconst (pn := 63) (v := 1) K rfl ic_1 dX9_laysOrder_62 ?_
              refine g_iload (pn := 65) K rfl 0 rfl dX9_laysOrder_63 ?_
              refine g_ishl (pn := 66) K rfl dX9_laysOrder_65 ?_
              refine g_ior (pn := 67) K rfl dX9_laysOrder_66 ?_
              refine g_nmi h (fun v11 h => ?_)
              refine g_istore_n (pn := 68) (lv' := [(2, .int v11), (4, .int v8), (0, .ref (X.2.2.2.1 0)), (1, .int a1), (3, .int v5)]) K rfl dX9_laysOrder_67 rfl (Nat.le_of_ble_eq_true rfl) rfl ?_
              refine g_aload_n (pn := 69) K rfl 2 rfl dX9_laysOrder_68 ?_
              refine g_getr (pn := 72) (j := 9) K rfl fl_X9_38 lm_0 rfl dX9_laysOrder_69 ?_
              refine g_iload_n (pn := 73) K rfl 4 rfl dX9_laysOrder_72 ?_
              refine g_iload (pn := 75) K rfl 1 rfl dX9_laysOrder_73 ?_
              refine g_iast (pn := 76) K rfl lm_9 dX9_laysOrder_75 h (fun M12 h => ?_)
              obtain ⟨v13, ev13, h⟩ := bnd_e h
              refine g_iinc (pn := 79) (v := v13) (lv' := [(3, .int v13), (2, .int v11), (4, .int v8), (0, .ref (X.2.2.2.1 0)), (1, .int a1)]) K rfl 4 rfl ii_1 ev13 dX9_laysOrder_76 (Nat.le_of_ble_eq_true rfl) rfl ?_
              refine g_goto (tgt := 19) K (by decide) dX9_laysOrder_79 ?_
              refine g_sub [3, 4, 1, 0] rfl ?_
              exact ih7 _ _ _ h
            · refine g_iconst (pn := 60) (v := 0) K rfl ic_0 dX9_laysOrder_59 ?_
              exact g_zret K rfl dX9_laysOrder_60 (bq0 (oi2 h).2) (oi2 h).1
    refine g_sub [2, 3, 1, 0] rfl ?_
    exact LP19 FU _ _ _ h
  · refine g_iconst (pn := 14) (v := 0) K rfl ic_0 dX9_laysOrder_13 ?_
    exact g_zret K rfl dX9_laysOrder_14 (bq0 (oi2 h).2) (oi2 h).1
set_option maxHeartbeats 4000000 in
set_option maxRecDepth 20000 in
theorem w_m_isSheet {X : XT} {M : Mem} {a1 : Int32} {r : Bool}   (h : m_isSheet a1 = some r) : CT layM X 1 yX9_isSheet cX9_isSheet 1 (some .boolean) [.int a1] M M (some (.int (b2i r))) := by
  refine CT.of rfl (Nat.le_of_ble_eq_true rfl) (lv := [(0, .int a1)]) rfl (fun Γ K => ?_)
  have K : Kx layM X Γ RX9 cX9_isSheet 1 1 (some .boolean) := K
  unfold m_isSheet at h
  refine g_iload_n (pn := 1) K rfl 0 rfl dX9_isSheet_0 ?_
  refine g_i2l (pn := 2) K rfl dX9_isSheet_1 ?_
  refine g_lconst (pn := 3) (v := 0) K rfl lc_0 dX9_isSheet_2 ?_
  refine g_ldc2 (pn := 6) (v := 3) K rfl cl_X9_337 dX9_isSheet_3 ?_
  obtain ⟨v2, hc1, h⟩ := ob_e h
  refine g_callS1 (pn := 9) (As := [.long a1.toInt64, .long 0, .long 3]) (rest := []) K rfl (d' := 0) (Nat.le_of_ble_eq_true rfl) ms_X9_94 (w_m_in hc1) rfl rfl (Nat.le_of_ble_eq_true rfl) dX9_isSheet_6 ?_
  exact g_zret K (narrow_b2i _) dX9_isSheet_9 (bqz (oi h)) rfl
set_option maxHeartbeats 4000000 in
set_option maxRecDepth 20000 in
theorem w_m_order {X : XT} {M : Mem} {a1 : Int32} {a2 : Int32} {M' : Mem} {r : Int32}   (h : m_order M a1 a2 = some (M', r)) : CT layM X 172 yX9_order cX9_order 3 (some .int) [.ref (X.2.2.2.1 0), .int a1, .int a2] M M' (some (.int r)) := by
  refine CT.of rfl (Nat.le_of_ble_eq_true rfl) (lv := [(0, .ref (X.2.2.2.1 0)), (1, .int a1), (2, .int a2)]) rfl (fun Γ K => ?_)
  have K : Kx layM X Γ RX9 cX9_order 3 172 (some .int) := K
  unfold m_order at h
  refine g_iload_n (pn := 1) K rfl 1 rfl dX9_order_0 ?_
  obtain ⟨v2, hc1, h⟩ := ob_e h
  refine g_callS1 (pn := 4) (As := [.int a1]) (rest := []) K rfl (d' := 1) (Nat.le_of_ble_eq_true rfl) ms_X9_303 (w_m_isSheet hc1) rfl rfl (Nat.le_of_ble_eq_true rfl) dX9_order_1 ?_
  refine jp_e1 h (fun M3 => G layM X Γ 3 (QM layM X Γ (some (.int r)) M') 32 [] [] M3) (fun M3 h => ?_) (fun j4 hj4 h => ?_)
  · refine g_ldcw (pn := 35) (v := (-100000)) K rfl cn_X9_296 dX9_order_32 ?_
    exact g_iret K dX9_order_35 (oi2 h).2 (oi2 h).1
  refine g_ifB_eq (tgt := 32) (pn := 7) K rfl (by decide) dX9_order_4 h (fun h => ?_) (fun h => ?_)
  · refine g_sub [] rfl ?_
    exact hj4 _ h
  · refine g_aload_n (pn := 8) K rfl 0 rfl dX9_order_7 ?_
    refine g_iload_n (pn := 9) K rfl 2 rfl dX9_order_8 ?_
    obtain ⟨v6, hc5, h⟩ := ob_e h
    refine g_callV1 (pn := 12) (As := [.int a2]) (rest := []) (a := 0) K rfl (d' := 2) (Nat.le_of_ble_eq_true rfl) mv_X9_293 (recvO K lm_0 rfl) (w_m_isTells hc5) rfl rfl (Nat.le_of_ble_eq_true rfl) dX9_order_9 ?_
    refine g_ifB_eq (tgt := 32) (pn := 15) K rfl (by decide) dX9_order_12 h (fun h => ?_) (fun h => ?_)
    · refine g_sub [] rfl ?_
      exact hj4 _ h
    · refine g_aload_n (pn := 16) K rfl 0 rfl dX9_order_15 ?_
      refine g_getr (pn := 19) (j := 19) K rfl fl_X9_71 lm_0 rfl dX9_order_16 ?_
      refine g_iload_n (pn := 20) K rfl 1 rfl dX9_order_19 ?_
      refine g_zald (pn := 21) K rfl lm_19 dX9_order_20 h (fun h => ?_)
      refine g_if_eq (tgt := 32) (pn := 24) K rfl (by decide) dX9_order_21 h (fun h => ?_) (fun h => ?_)
      · refine g_sub [] rfl ?_
        exact hj4 _ h
      · refine g_aload_n (pn := 25) K rfl 0 rfl dX9_order_24 ?_
        refine g_iload_n (pn := 26) K rfl 1 rfl dX9_order_25 ?_
        obtain ⟨M8, v9, hc7, h⟩ := ob2_e h
        refine g_callV1 (pn := 29) (As := [.int a1]) (rest := []) (a := 0) K rfl (d' := 2) (Nat.le_of_ble_eq_true rfl) mv_X9_306 (recvO K lm_0 rfl) (w_m_laysOrder hc7) rfl rfl (Nat.le_of_ble_eq_true rfl) dX9_order_26 ?_
        refine g_ifB_ne (tgt := 36) (pn := 32) K rfl (by decide) dX9_order_29 h (fun h => ?_) (fun h => ?_)
        · refine g_aload_n (pn := 37) K rfl 0 rfl dX9_order_36 ?_
          obtain ⟨M11, hc10, h⟩ := ob_e h
          refine g_callV0 (pn := 40) (As := []) (rest := []) (a := 0) K rfl (d' := 171) (Nat.le_of_ble_eq_true rfl) mv_X9_280 (recvO K lm_0 rfl) (w_m_gathers hc10) rfl rfl (Nat.le_of_ble_eq_true rfl) dX9_order_37 ?_
          refine g_aload_n (pn := 41) K rfl 0 rfl dX9_order_40 ?_
          obtain ⟨M13, hc12, h⟩ := ob_e h
          refine g_callV0 (pn := 44) (As := []) (rest := []) (a := 0) K rfl (d' := 171) (Nat.le_of_ble_eq_true rfl) mv_X9_283 (recvO K lm_0 rfl) (w_m_lives hc12) rfl rfl (Nat.le_of_ble_eq_true rfl) dX9_order_41 ?_
          refine g_aload_n (pn := 45) K rfl 0 rfl dX9_order_44 ?_
          refine g_iload_n (pn := 46) K rfl 2 rfl dX9_order_45 ?_
          obtain ⟨v15, hc14, h⟩ := ob_e h
          refine g_callV1 (pn := 49) (As := [.int a2]) (rest := []) (a := 0) K rfl (d' := 1) (Nat.le_of_ble_eq_true rfl) mv_X9_300 (recvO K lm_0 rfl) (w_m_tells hc14) rfl rfl (Nat.le_of_ble_eq_true rfl) dX9_order_46 ?_
          exact g_iret K dX9_order_49 (oi2 h).2 (oi2 h).1
        · refine g_sub [] rfl ?_
          exact hj4 _ h
