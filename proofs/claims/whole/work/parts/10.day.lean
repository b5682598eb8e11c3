/-! printed by gen1.py -/
theorem dX7_joined_0 : decode cX7_joined 0 = .ok (.iload_n 0, 1) := by decide +kernel
theorem dX7_joined_1 : decode cX7_joined 1 = .ok (.lookupswitch 107 #[(11, 93), (42, 67), (43, 59), (45, 63), (60, 71), (61, 82)], 59) := by decide +kernel
theorem dX7_joined_60 : decode cX7_joined 60 = .ok (.iload_n 1, 1) := by decide +kernel
theorem dX7_joined_61 : decode cX7_joined 61 = .ok (.iload_n 2, 1) := by decide +kernel
theorem dX7_joined_62 : decode cX7_joined 62 = .ok (.iadd, 1) := by decide +kernel
theorem dX7_joined_63 : decode cX7_joined 63 = .ok (.ireturn, 1) := by decide +kernel
theorem dX7_joined_64 : decode cX7_joined 64 = .ok (.iload_n 1, 1) := by decide +kernel
theorem dX7_joined_65 : decode cX7_joined 65 = .ok (.iload_n 2, 1) := by decide +kernel
theorem dX7_joined_66 : decode cX7_joined 66 = .ok (.isub, 1) := by decide +kernel
theorem dX7_joined_67 : decode cX7_joined 67 = .ok (.ireturn, 1) := by decide +kernel
theorem dX7_joined_68 : decode cX7_joined 68 = .ok (.iload_n 1, 1) := by decide +kernel
theorem dX7_joined_69 : decode cX7_joined 69 = .ok (.iload_n 2, 1) := by decide +kernel
theorem dX7_joined_70 : decode cX7_joined 70 = .ok (.imul, 1) := by decide +kernel
theorem dX7_joined_71 : decode cX7_joined 71 = .ok (.ireturn, 1) := by decide +kernel
theorem dX7_joined_72 : decode cX7_joined 72 = .ok (.iload_n 1, 1) := by decide +kernel
theorem dX7_joined_73 : decode cX7_joined 73 = .ok (.iload_n 2, 1) := by decide +kernel
theorem dX7_joined_74 : decode cX7_joined 74 = .ok (.if_icmp .ge 7, 3) := by decide +kernel
theorem dX7_joined_77 : decode cX7_joined 77 = .ok (.iconst 1, 1) := by decide +kernel
theorem dX7_joined_78 : decode cX7_joined 78 = .ok (.goto 4, 3) := by decide +kernel
theorem dX7_joined_81 : decode cX7_joined 81 = .ok (.iconst 0, 1) := by decide +kernel
theorem dX7_joined_82 : decode cX7_joined 82 = .ok (.ireturn, 1) := by decide +kernel
theorem dX7_joined_83 : decode cX7_joined 83 = .ok (.iload_n 1, 1) := by decide +kernel
theorem dX7_joined_84 : decode cX7_joined 84 = .ok (.iload_n 2, 1) := by decide +kernel
theorem dX7_joined_85 : decode cX7_joined 85 = .ok (.if_icmp .ne 7, 3) := by decide +kernel
theorem dX7_joined_88 : decode cX7_joined 88 = .ok (.iconst 1, 1) := by decide +kernel
theorem dX7_joined_89 : decode cX7_joined 89 = .ok (.goto 4, 3) := by decide +kernel
theorem dX7_joined_92 : decode cX7_joined 92 = .ok (.iconst 0, 1) := by decide +kernel
theorem dX7_joined_93 : decode cX7_joined 93 = .ok (.ireturn, 1) := by decide +kernel
theorem dX7_joined_94 : decode cX7_joined 94 = .ok (.iload_n 1, 1) := by decide +kernel
theorem dX7_joined_95 : decode cX7_joined 95 = .ok (.ifCond .eq 11, 3) := by decide +kernel
theorem dX7_joined_98 : decode cX7_joined 98 = .ok (.iload_n 2, 1) := by decide +kernel
theorem dX7_joined_99 : decode cX7_joined 99 = .ok (.ifCond .eq 7, 3) := by decide +kernel
theorem dX7_joined_102 : decode cX7_joined 102 = .ok (.iconst 1, 1) := by decide +kernel
theorem dX7_joined_103 : decode cX7_joined 103 = .ok (.goto 4, 3) := by decide +kernel
theorem dX7_joined_106 : decode cX7_joined 106 = .ok (.iconst 0, 1) := by decide +kernel
theorem dX7_joined_107 : decode cX7_joined 107 = .ok (.ireturn, 1) := by decide +kernel
theorem dX7_joined_108 : decode cX7_joined 108 = .ok (.iload_n 1, 1) := by decide +kernel
theorem dX7_joined_109 : decode cX7_joined 109 = .ok (.ifCond .ne 7, 3) := by decide +kernel
theorem dX7_joined_112 : decode cX7_joined 112 = .ok (.iload_n 2, 1) := by decide +kernel
theorem dX7_joined_113 : decode cX7_joined 113 = .ok (.ifCond .eq 7, 3) := by decide +kernel
theorem dX7_joined_116 : decode cX7_joined 116 = .ok (.iconst 1, 1) := by decide +kernel
theorem dX7_joined_117 : decode cX7_joined 117 = .ok (.goto 4, 3) := by decide +kernel
theorem dX7_joined_120 : decode cX7_joined 120 = .ok (.iconst 0, 1) := by decide +kernel
theorem dX7_joined_121 : decode cX7_joined 121 = .ok (.ireturn, 1) := by decide +kernel
theorem dX7_value_0 : decode cX7_value 0 = .ok (.iload_n 1, 1) := by decide +kernel
theorem dX7_value_1 : decode cX7_value 1 = .ok (.ifCond .lt 8, 3) := by decide +kernel
theorem dX7_value_4 : decode cX7_value 4 = .ok (.iload_n 1, 1) := by decide +kernel
theorem dX7_value_5 : decode cX7_value 5 = .ok (.iconst 3, 1) := by decide +kernel
theorem dX7_value_6 : decode cX7_value 6 = .ok (.if_icmp .lt 5, 3) := by decide +kernel
theorem dX7_value_9 : decode cX7_value 9 = .ok (.iconst 0, 1) := by decide +kernel
theorem dX7_value_10 : decode cX7_value 10 = .ok (.ireturn, 1) := by decide +kernel
theorem dX7_value_11 : decode cX7_value 11 = .ok (.iconst 0, 1) := by decide +kernel
theorem dX7_value_12 : decode cX7_value 12 = .ok (.istore 4, 2) := by decide +kernel
theorem dX7_value_14 : decode cX7_value 14 = .ok (.iconst 0, 1) := by decide +kernel
theorem dX7_value_15 : decode cX7_value 15 = .ok (.aload_n 0, 1) := by decide +kernel
theorem dX7_value_16 : decode cX7_value 16 = .ok (.getfield 15, 3) := by decide +kernel
theorem dX7_value_19 : decode cX7_value 19 = .ok (.iload_n 1, 1) := by decide +kernel
theorem dX7_value_20 : decode cX7_value 20 = .ok (.iaload, 1) := by decide +kernel
theorem dX7_value_21 : decode cX7_value 21 = .ok (.invokestatic 22, 3) := by decide +kernel
theorem dX7_value_24 : decode cX7_value 24 = .ok (.istore 5, 2) := by decide +kernel
theorem dX7_value_26 : decode cX7_value 26 = .ok (.iload 5, 2) := by decide +kernel
theorem dX7_value_28 : decode cX7_value 28 = .ok (.aload_n 0, 1) := by decide +kernel
theorem dX7_value_29 : decode cX7_value 29 = .ok (.getfield 15, 3) := by decide +kernel
theorem dX7_value_32 : decode cX7_value 32 = .ok (.iload_n 1, 1) := by decide +kernel
theorem dX7_value_33 : decode cX7_value 33 = .ok (.iconst 1, 1) := by decide +kernel
theorem dX7_value_34 : decode cX7_value 34 = .ok (.iadd, 1) := by decide +kernel
theorem dX7_value_35 : decode cX7_value 35 = .ok (.iaload, 1) := by decide +kernel
theorem dX7_value_36 : decode cX7_value 36 = .ok (.if_icmp .ge 172, 3) := by decide +kernel
theorem dX7_value_39 : decode cX7_value 39 = .ok (.iload 5, 2) := by decide +kernel
theorem dX7_value_41 : decode cX7_value 41 = .ok (.sipush 160, 3) := by decide +kernel
theorem dX7_value_44 : decode cX7_value 44 = .ok (.if_icmp .ge 164, 3) := by decide +kernel
theorem dX7_value_47 : decode cX7_value 47 = .ok (.aload_n 0, 1) := by decide +kernel
theorem dX7_value_48 : decode cX7_value 48 = .ok (.getfield 9, 3) := by decide +kernel
theorem dX7_value_51 : decode cX7_value 51 = .ok (.iload 5, 2) := by decide +kernel
theorem dX7_value_53 : decode cX7_value 53 = .ok (.iaload, 1) := by decide +kernel
theorem dX7_value_54 : decode cX7_value 54 = .ok (.istore 6, 2) := by decide +kernel
theorem dX7_value_56 : decode cX7_value 56 = .ok (.iload 6, 2) := by decide +kernel
theorem dX7_value_58 : decode cX7_value 58 = .ok (.bipush (-6), 2) := by decide +kernel
theorem dX7_value_60 : decode cX7_value 60 = .ok (.if_icmp .lt 52, 3) := by decide +kernel
theorem dX7_value_63 : decode cX7_value 63 = .ok (.iload 6, 2) := by decide +kernel
theorem dX7_value_65 : decode cX7_value 65 = .ok (.ineg, 1) := by decide +kernel
theorem dX7_value_66 : decode cX7_value 66 = .ok (.iconst 1, 1) := by decide +kernel
theorem dX7_value_67 : decode cX7_value 67 = .ok (.isub, 1) := by decide +kernel
theorem dX7_value_68 : decode cX7_value 68 = .ok (.istore 7, 2) := by decide +kernel
theorem dX7_value_70 : decode cX7_value 70 = .ok (.iload 4, 2) := by decide +kernel
theorem dX7_value_72 : decode cX7_value 72 = .ok (.aload_n 3, 1) := by decide +kernel
theorem dX7_value_73 : decode cX7_value 73 = .ok (.arraylength, 1) := by decide +kernel
theorem dX7_value_74 : decode cX7_value 74 = .ok (.if_icmp .ge 35, 3) := by decide +kernel
theorem dX7_value_77 : decode cX7_value 77 = .ok (.aload_n 3, 1) := by decide +kernel
theorem dX7_value_78 : decode cX7_value 78 = .ok (.iload 4, 2) := by decide +kernel
theorem dX7_value_80 : decode cX7_value 80 = .ok (.iload 6, 2) := by decide +kernel
theorem dX7_value_82 : decode cX7_value 82 = .ok (.ifCond .lt 8, 3) := by decide +kernel
theorem dX7_value_85 : decode cX7_value 85 = .ok (.iload 6, 2) := by decide +kernel
theorem dX7_value_87 : decode cX7_value 87 = .ok (.goto 18, 3) := by decide +kernel
theorem dX7_value_90 : decode cX7_value 90 = .ok (.iload 7, 2) := by decide +kernel
theorem dX7_value_92 : decode cX7_value 92 = .ok (.aload_n 2, 1) := by decide +kernel
theorem dX7_value_93 : decode cX7_value 93 = .ok (.arraylength, 1) := by decide +kernel
theorem dX7_value_94 : decode cX7_value 94 = .ok (.if_icmp .ge 10, 3) := by decide +kernel
theorem dX7_value_97 : decode cX7_value 97 = .ok (.aload_n 2, 1) := by decide +kernel
theorem dX7_value_98 : decode cX7_value 98 = .ok (.iload 7, 2) := by decide +kernel
theorem dX7_value_100 : decode cX7_value 100 = .ok (.iaload, 1) := by decide +kernel
theorem dX7_value_101 : decode cX7_value 101 = .ok (.goto 4, 3) := by decide +kernel
theorem dX7_value_104 : decode cX7_value 104 = .ok (.iconst 0, 1) := by decide +kernel
theorem dX7_value_105 : decode cX7_value 105 = .ok (.iastore, 1) := by decide +kernel
theorem dX7_value_106 : decode cX7_value 106 = .ok (.iinc 4 1, 3) := by decide +kernel
theorem dX7_value_109 : decode cX7_value 109 = .ok (.goto 93, 3) := by decide +kernel
theorem dX7_value_112 : decode cX7_value 112 = .ok (.iload 6, 2) := by decide +kernel
theorem dX7_value_114 : decode cX7_value 114 = .ok (.bipush (-12), 2) := by decide +kernel
theorem dX7_value_116 : decode cX7_value 116 = .ok (.if_icmp .eq 10, 3) := by decide +kernel
theorem dX7_value_119 : decode cX7_value 119 = .ok (.iload 6, 2) := by decide +kernel
theorem dX7_value_121 : decode cX7_value 121 = .ok (.bipush (-16), 2) := by decide +kernel
theorem dX7_value_123 : decode cX7_value 123 = .ok (.if_icmp .ne 48, 3) := by decide +kernel
theorem dX7_value_126 : decode cX7_value 126 = .ok (.iload 4, 2) := by decide +kernel
theorem dX7_value_128 : decode cX7_value 128 = .ok (.ifCond .le 74, 3) := by decide +kernel
theorem dX7_value_131 : decode cX7_value 131 = .ok (.aload_n 3, 1) := by decide +kernel
theorem dX7_value_132 : decode cX7_value 132 = .ok (.iload 4, 2) := by decide +kernel
theorem dX7_value_134 : decode cX7_value 134 = .ok (.iconst 1, 1) := by decide +kernel
theorem dX7_value_135 : decode cX7_value 135 = .ok (.isub, 1) := by decide +kernel
theorem dX7_value_136 : decode cX7_value 136 = .ok (.iload 6, 2) := by decide +kernel
theorem dX7_value_138 : decode cX7_value 138 = .ok (.bipush (-16), 2) := by decide +kernel
theorem dX7_value_140 : decode cX7_value 140 = .ok (.if_icmp .ne 13, 3) := by decide +kernel
theorem dX7_value_143 : decode cX7_value 143 = .ok (.aload_n 3, 1) := by decide +kernel
theorem dX7_value_144 : decode cX7_value 144 = .ok (.iload 4, 2) := by decide +kernel
theorem dX7_value_146 : decode cX7_value 146 = .ok (.iconst 1, 1) := by decide +kernel
theorem dX7_value_147 : decode cX7_value 147 = .ok (.isub, 1) := by decide +kernel
theorem dX7_value_148 : decode cX7_value 148 = .ok (.iaload, 1) := by decide +kernel
theorem dX7_value_149 : decode cX7_value 149 = .ok (.ineg, 1) := by decide +kernel
theorem dX7_value_150 : decode cX7_value 150 = .ok (.goto 17, 3) := by decide +kernel
theorem dX7_value_153 : decode cX7_value 153 = .ok (.aload_n 3, 1) := by decide +kernel
theorem dX7_value_154 : decode cX7_value 154 = .ok (.iload 4, 2) := by decide +kernel
theorem dX7_value_156 : decode cX7_value 156 = .ok (.iconst 1, 1) := by decide +kernel
theorem dX7_value_157 : decode cX7_value 157 = .ok (.isub, 1) := by decide +kernel
theorem dX7_value_158 : decode cX7_value 158 = .ok (.iaload, 1) := by decide +kernel
theorem dX7_value_159 : decode cX7_value 159 = .ok (.ifCond .ne 7, 3) := by decide +kernel
theorem dX7_value_162 : decode cX7_value 162 = .ok (.iconst 1, 1) := by decide +kernel
theorem dX7_value_163 : decode cX7_value 163 = .ok (.goto 4, 3) := by decide +kernel
theorem dX7_value_166 : decode cX7_value 166 = .ok (.iconst 0, 1) := by decide +kernel
theorem dX7_value_167 : decode cX7_value 167 = .ok (.iastore, 1) := by decide +kernel
theorem dX7_value_168 : decode cX7_value 168 = .ok (.goto 34, 3) := by decide +kernel
theorem dX7_value_171 : decode cX7_value 171 = .ok (.iload 4, 2) := by decide +kernel
theorem dX7_value_173 : decode cX7_value 173 = .ok (.iconst 1, 1) := by decide +kernel
theorem dX7_value_174 : decode cX7_value 174 = .ok (.if_icmp .le 28, 3) := by decide +kernel
theorem dX7_value_177 : decode cX7_value 177 = .ok (.iinc 4 (-1), 3) := by decide +kernel
theorem dX7_value_180 : decode cX7_value 180 = .ok (.aload_n 3, 1) := by decide +kernel
theorem dX7_value_181 : decode cX7_value 181 = .ok (.iload 4, 2) := by decide +kernel
theorem dX7_value_183 : decode cX7_value 183 = .ok (.iconst 1, 1) := by decide +kernel
theorem dX7_value_184 : decode cX7_value 184 = .ok (.isub, 1) := by decide +kernel
theorem dX7_value_185 : decode cX7_value 185 = .ok (.iload 6, 2) := by decide +kernel
theorem dX7_value_187 : decode cX7_value 187 = .ok (.ineg, 1) := by decide +kernel
theorem dX7_value_188 : decode cX7_value 188 = .ok (.aload_n 3, 1) := by decide +kernel
theorem dX7_value_189 : decode cX7_value 189 = .ok (.iload 4, 2) := by decide +kernel
theorem dX7_value_191 : decode cX7_value 191 = .ok (.iconst 1, 1) := by decide +kernel
theorem dX7_value_192 : decode cX7_value 192 = .ok (.isub, 1) := by decide +kernel
theorem dX7_value_193 : decode cX7_value 193 = .ok (.iaload, 1) := by decide +kernel
theorem dX7_value_194 : decode cX7_value 194 = .ok (.aload_n 3, 1) := by decide +kernel
theorem dX7_value_195 : decode cX7_value 195 = .ok (.iload 4, 2) := by decide +kernel
theorem dX7_value_197 : decode cX7_value 197 = .ok (.iaload, 1) := by decide +kernel
theorem dX7_value_198 : decode cX7_value 198 = .ok (.invokestatic 28, 3) := by decide +kernel
theorem dX7_value_201 : decode cX7_value 201 = .ok (.iastore, 1) := by decide +kernel
theorem dX7_value_202 : decode cX7_value 202 = .ok (.iinc 5 1, 3) := by decide +kernel
theorem dX7_value_205 : decode cX7_value 205 = .ok (.goto (-179), 3) := by decide +kernel
theorem dX7_value_208 : decode cX7_value 208 = .ok (.iload 4, 2) := by decide +kernel
theorem dX7_value_210 : decode cX7_value 210 = .ok (.ifCond .le 12, 3) := by decide +kernel
theorem dX7_value_213 : decode cX7_value 213 = .ok (.aload_n 3, 1) := by decide +kernel
theorem dX7_value_214 : decode cX7_value 214 = .ok (.iload 4, 2) := by decide +kernel
theorem dX7_value_216 : decode cX7_value 216 = .ok (.iconst 1, 1) := by decide +kernel
theorem dX7_value_217 : decode cX7_value 217 = .ok (.isub, 1) := by decide +kernel
theorem dX7_value_218 : decode cX7_value 218 = .ok (.iaload, 1) := by decide +kernel
theorem dX7_value_219 : decode cX7_value 219 = .ok (.goto 4, 3) := by decide +kernel
theorem dX7_value_222 : decode cX7_value 222 = .ok (.iconst 0, 1) := by decide +kernel
theorem dX7_value_223 : decode cX7_value 223 = .ok (.ireturn, 1) := by decide +kernel
theorem dX0_swap_0 : decode cX0_swap 0 = .ok (.aload_n 0, 1) := by decide +kernel
theorem dX0_swap_1 : decode cX0_swap 1 = .ok (.getfield 25, 3) := by decide +kernel
theorem dX0_swap_4 : decode cX0_swap 4 = .ok (.iload_n 1, 1) := by decide +kernel
theorem dX0_swap_5 : decode cX0_swap 5 = .ok (.iaload, 1) := by decide +kernel
theorem dX0_swap_6 : decode cX0_swap 6 = .ok (.istore_n 3, 1) := by decide +kernel
theorem dX0_swap_7 : decode cX0_swap 7 = .ok (.aload_n 0, 1) := by decide +kernel
theorem dX0_swap_8 : decode cX0_swap 8 = .ok (.getfield 25, 3) := by decide +kernel
theorem dX0_swap_11 : decode cX0_swap 11 = .ok (.iload_n 1, 1) := by decide +kernel
theorem dX0_swap_12 : decode cX0_swap 12 = .ok (.aload_n 0, 1) := by decide +kernel
theorem dX0_swap_13 : decode cX0_swap 13 = .ok (.getfield 25, 3) := by decide +kernel
theorem dX0_swap_16 : decode cX0_swap 16 = .ok (.iload_n 2, 1) := by decide +kernel
theorem dX0_swap_17 : decode cX0_swap 17 = .ok (.iaload, 1) := by decide +kernel
theorem dX0_swap_18 : decode cX0_swap 18 = .ok (.iastore, 1) := by decide +kernel
theorem dX0_swap_19 : decode cX0_swap 19 = .ok (.aload_n 0, 1) := by decide +kernel
theorem dX0_swap_20 : decode cX0_swap 20 = .ok (.getfield 25, 3) := by decide +kernel
theorem dX0_swap_23 : decode cX0_swap 23 = .ok (.iload_n 2, 1) := by decide +kernel
theorem dX0_swap_24 : decode cX0_swap 24 = .ok (.iload_n 3, 1) := by decide +kernel
theorem dX0_swap_25 : decode cX0_swap 25 = .ok (.iastore, 1) := by decide +kernel
theorem dX0_swap_26 : decode cX0_swap 26 = .ok (.return_, 1) := by decide +kernel
theorem dX0_place_0 : decode cX0_place 0 = .ok (.iload_n 1, 1) := by decide +kernel
theorem dX0_place_1 : decode cX0_place 1 = .ok (.ifCond .lt 26, 3) := by decide +kernel
theorem dX0_place_4 : decode cX0_place 4 = .ok (.iload_n 1, 1) := by decide +kernel
theorem dX0_place_5 : decode cX0_place 5 = .ok (.bipush 6, 2) := by decide +kernel
theorem dX0_place_7 : decode cX0_place 7 = .ok (.if_icmp .ge 20, 3) := by decide +kernel
theorem dX0_place_10 : decode cX0_place 10 = .ok (.iload_n 2, 1) := by decide +kernel
theorem dX0_place_11 : decode cX0_place 11 = .ok (.ifCond .lt 16, 3) := by decide +kernel
theorem dX0_place_14 : decode cX0_place 14 = .ok (.iload_n 2, 1) := by decide +kernel
theorem dX0_place_15 : decode cX0_place 15 = .ok (.bipush 6, 2) := by decide +kernel
theorem dX0_place_17 : decode cX0_place 17 = .ok (.if_icmp .ge 10, 3) := by decide +kernel
theorem dX0_place_20 : decode cX0_place 20 = .ok (.aload_n 0, 1) := by decide +kernel
theorem dX0_place_21 : decode cX0_place 21 = .ok (.getfield 25, 3) := by decide +kernel
theorem dX0_place_24 : decode cX0_place 24 = .ok (.iload_n 1, 1) := by decide +kernel
theorem dX0_place_25 : decode cX0_place 25 = .ok (.iload_n 2, 1) := by decide +kernel
theorem dX0_place_26 : decode cX0_place 26 = .ok (.iastore, 1) := by decide +kernel
theorem dX0_place_27 : decode cX0_place 27 = .ok (.return_, 1) := by decide +kernel
theorem dX0_tells_0 : decode cX0_tells 0 = .ok (.aload_n 0, 1) := by decide +kernel
theorem dX0_tells_1 : decode cX0_tells 1 = .ok (.getfield 12, 3) := by decide +kernel
theorem dX0_tells_4 : decode cX0_tells 4 = .ok (.getfield 83, 3) := by decide +kernel
theorem dX0_tells_7 : decode cX0_tells 7 = .ok (.istore 4, 2) := by decide +kernel
theorem dX0_tells_9 : decode cX0_tells 9 = .ok (.iload 4, 2) := by decide +kernel
theorem dX0_tells_11 : decode cX0_tells 11 = .ok (.ifCond .lt 23, 3) := by decide +kernel
theorem dX0_tells_14 : decode cX0_tells 14 = .ok (.iload 4, 2) := by decide +kernel
theorem dX0_tells_16 : decode cX0_tells 16 = .ok (.aload_n 0, 1) := by decide +kernel
theorem dX0_tells_17 : decode cX0_tells 17 = .ok (.getfield 49, 3) := by decide +kernel
theorem dX0_tells_20 : decode cX0_tells 20 = .ok (.arraylength, 1) := by decide +kernel
theorem dX0_tells_21 : decode cX0_tells 21 = .ok (.if_icmp .ge 13, 3) := by decide +kernel
theorem dX0_tells_24 : decode cX0_tells 24 = .ok (.aload_n 0, 1) := by decide +kernel
theorem dX0_tells_25 : decode cX0_tells 25 = .ok (.getfield 49, 3) := by decide +kernel
theorem dX0_tells_28 : decode cX0_tells 28 = .ok (.iload 4, 2) := by decide +kernel
theorem dX0_tells_30 : decode cX0_tells 30 = .ok (.aaload, 1) := by decide +kernel
theorem dX0_tells_31 : decode cX0_tells 31 = .ok (.ifnonnull 5, 3) := by decide +kernel
theorem dX0_tells_34 : decode cX0_tells 34 = .ok (.iconst 0, 1) := by decide +kernel
theorem dX0_tells_35 : decode cX0_tells 35 = .ok (.ireturn, 1) := by decide +kernel
theorem dX0_tells_36 : decode cX0_tells 36 = .ok (.aload_n 0, 1) := by decide +kernel
theorem dX0_tells_37 : decode cX0_tells 37 = .ok (.getfield 22, 3) := by decide +kernel
theorem dX0_tells_40 : decode cX0_tells 40 = .ok (.iconst 0, 1) := by decide +kernel
theorem dX0_tells_41 : decode cX0_tells 41 = .ok (.aload_n 0, 1) := by decide +kernel
theorem dX0_tells_42 : decode cX0_tells 42 = .ok (.getfield 12, 3) := by decide +kernel
theorem dX0_tells_45 : decode cX0_tells 45 = .ok (.getfield 86, 3) := by decide +kernel
theorem dX0_tells_48 : decode cX0_tells 48 = .ok (.iconst 0, 1) := by decide +kernel
theorem dX0_tells_49 : decode cX0_tells 49 = .ok (.iaload, 1) := by decide +kernel
theorem dX0_tells_50 : decode cX0_tells 50 = .ok (.iastore, 1) := by decide +kernel
theorem dX0_tells_51 : decode cX0_tells 51 = .ok (.aload_n 0, 1) := by decide +kernel
theorem dX0_tells_52 : decode cX0_tells 52 = .ok (.getfield 22, 3) := by decide +kernel
theorem dX0_tells_55 : decode cX0_tells 55 = .ok (.iconst 1, 1) := by decide +kernel
theorem dX0_tells_56 : decode cX0_tells 56 = .ok (.aload_n 0, 1) := by decide +kernel
theorem dX0_tells_57 : decode cX0_tells 57 = .ok (.getfield 12, 3) := by decide +kernel
theorem dX0_tells_60 : decode cX0_tells 60 = .ok (.getfield 86, 3) := by decide +kernel
theorem dX0_tells_63 : decode cX0_tells 63 = .ok (.iconst 1, 1) := by decide +kernel
theorem dX0_tells_64 : decode cX0_tells 64 = .ok (.iaload, 1) := by decide +kernel
theorem dX0_tells_65 : decode cX0_tells 65 = .ok (.iastore, 1) := by decide +kernel
theorem dX0_tells_66 : decode cX0_tells 66 = .ok (.aload_n 0, 1) := by decide +kernel
theorem dX0_tells_67 : decode cX0_tells 67 = .ok (.getfield 22, 3) := by decide +kernel
theorem dX0_tells_70 : decode cX0_tells 70 = .ok (.iconst 2, 1) := by decide +kernel
theorem dX0_tells_71 : decode cX0_tells 71 = .ok (.aload_n 0, 1) := by decide +kernel
theorem dX0_tells_72 : decode cX0_tells 72 = .ok (.getfield 12, 3) := by decide +kernel
theorem dX0_tells_75 : decode cX0_tells 75 = .ok (.getfield 86, 3) := by decide +kernel
theorem dX0_tells_78 : decode cX0_tells 78 = .ok (.iconst 2, 1) := by decide +kernel
theorem dX0_tells_79 : decode cX0_tells 79 = .ok (.iaload, 1) := by decide +kernel
theorem dX0_tells_80 : decode cX0_tells 80 = .ok (.iastore, 1) := by decide +kernel
theorem dX0_tells_81 : decode cX0_tells 81 = .ok (.aload_n 0, 1) := by decide +kernel
theorem dX0_tells_82 : decode cX0_tells 82 = .ok (.getfield 22, 3) := by decide +kernel
theorem dX0_tells_85 : decode cX0_tells 85 = .ok (.iconst 3, 1) := by decide +kernel
theorem dX0_tells_86 : decode cX0_tells 86 = .ok (.aload_n 0, 1) := by decide +kernel
theorem dX0_tells_87 : decode cX0_tells 87 = .ok (.getfield 12, 3) := by decide +kernel
theorem dX0_tells_90 : decode cX0_tells 90 = .ok (.getfield 78, 3) := by decide +kernel
theorem dX0_tells_93 : decode cX0_tells 93 = .ok (.iload_n 2, 1) := by decide +kernel
theorem dX0_tells_94 : decode cX0_tells 94 = .ok (.iaload, 1) := by decide +kernel
theorem dX0_tells_95 : decode cX0_tells 95 = .ok (.iastore, 1) := by decide +kernel
theorem dX0_tells_96 : decode cX0_tells 96 = .ok (.aload_n 0, 1) := by decide +kernel
theorem dX0_tells_97 : decode cX0_tells 97 = .ok (.getfield 22, 3) := by decide +kernel
theorem dX0_tells_100 : decode cX0_tells 100 = .ok (.iconst 4, 1) := by decide +kernel
theorem dX0_tells_101 : decode cX0_tells 101 = .ok (.iload_n 3, 1) := by decide +kernel
theorem dX0_tells_102 : decode cX0_tells 102 = .ok (.iastore, 1) := by decide +kernel
theorem dX0_tells_103 : decode cX0_tells 103 = .ok (.aload_n 0, 1) := by decide +kernel
theorem dX0_tells_104 : decode cX0_tells 104 = .ok (.getfield 22, 3) := by decide +kernel
theorem dX0_tells_107 : decode cX0_tells 107 = .ok (.iconst 5, 1) := by decide +kernel
theorem dX0_tells_108 : decode cX0_tells 108 = .ok (.aload_n 0, 1) := by decide +kernel
theorem dX0_tells_109 : decode cX0_tells 109 = .ok (.getfield 12, 3) := by decide +kernel
theorem dX0_tells_112 : decode cX0_tells 112 = .ok (.getfield 60, 3) := by decide +kernel
theorem dX0_tells_115 : decode cX0_tells 115 = .ok (.iload_n 2, 1) := by decide +kernel
theorem dX0_tells_116 : decode cX0_tells 116 = .ok (.iaload, 1) := by decide +kernel
theorem dX0_tells_117 : decode cX0_tells 117 = .ok (.iastore, 1) := by decide +kernel
theorem dX0_tells_118 : decode cX0_tells 118 = .ok (.aload_n 0, 1) := by decide +kernel
theorem dX0_tells_119 : decode cX0_tells 119 = .ok (.getfield 49, 3) := by decide +kernel
theorem dX0_tells_122 : decode cX0_tells 122 = .ok (.iload 4, 2) := by decide +kernel
theorem dX0_tells_124 : decode cX0_tells 124 = .ok (.aaload, 1) := by decide +kernel
theorem dX0_tells_125 : decode cX0_tells 125 = .ok (.iload_n 1, 1) := by decide +kernel
theorem dX0_tells_126 : decode cX0_tells 126 = .ok (.aload_n 0, 1) := by decide +kernel
theorem dX0_tells_127 : decode cX0_tells 127 = .ok (.getfield 22, 3) := by decide +kernel
theorem dX0_tells_130 : decode cX0_tells 130 = .ok (.aload_n 0, 1) := by decide +kernel
theorem dX0_tells_131 : decode cX0_tells 131 = .ok (.getfield 18, 3) := by decide +kernel
theorem dX0_tells_134 : decode cX0_tells 134 = .ok (.invokevirtual 89, 3) := by decide +kernel
theorem dX0_tells_137 : decode cX0_tells 137 = .ok (.istore 5, 2) := by decide +kernel
theorem dX0_tells_139 : decode cX0_tells 139 = .ok (.getstatic 95, 3) := by decide +kernel
theorem dX0_tells_142 : decode cX0_tells 142 = .ok (.iload_n 1, 1) := by decide +kernel
theorem dX0_tells_143 : decode cX0_tells 143 = .ok (.iaload, 1) := by decide +kernel
theorem dX0_tells_144 : decode cX0_tells 144 = .ok (.getstatic 98, 3) := by decide +kernel
theorem dX0_tells_147 : decode cX0_tells 147 = .ok (.iload_n 1, 1) := by decide +kernel
theorem dX0_tells_148 : decode cX0_tells 148 = .ok (.iaload, 1) := by decide +kernel
theorem dX0_tells_149 : decode cX0_tells 149 = .ok (.iload 5, 2) := by decide +kernel
theorem dX0_tells_151 : decode cX0_tells 151 = .ok (.invokestatic 101, 3) := by decide +kernel
theorem dX0_tells_154 : decode cX0_tells 154 = .ok (.invokestatic 106, 3) := by decide +kernel
theorem dX0_tells_157 : decode cX0_tells 157 = .ok (.ireturn, 1) := by decide +kernel
theorem dX0_reckon_0 : decode cX0_reckon 0 = .ok (.iconst 0, 1) := by decide +kernel
theorem dX0_reckon_1 : decode cX0_reckon 1 = .ok (.istore_n 1, 1) := by decide +kernel
theorem dX0_reckon_2 : decode cX0_reckon 2 = .ok (.iload_n 1, 1) := by decide +kernel
theorem dX0_reckon_3 : decode cX0_reckon 3 = .ok (.aload_n 0, 1) := by decide +kernel
theorem dX0_reckon_4 : decode cX0_reckon 4 = .ok (.getfield 12, 3) := by decide +kernel
theorem dX0_reckon_7 : decode cX0_reckon 7 = .ok (.getfield 53, 3) := by decide +kernel
theorem dX0_reckon_10 : decode cX0_reckon 10 = .ok (.if_icmp .ge 108, 3) := by decide +kernel
theorem dX0_reckon_13 : decode cX0_reckon 13 = .ok (.iload_n 1, 1) := by decide +kernel
theorem dX0_reckon_14 : decode cX0_reckon 14 = .ok (.bipush 6, 2) := by decide +kernel
theorem dX0_reckon_16 : decode cX0_reckon 16 = .ok (.if_icmp .ge 102, 3) := by decide +kernel
theorem dX0_reckon_19 : decode cX0_reckon 19 = .ok (.aload_n 0, 1) := by decide +kernel
theorem dX0_reckon_20 : decode cX0_reckon 20 = .ok (.getfield 12, 3) := by decide +kernel
theorem dX0_reckon_23 : decode cX0_reckon 23 = .ok (.getfield 57, 3) := by decide +kernel
theorem dX0_reckon_26 : decode cX0_reckon 26 = .ok (.iload_n 1, 1) := by decide +kernel
theorem dX0_reckon_27 : decode cX0_reckon 27 = .ok (.iaload, 1) := by decide +kernel
theorem dX0_reckon_28 : decode cX0_reckon 28 = .ok (.istore_n 2, 1) := by decide +kernel
theorem dX0_reckon_29 : decode cX0_reckon 29 = .ok (.aload_n 0, 1) := by decide +kernel
theorem dX0_reckon_30 : decode cX0_reckon 30 = .ok (.getfield 12, 3) := by decide +kernel
theorem dX0_reckon_33 : decode cX0_reckon 33 = .ok (.getfield 60, 3) := by decide +kernel
theorem dX0_reckon_36 : decode cX0_reckon 36 = .ok (.iload_n 1, 1) := by decide +kernel
theorem dX0_reckon_37 : decode cX0_reckon 37 = .ok (.iaload, 1) := by decide +kernel
theorem dX0_reckon_38 : decode cX0_reckon 38 = .ok (.istore_n 3, 1) := by decide +kernel
theorem dX0_reckon_39 : decode cX0_reckon 39 = .ok (.aload_n 0, 1) := by decide +kernel
theorem dX0_reckon_40 : decode cX0_reckon 40 = .ok (.getfield 28, 3) := by decide +kernel
theorem dX0_reckon_43 : decode cX0_reckon 43 = .ok (.iload_n 1, 1) := by decide +kernel
theorem dX0_reckon_44 : decode cX0_reckon 44 = .ok (.iload_n 2, 1) := by decide +kernel
theorem dX0_reckon_45 : decode cX0_reckon 45 = .ok (.iload_n 3, 1) := by decide +kernel
theorem dX0_reckon_46 : decode cX0_reckon 46 = .ok (.aload_n 0, 1) := by decide +kernel
theorem dX0_reckon_47 : decode cX0_reckon 47 = .ok (.getfield 12, 3) := by decide +kernel
theorem dX0_reckon_50 : decode cX0_reckon 50 = .ok (.getfield 63, 3) := by decide +kernel
theorem dX0_reckon_53 : decode cX0_reckon 53 = .ok (.iload_n 1, 1) := by decide +kernel
theorem dX0_reckon_54 : decode cX0_reckon 54 = .ok (.iaload, 1) := by decide +kernel
theorem dX0_reckon_55 : decode cX0_reckon 55 = .ok (.iconst 1, 1) := by decide +kernel
theorem dX0_reckon_56 : decode cX0_reckon 56 = .ok (.if_icmp .ne 7, 3) := by decide +kernel
theorem dX0_reckon_59 : decode cX0_reckon 59 = .ok (.iconst 1, 1) := by decide +kernel
theorem dX0_reckon_60 : decode cX0_reckon 60 = .ok (.goto 4, 3) := by decide +kernel
theorem dX0_reckon_63 : decode cX0_reckon 63 = .ok (.iconst 0, 1) := by decide +kernel
theorem dX0_reckon_64 : decode cX0_reckon 64 = .ok (.aload_n 0, 1) := by decide +kernel
theorem dX0_reckon_65 : decode cX0_reckon 65 = .ok (.iconst 0, 1) := by decide +kernel
theorem dX0_reckon_66 : decode cX0_reckon 66 = .ok (.iload_n 1, 1) := by decide +kernel
theorem dX0_reckon_67 : decode cX0_reckon 67 = .ok (.iconst 0, 1) := by decide +kernel
theorem dX0_reckon_68 : decode cX0_reckon 68 = .ok (.invokevirtual 66, 3) := by decide +kernel
theorem dX0_reckon_71 : decode cX0_reckon 71 = .ok (.invokestatic 70, 3) := by decide +kernel
theorem dX0_reckon_74 : decode cX0_reckon 74 = .ok (.iastore, 1) := by decide +kernel
theorem dX0_reckon_75 : decode cX0_reckon 75 = .ok (.aload_n 0, 1) := by decide +kernel
theorem dX0_reckon_76 : decode cX0_reckon 76 = .ok (.getfield 31, 3) := by decide +kernel
theorem dX0_reckon_79 : decode cX0_reckon 79 = .ok (.iload_n 1, 1) := by decide +kernel
theorem dX0_reckon_80 : decode cX0_reckon 80 = .ok (.iload_n 2, 1) := by decide +kernel
theorem dX0_reckon_81 : decode cX0_reckon 81 = .ok (.iload_n 3, 1) := by decide +kernel
theorem dX0_reckon_82 : decode cX0_reckon 82 = .ok (.invokestatic 75, 3) := by decide +kernel
theorem dX0_reckon_85 : decode cX0_reckon 85 = .ok (.iastore, 1) := by decide +kernel
theorem dX0_reckon_86 : decode cX0_reckon 86 = .ok (.aload_n 0, 1) := by decide +kernel
theorem dX0_reckon_87 : decode cX0_reckon 87 = .ok (.getfield 34, 3) := by decide +kernel
theorem dX0_reckon_90 : decode cX0_reckon 90 = .ok (.iload_n 1, 1) := by decide +kernel
theorem dX0_reckon_91 : decode cX0_reckon 91 = .ok (.iload_n 2, 1) := by decide +kernel
theorem dX0_reckon_92 : decode cX0_reckon 92 = .ok (.aload_n 0, 1) := by decide +kernel
theorem dX0_reckon_93 : decode cX0_reckon 93 = .ok (.getfield 12, 3) := by decide +kernel
theorem dX0_reckon_96 : decode cX0_reckon 96 = .ok (.getfield 78, 3) := by decide +kernel
theorem dX0_reckon_99 : decode cX0_reckon 99 = .ok (.iload_n 1, 1) := by decide +kernel
theorem dX0_reckon_100 : decode cX0_reckon 100 = .ok (.iaload, 1) := by decide +kernel
theorem dX0_reckon_101 : decode cX0_reckon 101 = .ok (.aload_n 0, 1) := by decide +kernel
theorem dX0_reckon_102 : decode cX0_reckon 102 = .ok (.iconst 1, 1) := by decide +kernel
theorem dX0_reckon_103 : decode cX0_reckon 103 = .ok (.iload_n 1, 1) := by decide +kernel
theorem dX0_reckon_104 : decode cX0_reckon 104 = .ok (.iconst 0, 1) := by decide +kernel
theorem dX0_reckon_105 : decode cX0_reckon 105 = .ok (.invokevirtual 66, 3) := by decide +kernel
theorem dX0_reckon_108 : decode cX0_reckon 108 = .ok (.invokestatic 81, 3) := by decide +kernel
theorem dX0_reckon_111 : decode cX0_reckon 111 = .ok (.iastore, 1) := by decide +kernel
theorem dX0_reckon_112 : decode cX0_reckon 112 = .ok (.iinc 1 1, 3) := by decide +kernel
theorem dX0_reckon_115 : decode cX0_reckon 115 = .ok (.goto (-113), 3) := by decide +kernel
theorem dX0_reckon_118 : decode cX0_reckon 118 = .ok (.return_, 1) := by decide +kernel
theorem dX0_dawn_0 : decode cX0_dawn 0 = .ok (.aload_n 0, 1) := by decide +kernel
theorem dX0_dawn_1 : decode cX0_dawn 1 = .ok (.iconst 0, 1) := by decide +kernel
theorem dX0_dawn_2 : decode cX0_dawn 2 = .ok (.putfield 130, 3) := by decide +kernel
theorem dX0_dawn_5 : decode cX0_dawn 5 = .ok (.aload_n 0, 1) := by decide +kernel
theorem dX0_dawn_6 : decode cX0_dawn 6 = .ok (.iconst 0, 1) := by decide +kernel
theorem dX0_dawn_7 : decode cX0_dawn 7 = .ok (.putfield 112, 3) := by decide +kernel
theorem dX0_dawn_10 : decode cX0_dawn 10 = .ok (.aload_n 0, 1) := by decide +kernel
theorem dX0_dawn_11 : decode cX0_dawn 11 = .ok (.iconst 0, 1) := by decide +kernel
theorem dX0_dawn_12 : decode cX0_dawn 12 = .ok (.putfield 115, 3) := by decide +kernel
theorem dX0_dawn_15 : decode cX0_dawn 15 = .ok (.aload_n 0, 1) := by decide +kernel
theorem dX0_dawn_16 : decode cX0_dawn 16 = .ok (.iconst 0, 1) := by decide +kernel
theorem dX0_dawn_17 : decode cX0_dawn 17 = .ok (.putfield 139, 3) := by decide +kernel
theorem dX0_dawn_20 : decode cX0_dawn 20 = .ok (.aload_n 0, 1) := by decide +kernel
theorem dX0_dawn_21 : decode cX0_dawn 21 = .ok (.iconst 0, 1) := by decide +kernel
theorem dX0_dawn_22 : decode cX0_dawn 22 = .ok (.putfield 142, 3) := by decide +kernel
theorem dX0_dawn_25 : decode cX0_dawn 25 = .ok (.iconst 0, 1) := by decide +kernel
theorem dX0_dawn_26 : decode cX0_dawn 26 = .ok (.istore_n 1, 1) := by decide +kernel
theorem dX0_dawn_27 : decode cX0_dawn 27 = .ok (.iload_n 1, 1) := by decide +kernel
theorem dX0_dawn_28 : decode cX0_dawn 28 = .ok (.bipush 6, 2) := by decide +kernel
theorem dX0_dawn_30 : decode cX0_dawn 30 = .ok (.if_icmp .ge 37, 3) := by decide +kernel
theorem dX0_dawn_33 : decode cX0_dawn 33 = .ok (.aload_n 0, 1) := by decide +kernel
theorem dX0_dawn_34 : decode cX0_dawn 34 = .ok (.getfield 37, 3) := by decide +kernel
theorem dX0_dawn_37 : decode cX0_dawn 37 = .ok (.iload_n 1, 1) := by decide +kernel
theorem dX0_dawn_38 : decode cX0_dawn 38 = .ok (.iconst (-1), 1) := by decide +kernel
theorem dX0_dawn_39 : decode cX0_dawn 39 = .ok (.iastore, 1) := by decide +kernel
theorem dX0_dawn_40 : decode cX0_dawn 40 = .ok (.aload_n 0, 1) := by decide +kernel
theorem dX0_dawn_41 : decode cX0_dawn 41 = .ok (.getfield 40, 3) := by decide +kernel
theorem dX0_dawn_44 : decode cX0_dawn 44 = .ok (.iload_n 1, 1) := by decide +kernel
theorem dX0_dawn_45 : decode cX0_dawn 45 = .ok (.iconst (-1), 1) := by decide +kernel
theorem dX0_dawn_46 : decode cX0_dawn 46 = .ok (.iastore, 1) := by decide +kernel
theorem dX0_dawn_47 : decode cX0_dawn 47 = .ok (.aload_n 0, 1) := by decide +kernel
theorem dX0_dawn_48 : decode cX0_dawn 48 = .ok (.getfield 43, 3) := by decide +kernel
theorem dX0_dawn_51 : decode cX0_dawn 51 = .ok (.iload_n 1, 1) := by decide +kernel
theorem dX0_dawn_52 : decode cX0_dawn 52 = .ok (.iconst (-1), 1) := by decide +kernel
theorem dX0_dawn_53 : decode cX0_dawn 53 = .ok (.iastore, 1) := by decide +kernel
theorem dX0_dawn_54 : decode cX0_dawn 54 = .ok (.aload_n 0, 1) := by decide +kernel
theorem dX0_dawn_55 : decode cX0_dawn 55 = .ok (.getfield 46, 3) := by decide +kernel
theorem dX0_dawn_58 : decode cX0_dawn 58 = .ok (.iload_n 1, 1) := by decide +kernel
theorem dX0_dawn_59 : decode cX0_dawn 59 = .ok (.iconst 0, 1) := by decide +kernel
theorem dX0_dawn_60 : decode cX0_dawn 60 = .ok (.iastore, 1) := by decide +kernel
theorem dX0_dawn_61 : decode cX0_dawn 61 = .ok (.iinc 1 1, 3) := by decide +kernel
theorem dX0_dawn_64 : decode cX0_dawn 64 = .ok (.goto (-37), 3) := by decide +kernel
theorem dX0_dawn_67 : decode cX0_dawn 67 = .ok (.return_, 1) := by decide +kernel
theorem dX0_firstRipe_0 : decode cX0_firstRipe 0 = .ok (.iconst (-1), 1) := by decide +kernel
theorem dX0_firstRipe_1 : decode cX0_firstRipe 1 = .ok (.istore_n 1, 1) := by decide +kernel
theorem dX0_firstRipe_2 : decode cX0_firstRipe 2 = .ok (.iconst 0, 1) := by decide +kernel
theorem dX0_firstRipe_3 : decode cX0_firstRipe 3 = .ok (.istore_n 2, 1) := by decide +kernel
theorem dX0_firstRipe_4 : decode cX0_firstRipe 4 = .ok (.iload_n 2, 1) := by decide +kernel
theorem dX0_firstRipe_5 : decode cX0_firstRipe 5 = .ok (.aload_n 0, 1) := by decide +kernel
theorem dX0_firstRipe_6 : decode cX0_firstRipe 6 = .ok (.getfield 130, 3) := by decide +kernel
theorem dX0_firstRipe_9 : decode cX0_firstRipe 9 = .ok (.if_icmp .ge 77, 3) := by decide +kernel
theorem dX0_firstRipe_12 : decode cX0_firstRipe 12 = .ok (.iload_n 2, 1) := by decide +kernel
theorem dX0_firstRipe_13 : decode cX0_firstRipe 13 = .ok (.bipush 6, 2) := by decide +kernel
theorem dX0_firstRipe_15 : decode cX0_firstRipe 15 = .ok (.if_icmp .ge 71, 3) := by decide +kernel
theorem dX0_firstRipe_18 : decode cX0_firstRipe 18 = .ok (.aload_n 0, 1) := by decide +kernel
theorem dX0_firstRipe_19 : decode cX0_firstRipe 19 = .ok (.getfield 25, 3) := by decide +kernel
theorem dX0_firstRipe_22 : decode cX0_firstRipe 22 = .ok (.iload_n 2, 1) := by decide +kernel
theorem dX0_firstRipe_23 : decode cX0_firstRipe 23 = .ok (.iaload, 1) := by decide +kernel
theorem dX0_firstRipe_24 : decode cX0_firstRipe 24 = .ok (.istore_n 3, 1) := by decide +kernel
theorem dX0_firstRipe_25 : decode cX0_firstRipe 25 = .ok (.aload_n 0, 1) := by decide +kernel
theorem dX0_firstRipe_26 : decode cX0_firstRipe 26 = .ok (.getfield 43, 3) := by decide +kernel
theorem dX0_firstRipe_29 : decode cX0_firstRipe 29 = .ok (.iload_n 3, 1) := by decide +kernel
theorem dX0_firstRipe_30 : decode cX0_firstRipe 30 = .ok (.iaload, 1) := by decide +kernel
theorem dX0_firstRipe_31 : decode cX0_firstRipe 31 = .ok (.iconst (-1), 1) := by decide +kernel
theorem dX0_firstRipe_32 : decode cX0_firstRipe 32 = .ok (.if_icmp .ne 48, 3) := by decide +kernel
theorem dX0_firstRipe_35 : decode cX0_firstRipe 35 = .ok (.aload_n 0, 1) := by decide +kernel
theorem dX0_firstRipe_36 : decode cX0_firstRipe 36 = .ok (.getfield 115, 3) := by decide +kernel
theorem dX0_firstRipe_39 : decode cX0_firstRipe 39 = .ok (.aload_n 0, 1) := by decide +kernel
theorem dX0_firstRipe_40 : decode cX0_firstRipe 40 = .ok (.getfield 40, 3) := by decide +kernel
theorem dX0_firstRipe_43 : decode cX0_firstRipe 43 = .ok (.iload_n 3, 1) := by decide +kernel
theorem dX0_firstRipe_44 : decode cX0_firstRipe 44 = .ok (.iaload, 1) := by decide +kernel
theorem dX0_firstRipe_45 : decode cX0_firstRipe 45 = .ok (.aload_n 0, 1) := by decide +kernel
theorem dX0_firstRipe_46 : decode cX0_firstRipe 46 = .ok (.getfield 12, 3) := by decide +kernel
theorem dX0_firstRipe_49 : decode cX0_firstRipe 49 = .ok (.getfield 86, 3) := by decide +kernel
theorem dX0_firstRipe_52 : decode cX0_firstRipe 52 = .ok (.iconst 5, 1) := by decide +kernel
theorem dX0_firstRipe_53 : decode cX0_firstRipe 53 = .ok (.iaload, 1) := by decide +kernel
theorem dX0_firstRipe_54 : decode cX0_firstRipe 54 = .ok (.isub, 1) := by decide +kernel
theorem dX0_firstRipe_55 : decode cX0_firstRipe 55 = .ok (.if_icmp .lt 25, 3) := by decide +kernel
theorem dX0_firstRipe_58 : decode cX0_firstRipe 58 = .ok (.iload_n 1, 1) := by decide +kernel
theorem dX0_firstRipe_59 : decode cX0_firstRipe 59 = .ok (.iconst (-1), 1) := by decide +kernel
theorem dX0_firstRipe_60 : decode cX0_firstRipe 60 = .ok (.if_icmp .eq 18, 3) := by decide +kernel
theorem dX0_firstRipe_63 : decode cX0_firstRipe 63 = .ok (.aload_n 0, 1) := by decide +kernel
theorem dX0_firstRipe_64 : decode cX0_firstRipe 64 = .ok (.getfield 40, 3) := by decide +kernel
theorem dX0_firstRipe_67 : decode cX0_firstRipe 67 = .ok (.iload_n 3, 1) := by decide +kernel
theorem dX0_firstRipe_68 : decode cX0_firstRipe 68 = .ok (.iaload, 1) := by decide +kernel
theorem dX0_firstRipe_69 : decode cX0_firstRipe 69 = .ok (.aload_n 0, 1) := by decide +kernel
theorem dX0_firstRipe_70 : decode cX0_firstRipe 70 = .ok (.getfield 40, 3) := by decide +kernel
theorem dX0_firstRipe_73 : decode cX0_firstRipe 73 = .ok (.iload_n 1, 1) := by decide +kernel
theorem dX0_firstRipe_74 : decode cX0_firstRipe 74 = .ok (.iaload, 1) := by decide +kernel
theorem dX0_firstRipe_75 : decode cX0_firstRipe 75 = .ok (.if_icmp .ge 5, 3) := by decide +kernel
theorem dX0_firstRipe_78 : decode cX0_firstRipe 78 = .ok (.iload_n 3, 1) := by decide +kernel
theorem dX0_firstRipe_79 : decode cX0_firstRipe 79 = .ok (.istore_n 1, 1) := by decide +kernel
theorem dX0_firstRipe_80 : decode cX0_firstRipe 80 = .ok (.iinc 2 1, 3) := by decide +kernel
theorem dX0_firstRipe_83 : decode cX0_firstRipe 83 = .ok (.goto (-79), 3) := by decide +kernel
theorem dX0_firstRipe_86 : decode cX0_firstRipe 86 = .ok (.iload_n 1, 1) := by decide +kernel
theorem dX0_firstRipe_87 : decode cX0_firstRipe 87 = .ok (.ireturn, 1) := by decide +kernel
theorem dX0_trowel_0 : decode cX0_trowel 0 = .ok (.aload_n 0, 1) := by decide +kernel
theorem dX0_trowel_1 : decode cX0_trowel 1 = .ok (.getfield 115, 3) := by decide +kernel
theorem dX0_trowel_4 : decode cX0_trowel 4 = .ok (.aload_n 0, 1) := by decide +kernel
theorem dX0_trowel_5 : decode cX0_trowel 5 = .ok (.getfield 40, 3) := by decide +kernel
theorem dX0_trowel_8 : decode cX0_trowel 8 = .ok (.iload_n 1, 1) := by decide +kernel
theorem dX0_trowel_9 : decode cX0_trowel 9 = .ok (.iaload, 1) := by decide +kernel
theorem dX0_trowel_10 : decode cX0_trowel 10 = .ok (.aload_n 0, 1) := by decide +kernel
theorem dX0_trowel_11 : decode cX0_trowel 11 = .ok (.getfield 31, 3) := by decide +kernel
theorem dX0_trowel_14 : decode cX0_trowel 14 = .ok (.iload_n 1, 1) := by decide +kernel
theorem dX0_trowel_15 : decode cX0_trowel 15 = .ok (.iaload, 1) := by decide +kernel
theorem dX0_trowel_16 : decode cX0_trowel 16 = .ok (.iadd, 1) := by decide +kernel
theorem dX0_trowel_17 : decode cX0_trowel 17 = .ok (.isub, 1) := by decide +kernel
theorem dX0_trowel_18 : decode cX0_trowel 18 = .ok (.istore_n 2, 1) := by decide +kernel
theorem dX0_trowel_19 : decode cX0_trowel 19 = .ok (.aload_n 0, 1) := by decide +kernel
theorem dX0_trowel_20 : decode cX0_trowel 20 = .ok (.getfield 115, 3) := by decide +kernel
theorem dX0_trowel_23 : decode cX0_trowel 23 = .ok (.aload_n 0, 1) := by decide +kernel
theorem dX0_trowel_24 : decode cX0_trowel 24 = .ok (.getfield 40, 3) := by decide +kernel
theorem dX0_trowel_27 : decode cX0_trowel 27 = .ok (.iload_n 1, 1) := by decide +kernel
theorem dX0_trowel_28 : decode cX0_trowel 28 = .ok (.iaload, 1) := by decide +kernel
theorem dX0_trowel_29 : decode cX0_trowel 29 = .ok (.isub, 1) := by decide +kernel
theorem dX0_trowel_30 : decode cX0_trowel 30 = .ok (.istore_n 3, 1) := by decide +kernel
theorem dX0_trowel_31 : decode cX0_trowel 31 = .ok (.aload_n 0, 1) := by decide +kernel
theorem dX0_trowel_32 : decode cX0_trowel 32 = .ok (.getfield 46, 3) := by decide +kernel
theorem dX0_trowel_35 : decode cX0_trowel 35 = .ok (.iload_n 1, 1) := by decide +kernel
theorem dX0_trowel_36 : decode cX0_trowel 36 = .ok (.iload_n 2, 1) := by decide +kernel
theorem dX0_trowel_37 : decode cX0_trowel 37 = .ok (.ifCond .le 7, 3) := by decide +kernel
theorem dX0_trowel_40 : decode cX0_trowel 40 = .ok (.iload_n 2, 1) := by decide +kernel
theorem dX0_trowel_41 : decode cX0_trowel 41 = .ok (.goto 12, 3) := by decide +kernel
theorem dX0_trowel_44 : decode cX0_trowel 44 = .ok (.iload_n 3, 1) := by decide +kernel
theorem dX0_trowel_45 : decode cX0_trowel 45 = .ok (.ifCond .ge 7, 3) := by decide +kernel
theorem dX0_trowel_48 : decode cX0_trowel 48 = .ok (.iload_n 3, 1) := by decide +kernel
theorem dX0_trowel_49 : decode cX0_trowel 49 = .ok (.goto 4, 3) := by decide +kernel
theorem dX0_trowel_52 : decode cX0_trowel 52 = .ok (.iconst 0, 1) := by decide +kernel
theorem dX0_trowel_53 : decode cX0_trowel 53 = .ok (.iastore, 1) := by decide +kernel
theorem dX0_trowel_54 : decode cX0_trowel 54 = .ok (.aload_n 0, 1) := by decide +kernel
theorem dX0_trowel_55 : decode cX0_trowel 55 = .ok (.getfield 46, 3) := by decide +kernel
theorem dX0_trowel_58 : decode cX0_trowel 58 = .ok (.iload_n 1, 1) := by decide +kernel
theorem dX0_trowel_59 : decode cX0_trowel 59 = .ok (.iaload, 1) := by decide +kernel
theorem dX0_trowel_60 : decode cX0_trowel 60 = .ok (.ifCond .eq 24, 3) := by decide +kernel
theorem dX0_trowel_63 : decode cX0_trowel 63 = .ok (.aload_n 0, 1) := by decide +kernel
theorem dX0_trowel_64 : decode cX0_trowel 64 = .ok (.dup, 1) := by decide +kernel
theorem dX0_trowel_65 : decode cX0_trowel 65 = .ok (.getfield 142, 3) := by decide +kernel
theorem dX0_trowel_68 : decode cX0_trowel 68 = .ok (.aload_n 0, 1) := by decide +kernel
theorem dX0_trowel_69 : decode cX0_trowel 69 = .ok (.iconst 2, 1) := by decide +kernel
theorem dX0_trowel_70 : decode cX0_trowel 70 = .ok (.iload_n 1, 1) := by decide +kernel
theorem dX0_trowel_71 : decode cX0_trowel 71 = .ok (.aload_n 0, 1) := by decide +kernel
theorem dX0_trowel_72 : decode cX0_trowel 72 = .ok (.getfield 46, 3) := by decide +kernel
theorem dX0_trowel_75 : decode cX0_trowel 75 = .ok (.iload_n 1, 1) := by decide +kernel
theorem dX0_trowel_76 : decode cX0_trowel 76 = .ok (.iaload, 1) := by decide +kernel
theorem dX0_trowel_77 : decode cX0_trowel 77 = .ok (.invokevirtual 66, 3) := by decide +kernel
theorem dX0_trowel_80 : decode cX0_trowel 80 = .ok (.iadd, 1) := by decide +kernel
theorem dX0_trowel_81 : decode cX0_trowel 81 = .ok (.putfield 142, 3) := by decide +kernel
theorem dX0_trowel_84 : decode cX0_trowel 84 = .ok (.aload_n 0, 1) := by decide +kernel
theorem dX0_trowel_85 : decode cX0_trowel 85 = .ok (.getfield 43, 3) := by decide +kernel
theorem dX0_trowel_88 : decode cX0_trowel 88 = .ok (.iload_n 1, 1) := by decide +kernel
theorem dX0_trowel_89 : decode cX0_trowel 89 = .ok (.aload_n 0, 1) := by decide +kernel
theorem dX0_trowel_90 : decode cX0_trowel 90 = .ok (.getfield 115, 3) := by decide +kernel
theorem dX0_trowel_93 : decode cX0_trowel 93 = .ok (.iastore, 1) := by decide +kernel
theorem dX0_trowel_94 : decode cX0_trowel 94 = .ok (.aload_n 0, 1) := by decide +kernel
theorem dX0_trowel_95 : decode cX0_trowel 95 = .ok (.dup, 1) := by decide +kernel
theorem dX0_trowel_96 : decode cX0_trowel 96 = .ok (.getfield 115, 3) := by decide +kernel
theorem dX0_trowel_99 : decode cX0_trowel 99 = .ok (.aload_n 0, 1) := by decide +kernel
theorem dX0_trowel_100 : decode cX0_trowel 100 = .ok (.getfield 12, 3) := by decide +kernel
theorem dX0_trowel_103 : decode cX0_trowel 103 = .ok (.getfield 78, 3) := by decide +kernel
theorem dX0_trowel_106 : decode cX0_trowel 106 = .ok (.iload_n 1, 1) := by decide +kernel
theorem dX0_trowel_107 : decode cX0_trowel 107 = .ok (.iaload, 1) := by decide +kernel
theorem dX0_trowel_108 : decode cX0_trowel 108 = .ok (.iadd, 1) := by decide +kernel
theorem dX0_trowel_109 : decode cX0_trowel 109 = .ok (.putfield 115, 3) := by decide +kernel
theorem dX0_trowel_112 : decode cX0_trowel 112 = .ok (.aload_n 0, 1) := by decide +kernel
theorem dX0_trowel_113 : decode cX0_trowel 113 = .ok (.dup, 1) := by decide +kernel
theorem dX0_trowel_114 : decode cX0_trowel 114 = .ok (.getfield 112, 3) := by decide +kernel
theorem dX0_trowel_117 : decode cX0_trowel 117 = .ok (.iconst 1, 1) := by decide +kernel
theorem dX0_trowel_118 : decode cX0_trowel 118 = .ok (.iadd, 1) := by decide +kernel
theorem dX0_trowel_119 : decode cX0_trowel 119 = .ok (.putfield 112, 3) := by decide +kernel
theorem dX0_trowel_122 : decode cX0_trowel 122 = .ok (.return_, 1) := by decide +kernel
theorem dX0_nextBegins_0 : decode cX0_nextBegins 0 = .ok (.aload_n 0, 1) := by decide +kernel
theorem dX0_nextBegins_1 : decode cX0_nextBegins 1 = .ok (.getfield 130, 3) := by decide +kernel
theorem dX0_nextBegins_4 : decode cX0_nextBegins 4 = .ok (.ifCond .le 41, 3) := by decide +kernel
theorem dX0_nextBegins_7 : decode cX0_nextBegins 7 = .ok (.aload_n 0, 1) := by decide +kernel
theorem dX0_nextBegins_8 : decode cX0_nextBegins 8 = .ok (.getfield 130, 3) := by decide +kernel
theorem dX0_nextBegins_11 : decode cX0_nextBegins 11 = .ok (.bipush 6, 2) := by decide +kernel
theorem dX0_nextBegins_13 : decode cX0_nextBegins 13 = .ok (.if_icmp .gt 32, 3) := by decide +kernel
theorem dX0_nextBegins_16 : decode cX0_nextBegins 16 = .ok (.aload_n 0, 1) := by decide +kernel
theorem dX0_nextBegins_17 : decode cX0_nextBegins 17 = .ok (.getfield 37, 3) := by decide +kernel
theorem dX0_nextBegins_20 : decode cX0_nextBegins 20 = .ok (.aload_n 0, 1) := by decide +kernel
theorem dX0_nextBegins_21 : decode cX0_nextBegins 21 = .ok (.getfield 25, 3) := by decide +kernel
theorem dX0_nextBegins_24 : decode cX0_nextBegins 24 = .ok (.aload_n 0, 1) := by decide +kernel
theorem dX0_nextBegins_25 : decode cX0_nextBegins 25 = .ok (.getfield 130, 3) := by decide +kernel
theorem dX0_nextBegins_28 : decode cX0_nextBegins 28 = .ok (.iconst 1, 1) := by decide +kernel
theorem dX0_nextBegins_29 : decode cX0_nextBegins 29 = .ok (.isub, 1) := by decide +kernel
theorem dX0_nextBegins_30 : decode cX0_nextBegins 30 = .ok (.iaload, 1) := by decide +kernel
theorem dX0_nextBegins_31 : decode cX0_nextBegins 31 = .ok (.iaload, 1) := by decide +kernel
theorem dX0_nextBegins_32 : decode cX0_nextBegins 32 = .ok (.aload_n 0, 1) := by decide +kernel
theorem dX0_nextBegins_33 : decode cX0_nextBegins 33 = .ok (.getfield 12, 3) := by decide +kernel
theorem dX0_nextBegins_36 : decode cX0_nextBegins 36 = .ok (.getfield 86, 3) := by decide +kernel
theorem dX0_nextBegins_39 : decode cX0_nextBegins 39 = .ok (.iconst 4, 1) := by decide +kernel
theorem dX0_nextBegins_40 : decode cX0_nextBegins 40 = .ok (.iaload, 1) := by decide +kernel
theorem dX0_nextBegins_41 : decode cX0_nextBegins 41 = .ok (.iadd, 1) := by decide +kernel
theorem dX0_nextBegins_42 : decode cX0_nextBegins 42 = .ok (.goto 4, 3) := by decide +kernel
theorem dX0_nextBegins_45 : decode cX0_nextBegins 45 = .ok (.iconst 0, 1) := by decide +kernel
theorem dX0_nextBegins_46 : decode cX0_nextBegins 46 = .ok (.ireturn, 1) := by decide +kernel
theorem dX0_mayBegin_0 : decode cX0_mayBegin 0 = .ok (.aload_n 0, 1) := by decide +kernel
theorem dX0_mayBegin_1 : decode cX0_mayBegin 1 = .ok (.getfield 130, 3) := by decide +kernel
theorem dX0_mayBegin_4 : decode cX0_mayBegin 4 = .ok (.aload_n 0, 1) := by decide +kernel
theorem dX0_mayBegin_5 : decode cX0_mayBegin 5 = .ok (.getfield 12, 3) := by decide +kernel
theorem dX0_mayBegin_8 : decode cX0_mayBegin 8 = .ok (.getfield 53, 3) := by decide +kernel
theorem dX0_mayBegin_11 : decode cX0_mayBegin 11 = .ok (.if_icmp .ge 34, 3) := by decide +kernel
theorem dX0_mayBegin_14 : decode cX0_mayBegin 14 = .ok (.aload_n 0, 1) := by decide +kernel
theorem dX0_mayBegin_15 : decode cX0_mayBegin 15 = .ok (.getfield 130, 3) := by decide +kernel
theorem dX0_mayBegin_18 : decode cX0_mayBegin 18 = .ok (.bipush 6, 2) := by decide +kernel
theorem dX0_mayBegin_20 : decode cX0_mayBegin 20 = .ok (.if_icmp .ge 25, 3) := by decide +kernel
theorem dX0_mayBegin_23 : decode cX0_mayBegin 23 = .ok (.aload_n 0, 1) := by decide +kernel
theorem dX0_mayBegin_24 : decode cX0_mayBegin 24 = .ok (.getfield 130, 3) := by decide +kernel
theorem dX0_mayBegin_27 : decode cX0_mayBegin 27 = .ok (.ifCond .eq 14, 3) := by decide +kernel
theorem dX0_mayBegin_30 : decode cX0_mayBegin 30 = .ok (.aload_n 0, 1) := by decide +kernel
theorem dX0_mayBegin_31 : decode cX0_mayBegin 31 = .ok (.getfield 115, 3) := by decide +kernel
theorem dX0_mayBegin_34 : decode cX0_mayBegin 34 = .ok (.aload_n 0, 1) := by decide +kernel
theorem dX0_mayBegin_35 : decode cX0_mayBegin 35 = .ok (.invokevirtual 145, 3) := by decide +kernel
theorem dX0_mayBegin_38 : decode cX0_mayBegin 38 = .ok (.if_icmp .lt 7, 3) := by decide +kernel
theorem dX0_mayBegin_41 : decode cX0_mayBegin 41 = .ok (.iconst 1, 1) := by decide +kernel
theorem dX0_mayBegin_42 : decode cX0_mayBegin 42 = .ok (.goto 4, 3) := by decide +kernel
theorem dX0_mayBegin_45 : decode cX0_mayBegin 45 = .ok (.iconst 0, 1) := by decide +kernel
theorem dX0_mayBegin_46 : decode cX0_mayBegin 46 = .ok (.ireturn, 1) := by decide +kernel
theorem dX0_begin_0 : decode cX0_begin 0 = .ok (.iconst 1, 1) := by decide +kernel
theorem dX0_begin_1 : decode cX0_begin 1 = .ok (.aload_n 0, 1) := by decide +kernel
theorem dX0_begin_2 : decode cX0_begin 2 = .ok (.getfield 12, 3) := by decide +kernel
theorem dX0_begin_5 : decode cX0_begin 5 = .ok (.getfield 86, 3) := by decide +kernel
theorem dX0_begin_8 : decode cX0_begin 8 = .ok (.iconst 3, 1) := by decide +kernel
theorem dX0_begin_9 : decode cX0_begin 9 = .ok (.iaload, 1) := by decide +kernel
theorem dX0_begin_10 : decode cX0_begin 10 = .ok (.invokestatic 106, 3) := by decide +kernel
theorem dX0_begin_13 : decode cX0_begin 13 = .ok (.istore_n 2, 1) := by decide +kernel
theorem dX0_begin_14 : decode cX0_begin 14 = .ok (.aload_n 0, 1) := by decide +kernel
theorem dX0_begin_15 : decode cX0_begin 15 = .ok (.getfield 37, 3) := by decide +kernel
theorem dX0_begin_18 : decode cX0_begin 18 = .ok (.iload_n 1, 1) := by decide +kernel
theorem dX0_begin_19 : decode cX0_begin 19 = .ok (.aload_n 0, 1) := by decide +kernel
theorem dX0_begin_20 : decode cX0_begin 20 = .ok (.getfield 115, 3) := by decide +kernel
theorem dX0_begin_23 : decode cX0_begin 23 = .ok (.iastore, 1) := by decide +kernel
theorem dX0_begin_24 : decode cX0_begin 24 = .ok (.aload_n 0, 1) := by decide +kernel
theorem dX0_begin_25 : decode cX0_begin 25 = .ok (.dup, 1) := by decide +kernel
theorem dX0_begin_26 : decode cX0_begin 26 = .ok (.getfield 115, 3) := by decide +kernel
theorem dX0_begin_29 : decode cX0_begin 29 = .ok (.iconst 1, 1) := by decide +kernel
theorem dX0_begin_30 : decode cX0_begin 30 = .ok (.aload_n 0, 1) := by decide +kernel
theorem dX0_begin_31 : decode cX0_begin 31 = .ok (.getfield 34, 3) := by decide +kernel
theorem dX0_begin_34 : decode cX0_begin 34 = .ok (.iload_n 1, 1) := by decide +kernel
theorem dX0_begin_35 : decode cX0_begin 35 = .ok (.iaload, 1) := by decide +kernel
theorem dX0_begin_36 : decode cX0_begin 36 = .ok (.iload_n 2, 1) := by decide +kernel
theorem dX0_begin_37 : decode cX0_begin 37 = .ok (.idiv, 1) := by decide +kernel
theorem dX0_begin_38 : decode cX0_begin 38 = .ok (.invokestatic 106, 3) := by decide +kernel
theorem dX0_begin_41 : decode cX0_begin 41 = .ok (.iadd, 1) := by decide +kernel
theorem dX0_begin_42 : decode cX0_begin 42 = .ok (.putfield 115, 3) := by decide +kernel
theorem dX0_begin_45 : decode cX0_begin 45 = .ok (.aload_n 0, 1) := by decide +kernel
theorem dX0_begin_46 : decode cX0_begin 46 = .ok (.getfield 40, 3) := by decide +kernel
theorem dX0_begin_49 : decode cX0_begin 49 = .ok (.iload_n 1, 1) := by decide +kernel
theorem dX0_begin_50 : decode cX0_begin 50 = .ok (.aload_n 0, 1) := by decide +kernel
theorem dX0_begin_51 : decode cX0_begin 51 = .ok (.getfield 115, 3) := by decide +kernel
theorem dX0_begin_54 : decode cX0_begin 54 = .ok (.aload_n 0, 1) := by decide +kernel
theorem dX0_begin_55 : decode cX0_begin 55 = .ok (.getfield 28, 3) := by decide +kernel
theorem dX0_begin_58 : decode cX0_begin 58 = .ok (.iload_n 1, 1) := by decide +kernel
theorem dX0_begin_59 : decode cX0_begin 59 = .ok (.iaload, 1) := by decide +kernel
theorem dX0_begin_60 : decode cX0_begin 60 = .ok (.iadd, 1) := by decide +kernel
theorem dX0_begin_61 : decode cX0_begin 61 = .ok (.iastore, 1) := by decide +kernel
theorem dX0_begin_62 : decode cX0_begin 62 = .ok (.aload_n 0, 1) := by decide +kernel
theorem dX0_begin_63 : decode cX0_begin 63 = .ok (.dup, 1) := by decide +kernel
theorem dX0_begin_64 : decode cX0_begin 64 = .ok (.getfield 130, 3) := by decide +kernel
theorem dX0_begin_67 : decode cX0_begin 67 = .ok (.iconst 1, 1) := by decide +kernel
theorem dX0_begin_68 : decode cX0_begin 68 = .ok (.iadd, 1) := by decide +kernel
theorem dX0_begin_69 : decode cX0_begin 69 = .ok (.putfield 130, 3) := by decide +kernel
theorem dX0_begin_72 : decode cX0_begin 72 = .ok (.return_, 1) := by decide +kernel
theorem dX0_waitOn_0 : decode cX0_waitOn 0 = .ok (.aload_n 0, 1) := by decide +kernel
theorem dX0_waitOn_1 : decode cX0_waitOn 1 = .ok (.getfield 130, 3) := by decide +kernel
theorem dX0_waitOn_4 : decode cX0_waitOn 4 = .ok (.aload_n 0, 1) := by decide +kernel
theorem dX0_waitOn_5 : decode cX0_waitOn 5 = .ok (.getfield 12, 3) := by decide +kernel
theorem dX0_waitOn_8 : decode cX0_waitOn 8 = .ok (.getfield 53, 3) := by decide +kernel
theorem dX0_waitOn_11 : decode cX0_waitOn 11 = .ok (.if_icmp .ge 16, 3) := by decide +kernel
theorem dX0_waitOn_14 : decode cX0_waitOn 14 = .ok (.sipush 4000, 3) := by decide +kernel
theorem dX0_waitOn_17 : decode cX0_waitOn 17 = .ok (.aload_n 0, 1) := by decide +kernel
theorem dX0_waitOn_18 : decode cX0_waitOn 18 = .ok (.invokevirtual 145, 3) := by decide +kernel
theorem dX0_waitOn_21 : decode cX0_waitOn 21 = .ok (.invokestatic 101, 3) := by decide +kernel
theorem dX0_waitOn_24 : decode cX0_waitOn 24 = .ok (.goto 6, 3) := by decide +kernel
theorem dX0_waitOn_27 : decode cX0_waitOn 27 = .ok (.sipush 4000, 3) := by decide +kernel
theorem dX0_waitOn_30 : decode cX0_waitOn 30 = .ok (.istore_n 1, 1) := by decide +kernel
theorem dX0_waitOn_31 : decode cX0_waitOn 31 = .ok (.iconst 0, 1) := by decide +kernel
theorem dX0_waitOn_32 : decode cX0_waitOn 32 = .ok (.istore_n 2, 1) := by decide +kernel
theorem dX0_waitOn_33 : decode cX0_waitOn 33 = .ok (.iload_n 2, 1) := by decide +kernel
theorem dX0_waitOn_34 : decode cX0_waitOn 34 = .ok (.aload_n 0, 1) := by decide +kernel
theorem dX0_waitOn_35 : decode cX0_waitOn 35 = .ok (.getfield 130, 3) := by decide +kernel
theorem dX0_waitOn_38 : decode cX0_waitOn 38 = .ok (.if_icmp .ge 53, 3) := by decide +kernel
theorem dX0_waitOn_41 : decode cX0_waitOn 41 = .ok (.iload_n 2, 1) := by decide +kernel
theorem dX0_waitOn_42 : decode cX0_waitOn 42 = .ok (.bipush 6, 2) := by decide +kernel
theorem dX0_waitOn_44 : decode cX0_waitOn 44 = .ok (.if_icmp .ge 47, 3) := by decide +kernel
theorem dX0_waitOn_47 : decode cX0_waitOn 47 = .ok (.aload_n 0, 1) := by decide +kernel
theorem dX0_waitOn_48 : decode cX0_waitOn 48 = .ok (.getfield 25, 3) := by decide +kernel
theorem dX0_waitOn_51 : decode cX0_waitOn 51 = .ok (.iload_n 2, 1) := by decide +kernel
theorem dX0_waitOn_52 : decode cX0_waitOn 52 = .ok (.iaload, 1) := by decide +kernel
theorem dX0_waitOn_53 : decode cX0_waitOn 53 = .ok (.istore_n 3, 1) := by decide +kernel
theorem dX0_waitOn_54 : decode cX0_waitOn 54 = .ok (.aload_n 0, 1) := by decide +kernel
theorem dX0_waitOn_55 : decode cX0_waitOn 55 = .ok (.getfield 43, 3) := by decide +kernel
theorem dX0_waitOn_58 : decode cX0_waitOn 58 = .ok (.iload_n 3, 1) := by decide +kernel
theorem dX0_waitOn_59 : decode cX0_waitOn 59 = .ok (.iaload, 1) := by decide +kernel
theorem dX0_waitOn_60 : decode cX0_waitOn 60 = .ok (.iconst (-1), 1) := by decide +kernel
theorem dX0_waitOn_61 : decode cX0_waitOn 61 = .ok (.if_icmp .ne 24, 3) := by decide +kernel
theorem dX0_waitOn_64 : decode cX0_waitOn 64 = .ok (.iload_n 1, 1) := by decide +kernel
theorem dX0_waitOn_65 : decode cX0_waitOn 65 = .ok (.aload_n 0, 1) := by decide +kernel
theorem dX0_waitOn_66 : decode cX0_waitOn 66 = .ok (.getfield 40, 3) := by decide +kernel
theorem dX0_waitOn_69 : decode cX0_waitOn 69 = .ok (.iload_n 3, 1) := by decide +kernel
theorem dX0_waitOn_70 : decode cX0_waitOn 70 = .ok (.iaload, 1) := by decide +kernel
theorem dX0_waitOn_71 : decode cX0_waitOn 71 = .ok (.aload_n 0, 1) := by decide +kernel
theorem dX0_waitOn_72 : decode cX0_waitOn 72 = .ok (.getfield 12, 3) := by decide +kernel
theorem dX0_waitOn_75 : decode cX0_waitOn 75 = .ok (.getfield 86, 3) := by decide +kernel
theorem dX0_waitOn_78 : decode cX0_waitOn 78 = .ok (.iconst 5, 1) := by decide +kernel
theorem dX0_waitOn_79 : decode cX0_waitOn 79 = .ok (.iaload, 1) := by decide +kernel
theorem dX0_waitOn_80 : decode cX0_waitOn 80 = .ok (.isub, 1) := by decide +kernel
theorem dX0_waitOn_81 : decode cX0_waitOn 81 = .ok (.invokestatic 101, 3) := by decide +kernel
theorem dX0_waitOn_84 : decode cX0_waitOn 84 = .ok (.istore_n 1, 1) := by decide +kernel
theorem dX0_waitOn_85 : decode cX0_waitOn 85 = .ok (.iinc 2 1, 3) := by decide +kernel
theorem dX0_waitOn_88 : decode cX0_waitOn 88 = .ok (.goto (-55), 3) := by decide +kernel
theorem dX0_waitOn_91 : decode cX0_waitOn 91 = .ok (.iload_n 1, 1) := by decide +kernel
theorem dX0_waitOn_92 : decode cX0_waitOn 92 = .ok (.aload_n 0, 1) := by decide +kernel
theorem dX0_waitOn_93 : decode cX0_waitOn 93 = .ok (.getfield 115, 3) := by decide +kernel
theorem dX0_waitOn_96 : decode cX0_waitOn 96 = .ok (.iconst 1, 1) := by decide +kernel
theorem dX0_waitOn_97 : decode cX0_waitOn 97 = .ok (.iadd, 1) := by decide +kernel
theorem dX0_waitOn_98 : decode cX0_waitOn 98 = .ok (.invokestatic 106, 3) := by decide +kernel
theorem dX0_waitOn_101 : decode cX0_waitOn 101 = .ok (.istore_n 1, 1) := by decide +kernel
theorem dX0_waitOn_102 : decode cX0_waitOn 102 = .ok (.aload_n 0, 1) := by decide +kernel
theorem dX0_waitOn_103 : decode cX0_waitOn 103 = .ok (.dup, 1) := by decide +kernel
theorem dX0_waitOn_104 : decode cX0_waitOn 104 = .ok (.getfield 139, 3) := by decide +kernel
theorem dX0_waitOn_107 : decode cX0_waitOn 107 = .ok (.iload_n 1, 1) := by decide +kernel
theorem dX0_waitOn_108 : decode cX0_waitOn 108 = .ok (.aload_n 0, 1) := by decide +kernel
theorem dX0_waitOn_109 : decode cX0_waitOn 109 = .ok (.getfield 115, 3) := by decide +kernel
theorem dX0_waitOn_112 : decode cX0_waitOn 112 = .ok (.isub, 1) := by decide +kernel
theorem dX0_waitOn_113 : decode cX0_waitOn 113 = .ok (.iadd, 1) := by decide +kernel
theorem dX0_waitOn_114 : decode cX0_waitOn 114 = .ok (.putfield 139, 3) := by decide +kernel
theorem dX0_waitOn_117 : decode cX0_waitOn 117 = .ok (.aload_n 0, 1) := by decide +kernel
theorem dX0_waitOn_118 : decode cX0_waitOn 118 = .ok (.iload_n 1, 1) := by decide +kernel
theorem dX0_waitOn_119 : decode cX0_waitOn 119 = .ok (.putfield 115, 3) := by decide +kernel
theorem dX0_waitOn_122 : decode cX0_waitOn 122 = .ok (.return_, 1) := by decide +kernel
theorem dX0_live_0 : decode cX0_live 0 = .ok (.aload_n 0, 1) := by decide +kernel
theorem dX0_live_1 : decode cX0_live 1 = .ok (.invokevirtual 109, 3) := by decide +kernel
theorem dX0_live_4 : decode cX0_live 4 = .ok (.iconst 0, 1) := by decide +kernel
theorem dX0_live_5 : decode cX0_live 5 = .ok (.istore_n 1, 1) := by decide +kernel
theorem dX0_live_6 : decode cX0_live 6 = .ok (.iload_n 1, 1) := by decide +kernel
theorem dX0_live_7 : decode cX0_live 7 = .ok (.sipush 4000, 3) := by decide +kernel
theorem dX0_live_10 : decode cX0_live 10 = .ok (.if_icmp .ge 78, 3) := by decide +kernel
theorem dX0_live_13 : decode cX0_live 13 = .ok (.aload_n 0, 1) := by decide +kernel
theorem dX0_live_14 : decode cX0_live 14 = .ok (.getfield 112, 3) := by decide +kernel
theorem dX0_live_17 : decode cX0_live 17 = .ok (.aload_n 0, 1) := by decide +kernel
theorem dX0_live_18 : decode cX0_live 18 = .ok (.getfield 12, 3) := by decide +kernel
theorem dX0_live_21 : decode cX0_live 21 = .ok (.getfield 53, 3) := by decide +kernel
theorem dX0_live_24 : decode cX0_live 24 = .ok (.if_icmp .ge 64, 3) := by decide +kernel
theorem dX0_live_27 : decode cX0_live 27 = .ok (.aload_n 0, 1) := by decide +kernel
theorem dX0_live_28 : decode cX0_live 28 = .ok (.getfield 115, 3) := by decide +kernel
theorem dX0_live_31 : decode cX0_live 31 = .ok (.sipush 4000, 3) := by decide +kernel
theorem dX0_live_34 : decode cX0_live 34 = .ok (.if_icmp .ge 54, 3) := by decide +kernel
theorem dX0_live_37 : decode cX0_live 37 = .ok (.aload_n 0, 1) := by decide +kernel
theorem dX0_live_38 : decode cX0_live 38 = .ok (.invokevirtual 118, 3) := by decide +kernel
theorem dX0_live_41 : decode cX0_live 41 = .ok (.istore_n 2, 1) := by decide +kernel
theorem dX0_live_42 : decode cX0_live 42 = .ok (.iload_n 2, 1) := by decide +kernel
theorem dX0_live_43 : decode cX0_live 43 = .ok (.iconst (-1), 1) := by decide +kernel
theorem dX0_live_44 : decode cX0_live 44 = .ok (.if_icmp .eq 11, 3) := by decide +kernel
theorem dX0_live_47 : decode cX0_live 47 = .ok (.aload_n 0, 1) := by decide +kernel
theorem dX0_live_48 : decode cX0_live 48 = .ok (.iload_n 2, 1) := by decide +kernel
theorem dX0_live_49 : decode cX0_live 49 = .ok (.invokevirtual 122, 3) := by decide +kernel
theorem dX0_live_52 : decode cX0_live 52 = .ok (.goto 30, 3) := by decide +kernel
theorem dX0_live_55 : decode cX0_live 55 = .ok (.aload_n 0, 1) := by decide +kernel
theorem dX0_live_56 : decode cX0_live 56 = .ok (.invokevirtual 126, 3) := by decide +kernel
theorem dX0_live_59 : decode cX0_live 59 = .ok (.ifCond .eq 19, 3) := by decide +kernel
theorem dX0_live_62 : decode cX0_live 62 = .ok (.aload_n 0, 1) := by decide +kernel
theorem dX0_live_63 : decode cX0_live 63 = .ok (.aload_n 0, 1) := by decide +kernel
theorem dX0_live_64 : decode cX0_live 64 = .ok (.getfield 25, 3) := by decide +kernel
theorem dX0_live_67 : decode cX0_live 67 = .ok (.aload_n 0, 1) := by decide +kernel
theorem dX0_live_68 : decode cX0_live 68 = .ok (.getfield 130, 3) := by decide +kernel
theorem dX0_live_71 : decode cX0_live 71 = .ok (.iaload, 1) := by decide +kernel
theorem dX0_live_72 : decode cX0_live 72 = .ok (.invokevirtual 133, 3) := by decide +kernel
theorem dX0_live_75 : decode cX0_live 75 = .ok (.goto 7, 3) := by decide +kernel
theorem dX0_live_78 : decode cX0_live 78 = .ok (.aload_n 0, 1) := by decide +kernel
theorem dX0_live_79 : decode cX0_live 79 = .ok (.invokevirtual 136, 3) := by decide +kernel
theorem dX0_live_82 : decode cX0_live 82 = .ok (.iinc 1 1, 3) := by decide +kernel
theorem dX0_live_85 : decode cX0_live 85 = .ok (.goto (-79), 3) := by decide +kernel
theorem dX0_live_88 : decode cX0_live 88 = .ok (.return_, 1) := by decide +kernel
theorem dX0_late_0 : decode cX0_late 0 = .ok (.iconst 0, 1) := by decide +kernel
theorem dX0_late_1 : decode cX0_late 1 = .ok (.istore_n 1, 1) := by decide +kernel
theorem dX0_late_2 : decode cX0_late 2 = .ok (.iconst 0, 1) := by decide +kernel
theorem dX0_late_3 : decode cX0_late 3 = .ok (.istore_n 2, 1) := by decide +kernel
theorem dX0_late_4 : decode cX0_late 4 = .ok (.iload_n 2, 1) := by decide +kernel
theorem dX0_late_5 : decode cX0_late 5 = .ok (.bipush 6, 2) := by decide +kernel
theorem dX0_late_7 : decode cX0_late 7 = .ok (.if_icmp .ge 28, 3) := by decide +kernel
theorem dX0_late_10 : decode cX0_late 10 = .ok (.iload_n 1, 1) := by decide +kernel
theorem dX0_late_11 : decode cX0_late 11 = .ok (.aload_n 0, 1) := by decide +kernel
theorem dX0_late_12 : decode cX0_late 12 = .ok (.getfield 46, 3) := by decide +kernel
theorem dX0_late_15 : decode cX0_late 15 = .ok (.iload_n 2, 1) := by decide +kernel
theorem dX0_late_16 : decode cX0_late 16 = .ok (.iaload, 1) := by decide +kernel
theorem dX0_late_17 : decode cX0_late 17 = .ok (.ifCond .le 9, 3) := by decide +kernel
theorem dX0_late_20 : decode cX0_late 20 = .ok (.iconst 1, 1) := by decide +kernel
theorem dX0_late_21 : decode cX0_late 21 = .ok (.iload_n 2, 1) := by decide +kernel
theorem dX0_late_22 : decode cX0_late 22 = .ok (.ishl, 1) := by decide +kernel
theorem dX0_late_23 : decode cX0_late 23 = .ok (.goto 4, 3) := by decide +kernel
theorem dX0_late_26 : decode cX0_late 26 = .ok (.iconst 0, 1) := by decide +kernel
theorem dX0_late_27 : decode cX0_late 27 = .ok (.ior, 1) := by decide +kernel
theorem dX0_late_28 : decode cX0_late 28 = .ok (.istore_n 1, 1) := by decide +kernel
theorem dX0_late_29 : decode cX0_late 29 = .ok (.iinc 2 1, 3) := by decide +kernel
theorem dX0_late_32 : decode cX0_late 32 = .ok (.goto (-28), 3) := by decide +kernel
theorem dX0_late_35 : decode cX0_late 35 = .ok (.iload_n 1, 1) := by decide +kernel
theorem dX0_late_36 : decode cX0_late 36 = .ok (.ireturn, 1) := by decide +kernel
theorem dX0_early_0 : decode cX0_early 0 = .ok (.iconst 0, 1) := by decide +kernel
theorem dX0_early_1 : decode cX0_early 1 = .ok (.istore_n 1, 1) := by decide +kernel
theorem dX0_early_2 : decode cX0_early 2 = .ok (.iconst 0, 1) := by decide +kernel
theorem dX0_early_3 : decode cX0_early 3 = .ok (.istore_n 2, 1) := by decide +kernel
theorem dX0_early_4 : decode cX0_early 4 = .ok (.iload_n 2, 1) := by decide +kernel
theorem dX0_early_5 : decode cX0_early 5 = .ok (.bipush 6, 2) := by decide +kernel
theorem dX0_early_7 : decode cX0_early 7 = .ok (.if_icmp .ge 28, 3) := by decide +kernel
theorem dX0_early_10 : decode cX0_early 10 = .ok (.iload_n 1, 1) := by decide +kernel
theorem dX0_early_11 : decode cX0_early 11 = .ok (.aload_n 0, 1) := by decide +kernel
theorem dX0_early_12 : decode cX0_early 12 = .ok (.getfield 46, 3) := by decide +kernel
theorem dX0_early_15 : decode cX0_early 15 = .ok (.iload_n 2, 1) := by decide +kernel
theorem dX0_early_16 : decode cX0_early 16 = .ok (.iaload, 1) := by decide +kernel
theorem dX0_early_17 : decode cX0_early 17 = .ok (.ifCond .ge 9, 3) := by decide +kernel
theorem dX0_early_20 : decode cX0_early 20 = .ok (.iconst 1, 1) := by decide +kernel
theorem dX0_early_21 : decode cX0_early 21 = .ok (.iload_n 2, 1) := by decide +kernel
theorem dX0_early_22 : decode cX0_early 22 = .ok (.ishl, 1) := by decide +kernel
theorem dX0_early_23 : decode cX0_early 23 = .ok (.goto 4, 3) := by decide +kernel
theorem dX0_early_26 : decode cX0_early 26 = .ok (.iconst 0, 1) := by decide +kernel
theorem dX0_early_27 : decode cX0_early 27 = .ok (.ior, 1) := by decide +kernel
theorem dX0_early_28 : decode cX0_early 28 = .ok (.istore_n 1, 1) := by decide +kernel
theorem dX0_early_29 : decode cX0_early 29 = .ok (.iinc 2 1, 3) := by decide +kernel
theorem dX0_early_32 : decode cX0_early 32 = .ok (.goto (-28), 3) := by decide +kernel
theorem dX0_early_35 : decode cX0_early 35 = .ok (.iload_n 1, 1) := by decide +kernel
theorem dX0_early_36 : decode cX0_early 36 = .ok (.ireturn, 1) := by decide +kernel
theorem dX0_unlike_0 : decode cX0_unlike 0 = .ok (.iconst 0, 1) := by decide +kernel
theorem dX0_unlike_1 : decode cX0_unlike 1 = .ok (.istore_n 2, 1) := by decide +kernel
theorem dX0_unlike_2 : decode cX0_unlike 2 = .ok (.iconst 0, 1) := by decide +kernel
theorem dX0_unlike_3 : decode cX0_unlike 3 = .ok (.istore_n 3, 1) := by decide +kernel
theorem dX0_unlike_4 : decode cX0_unlike 4 = .ok (.iload_n 3, 1) := by decide +kernel
theorem dX0_unlike_5 : decode cX0_unlike 5 = .ok (.aload_n 0, 1) := by decide +kernel
theorem dX0_unlike_6 : decode cX0_unlike 6 = .ok (.getfield 12, 3) := by decide +kernel
theorem dX0_unlike_9 : decode cX0_unlike 9 = .ok (.getfield 53, 3) := by decide +kernel
theorem dX0_unlike_12 : decode cX0_unlike 12 = .ok (.if_icmp .ge 40, 3) := by decide +kernel
theorem dX0_unlike_15 : decode cX0_unlike 15 = .ok (.iload_n 3, 1) := by decide +kernel
theorem dX0_unlike_16 : decode cX0_unlike 16 = .ok (.bipush 6, 2) := by decide +kernel
theorem dX0_unlike_18 : decode cX0_unlike 18 = .ok (.if_icmp .ge 34, 3) := by decide +kernel
theorem dX0_unlike_21 : decode cX0_unlike 21 = .ok (.iload_n 2, 1) := by decide +kernel
theorem dX0_unlike_22 : decode cX0_unlike 22 = .ok (.aload_n 0, 1) := by decide +kernel
theorem dX0_unlike_23 : decode cX0_unlike 23 = .ok (.getfield 43, 3) := by decide +kernel
theorem dX0_unlike_26 : decode cX0_unlike 26 = .ok (.iload_n 3, 1) := by decide +kernel
theorem dX0_unlike_27 : decode cX0_unlike 27 = .ok (.iaload, 1) := by decide +kernel
theorem dX0_unlike_28 : decode cX0_unlike 28 = .ok (.aload_n 1, 1) := by decide +kernel
theorem dX0_unlike_29 : decode cX0_unlike 29 = .ok (.getfield 148, 3) := by decide +kernel
theorem dX0_unlike_32 : decode cX0_unlike 32 = .ok (.iload_n 3, 1) := by decide +kernel
theorem dX0_unlike_33 : decode cX0_unlike 33 = .ok (.iaload, 1) := by decide +kernel
theorem dX0_unlike_34 : decode cX0_unlike 34 = .ok (.if_icmp .eq 9, 3) := by decide +kernel
theorem dX0_unlike_37 : decode cX0_unlike 37 = .ok (.iconst 1, 1) := by decide +kernel
theorem dX0_unlike_38 : decode cX0_unlike 38 = .ok (.iload_n 3, 1) := by decide +kernel
theorem dX0_unlike_39 : decode cX0_unlike 39 = .ok (.ishl, 1) := by decide +kernel
theorem dX0_unlike_40 : decode cX0_unlike 40 = .ok (.goto 4, 3) := by decide +kernel
theorem dX0_unlike_43 : decode cX0_unlike 43 = .ok (.iconst 0, 1) := by decide +kernel
theorem dX0_unlike_44 : decode cX0_unlike 44 = .ok (.ior, 1) := by decide +kernel
theorem dX0_unlike_45 : decode cX0_unlike 45 = .ok (.istore_n 2, 1) := by decide +kernel
theorem dX0_unlike_46 : decode cX0_unlike 46 = .ok (.iinc 3 1, 3) := by decide +kernel
theorem dX0_unlike_49 : decode cX0_unlike 49 = .ok (.goto (-45), 3) := by decide +kernel
theorem dX0_unlike_52 : decode cX0_unlike 52 = .ok (.iload_n 2, 1) := by decide +kernel
theorem dX0_unlike_53 : decode cX0_unlike 53 = .ok (.ireturn, 1) := by decide +kernel
theorem dX0_rowAsDigits_0 : decode cX0_rowAsDigits 0 = .ok (.iconst 0, 1) := by decide +kernel
theorem dX0_rowAsDigits_1 : decode cX0_rowAsDigits 1 = .ok (.istore_n 1, 1) := by decide +kernel
theorem dX0_rowAsDigits_2 : decode cX0_rowAsDigits 2 = .ok (.iconst 0, 1) := by decide +kernel
theorem dX0_rowAsDigits_3 : decode cX0_rowAsDigits 3 = .ok (.istore_n 2, 1) := by decide +kernel
theorem dX0_rowAsDigits_4 : decode cX0_rowAsDigits 4 = .ok (.iload_n 2, 1) := by decide +kernel
theorem dX0_rowAsDigits_5 : decode cX0_rowAsDigits 5 = .ok (.aload_n 0, 1) := by decide +kernel
theorem dX0_rowAsDigits_6 : decode cX0_rowAsDigits 6 = .ok (.getfield 12, 3) := by decide +kernel
theorem dX0_rowAsDigits_9 : decode cX0_rowAsDigits 9 = .ok (.getfield 53, 3) := by decide +kernel
theorem dX0_rowAsDigits_12 : decode cX0_rowAsDigits 12 = .ok (.if_icmp .ge 29, 3) := by decide +kernel
theorem dX0_rowAsDigits_15 : decode cX0_rowAsDigits 15 = .ok (.iload_n 2, 1) := by decide +kernel
theorem dX0_rowAsDigits_16 : decode cX0_rowAsDigits 16 = .ok (.bipush 6, 2) := by decide +kernel
theorem dX0_rowAsDigits_18 : decode cX0_rowAsDigits 18 = .ok (.if_icmp .ge 23, 3) := by decide +kernel
theorem dX0_rowAsDigits_21 : decode cX0_rowAsDigits 21 = .ok (.iload_n 1, 1) := by decide +kernel
theorem dX0_rowAsDigits_22 : decode cX0_rowAsDigits 22 = .ok (.bipush 10, 2) := by decide +kernel
theorem dX0_rowAsDigits_24 : decode cX0_rowAsDigits 24 = .ok (.imul, 1) := by decide +kernel
theorem dX0_rowAsDigits_25 : decode cX0_rowAsDigits 25 = .ok (.aload_n 0, 1) := by decide +kernel
theorem dX0_rowAsDigits_26 : decode cX0_rowAsDigits 26 = .ok (.getfield 25, 3) := by decide +kernel
theorem dX0_rowAsDigits_29 : decode cX0_rowAsDigits 29 = .ok (.iload_n 2, 1) := by decide +kernel
theorem dX0_rowAsDigits_30 : decode cX0_rowAsDigits 30 = .ok (.iaload, 1) := by decide +kernel
theorem dX0_rowAsDigits_31 : decode cX0_rowAsDigits 31 = .ok (.iadd, 1) := by decide +kernel
theorem dX0_rowAsDigits_32 : decode cX0_rowAsDigits 32 = .ok (.iconst 1, 1) := by decide +kernel
theorem dX0_rowAsDigits_33 : decode cX0_rowAsDigits 33 = .ok (.iadd, 1) := by decide +kernel
theorem dX0_rowAsDigits_34 : decode cX0_rowAsDigits 34 = .ok (.istore_n 1, 1) := by decide +kernel
theorem dX0_rowAsDigits_35 : decode cX0_rowAsDigits 35 = .ok (.iinc 2 1, 3) := by decide +kernel
theorem dX0_rowAsDigits_38 : decode cX0_rowAsDigits 38 = .ok (.goto (-34), 3) := by decide +kernel
theorem dX0_rowAsDigits_41 : decode cX0_rowAsDigits 41 = .ok (.iload_n 1, 1) := by decide +kernel
theorem dX0_rowAsDigits_42 : decode cX0_rowAsDigits 42 = .ok (.ireturn, 1) := by decide +kernel
theorem dX0_nextRow_0 : decode cX0_nextRow 0 = .ok (.aload_n 0, 1) := by decide +kernel
theorem dX0_nextRow_1 : decode cX0_nextRow 1 = .ok (.getfield 12, 3) := by decide +kernel
theorem dX0_nextRow_4 : decode cX0_nextRow 4 = .ok (.getfield 53, 3) := by decide +kernel
theorem dX0_nextRow_7 : decode cX0_nextRow 7 = .ok (.bipush 6, 2) := by decide +kernel
theorem dX0_nextRow_9 : decode cX0_nextRow 9 = .ok (.invokestatic 101, 3) := by decide +kernel
theorem dX0_nextRow_12 : decode cX0_nextRow 12 = .ok (.istore_n 1, 1) := by decide +kernel
theorem dX0_nextRow_13 : decode cX0_nextRow 13 = .ok (.iload_n 1, 1) := by decide +kernel
theorem dX0_nextRow_14 : decode cX0_nextRow 14 = .ok (.iconst 2, 1) := by decide +kernel
theorem dX0_nextRow_15 : decode cX0_nextRow 15 = .ok (.isub, 1) := by decide +kernel
theorem dX0_nextRow_16 : decode cX0_nextRow 16 = .ok (.istore_n 2, 1) := by decide +kernel
theorem dX0_nextRow_17 : decode cX0_nextRow 17 = .ok (.iload_n 2, 1) := by decide +kernel
theorem dX0_nextRow_18 : decode cX0_nextRow 18 = .ok (.ifCond .lt 26, 3) := by decide +kernel
theorem dX0_nextRow_21 : decode cX0_nextRow 21 = .ok (.aload_n 0, 1) := by decide +kernel
theorem dX0_nextRow_22 : decode cX0_nextRow 22 = .ok (.getfield 25, 3) := by decide +kernel
theorem dX0_nextRow_25 : decode cX0_nextRow 25 = .ok (.iload_n 2, 1) := by decide +kernel
theorem dX0_nextRow_26 : decode cX0_nextRow 26 = .ok (.iaload, 1) := by decide +kernel
theorem dX0_nextRow_27 : decode cX0_nextRow 27 = .ok (.aload_n 0, 1) := by decide +kernel
theorem dX0_nextRow_28 : decode cX0_nextRow 28 = .ok (.getfield 25, 3) := by decide +kernel
theorem dX0_nextRow_31 : decode cX0_nextRow 31 = .ok (.iload_n 2, 1) := by decide +kernel
theorem dX0_nextRow_32 : decode cX0_nextRow 32 = .ok (.iconst 1, 1) := by decide +kernel
theorem dX0_nextRow_33 : decode cX0_nextRow 33 = .ok (.iadd, 1) := by decide +kernel
theorem dX0_nextRow_34 : decode cX0_nextRow 34 = .ok (.iaload, 1) := by decide +kernel
theorem dX0_nextRow_35 : decode cX0_nextRow 35 = .ok (.if_icmp .le 9, 3) := by decide +kernel
theorem dX0_nextRow_38 : decode cX0_nextRow 38 = .ok (.iinc 2 (-1), 3) := by decide +kernel
theorem dX0_nextRow_41 : decode cX0_nextRow 41 = .ok (.goto (-24), 3) := by decide +kernel
theorem dX0_nextRow_44 : decode cX0_nextRow 44 = .ok (.iload_n 2, 1) := by decide +kernel
theorem dX0_nextRow_45 : decode cX0_nextRow 45 = .ok (.ifCond .ge 5, 3) := by decide +kernel
theorem dX0_nextRow_48 : decode cX0_nextRow 48 = .ok (.iconst 0, 1) := by decide +kernel
theorem dX0_nextRow_49 : decode cX0_nextRow 49 = .ok (.ireturn, 1) := by decide +kernel
theorem dX0_nextRow_50 : decode cX0_nextRow 50 = .ok (.iload_n 1, 1) := by decide +kernel
theorem dX0_nextRow_51 : decode cX0_nextRow 51 = .ok (.iconst 1, 1) := by decide +kernel
theorem dX0_nextRow_52 : decode cX0_nextRow 52 = .ok (.isub, 1) := by decide +kernel
theorem dX0_nextRow_53 : decode cX0_nextRow 53 = .ok (.istore_n 3, 1) := by decide +kernel
theorem dX0_nextRow_54 : decode cX0_nextRow 54 = .ok (.iload_n 3, 1) := by decide +kernel
theorem dX0_nextRow_55 : decode cX0_nextRow 55 = .ok (.iload_n 2, 1) := by decide +kernel
theorem dX0_nextRow_56 : decode cX0_nextRow 56 = .ok (.if_icmp .le 24, 3) := by decide +kernel
theorem dX0_nextRow_59 : decode cX0_nextRow 59 = .ok (.aload_n 0, 1) := by decide +kernel
theorem dX0_nextRow_60 : decode cX0_nextRow 60 = .ok (.getfield 25, 3) := by decide +kernel
theorem dX0_nextRow_63 : decode cX0_nextRow 63 = .ok (.iload_n 3, 1) := by decide +kernel
theorem dX0_nextRow_64 : decode cX0_nextRow 64 = .ok (.iaload, 1) := by decide +kernel
theorem dX0_nextRow_65 : decode cX0_nextRow 65 = .ok (.aload_n 0, 1) := by decide +kernel
theorem dX0_nextRow_66 : decode cX0_nextRow 66 = .ok (.getfield 25, 3) := by decide +kernel
theorem dX0_nextRow_69 : decode cX0_nextRow 69 = .ok (.iload_n 2, 1) := by decide +kernel
theorem dX0_nextRow_70 : decode cX0_nextRow 70 = .ok (.iaload, 1) := by decide +kernel
theorem dX0_nextRow_71 : decode cX0_nextRow 71 = .ok (.if_icmp .ge 9, 3) := by decide +kernel
theorem dX0_nextRow_74 : decode cX0_nextRow 74 = .ok (.iinc 3 (-1), 3) := by decide +kernel
theorem dX0_nextRow_77 : decode cX0_nextRow 77 = .ok (.goto (-23), 3) := by decide +kernel
theorem dX0_nextRow_80 : decode cX0_nextRow 80 = .ok (.aload_n 0, 1) := by decide +kernel
theorem dX0_nextRow_81 : decode cX0_nextRow 81 = .ok (.iload_n 2, 1) := by decide +kernel
theorem dX0_nextRow_82 : decode cX0_nextRow 82 = .ok (.iload_n 3, 1) := by decide +kernel
theorem dX0_nextRow_83 : decode cX0_nextRow 83 = .ok (.invokevirtual 153, 3) := by decide +kernel
theorem dX0_nextRow_86 : decode cX0_nextRow 86 = .ok (.iload_n 2, 1) := by decide +kernel
theorem dX0_nextRow_87 : decode cX0_nextRow 87 = .ok (.iconst 1, 1) := by decide +kernel
theorem dX0_nextRow_88 : decode cX0_nextRow 88 = .ok (.iadd, 1) := by decide +kernel
theorem dX0_nextRow_89 : decode cX0_nextRow 89 = .ok (.istore 4, 2) := by decide +kernel
theorem dX0_nextRow_91 : decode cX0_nextRow 91 = .ok (.iload_n 1, 1) := by decide +kernel
theorem dX0_nextRow_92 : decode cX0_nextRow 92 = .ok (.iconst 1, 1) := by decide +kernel
theorem dX0_nextRow_93 : decode cX0_nextRow 93 = .ok (.isub, 1) := by decide +kernel
theorem dX0_nextRow_94 : decode cX0_nextRow 94 = .ok (.istore 5, 2) := by decide +kernel
theorem dX0_nextRow_96 : decode cX0_nextRow 96 = .ok (.iload 4, 2) := by decide +kernel
theorem dX0_nextRow_98 : decode cX0_nextRow 98 = .ok (.iload 5, 2) := by decide +kernel
theorem dX0_nextRow_100 : decode cX0_nextRow 100 = .ok (.if_icmp .ge 20, 3) := by decide +kernel
theorem dX0_nextRow_103 : decode cX0_nextRow 103 = .ok (.aload_n 0, 1) := by decide +kernel
theorem dX0_nextRow_104 : decode cX0_nextRow 104 = .ok (.iload 4, 2) := by decide +kernel
theorem dX0_nextRow_106 : decode cX0_nextRow 106 = .ok (.iload 5, 2) := by decide +kernel
theorem dX0_nextRow_108 : decode cX0_nextRow 108 = .ok (.invokevirtual 153, 3) := by decide +kernel
theorem dX0_nextRow_111 : decode cX0_nextRow 111 = .ok (.iinc 4 1, 3) := by decide +kernel
theorem dX0_nextRow_114 : decode cX0_nextRow 114 = .ok (.iinc 5 (-1), 3) := by decide +kernel
theorem dX0_nextRow_117 : decode cX0_nextRow 117 = .ok (.goto (-21), 3) := by decide +kernel
theorem dX0_nextRow_120 : decode cX0_nextRow 120 = .ok (.iconst 1, 1) := by decide +kernel
theorem dX0_nextRow_121 : decode cX0_nextRow 121 = .ok (.ireturn, 1) := by decide +kernel
def f_Text_joined (a1 : Int32) (a2 : Int32) (a3 : Int32) : Option Int32 :=
if a1 = 11 then
(if a2 = 0 then
(some 0)
else
(if a3 = 0 then
(some 0)
else
(some 1)))
else
(if a1 = 42 then
(some (a2 * a3))
else
(if a1 = 43 then
(some (a2 + a3))
else
(if a1 = 45 then
(some (a2 - a3))
else
(if a1 = 60 then
(if a3 ≤ a2 then
(some 0)
else
(some 1))
else
(if a1 = 61 then
(if a2 = a3 then
(some 1)
else
(some 0))
else
(if a2 = 0 then
(if a3 = 0 then
(some 0)
else
(some 1))
else
(some 1)))))))
def f_Text_value_L26 (t : Nat) (a1 : Int32) (j4 : Int32 → Mem → Option (Mem × Int32)) : Nat → Int32 → Int32 → Mem → Option (Mem × Int32)
  | 0, _, _, _ => none
  | fu8 + 1, v5, v6, M7 =>
    ck (a1 + 1) 4 <|
    if (M7 (t + 2) (a1 + 1).toNatClampNeg) ≤ v6 then
    (j4 v5 M7)
    else
    (if 160 ≤ v6 then
    (j4 v5 M7)
    else
    (ck v6 160 <|
    bnd ((M7 (t + 1) v6.toNatClampNeg)) fun (v9 : Int32) =>
    if v9 < (-6) then
    (jp (fun (u10 : Unit) =>
    if v5 ≤ 0 then
    (bnd (v6 + 1) fun (v12 : Int32) =>
    f_Text_value_L26 t a1 j4 fu8 v5 v12 M7)
    else
    (jp (fun (v13 : Int32) =>
    ck (v5 - 1) 160 <|
    bnd (wr M7 30 (v5 - 1).toNatClampNeg v13) fun (M15 : Mem) =>
    bnd (v6 + 1) fun (v16 : Int32) =>
    f_Text_value_L26 t a1 j4 fu8 v5 v16 M15) fun j14 =>
    if v9 = (-16) then
    (ck (v5 - 1) 160 <|
    j14 (-(M7 30 (v5 - 1).toNatClampNeg)))
    else
    (ck (v5 - 1) 160 <|
    if (M7 30 (v5 - 1).toNatClampNeg) = 0 then
    (j14 1)
    else
    (j14 0)))) fun j11 =>
    if v9 = (-12) then
    (j11 ())
    else
    (if v9 = (-16) then
    (j11 ())
    else
    (if v5 ≤ 1 then
    (bnd (v6 + 1) fun (v17 : Int32) =>
    f_Text_value_L26 t a1 j4 fu8 v5 v17 M7)
    else
    (bnd (v5 + (-1)) fun (v18 : Int32) =>
    ck (v18 - 1) 160 <|
    ck v18 160 <|
    ob (f_Text_joined (-v9) (M7 30 (v18 - 1).toNatClampNeg) (M7 30 v18.toNatClampNeg)) fun (v20 : Int32) =>
    ck (v18 - 1) 160 <|
    bnd (wr M7 30 (v18 - 1).toNatClampNeg v20) fun (M21 : Mem) =>
    bnd (v6 + 1) fun (v22 : Int32) =>
    f_Text_value_L26 t a1 j4 fu8 v18 v22 M21))))
    else
    (bnd (((-v9) - 1)) fun (v23 : Int32) =>
    if 160 ≤ v5 then
    (bnd (v6 + 1) fun (v24 : Int32) =>
    f_Text_value_L26 t a1 j4 fu8 v5 v24 M7)
    else
    (jp (fun (v25 : Int32) =>
    ck v5 160 <|
    bnd (wr M7 30 v5.toNatClampNeg v25) fun (M27 : Mem) =>
    bnd (v5 + 1) fun (v28 : Int32) =>
    bnd (v6 + 1) fun (v29 : Int32) =>
    f_Text_value_L26 t a1 j4 fu8 v28 v29 M27) fun j26 =>
    if v9 < 0 then
    (if 6 ≤ v23 then
    (j26 0)
    else
    (ck v23 6 <|
    j26 (M7 31 v23.toNatClampNeg)))
    else
    (j26 v9)))))
def f_Text_value (M : Mem) (t : Nat) (a1 : Int32) : Option (Mem × Int32) :=
if a1 < 0 then
(some (M, 0))
else
(if a1 < 3 then
(ck a1 4 <|
bnd ((imax 0 (M (t + 2) a1.toNatClampNeg))) fun (v1 : Int32) =>
jp (fun (v2 : Int32) (M3 : Mem) =>
if v2 ≤ 0 then
(some (M3, 0))
else
(ck (v2 - 1) 160 <|
some (M3, (M3 30 (v2 - 1).toNatClampNeg)))) fun j4 =>
f_Text_value_L26 t a1 j4 FU 0 v1 M)
else
(some (M, 0)))
def f_Day_swap (M : Mem) (a1 : Int32) (a2 : Int32) : Option Mem :=
ck a1 6 <|
bnd ((M 32 a1.toNatClampNeg)) fun (v1 : Int32) =>
ck a2 6 <|
ck a1 6 <|
bnd (wr M 32 a1.toNatClampNeg (M 32 a2.toNatClampNeg)) fun (M2 : Mem) =>
ck a2 6 <|
bnd (wr M2 32 a2.toNatClampNeg v1) fun (M3 : Mem) =>
some M3
def f_Day_place (M : Mem) (a1 : Int32) (a2 : Int32) : Option Mem :=
if a1 < 0 then
(some M)
else
(if 6 ≤ a1 then
(some M)
else
(if a2 < 0 then
(some M)
else
(if 6 ≤ a2 then
(some M)
else
(ck a1 6 <|
bnd (wr M 32 a1.toNatClampNeg a2) fun (M1 : Mem) =>
some M1))))
def f_Day_tells (M : Mem) (a1 : Int32) (a2 : Int32) (a3 : Int32) : Option (Mem × Int32) :=
bnd ((M 24 6)) fun (v1 : Int32) =>
if v1 < 0 then
(some (M, 0))
else
(if 6 ≤ v1 then
(some (M, 0))
else
(ck v1 6 <|
ck 0 6 <|
ck 0 6 <|
bnd (wr M 31 (0 : Int32).toNatClampNeg (M 25 (0 : Int32).toNatClampNeg)) fun (M3 : Mem) =>
ck 1 6 <|
ck 1 6 <|
bnd (wr M3 31 (1 : Int32).toNatClampNeg (M3 25 (1 : Int32).toNatClampNeg)) fun (M4 : Mem) =>
ck 2 6 <|
ck 2 6 <|
bnd (wr M4 31 (2 : Int32).toNatClampNeg (M4 25 (2 : Int32).toNatClampNeg)) fun (M5 : Mem) =>
ck a2 6 <|
ck 3 6 <|
bnd (wr M5 31 (3 : Int32).toNatClampNeg (M5 28 a2.toNatClampNeg)) fun (M6 : Mem) =>
ck 4 6 <|
bnd (wr M6 31 (4 : Int32).toNatClampNeg a3) fun (M7 : Mem) =>
ck a2 6 <|
ck 5 6 <|
bnd (wr M7 31 (5 : Int32).toNatClampNeg (M7 27 a2.toNatClampNeg)) fun (M8 : Mem) =>
ck v1 6 <|
ob2 (f_Text_value M8 (42 + 3 * v1.toNatClampNeg) a1) fun (M11 : Mem) (v12 : Int32) =>
ck a1 3 <|
ck a1 3 <|
some (M11, (imax (tb 2 a1.toNatClampNeg) (imin (tb 3 a1.toNatClampNeg) v12)))))
def f_Day_reckon_L2 (j2 : Mem → Option Mem) : Nat → Int32 → Mem → Option Mem
  | 0, _, _ => none
  | fu5 + 1, v3, M4 =>
    if (M4 24 5) ≤ v3 then
    (j2 M4)
    else
    (if 6 ≤ v3 then
    (j2 M4)
    else
    (ck v3 6 <|
    bnd ((M4 26 v3.toNatClampNeg)) fun (v6 : Int32) =>
    ck v3 6 <|
    bnd ((M4 27 v3.toNatClampNeg)) fun (v7 : Int32) =>
    ck v3 6 <|
    jp (fun (v8 : Int32) =>
    ob2 (f_Day_tells M4 0 v3 0) fun (M11 : Mem) (v12 : Int32) =>
    ob (f_Kind_ripens v6 v7 v8 v12) fun (v14 : Int32) =>
    ck v3 6 <|
    bnd (wr M11 33 v3.toNatClampNeg v14) fun (M15 : Mem) =>
    ob (f_Kind_lasts v6 v7) fun (v17 : Int32) =>
    ck v3 6 <|
    bnd (wr M15 34 v3.toNatClampNeg v17) fun (M18 : Mem) =>
    ck v3 6 <|
    ob2 (f_Day_tells M18 1 v3 0) fun (M20 : Mem) (v21 : Int32) =>
    ob (f_Kind_takes v6 (M18 28 v3.toNatClampNeg) v21) fun (v23 : Int32) =>
    ck v3 6 <|
    bnd (wr M20 35 v3.toNatClampNeg v23) fun (M24 : Mem) =>
    bnd (v3 + 1) fun (v25 : Int32) =>
    f_Day_reckon_L2 j2 fu5 v25 M24) fun j9 =>
    if (M4 29 v3.toNatClampNeg) = 1 then
    (j9 1)
    else
    (j9 0)))
def f_Day_reckon (M : Mem) : Option Mem :=
jp (fun (M1 : Mem) =>
some M1) fun j2 =>
f_Day_reckon_L2 j2 FU 0 M
def f_Day_dawn_L27 (j7 : Mem → Option Mem) : Nat → Int32 → Mem → Option Mem
  | 0, _, _ => none
  | fu10 + 1, v8, M9 =>
    if 6 ≤ v8 then
    (j7 M9)
    else
    (ck v8 6 <|
    bnd (wr M9 36 v8.toNatClampNeg (-1)) fun (M11 : Mem) =>
    ck v8 6 <|
    bnd (wr M11 37 v8.toNatClampNeg (-1)) fun (M12 : Mem) =>
    ck v8 6 <|
    bnd (wr M12 38 v8.toNatClampNeg (-1)) fun (M13 : Mem) =>
    ck v8 6 <|
    bnd (wr M13 39 v8.toNatClampNeg 0) fun (M14 : Mem) =>
    bnd (v8 + 1) fun (v15 : Int32) =>
    f_Day_dawn_L27 j7 fu10 v15 M14)
def f_Day_dawn (M : Mem) : Option Mem :=
bnd (wr M 23 12 0) fun (M1 : Mem) =>
bnd (wr M1 23 13 0) fun (M2 : Mem) =>
bnd (wr M2 23 14 0) fun (M3 : Mem) =>
bnd (wr M3 23 15 0) fun (M4 : Mem) =>
bnd (wr M4 23 16 0) fun (M5 : Mem) =>
jp (fun (M6 : Mem) =>
some M6) fun j7 =>
f_Day_dawn_L27 j7 FU 0 M5
def f_Day_firstRipe_L4 (M : Mem) (j2 : Int32 → Option Int32) : Nat → Int32 → Int32 → Option Int32
  | 0, _, _ => none
  | fu5 + 1, v3, v4 =>
    if (M 23 12) ≤ v4 then
    (j2 v3)
    else
    (if 6 ≤ v4 then
    (j2 v3)
    else
    (ck v4 6 <|
    bnd ((M 32 v4.toNatClampNeg)) fun (v6 : Int32) =>
    ck v6 6 <|
    if (M 38 v6.toNatClampNeg) = (-1) then
    (ck v6 6 <|
    ck 5 6 <|
    if (M 23 14) < ((M 37 v6.toNatClampNeg) - (M 25 (5 : Int32).toNatClampNeg)) then
    (bnd (v4 + 1) fun (v8 : Int32) =>
    f_Day_firstRipe_L4 M j2 fu5 v3 v8)
    else
    (jp (fun (u9 : Unit) =>
    bnd (v4 + 1) fun (v11 : Int32) =>
    f_Day_firstRipe_L4 M j2 fu5 v6 v11) fun j10 =>
    if v3 = (-1) then
    (j10 ())
    else
    (ck v6 6 <|
    ck v3 6 <|
    if (M 37 v3.toNatClampNeg) ≤ (M 37 v6.toNatClampNeg) then
    (bnd (v4 + 1) fun (v12 : Int32) =>
    f_Day_firstRipe_L4 M j2 fu5 v3 v12)
    else
    (j10 ()))))
    else
    (bnd (v4 + 1) fun (v7 : Int32) =>
    f_Day_firstRipe_L4 M j2 fu5 v3 v7)))
def f_Day_firstRipe (M : Mem) : Option Int32 :=
jp (fun (v1 : Int32) =>
some v1) fun j2 =>
f_Day_firstRipe_L4 M j2 FU (-1) 0
def f_Day_trowel (M : Mem) (a1 : Int32) : Option Mem :=
ck a1 6 <|
ck a1 6 <|
bnd (((M 23 14) - ((M 37 a1.toNatClampNeg) + (M 34 a1.toNatClampNeg)))) fun (v1 : Int32) =>
ck a1 6 <|
bnd (((M 23 14) - (M 37 a1.toNatClampNeg))) fun (v2 : Int32) =>
jp (fun (v3 : Int32) =>
ck a1 6 <|
bnd (wr M 39 a1.toNatClampNeg v3) fun (M5 : Mem) =>
ck a1 6 <|
jp (fun (M6 : Mem) =>
ck a1 6 <|
bnd (wr M6 38 a1.toNatClampNeg (M6 23 14)) fun (M8 : Mem) =>
ck a1 6 <|
bnd (wr M8 23 14 ((M8 23 14) + (M8 28 a1.toNatClampNeg))) fun (M9 : Mem) =>
bnd (wr M9 23 13 ((M9 23 13) + 1)) fun (M10 : Mem) =>
some M10) fun j7 =>
if (M5 39 a1.toNatClampNeg) = 0 then
(j7 M5)
else
(ck a1 6 <|
ob2 (f_Day_tells M5 2 a1 (M5 39 a1.toNatClampNeg)) fun (M12 : Mem) (v13 : Int32) =>
bnd (wr M12 23 16 ((M5 23 16) + v13)) fun (M14 : Mem) =>
j7 M14)) fun j4 =>
if v1 ≤ 0 then
(if 0 ≤ v2 then
(j4 0)
else
(j4 v2))
else
(j4 v1)
def f_Day_nextBegins (M : Mem) : Option Int32 :=
if (M 23 12) ≤ 0 then
(some 0)
else
(if 6 < (M 23 12) then
(some 0)
else
(ck ((M 23 12) - 1) 6 <|
ck (M 32 ((M 23 12) - 1).toNatClampNeg) 6 <|
ck 4 6 <|
some ((M 36 (M 32 ((M 23 12) - 1).toNatClampNeg).toNatClampNeg) + (M 25 (4 : Int32).toNatClampNeg))))
def f_Day_mayBegin (M : Mem) : Option Bool :=
if (M 24 5) ≤ (M 23 12) then
(some false)
else
(if 6 ≤ (M 23 12) then
(some false)
else
(if (M 23 12) = 0 then
(some true)
else
(ob (f_Day_nextBegins M) fun (v2 : Int32) =>
if (M 23 14) < v2 then
(some false)
else
(some true))))
def f_Day_begin (M : Mem) (a1 : Int32) : Option Mem :=
ck 3 6 <|
bnd ((imax 1 (M 25 (3 : Int32).toNatClampNeg))) fun (v1 : Int32) =>
ck a1 6 <|
bnd (wr M 36 a1.toNatClampNeg (M 23 14)) fun (M2 : Mem) =>
ck a1 6 <|
nz v1 <|
bnd (wr M2 23 14 ((M2 23 14) + (imax 1 ((M2 35 a1.toNatClampNeg) / v1)))) fun (M3 : Mem) =>
ck a1 6 <|
ck a1 6 <|
bnd (wr M3 37 a1.toNatClampNeg ((M3 23 14) + (M3 33 a1.toNatClampNeg))) fun (M4 : Mem) =>
bnd (wr M4 23 12 ((M4 23 12) + 1)) fun (M5 : Mem) =>
some M5
def f_Day_waitOn_L33 (M : Mem) (j4 : Int32 → Option Mem) : Nat → Int32 → Int32 → Option Mem
  | 0, _, _ => none
  | fu10 + 1, v8, v9 =>
    if (M 23 12) ≤ v9 then
    (j4 v8)
    else
    (if 6 ≤ v9 then
    (j4 v8)
    else
    (ck v9 6 <|
    bnd ((M 32 v9.toNatClampNeg)) fun (v11 : Int32) =>
    ck v11 6 <|
    if (M 38 v11.toNatClampNeg) = (-1) then
    (ck v11 6 <|
    ck 5 6 <|
    bnd ((imin v8 ((M 37 v11.toNatClampNeg) - (M 25 (5 : Int32).toNatClampNeg)))) fun (v13 : Int32) =>
    bnd (v9 + 1) fun (v14 : Int32) =>
    f_Day_waitOn_L33 M j4 fu10 v13 v14)
    else
    (bnd (v9 + 1) fun (v12 : Int32) =>
    f_Day_waitOn_L33 M j4 fu10 v8 v12)))
def f_Day_waitOn (M : Mem) : Option Mem :=
jp (fun (v1 : Int32) =>
jp (fun (v3 : Int32) =>
bnd ((imax v3 ((M 23 14) + 1))) fun (v5 : Int32) =>
bnd (wr M 23 15 ((M 23 15) + (v5 - (M 23 14)))) fun (M6 : Mem) =>
bnd (wr M6 23 14 v5) fun (M7 : Mem) =>
some M7) fun j4 =>
f_Day_waitOn_L33 M j4 FU v1 0) fun j2 =>
if (M 24 5) ≤ (M 23 12) then
(j2 4000)
else
(ob (f_Day_nextBegins M) fun (v16 : Int32) =>
j2 (imin 4000 v16))
def f_Day_live_L6 (j4 : Mem → Option Mem) : Nat → Int32 → Mem → Option Mem
  | 0, _, _ => none
  | fu7 + 1, v5, M6 =>
    if 4000 ≤ v5 then
    (j4 M6)
    else
    (if (M6 24 5) ≤ (M6 23 13) then
    (j4 M6)
    else
    (if 4000 ≤ (M6 23 14) then
    (j4 M6)
    else
    (ob (f_Day_firstRipe M6) fun (v9 : Int32) =>
    if v9 = (-1) then
    (ob (f_Day_mayBegin M6) fun (v11 : Bool) =>
    if v11 = true then
    (ck (M6 23 12) 6 <|
    ob (f_Day_begin M6 (M6 32 (M6 23 12).toNatClampNeg)) fun (M16 : Mem) =>
    bnd (v5 + 1) fun (v17 : Int32) =>
    f_Day_live_L6 j4 fu7 v17 M16)
    else
    (ob (f_Day_waitOn M6) fun (M13 : Mem) =>
    bnd (v5 + 1) fun (v14 : Int32) =>
    f_Day_live_L6 j4 fu7 v14 M13))
    else
    (ob (f_Day_trowel M6 v9) fun (M19 : Mem) =>
    bnd (v5 + 1) fun (v20 : Int32) =>
    f_Day_live_L6 j4 fu7 v20 M19))))
def f_Day_live (M : Mem) : Option Mem :=
ob (f_Day_dawn M) fun (M2 : Mem) =>
jp (fun (M3 : Mem) =>
some M3) fun j4 =>
f_Day_live_L6 j4 FU 0 M2
def f_Day_late_L4 (M : Mem) (j2 : Int32 → Option Int32) : Nat → Int32 → Int32 → Option Int32
  | 0, _, _ => none
  | fu5 + 1, v3, v4 =>
    if 6 ≤ v4 then
    (j2 v3)
    else
    (ck v4 6 <|
    jp (fun (v6 : Int32) =>
    bnd ((v3 ||| v6)) fun (v8 : Int32) =>
    bnd (v4 + 1) fun (v9 : Int32) =>
    f_Day_late_L4 M j2 fu5 v8 v9) fun j7 =>
    if (M 39 v4.toNatClampNeg) ≤ 0 then
    (j7 0)
    else
    (j7 (1 <<< (v4 &&& 31))))
def f_Day_late (M : Mem) : Option Int32 :=
jp (fun (v1 : Int32) =>
some v1) fun j2 =>
f_Day_late_L4 M j2 FU 0 0
def f_Day_early_L4 (M : Mem) (j2 : Int32 → Option Int32) : Nat → Int32 → Int32 → Option Int32
  | 0, _, _ => none
  | fu5 + 1, v3, v4 =>
    if 6 ≤ v4 then
    (j2 v3)
    else
    (ck v4 6 <|
    jp (fun (v6 : Int32) =>
    bnd ((v3 ||| v6)) fun (v8 : Int32) =>
    bnd (v4 + 1) fun (v9 : Int32) =>
    f_Day_early_L4 M j2 fu5 v8 v9) fun j7 =>
    if 0 ≤ (M 39 v4.toNatClampNeg) then
    (j7 0)
    else
    (j7 (1 <<< (v4 &&& 31))))
def f_Day_early (M : Mem) : Option Int32 :=
jp (fun (v1 : Int32) =>
some v1) fun j2 =>
f_Day_early_L4 M j2 FU 0 0
def f_Day_unlike_L4 (M : Mem) (t1 : Nat) (j2 : Int32 → Option Int32) : Nat → Int32 → Int32 → Option Int32
  | 0, _, _ => none
  | fu5 + 1, v3, v4 =>
    if (M 24 5) ≤ v4 then
    (j2 v3)
    else
    (if 6 ≤ v4 then
    (j2 v3)
    else
    (ck v4 6 <|
    ck v4 40 <|
    jp (fun (v6 : Int32) =>
    bnd ((v3 ||| v6)) fun (v8 : Int32) =>
    bnd (v4 + 1) fun (v9 : Int32) =>
    f_Day_unlike_L4 M t1 j2 fu5 v8 v9) fun j7 =>
    if (M 38 v4.toNatClampNeg) = (M (t1 + 1) v4.toNatClampNeg) then
    (j7 0)
    else
    (j7 (1 <<< (v4 &&& 31)))))
def f_Day_unlike (M : Mem) (t1 : Nat) : Option Int32 :=
jp (fun (v1 : Int32) =>
some v1) fun j2 =>
f_Day_unlike_L4 M t1 j2 FU 0 0
def f_Day_rowAsDigits_L4 (M : Mem) (j2 : Int32 → Option Int32) : Nat → Int32 → Int32 → Option Int32
  | 0, _, _ => none
  | fu5 + 1, v3, v4 =>
    if (M 24 5) ≤ v4 then
    (j2 v3)
    else
    (if 6 ≤ v4 then
    (j2 v3)
    else
    (ck v4 6 <|
    bnd ((((v3 * 10) + (M 32 v4.toNatClampNeg)) + 1)) fun (v6 : Int32) =>
    bnd (v4 + 1) fun (v7 : Int32) =>
    f_Day_rowAsDigits_L4 M j2 fu5 v6 v7))
def f_Day_rowAsDigits (M : Mem) : Option Int32 :=
jp (fun (v1 : Int32) =>
some v1) fun j2 =>
f_Day_rowAsDigits_L4 M j2 FU 0 0
def f_Day_nextRow_L96 (j13 : Mem → Option (Mem × Bool)) : Nat → Int32 → Int32 → Mem → Option (Mem × Bool)
  | 0, _, _, _ => none
  | fu17 + 1, v14, v15, M16 =>
    if v15 ≤ v14 then
    (j13 M16)
    else
    (ob (f_Day_swap M16 v14 v15) fun (M19 : Mem) =>
    bnd (v14 + 1) fun (v20 : Int32) =>
    bnd (v15 + (-1)) fun (v21 : Int32) =>
    f_Day_nextRow_L96 j13 fu17 v20 v21 M19)
def f_Day_nextRow_L54 (M : Mem) (v3 : Int32) (j7 : Int32 → Option (Mem × Bool)) : Nat → Int32 → Option (Mem × Bool)
  | 0, _ => none
  | fu23 + 1, v22 =>
    if v22 ≤ v3 then
    (j7 v22)
    else
    (ck v22 6 <|
    ck v3 6 <|
    if (M 32 v3.toNatClampNeg) ≤ (M 32 v22.toNatClampNeg) then
    (j7 v22)
    else
    (bnd (v22 + (-1)) fun (v24 : Int32) =>
    f_Day_nextRow_L54 M v3 j7 fu23 v24))
def f_Day_nextRow_L17 (M : Mem) (j4 : Int32 → Option (Mem × Bool)) : Nat → Int32 → Option (Mem × Bool)
  | 0, _ => none
  | fu26 + 1, v25 =>
    if v25 < 0 then
    (j4 v25)
    else
    (ck v25 6 <|
    ck (v25 + 1) 6 <|
    if (M 32 v25.toNatClampNeg) ≤ (M 32 (v25 + 1).toNatClampNeg) then
    (j4 v25)
    else
    (bnd (v25 + (-1)) fun (v27 : Int32) =>
    f_Day_nextRow_L17 M j4 fu26 v27))
def f_Day_nextRow (M : Mem) : Option (Mem × Bool) :=
bnd ((imin (M 24 5) 6)) fun (v1 : Int32) =>
bnd ((v1 - 2)) fun (v2 : Int32) =>
jp (fun (v3 : Int32) =>
if 0 ≤ v3 then
(bnd ((v1 - 1)) fun (v5 : Int32) =>
jp (fun (v6 : Int32) =>
ob (f_Day_swap M v3 v6) fun (M9 : Mem) =>
bnd ((v3 + 1)) fun (v10 : Int32) =>
bnd ((v1 - 1)) fun (v11 : Int32) =>
jp (fun (M12 : Mem) =>
some (M12, true)) fun j13 =>
f_Day_nextRow_L96 j13 FU v10 v11 M9) fun j7 =>
f_Day_nextRow_L54 M v3 j7 FU v5)
else
(some (M, false))) fun j4 =>
f_Day_nextRow_L17 M j4 FU v2
set_option maxHeartbeats 4000000 in
set_option maxRecDepth 20000 in
theorem w_f_Text_joined {X : XT} {M : Mem} {a1 : Int32} {a2 : Int32} {a3 : Int32} {r : Int32}   (h : f_Text_joined a1 a2 a3 = some r) : CT layX X 0 yX7_joined cX7_joined 3 (some .int) [.int a1, .int a2, .int a3] M M (some (.int r)) := by
  refine CT.of rfl (Nat.le_of_ble_eq_true rfl) (lv := [(0, .int a1), (1, .int a2), (2, .int a3)]) rfl (fun Γ K => ?_)
  have K : Kx layX X Γ RX7 cX7_joined 3 0 (some .int) := K
  unfold f_Text_joined at h
  refine g_iload_n (pn := 1) K rfl 0 rfl dX7_joined_0 ?_
  rcases Decidable.em (a1 = 11) with hs | hs0
  · replace h := (ite_e h).1 hs
    refine g_lsw (tgt := 94) (off := 93) K (lsw_t hs (by decide)) (by decide) (by decide) dX7_joined_1 ?_
    refine g_iload_n (pn := 95) K rfl 1 rfl dX7_joined_94 ?_
    refine g_if_eq (tgt := 106) (pn := 98) K rfl (by decide) dX7_joined_95 h (fun h => ?_) (fun h => ?_)
    · refine g_iconst (pn := 107) (v := 0) K rfl ic_0 dX7_joined_106 ?_
      exact g_iret K dX7_joined_107 (oi h) rfl
    · refine g_iload_n (pn := 99) K rfl 2 rfl dX7_joined_98 ?_
      refine g_if_eq (tgt := 106) (pn := 102) K rfl (by decide) dX7_joined_99 h (fun h => ?_) (fun h => ?_)
      · refine g_iconst (pn := 107) (v := 0) K rfl ic_0 dX7_joined_106 ?_
        exact g_iret K dX7_joined_107 (oi h) rfl
      · refine g_iconst (pn := 103) (v := 1) K rfl ic_1 dX7_joined_102 ?_
        refine g_goto (tgt := 107) K (by decide) dX7_joined_103 ?_
        exact g_iret K dX7_joined_107 (oi h) rfl
  · replace h := (ite_e h).2 hs0
    rcases Decidable.em (a1 = 42) with hs | hs1
    · replace h := (ite_e h).1 hs
      refine g_lsw (tgt := 68) (off := 67) K (lsw_f hs0 (by decide) (lsw_t hs (by decide))) (by decide) (by decide) dX7_joined_1 ?_
      refine g_iload_n (pn := 69) K rfl 1 rfl dX7_joined_68 ?_
      refine g_iload_n (pn := 70) K rfl 2 rfl dX7_joined_69 ?_
      refine g_imul (pn := 71) K rfl dX7_joined_70 ?_
      exact g_iret K dX7_joined_71 (oi h) rfl
    · replace h := (ite_e h).2 hs1
      rcases Decidable.em (a1 = 43) with hs | hs2
      · replace h := (ite_e h).1 hs
        refine g_lsw (tgt := 60) (off := 59) K (lsw_f hs0 (by decide) (lsw_f hs1 (by decide) (lsw_t hs (by decide)))) (by decide) (by decide) dX7_joined_1 ?_
        refine g_iload_n (pn := 61) K rfl 1 rfl dX7_joined_60 ?_
        refine g_iload_n (pn := 62) K rfl 2 rfl dX7_joined_61 ?_
        refine g_iadd (pn := 63) K rfl dX7_joined_62 ?_
        exact g_iret K dX7_joined_63 (oi h) rfl
      · replace h := (ite_e h).2 hs2
        rcases Decidable.em (a1 = 45) with hs | hs3
        · replace h := (ite_e h).1 hs
          refine g_lsw (tgt := 64) (off := 63) K (lsw_f hs0 (by decide) (lsw_f hs1 (by decide) (lsw_f hs2 (by decide) (lsw_t hs (by decide))))) (by decide) (by decide) dX7_joined_1 ?_
          refine g_iload_n (pn := 65) K rfl 1 rfl dX7_joined_64 ?_
          refine g_iload_n (pn := 66) K rfl 2 rfl dX7_joined_65 ?_
          refine g_isub (pn := 67) K rfl dX7_joined_66 ?_
          exact g_iret K dX7_joined_67 (oi h) rfl
        · replace h := (ite_e h).2 hs3
          rcases Decidable.em (a1 = 60) with hs | hs4
          · replace h := (ite_e h).1 hs
            refine g_lsw (tgt := 72) (off := 71) K (lsw_f hs0 (by decide) (lsw_f hs1 (by decide) (lsw_f hs2 (by decide) (lsw_f hs3 (by decide) (lsw_t hs (by decide)))))) (by decide) (by decide) dX7_joined_1 ?_
            refine g_iload_n (pn := 73) K rfl 1 rfl dX7_joined_72 ?_
            refine g_iload_n (pn := 74) K rfl 2 rfl dX7_joined_73 ?_
            refine g_icmp_ge (tgt := 81) (pn := 77) K rfl (by decide) dX7_joined_74 h (fun h => ?_) (fun h => ?_)
            · refine g_iconst (pn := 82) (v := 0) K rfl ic_0 dX7_joined_81 ?_
              exact g_iret K dX7_joined_82 (oi h) rfl
            · refine g_iconst (pn := 78) (v := 1) K rfl ic_1 dX7_joined_77 ?_
              refine g_goto (tgt := 82) K (by decide) dX7_joined_78 ?_
              exact g_iret K dX7_joined_82 (oi h) rfl
          · replace h := (ite_e h).2 hs4
            rcases Decidable.em (a1 = 61) with hs | hs5
            · replace h := (ite_e h).1 hs
              refine g_lsw (tgt := 83) (off := 82) K (lsw_f hs0 (by decide) (lsw_f hs1 (by decide) (lsw_f hs2 (by decide) (lsw_f hs3 (by decide) (lsw_f hs4 (by decide) (lsw_t hs (by decide))))))) (by decide) (by decide) dX7_joined_1 ?_
              refine g_iload_n (pn := 84) K rfl 1 rfl dX7_joined_83 ?_
              refine g_iload_n (pn := 85) K rfl 2 rfl dX7_joined_84 ?_
              refine g_icmp_ne (tgt := 92) (pn := 88) K rfl (by decide) dX7_joined_85 h (fun h => ?_) (fun h => ?_)
              · refine g_iconst (pn := 93) (v := 0) K rfl ic_0 dX7_joined_92 ?_
                exact g_iret K dX7_joined_93 (oi h) rfl
              · refine g_iconst (pn := 89) (v := 1) K rfl ic_1 dX7_joined_88 ?_
                refine g_goto (tgt := 93) K (by decide) dX7_joined_89 ?_
                exact g_iret K dX7_joined_93 (oi h) rfl
            · replace h := (ite_e h).2 hs5
              refine g_lsw (tgt := 108) K (lsw_f hs0 (by decide) (lsw_f hs1 (by decide) (lsw_f hs2 (by decide) (lsw_f hs3 (by decide) (lsw_f hs4 (by decide) (lsw_f hs5 (by decide) (lsw_0 _ _))))))) (by decide) (by decide) dX7_joined_1 ?_
              refine g_iload_n (pn := 109) K rfl 1 rfl dX7_joined_108 ?_
              refine g_if_ne (tgt := 116) (pn := 112) K rfl (by decide) dX7_joined_109 h (fun h => ?_) (fun h => ?_)
              · refine g_iconst (pn := 117) (v := 1) K rfl ic_1 dX7_joined_116 ?_
                refine g_goto (tgt := 121) K (by decide) dX7_joined_117 ?_
                exact g_iret K dX7_joined_121 (oi h) rfl
              · refine g_iload_n (pn := 113) K rfl 2 rfl dX7_joined_112 ?_
                refine g_if_eq (tgt := 120) (pn := 116) K rfl (by decide) dX7_joined_113 h (fun h => ?_) (fun h => ?_)
                · refine g_iconst (pn := 121) (v := 0) K rfl ic_0 dX7_joined_120 ?_
                  exact g_iret K dX7_joined_121 (oi h) rfl
                · refine g_iconst (pn := 117) (v := 1) K rfl ic_1 dX7_joined_116 ?_
                  refine g_goto (tgt := 121) K (by decide) dX7_joined_117 ?_
                  exact g_iret K dX7_joined_121 (oi h) rfl
set_option maxHeartbeats 4000000 in
set_option maxRecDepth 20000 in
theorem w_f_Text_value {X : XT} {M : Mem} {t : Nat} {a1 : Int32} {M' : Mem} {r : Int32} (ht : isText t)  (h : f_Text_value M t a1 = some (M', r)) : CT layX X 1 yX7_value cX7_value 8 (some .int) [.ref (X.2.2.2.1 t), .int a1, .ref (X.2.2.2.1 31), .ref (X.2.2.2.1 30)] M M' (some (.int r)) := by
  refine CT.of rfl (Nat.le_of_ble_eq_true rfl) (lv := [(0, .ref (X.2.2.2.1 t)), (1, .int a1), (2, .ref (X.2.2.2.1 31)), (3, .ref (X.2.2.2.1 30))]) rfl (fun Γ K => ?_)
  have K : Kx layX X Γ RX7 cX7_value 8 1 (some .int) := K
  unfold f_Text_value at h
  refine g_iload_n (pn := 1) K rfl 1 rfl dX7_value_0 ?_
  refine g_if_lt (tgt := 9) (pn := 4) K rfl (by decide) dX7_value_1 h (fun h => ?_) (fun h => ?_)
  · refine g_iconst (pn := 10) (v := 0) K rfl ic_0 dX7_value_9 ?_
    exact g_iret K dX7_value_10 (oi2 h).2 (oi2 h).1
  · refine g_iload_n (pn := 5) K rfl 1 rfl dX7_value_4 ?_
    refine g_iconst (pn := 6) (v := 3) K rfl ic_3 dX7_value_5 ?_
    refine g_icmp_lt (tgt := 11) (pn := 9) K rfl (by decide) dX7_value_6 h (fun h => ?_) (fun h => ?_)
    · refine g_iconst (pn := 12) (v := 0) K rfl ic_0 dX7_value_11 ?_
      refine g_istore (pn := 14) (lv' := [(4, .int 0), (0, .ref (X.2.2.2.1 t)), (1, .int a1), (2, .ref (X.2.2.2.1 31)), (3, .ref (X.2.2.2.1 30))]) K rfl dX7_value_12 (Nat.le_of_ble_eq_true rfl) rfl ?_
      refine g_iconst (pn := 15) (v := 0) K rfl ic_0 dX7_value_14 ?_
      refine g_aload_n (pn := 16) K rfl 1 rfl dX7_value_15 ?_
      refine g_getr (pn := 19) (j := (t + 2)) K rfl fl_X7_15 (lxText ht) rfl dX7_value_16 ?_
      refine g_iload_n (pn := 20) K rfl 2 rfl dX7_value_19 ?_
      refine g_iald (pn := 21) K rfl (lxText2 ht) dX7_value_20 h (fun h => ?_)
      refine g_mmax (pn := 24) K rfl (by decide) mm_X7_22 mm_max_s mm_i mm_max_c (Nat.le_of_ble_eq_true rfl) dX7_value_21 ?_
      refine g_nmi h (fun v1 h => ?_)
      refine g_istore (pn := 26) (lv' := [(5, .int v1), (4, .int 0), (0, .ref (X.2.2.2.1 t)), (1, .int a1), (2, .ref (X.2.2.2.1 31)), (3, .ref (X.2.2.2.1 30))]) K rfl dX7_value_24 (Nat.le_of_ble_eq_true rfl) rfl ?_
      refine jp_e2 h (fun v2 M3 => G layX X Γ 8 (QM layX X Γ (some (.int r)) M') 208 [(3, .ref (X.2.2.2.1 30)), (4, .int v2)] [] M3) (fun v2 M3 h => ?_) (fun j4 hj4 h => ?_)
      · refine g_iload (pn := 210) K rfl 1 rfl dX7_value_208 ?_
        refine g_if_le (tgt := 222) (pn := 213) K rfl (by decide) dX7_value_210 h (fun h => ?_) (fun h => ?_)
        · refine g_iconst (pn := 223) (v := 0) K rfl ic_0 dX7_value_222 ?_
          exact g_iret K dX7_value_223 (oi2 h).2 (oi2 h).1
        · refine g_aload_n (pn := 214) K rfl 0 rfl dX7_value_213 ?_
          refine g_iload (pn := 216) K rfl 1 rfl dX7_value_214 ?_
          refine g_iconst (pn := 217) (v := 1) K rfl ic_1 dX7_value_216 ?_
          refine g_isub (pn := 218) K rfl dX7_value_217 ?_
          refine g_iald (pn := 219) K rfl lx_30 dX7_value_218 h (fun h => ?_)
          refine g_goto (tgt := 223) K (by decide) dX7_value_219 ?_
          exact g_iret K dX7_value_223 (oi2 h).2 (oi2 h).1
      have LP26 : ∀ (fu8 : Nat) (v5 : Int32) (v6 : Int32) (M7 : Mem), f_Text_value_L26 t a1 j4 fu8 v5 v6 M7 = some (M', r) → G layX X Γ 8 (QM layX X Γ (some (.int r)) M') 26 [(0, .ref (X.2.2.2.1 t)), (1, .int a1), (2, .ref (X.2.2.2.1 31)), (3, .ref (X.2.2.2.1 30)), (4, .int v5), (5, .int v6)] [] M7 := by
        intro fu8
        induction fu8 with
        | zero =>
          intro v5 v6 M7 h
          rw [f_Text_value_L26] at h
          cases h
        | succ fu8 ih8 =>
          intro v5 v6 M7 h
          rw [f_Text_value_L26] at h
          refine g_iload (pn := 28) K rfl 5 rfl dX7_value_26 ?_
          refine g_aload_n (pn := 29) K rfl 0 rfl dX7_value_28 ?_
          refine g_getr (pn := 32) (j := (t + 2)) K rfl fl_X7_15 (lxText ht) rfl dX7_value_29 ?_
          refine g_iload_n (pn := 33) K rfl 1 rfl dX7_value_32 ?_
          refine g_iconst (pn := 34) (v := 1) K rfl ic_1 dX7_value_33 ?_
          refine g_iadd (pn := 35) K rfl dX7_value_34 ?_
          refine g_iald (pn := 36) K rfl (lxText2 ht) dX7_value_35 h (fun h => ?_)
          refine g_icmp_ge (tgt := 208) (pn := 39) K rfl (by decide) dX7_value_36 h (fun h => ?_) (fun h => ?_)
          · refine g_sub [3, 4] rfl ?_
            exact hj4 _ _ h
          · refine g_iload (pn := 41) K rfl 5 rfl dX7_value_39 ?_
            refine g_sipush (pn := 44) (v := 160) K rfl sp_160 dX7_value_41 ?_
            refine g_icmp_ge (tgt := 208) (pn := 47) K rfl (by decide) dX7_value_44 h (fun h => ?_) (fun h => ?_)
            · refine g_sub [3, 4] rfl ?_
              exact hj4 _ _ h
            · refine g_aload_n (pn := 48) K rfl 0 rfl dX7_value_47 ?_
              refine g_getr (pn := 51) (j := (t + 1)) K rfl fl_X7_9 (lxText ht) rfl dX7_value_48 ?_
              refine g_iload (pn := 53) K rfl 5 rfl dX7_value_51 ?_
              refine g_iald (pn := 54) K rfl (lxText1 ht) dX7_value_53 h (fun h => ?_)
              refine g_nmi h (fun v9 h => ?_)
              refine g_istore (pn := 56) (lv' := [(6, .int v9), (0, .ref (X.2.2.2.1 t)), (1, .int a1), (2, .ref (X.2.2.2.1 31)), (3, .ref (X.2.2.2.1 30)), (4, .int v5), (5, .int v6)]) K rfl dX7_value_54 (Nat.le_of_ble_eq_true rfl) rfl ?_
              refine g_iload (pn := 58) K rfl 0 rfl dX7_value_56 ?_
              refine g_bipush (pn := 60) (v := (-6)) K rfl bp_m6 dX7_value_58 ?_
              refine g_icmp_lt (tgt := 112) (pn := 63) K rfl (by decide) dX7_value_60 h (fun h => ?_) (fun h => ?_)
              · refine g_iload (pn := 114) K rfl 0 rfl dX7_value_112 ?_
                refine g_bipush (pn := 116) (v := (-12)) K rfl bp_m12 dX7_value_114 ?_
                refine jp_e1 h (fun u10 => G layX X Γ 8 (QM layX X Γ (some (.int r)) M') 126 [(6, .int v9), (0, .ref (X.2.2.2.1 t)), (1, .int a1), (2, .ref (X.2.2.2.1 31)), (3, .ref (X.2.2.2.1 30)), (4, .int v5), (5, .int v6)] [] M7) (fun u10 h => ?_) (fun j11 hj11 h => ?_)
                · refine g_iload (pn := 128) K rfl 5 rfl dX7_value_126 ?_
                  refine g_if_le (tgt := 202) (pn := 131) K rfl (by decide) dX7_value_128 h (fun h => ?_) (fun h => ?_)
                  · obtain ⟨v12, ev12, h⟩ := bnd_e h
                    refine g_iinc (pn := 205) (v := v12) (lv' := [(5, .int v12), (6, .int v9), (0, .ref (X.2.2.2.1 t)), (1, .int a1), (2, .ref (X.2.2.2.1 31)), (3, .ref (X.2.2.2.1 30)), (4, .int v5)]) K rfl 6 rfl ii_1 ev12 dX7_value_202 (Nat.le_of_ble_eq_true rfl) rfl ?_
                    refine g_goto (tgt := 26) K (by decide) dX7_value_205 ?_
                    refine g_sub [2, 3, 4, 5, 6, 0] rfl ?_
                    exact ih8 _ _ _ h
                  · refine g_aload_n (pn := 132) K rfl 4 rfl dX7_value_131 ?_
                    refine g_iload (pn := 134) K rfl 5 rfl dX7_value_132 ?_
                    refine g_iconst (pn := 135) (v := 1) K rfl ic_1 dX7_value_134 ?_
                    refine g_isub (pn := 136) K rfl dX7_value_135 ?_
                    refine g_iload (pn := 138) K rfl 0 rfl dX7_value_136 ?_
                    refine g_bipush (pn := 140) (v := (-16)) K rfl bp_m16 dX7_value_138 ?_
                    refine jp_e1 h (fun v13 => G layX X Γ 8 (QM layX X Γ (some (.int r)) M') 167 [(0, .ref (X.2.2.2.1 t)), (1, .int a1), (2, .ref (X.2.2.2.1 31)), (3, .ref (X.2.2.2.1 30)), (4, .int v5), (5, .int v6)] [.int v13, .int (v5 - 1), .ref (X.2.2.2.1 30)] M7) (fun v13 h => ?_) (fun j14 hj14 h => ?_)
                    · refine g_iast (pn := 168) K rfl lx_30 dX7_value_167 h (fun M15 h => ?_)
                      refine g_goto (tgt := 202) K (by decide) dX7_value_168 ?_
                      obtain ⟨v16, ev16, h⟩ := bnd_e h
                      refine g_iinc (pn := 205) (v := v16) (lv' := [(5, .int v16), (0, .ref (X.2.2.2.1 t)), (1, .int a1), (2, .ref (X.2.2.2.1 31)), (3, .ref (X.2.2.2.1 30)), (4, .int v5)]) K rfl 5 rfl ii_1 ev16 dX7_value_202 (Nat.le_of_ble_eq_true rfl) rfl ?_
                      refine g_goto (tgt := 26) K (by decide) dX7_value_205 ?_
                      refine g_sub [1, 2, 3, 4, 5, 0] rfl ?_
                      exact ih8 _ _ _ h
                    refine g_icmp_ne (tgt := 153) (pn := 143) K rfl (by decide) dX7_value_140 h (fun h => ?_) (fun h => ?_)
                    · refine g_aload_n (pn := 154) K rfl 4 rfl dX7_value_153 ?_
                      refine g_iload (pn := 156) K rfl 5 rfl dX7_value_154 ?_
                      refine g_iconst (pn := 157) (v := 1) K rfl ic_1 dX7_value_156 ?_
                      refine g_isub (pn := 158) K rfl dX7_value_157 ?_
                      refine g_iald (pn := 159) K rfl lx_30 dX7_value_158 h (fun h => ?_)
                      refine g_if_ne (tgt := 166) (pn := 162) K rfl (by decide) dX7_value_159 h (fun h => ?_) (fun h => ?_)
                      · refine g_iconst (pn := 167) (v := 0) K rfl ic_0 dX7_value_166 ?_
                        refine g_sub [1, 2, 3, 4, 5, 6] rfl ?_
                        exact hj14 _ h
                      · refine g_iconst (pn := 163) (v := 1) K rfl ic_1 dX7_value_162 ?_
                        refine g_goto (tgt := 167) K (by decide) dX7_value_163 ?_
                        refine g_sub [1, 2, 3, 4, 5, 6] rfl ?_
                        exact hj14 _ h
                    · refine g_aload_n (pn := 144) K rfl 4 rfl dX7_value_143 ?_
                      refine g_iload (pn := 146) K rfl 5 rfl dX7_value_144 ?_
                      refine g_iconst (pn := 147) (v := 1) K rfl ic_1 dX7_value_146 ?_
                      refine g_isub (pn := 148) K rfl dX7_value_147 ?_
                      refine g_iald (pn := 149) K rfl lx_30 dX7_value_148 h (fun h => ?_)
                      refine g_ineg (pn := 150) K rfl dX7_value_149 ?_
                      refine g_goto (tgt := 167) K (by decide) dX7_value_150 ?_
                      refine g_sub [1, 2, 3, 4, 5, 6] rfl ?_
                      exact hj14 _ h
                refine g_icmp_eq (tgt := 126) (pn := 119) K rfl (by decide) dX7_value_116 h (fun h => ?_) (fun h => ?_)
                · exact hj11 _ h
                · refine g_iload (pn := 121) K rfl 0 rfl dX7_value_119 ?_
                  refine g_bipush (pn := 123) (v := (-16)) K rfl bp_m16 dX7_value_121 ?_
                  refine g_icmp_ne (tgt := 171) (pn := 126) K rfl (by decide) dX7_value_123 h (fun h => ?_) (fun h => ?_)
                  · refine g_iload (pn := 173) K rfl 5 rfl dX7_value_171 ?_
                    refine g_iconst (pn := 174) (v := 1) K rfl ic_1 dX7_value_173 ?_
                    refine g_icmp_le (tgt := 202) (pn := 177) K rfl (by decide) dX7_value_174 h (fun h => ?_) (fun h => ?_)
                    · obtain ⟨v17, ev17, h⟩ := bnd_e h
                      refine g_iinc (pn := 205) (v := v17) (lv' := [(5, .int v17), (6, .int v9), (0, .ref (X.2.2.2.1 t)), (1, .int a1), (2, .ref (X.2.2.2.1 31)), (3, .ref (X.2.2.2.1 30)), (4, .int v5)]) K rfl 6 rfl ii_1 ev17 dX7_value_202 (Nat.le_of_ble_eq_true rfl) rfl ?_
                      refine g_goto (tgt := 26) K (by decide) dX7_value_205 ?_
                      refine g_sub [2, 3, 4, 5, 6, 0] rfl ?_
                      exact ih8 _ _ _ h
                    · obtain ⟨v18, ev18, h⟩ := bnd_e h
                      refine g_iinc (pn := 180) (v := v18) (lv' := [(4, .int v18), (6, .int v9), (0, .ref (X.2.2.2.1 t)), (1, .int a1), (2, .ref (X.2.2.2.1 31)), (3, .ref (X.2.2.2.1 30)), (5, .int v6)]) K rfl 5 rfl ii_m1 ev18 dX7_value_177 (Nat.le_of_ble_eq_true rfl) rfl ?_
                      refine g_aload_n (pn := 181) K rfl 5 rfl dX7_value_180 ?_
                      refine g_iload (pn := 183) K rfl 0 rfl dX7_value_181 ?_
                      refine g_iconst (pn := 184) (v := 1) K rfl ic_1 dX7_value_183 ?_
                      refine g_isub (pn := 185) K rfl dX7_value_184 ?_
                      refine g_iload (pn := 187) K rfl 1 rfl dX7_value_185 ?_
                      refine g_ineg (pn := 188) K rfl dX7_value_187 ?_
                      refine g_aload_n (pn := 189) K rfl 5 rfl dX7_value_188 ?_
                      refine g_iload (pn := 191) K rfl 0 rfl dX7_value_189 ?_
                      refine g_iconst (pn := 192) (v := 1) K rfl ic_1 dX7_value_191 ?_
                      refine g_isub (pn := 193) K rfl dX7_value_192 ?_
                      refine g_iald (pn := 194) K rfl lx_30 dX7_value_193 h (fun h => ?_)
                      refine g_aload_n (pn := 195) K rfl 5 rfl dX7_value_194 ?_
                      refine g_iload (pn := 197) K rfl 0 rfl dX7_value_195 ?_
                      refine g_iald (pn := 198) K rfl lx_30 dX7_value_197 h (fun h => ?_)
                      obtain ⟨v20, hc19, h⟩ := ob_e h
                      refine g_callS1 (pn := 201) (As := [.int (-v9), .int (M7 30 (v18 - 1).toNatClampNeg), .int (M7 30 v18.toNatClampNeg)]) (rest := [.int (v18 - 1), .ref (X.2.2.2.1 30)]) K rfl (d' := 0) (Nat.le_of_ble_eq_true rfl) ms_X7_28 (w_f_Text_joined hc19) rfl rfl (Nat.le_of_ble_eq_true rfl) dX7_value_198 ?_
                      refine g_iast (pn := 202) K rfl lx_30 dX7_value_201 h (fun M21 h => ?_)
                      obtain ⟨v22, ev22, h⟩ := bnd_e h
                      refine g_iinc (pn := 205) (v := v22) (lv' := [(5, .int v22), (4, .int v18), (6, .int v9), (0, .ref (X.2.2.2.1 t)), (1, .int a1), (2, .ref (X.2.2.2.1 31)), (3, .ref (X.2.2.2.1 30))]) K rfl 6 rfl ii_1 ev22 dX7_value_202 (Nat.le_of_ble_eq_true rfl) rfl ?_
                      refine g_goto (tgt := 26) K (by decide) dX7_value_205 ?_
                      refine g_sub [3, 4, 5, 6, 1, 0] rfl ?_
                      exact ih8 _ _ _ h
                  · exact hj11 _ h
              · refine g_iload (pn := 65) K rfl 0 rfl dX7_value_63 ?_
                refine g_ineg (pn := 66) K rfl dX7_value_65 ?_
                refine g_iconst (pn := 67) (v := 1) K rfl ic_1 dX7_value_66 ?_
                refine g_isub (pn := 68) K rfl dX7_value_67 ?_
                refine g_nmi h (fun v23 h => ?_)
                refine g_istore (pn := 70) (lv' := [(7, .int v23), (6, .int v9), (0, .ref (X.2.2.2.1 t)), (1, .int a1), (2, .ref (X.2.2.2.1 31)), (3, .ref (X.2.2.2.1 30)), (4, .int v5), (5, .int v6)]) K rfl dX7_value_68 (Nat.le_of_ble_eq_true rfl) rfl ?_
                refine g_iload (pn := 72) K rfl 6 rfl dX7_value_70 ?_
                refine g_aload_n (pn := 73) K rfl 5 rfl dX7_value_72 ?_
                refine g_alen (pn := 74) (v := 160) K rfl lx_30 rfl (by decide) dX7_value_73 ?_
                refine g_icmp_ge (tgt := 109) (pn := 77) K rfl (by decide) dX7_value_74 h (fun h => ?_) (fun h => ?_)
                · refine g_goto (tgt := 202) K (by decide) dX7_value_109 ?_
                  obtain ⟨v24, ev24, h⟩ := bnd_e h
                  refine g_iinc (pn := 205) (v := v24) (lv' := [(5, .int v24), (7, .int v23), (6, .int v9), (0, .ref (X.2.2.2.1 t)), (1, .int a1), (2, .ref (X.2.2.2.1 31)), (3, .ref (X.2.2.2.1 30)), (4, .int v5)]) K rfl 7 rfl ii_1 ev24 dX7_value_202 (Nat.le_of_ble_eq_true rfl) rfl ?_
                  refine g_goto (tgt := 26) K (by decide) dX7_value_205 ?_
                  refine g_sub [3, 4, 5, 6, 7, 0] rfl ?_
                  exact ih8 _ _ _ h
                · refine g_aload_n (pn := 78) K rfl 5 rfl dX7_value_77 ?_
                  refine g_iload (pn := 80) K rfl 6 rfl dX7_value_78 ?_
                  refine g_iload (pn := 82) K rfl 1 rfl dX7_value_80 ?_
                  refine jp_e1 h (fun v25 => G layX X Γ 8 (QM layX X Γ (some (.int r)) M') 105 [(0, .ref (X.2.2.2.1 t)), (1, .int a1), (2, .ref (X.2.2.2.1 31)), (3, .ref (X.2.2.2.1 30)), (4, .int v5), (5, .int v6)] [.int v25, .int v5, .ref (X.2.2.2.1 30)] M7) (fun v25 h => ?_) (fun j26 hj26 h => ?_)
                  · refine g_iast (pn := 106) K rfl lx_30 dX7_value_105 h (fun M27 h => ?_)
                    obtain ⟨v28, ev28, h⟩ := bnd_e h
                    refine g_iinc (pn := 109) (v := v28) (lv' := [(4, .int v28), (0, .ref (X.2.2.2.1 t)), (1, .int a1), (2, .ref (X.2.2.2.1 31)), (3, .ref (X.2.2.2.1 30)), (5, .int v6)]) K rfl 4 rfl ii_1 ev28 dX7_value_106 (Nat.le_of_ble_eq_true rfl) rfl ?_
                    refine g_goto (tgt := 202) K (by decide) dX7_value_109 ?_
                    obtain ⟨v29, ev29, h⟩ := bnd_e h
                    refine g_iinc (pn := 205) (v := v29) (lv' := [(5, .int v29), (4, .int v28), (0, .ref (X.2.2.2.1 t)), (1, .int a1), (2, .ref (X.2.2.2.1 31)), (3, .ref (X.2.2.2.1 30))]) K rfl 5 rfl ii_1 ev29 dX7_value_202 (Nat.le_of_ble_eq_true rfl) rfl ?_
                    refine g_goto (tgt := 26) K (by decide) dX7_value_205 ?_
                    refine g_sub [2, 3, 4, 5, 1, 0] rfl ?_
                    exact ih8 _ _ _ h
                  refine g_if_lt (tgt := 90) (pn := 85) K rfl (by decide) dX7_value_82 h (fun h => ?_) (fun h => ?_)
                  · refine g_iload (pn := 92) K rfl 0 rfl dX7_value_90 ?_
                    refine g_aload_n (pn := 93) K rfl 4 rfl dX7_value_92 ?_
                    refine g_alen (pn := 94) (v := 6) K rfl lx_31 rfl (by decide) dX7_value_93 ?_
                    refine g_icmp_ge (tgt := 104) (pn := 97) K rfl (by decide) dX7_value_94 h (fun h => ?_) (fun h => ?_)
                    · refine g_iconst (pn := 105) (v := 0) K rfl ic_0 dX7_value_104 ?_
                      refine g_sub [2, 3, 4, 5, 6, 7] rfl ?_
                      exact hj26 _ h
                    · refine g_aload_n (pn := 98) K rfl 4 rfl dX7_value_97 ?_
                      refine g_iload (pn := 100) K rfl 0 rfl dX7_value_98 ?_
                      refine g_iald (pn := 101) K rfl lx_31 dX7_value_100 h (fun h => ?_)
                      refine g_goto (tgt := 105) K (by decide) dX7_value_101 ?_
                      refine g_sub [2, 3, 4, 5, 6, 7] rfl ?_
                      exact hj26 _ h
                  · refine g_iload (pn := 87) K rfl 1 rfl dX7_value_85 ?_
                    refine g_goto (tgt := 105) K (by decide) dX7_value_87 ?_
                    refine g_sub [2, 3, 4, 5, 6, 7] rfl ?_
                    exact hj26 _ h
      refine g_sub [2, 3, 4, 5, 1, 0] rfl ?_
      exact LP26 FU _ _ _ h
    · refine g_iconst (pn := 10) (v := 0) K rfl ic_0 dX7_value_9 ?_
      exact g_iret K dX7_value_10 (oi2 h).2 (oi2 h).1
set_option maxHeartbeats 4000000 in
set_option maxRecDepth 20000 in
theorem w_f_Day_swap {X : XT} {M : Mem} {a1 : Int32} {a2 : Int32} {M' : Mem}   (h : f_Day_swap M a1 a2 = some M') : CT layX X 0 yX0_swap cX0_swap 4 none [.ref (X.2.2.2.1 23), .int a1, .int a2] M M' none := by
  refine CT.of rfl (Nat.le_of_ble_eq_true rfl) (lv := [(0, .ref (X.2.2.2.1 23)), (1, .int a1), (2, .int a2)]) rfl (fun Γ K => ?_)
  have K : Kx layX X Γ RX0 cX0_swap 4 0 none := K
  unfold f_Day_swap at h
  refine g_aload_n (pn := 1) K rfl 0 rfl dX0_swap_0 ?_
  refine g_getr (pn := 4) (j := 32) K rfl fl_X0_25 lx_23 rfl dX0_swap_1 ?_
  refine g_iload_n (pn := 5) K rfl 1 rfl dX0_swap_4 ?_
  refine g_iald (pn := 6) K rfl lx_32 dX0_swap_5 h (fun h => ?_)
  refine g_nmi h (fun v1 h => ?_)
  refine g_istore_n (pn := 7) (lv' := [(3, .int v1), (0, .ref (X.2.2.2.1 23)), (1, .int a1), (2, .int a2)]) K rfl dX0_swap_6 rfl (Nat.le_of_ble_eq_true rfl) rfl ?_
  refine g_aload_n (pn := 8) K rfl 1 rfl dX0_swap_7 ?_
  refine g_getr (pn := 11) (j := 32) K rfl fl_X0_25 lx_23 rfl dX0_swap_8 ?_
  refine g_iload_n (pn := 12) K rfl 2 rfl dX0_swap_11 ?_
  refine g_aload_n (pn := 13) K rfl 1 rfl dX0_swap_12 ?_
  refine g_getr (pn := 16) (j := 32) K rfl fl_X0_25 lx_23 rfl dX0_swap_13 ?_
  refine g_iload_n (pn := 17) K rfl 3 rfl dX0_swap_16 ?_
  refine g_iald (pn := 18) K rfl lx_32 dX0_swap_17 h (fun h => ?_)
  refine g_iast (pn := 19) K rfl lx_32 dX0_swap_18 h (fun M2 h => ?_)
  refine g_aload_n (pn := 20) K rfl 1 rfl dX0_swap_19 ?_
  refine g_getr (pn := 23) (j := 32) K rfl fl_X0_25 lx_23 rfl dX0_swap_20 ?_
  refine g_iload_n (pn := 24) K rfl 3 rfl dX0_swap_23 ?_
  refine g_iload_n (pn := 25) K rfl 0 rfl dX0_swap_24 ?_
  refine g_iast (pn := 26) K rfl lx_32 dX0_swap_25 h (fun M3 h => ?_)
  exact g_vret K dX0_swap_26 (oi h)
set_option maxHeartbeats 4000000 in
set_option maxRecDepth 20000 in
theorem w_f_Day_place {X : XT} {M : Mem} {a1 : Int32} {a2 : Int32} {M' : Mem}   (h : f_Day_place M a1 a2 = some M') : CT layX X 0 yX0_place cX0_place 3 none [.ref (X.2.2.2.1 23), .int a1, .int a2] M M' none := by
  refine CT.of rfl (Nat.le_of_ble_eq_true rfl) (lv := [(0, .ref (X.2.2.2.1 23)), (1, .int a1), (2, .int a2)]) rfl (fun Γ K => ?_)
  have K : Kx layX X Γ RX0 cX0_place 3 0 none := K
  unfold f_Day_place at h
  refine g_iload_n (pn := 1) K rfl 1 rfl dX0_place_0 ?_
  refine g_if_lt (tgt := 27) (pn := 4) K rfl (by decide) dX0_place_1 h (fun h => ?_) (fun h => ?_)
  · exact g_vret K dX0_place_27 (oi h)
  · refine g_iload_n (pn := 5) K rfl 1 rfl dX0_place_4 ?_
    refine g_bipush (pn := 7) (v := 6) K rfl bp_6 dX0_place_5 ?_
    refine g_icmp_ge (tgt := 27) (pn := 10) K rfl (by decide) dX0_place_7 h (fun h => ?_) (fun h => ?_)
    · exact g_vret K dX0_place_27 (oi h)
    · refine g_iload_n (pn := 11) K rfl 2 rfl dX0_place_10 ?_
      refine g_if_lt (tgt := 27) (pn := 14) K rfl (by decide) dX0_place_11 h (fun h => ?_) (fun h => ?_)
      · exact g_vret K dX0_place_27 (oi h)
      · refine g_iload_n (pn := 15) K rfl 2 rfl dX0_place_14 ?_
        refine g_bipush (pn := 17) (v := 6) K rfl bp_6 dX0_place_15 ?_
        refine g_icmp_ge (tgt := 27) (pn := 20) K rfl (by decide) dX0_place_17 h (fun h => ?_) (fun h => ?_)
        · exact g_vret K dX0_place_27 (oi h)
        · refine g_aload_n (pn := 21) K rfl 0 rfl dX0_place_20 ?_
          refine g_getr (pn := 24) (j := 32) K rfl fl_X0_25 lx_23 rfl dX0_place_21 ?_
          refine g_iload_n (pn := 25) K rfl 1 rfl dX0_place_24 ?_
          refine g_iload_n (pn := 26) K rfl 2 rfl dX0_place_25 ?_
          refine g_iast (pn := 27) K rfl lx_32 dX0_place_26 h (fun M1 h => ?_)
          exact g_vret K dX0_place_27 (oi h)
set_option maxHeartbeats 4000000 in
set_option maxRecDepth 20000 in
theorem w_f_Day_tells {X : XT} {M : Mem} {a1 : Int32} {a2 : Int32} {a3 : Int32} {M' : Mem} {r : Int32}   (h : f_Day_tells M a1 a2 a3 = some (M', r)) : CT layX X 2 yX0_tells cX0_tells 6 (some .int) [.ref (X.2.2.2.1 23), .int a1, .int a2, .int a3] M M' (some (.int r)) := by
  refine CT.of rfl (Nat.le_of_ble_eq_true rfl) (lv := [(0, .ref (X.2.2.2.1 23)), (1, .int a1), (2, .int a2), (3, .int a3)]) rfl (fun Γ K => ?_)
  have K : Kx layX X Γ RX0 cX0_tells 6 2 (some .int) := K
  unfold f_Day_tells at h
  refine g_aload_n (pn := 1) K rfl 0 rfl dX0_tells_0 ?_
  refine g_getr (pn := 4) (j := 24) K rfl fl_X0_12 lx_23 rfl dX0_tells_1 ?_
  refine g_geti (pn := 7) K rfl fl_X0_83 lx_24 rfl dX0_tells_4 ?_
  refine g_nmi h (fun v1 h => ?_)
  refine g_istore (pn := 9) (lv' := [(4, .int v1), (0, .ref (X.2.2.2.1 23)), (1, .int a1), (2, .int a2), (3, .int a3)]) K rfl dX0_tells_7 (Nat.le_of_ble_eq_true rfl) rfl ?_
  refine g_iload (pn := 11) K rfl 0 rfl dX0_tells_9 ?_
  refine g_if_lt (tgt := 34) (pn := 14) K rfl (by decide) dX0_tells_11 h (fun h => ?_) (fun h => ?_)
  · refine g_iconst (pn := 35) (v := 0) K rfl ic_0 dX0_tells_34 ?_
    exact g_iret K dX0_tells_35 (oi2 h).2 (oi2 h).1
  · refine g_iload (pn := 16) K rfl 0 rfl dX0_tells_14 ?_
    refine g_aload_n (pn := 17) K rfl 1 rfl dX0_tells_16 ?_
    refine g_getr (pn := 20) (j := 22) K rfl fl_X0_49 lx_23 rfl dX0_tells_17 ?_
    refine g_alen (pn := 21) (v := 6) K rfl lx_22 rfl (by decide) dX0_tells_20 ?_
    refine g_icmp_ge (tgt := 34) (pn := 24) K rfl (by decide) dX0_tells_21 h (fun h => ?_) (fun h => ?_)
    · refine g_iconst (pn := 35) (v := 0) K rfl ic_0 dX0_tells_34 ?_
      exact g_iret K dX0_tells_35 (oi2 h).2 (oi2 h).1
    · refine g_aload_n (pn := 25) K rfl 1 rfl dX0_tells_24 ?_
      refine g_getr (pn := 28) (j := 22) K rfl fl_X0_49 lx_23 rfl dX0_tells_25 ?_
      refine g_iload (pn := 30) K rfl 0 rfl dX0_tells_28 ?_
      refine g_aald (pn := 31) (ty := 0) K rfl lx_22 rfl dX0_tells_30 h (fun hi2 h => ?_)
      refine g_ifnonnull (tgt := 36) K (by decide) dX0_tells_31 ?_
      refine g_aload_n (pn := 37) K rfl 1 rfl dX0_tells_36 ?_
      refine g_getr (pn := 40) (j := 31) K rfl fl_X0_22 lx_23 rfl dX0_tells_37 ?_
      refine g_iconst (pn := 41) (v := 0) K rfl ic_0 dX0_tells_40 ?_
      refine g_aload_n (pn := 42) K rfl 1 rfl dX0_tells_41 ?_
      refine g_getr (pn := 45) (j := 24) K rfl fl_X0_12 lx_23 rfl dX0_tells_42 ?_
      refine g_getr (pn := 48) (j := 25) K rfl fl_X0_86 lx_24 rfl dX0_tells_45 ?_
      refine g_iconst (pn := 49) (v := 0) K rfl ic_0 dX0_tells_48 ?_
      refine g_iald (pn := 50) K rfl lx_25 dX0_tells_49 h (fun h => ?_)
      refine g_iast (pn := 51) K rfl lx_31 dX0_tells_50 h (fun M3 h => ?_)
      refine g_aload_n (pn := 52) K rfl 1 rfl dX0_tells_51 ?_
      refine g_getr (pn := 55) (j := 31) K rfl fl_X0_22 lx_23 rfl dX0_tells_52 ?_
      refine g_iconst (pn := 56) (v := 1) K rfl ic_1 dX0_tells_55 ?_
      refine g_aload_n (pn := 57) K rfl 1 rfl dX0_tells_56 ?_
      refine g_getr (pn := 60) (j := 24) K rfl fl_X0_12 lx_23 rfl dX0_tells_57 ?_
      refine g_getr (pn := 63) (j := 25) K rfl fl_X0_86 lx_24 rfl dX0_tells_60 ?_
      refine g_iconst (pn := 64) (v := 1) K rfl ic_1 dX0_tells_63 ?_
      refine g_iald (pn := 65) K rfl lx_25 dX0_tells_64 h (fun h => ?_)
      refine g_iast (pn := 66) K rfl lx_31 dX0_tells_65 h (fun M4 h => ?_)
      refine g_aload_n (pn := 67) K rfl 1 rfl dX0_tells_66 ?_
      refine g_getr (pn := 70) (j := 31) K rfl fl_X0_22 lx_23 rfl dX0_tells_67 ?_
      refine g_iconst (pn := 71) (v := 2) K rfl ic_2 dX0_tells_70 ?_
      refine g_aload_n (pn := 72) K rfl 1 rfl dX0_tells_71 ?_
      refine g_getr (pn := 75) (j := 24) K rfl fl_X0_12 lx_23 rfl dX0_tells_72 ?_
      refine g_getr (pn := 78) (j := 25) K rfl fl_X0_86 lx_24 rfl dX0_tells_75 ?_
      refine g_iconst (pn := 79) (v := 2) K rfl ic_2 dX0_tells_78 ?_
      refine g_iald (pn := 80) K rfl lx_25 dX0_tells_79 h (fun h => ?_)
      refine g_iast (pn := 81) K rfl lx_31 dX0_tells_80 h (fun M5 h => ?_)
      refine g_aload_n (pn := 82) K rfl 1 rfl dX0_tells_81 ?_
      refine g_getr (pn := 85) (j := 31) K rfl fl_X0_22 lx_23 rfl dX0_tells_82 ?_
      refine g_iconst (pn := 86) (v := 3) K rfl ic_3 dX0_tells_85 ?_
      refine g_aload_n (pn := 87) K rfl 1 rfl dX0_tells_86 ?_
      refine g_getr (pn := 90) (j := 24) K rfl fl_X0_12 lx_23 rfl dX0_tells_87 ?_
      refine g_getr (pn := 93) (j := 28) K rfl fl_X0_78 lx_24 rfl dX0_tells_90 ?_
      refine g_iload_n (pn := 94) K rfl 3 rfl dX0_tells_93 ?_
      refine g_iald (pn := 95) K rfl lx_28 dX0_tells_94 h (fun h => ?_)
      refine g_iast (pn := 96) K rfl lx_31 dX0_tells_95 h (fun M6 h => ?_)
      refine g_aload_n (pn := 97) K rfl 1 rfl dX0_tells_96 ?_
      refine g_getr (pn := 100) (j := 31) K rfl fl_X0_22 lx_23 rfl dX0_tells_97 ?_
      refine g_iconst (pn := 101) (v := 4) K rfl ic_4 dX0_tells_100 ?_
      refine g_iload_n (pn := 102) K rfl 4 rfl dX0_tells_101 ?_
      refine g_iast (pn := 103) K rfl lx_31 dX0_tells_102 h (fun M7 h => ?_)
      refine g_aload_n (pn := 104) K rfl 1 rfl dX0_tells_103 ?_
      refine g_getr (pn := 107) (j := 31) K rfl fl_X0_22 lx_23 rfl dX0_tells_104 ?_
      refine g_iconst (pn := 108) (v := 5) K rfl ic_5 dX0_tells_107 ?_
      refine g_aload_n (pn := 109) K rfl 1 rfl dX0_tells_108 ?_
      refine g_getr (pn := 112) (j := 24) K rfl fl_X0_12 lx_23 rfl dX0_tells_109 ?_
      refine g_getr (pn := 115) (j := 27) K rfl fl_X0_60 lx_24 rfl dX0_tells_112 ?_
      refine g_iload_n (pn := 116) K rfl 3 rfl dX0_tells_115 ?_
      refine g_iald (pn := 117) K rfl lx_27 dX0_tells_116 h (fun h => ?_)
      refine g_iast (pn := 118) K rfl lx_31 dX0_tells_117 h (fun M8 h => ?_)
      refine g_aload_n (pn := 119) K rfl 1 rfl dX0_tells_118 ?_
      refine g_getr (pn := 122) (j := 22) K rfl fl_X0_49 lx_23 rfl dX0_tells_119 ?_
      refine g_iload (pn := 124) K rfl 0 rfl dX0_tells_122 ?_
      refine g_aald (pn := 125) (ty := 0) K rfl lx_22 rfl dX0_tells_124 h (fun hi9 h => ?_)
      refine g_iload_n (pn := 126) K rfl 2 rfl dX0_tells_125 ?_
      refine g_aload_n (pn := 127) K rfl 1 rfl dX0_tells_126 ?_
      refine g_getr (pn := 130) (j := 31) K rfl fl_X0_22 lx_23 rfl dX0_tells_127 ?_
      refine g_aload_n (pn := 131) K rfl 1 rfl dX0_tells_130 ?_
      refine g_getr (pn := 134) (j := 30) K rfl fl_X0_18 lx_23 rfl dX0_tells_131 ?_
      obtain ⟨M11, v12, hc10, h⟩ := ob2_e h
      refine g_callV1 (pn := 137) (As := [.int a1, .ref (X.2.2.2.1 31), .ref (X.2.2.2.1 30)]) (rest := []) (a := (42 + 3 * v1.toNatClampNeg)) K rfl (d' := 1) (Nat.le_of_ble_eq_true rfl) mv_X0_89 (recvO K (lxText (isText_in hi9)) rfl) (w_f_Text_value (isText_in hi9) hc10) rfl rfl (Nat.le_of_ble_eq_true rfl) dX0_tells_134 ?_
      refine g_istore (pn := 139) (lv' := [(5, .int v12), (4, .int v1), (0, .ref (X.2.2.2.1 23)), (1, .int a1), (2, .int a2), (3, .int a3)]) K rfl dX0_tells_137 (Nat.le_of_ble_eq_true rfl) rfl ?_
      refine g_gets (pn := 142) (j := 2) K rfl (by decide) fs_X0_95 dX0_tells_139 ?_
      refine g_iload_n (pn := 143) K rfl 3 rfl dX0_tells_142 ?_
      refine g_tald (pn := 144) (n := 3) K rfl (by decide) rfl dX0_tells_143 h (fun h => ?_)
      refine g_gets (pn := 147) (j := 3) K rfl (by decide) fs_X0_98 dX0_tells_144 ?_
      refine g_iload_n (pn := 148) K rfl 3 rfl dX0_tells_147 ?_
      refine g_tald (pn := 149) (n := 3) K rfl (by decide) rfl dX0_tells_148 h (fun h => ?_)
      refine g_iload (pn := 151) K rfl 0 rfl dX0_tells_149 ?_
      refine g_mmin (pn := 154) K rfl (by decide) mm_X0_101 mm_min_s mm_i mm_min_c (Nat.le_of_ble_eq_true rfl) dX0_tells_151 ?_
      refine g_mmax (pn := 157) K rfl (by decide) mm_X0_106 mm_max_s mm_i mm_max_c (Nat.le_of_ble_eq_true rfl) dX0_tells_154 ?_
      exact g_iret K dX0_tells_157 (oi2 h).2 (oi2 h).1
set_option maxHeartbeats 4000000 in
set_option maxRecDepth 20000 in
theorem w_f_Day_reckon {X : XT} {M : Mem}  {M' : Mem}   (h : f_Day_reckon M = some M') : CT layX X 3 yX0_reckon cX0_reckon 4 none [.ref (X.2.2.2.1 23)] M M' none := by
  refine CT.of rfl (Nat.le_of_ble_eq_true rfl) (lv := [(0, .ref (X.2.2.2.1 23))]) rfl (fun Γ K => ?_)
  have K : Kx layX X Γ RX0 cX0_reckon 4 3 none := K
  unfold f_Day_reckon at h
  refine g_iconst (pn := 1) (v := 0) K rfl ic_0 dX0_reckon_0 ?_
  refine g_istore_n (pn := 2) (lv' := [(1, .int 0), (0, .ref (X.2.2.2.1 23))]) K rfl dX0_reckon_1 rfl (Nat.le_of_ble_eq_true rfl) rfl ?_
  refine jp_e1 h (fun M1 => G layX X Γ 4 (QM layX X Γ none M') 118 [] [] M1) (fun M1 h => ?_) (fun j2 hj2 h => ?_)
  · exact g_vret K dX0_reckon_118 (oi h)
  have LP2 : ∀ (fu5 : Nat) (v3 : Int32) (M4 : Mem), f_Day_reckon_L2 j2 fu5 v3 M4 = some M' → G layX X Γ 4 (QM layX X Γ none M') 2 [(0, .ref (X.2.2.2.1 23)), (1, .int v3)] [] M4 := by
    intro fu5
    induction fu5 with
    | zero =>
      intro v3 M4 h
      rw [f_Day_reckon_L2] at h
      cases h
    | succ fu5 ih5 =>
      intro v3 M4 h
      rw [f_Day_reckon_L2] at h
      refine g_iload_n (pn := 3) K rfl 1 rfl dX0_reckon_2 ?_
      refine g_aload_n (pn := 4) K rfl 0 rfl dX0_reckon_3 ?_
      refine g_getr (pn := 7) (j := 24) K rfl fl_X0_12 lx_23 rfl dX0_reckon_4 ?_
      refine g_geti (pn := 10) K rfl fl_X0_53 lx_24 rfl dX0_reckon_7 ?_
      refine g_icmp_ge (tgt := 118) (pn := 13) K rfl (by decide) dX0_reckon_10 h (fun h => ?_) (fun h => ?_)
      · refine g_sub [] rfl ?_
        exact hj2 _ h
      · refine g_iload_n (pn := 14) K rfl 1 rfl dX0_reckon_13 ?_
        refine g_bipush (pn := 16) (v := 6) K rfl bp_6 dX0_reckon_14 ?_
        refine g_icmp_ge (tgt := 118) (pn := 19) K rfl (by decide) dX0_reckon_16 h (fun h => ?_) (fun h => ?_)
        · refine g_sub [] rfl ?_
          exact hj2 _ h
        · refine g_aload_n (pn := 20) K rfl 0 rfl dX0_reckon_19 ?_
          refine g_getr (pn := 23) (j := 24) K rfl fl_X0_12 lx_23 rfl dX0_reckon_20 ?_
          refine g_getr (pn := 26) (j := 26) K rfl fl_X0_57 lx_24 rfl dX0_reckon_23 ?_
          refine g_iload_n (pn := 27) K rfl 1 rfl dX0_reckon_26 ?_
          refine g_iald (pn := 28) K rfl lx_26 dX0_reckon_27 h (fun h => ?_)
          refine g_nmi h (fun v6 h => ?_)
          refine g_istore_n (pn := 29) (lv' := [(2, .int v6), (0, .ref (X.2.2.2.1 23)), (1, .int v3)]) K rfl dX0_reckon_28 rfl (Nat.le_of_ble_eq_true rfl) rfl ?_
          refine g_aload_n (pn := 30) K rfl 1 rfl dX0_reckon_29 ?_
          refine g_getr (pn := 33) (j := 24) K rfl fl_X0_12 lx_23 rfl dX0_reckon_30 ?_
          refine g_getr (pn := 36) (j := 27) K rfl fl_X0_60 lx_24 rfl dX0_reckon_33 ?_
          refine g_iload_n (pn := 37) K rfl 2 rfl dX0_reckon_36 ?_
          refine g_iald (pn := 38) K rfl lx_27 dX0_reckon_37 h (fun h => ?_)
          refine g_nmi h (fun v7 h => ?_)
          refine g_istore_n (pn := 39) (lv' := [(3, .int v7), (2, .int v6), (0, .ref (X.2.2.2.1 23)), (1, .int v3)]) K rfl dX0_reckon_38 rfl (Nat.le_of_ble_eq_true rfl) rfl ?_
          refine g_aload_n (pn := 40) K rfl 2 rfl dX0_reckon_39 ?_
          refine g_getr (pn := 43) (j := 33) K rfl fl_X0_28 lx_23 rfl dX0_reckon_40 ?_
          refine g_iload_n (pn := 44) K rfl 3 rfl dX0_reckon_43 ?_
          refine g_iload_n (pn := 45) K rfl 1 rfl dX0_reckon_44 ?_
          refine g_iload_n (pn := 46) K rfl 0 rfl dX0_reckon_45 ?_
          refine g_aload_n (pn := 47) K rfl 2 rfl dX0_reckon_46 ?_
          refine g_getr (pn := 50) (j := 24) K rfl fl_X0_12 lx_23 rfl dX0_reckon_47 ?_
          refine g_getr (pn := 53) (j := 29) K rfl fl_X0_63 lx_24 rfl dX0_reckon_50 ?_
          refine g_iload_n (pn := 54) K rfl 3 rfl dX0_reckon_53 ?_
          refine g_iald (pn := 55) K rfl lx_29 dX0_reckon_54 h (fun h => ?_)
          refine g_iconst (pn := 56) (v := 1) K rfl ic_1 dX0_reckon_55 ?_
          refine jp_e1 h (fun v8 => G layX X Γ 4 (QM layX X Γ none M') 64 [(3, .int v7), (2, .int v6), (0, .ref (X.2.2.2.1 23)), (1, .int v3)] [.int v8, .int v7, .int v6, .int v3, .ref (X.2.2.2.1 33)] M4) (fun v8 h => ?_) (fun j9 hj9 h => ?_)
          · refine g_aload_n (pn := 65) K rfl 2 rfl dX0_reckon_64 ?_
            refine g_iconst (pn := 66) (v := 0) K rfl ic_0 dX0_reckon_65 ?_
            refine g_iload_n (pn := 67) K rfl 3 rfl dX0_reckon_66 ?_
            refine g_iconst (pn := 68) (v := 0) K rfl ic_0 dX0_reckon_67 ?_
            obtain ⟨M11, v12, hc10, h⟩ := ob2_e h
            refine g_callV1 (pn := 71) (As := [.int 0, .int v3, .int 0]) (rest := [.int v8, .int v7, .int v6, .int v3, .ref (X.2.2.2.1 33)]) (a := 23) K rfl (d' := 2) (Nat.le_of_ble_eq_true rfl) mv_X0_66 (recvO K lx_23 rfl) (w_f_Day_tells hc10) rfl rfl (Nat.le_of_ble_eq_true rfl) dX0_reckon_68 ?_
            obtain ⟨v14, hc13, h⟩ := ob_e h
            refine g_callS1 (pn := 74) (As := [.int v6, .int v7, .int v8, .int v12]) (rest := [.int v3, .ref (X.2.2.2.1 33)]) K rfl (d' := 1) (Nat.le_of_ble_eq_true rfl) ms_X0_70 (w_f_Kind_ripens hc13) rfl rfl (Nat.le_of_ble_eq_true rfl) dX0_reckon_71 ?_
            refine g_iast (pn := 75) K rfl lx_33 dX0_reckon_74 h (fun M15 h => ?_)
            refine g_aload_n (pn := 76) K rfl 2 rfl dX0_reckon_75 ?_
            refine g_getr (pn := 79) (j := 34) K rfl fl_X0_31 lx_23 rfl dX0_reckon_76 ?_
            refine g_iload_n (pn := 80) K rfl 3 rfl dX0_reckon_79 ?_
            refine g_iload_n (pn := 81) K rfl 1 rfl dX0_reckon_80 ?_
            refine g_iload_n (pn := 82) K rfl 0 rfl dX0_reckon_81 ?_
            obtain ⟨v17, hc16, h⟩ := ob_e h
            refine g_callS1 (pn := 85) (As := [.int v6, .int v7]) (rest := [.int v3, .ref (X.2.2.2.1 34)]) K rfl (d' := 1) (Nat.le_of_ble_eq_true rfl) ms_X0_75 (w_f_Kind_lasts hc16) rfl rfl (Nat.le_of_ble_eq_true rfl) dX0_reckon_82 ?_
            refine g_iast (pn := 86) K rfl lx_34 dX0_reckon_85 h (fun M18 h => ?_)
            refine g_aload_n (pn := 87) K rfl 2 rfl dX0_reckon_86 ?_
            refine g_getr (pn := 90) (j := 35) K rfl fl_X0_34 lx_23 rfl dX0_reckon_87 ?_
            refine g_iload_n (pn := 91) K rfl 3 rfl dX0_reckon_90 ?_
            refine g_iload_n (pn := 92) K rfl 1 rfl dX0_reckon_91 ?_
            refine g_aload_n (pn := 93) K rfl 2 rfl dX0_reckon_92 ?_
            refine g_getr (pn := 96) (j := 24) K rfl fl_X0_12 lx_23 rfl dX0_reckon_93 ?_
            refine g_getr (pn := 99) (j := 28) K rfl fl_X0_78 lx_24 rfl dX0_reckon_96 ?_
            refine g_iload_n (pn := 100) K rfl 3 rfl dX0_reckon_99 ?_
            refine g_iald (pn := 101) K rfl lx_28 dX0_reckon_100 h (fun h => ?_)
            refine g_aload_n (pn := 102) K rfl 2 rfl dX0_reckon_101 ?_
            refine g_iconst (pn := 103) (v := 1) K rfl ic_1 dX0_reckon_102 ?_
            refine g_iload_n (pn := 104) K rfl 3 rfl dX0_reckon_103 ?_
            refine g_iconst (pn := 105) (v := 0) K rfl ic_0 dX0_reckon_104 ?_
            obtain ⟨M20, v21, hc19, h⟩ := ob2_e h
            refine g_callV1 (pn := 108) (As := [.int 1, .int v3, .int 0]) (rest := [.int (M18 28 v3.toNatClampNeg), .int v6, .int v3, .ref (X.2.2.2.1 35)]) (a := 23) K rfl (d' := 2) (Nat.le_of_ble_eq_true rfl) mv_X0_66 (recvO K lx_23 rfl) (w_f_Day_tells hc19) rfl rfl (Nat.le_of_ble_eq_true rfl) dX0_reckon_105 ?_
            obtain ⟨v23, hc22, h⟩ := ob_e h
            refine g_callS1 (pn := 111) (As := [.int v6, .int (M18 28 v3.toNatClampNeg), .int v21]) (rest := [.int v3, .ref (X.2.2.2.1 35)]) K rfl (d' := 1) (Nat.le_of_ble_eq_true rfl) ms_X0_81 (w_f_Kind_takes hc22) rfl rfl (Nat.le_of_ble_eq_true rfl) dX0_reckon_108 ?_
            refine g_iast (pn := 112) K rfl lx_35 dX0_reckon_111 h (fun M24 h => ?_)
            obtain ⟨v25, ev25, h⟩ := bnd_e h
            refine g_iinc (pn := 115) (v := v25) (lv' := [(1, .int v25), (3, .int v7), (2, .int v6), (0, .ref (X.2.2.2.1 23))]) K rfl 3 rfl ii_1 ev25 dX0_reckon_112 (Nat.le_of_ble_eq_true rfl) rfl ?_
            refine g_goto (tgt := 2) K (by decide) dX0_reckon_115 ?_
            refine g_sub [3, 0] rfl ?_
            exact ih5 _ _ h
          refine g_icmp_ne (tgt := 63) (pn := 59) K rfl (by decide) dX0_reckon_56 h (fun h => ?_) (fun h => ?_)
          · refine g_iconst (pn := 64) (v := 0) K rfl ic_0 dX0_reckon_63 ?_
            exact hj9 _ h
          · refine g_iconst (pn := 60) (v := 1) K rfl ic_1 dX0_reckon_59 ?_
            refine g_goto (tgt := 64) K (by decide) dX0_reckon_60 ?_
            exact hj9 _ h
  refine g_sub [1, 0] rfl ?_
  exact LP2 FU _ _ h
set_option maxHeartbeats 4000000 in
set_option maxRecDepth 20000 in
theorem w_f_Day_dawn {X : XT} {M : Mem}  {M' : Mem}   (h : f_Day_dawn M = some M') : CT layX X 0 yX0_dawn cX0_dawn 2 none [.ref (X.2.2.2.1 23)] M M' none := by
  refine CT.of rfl (Nat.le_of_ble_eq_true rfl) (lv := [(0, .ref (X.2.2.2.1 23))]) rfl (fun Γ K => ?_)
  have K : Kx layX X Γ RX0 cX0_dawn 2 0 none := K
  unfold f_Day_dawn at h
  refine g_aload_n (pn := 1) K rfl 0 rfl dX0_dawn_0 ?_
  refine g_iconst (pn := 2) (v := 0) K rfl ic_0 dX0_dawn_1 ?_
  refine g_puti (pn := 5) K rfl fp_X0_130 lx_23 rfl dX0_dawn_2 h (fun M1 h => ?_)
  refine g_aload_n (pn := 6) K rfl 0 rfl dX0_dawn_5 ?_
  refine g_iconst (pn := 7) (v := 0) K rfl ic_0 dX0_dawn_6 ?_
  refine g_puti (pn := 10) K rfl fp_X0_112 lx_23 rfl dX0_dawn_7 h (fun M2 h => ?_)
  refine g_aload_n (pn := 11) K rfl 0 rfl dX0_dawn_10 ?_
  refine g_iconst (pn := 12) (v := 0) K rfl ic_0 dX0_dawn_11 ?_
  refine g_puti (pn := 15) K rfl fp_X0_115 lx_23 rfl dX0_dawn_12 h (fun M3 h => ?_)
  refine g_aload_n (pn := 16) K rfl 0 rfl dX0_dawn_15 ?_
  refine g_iconst (pn := 17) (v := 0) K rfl ic_0 dX0_dawn_16 ?_
  refine g_puti (pn := 20) K rfl fp_X0_139 lx_23 rfl dX0_dawn_17 h (fun M4 h => ?_)
  refine g_aload_n (pn := 21) K rfl 0 rfl dX0_dawn_20 ?_
  refine g_iconst (pn := 22) (v := 0) K rfl ic_0 dX0_dawn_21 ?_
  refine g_puti (pn := 25) K rfl fp_X0_142 lx_23 rfl dX0_dawn_22 h (fun M5 h => ?_)
  refine g_iconst (pn := 26) (v := 0) K rfl ic_0 dX0_dawn_25 ?_
  refine g_istore_n (pn := 27) (lv' := [(1, .int 0), (0, .ref (X.2.2.2.1 23))]) K rfl dX0_dawn_26 rfl (Nat.le_of_ble_eq_true rfl) rfl ?_
  refine jp_e1 h (fun M6 => G layX X Γ 2 (QM layX X Γ none M') 67 [] [] M6) (fun M6 h => ?_) (fun j7 hj7 h => ?_)
  · exact g_vret K dX0_dawn_67 (oi h)
  have LP27 : ∀ (fu10 : Nat) (v8 : Int32) (M9 : Mem), f_Day_dawn_L27 j7 fu10 v8 M9 = some M' → G layX X Γ 2 (QM layX X Γ none M') 27 [(0, .ref (X.2.2.2.1 23)), (1, .int v8)] [] M9 := by
    intro fu10
    induction fu10 with
    | zero =>
      intro v8 M9 h
      rw [f_Day_dawn_L27] at h
      cases h
    | succ fu10 ih10 =>
      intro v8 M9 h
      rw [f_Day_dawn_L27] at h
      refine g_iload_n (pn := 28) K rfl 1 rfl dX0_dawn_27 ?_
      refine g_bipush (pn := 30) (v := 6) K rfl bp_6 dX0_dawn_28 ?_
      refine g_icmp_ge (tgt := 67) (pn := 33) K rfl (by decide) dX0_dawn_30 h (fun h => ?_) (fun h => ?_)
      · refine g_sub [] rfl ?_
        exact hj7 _ h
      · refine g_aload_n (pn := 34) K rfl 0 rfl dX0_dawn_33 ?_
        refine g_getr (pn := 37) (j := 36) K rfl fl_X0_37 lx_23 rfl dX0_dawn_34 ?_
        refine g_iload_n (pn := 38) K rfl 1 rfl dX0_dawn_37 ?_
        refine g_iconst (pn := 39) (v := (-1)) K rfl ic_m1 dX0_dawn_38 ?_
        refine g_iast (pn := 40) K rfl lx_36 dX0_dawn_39 h (fun M11 h => ?_)
        refine g_aload_n (pn := 41) K rfl 0 rfl dX0_dawn_40 ?_
        refine g_getr (pn := 44) (j := 37) K rfl fl_X0_40 lx_23 rfl dX0_dawn_41 ?_
        refine g_iload_n (pn := 45) K rfl 1 rfl dX0_dawn_44 ?_
        refine g_iconst (pn := 46) (v := (-1)) K rfl ic_m1 dX0_dawn_45 ?_
        refine g_iast (pn := 47) K rfl lx_37 dX0_dawn_46 h (fun M12 h => ?_)
        refine g_aload_n (pn := 48) K rfl 0 rfl dX0_dawn_47 ?_
        refine g_getr (pn := 51) (j := 38) K rfl fl_X0_43 lx_23 rfl dX0_dawn_48 ?_
        refine g_iload_n (pn := 52) K rfl 1 rfl dX0_dawn_51 ?_
        refine g_iconst (pn := 53) (v := (-1)) K rfl ic_m1 dX0_dawn_52 ?_
        refine g_iast (pn := 54) K rfl lx_38 dX0_dawn_53 h (fun M13 h => ?_)
        refine g_aload_n (pn := 55) K rfl 0 rfl dX0_dawn_54 ?_
        refine g_getr (pn := 58) (j := 39) K rfl fl_X0_46 lx_23 rfl dX0_dawn_55 ?_
        refine g_iload_n (pn := 59) K rfl 1 rfl dX0_dawn_58 ?_
        refine g_iconst (pn := 60) (v := 0) K rfl ic_0 dX0_dawn_59 ?_
        refine g_iast (pn := 61) K rfl lx_39 dX0_dawn_60 h (fun M14 h => ?_)
        obtain ⟨v15, ev15, h⟩ := bnd_e h
        refine g_iinc (pn := 64) (v := v15) (lv' := [(1, .int v15), (0, .ref (X.2.2.2.1 23))]) K rfl 1 rfl ii_1 ev15 dX0_dawn_61 (Nat.le_of_ble_eq_true rfl) rfl ?_
        refine g_goto (tgt := 27) K (by decide) dX0_dawn_64 ?_
        refine g_sub [1, 0] rfl ?_
        exact ih10 _ _ h
  refine g_sub [1, 0] rfl ?_
  exact LP27 FU _ _ h
set_option maxHeartbeats 4000000 in
set_option maxRecDepth 20000 in
theorem w_f_Day_firstRipe {X : XT} {M : Mem}  {r : Int32}   (h : f_Day_firstRipe M = some r) : CT layX X 0 yX0_firstRipe cX0_firstRipe 4 (some .int) [.ref (X.2.2.2.1 23)] M M (some (.int r)) := by
  refine CT.of rfl (Nat.le_of_ble_eq_true rfl) (lv := [(0, .ref (X.2.2.2.1 23))]) rfl (fun Γ K => ?_)
  have K : Kx layX X Γ RX0 cX0_firstRipe 4 0 (some .int) := K
  unfold f_Day_firstRipe at h
  refine g_iconst (pn := 1) (v := (-1)) K rfl ic_m1 dX0_firstRipe_0 ?_
  refine g_istore_n (pn := 2) (lv' := [(1, .int (-1)), (0, .ref (X.2.2.2.1 23))]) K rfl dX0_firstRipe_1 rfl (Nat.le_of_ble_eq_true rfl) rfl ?_
  refine g_iconst (pn := 3) (v := 0) K rfl ic_0 dX0_firstRipe_2 ?_
  refine g_istore_n (pn := 4) (lv' := [(2, .int 0), (1, .int (-1)), (0, .ref (X.2.2.2.1 23))]) K rfl dX0_firstRipe_3 rfl (Nat.le_of_ble_eq_true rfl) rfl ?_
  refine jp_e1 h (fun v1 => G layX X Γ 4 (QM layX X Γ (some (.int r)) M) 86 [(1, .int v1)] [] M) (fun v1 h => ?_) (fun j2 hj2 h => ?_)
  · refine g_iload_n (pn := 87) K rfl 0 rfl dX0_firstRipe_86 ?_
    exact g_iret K dX0_firstRipe_87 (oi h) rfl
  have LP4 : ∀ (fu5 : Nat) (v3 : Int32) (v4 : Int32), f_Day_firstRipe_L4 M j2 fu5 v3 v4 = some r → G layX X Γ 4 (QM layX X Γ (some (.int r)) M) 4 [(0, .ref (X.2.2.2.1 23)), (1, .int v3), (2, .int v4)] [] M := by
    intro fu5
    induction fu5 with
    | zero =>
      intro v3 v4 h
      rw [f_Day_firstRipe_L4] at h
      cases h
    | succ fu5 ih5 =>
      intro v3 v4 h
      rw [f_Day_firstRipe_L4] at h
      refine g_iload_n (pn := 5) K rfl 2 rfl dX0_firstRipe_4 ?_
      refine g_aload_n (pn := 6) K rfl 0 rfl dX0_firstRipe_5 ?_
      refine g_geti (pn := 9) K rfl fl_X0_130 lx_23 rfl dX0_firstRipe_6 ?_
      refine g_icmp_ge (tgt := 86) (pn := 12) K rfl (by decide) dX0_firstRipe_9 h (fun h => ?_) (fun h => ?_)
      · refine g_sub [1] rfl ?_
        exact hj2 _ h
      · refine g_iload_n (pn := 13) K rfl 2 rfl dX0_firstRipe_12 ?_
        refine g_bipush (pn := 15) (v := 6) K rfl bp_6 dX0_firstRipe_13 ?_
        refine g_icmp_ge (tgt := 86) (pn := 18) K rfl (by decide) dX0_firstRipe_15 h (fun h => ?_) (fun h => ?_)
        · refine g_sub [1] rfl ?_
          exact hj2 _ h
        · refine g_aload_n (pn := 19) K rfl 0 rfl dX0_firstRipe_18 ?_
          refine g_getr (pn := 22) (j := 32) K rfl fl_X0_25 lx_23 rfl dX0_firstRipe_19 ?_
          refine g_iload_n (pn := 23) K rfl 2 rfl dX0_firstRipe_22 ?_
          refine g_iald (pn := 24) K rfl lx_32 dX0_firstRipe_23 h (fun h => ?_)
          refine g_nmi h (fun v6 h => ?_)
          refine g_istore_n (pn := 25) (lv' := [(3, .int v6), (0, .ref (X.2.2.2.1 23)), (1, .int v3), (2, .int v4)]) K rfl dX0_firstRipe_24 rfl (Nat.le_of_ble_eq_true rfl) rfl ?_
          refine g_aload_n (pn := 26) K rfl 1 rfl dX0_firstRipe_25 ?_
          refine g_getr (pn := 29) (j := 38) K rfl fl_X0_43 lx_23 rfl dX0_firstRipe_26 ?_
          refine g_iload_n (pn := 30) K rfl 0 rfl dX0_firstRipe_29 ?_
          refine g_iald (pn := 31) K rfl lx_38 dX0_firstRipe_30 h (fun h => ?_)
          refine g_iconst (pn := 32) (v := (-1)) K rfl ic_m1 dX0_firstRipe_31 ?_
          refine g_icmp_ne (tgt := 80) (pn := 35) K rfl (by decide) dX0_firstRipe_32 h (fun h => ?_) (fun h => ?_)
          · obtain ⟨v7, ev7, h⟩ := bnd_e h
            refine g_iinc (pn := 83) (v := v7) (lv' := [(2, .int v7), (3, .int v6), (0, .ref (X.2.2.2.1 23)), (1, .int v3)]) K rfl 3 rfl ii_1 ev7 dX0_firstRipe_80 (Nat.le_of_ble_eq_true rfl) rfl ?_
            refine g_goto (tgt := 4) K (by decide) dX0_firstRipe_83 ?_
            refine g_sub [2, 3, 0] rfl ?_
            exact ih5 _ _ h
          · refine g_aload_n (pn := 36) K rfl 1 rfl dX0_firstRipe_35 ?_
            refine g_geti (pn := 39) K rfl fl_X0_115 lx_23 rfl dX0_firstRipe_36 ?_
            refine g_aload_n (pn := 40) K rfl 1 rfl dX0_firstRipe_39 ?_
            refine g_getr (pn := 43) (j := 37) K rfl fl_X0_40 lx_23 rfl dX0_firstRipe_40 ?_
            refine g_iload_n (pn := 44) K rfl 0 rfl dX0_firstRipe_43 ?_
            refine g_iald (pn := 45) K rfl lx_37 dX0_firstRipe_44 h (fun h => ?_)
            refine g_aload_n (pn := 46) K rfl 1 rfl dX0_firstRipe_45 ?_
            refine g_getr (pn := 49) (j := 24) K rfl fl_X0_12 lx_23 rfl dX0_firstRipe_46 ?_
            refine g_getr (pn := 52) (j := 25) K rfl fl_X0_86 lx_24 rfl dX0_firstRipe_49 ?_
            refine g_iconst (pn := 53) (v := 5) K rfl ic_5 dX0_firstRipe_52 ?_
            refine g_iald (pn := 54) K rfl lx_25 dX0_firstRipe_53 h (fun h => ?_)
            refine g_isub (pn := 55) K rfl dX0_firstRipe_54 ?_
            refine g_icmp_lt (tgt := 80) (pn := 58) K rfl (by decide) dX0_firstRipe_55 h (fun h => ?_) (fun h => ?_)
            · obtain ⟨v8, ev8, h⟩ := bnd_e h
              refine g_iinc (pn := 83) (v := v8) (lv' := [(2, .int v8), (3, .int v6), (0, .ref (X.2.2.2.1 23)), (1, .int v3)]) K rfl 3 rfl ii_1 ev8 dX0_firstRipe_80 (Nat.le_of_ble_eq_true rfl) rfl ?_
              refine g_goto (tgt := 4) K (by decide) dX0_firstRipe_83 ?_
              refine g_sub [2, 3, 0] rfl ?_
              exact ih5 _ _ h
            · refine g_iload_n (pn := 59) K rfl 2 rfl dX0_firstRipe_58 ?_
              refine g_iconst (pn := 60) (v := (-1)) K rfl ic_m1 dX0_firstRipe_59 ?_
              refine jp_e1 h (fun u9 => G layX X Γ 4 (QM layX X Γ (some (.int r)) M) 78 [(3, .int v6), (0, .ref (X.2.2.2.1 23)), (2, .int v4)] [] M) (fun u9 h => ?_) (fun j10 hj10 h => ?_)
              · refine g_iload_n (pn := 79) K rfl 0 rfl dX0_firstRipe_78 ?_
                refine g_istore_n (pn := 80) (lv' := [(1, .int v6), (3, .int v6), (0, .ref (X.2.2.2.1 23)), (2, .int v4)]) K rfl dX0_firstRipe_79 rfl (Nat.le_of_ble_eq_true rfl) rfl ?_
                obtain ⟨v11, ev11, h⟩ := bnd_e h
                refine g_iinc (pn := 83) (v := v11) (lv' := [(2, .int v11), (1, .int v6), (3, .int v6), (0, .ref (X.2.2.2.1 23))]) K rfl 3 rfl ii_1 ev11 dX0_firstRipe_80 (Nat.le_of_ble_eq_true rfl) rfl ?_
                refine g_goto (tgt := 4) K (by decide) dX0_firstRipe_83 ?_
                refine g_sub [3, 1, 0] rfl ?_
                exact ih5 _ _ h
              refine g_icmp_eq (tgt := 78) (pn := 63) K rfl (by decide) dX0_firstRipe_60 h (fun h => ?_) (fun h => ?_)
              · refine g_sub [0, 1, 3] rfl ?_
                exact hj10 _ h
              · refine g_aload_n (pn := 64) K rfl 1 rfl dX0_firstRipe_63 ?_
                refine g_getr (pn := 67) (j := 37) K rfl fl_X0_40 lx_23 rfl dX0_firstRipe_64 ?_
                refine g_iload_n (pn := 68) K rfl 0 rfl dX0_firstRipe_67 ?_
                refine g_iald (pn := 69) K rfl lx_37 dX0_firstRipe_68 h (fun h => ?_)
                refine g_aload_n (pn := 70) K rfl 1 rfl dX0_firstRipe_69 ?_
                refine g_getr (pn := 73) (j := 37) K rfl fl_X0_40 lx_23 rfl dX0_firstRipe_70 ?_
                refine g_iload_n (pn := 74) K rfl 2 rfl dX0_firstRipe_73 ?_
                refine g_iald (pn := 75) K rfl lx_37 dX0_firstRipe_74 h (fun h => ?_)
                refine g_icmp_ge (tgt := 80) (pn := 78) K rfl (by decide) dX0_firstRipe_75 h (fun h => ?_) (fun h => ?_)
                · obtain ⟨v12, ev12, h⟩ := bnd_e h
                  refine g_iinc (pn := 83) (v := v12) (lv' := [(2, .int v12), (3, .int v6), (0, .ref (X.2.2.2.1 23)), (1, .int v3)]) K rfl 3 rfl ii_1 ev12 dX0_firstRipe_80 (Nat.le_of_ble_eq_true rfl) rfl ?_
                  refine g_goto (tgt := 4) K (by decide) dX0_firstRipe_83 ?_
                  refine g_sub [2, 3, 0] rfl ?_
                  exact ih5 _ _ h
                · refine g_sub [0, 1, 3] rfl ?_
                  exact hj10 _ h
  refine g_sub [2, 1, 0] rfl ?_
  exact LP4 FU _ _ h
set_option maxHeartbeats 4000000 in
set_option maxRecDepth 20000 in
theorem w_f_Day_trowel {X : XT} {M : Mem} {a1 : Int32} {M' : Mem}   (h : f_Day_trowel M a1 = some M') : CT layX X 3 yX0_trowel cX0_trowel 4 none [.ref (X.2.2.2.1 23), .int a1] M M' none := by
  refine CT.of rfl (Nat.le_of_ble_eq_true rfl) (lv := [(0, .ref (X.2.2.2.1 23)), (1, .int a1)]) rfl (fun Γ K => ?_)
  have K : Kx layX X Γ RX0 cX0_trowel 4 3 none := K
  unfold f_Day_trowel at h
  refine g_aload_n (pn := 1) K rfl 0 rfl dX0_trowel_0 ?_
  refine g_geti (pn := 4) K rfl fl_X0_115 lx_23 rfl dX0_trowel_1 ?_
  refine g_aload_n (pn := 5) K rfl 0 rfl dX0_trowel_4 ?_
  refine g_getr (pn := 8) (j := 37) K rfl fl_X0_40 lx_23 rfl dX0_trowel_5 ?_
  refine g_iload_n (pn := 9) K rfl 1 rfl dX0_trowel_8 ?_
  refine g_iald (pn := 10) K rfl lx_37 dX0_trowel_9 h (fun h => ?_)
  refine g_aload_n (pn := 11) K rfl 0 rfl dX0_trowel_10 ?_
  refine g_getr (pn := 14) (j := 34) K rfl fl_X0_31 lx_23 rfl dX0_trowel_11 ?_
  refine g_iload_n (pn := 15) K rfl 1 rfl dX0_trowel_14 ?_
  refine g_iald (pn := 16) K rfl lx_34 dX0_trowel_15 h (fun h => ?_)
  refine g_iadd (pn := 17) K rfl dX0_trowel_16 ?_
  refine g_isub (pn := 18) K rfl dX0_trowel_17 ?_
  refine g_nmi h (fun v1 h => ?_)
  refine g_istore_n (pn := 19) (lv' := [(2, .int v1), (0, .ref (X.2.2.2.1 23)), (1, .int a1)]) K rfl dX0_trowel_18 rfl (Nat.le_of_ble_eq_true rfl) rfl ?_
  refine g_aload_n (pn := 20) K rfl 1 rfl dX0_trowel_19 ?_
  refine g_geti (pn := 23) K rfl fl_X0_115 lx_23 rfl dX0_trowel_20 ?_
  refine g_aload_n (pn := 24) K rfl 1 rfl dX0_trowel_23 ?_
  refine g_getr (pn := 27) (j := 37) K rfl fl_X0_40 lx_23 rfl dX0_trowel_24 ?_
  refine g_iload_n (pn := 28) K rfl 2 rfl dX0_trowel_27 ?_
  refine g_iald (pn := 29) K rfl lx_37 dX0_trowel_28 h (fun h => ?_)
  refine g_isub (pn := 30) K rfl dX0_trowel_29 ?_
  refine g_nmi h (fun v2 h => ?_)
  refine g_istore_n (pn := 31) (lv' := [(3, .int v2), (2, .int v1), (0, .ref (X.2.2.2.1 23)), (1, .int a1)]) K rfl dX0_trowel_30 rfl (Nat.le_of_ble_eq_true rfl) rfl ?_
  refine g_aload_n (pn := 32) K rfl 2 rfl dX0_trowel_31 ?_
  refine g_getr (pn := 35) (j := 39) K rfl fl_X0_46 lx_23 rfl dX0_trowel_32 ?_
  refine g_iload_n (pn := 36) K rfl 3 rfl dX0_trowel_35 ?_
  refine g_iload_n (pn := 37) K rfl 1 rfl dX0_trowel_36 ?_
  refine jp_e1 h (fun v3 => G layX X Γ 4 (QM layX X Γ none M') 53 [(0, .ref (X.2.2.2.1 23)), (1, .int a1)] [.int v3, .int a1, .ref (X.2.2.2.1 39)] M) (fun v3 h => ?_) (fun j4 hj4 h => ?_)
  · refine g_iast (pn := 54) K rfl lx_39 dX0_trowel_53 h (fun M5 h => ?_)
    refine g_aload_n (pn := 55) K rfl 0 rfl dX0_trowel_54 ?_
    refine g_getr (pn := 58) (j := 39) K rfl fl_X0_46 lx_23 rfl dX0_trowel_55 ?_
    refine g_iload_n (pn := 59) K rfl 1 rfl dX0_trowel_58 ?_
    refine g_iald (pn := 60) K rfl lx_39 dX0_trowel_59 h (fun h => ?_)
    refine jp_e1 h (fun M6 => G layX X Γ 4 (QM layX X Γ none M') 84 [(0, .ref (X.2.2.2.1 23)), (1, .int a1)] [] M6) (fun M6 h => ?_) (fun j7 hj7 h => ?_)
    · refine g_aload_n (pn := 85) K rfl 0 rfl dX0_trowel_84 ?_
      refine g_getr (pn := 88) (j := 38) K rfl fl_X0_43 lx_23 rfl dX0_trowel_85 ?_
      refine g_iload_n (pn := 89) K rfl 1 rfl dX0_trowel_88 ?_
      refine g_aload_n (pn := 90) K rfl 0 rfl dX0_trowel_89 ?_
      refine g_geti (pn := 93) K rfl fl_X0_115 lx_23 rfl dX0_trowel_90 ?_
      refine g_iast (pn := 94) K rfl lx_38 dX0_trowel_93 h (fun M8 h => ?_)
      refine g_aload_n (pn := 95) K rfl 0 rfl dX0_trowel_94 ?_
      refine g_dup (pn := 96) K rfl rfl dX0_trowel_95 ?_
      refine g_geti (pn := 99) K rfl fl_X0_115 lx_23 rfl dX0_trowel_96 ?_
      refine g_aload_n (pn := 100) K rfl 0 rfl dX0_trowel_99 ?_
      refine g_getr (pn := 103) (j := 24) K rfl fl_X0_12 lx_23 rfl dX0_trowel_100 ?_
      refine g_getr (pn := 106) (j := 28) K rfl fl_X0_78 lx_24 rfl dX0_trowel_103 ?_
      refine g_iload_n (pn := 107) K rfl 1 rfl dX0_trowel_106 ?_
      refine g_iald (pn := 108) K rfl lx_28 dX0_trowel_107 h (fun h => ?_)
      refine g_iadd (pn := 109) K rfl dX0_trowel_108 ?_
      refine g_puti (pn := 112) K rfl fp_X0_115 lx_23 rfl dX0_trowel_109 h (fun M9 h => ?_)
      refine g_aload_n (pn := 113) K rfl 0 rfl dX0_trowel_112 ?_
      refine g_dup (pn := 114) K rfl rfl dX0_trowel_113 ?_
      refine g_geti (pn := 117) K rfl fl_X0_112 lx_23 rfl dX0_trowel_114 ?_
      refine g_iconst (pn := 118) (v := 1) K rfl ic_1 dX0_trowel_117 ?_
      refine g_iadd (pn := 119) K rfl dX0_trowel_118 ?_
      refine g_puti (pn := 122) K rfl fp_X0_112 lx_23 rfl dX0_trowel_119 h (fun M10 h => ?_)
      exact g_vret K dX0_trowel_122 (oi h)
    refine g_if_eq (tgt := 84) (pn := 63) K rfl (by decide) dX0_trowel_60 h (fun h => ?_) (fun h => ?_)
    · exact hj7 _ h
    · refine g_aload_n (pn := 64) K rfl 0 rfl dX0_trowel_63 ?_
      refine g_dup (pn := 65) K rfl rfl dX0_trowel_64 ?_
      refine g_geti (pn := 68) K rfl fl_X0_142 lx_23 rfl dX0_trowel_65 ?_
      refine g_aload_n (pn := 69) K rfl 0 rfl dX0_trowel_68 ?_
      refine g_iconst (pn := 70) (v := 2) K rfl ic_2 dX0_trowel_69 ?_
      refine g_iload_n (pn := 71) K rfl 1 rfl dX0_trowel_70 ?_
      refine g_aload_n (pn := 72) K rfl 0 rfl dX0_trowel_71 ?_
      refine g_getr (pn := 75) (j := 39) K rfl fl_X0_46 lx_23 rfl dX0_trowel_72 ?_
      refine g_iload_n (pn := 76) K rfl 1 rfl dX0_trowel_75 ?_
      refine g_iald (pn := 77) K rfl lx_39 dX0_trowel_76 h (fun h => ?_)
      obtain ⟨M12, v13, hc11, h⟩ := ob2_e h
      refine g_callV1 (pn := 80) (As := [.int 2, .int a1, .int (M5 39 a1.toNatClampNeg)]) (rest := [.int (M5 23 16), .ref (X.2.2.2.1 23)]) (a := 23) K rfl (d' := 2) (Nat.le_of_ble_eq_true rfl) mv_X0_66 (recvO K lx_23 rfl) (w_f_Day_tells hc11) rfl rfl (Nat.le_of_ble_eq_true rfl) dX0_trowel_77 ?_
      refine g_iadd (pn := 81) K rfl dX0_trowel_80 ?_
      refine g_puti (pn := 84) K rfl fp_X0_142 lx_23 rfl dX0_trowel_81 h (fun M14 h => ?_)
      exact hj7 _ h
  refine g_if_le (tgt := 44) (pn := 40) K rfl (by decide) dX0_trowel_37 h (fun h => ?_) (fun h => ?_)
  · refine g_iload_n (pn := 45) K rfl 0 rfl dX0_trowel_44 ?_
    refine g_if_ge (tgt := 52) (pn := 48) K rfl (by decide) dX0_trowel_45 h (fun h => ?_) (fun h => ?_)
    · refine g_iconst (pn := 53) (v := 0) K rfl ic_0 dX0_trowel_52 ?_
      refine g_sub [2, 3] rfl ?_
      exact hj4 _ h
    · refine g_iload_n (pn := 49) K rfl 0 rfl dX0_trowel_48 ?_
      refine g_goto (tgt := 53) K (by decide) dX0_trowel_49 ?_
      refine g_sub [2, 3] rfl ?_
      exact hj4 _ h
  · refine g_iload_n (pn := 41) K rfl 1 rfl dX0_trowel_40 ?_
    refine g_goto (tgt := 53) K (by decide) dX0_trowel_41 ?_
    refine g_sub [2, 3] rfl ?_
    exact hj4 _ h
set_option maxHeartbeats 4000000 in
set_option maxRecDepth 20000 in
theorem w_f_Day_nextBegins {X : XT} {M : Mem}  {r : Int32}   (h : f_Day_nextBegins M = some r) : CT layX X 0 yX0_nextBegins cX0_nextBegins 1 (some .int) [.ref (X.2.2.2.1 23)] M M (some (.int r)) := by
  refine CT.of rfl (Nat.le_of_ble_eq_true rfl) (lv := [(0, .ref (X.2.2.2.1 23))]) rfl (fun Γ K => ?_)
  have K : Kx layX X Γ RX0 cX0_nextBegins 1 0 (some .int) := K
  unfold f_Day_nextBegins at h
  refine g_aload_n (pn := 1) K rfl 0 rfl dX0_nextBegins_0 ?_
  refine g_geti (pn := 4) K rfl fl_X0_130 lx_23 rfl dX0_nextBegins_1 ?_
  refine g_if_le (tgt := 45) (pn := 7) K rfl (by decide) dX0_nextBegins_4 h (fun h => ?_) (fun h => ?_)
  · refine g_iconst (pn := 46) (v := 0) K rfl ic_0 dX0_nextBegins_45 ?_
    exact g_iret K dX0_nextBegins_46 (oi h) rfl
  · refine g_aload_n (pn := 8) K rfl 0 rfl dX0_nextBegins_7 ?_
    refine g_geti (pn := 11) K rfl fl_X0_130 lx_23 rfl dX0_nextBegins_8 ?_
    refine g_bipush (pn := 13) (v := 6) K rfl bp_6 dX0_nextBegins_11 ?_
    refine g_icmp_gt (tgt := 45) (pn := 16) K rfl (by decide) dX0_nextBegins_13 h (fun h => ?_) (fun h => ?_)
    · refine g_iconst (pn := 46) (v := 0) K rfl ic_0 dX0_nextBegins_45 ?_
      exact g_iret K dX0_nextBegins_46 (oi h) rfl
    · refine g_aload_n (pn := 17) K rfl 0 rfl dX0_nextBegins_16 ?_
      refine g_getr (pn := 20) (j := 36) K rfl fl_X0_37 lx_23 rfl dX0_nextBegins_17 ?_
      refine g_aload_n (pn := 21) K rfl 0 rfl dX0_nextBegins_20 ?_
      refine g_getr (pn := 24) (j := 32) K rfl fl_X0_25 lx_23 rfl dX0_nextBegins_21 ?_
      refine g_aload_n (pn := 25) K rfl 0 rfl dX0_nextBegins_24 ?_
      refine g_geti (pn := 28) K rfl fl_X0_130 lx_23 rfl dX0_nextBegins_25 ?_
      refine g_iconst (pn := 29) (v := 1) K rfl ic_1 dX0_nextBegins_28 ?_
      refine g_isub (pn := 30) K rfl dX0_nextBegins_29 ?_
      refine g_iald (pn := 31) K rfl lx_32 dX0_nextBegins_30 h (fun h => ?_)
      refine g_iald (pn := 32) K rfl lx_36 dX0_nextBegins_31 h (fun h => ?_)
      refine g_aload_n (pn := 33) K rfl 0 rfl dX0_nextBegins_32 ?_
      refine g_getr (pn := 36) (j := 24) K rfl fl_X0_12 lx_23 rfl dX0_nextBegins_33 ?_
      refine g_getr (pn := 39) (j := 25) K rfl fl_X0_86 lx_24 rfl dX0_nextBegins_36 ?_
      refine g_iconst (pn := 40) (v := 4) K rfl ic_4 dX0_nextBegins_39 ?_
      refine g_iald (pn := 41) K rfl lx_25 dX0_nextBegins_40 h (fun h => ?_)
      refine g_iadd (pn := 42) K rfl dX0_nextBegins_41 ?_
      refine g_goto (tgt := 46) K (by decide) dX0_nextBegins_42 ?_
      exact g_iret K dX0_nextBegins_46 (oi h) rfl
set_option maxHeartbeats 4000000 in
set_option maxRecDepth 20000 in
theorem w_f_Day_mayBegin {X : XT} {M : Mem}  {r : Bool}   (h : f_Day_mayBegin M = some r) : CT layX X 1 yX0_mayBegin cX0_mayBegin 1 (some .boolean) [.ref (X.2.2.2.1 23)] M M (some (.int (b2i r))) := by
  refine CT.of rfl (Nat.le_of_ble_eq_true rfl) (lv := [(0, .ref (X.2.2.2.1 23))]) rfl (fun Γ K => ?_)
  have K : Kx layX X Γ RX0 cX0_mayBegin 1 1 (some .boolean) := K
  unfold f_Day_mayBegin at h
  refine g_aload_n (pn := 1) K rfl 0 rfl dX0_mayBegin_0 ?_
  refine g_geti (pn := 4) K rfl fl_X0_130 lx_23 rfl dX0_mayBegin_1 ?_
  refine g_aload_n (pn := 5) K rfl 0 rfl dX0_mayBegin_4 ?_
  refine g_getr (pn := 8) (j := 24) K rfl fl_X0_12 lx_23 rfl dX0_mayBegin_5 ?_
  refine g_geti (pn := 11) K rfl fl_X0_53 lx_24 rfl dX0_mayBegin_8 ?_
  refine g_icmp_ge (tgt := 45) (pn := 14) K rfl (by decide) dX0_mayBegin_11 h (fun h => ?_) (fun h => ?_)
  · refine g_iconst (pn := 46) (v := 0) K rfl ic_0 dX0_mayBegin_45 ?_
    exact g_zret K rfl dX0_mayBegin_46 (bq0 (oi h)) rfl
  · refine g_aload_n (pn := 15) K rfl 0 rfl dX0_mayBegin_14 ?_
    refine g_geti (pn := 18) K rfl fl_X0_130 lx_23 rfl dX0_mayBegin_15 ?_
    refine g_bipush (pn := 20) (v := 6) K rfl bp_6 dX0_mayBegin_18 ?_
    refine g_icmp_ge (tgt := 45) (pn := 23) K rfl (by decide) dX0_mayBegin_20 h (fun h => ?_) (fun h => ?_)
    · refine g_iconst (pn := 46) (v := 0) K rfl ic_0 dX0_mayBegin_45 ?_
      exact g_zret K rfl dX0_mayBegin_46 (bq0 (oi h)) rfl
    · refine g_aload_n (pn := 24) K rfl 0 rfl dX0_mayBegin_23 ?_
      refine g_geti (pn := 27) K rfl fl_X0_130 lx_23 rfl dX0_mayBegin_24 ?_
      refine g_if_eq (tgt := 41) (pn := 30) K rfl (by decide) dX0_mayBegin_27 h (fun h => ?_) (fun h => ?_)
      · refine g_iconst (pn := 42) (v := 1) K rfl ic_1 dX0_mayBegin_41 ?_
        refine g_goto (tgt := 46) K (by decide) dX0_mayBegin_42 ?_
        exact g_zret K rfl dX0_mayBegin_46 (bq1 (oi h)) rfl
      · refine g_aload_n (pn := 31) K rfl 0 rfl dX0_mayBegin_30 ?_
        refine g_geti (pn := 34) K rfl fl_X0_115 lx_23 rfl dX0_mayBegin_31 ?_
        refine g_aload_n (pn := 35) K rfl 0 rfl dX0_mayBegin_34 ?_
        obtain ⟨v2, hc1, h⟩ := ob_e h
        refine g_callV1 (pn := 38) (As := []) (rest := [.int (M 23 14)]) (a := 23) K rfl (d' := 0) (Nat.le_of_ble_eq_true rfl) mv_X0_145 (recvO K lx_23 rfl) (w_f_Day_nextBegins hc1) rfl rfl (Nat.le_of_ble_eq_true rfl) dX0_mayBegin_35 ?_
        refine g_icmp_lt (tgt := 45) (pn := 41) K rfl (by decide) dX0_mayBegin_38 h (fun h => ?_) (fun h => ?_)
        · refine g_iconst (pn := 46) (v := 0) K rfl ic_0 dX0_mayBegin_45 ?_
          exact g_zret K rfl dX0_mayBegin_46 (bq0 (oi h)) rfl
        · refine g_iconst (pn := 42) (v := 1) K rfl ic_1 dX0_mayBegin_41 ?_
          refine g_goto (tgt := 46) K (by decide) dX0_mayBegin_42 ?_
          exact g_zret K rfl dX0_mayBegin_46 (bq1 (oi h)) rfl
set_option maxHeartbeats 4000000 in
set_option maxRecDepth 20000 in
theorem w_f_Day_begin {X : XT} {M : Mem} {a1 : Int32} {M' : Mem}   (h : f_Day_begin M a1 = some M') : CT layX X 1 yX0_begin cX0_begin 3 none [.ref (X.2.2.2.1 23), .int a1] M M' none := by
  refine CT.of rfl (Nat.le_of_ble_eq_true rfl) (lv := [(0, .ref (X.2.2.2.1 23)), (1, .int a1)]) rfl (fun Γ K => ?_)
  have K : Kx layX X Γ RX0 cX0_begin 3 1 none := K
  unfold f_Day_begin at h
  refine g_iconst (pn := 1) (v := 1) K rfl ic_1 dX0_begin_0 ?_
  refine g_aload_n (pn := 2) K rfl 0 rfl dX0_begin_1 ?_
  refine g_getr (pn := 5) (j := 24) K rfl fl_X0_12 lx_23 rfl dX0_begin_2 ?_
  refine g_getr (pn := 8) (j := 25) K rfl fl_X0_86 lx_24 rfl dX0_begin_5 ?_
  refine g_iconst (pn := 9) (v := 3) K rfl ic_3 dX0_begin_8 ?_
  refine g_iald (pn := 10) K rfl lx_25 dX0_begin_9 h (fun h => ?_)
  refine g_mmax (pn := 13) K rfl (by decide) mm_X0_106 mm_max_s mm_i mm_max_c (Nat.le_of_ble_eq_true rfl) dX0_begin_10 ?_
  refine g_nmi h (fun v1 h => ?_)
  refine g_istore_n (pn := 14) (lv' := [(2, .int v1), (0, .ref (X.2.2.2.1 23)), (1, .int a1)]) K rfl dX0_begin_13 rfl (Nat.le_of_ble_eq_true rfl) rfl ?_
  refine g_aload_n (pn := 15) K rfl 1 rfl dX0_begin_14 ?_
  refine g_getr (pn := 18) (j := 36) K rfl fl_X0_37 lx_23 rfl dX0_begin_15 ?_
  refine g_iload_n (pn := 19) K rfl 2 rfl dX0_begin_18 ?_
  refine g_aload_n (pn := 20) K rfl 1 rfl dX0_begin_19 ?_
  refine g_geti (pn := 23) K rfl fl_X0_115 lx_23 rfl dX0_begin_20 ?_
  refine g_iast (pn := 24) K rfl lx_36 dX0_begin_23 h (fun M2 h => ?_)
  refine g_aload_n (pn := 25) K rfl 1 rfl dX0_begin_24 ?_
  refine g_dup (pn := 26) K rfl rfl dX0_begin_25 ?_
  refine g_geti (pn := 29) K rfl fl_X0_115 lx_23 rfl dX0_begin_26 ?_
  refine g_iconst (pn := 30) (v := 1) K rfl ic_1 dX0_begin_29 ?_
  refine g_aload_n (pn := 31) K rfl 1 rfl dX0_begin_30 ?_
  refine g_getr (pn := 34) (j := 35) K rfl fl_X0_34 lx_23 rfl dX0_begin_31 ?_
  refine g_iload_n (pn := 35) K rfl 2 rfl dX0_begin_34 ?_
  refine g_iald (pn := 36) K rfl lx_35 dX0_begin_35 h (fun h => ?_)
  refine g_iload_n (pn := 37) K rfl 0 rfl dX0_begin_36 ?_
  obtain ⟨hz, h⟩ := nz_e h
  refine g_idiv (pn := 38) K rfl hz dX0_begin_37 ?_
  refine g_mmax (pn := 41) K rfl (by decide) mm_X0_106 mm_max_s mm_i mm_max_c (Nat.le_of_ble_eq_true rfl) dX0_begin_38 ?_
  refine g_iadd (pn := 42) K rfl dX0_begin_41 ?_
  refine g_puti (pn := 45) K rfl fp_X0_115 lx_23 rfl dX0_begin_42 h (fun M3 h => ?_)
  refine g_aload_n (pn := 46) K rfl 1 rfl dX0_begin_45 ?_
  refine g_getr (pn := 49) (j := 37) K rfl fl_X0_40 lx_23 rfl dX0_begin_46 ?_
  refine g_iload_n (pn := 50) K rfl 2 rfl dX0_begin_49 ?_
  refine g_aload_n (pn := 51) K rfl 1 rfl dX0_begin_50 ?_
  refine g_geti (pn := 54) K rfl fl_X0_115 lx_23 rfl dX0_begin_51 ?_
  refine g_aload_n (pn := 55) K rfl 1 rfl dX0_begin_54 ?_
  refine g_getr (pn := 58) (j := 33) K rfl fl_X0_28 lx_23 rfl dX0_begin_55 ?_
  refine g_iload_n (pn := 59) K rfl 2 rfl dX0_begin_58 ?_
  refine g_iald (pn := 60) K rfl lx_33 dX0_begin_59 h (fun h => ?_)
  refine g_iadd (pn := 61) K rfl dX0_begin_60 ?_
  refine g_iast (pn := 62) K rfl lx_37 dX0_begin_61 h (fun M4 h => ?_)
  refine g_aload_n (pn := 63) K rfl 1 rfl dX0_begin_62 ?_
  refine g_dup (pn := 64) K rfl rfl dX0_begin_63 ?_
  refine g_geti (pn := 67) K rfl fl_X0_130 lx_23 rfl dX0_begin_64 ?_
  refine g_iconst (pn := 68) (v := 1) K rfl ic_1 dX0_begin_67 ?_
  refine g_iadd (pn := 69) K rfl dX0_begin_68 ?_
  refine g_puti (pn := 72) K rfl fp_X0_130 lx_23 rfl dX0_begin_69 h (fun M5 h => ?_)
  exact g_vret K dX0_begin_72 (oi h)
set_option maxHeartbeats 4000000 in
set_option maxRecDepth 20000 in
theorem w_f_Day_waitOn {X : XT} {M : Mem}  {M' : Mem}   (h : f_Day_waitOn M = some M') : CT layX X 1 yX0_waitOn cX0_waitOn 4 none [.ref (X.2.2.2.1 23)] M M' none := by
  refine CT.of rfl (Nat.le_of_ble_eq_true rfl) (lv := [(0, .ref (X.2.2.2.1 23))]) rfl (fun Γ K => ?_)
  have K : Kx layX X Γ RX0 cX0_waitOn 4 1 none := K
  unfold f_Day_waitOn at h
  refine g_aload_n (pn := 1) K rfl 0 rfl dX0_waitOn_0 ?_
  refine g_geti (pn := 4) K rfl fl_X0_130 lx_23 rfl dX0_waitOn_1 ?_
  refine g_aload_n (pn := 5) K rfl 0 rfl dX0_waitOn_4 ?_
  refine g_getr (pn := 8) (j := 24) K rfl fl_X0_12 lx_23 rfl dX0_waitOn_5 ?_
  refine g_geti (pn := 11) K rfl fl_X0_53 lx_24 rfl dX0_waitOn_8 ?_
  refine jp_e1 h (fun v1 => G layX X Γ 4 (QM layX X Γ none M') 30 [(0, .ref (X.2.2.2.1 23))] [.int v1] M) (fun v1 h => ?_) (fun j2 hj2 h => ?_)
  · refine g_istore_n (pn := 31) (lv' := [(1, .int v1), (0, .ref (X.2.2.2.1 23))]) K rfl dX0_waitOn_30 rfl (Nat.le_of_ble_eq_true rfl) rfl ?_
    refine g_iconst (pn := 32) (v := 0) K rfl ic_0 dX0_waitOn_31 ?_
    refine g_istore_n (pn := 33) (lv' := [(2, .int 0), (1, .int v1), (0, .ref (X.2.2.2.1 23))]) K rfl dX0_waitOn_32 rfl (Nat.le_of_ble_eq_true rfl) rfl ?_
    refine jp_e1 h (fun v3 => G layX X Γ 4 (QM layX X Γ none M') 91 [(0, .ref (X.2.2.2.1 23)), (1, .int v3)] [] M) (fun v3 h => ?_) (fun j4 hj4 h => ?_)
    · refine g_iload_n (pn := 92) K rfl 1 rfl dX0_waitOn_91 ?_
      refine g_aload_n (pn := 93) K rfl 0 rfl dX0_waitOn_92 ?_
      refine g_geti (pn := 96) K rfl fl_X0_115 lx_23 rfl dX0_waitOn_93 ?_
      refine g_iconst (pn := 97) (v := 1) K rfl ic_1 dX0_waitOn_96 ?_
      refine g_iadd (pn := 98) K rfl dX0_waitOn_97 ?_
      refine g_mmax (pn := 101) K rfl (by decide) mm_X0_106 mm_max_s mm_i mm_max_c (Nat.le_of_ble_eq_true rfl) dX0_waitOn_98 ?_
      refine g_nmi h (fun v5 h => ?_)
      refine g_istore_n (pn := 102) (lv' := [(1, .int v5), (0, .ref (X.2.2.2.1 23))]) K rfl dX0_waitOn_101 rfl (Nat.le_of_ble_eq_true rfl) rfl ?_
      refine g_aload_n (pn := 103) K rfl 1 rfl dX0_waitOn_102 ?_
      refine g_dup (pn := 104) K rfl rfl dX0_waitOn_103 ?_
      refine g_geti (pn := 107) K rfl fl_X0_139 lx_23 rfl dX0_waitOn_104 ?_
      refine g_iload_n (pn := 108) K rfl 0 rfl dX0_waitOn_107 ?_
      refine g_aload_n (pn := 109) K rfl 1 rfl dX0_waitOn_108 ?_
      refine g_geti (pn := 112) K rfl fl_X0_115 lx_23 rfl dX0_waitOn_109 ?_
      refine g_isub (pn := 113) K rfl dX0_waitOn_112 ?_
      refine g_iadd (pn := 114) K rfl dX0_waitOn_113 ?_
      refine g_puti (pn := 117) K rfl fp_X0_139 lx_23 rfl dX0_waitOn_114 h (fun M6 h => ?_)
      refine g_aload_n (pn := 118) K rfl 1 rfl dX0_waitOn_117 ?_
      refine g_iload_n (pn := 119) K rfl 0 rfl dX0_waitOn_118 ?_
      refine g_puti (pn := 122) K rfl fp_X0_115 lx_23 rfl dX0_waitOn_119 h (fun M7 h => ?_)
      exact g_vret K dX0_waitOn_122 (oi h)
    have LP33 : ∀ (fu10 : Nat) (v8 : Int32) (v9 : Int32), f_Day_waitOn_L33 M j4 fu10 v8 v9 = some M' → G layX X Γ 4 (QM layX X Γ none M') 33 [(0, .ref (X.2.2.2.1 23)), (1, .int v8), (2, .int v9)] [] M := by
      intro fu10
      induction fu10 with
      | zero =>
        intro v8 v9 h
        rw [f_Day_waitOn_L33] at h
        cases h
      | succ fu10 ih10 =>
        intro v8 v9 h
        rw [f_Day_waitOn_L33] at h
        refine g_iload_n (pn := 34) K rfl 2 rfl dX0_waitOn_33 ?_
        refine g_aload_n (pn := 35) K rfl 0 rfl dX0_waitOn_34 ?_
        refine g_geti (pn := 38) K rfl fl_X0_130 lx_23 rfl dX0_waitOn_35 ?_
        refine g_icmp_ge (tgt := 91) (pn := 41) K rfl (by decide) dX0_waitOn_38 h (fun h => ?_) (fun h => ?_)
        · refine g_sub [0, 1] rfl ?_
          exact hj4 _ h
        · refine g_iload_n (pn := 42) K rfl 2 rfl dX0_waitOn_41 ?_
          refine g_bipush (pn := 44) (v := 6) K rfl bp_6 dX0_waitOn_42 ?_
          refine g_icmp_ge (tgt := 91) (pn := 47) K rfl (by decide) dX0_waitOn_44 h (fun h => ?_) (fun h => ?_)
          · refine g_sub [0, 1] rfl ?_
            exact hj4 _ h
          · refine g_aload_n (pn := 48) K rfl 0 rfl dX0_waitOn_47 ?_
            refine g_getr (pn := 51) (j := 32) K rfl fl_X0_25 lx_23 rfl dX0_waitOn_48 ?_
            refine g_iload_n (pn := 52) K rfl 2 rfl dX0_waitOn_51 ?_
            refine g_iald (pn := 53) K rfl lx_32 dX0_waitOn_52 h (fun h => ?_)
            refine g_nmi h (fun v11 h => ?_)
            refine g_istore_n (pn := 54) (lv' := [(3, .int v11), (0, .ref (X.2.2.2.1 23)), (1, .int v8), (2, .int v9)]) K rfl dX0_waitOn_53 rfl (Nat.le_of_ble_eq_true rfl) rfl ?_
            refine g_aload_n (pn := 55) K rfl 1 rfl dX0_waitOn_54 ?_
            refine g_getr (pn := 58) (j := 38) K rfl fl_X0_43 lx_23 rfl dX0_waitOn_55 ?_
            refine g_iload_n (pn := 59) K rfl 0 rfl dX0_waitOn_58 ?_
            refine g_iald (pn := 60) K rfl lx_38 dX0_waitOn_59 h (fun h => ?_)
            refine g_iconst (pn := 61) (v := (-1)) K rfl ic_m1 dX0_waitOn_60 ?_
            refine g_icmp_ne (tgt := 85) (pn := 64) K rfl (by decide) dX0_waitOn_61 h (fun h => ?_) (fun h => ?_)
            · obtain ⟨v12, ev12, h⟩ := bnd_e h
              refine g_iinc (pn := 88) (v := v12) (lv' := [(2, .int v12), (3, .int v11), (0, .ref (X.2.2.2.1 23)), (1, .int v8)]) K rfl 3 rfl ii_1 ev12 dX0_waitOn_85 (Nat.le_of_ble_eq_true rfl) rfl ?_
              refine g_goto (tgt := 33) K (by decide) dX0_waitOn_88 ?_
              refine g_sub [2, 3, 0] rfl ?_
              exact ih10 _ _ h
            · refine g_iload_n (pn := 65) K rfl 2 rfl dX0_waitOn_64 ?_
              refine g_aload_n (pn := 66) K rfl 1 rfl dX0_waitOn_65 ?_
              refine g_getr (pn := 69) (j := 37) K rfl fl_X0_40 lx_23 rfl dX0_waitOn_66 ?_
              refine g_iload_n (pn := 70) K rfl 0 rfl dX0_waitOn_69 ?_
              refine g_iald (pn := 71) K rfl lx_37 dX0_waitOn_70 h (fun h => ?_)
              refine g_aload_n (pn := 72) K rfl 1 rfl dX0_waitOn_71 ?_
              refine g_getr (pn := 75) (j := 24) K rfl fl_X0_12 lx_23 rfl dX0_waitOn_72 ?_
              refine g_getr (pn := 78) (j := 25) K rfl fl_X0_86 lx_24 rfl dX0_waitOn_75 ?_
              refine g_iconst (pn := 79) (v := 5) K rfl ic_5 dX0_waitOn_78 ?_
              refine g_iald (pn := 80) K rfl lx_25 dX0_waitOn_79 h (fun h => ?_)
              refine g_isub (pn := 81) K rfl dX0_waitOn_80 ?_
              refine g_mmin (pn := 84) K rfl (by decide) mm_X0_101 mm_min_s mm_i mm_min_c (Nat.le_of_ble_eq_true rfl) dX0_waitOn_81 ?_
              refine g_nmi h (fun v13 h => ?_)
              refine g_istore_n (pn := 85) (lv' := [(1, .int v13), (3, .int v11), (0, .ref (X.2.2.2.1 23)), (2, .int v9)]) K rfl dX0_waitOn_84 rfl (Nat.le_of_ble_eq_true rfl) rfl ?_
              obtain ⟨v14, ev14, h⟩ := bnd_e h
              refine g_iinc (pn := 88) (v := v14) (lv' := [(2, .int v14), (1, .int v13), (3, .int v11), (0, .ref (X.2.2.2.1 23))]) K rfl 3 rfl ii_1 ev14 dX0_waitOn_85 (Nat.le_of_ble_eq_true rfl) rfl ?_
              refine g_goto (tgt := 33) K (by decide) dX0_waitOn_88 ?_
              refine g_sub [3, 1, 0] rfl ?_
              exact ih10 _ _ h
    refine g_sub [2, 1, 0] rfl ?_
    exact LP33 FU _ _ h
  refine g_icmp_ge (tgt := 27) (pn := 14) K rfl (by decide) dX0_waitOn_11 h (fun h => ?_) (fun h => ?_)
  · refine g_sipush (pn := 30) (v := 4000) K rfl sp_4000 dX0_waitOn_27 ?_
    exact hj2 _ h
  · refine g_sipush (pn := 17) (v := 4000) K rfl sp_4000 dX0_waitOn_14 ?_
    refine g_aload_n (pn := 18) K rfl 0 rfl dX0_waitOn_17 ?_
    obtain ⟨v16, hc15, h⟩ := ob_e h
    refine g_callV1 (pn := 21) (As := []) (rest := [.int 4000]) (a := 23) K rfl (d' := 0) (Nat.le_of_ble_eq_true rfl) mv_X0_145 (recvO K lx_23 rfl) (w_f_Day_nextBegins hc15) rfl rfl (Nat.le_of_ble_eq_true rfl) dX0_waitOn_18 ?_
    refine g_mmin (pn := 24) K rfl (by decide) mm_X0_101 mm_min_s mm_i mm_min_c (Nat.le_of_ble_eq_true rfl) dX0_waitOn_21 ?_
    refine g_goto (tgt := 30) K (by decide) dX0_waitOn_24 ?_
    exact hj2 _ h
set_option maxHeartbeats 4000000 in
set_option maxRecDepth 20000 in
theorem w_f_Day_live {X : XT} {M : Mem}  {M' : Mem}   (h : f_Day_live M = some M') : CT layX X 4 yX0_live cX0_live 3 none [.ref (X.2.2.2.1 23)] M M' none := by
  refine CT.of rfl (Nat.le_of_ble_eq_true rfl) (lv := [(0, .ref (X.2.2.2.1 23))]) rfl (fun Γ K => ?_)
  have K : Kx layX X Γ RX0 cX0_live 3 4 none := K
  unfold f_Day_live at h
  refine g_aload_n (pn := 1) K rfl 0 rfl dX0_live_0 ?_
  obtain ⟨M2, hc1, h⟩ := ob_e h
  refine g_callV0 (pn := 4) (As := []) (rest := []) (a := 23) K rfl (d' := 0) (Nat.le_of_ble_eq_true rfl) mv_X0_109 (recvO K lx_23 rfl) (w_f_Day_dawn hc1) rfl rfl (Nat.le_of_ble_eq_true rfl) dX0_live_1 ?_
  refine g_iconst (pn := 5) (v := 0) K rfl ic_0 dX0_live_4 ?_
  refine g_istore_n (pn := 6) (lv' := [(1, .int 0), (0, .ref (X.2.2.2.1 23))]) K rfl dX0_live_5 rfl (Nat.le_of_ble_eq_true rfl) rfl ?_
  refine jp_e1 h (fun M3 => G layX X Γ 3 (QM layX X Γ none M') 88 [] [] M3) (fun M3 h => ?_) (fun j4 hj4 h => ?_)
  · exact g_vret K dX0_live_88 (oi h)
  have LP6 : ∀ (fu7 : Nat) (v5 : Int32) (M6 : Mem), f_Day_live_L6 j4 fu7 v5 M6 = some M' → G layX X Γ 3 (QM layX X Γ none M') 6 [(0, .ref (X.2.2.2.1 23)), (1, .int v5)] [] M6 := by
    intro fu7
    induction fu7 with
    | zero =>
      intro v5 M6 h
      rw [f_Day_live_L6] at h
      cases h
    | succ fu7 ih7 =>
      intro v5 M6 h
      rw [f_Day_live_L6] at h
      refine g_iload_n (pn := 7) K rfl 1 rfl dX0_live_6 ?_
      refine g_sipush (pn := 10) (v := 4000) K rfl sp_4000 dX0_live_7 ?_
      refine g_icmp_ge (tgt := 88) (pn := 13) K rfl (by decide) dX0_live_10 h (fun h => ?_) (fun h => ?_)
      · refine g_sub [] rfl ?_
        exact hj4 _ h
      · refine g_aload_n (pn := 14) K rfl 0 rfl dX0_live_13 ?_
        refine g_geti (pn := 17) K rfl fl_X0_112 lx_23 rfl dX0_live_14 ?_
        refine g_aload_n (pn := 18) K rfl 0 rfl dX0_live_17 ?_
        refine g_getr (pn := 21) (j := 24) K rfl fl_X0_12 lx_23 rfl dX0_live_18 ?_
        refine g_geti (pn := 24) K rfl fl_X0_53 lx_24 rfl dX0_live_21 ?_
        refine g_icmp_ge (tgt := 88) (pn := 27) K rfl (by decide) dX0_live_24 h (fun h => ?_) (fun h => ?_)
        · refine g_sub [] rfl ?_
          exact hj4 _ h
        · refine g_aload_n (pn := 28) K rfl 0 rfl dX0_live_27 ?_
          refine g_geti (pn := 31) K rfl fl_X0_115 lx_23 rfl dX0_live_28 ?_
          refine g_sipush (pn := 34) (v := 4000) K rfl sp_4000 dX0_live_31 ?_
          refine g_icmp_ge (tgt := 88) (pn := 37) K rfl (by decide) dX0_live_34 h (fun h => ?_) (fun h => ?_)
          · refine g_sub [] rfl ?_
            exact hj4 _ h
          · refine g_aload_n (pn := 38) K rfl 0 rfl dX0_live_37 ?_
            obtain ⟨v9, hc8, h⟩ := ob_e h
            refine g_callV1 (pn := 41) (As := []) (rest := []) (a := 23) K rfl (d' := 0) (Nat.le_of_ble_eq_true rfl) mv_X0_118 (recvO K lx_23 rfl) (w_f_Day_firstRipe hc8) rfl rfl (Nat.le_of_ble_eq_true rfl) dX0_live_38 ?_
            refine g_istore_n (pn := 42) (lv' := [(2, .int v9), (0, .ref (X.2.2.2.1 23)), (1, .int v5)]) K rfl dX0_live_41 rfl (Nat.le_of_ble_eq_true rfl) rfl ?_
            refine g_iload_n (pn := 43) K rfl 0 rfl dX0_live_42 ?_
            refine g_iconst (pn := 44) (v := (-1)) K rfl ic_m1 dX0_live_43 ?_
            refine g_icmp_eq (tgt := 55) (pn := 47) K rfl (by decide) dX0_live_44 h (fun h => ?_) (fun h => ?_)
            · refine g_aload_n (pn := 56) K rfl 1 rfl dX0_live_55 ?_
              obtain ⟨v11, hc10, h⟩ := ob_e h
              refine g_callV1 (pn := 59) (As := []) (rest := []) (a := 23) K rfl (d' := 1) (Nat.le_of_ble_eq_true rfl) mv_X0_126 (recvO K lx_23 rfl) (w_f_Day_mayBegin hc10) rfl rfl (Nat.le_of_ble_eq_true rfl) dX0_live_56 ?_
              refine g_ifB_eq (tgt := 78) (pn := 62) K rfl (by decide) dX0_live_59 h (fun h => ?_) (fun h => ?_)
              · refine g_aload_n (pn := 79) K rfl 1 rfl dX0_live_78 ?_
                obtain ⟨M13, hc12, h⟩ := ob_e h
                refine g_callV0 (pn := 82) (As := []) (rest := []) (a := 23) K rfl (d' := 1) (Nat.le_of_ble_eq_true rfl) mv_X0_136 (recvO K lx_23 rfl) (w_f_Day_waitOn hc12) rfl rfl (Nat.le_of_ble_eq_true rfl) dX0_live_79 ?_
                obtain ⟨v14, ev14, h⟩ := bnd_e h
                refine g_iinc (pn := 85) (v := v14) (lv' := [(1, .int v14), (2, .int v9), (0, .ref (X.2.2.2.1 23))]) K rfl 2 rfl ii_1 ev14 dX0_live_82 (Nat.le_of_ble_eq_true rfl) rfl ?_
                refine g_goto (tgt := 6) K (by decide) dX0_live_85 ?_
                refine g_sub [2, 0] rfl ?_
                exact ih7 _ _ h
              · refine g_aload_n (pn := 63) K rfl 1 rfl dX0_live_62 ?_
                refine g_aload_n (pn := 64) K rfl 1 rfl dX0_live_63 ?_
                refine g_getr (pn := 67) (j := 32) K rfl fl_X0_25 lx_23 rfl dX0_live_64 ?_
                refine g_aload_n (pn := 68) K rfl 1 rfl dX0_live_67 ?_
                refine g_geti (pn := 71) K rfl fl_X0_130 lx_23 rfl dX0_live_68 ?_
                refine g_iald (pn := 72) K rfl lx_32 dX0_live_71 h (fun h => ?_)
                obtain ⟨M16, hc15, h⟩ := ob_e h
                refine g_callV0 (pn := 75) (As := [.int (M6 32 (M6 23 12).toNatClampNeg)]) (rest := []) (a := 23) K rfl (d' := 1) (Nat.le_of_ble_eq_true rfl) mv_X0_133 (recvO K lx_23 rfl) (w_f_Day_begin hc15) rfl rfl (Nat.le_of_ble_eq_true rfl) dX0_live_72 ?_
                refine g_goto (tgt := 82) K (by decide) dX0_live_75 ?_
                obtain ⟨v17, ev17, h⟩ := bnd_e h
                refine g_iinc (pn := 85) (v := v17) (lv' := [(1, .int v17), (2, .int v9), (0, .ref (X.2.2.2.1 23))]) K rfl 2 rfl ii_1 ev17 dX0_live_82 (Nat.le_of_ble_eq_true rfl) rfl ?_
                refine g_goto (tgt := 6) K (by decide) dX0_live_85 ?_
                refine g_sub [2, 0] rfl ?_
                exact ih7 _ _ h
            · refine g_aload_n (pn := 48) K rfl 1 rfl dX0_live_47 ?_
              refine g_iload_n (pn := 49) K rfl 0 rfl dX0_live_48 ?_
              obtain ⟨M19, hc18, h⟩ := ob_e h
              refine g_callV0 (pn := 52) (As := [.int v9]) (rest := []) (a := 23) K rfl (d' := 3) (Nat.le_of_ble_eq_true rfl) mv_X0_122 (recvO K lx_23 rfl) (w_f_Day_trowel hc18) rfl rfl (Nat.le_of_ble_eq_true rfl) dX0_live_49 ?_
              refine g_goto (tgt := 82) K (by decide) dX0_live_52 ?_
              obtain ⟨v20, ev20, h⟩ := bnd_e h
              refine g_iinc (pn := 85) (v := v20) (lv' := [(1, .int v20), (2, .int v9), (0, .ref (X.2.2.2.1 23))]) K rfl 2 rfl ii_1 ev20 dX0_live_82 (Nat.le_of_ble_eq_true rfl) rfl ?_
              refine g_goto (tgt := 6) K (by decide) dX0_live_85 ?_
              refine g_sub [2, 0] rfl ?_
              exact ih7 _ _ h
  refine g_sub [1, 0] rfl ?_
  exact LP6 FU _ _ h
set_option maxHeartbeats 4000000 in
set_option maxRecDepth 20000 in
theorem w_f_Day_late {X : XT} {M : Mem}  {r : Int32}   (h : f_Day_late M = some r) : CT layX X 0 yX0_late cX0_late 3 (some .int) [.ref (X.2.2.2.1 23)] M M (some (.int r)) := by
  refine CT.of rfl (Nat.le_of_ble_eq_true rfl) (lv := [(0, .ref (X.2.2.2.1 23))]) rfl (fun Γ K => ?_)
  have K : Kx layX X Γ RX0 cX0_late 3 0 (some .int) := K
  unfold f_Day_late at h
  refine g_iconst (pn := 1) (v := 0) K rfl ic_0 dX0_late_0 ?_
  refine g_istore_n (pn := 2) (lv' := [(1, .int 0), (0, .ref (X.2.2.2.1 23))]) K rfl dX0_late_1 rfl (Nat.le_of_ble_eq_true rfl) rfl ?_
  refine g_iconst (pn := 3) (v := 0) K rfl ic_0 dX0_late_2 ?_
  refine g_istore_n (pn := 4) (lv' := [(2, .int 0), (1, .int 0), (0, .ref (X.2.2.2.1 23))]) K rfl dX0_late_3 rfl (Nat.le_of_ble_eq_true rfl) rfl ?_
  refine jp_e1 h (fun v1 => G layX X Γ 3 (QM layX X Γ (some (.int r)) M) 35 [(1, .int v1)] [] M) (fun v1 h => ?_) (fun j2 hj2 h => ?_)
  · refine g_iload_n (pn := 36) K rfl 0 rfl dX0_late_35 ?_
    exact g_iret K dX0_late_36 (oi h) rfl
  have LP4 : ∀ (fu5 : Nat) (v3 : Int32) (v4 : Int32), f_Day_late_L4 M j2 fu5 v3 v4 = some r → G layX X Γ 3 (QM layX X Γ (some (.int r)) M) 4 [(0, .ref (X.2.2.2.1 23)), (1, .int v3), (2, .int v4)] [] M := by
    intro fu5
    induction fu5 with
    | zero =>
      intro v3 v4 h
      rw [f_Day_late_L4] at h
      cases h
    | succ fu5 ih5 =>
      intro v3 v4 h
      rw [f_Day_late_L4] at h
      refine g_iload_n (pn := 5) K rfl 2 rfl dX0_late_4 ?_
      refine g_bipush (pn := 7) (v := 6) K rfl bp_6 dX0_late_5 ?_
      refine g_icmp_ge (tgt := 35) (pn := 10) K rfl (by decide) dX0_late_7 h (fun h => ?_) (fun h => ?_)
      · refine g_sub [1] rfl ?_
        exact hj2 _ h
      · refine g_iload_n (pn := 11) K rfl 1 rfl dX0_late_10 ?_
        refine g_aload_n (pn := 12) K rfl 0 rfl dX0_late_11 ?_
        refine g_getr (pn := 15) (j := 39) K rfl fl_X0_46 lx_23 rfl dX0_late_12 ?_
        refine g_iload_n (pn := 16) K rfl 2 rfl dX0_late_15 ?_
        refine g_iald (pn := 17) K rfl lx_39 dX0_late_16 h (fun h => ?_)
        refine jp_e1 h (fun v6 => G layX X Γ 3 (QM layX X Γ (some (.int r)) M) 27 [(0, .ref (X.2.2.2.1 23)), (2, .int v4)] [.int v6, .int v3] M) (fun v6 h => ?_) (fun j7 hj7 h => ?_)
        · refine g_ior (pn := 28) K rfl dX0_late_27 ?_
          refine g_nmi h (fun v8 h => ?_)
          refine g_istore_n (pn := 29) (lv' := [(1, .int v8), (0, .ref (X.2.2.2.1 23)), (2, .int v4)]) K rfl dX0_late_28 rfl (Nat.le_of_ble_eq_true rfl) rfl ?_
          obtain ⟨v9, ev9, h⟩ := bnd_e h
          refine g_iinc (pn := 32) (v := v9) (lv' := [(2, .int v9), (1, .int v8), (0, .ref (X.2.2.2.1 23))]) K rfl 2 rfl ii_1 ev9 dX0_late_29 (Nat.le_of_ble_eq_true rfl) rfl ?_
          refine g_goto (tgt := 4) K (by decide) dX0_late_32 ?_
          refine g_sub [2, 1, 0] rfl ?_
          exact ih5 _ _ h
        refine g_if_le (tgt := 26) (pn := 20) K rfl (by decide) dX0_late_17 h (fun h => ?_) (fun h => ?_)
        · refine g_iconst (pn := 27) (v := 0) K rfl ic_0 dX0_late_26 ?_
          refine g_sub [0, 2] rfl ?_
          exact hj7 _ h
        · refine g_iconst (pn := 21) (v := 1) K rfl ic_1 dX0_late_20 ?_
          refine g_iload_n (pn := 22) K rfl 2 rfl dX0_late_21 ?_
          refine g_ishl (pn := 23) K rfl dX0_late_22 ?_
          refine g_goto (tgt := 27) K (by decide) dX0_late_23 ?_
          refine g_sub [0, 2] rfl ?_
          exact hj7 _ h
  refine g_sub [2, 1, 0] rfl ?_
  exact LP4 FU _ _ h
set_option maxHeartbeats 4000000 in
set_option maxRecDepth 20000 in
theorem w_f_Day_early {X : XT} {M : Mem}  {r : Int32}   (h : f_Day_early M = some r) : CT layX X 0 yX0_early cX0_early 3 (some .int) [.ref (X.2.2.2.1 23)] M M (some (.int r)) := by
  refine CT.of rfl (Nat.le_of_ble_eq_true rfl) (lv := [(0, .ref (X.2.2.2.1 23))]) rfl (fun Γ K => ?_)
  have K : Kx layX X Γ RX0 cX0_early 3 0 (some .int) := K
  unfold f_Day_early at h
  refine g_iconst (pn := 1) (v := 0) K rfl ic_0 dX0_early_0 ?_
  refine g_istore_n (pn := 2) (lv' := [(1, .int 0), (0, .ref (X.2.2.2.1 23))]) K rfl dX0_early_1 rfl (Nat.le_of_ble_eq_true rfl) rfl ?_
  refine g_iconst (pn := 3) (v := 0) K rfl ic_0 dX0_early_2 ?_
  refine g_istore_n (pn := 4) (lv' := [(2, .int 0), (1, .int 0), (0, .ref (X.2.2.2.1 23))]) K rfl dX0_early_3 rfl (Nat.le_of_ble_eq_true rfl) rfl ?_
  refine jp_e1 h (fun v1 => G layX X Γ 3 (QM layX X Γ (some (.int r)) M) 35 [(1, .int v1)] [] M) (fun v1 h => ?_) (fun j2 hj2 h => ?_)
  · refine g_iload_n (pn := 36) K rfl 0 rfl dX0_early_35 ?_
    exact g_iret K dX0_early_36 (oi h) rfl
  have LP4 : ∀ (fu5 : Nat) (v3 : Int32) (v4 : Int32), f_Day_early_L4 M j2 fu5 v3 v4 = some r → G layX X Γ 3 (QM layX X Γ (some (.int r)) M) 4 [(0, .ref (X.2.2.2.1 23)), (1, .int v3), (2, .int v4)] [] M := by
    intro fu5
    induction fu5 with
    | zero =>
      intro v3 v4 h
      rw [f_Day_early_L4] at h
      cases h
    | succ fu5 ih5 =>
      intro v3 v4 h
      rw [f_Day_early_L4] at h
      refine g_iload_n (pn := 5) K rfl 2 rfl dX0_early_4 ?_
      refine g_bipush (pn := 7) (v := 6) K rfl bp_6 dX0_early_5 ?_
      refine g_icmp_ge (tgt := 35) (pn := 10) K rfl (by decide) dX0_early_7 h (fun h => ?_) (fun h => ?_)
      · refine g_sub [1] rfl ?_
        exact hj2 _ h
      · refine g_iload_n (pn := 11) K rfl 1 rfl dX0_early_10 ?_
        refine g_aload_n (pn := 12) K rfl 0 rfl dX0_early_11 ?_
        refine g_getr (pn := 15) (j := 39) K rfl fl_X0_46 lx_23 rfl dX0_early_12 ?_
        refine g_iload_n (pn := 16) K rfl 2 rfl dX0_early_15 ?_
        refine g_iald (pn := 17) K rfl lx_39 dX0_early_16 h (fun h => ?_)
        refine jp_e1 h (fun v6 => G layX X Γ 3 (QM layX X Γ (some (.int r)) M) 27 [(0, .ref (X.2.2.2.1 23)), (2, .int v4)] [.int v6, .int v3] M) (fun v6 h => ?_) (fun j7 hj7 h => ?_)
        · refine g_ior (pn := 28) K rfl dX0_early_27 ?_
          refine g_nmi h (fun v8 h => ?_)
          refine g_istore_n (pn := 29) (lv' := [(1, .int v8), (0, .ref (X.2.2.2.1 23)), (2, .int v4)]) K rfl dX0_early_28 rfl (Nat.le_of_ble_eq_true rfl) rfl ?_
          obtain ⟨v9, ev9, h⟩ := bnd_e h
          refine g_iinc (pn := 32) (v := v9) (lv' := [(2, .int v9), (1, .int v8), (0, .ref (X.2.2.2.1 23))]) K rfl 2 rfl ii_1 ev9 dX0_early_29 (Nat.le_of_ble_eq_true rfl) rfl ?_
          refine g_goto (tgt := 4) K (by decide) dX0_early_32 ?_
          refine g_sub [2, 1, 0] rfl ?_
          exact ih5 _ _ h
        refine g_if_ge (tgt := 26) (pn := 20) K rfl (by decide) dX0_early_17 h (fun h => ?_) (fun h => ?_)
        · refine g_iconst (pn := 27) (v := 0) K rfl ic_0 dX0_early_26 ?_
          refine g_sub [0, 2] rfl ?_
          exact hj7 _ h
        · refine g_iconst (pn := 21) (v := 1) K rfl ic_1 dX0_early_20 ?_
          refine g_iload_n (pn := 22) K rfl 2 rfl dX0_early_21 ?_
          refine g_ishl (pn := 23) K rfl dX0_early_22 ?_
          refine g_goto (tgt := 27) K (by decide) dX0_early_23 ?_
          refine g_sub [0, 2] rfl ?_
          exact hj7 _ h
  refine g_sub [2, 1, 0] rfl ?_
  exact LP4 FU _ _ h
set_option maxHeartbeats 4000000 in
set_option maxRecDepth 20000 in
theorem w_f_Day_unlike {X : XT} {M : Mem} {t1 : Nat} {r : Int32} (ht1 : isSheet t1)  (h : f_Day_unlike M t1 = some r) : CT layX X 0 yX0_unlike cX0_unlike 4 (some .int) [.ref (X.2.2.2.1 23), .ref (X.2.2.2.1 t1)] M M (some (.int r)) := by
  refine CT.of rfl (Nat.le_of_ble_eq_true rfl) (lv := [(0, .ref (X.2.2.2.1 23)), (1, .ref (X.2.2.2.1 t1))]) rfl (fun Γ K => ?_)
  have K : Kx layX X Γ RX0 cX0_unlike 4 0 (some .int) := K
  unfold f_Day_unlike at h
  refine g_iconst (pn := 1) (v := 0) K rfl ic_0 dX0_unlike_0 ?_
  refine g_istore_n (pn := 2) (lv' := [(2, .int 0), (0, .ref (X.2.2.2.1 23)), (1, .ref (X.2.2.2.1 t1))]) K rfl dX0_unlike_1 rfl (Nat.le_of_ble_eq_true rfl) rfl ?_
  refine g_iconst (pn := 3) (v := 0) K rfl ic_0 dX0_unlike_2 ?_
  refine g_istore_n (pn := 4) (lv' := [(3, .int 0), (2, .int 0), (0, .ref (X.2.2.2.1 23)), (1, .ref (X.2.2.2.1 t1))]) K rfl dX0_unlike_3 rfl (Nat.le_of_ble_eq_true rfl) rfl ?_
  refine jp_e1 h (fun v1 => G layX X Γ 4 (QM layX X Γ (some (.int r)) M) 52 [(2, .int v1)] [] M) (fun v1 h => ?_) (fun j2 hj2 h => ?_)
  · refine g_iload_n (pn := 53) K rfl 0 rfl dX0_unlike_52 ?_
    exact g_iret K dX0_unlike_53 (oi h) rfl
  have LP4 : ∀ (fu5 : Nat) (v3 : Int32) (v4 : Int32), f_Day_unlike_L4 M t1 j2 fu5 v3 v4 = some r → G layX X Γ 4 (QM layX X Γ (some (.int r)) M) 4 [(0, .ref (X.2.2.2.1 23)), (1, .ref (X.2.2.2.1 t1)), (2, .int v3), (3, .int v4)] [] M := by
    intro fu5
    induction fu5 with
    | zero =>
      intro v3 v4 h
      rw [f_Day_unlike_L4] at h
      cases h
    | succ fu5 ih5 =>
      intro v3 v4 h
      rw [f_Day_unlike_L4] at h
      refine g_iload_n (pn := 5) K rfl 3 rfl dX0_unlike_4 ?_
      refine g_aload_n (pn := 6) K rfl 0 rfl dX0_unlike_5 ?_
      refine g_getr (pn := 9) (j := 24) K rfl fl_X0_12 lx_23 rfl dX0_unlike_6 ?_
      refine g_geti (pn := 12) K rfl fl_X0_53 lx_24 rfl dX0_unlike_9 ?_
      refine g_icmp_ge (tgt := 52) (pn := 15) K rfl (by decide) dX0_unlike_12 h (fun h => ?_) (fun h => ?_)
      · refine g_sub [2] rfl ?_
        exact hj2 _ h
      · refine g_iload_n (pn := 16) K rfl 3 rfl dX0_unlike_15 ?_
        refine g_bipush (pn := 18) (v := 6) K rfl bp_6 dX0_unlike_16 ?_
        refine g_icmp_ge (tgt := 52) (pn := 21) K rfl (by decide) dX0_unlike_18 h (fun h => ?_) (fun h => ?_)
        · refine g_sub [2] rfl ?_
          exact hj2 _ h
        · refine g_iload_n (pn := 22) K rfl 2 rfl dX0_unlike_21 ?_
          refine g_aload_n (pn := 23) K rfl 0 rfl dX0_unlike_22 ?_
          refine g_getr (pn := 26) (j := 38) K rfl fl_X0_43 lx_23 rfl dX0_unlike_23 ?_
          refine g_iload_n (pn := 27) K rfl 3 rfl dX0_unlike_26 ?_
          refine g_iald (pn := 28) K rfl lx_38 dX0_unlike_27 h (fun h => ?_)
          refine g_aload_n (pn := 29) K rfl 1 rfl dX0_unlike_28 ?_
          refine g_getr (pn := 32) (j := (t1 + 1)) K rfl fl_X0_148 (lxSheet ht1) rfl dX0_unlike_29 ?_
          refine g_iload_n (pn := 33) K rfl 3 rfl dX0_unlike_32 ?_
          refine g_iald (pn := 34) K rfl (lxSheet1 ht1) dX0_unlike_33 h (fun h => ?_)
          refine jp_e1 h (fun v6 => G layX X Γ 4 (QM layX X Γ (some (.int r)) M) 44 [(0, .ref (X.2.2.2.1 23)), (1, .ref (X.2.2.2.1 t1)), (3, .int v4)] [.int v6, .int v3] M) (fun v6 h => ?_) (fun j7 hj7 h => ?_)
          · refine g_ior (pn := 45) K rfl dX0_unlike_44 ?_
            refine g_nmi h (fun v8 h => ?_)
            refine g_istore_n (pn := 46) (lv' := [(2, .int v8), (0, .ref (X.2.2.2.1 23)), (1, .ref (X.2.2.2.1 t1)), (3, .int v4)]) K rfl dX0_unlike_45 rfl (Nat.le_of_ble_eq_true rfl) rfl ?_
            obtain ⟨v9, ev9, h⟩ := bnd_e h
            refine g_iinc (pn := 49) (v := v9) (lv' := [(3, .int v9), (2, .int v8), (0, .ref (X.2.2.2.1 23)), (1, .ref (X.2.2.2.1 t1))]) K rfl 3 rfl ii_1 ev9 dX0_unlike_46 (Nat.le_of_ble_eq_true rfl) rfl ?_
            refine g_goto (tgt := 4) K (by decide) dX0_unlike_49 ?_
            refine g_sub [2, 3, 1, 0] rfl ?_
            exact ih5 _ _ h
          refine g_icmp_eq (tgt := 43) (pn := 37) K rfl (by decide) dX0_unlike_34 h (fun h => ?_) (fun h => ?_)
          · refine g_iconst (pn := 44) (v := 0) K rfl ic_0 dX0_unlike_43 ?_
            refine g_sub [0, 1, 3] rfl ?_
            exact hj7 _ h
          · refine g_iconst (pn := 38) (v := 1) K rfl ic_1 dX0_unlike_37 ?_
            refine g_iload_n (pn := 39) K rfl 3 rfl dX0_unlike_38 ?_
            refine g_ishl (pn := 40) K rfl dX0_unlike_39 ?_
            refine g_goto (tgt := 44) K (by decide) dX0_unlike_40 ?_
            refine g_sub [0, 1, 3] rfl ?_
            exact hj7 _ h
  refine g_sub [2, 3, 1, 0] rfl ?_
  exact LP4 FU _ _ h
set_option maxHeartbeats 4000000 in
set_option maxRecDepth 20000 in
theorem w_f_Day_rowAsDigits {X : XT} {M : Mem}  {r : Int32}   (h : f_Day_rowAsDigits M = some r) : CT layX X 0 yX0_rowAsDigits cX0_rowAsDigits 3 (some .int) [.ref (X.2.2.2.1 23)] M M (some (.int r)) := by
  refine CT.of rfl (Nat.le_of_ble_eq_true rfl) (lv := [(0, .ref (X.2.2.2.1 23))]) rfl (fun Γ K => ?_)
  have K : Kx layX X Γ RX0 cX0_rowAsDigits 3 0 (some .int) := K
  unfold f_Day_rowAsDigits at h
  refine g_iconst (pn := 1) (v := 0) K rfl ic_0 dX0_rowAsDigits_0 ?_
  refine g_istore_n (pn := 2) (lv' := [(1, .int 0), (0, .ref (X.2.2.2.1 23))]) K rfl dX0_rowAsDigits_1 rfl (Nat.le_of_ble_eq_true rfl) rfl ?_
  refine g_iconst (pn := 3) (v := 0) K rfl ic_0 dX0_rowAsDigits_2 ?_
  refine g_istore_n (pn := 4) (lv' := [(2, .int 0), (1, .int 0), (0, .ref (X.2.2.2.1 23))]) K rfl dX0_rowAsDigits_3 rfl (Nat.le_of_ble_eq_true rfl) rfl ?_
  refine jp_e1 h (fun v1 => G layX X Γ 3 (QM layX X Γ (some (.int r)) M) 41 [(1, .int v1)] [] M) (fun v1 h => ?_) (fun j2 hj2 h => ?_)
  · refine g_iload_n (pn := 42) K rfl 0 rfl dX0_rowAsDigits_41 ?_
    exact g_iret K dX0_rowAsDigits_42 (oi h) rfl
  have LP4 : ∀ (fu5 : Nat) (v3 : Int32) (v4 : Int32), f_Day_rowAsDigits_L4 M j2 fu5 v3 v4 = some r → G layX X Γ 3 (QM layX X Γ (some (.int r)) M) 4 [(0, .ref (X.2.2.2.1 23)), (1, .int v3), (2, .int v4)] [] M := by
    intro fu5
    induction fu5 with
    | zero =>
      intro v3 v4 h
      rw [f_Day_rowAsDigits_L4] at h
      cases h
    | succ fu5 ih5 =>
      intro v3 v4 h
      rw [f_Day_rowAsDigits_L4] at h
      refine g_iload_n (pn := 5) K rfl 2 rfl dX0_rowAsDigits_4 ?_
      refine g_aload_n (pn := 6) K rfl 0 rfl dX0_rowAsDigits_5 ?_
      refine g_getr (pn := 9) (j := 24) K rfl fl_X0_12 lx_23 rfl dX0_rowAsDigits_6 ?_
      refine g_geti (pn := 12) K rfl fl_X0_53 lx_24 rfl dX0_rowAsDigits_9 ?_
      refine g_icmp_ge (tgt := 41) (pn := 15) K rfl (by decide) dX0_rowAsDigits_12 h (fun h => ?_) (fun h => ?_)
      · refine g_sub [1] rfl ?_
        exact hj2 _ h
      · refine g_iload_n (pn := 16) K rfl 2 rfl dX0_rowAsDigits_15 ?_
        refine g_bipush (pn := 18) (v := 6) K rfl bp_6 dX0_rowAsDigits_16 ?_
        refine g_icmp_ge (tgt := 41) (pn := 21) K rfl (by decide) dX0_rowAsDigits_18 h (fun h => ?_) (fun h => ?_)
        · refine g_sub [1] rfl ?_
          exact hj2 _ h
        · refine g_iload_n (pn := 22) K rfl 1 rfl dX0_rowAsDigits_21 ?_
          refine g_bipush (pn := 24) (v := 10) K rfl bp_10 dX0_rowAsDigits_22 ?_
          refine g_imul (pn := 25) K rfl dX0_rowAsDigits_24 ?_
          refine g_aload_n (pn := 26) K rfl 0 rfl dX0_rowAsDigits_25 ?_
          refine g_getr (pn := 29) (j := 32) K rfl fl_X0_25 lx_23 rfl dX0_rowAsDigits_26 ?_
          refine g_iload_n (pn := 30) K rfl 2 rfl dX0_rowAsDigits_29 ?_
          refine g_iald (pn := 31) K rfl lx_32 dX0_rowAsDigits_30 h (fun h => ?_)
          refine g_iadd (pn := 32) K rfl dX0_rowAsDigits_31 ?_
          refine g_iconst (pn := 33) (v := 1) K rfl ic_1 dX0_rowAsDigits_32 ?_
          refine g_iadd (pn := 34) K rfl dX0_rowAsDigits_33 ?_
          refine g_nmi h (fun v6 h => ?_)
          refine g_istore_n (pn := 35) (lv' := [(1, .int v6), (0, .ref (X.2.2.2.1 23)), (2, .int v4)]) K rfl dX0_rowAsDigits_34 rfl (Nat.le_of_ble_eq_true rfl) rfl ?_
          obtain ⟨v7, ev7, h⟩ := bnd_e h
          refine g_iinc (pn := 38) (v := v7) (lv' := [(2, .int v7), (1, .int v6), (0, .ref (X.2.2.2.1 23))]) K rfl 2 rfl ii_1 ev7 dX0_rowAsDigits_35 (Nat.le_of_ble_eq_true rfl) rfl ?_
          refine g_goto (tgt := 4) K (by decide) dX0_rowAsDigits_38 ?_
          refine g_sub [2, 1, 0] rfl ?_
          exact ih5 _ _ h
  refine g_sub [2, 1, 0] rfl ?_
  exact LP4 FU _ _ h
set_option maxHeartbeats 4000000 in
set_option maxRecDepth 20000 in
theorem w_f_Day_nextRow {X : XT} {M : Mem}  {M' : Mem} {r : Bool}   (h : f_Day_nextRow M = some (M', r)) : CT layX X 1 yX0_nextRow cX0_nextRow 6 (some .boolean) [.ref (X.2.2.2.1 23)] M M' (some (.int (b2i r))) := by
  refine CT.of rfl (Nat.le_of_ble_eq_true rfl) (lv := [(0, .ref (X.2.2.2.1 23))]) rfl (fun Γ K => ?_)
  have K : Kx layX X Γ RX0 cX0_nextRow 6 1 (some .boolean) := K
  unfold f_Day_nextRow at h
  refine g_aload_n (pn := 1) K rfl 0 rfl dX0_nextRow_0 ?_
  refine g_getr (pn := 4) (j := 24) K rfl fl_X0_12 lx_23 rfl dX0_nextRow_1 ?_
  refine g_geti (pn := 7) K rfl fl_X0_53 lx_24 rfl dX0_nextRow_4 ?_
  refine g_bipush (pn := 9) (v := 6) K rfl bp_6 dX0_nextRow_7 ?_
  refine g_mmin (pn := 12) K rfl (by decide) mm_X0_101 mm_min_s mm_i mm_min_c (Nat.le_of_ble_eq_true rfl) dX0_nextRow_9 ?_
  refine g_nmi h (fun v1 h => ?_)
  refine g_istore_n (pn := 13) (lv' := [(1, .int v1), (0, .ref (X.2.2.2.1 23))]) K rfl dX0_nextRow_12 rfl (Nat.le_of_ble_eq_true rfl) rfl ?_
  refine g_iload_n (pn := 14) K rfl 0 rfl dX0_nextRow_13 ?_
  refine g_iconst (pn := 15) (v := 2) K rfl ic_2 dX0_nextRow_14 ?_
  refine g_isub (pn := 16) K rfl dX0_nextRow_15 ?_
  refine g_nmi h (fun v2 h => ?_)
  refine g_istore_n (pn := 17) (lv' := [(2, .int v2), (1, .int v1), (0, .ref (X.2.2.2.1 23))]) K rfl dX0_nextRow_16 rfl (Nat.le_of_ble_eq_true rfl) rfl ?_
  refine jp_e1 h (fun v3 => G layX X Γ 6 (QM layX X Γ (some (.int (b2i r))) M') 44 [(1, .int v1), (0, .ref (X.2.2.2.1 23)), (2, .int v3)] [] M) (fun v3 h => ?_) (fun j4 hj4 h => ?_)
  · refine g_iload_n (pn := 45) K rfl 2 rfl dX0_nextRow_44 ?_
    refine g_if_ge (tgt := 50) (pn := 48) K rfl (by decide) dX0_nextRow_45 h (fun h => ?_) (fun h => ?_)
    · refine g_iload_n (pn := 51) K rfl 0 rfl dX0_nextRow_50 ?_
      refine g_iconst (pn := 52) (v := 1) K rfl ic_1 dX0_nextRow_51 ?_
      refine g_isub (pn := 53) K rfl dX0_nextRow_52 ?_
      refine g_nmi h (fun v5 h => ?_)
      refine g_istore_n (pn := 54) (lv' := [(3, .int v5), (1, .int v1), (0, .ref (X.2.2.2.1 23)), (2, .int v3)]) K rfl dX0_nextRow_53 rfl (Nat.le_of_ble_eq_true rfl) rfl ?_
      refine jp_e1 h (fun v6 => G layX X Γ 6 (QM layX X Γ (some (.int (b2i r))) M') 80 [(1, .int v1), (0, .ref (X.2.2.2.1 23)), (2, .int v3), (3, .int v6)] [] M) (fun v6 h => ?_) (fun j7 hj7 h => ?_)
      · refine g_aload_n (pn := 81) K rfl 1 rfl dX0_nextRow_80 ?_
        refine g_iload_n (pn := 82) K rfl 2 rfl dX0_nextRow_81 ?_
        refine g_iload_n (pn := 83) K rfl 3 rfl dX0_nextRow_82 ?_
        obtain ⟨M9, hc8, h⟩ := ob_e h
        refine g_callV0 (pn := 86) (As := [.int v3, .int v6]) (rest := []) (a := 23) K rfl (d' := 0) (Nat.le_of_ble_eq_true rfl) mv_X0_153 (recvO K lx_23 rfl) (w_f_Day_swap hc8) rfl rfl (Nat.le_of_ble_eq_true rfl) dX0_nextRow_83 ?_
        refine g_iload_n (pn := 87) K rfl 2 rfl dX0_nextRow_86 ?_
        refine g_iconst (pn := 88) (v := 1) K rfl ic_1 dX0_nextRow_87 ?_
        refine g_iadd (pn := 89) K rfl dX0_nextRow_88 ?_
        refine g_nmi h (fun v10 h => ?_)
        refine g_istore (pn := 91) (lv' := [(4, .int v10), (1, .int v1), (0, .ref (X.2.2.2.1 23)), (2, .int v3), (3, .int v6)]) K rfl dX0_nextRow_89 (Nat.le_of_ble_eq_true rfl) rfl ?_
        refine g_iload_n (pn := 92) K rfl 1 rfl dX0_nextRow_91 ?_
        refine g_iconst (pn := 93) (v := 1) K rfl ic_1 dX0_nextRow_92 ?_
        refine g_isub (pn := 94) K rfl dX0_nextRow_93 ?_
        refine g_nmi h (fun v11 h => ?_)
        refine g_istore (pn := 96) (lv' := [(5, .int v11), (4, .int v10), (1, .int v1), (0, .ref (X.2.2.2.1 23)), (2, .int v3), (3, .int v6)]) K rfl dX0_nextRow_94 (Nat.le_of_ble_eq_true rfl) rfl ?_
        refine jp_e1 h (fun M12 => G layX X Γ 6 (QM layX X Γ (some (.int (b2i r))) M') 120 [] [] M12) (fun M12 h => ?_) (fun j13 hj13 h => ?_)
        · refine g_iconst (pn := 121) (v := 1) K rfl ic_1 dX0_nextRow_120 ?_
          exact g_zret K rfl dX0_nextRow_121 (bq1 (oi2 h).2) (oi2 h).1
        have LP96 : ∀ (fu17 : Nat) (v14 : Int32) (v15 : Int32) (M16 : Mem), f_Day_nextRow_L96 j13 fu17 v14 v15 M16 = some (M', r) → G layX X Γ 6 (QM layX X Γ (some (.int (b2i r))) M') 96 [(0, .ref (X.2.2.2.1 23)), (4, .int v14), (5, .int v15)] [] M16 := by
          intro fu17
          induction fu17 with
          | zero =>
            intro v14 v15 M16 h
            rw [f_Day_nextRow_L96] at h
            cases h
          | succ fu17 ih17 =>
            intro v14 v15 M16 h
            rw [f_Day_nextRow_L96] at h
            refine g_iload (pn := 98) K rfl 1 rfl dX0_nextRow_96 ?_
            refine g_iload (pn := 100) K rfl 2 rfl dX0_nextRow_98 ?_
            refine g_icmp_ge (tgt := 120) (pn := 103) K rfl (by decide) dX0_nextRow_100 h (fun h => ?_) (fun h => ?_)
            · refine g_sub [] rfl ?_
              exact hj13 _ h
            · refine g_aload_n (pn := 104) K rfl 0 rfl dX0_nextRow_103 ?_
              refine g_iload (pn := 106) K rfl 1 rfl dX0_nextRow_104 ?_
              refine g_iload (pn := 108) K rfl 2 rfl dX0_nextRow_106 ?_
              obtain ⟨M19, hc18, h⟩ := ob_e h
              refine g_callV0 (pn := 111) (As := [.int v14, .int v15]) (rest := []) (a := 23) K rfl (d' := 0) (Nat.le_of_ble_eq_true rfl) mv_X0_153 (recvO K lx_23 rfl) (w_f_Day_swap hc18) rfl rfl (Nat.le_of_ble_eq_true rfl) dX0_nextRow_108 ?_
              obtain ⟨v20, ev20, h⟩ := bnd_e h
              refine g_iinc (pn := 114) (v := v20) (lv' := [(4, .int v20), (0, .ref (X.2.2.2.1 23)), (5, .int v15)]) K rfl 1 rfl ii_1 ev20 dX0_nextRow_111 (Nat.le_of_ble_eq_true rfl) rfl ?_
              obtain ⟨v21, ev21, h⟩ := bnd_e h
              refine g_iinc (pn := 117) (v := v21) (lv' := [(5, .int v21), (4, .int v20), (0, .ref (X.2.2.2.1 23))]) K rfl 2 rfl ii_m1 ev21 dX0_nextRow_114 (Nat.le_of_ble_eq_true rfl) rfl ?_
              refine g_goto (tgt := 96) K (by decide) dX0_nextRow_117 ?_
              refine g_sub [2, 1, 0] rfl ?_
              exact ih17 _ _ _ h
        refine g_sub [3, 1, 0] rfl ?_
        exact LP96 FU _ _ _ h
      have LP54 : ∀ (fu23 : Nat) (v22 : Int32), f_Day_nextRow_L54 M v3 j7 fu23 v22 = some (M', r) → G layX X Γ 6 (QM layX X Γ (some (.int (b2i r))) M') 54 [(1, .int v1), (0, .ref (X.2.2.2.1 23)), (2, .int v3), (3, .int v22)] [] M := by
        intro fu23
        induction fu23 with
        | zero =>
          intro v22 h
          rw [f_Day_nextRow_L54] at h
          cases h
        | succ fu23 ih23 =>
          intro v22 h
          rw [f_Day_nextRow_L54] at h
          refine g_iload_n (pn := 55) K rfl 3 rfl dX0_nextRow_54 ?_
          refine g_iload_n (pn := 56) K rfl 2 rfl dX0_nextRow_55 ?_
          refine g_icmp_le (tgt := 80) (pn := 59) K rfl (by decide) dX0_nextRow_56 h (fun h => ?_) (fun h => ?_)
          · exact hj7 _ h
          · refine g_aload_n (pn := 60) K rfl 1 rfl dX0_nextRow_59 ?_
            refine g_getr (pn := 63) (j := 32) K rfl fl_X0_25 lx_23 rfl dX0_nextRow_60 ?_
            refine g_iload_n (pn := 64) K rfl 3 rfl dX0_nextRow_63 ?_
            refine g_iald (pn := 65) K rfl lx_32 dX0_nextRow_64 h (fun h => ?_)
            refine g_aload_n (pn := 66) K rfl 1 rfl dX0_nextRow_65 ?_
            refine g_getr (pn := 69) (j := 32) K rfl fl_X0_25 lx_23 rfl dX0_nextRow_66 ?_
            refine g_iload_n (pn := 70) K rfl 2 rfl dX0_nextRow_69 ?_
            refine g_iald (pn := 71) K rfl lx_32 dX0_nextRow_70 h (fun h => ?_)
            refine g_icmp_ge (tgt := 80) (pn := 74) K rfl (by decide) dX0_nextRow_71 h (fun h => ?_) (fun h => ?_)
            · exact hj7 _ h
            · obtain ⟨v24, ev24, h⟩ := bnd_e h
              refine g_iinc (pn := 77) (v := v24) (lv' := [(3, .int v24), (1, .int v1), (0, .ref (X.2.2.2.1 23)), (2, .int v3)]) K rfl 3 rfl ii_m1 ev24 dX0_nextRow_74 (Nat.le_of_ble_eq_true rfl) rfl ?_
              refine g_goto (tgt := 54) K (by decide) dX0_nextRow_77 ?_
              refine g_sub [1, 2, 3, 0] rfl ?_
              exact ih23 _ h
      refine g_sub [1, 2, 3, 0] rfl ?_
      exact LP54 FU _ h
    · refine g_iconst (pn := 49) (v := 0) K rfl ic_0 dX0_nextRow_48 ?_
      exact g_zret K rfl dX0_nextRow_49 (bq0 (oi2 h).2) (oi2 h).1
  have LP17 : ∀ (fu26 : Nat) (v25 : Int32), f_Day_nextRow_L17 M j4 fu26 v25 = some (M', r) → G layX X Γ 6 (QM layX X Γ (some (.int (b2i r))) M') 17 [(1, .int v1), (0, .ref (X.2.2.2.1 23)), (2, .int v25)] [] M := by
    intro fu26
    induction fu26 with
    | zero =>
      intro v25 h
      rw [f_Day_nextRow_L17] at h
      cases h
    | succ fu26 ih26 =>
      intro v25 h
      rw [f_Day_nextRow_L17] at h
      refine g_iload_n (pn := 18) K rfl 2 rfl dX0_nextRow_17 ?_
      refine g_if_lt (tgt := 44) (pn := 21) K rfl (by decide) dX0_nextRow_18 h (fun h => ?_) (fun h => ?_)
      · exact hj4 _ h
      · refine g_aload_n (pn := 22) K rfl 1 rfl dX0_nextRow_21 ?_
        refine g_getr (pn := 25) (j := 32) K rfl fl_X0_25 lx_23 rfl dX0_nextRow_22 ?_
        refine g_iload_n (pn := 26) K rfl 2 rfl dX0_nextRow_25 ?_
        refine g_iald (pn := 27) K rfl lx_32 dX0_nextRow_26 h (fun h => ?_)
        refine g_aload_n (pn := 28) K rfl 1 rfl dX0_nextRow_27 ?_
        refine g_getr (pn := 31) (j := 32) K rfl fl_X0_25 lx_23 rfl dX0_nextRow_28 ?_
        refine g_iload_n (pn := 32) K rfl 2 rfl dX0_nextRow_31 ?_
        refine g_iconst (pn := 33) (v := 1) K rfl ic_1 dX0_nextRow_32 ?_
        refine g_iadd (pn := 34) K rfl dX0_nextRow_33 ?_
        refine g_iald (pn := 35) K rfl lx_32 dX0_nextRow_34 h (fun h => ?_)
        refine g_icmp_le (tgt := 44) (pn := 38) K rfl (by decide) dX0_nextRow_35 h (fun h => ?_) (fun h => ?_)
        · exact hj4 _ h
        · obtain ⟨v27, ev27, h⟩ := bnd_e h
          refine g_iinc (pn := 41) (v := v27) (lv' := [(2, .int v27), (1, .int v1), (0, .ref (X.2.2.2.1 23))]) K rfl 2 rfl ii_m1 ev27 dX0_nextRow_38 (Nat.le_of_ble_eq_true rfl) rfl ?_
          refine g_goto (tgt := 17) K (by decide) dX0_nextRow_41 ?_
          refine g_sub [1, 2, 0] rfl ?_
          exact ih26 _ h
  refine g_sub [1, 2, 0] rfl ?_
  exact LP17 FU _ h
