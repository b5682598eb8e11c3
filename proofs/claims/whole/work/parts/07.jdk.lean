/-! printed by gen1.py -/
theorem dJ3_checkIndex_8e157_0 : decode cJ3_checkIndex_8e157 0 = .ok (.iload_n 0, 1) := by decide +kernel
theorem dJ3_checkIndex_8e157_1 : decode cJ3_checkIndex_8e157 1 = .ok (.ifCond .lt 8, 3) := by decide +kernel
theorem dJ3_checkIndex_8e157_4 : decode cJ3_checkIndex_8e157 4 = .ok (.iload_n 0, 1) := by decide +kernel
theorem dJ3_checkIndex_8e157_5 : decode cJ3_checkIndex_8e157 5 = .ok (.iload_n 1, 1) := by decide +kernel
theorem dJ3_checkIndex_8e157_6 : decode cJ3_checkIndex_8e157 6 = .ok (.if_icmp .lt 10, 3) := by decide +kernel
theorem dJ3_checkIndex_8e157_16 : decode cJ3_checkIndex_8e157 16 = .ok (.iload_n 0, 1) := by decide +kernel
theorem dJ3_checkIndex_8e157_17 : decode cJ3_checkIndex_8e157 17 = .ok (.ireturn, 1) := by decide +kernel
theorem dJ0_checkIndex_df160_0 : decode cJ0_checkIndex_df160 0 = .ok (.iload_n 0, 1) := by decide +kernel
theorem dJ0_checkIndex_df160_1 : decode cJ0_checkIndex_df160 1 = .ok (.iload_n 1, 1) := by decide +kernel
theorem dJ0_checkIndex_df160_2 : decode cJ0_checkIndex_df160 2 = .ok (.getstatic 1053, 3) := by decide +kernel
theorem dJ0_checkIndex_df160_5 : decode cJ0_checkIndex_df160 5 = .ok (.invokestatic 1059, 3) := by decide +kernel
theorem dJ0_checkIndex_df160_8 : decode cJ0_checkIndex_df160 8 = .ok (.pop, 1) := by decide +kernel
theorem dJ0_checkIndex_df160_9 : decode cJ0_checkIndex_df160 9 = .ok (.return_, 1) := by decide +kernel
theorem dJ0_coder_7d493_0 : decode cJ0_coder_7d493 0 = .ok (.getstatic 38, 3) := by decide +kernel
theorem dJ0_coder_7d493_3 : decode cJ0_coder_7d493 3 = .ok (.ifCond .eq 10, 3) := by decide +kernel
theorem dJ0_coder_7d493_6 : decode cJ0_coder_7d493 6 = .ok (.aload_n 0, 1) := by decide +kernel
theorem dJ0_coder_7d493_7 : decode cJ0_coder_7d493 7 = .ok (.getfield 15, 3) := by decide +kernel
theorem dJ0_coder_7d493_10 : decode cJ0_coder_7d493 10 = .ok (.goto 4, 3) := by decide +kernel
theorem dJ0_coder_7d493_14 : decode cJ0_coder_7d493 14 = .ok (.ireturn, 1) := by decide +kernel
theorem dJ0_isLatin1_aae02_0 : decode cJ0_isLatin1_aae02 0 = .ok (.getstatic 38, 3) := by decide +kernel
theorem dJ0_isLatin1_aae02_3 : decode cJ0_isLatin1_aae02 3 = .ok (.ifCond .eq 14, 3) := by decide +kernel
theorem dJ0_isLatin1_aae02_6 : decode cJ0_isLatin1_aae02 6 = .ok (.aload_n 0, 1) := by decide +kernel
theorem dJ0_isLatin1_aae02_7 : decode cJ0_isLatin1_aae02 7 = .ok (.getfield 15, 3) := by decide +kernel
theorem dJ0_isLatin1_aae02_10 : decode cJ0_isLatin1_aae02 10 = .ok (.ifCond .ne 7, 3) := by decide +kernel
theorem dJ0_isLatin1_aae02_13 : decode cJ0_isLatin1_aae02 13 = .ok (.iconst 1, 1) := by decide +kernel
theorem dJ0_isLatin1_aae02_14 : decode cJ0_isLatin1_aae02 14 = .ok (.goto 4, 3) := by decide +kernel
theorem dJ0_isLatin1_aae02_18 : decode cJ0_isLatin1_aae02 18 = .ok (.ireturn, 1) := by decide +kernel
theorem dJ0_length_8abf5_0 : decode cJ0_length_8abf5 0 = .ok (.aload_n 0, 1) := by decide +kernel
theorem dJ0_length_8abf5_1 : decode cJ0_length_8abf5 1 = .ok (.getfield 9, 3) := by decide +kernel
theorem dJ0_length_8abf5_4 : decode cJ0_length_8abf5 4 = .ok (.arraylength, 1) := by decide +kernel
theorem dJ0_length_8abf5_5 : decode cJ0_length_8abf5 5 = .ok (.aload_n 0, 1) := by decide +kernel
theorem dJ0_length_8abf5_6 : decode cJ0_length_8abf5 6 = .ok (.invokevirtual 335, 3) := by decide +kernel
theorem dJ0_length_8abf5_9 : decode cJ0_length_8abf5 9 = .ok (.ishr, 1) := by decide +kernel
theorem dJ0_length_8abf5_10 : decode cJ0_length_8abf5 10 = .ok (.ireturn, 1) := by decide +kernel
theorem dJ1_charAt_3b067_0 : decode cJ1_charAt_3b067 0 = .ok (.iload_n 1, 1) := by decide +kernel
theorem dJ1_charAt_3b067_1 : decode cJ1_charAt_3b067 1 = .ok (.aload_n 0, 1) := by decide +kernel
theorem dJ1_charAt_3b067_2 : decode cJ1_charAt_3b067 2 = .ok (.arraylength, 1) := by decide +kernel
theorem dJ1_charAt_3b067_3 : decode cJ1_charAt_3b067 3 = .ok (.invokestatic 9, 3) := by decide +kernel
theorem dJ1_charAt_3b067_6 : decode cJ1_charAt_3b067 6 = .ok (.aload_n 0, 1) := by decide +kernel
theorem dJ1_charAt_3b067_7 : decode cJ1_charAt_3b067 7 = .ok (.iload_n 1, 1) := by decide +kernel
theorem dJ1_charAt_3b067_8 : decode cJ1_charAt_3b067 8 = .ok (.baload, 1) := by decide +kernel
theorem dJ1_charAt_3b067_9 : decode cJ1_charAt_3b067 9 = .ok (.sipush 255, 3) := by decide +kernel
theorem dJ1_charAt_3b067_12 : decode cJ1_charAt_3b067 12 = .ok (.iand, 1) := by decide +kernel
theorem dJ1_charAt_3b067_13 : decode cJ1_charAt_3b067 13 = .ok (.i2c, 1) := by decide +kernel
theorem dJ1_charAt_3b067_14 : decode cJ1_charAt_3b067 14 = .ok (.ireturn, 1) := by decide +kernel
theorem dJ0_charAt_5068e_0 : decode cJ0_charAt_5068e 0 = .ok (.aload_n 0, 1) := by decide +kernel
theorem dJ0_charAt_5068e_1 : decode cJ0_charAt_5068e 1 = .ok (.invokevirtual 492, 3) := by decide +kernel
theorem dJ0_charAt_5068e_4 : decode cJ0_charAt_5068e 4 = .ok (.ifCond .eq 12, 3) := by decide +kernel
theorem dJ0_charAt_5068e_7 : decode cJ0_charAt_5068e 7 = .ok (.aload_n 0, 1) := by decide +kernel
theorem dJ0_charAt_5068e_8 : decode cJ0_charAt_5068e 8 = .ok (.getfield 9, 3) := by decide +kernel
theorem dJ0_charAt_5068e_11 : decode cJ0_charAt_5068e 11 = .ok (.iload_n 1, 1) := by decide +kernel
theorem dJ0_charAt_5068e_12 : decode cJ0_charAt_5068e 12 = .ok (.invokestatic 495, 3) := by decide +kernel
theorem dJ0_charAt_5068e_15 : decode cJ0_charAt_5068e 15 = .ok (.ireturn, 1) := by decide +kernel
theorem dJ1_canEncode_9a6ad_0 : decode cJ1_canEncode_9a6ad 0 = .ok (.iload_n 0, 1) := by decide +kernel
theorem dJ1_canEncode_9a6ad_1 : decode cJ1_canEncode_9a6ad 1 = .ok (.ifCond .lt 14, 3) := by decide +kernel
theorem dJ1_canEncode_9a6ad_4 : decode cJ1_canEncode_9a6ad 4 = .ok (.iload_n 0, 1) := by decide +kernel
theorem dJ1_canEncode_9a6ad_5 : decode cJ1_canEncode_9a6ad 5 = .ok (.sipush 255, 3) := by decide +kernel
theorem dJ1_canEncode_9a6ad_8 : decode cJ1_canEncode_9a6ad 8 = .ok (.if_icmp .gt 7, 3) := by decide +kernel
theorem dJ1_canEncode_9a6ad_11 : decode cJ1_canEncode_9a6ad 11 = .ok (.iconst 1, 1) := by decide +kernel
theorem dJ1_canEncode_9a6ad_12 : decode cJ1_canEncode_9a6ad 12 = .ok (.goto 4, 3) := by decide +kernel
theorem dJ1_canEncode_9a6ad_15 : decode cJ1_canEncode_9a6ad 15 = .ok (.iconst 0, 1) := by decide +kernel
theorem dJ1_canEncode_9a6ad_16 : decode cJ1_canEncode_9a6ad 16 = .ok (.ireturn, 1) := by decide +kernel
theorem dJ1_indexOfChar_4cfef_0 : decode cJ1_indexOfChar_4cfef 0 = .ok (.iload_n 1, 1) := by decide +kernel
theorem dJ1_indexOfChar_4cfef_1 : decode cJ1_indexOfChar_4cfef 1 = .ok (.i2b, 1) := by decide +kernel
theorem dJ1_indexOfChar_4cfef_2 : decode cJ1_indexOfChar_4cfef 2 = .ok (.istore 4, 2) := by decide +kernel
theorem dJ1_indexOfChar_4cfef_4 : decode cJ1_indexOfChar_4cfef 4 = .ok (.iload_n 2, 1) := by decide +kernel
theorem dJ1_indexOfChar_4cfef_5 : decode cJ1_indexOfChar_4cfef 5 = .ok (.istore 5, 2) := by decide +kernel
theorem dJ1_indexOfChar_4cfef_7 : decode cJ1_indexOfChar_4cfef 7 = .ok (.iload 5, 2) := by decide +kernel
theorem dJ1_indexOfChar_4cfef_9 : decode cJ1_indexOfChar_4cfef 9 = .ok (.iload_n 3, 1) := by decide +kernel
theorem dJ1_indexOfChar_4cfef_10 : decode cJ1_indexOfChar_4cfef 10 = .ok (.if_icmp .ge 21, 3) := by decide +kernel
theorem dJ1_indexOfChar_4cfef_13 : decode cJ1_indexOfChar_4cfef 13 = .ok (.aload_n 0, 1) := by decide +kernel
theorem dJ1_indexOfChar_4cfef_14 : decode cJ1_indexOfChar_4cfef 14 = .ok (.iload 5, 2) := by decide +kernel
theorem dJ1_indexOfChar_4cfef_16 : decode cJ1_indexOfChar_4cfef 16 = .ok (.baload, 1) := by decide +kernel
theorem dJ1_indexOfChar_4cfef_17 : decode cJ1_indexOfChar_4cfef 17 = .ok (.iload 4, 2) := by decide +kernel
theorem dJ1_indexOfChar_4cfef_19 : decode cJ1_indexOfChar_4cfef 19 = .ok (.if_icmp .ne 6, 3) := by decide +kernel
theorem dJ1_indexOfChar_4cfef_22 : decode cJ1_indexOfChar_4cfef 22 = .ok (.iload 5, 2) := by decide +kernel
theorem dJ1_indexOfChar_4cfef_24 : decode cJ1_indexOfChar_4cfef 24 = .ok (.ireturn, 1) := by decide +kernel
theorem dJ1_indexOfChar_4cfef_25 : decode cJ1_indexOfChar_4cfef 25 = .ok (.iinc 5 1, 3) := by decide +kernel
theorem dJ1_indexOfChar_4cfef_28 : decode cJ1_indexOfChar_4cfef 28 = .ok (.goto (-21), 3) := by decide +kernel
theorem dJ1_indexOfChar_4cfef_31 : decode cJ1_indexOfChar_4cfef 31 = .ok (.iconst (-1), 1) := by decide +kernel
theorem dJ1_indexOfChar_4cfef_32 : decode cJ1_indexOfChar_4cfef 32 = .ok (.ireturn, 1) := by decide +kernel
theorem dJ1_indexOf_4cfef_0 : decode cJ1_indexOf_4cfef 0 = .ok (.iload_n 1, 1) := by decide +kernel
theorem dJ1_indexOf_4cfef_1 : decode cJ1_indexOf_4cfef 1 = .ok (.invokestatic 88, 3) := by decide +kernel
theorem dJ1_indexOf_4cfef_4 : decode cJ1_indexOf_4cfef 4 = .ok (.ifCond .ne 5, 3) := by decide +kernel
theorem dJ1_indexOf_4cfef_7 : decode cJ1_indexOf_4cfef 7 = .ok (.iconst (-1), 1) := by decide +kernel
theorem dJ1_indexOf_4cfef_8 : decode cJ1_indexOf_4cfef 8 = .ok (.ireturn, 1) := by decide +kernel
theorem dJ1_indexOf_4cfef_9 : decode cJ1_indexOf_4cfef 9 = .ok (.iload_n 2, 1) := by decide +kernel
theorem dJ1_indexOf_4cfef_10 : decode cJ1_indexOf_4cfef 10 = .ok (.iconst 0, 1) := by decide +kernel
theorem dJ1_indexOf_4cfef_11 : decode cJ1_indexOf_4cfef 11 = .ok (.invokestatic 92, 3) := by decide +kernel
theorem dJ1_indexOf_4cfef_14 : decode cJ1_indexOf_4cfef 14 = .ok (.istore_n 2, 1) := by decide +kernel
theorem dJ1_indexOf_4cfef_15 : decode cJ1_indexOf_4cfef 15 = .ok (.iload_n 3, 1) := by decide +kernel
theorem dJ1_indexOf_4cfef_16 : decode cJ1_indexOf_4cfef 16 = .ok (.aload_n 0, 1) := by decide +kernel
theorem dJ1_indexOf_4cfef_17 : decode cJ1_indexOf_4cfef 17 = .ok (.arraylength, 1) := by decide +kernel
theorem dJ1_indexOf_4cfef_18 : decode cJ1_indexOf_4cfef 18 = .ok (.invokestatic 38, 3) := by decide +kernel
theorem dJ1_indexOf_4cfef_21 : decode cJ1_indexOf_4cfef 21 = .ok (.istore_n 3, 1) := by decide +kernel
theorem dJ1_indexOf_4cfef_22 : decode cJ1_indexOf_4cfef 22 = .ok (.iload_n 2, 1) := by decide +kernel
theorem dJ1_indexOf_4cfef_23 : decode cJ1_indexOf_4cfef 23 = .ok (.iload_n 3, 1) := by decide +kernel
theorem dJ1_indexOf_4cfef_24 : decode cJ1_indexOf_4cfef 24 = .ok (.if_icmp .lt 5, 3) := by decide +kernel
theorem dJ1_indexOf_4cfef_27 : decode cJ1_indexOf_4cfef 27 = .ok (.iconst (-1), 1) := by decide +kernel
theorem dJ1_indexOf_4cfef_28 : decode cJ1_indexOf_4cfef 28 = .ok (.ireturn, 1) := by decide +kernel
theorem dJ1_indexOf_4cfef_29 : decode cJ1_indexOf_4cfef 29 = .ok (.aload_n 0, 1) := by decide +kernel
theorem dJ1_indexOf_4cfef_30 : decode cJ1_indexOf_4cfef 30 = .ok (.iload_n 1, 1) := by decide +kernel
theorem dJ1_indexOf_4cfef_31 : decode cJ1_indexOf_4cfef 31 = .ok (.iload_n 2, 1) := by decide +kernel
theorem dJ1_indexOf_4cfef_32 : decode cJ1_indexOf_4cfef 32 = .ok (.iload_n 3, 1) := by decide +kernel
theorem dJ1_indexOf_4cfef_33 : decode cJ1_indexOf_4cfef 33 = .ok (.invokestatic 95, 3) := by decide +kernel
theorem dJ1_indexOf_4cfef_36 : decode cJ1_indexOf_4cfef 36 = .ok (.ireturn, 1) := by decide +kernel
theorem dJ0_indexOf_7cf53_0 : decode cJ0_indexOf_7cf53 0 = .ok (.aload_n 0, 1) := by decide +kernel
theorem dJ0_indexOf_7cf53_1 : decode cJ0_indexOf_7cf53 1 = .ok (.invokevirtual 492, 3) := by decide +kernel
theorem dJ0_indexOf_7cf53_4 : decode cJ0_indexOf_7cf53 4 = .ok (.ifCond .eq 19, 3) := by decide +kernel
theorem dJ0_indexOf_7cf53_7 : decode cJ0_indexOf_7cf53 7 = .ok (.aload_n 0, 1) := by decide +kernel
theorem dJ0_indexOf_7cf53_8 : decode cJ0_indexOf_7cf53 8 = .ok (.getfield 9, 3) := by decide +kernel
theorem dJ0_indexOf_7cf53_11 : decode cJ0_indexOf_7cf53 11 = .ok (.iload_n 1, 1) := by decide +kernel
theorem dJ0_indexOf_7cf53_12 : decode cJ0_indexOf_7cf53 12 = .ok (.iload_n 2, 1) := by decide +kernel
theorem dJ0_indexOf_7cf53_13 : decode cJ0_indexOf_7cf53 13 = .ok (.aload_n 0, 1) := by decide +kernel
theorem dJ0_indexOf_7cf53_14 : decode cJ0_indexOf_7cf53 14 = .ok (.invokevirtual 505, 3) := by decide +kernel
theorem dJ0_indexOf_7cf53_17 : decode cJ0_indexOf_7cf53 17 = .ok (.invokestatic 637, 3) := by decide +kernel
theorem dJ0_indexOf_7cf53_20 : decode cJ0_indexOf_7cf53 20 = .ok (.goto 16, 3) := by decide +kernel
theorem dJ0_indexOf_7cf53_36 : decode cJ0_indexOf_7cf53 36 = .ok (.ireturn, 1) := by decide +kernel
theorem dJ0_indexOf_0f7a4_0 : decode cJ0_indexOf_0f7a4 0 = .ok (.aload_n 0, 1) := by decide +kernel
theorem dJ0_indexOf_0f7a4_1 : decode cJ0_indexOf_0f7a4 1 = .ok (.iload_n 1, 1) := by decide +kernel
theorem dJ0_indexOf_0f7a4_2 : decode cJ0_indexOf_0f7a4 2 = .ok (.iconst 0, 1) := by decide +kernel
theorem dJ0_indexOf_0f7a4_3 : decode cJ0_indexOf_0f7a4 3 = .ok (.invokevirtual 633, 3) := by decide +kernel
theorem dJ0_indexOf_0f7a4_6 : decode cJ0_indexOf_0f7a4 6 = .ok (.ireturn, 1) := by decide +kernel
theorem dJ6_bitCount_0f7a4_0 : decode cJ6_bitCount_0f7a4 0 = .ok (.iload_n 0, 1) := by decide +kernel
theorem dJ6_bitCount_0f7a4_1 : decode cJ6_bitCount_0f7a4 1 = .ok (.iload_n 0, 1) := by decide +kernel
theorem dJ6_bitCount_0f7a4_2 : decode cJ6_bitCount_0f7a4 2 = .ok (.iconst 1, 1) := by decide +kernel
theorem dJ6_bitCount_0f7a4_3 : decode cJ6_bitCount_0f7a4 3 = .ok (.iushr, 1) := by decide +kernel
theorem dJ6_bitCount_0f7a4_4 : decode cJ6_bitCount_0f7a4 4 = .ok (.ldc_w 265, 3) := by decide +kernel
theorem dJ6_bitCount_0f7a4_7 : decode cJ6_bitCount_0f7a4 7 = .ok (.iand, 1) := by decide +kernel
theorem dJ6_bitCount_0f7a4_8 : decode cJ6_bitCount_0f7a4 8 = .ok (.isub, 1) := by decide +kernel
theorem dJ6_bitCount_0f7a4_9 : decode cJ6_bitCount_0f7a4 9 = .ok (.istore_n 0, 1) := by decide +kernel
theorem dJ6_bitCount_0f7a4_10 : decode cJ6_bitCount_0f7a4 10 = .ok (.iload_n 0, 1) := by decide +kernel
theorem dJ6_bitCount_0f7a4_11 : decode cJ6_bitCount_0f7a4 11 = .ok (.ldc_w 266, 3) := by decide +kernel
theorem dJ6_bitCount_0f7a4_14 : decode cJ6_bitCount_0f7a4 14 = .ok (.iand, 1) := by decide +kernel
theorem dJ6_bitCount_0f7a4_15 : decode cJ6_bitCount_0f7a4 15 = .ok (.iload_n 0, 1) := by decide +kernel
theorem dJ6_bitCount_0f7a4_16 : decode cJ6_bitCount_0f7a4 16 = .ok (.iconst 2, 1) := by decide +kernel
theorem dJ6_bitCount_0f7a4_17 : decode cJ6_bitCount_0f7a4 17 = .ok (.iushr, 1) := by decide +kernel
theorem dJ6_bitCount_0f7a4_18 : decode cJ6_bitCount_0f7a4 18 = .ok (.ldc_w 266, 3) := by decide +kernel
theorem dJ6_bitCount_0f7a4_21 : decode cJ6_bitCount_0f7a4 21 = .ok (.iand, 1) := by decide +kernel
theorem dJ6_bitCount_0f7a4_22 : decode cJ6_bitCount_0f7a4 22 = .ok (.iadd, 1) := by decide +kernel
theorem dJ6_bitCount_0f7a4_23 : decode cJ6_bitCount_0f7a4 23 = .ok (.istore_n 0, 1) := by decide +kernel
theorem dJ6_bitCount_0f7a4_24 : decode cJ6_bitCount_0f7a4 24 = .ok (.iload_n 0, 1) := by decide +kernel
theorem dJ6_bitCount_0f7a4_25 : decode cJ6_bitCount_0f7a4 25 = .ok (.iload_n 0, 1) := by decide +kernel
theorem dJ6_bitCount_0f7a4_26 : decode cJ6_bitCount_0f7a4 26 = .ok (.iconst 4, 1) := by decide +kernel
theorem dJ6_bitCount_0f7a4_27 : decode cJ6_bitCount_0f7a4 27 = .ok (.iushr, 1) := by decide +kernel
theorem dJ6_bitCount_0f7a4_28 : decode cJ6_bitCount_0f7a4 28 = .ok (.iadd, 1) := by decide +kernel
theorem dJ6_bitCount_0f7a4_29 : decode cJ6_bitCount_0f7a4 29 = .ok (.ldc_w 267, 3) := by decide +kernel
theorem dJ6_bitCount_0f7a4_32 : decode cJ6_bitCount_0f7a4 32 = .ok (.iand, 1) := by decide +kernel
theorem dJ6_bitCount_0f7a4_33 : decode cJ6_bitCount_0f7a4 33 = .ok (.istore_n 0, 1) := by decide +kernel
theorem dJ6_bitCount_0f7a4_34 : decode cJ6_bitCount_0f7a4 34 = .ok (.iload_n 0, 1) := by decide +kernel
theorem dJ6_bitCount_0f7a4_35 : decode cJ6_bitCount_0f7a4 35 = .ok (.iload_n 0, 1) := by decide +kernel
theorem dJ6_bitCount_0f7a4_36 : decode cJ6_bitCount_0f7a4 36 = .ok (.bipush 8, 2) := by decide +kernel
theorem dJ6_bitCount_0f7a4_38 : decode cJ6_bitCount_0f7a4 38 = .ok (.iushr, 1) := by decide +kernel
theorem dJ6_bitCount_0f7a4_39 : decode cJ6_bitCount_0f7a4 39 = .ok (.iadd, 1) := by decide +kernel
theorem dJ6_bitCount_0f7a4_40 : decode cJ6_bitCount_0f7a4 40 = .ok (.istore_n 0, 1) := by decide +kernel
theorem dJ6_bitCount_0f7a4_41 : decode cJ6_bitCount_0f7a4 41 = .ok (.iload_n 0, 1) := by decide +kernel
theorem dJ6_bitCount_0f7a4_42 : decode cJ6_bitCount_0f7a4 42 = .ok (.iload_n 0, 1) := by decide +kernel
theorem dJ6_bitCount_0f7a4_43 : decode cJ6_bitCount_0f7a4 43 = .ok (.bipush 16, 2) := by decide +kernel
theorem dJ6_bitCount_0f7a4_45 : decode cJ6_bitCount_0f7a4 45 = .ok (.iushr, 1) := by decide +kernel
theorem dJ6_bitCount_0f7a4_46 : decode cJ6_bitCount_0f7a4 46 = .ok (.iadd, 1) := by decide +kernel
theorem dJ6_bitCount_0f7a4_47 : decode cJ6_bitCount_0f7a4 47 = .ok (.istore_n 0, 1) := by decide +kernel
theorem dJ6_bitCount_0f7a4_48 : decode cJ6_bitCount_0f7a4 48 = .ok (.iload_n 0, 1) := by decide +kernel
theorem dJ6_bitCount_0f7a4_49 : decode cJ6_bitCount_0f7a4 49 = .ok (.bipush 63, 2) := by decide +kernel
theorem dJ6_bitCount_0f7a4_51 : decode cJ6_bitCount_0f7a4 51 = .ok (.iand, 1) := by decide +kernel
theorem dJ6_bitCount_0f7a4_52 : decode cJ6_bitCount_0f7a4 52 = .ok (.ireturn, 1) := by decide +kernel
def f_JP_checkIndex3 (a1 : Int32) (a2 : Int32) : Option Int32 :=
if a1 < 0 then
(none)
else
(if a1 < a2 then
(some a1)
else
(none))
def f_JS_checkIndex2 (a1 : Int32) (a2 : Int32) : Option Unit :=
ob (f_JP_checkIndex3 a1 a2) fun (v3 : Int32) =>
some ()
def f_JS_coder0 (j : Nat) : Option Int32 :=
some 0
def f_JS_isLatin10 (j : Nat) : Option Bool :=
some true
def f_JS_length0 (j : Nat) : Option Int32 :=
ob (f_JS_coder0 j) fun (v2 : Int32) =>
some ((nI (lenS.getD j 0)) >>> (0 &&& 31))
def f_JL_charAt2 (j1 : Nat) (a2 : Int32) : Option Int32 :=
ob (f_JS_checkIndex2 a2 (nI (lenS.getD j1 0))) fun (v2 : Unit) =>
ck a2 (lenS.getD j1 0) <|
some (((((bytS.getD j1 []).getD a2.toNatClampNeg 0) &&& 255).toUInt32 % 65536).toInt32)
theorem charAt_nar {j : Nat} {i r : Int32} (h : f_JL_charAt2 j i = some r) : narrow .char (.int r) = .int r := by
  unfold f_JL_charAt2 at h
  obtain ⟨u, -, h⟩ := ob_e h
  rw [← oi (ck_e h).2]
  exact pk_nc _
def f_JS_charAt1 (j : Nat) (a1 : Int32) : Option Int32 :=
ob (f_JS_isLatin10 j) fun (v2 : Bool) =>
ob (f_JL_charAt2 j a1) fun (v4 : Int32) =>
some v4
def f_JL_canEncode1 (a1 : Int32) : Option Bool :=
if a1 < 0 then
(some false)
else
(if 255 < a1 then
(some false)
else
(some true))
def f_JL_indexOfChar4_L7 (j1 : Nat) (a4 : Int32) (v1 : Int32) (j3 : Unit → Option Int32) : Nat → Int32 → Option Int32
  | 0, _ => none
  | fu5 + 1, v4 =>
    if a4 ≤ v4 then
    (j3 ())
    else
    (ck v4 (lenS.getD j1 0) <|
    if ((bytS.getD j1 []).getD v4.toNatClampNeg 0) = v1 then
    (some v4)
    else
    (bnd (v4 + 1) fun (v6 : Int32) =>
    f_JL_indexOfChar4_L7 j1 a4 v1 j3 fu5 v6))
def f_JL_indexOfChar4 (j1 : Nat) (a2 : Int32) (a3 : Int32) (a4 : Int32) : Option Int32 :=
bnd (a2.toInt8.toInt32) fun (v1 : Int32) =>
jp (fun (u2 : Unit) =>
some (-1)) fun j3 =>
f_JL_indexOfChar4_L7 j1 a4 v1 j3 FU a3
def f_JL_indexOf4 (j1 : Nat) (a2 : Int32) (a3 : Int32) (a4 : Int32) : Option Int32 :=
ob (f_JL_canEncode1 a2) fun (v2 : Bool) =>
if v2 = true then
(bnd ((imax a3 0)) fun (v3 : Int32) =>
bnd ((imin a4 (nI (lenS.getD j1 0)))) fun (v4 : Int32) =>
if v3 < v4 then
(ob (f_JL_indexOfChar4 j1 a2 v3 v4) fun (v6 : Int32) =>
some v6)
else
(some (-1)))
else
(some (-1))
def f_JS_indexOf2 (j : Nat) (a1 : Int32) (a2 : Int32) : Option Int32 :=
ob (f_JS_isLatin10 j) fun (v2 : Bool) =>
ob (f_JS_length0 j) fun (v4 : Int32) =>
ob (f_JL_indexOf4 j a1 a2 v4) fun (v6 : Int32) =>
some v6
def f_JS_indexOf1 (j : Nat) (a1 : Int32) : Option Int32 :=
ob (f_JS_indexOf2 j a1 0) fun (v2 : Int32) =>
some v2
def f_JI_bitCount1 (a1 : Int32) : Option Int32 :=
bnd ((a1 - ((a1.toUInt32 >>> ((1 : Int32).toUInt32 &&& Int32.toUInt32 31)).toInt32 &&& 1431655765))) fun (v1 : Int32) =>
bnd (((v1 &&& 858993459) + ((v1.toUInt32 >>> ((2 : Int32).toUInt32 &&& Int32.toUInt32 31)).toInt32 &&& 858993459))) fun (v2 : Int32) =>
bnd (((v2 + (v2.toUInt32 >>> ((4 : Int32).toUInt32 &&& Int32.toUInt32 31)).toInt32) &&& 252645135)) fun (v3 : Int32) =>
bnd ((v3 + (v3.toUInt32 >>> ((8 : Int32).toUInt32 &&& Int32.toUInt32 31)).toInt32)) fun (v4 : Int32) =>
bnd ((v4 + (v4.toUInt32 >>> ((16 : Int32).toUInt32 &&& Int32.toUInt32 31)).toInt32)) fun (v5 : Int32) =>
some (v5 &&& 63)
set_option maxHeartbeats 4000000 in
set_option maxRecDepth 20000 in
theorem w_f_JP_checkIndex3 {X : XT} {M : Mem} {a1 : Int32} {a2 : Int32} {r : Int32} {o3 : Value} (ho3 : o3 = .null ∨ ∃ t : Nat, o3 = .ref t)  (h : f_JP_checkIndex3 a1 a2 = some r) : CT layX X 0 yJ3_checkIndex_8e157 cJ3_checkIndex_8e157 3 (some .int) [.int a1, .int a2, o3] M M (some (.int r)) := by
  refine CT.of rfl (by rcases ho3 with rfl | ⟨t, rfl⟩ <;> exact Nat.le_of_ble_eq_true rfl) (lv := [(0, .int a1), (1, .int a2), (2, o3)]) rfl (fun Γ K => ?_)
  have K : Kx layX X Γ RJ3 cJ3_checkIndex_8e157 3 0 (some .int) := K
  unfold f_JP_checkIndex3 at h
  refine g_iload_n (pn := 1) K rfl 0 rfl dJ3_checkIndex_8e157_0 ?_
  refine g_if_lt (tgt := 9) (pn := 4) K rfl (by decide) dJ3_checkIndex_8e157_1 h (fun h => ?_) (fun h => ?_)
  · nomatch h
  · refine g_iload_n (pn := 5) K rfl 0 rfl dJ3_checkIndex_8e157_4 ?_
    refine g_iload_n (pn := 6) K rfl 1 rfl dJ3_checkIndex_8e157_5 ?_
    refine g_icmp_lt (tgt := 16) (pn := 9) K rfl (by decide) dJ3_checkIndex_8e157_6 h (fun h => ?_) (fun h => ?_)
    · refine g_iload_n (pn := 17) K rfl 0 rfl dJ3_checkIndex_8e157_16 ?_
      exact g_iret K dJ3_checkIndex_8e157_17 (oi h) rfl
    · nomatch h
set_option maxHeartbeats 4000000 in
set_option maxRecDepth 20000 in
theorem w_f_JS_checkIndex2 {X : XT} {M : Mem} {a1 : Int32} {a2 : Int32}    (h : f_JS_checkIndex2 a1 a2 = some ()) : CT layX X 1 yJ0_checkIndex_df160 cJ0_checkIndex_df160 2 none [.int a1, .int a2] M M none := by
  refine CT.of rfl (Nat.le_of_ble_eq_true rfl) (lv := [(0, .int a1), (1, .int a2)]) rfl (fun Γ K => ?_)
  have K : Kx layX X Γ RJ0 cJ0_checkIndex_df160 2 1 none := K
  unfold f_JS_checkIndex2 at h
  refine g_iload_n (pn := 1) K rfl 0 rfl dJ0_checkIndex_df160_0 ?_
  refine g_iload_n (pn := 2) K rfl 1 rfl dJ0_checkIndex_df160_1 ?_
  refine g_siobe (pn := 5) K rfl fs_J0_1053 dJ0_checkIndex_df160_2 (fun o1 ho1 => ?_)
  obtain ⟨v3, hc2, h⟩ := ob_e h
  refine g_callS1 (pn := 8) (As := [.int a1, .int a2, o1]) (rest := []) K rfl (d' := 0) (Nat.le_of_ble_eq_true rfl) ms_J0_1059 (w_f_JP_checkIndex3 ho1 hc2) rfl rfl (Nat.le_of_ble_eq_true rfl) dJ0_checkIndex_df160_5 ?_
  refine g_pop (pn := 9) K rfl rfl dJ0_checkIndex_df160_8 ?_
  exact g_vret K dJ0_checkIndex_df160_9 rfl
set_option maxHeartbeats 4000000 in
set_option maxRecDepth 20000 in
theorem w_f_JS_coder0 {X : XT} {M : Mem} {j : Nat} {r : Int32} (hj : j < nS)  (h : f_JS_coder0 j = some r) : CT layX X 0 yJ0_coder_7d493 cJ0_coder_7d493 1 (some .byte) [.ref (X.2.2.2.1 (2000 + j))] M M (some (.int r)) := by
  refine CT.of rfl (Nat.le_of_ble_eq_true rfl) (lv := [(0, .ref (X.2.2.2.1 (2000 + j)))]) rfl (fun Γ K => ?_)
  have K : Kx layX X Γ RJ0 cJ0_coder_7d493 1 0 (some .byte) := K
  unfold f_JS_coder0 at h
  refine g_compact (pn := 3) K rfl fs_J0_38 dJ0_coder_7d493_0 ?_
  refine g_ifF_eq (tgt := 13) (pn := 6) K rfl (by decide) dJ0_coder_7d493_3 (by decide) ?_
  refine g_aload_n (pn := 7) K rfl 0 rfl dJ0_coder_7d493_6 ?_
  refine g_coder (pn := 10) K rfl hj fs_J0_15 dJ0_coder_7d493_7 ?_
  refine g_goto (tgt := 14) K (by decide) dJ0_coder_7d493_10 ?_
  exact g_zret K rfl dJ0_coder_7d493_14 (oi h) rfl
set_option maxHeartbeats 4000000 in
set_option maxRecDepth 20000 in
theorem w_f_JS_isLatin10 {X : XT} {M : Mem} {j : Nat} {r : Bool} (hj : j < nS)  (h : f_JS_isLatin10 j = some r) : CT layX X 0 yJ0_isLatin1_aae02 cJ0_isLatin1_aae02 1 (some .boolean) [.ref (X.2.2.2.1 (2000 + j))] M M (some (.int (b2i r))) := by
  refine CT.of rfl (Nat.le_of_ble_eq_true rfl) (lv := [(0, .ref (X.2.2.2.1 (2000 + j)))]) rfl (fun Γ K => ?_)
  have K : Kx layX X Γ RJ0 cJ0_isLatin1_aae02 1 0 (some .boolean) := K
  unfold f_JS_isLatin10 at h
  refine g_compact (pn := 3) K rfl fs_J0_38 dJ0_isLatin1_aae02_0 ?_
  refine g_ifF_eq (tgt := 17) (pn := 6) K rfl (by decide) dJ0_isLatin1_aae02_3 (by decide) ?_
  refine g_aload_n (pn := 7) K rfl 0 rfl dJ0_isLatin1_aae02_6 ?_
  refine g_coder (pn := 10) K rfl hj fs_J0_15 dJ0_isLatin1_aae02_7 ?_
  refine g_ifF_ne (tgt := 17) (pn := 13) K rfl (by decide) dJ0_isLatin1_aae02_10 (by decide) ?_
  refine g_iconst (pn := 14) (v := 1) K rfl ic_1 dJ0_isLatin1_aae02_13 ?_
  refine g_goto (tgt := 18) K (by decide) dJ0_isLatin1_aae02_14 ?_
  exact g_zret K rfl dJ0_isLatin1_aae02_18 (bq1 (oi h)) rfl
set_option maxHeartbeats 4000000 in
set_option maxRecDepth 20000 in
theorem w_f_JS_length0 {X : XT} {M : Mem} {j : Nat} {r : Int32} (hj : j < nS)  (h : f_JS_length0 j = some r) : CT layX X 1 yJ0_length_8abf5 cJ0_length_8abf5 1 (some .int) [.ref (X.2.2.2.1 (2000 + j))] M M (some (.int r)) := by
  refine CT.of rfl (Nat.le_of_ble_eq_true rfl) (lv := [(0, .ref (X.2.2.2.1 (2000 + j)))]) rfl (fun Γ K => ?_)
  have K : Kx layX X Γ RJ0 cJ0_length_8abf5 1 1 (some .int) := K
  unfold f_JS_length0 at h
  refine g_aload_n (pn := 1) K rfl 0 rfl dJ0_length_8abf5_0 ?_
  refine g_value (pn := 4) K rfl hj fs_J0_9 dJ0_length_8abf5_1 ?_
  refine g_blen (pn := 5) K rfl hj dJ0_length_8abf5_4 ?_
  refine g_aload_n (pn := 6) K rfl 0 rfl dJ0_length_8abf5_5 ?_
  obtain ⟨v2, hc1, h⟩ := ob_e h
  have e9 : 0 = v2 := oi (show some 0 = some v2 from hc1)
  subst e9
  refine g_callV1 (pn := 9) (As := []) (rest := [.int (nI (lenS.getD j 0))]) (a := (2000 + j)) K rfl (d' := 0) (Nat.le_of_ble_eq_true rfl) mv_J0_335 (recvS K hj) (w_f_JS_coder0 hj hc1) rfl rfl (Nat.le_of_ble_eq_true rfl) dJ0_length_8abf5_6 ?_
  refine g_ishr (pn := 10) K rfl dJ0_length_8abf5_9 ?_
  exact g_iret K dJ0_length_8abf5_10 (oi h) rfl
set_option maxHeartbeats 4000000 in
set_option maxRecDepth 20000 in
theorem w_f_JL_charAt2 {X : XT} {M : Mem} {j1 : Nat} {a2 : Int32} {r : Int32} (hj1 : j1 < nS)  (h : f_JL_charAt2 j1 a2 = some r) : CT layX X 2 yJ1_charAt_3b067 cJ1_charAt_3b067 2 (some .char) [.ref (X.2.2.2.1 (3000 + j1)), .int a2] M M (some (.int r)) := by
  refine CT.of rfl (Nat.le_of_ble_eq_true rfl) (lv := [(0, .ref (X.2.2.2.1 (3000 + j1))), (1, .int a2)]) rfl (fun Γ K => ?_)
  have K : Kx layX X Γ RJ1 cJ1_charAt_3b067 2 2 (some .char) := K
  unfold f_JL_charAt2 at h
  refine g_iload_n (pn := 1) K rfl 1 rfl dJ1_charAt_3b067_0 ?_
  refine g_aload_n (pn := 2) K rfl 0 rfl dJ1_charAt_3b067_1 ?_
  refine g_blen (pn := 3) K rfl hj1 dJ1_charAt_3b067_2 ?_
  obtain ⟨v2, hc1, h⟩ := ob_e h
  refine g_callS0 (pn := 6) (As := [.int a2, .int (nI (lenS.getD j1 0))]) (rest := []) K rfl (d' := 1) (Nat.le_of_ble_eq_true rfl) ms_J1_9 (w_f_JS_checkIndex2 hc1) rfl rfl (Nat.le_of_ble_eq_true rfl) dJ1_charAt_3b067_3 ?_
  refine g_aload_n (pn := 7) K rfl 0 rfl dJ1_charAt_3b067_6 ?_
  refine g_iload_n (pn := 8) K rfl 1 rfl dJ1_charAt_3b067_7 ?_
  refine g_bald (pn := 9) (n := lenS.getD j1 0) K rfl hj1 rfl dJ1_charAt_3b067_8 h (fun h => ?_)
  refine g_sipush (pn := 12) (v := 255) K rfl sp_255 dJ1_charAt_3b067_9 ?_
  refine g_iand (pn := 13) K rfl dJ1_charAt_3b067_12 ?_
  refine g_i2c (pn := 14) K rfl dJ1_charAt_3b067_13 ?_
  exact g_zret K (pk_nc _) dJ1_charAt_3b067_14 (oi h) rfl
set_option maxHeartbeats 4000000 in
set_option maxRecDepth 20000 in
theorem w_f_JS_charAt1 {X : XT} {M : Mem} {j : Nat} {a1 : Int32} {r : Int32} (hj : j < nS)  (h : f_JS_charAt1 j a1 = some r) : CT layX X 3 yJ0_charAt_5068e cJ0_charAt_5068e 2 (some .char) [.ref (X.2.2.2.1 (2000 + j)), .int a1] M M (some (.int r)) := by
  refine CT.of rfl (Nat.le_of_ble_eq_true rfl) (lv := [(0, .ref (X.2.2.2.1 (2000 + j))), (1, .int a1)]) rfl (fun Γ K => ?_)
  have K : Kx layX X Γ RJ0 cJ0_charAt_5068e 2 3 (some .char) := K
  unfold f_JS_charAt1 at h
  refine g_aload_n (pn := 1) K rfl 0 rfl dJ0_charAt_5068e_0 ?_
  obtain ⟨v2, hc1, h⟩ := ob_e h
  have e9 : true = v2 := oi (show some true = some v2 from hc1)
  subst e9
  refine g_callV1 (pn := 4) (As := []) (rest := []) (a := (2000 + j)) K rfl (d' := 0) (Nat.le_of_ble_eq_true rfl) mv_J0_492 (recvS K hj) (w_f_JS_isLatin10 hj hc1) rfl rfl (Nat.le_of_ble_eq_true rfl) dJ0_charAt_5068e_1 ?_
  refine g_ifF_eq (tgt := 16) (pn := 7) K rfl (by decide) dJ0_charAt_5068e_4 (by decide) ?_
  refine g_aload_n (pn := 8) K rfl 0 rfl dJ0_charAt_5068e_7 ?_
  refine g_value (pn := 11) K rfl hj fs_J0_9 dJ0_charAt_5068e_8 ?_
  refine g_iload_n (pn := 12) K rfl 1 rfl dJ0_charAt_5068e_11 ?_
  obtain ⟨v4, hc3, h⟩ := ob_e h
  refine g_callS1 (pn := 15) (As := [.ref (X.2.2.2.1 (3000 + j)), .int a1]) (rest := []) K rfl (d' := 2) (Nat.le_of_ble_eq_true rfl) ms_J0_495 (w_f_JL_charAt2 hj hc3) rfl rfl (Nat.le_of_ble_eq_true rfl) dJ0_charAt_5068e_12 ?_
  exact g_zret K (charAt_nar hc3) dJ0_charAt_5068e_15 (oi h) rfl
set_option maxHeartbeats 4000000 in
set_option maxRecDepth 20000 in
theorem w_f_JL_canEncode1 {X : XT} {M : Mem} {a1 : Int32} {r : Bool}   (h : f_JL_canEncode1 a1 = some r) : CT layX X 0 yJ1_canEncode_9a6ad cJ1_canEncode_9a6ad 1 (some .boolean) [.int a1] M M (some (.int (b2i r))) := by
  refine CT.of rfl (Nat.le_of_ble_eq_true rfl) (lv := [(0, .int a1)]) rfl (fun Γ K => ?_)
  have K : Kx layX X Γ RJ1 cJ1_canEncode_9a6ad 1 0 (some .boolean) := K
  unfold f_JL_canEncode1 at h
  refine g_iload_n (pn := 1) K rfl 0 rfl dJ1_canEncode_9a6ad_0 ?_
  refine g_if_lt (tgt := 15) (pn := 4) K rfl (by decide) dJ1_canEncode_9a6ad_1 h (fun h => ?_) (fun h => ?_)
  · refine g_iconst (pn := 16) (v := 0) K rfl ic_0 dJ1_canEncode_9a6ad_15 ?_
    exact g_zret K rfl dJ1_canEncode_9a6ad_16 (bq0 (oi h)) rfl
  · refine g_iload_n (pn := 5) K rfl 0 rfl dJ1_canEncode_9a6ad_4 ?_
    refine g_sipush (pn := 8) (v := 255) K rfl sp_255 dJ1_canEncode_9a6ad_5 ?_
    refine g_icmp_gt (tgt := 15) (pn := 11) K rfl (by decide) dJ1_canEncode_9a6ad_8 h (fun h => ?_) (fun h => ?_)
    · refine g_iconst (pn := 16) (v := 0) K rfl ic_0 dJ1_canEncode_9a6ad_15 ?_
      exact g_zret K rfl dJ1_canEncode_9a6ad_16 (bq0 (oi h)) rfl
    · refine g_iconst (pn := 12) (v := 1) K rfl ic_1 dJ1_canEncode_9a6ad_11 ?_
      refine g_goto (tgt := 16) K (by decide) dJ1_canEncode_9a6ad_12 ?_
      exact g_zret K rfl dJ1_canEncode_9a6ad_16 (bq1 (oi h)) rfl
set_option maxHeartbeats 4000000 in
set_option maxRecDepth 20000 in
theorem w_f_JL_indexOfChar4 {X : XT} {M : Mem} {j1 : Nat} {a2 : Int32} {a3 : Int32} {a4 : Int32} {r : Int32} (hj1 : j1 < nS)  (h : f_JL_indexOfChar4 j1 a2 a3 a4 = some r) : CT layX X 0 yJ1_indexOfChar_4cfef cJ1_indexOfChar_4cfef 6 (some .int) [.ref (X.2.2.2.1 (3000 + j1)), .int a2, .int a3, .int a4] M M (some (.int r)) := by
  refine CT.of rfl (Nat.le_of_ble_eq_true rfl) (lv := [(0, .ref (X.2.2.2.1 (3000 + j1))), (1, .int a2), (2, .int a3), (3, .int a4)]) rfl (fun Γ K => ?_)
  have K : Kx layX X Γ RJ1 cJ1_indexOfChar_4cfef 6 0 (some .int) := K
  unfold f_JL_indexOfChar4 at h
  refine g_iload_n (pn := 1) K rfl 1 rfl dJ1_indexOfChar_4cfef_0 ?_
  refine g_i2b (pn := 2) K rfl dJ1_indexOfChar_4cfef_1 ?_
  refine g_nmi h (fun v1 h => ?_)
  refine g_istore (pn := 4) (lv' := [(4, .int v1), (0, .ref (X.2.2.2.1 (3000 + j1))), (1, .int a2), (2, .int a3), (3, .int a4)]) K rfl dJ1_indexOfChar_4cfef_2 (Nat.le_of_ble_eq_true rfl) rfl ?_
  refine g_iload_n (pn := 5) K rfl 3 rfl dJ1_indexOfChar_4cfef_4 ?_
  refine g_istore (pn := 7) (lv' := [(5, .int a3), (4, .int v1), (0, .ref (X.2.2.2.1 (3000 + j1))), (1, .int a2), (2, .int a3), (3, .int a4)]) K rfl dJ1_indexOfChar_4cfef_5 (Nat.le_of_ble_eq_true rfl) rfl ?_
  refine jp_e1 h (fun u2 => G layX X Γ 6 (QM layX X Γ (some (.int r)) M) 31 [] [] M) (fun u2 h => ?_) (fun j3 hj3 h => ?_)
  · refine g_iconst (pn := 32) (v := (-1)) K rfl ic_m1 dJ1_indexOfChar_4cfef_31 ?_
    exact g_iret K dJ1_indexOfChar_4cfef_32 (oi h) rfl
  have LP7 : ∀ (fu5 : Nat) (v4 : Int32), f_JL_indexOfChar4_L7 j1 a4 v1 j3 fu5 v4 = some r → G layX X Γ 6 (QM layX X Γ (some (.int r)) M) 7 [(4, .int v1), (0, .ref (X.2.2.2.1 (3000 + j1))), (3, .int a4), (5, .int v4)] [] M := by
    intro fu5
    induction fu5 with
    | zero =>
      intro v4 h
      rw [f_JL_indexOfChar4_L7] at h
      cases h
    | succ fu5 ih5 =>
      intro v4 h
      rw [f_JL_indexOfChar4_L7] at h
      refine g_iload (pn := 9) K rfl 3 rfl dJ1_indexOfChar_4cfef_7 ?_
      refine g_iload_n (pn := 10) K rfl 2 rfl dJ1_indexOfChar_4cfef_9 ?_
      refine g_icmp_ge (tgt := 31) (pn := 13) K rfl (by decide) dJ1_indexOfChar_4cfef_10 h (fun h => ?_) (fun h => ?_)
      · refine g_sub [] rfl ?_
        exact hj3 _ h
      · refine g_aload_n (pn := 14) K rfl 1 rfl dJ1_indexOfChar_4cfef_13 ?_
        refine g_iload (pn := 16) K rfl 3 rfl dJ1_indexOfChar_4cfef_14 ?_
        refine g_bald (pn := 17) (n := lenS.getD j1 0) K rfl hj1 rfl dJ1_indexOfChar_4cfef_16 h (fun h => ?_)
        refine g_iload (pn := 19) K rfl 0 rfl dJ1_indexOfChar_4cfef_17 ?_
        refine g_icmp_ne (tgt := 25) (pn := 22) K rfl (by decide) dJ1_indexOfChar_4cfef_19 h (fun h => ?_) (fun h => ?_)
        · obtain ⟨v6, ev6, h⟩ := bnd_e h
          refine g_iinc (pn := 28) (v := v6) (lv' := [(5, .int v6), (4, .int v1), (0, .ref (X.2.2.2.1 (3000 + j1))), (3, .int a4)]) K rfl 3 rfl ii_1 ev6 dJ1_indexOfChar_4cfef_25 (Nat.le_of_ble_eq_true rfl) rfl ?_
          refine g_goto (tgt := 7) K (by decide) dJ1_indexOfChar_4cfef_28 ?_
          refine g_sub [1, 2, 3, 0] rfl ?_
          exact ih5 _ h
        · refine g_iload (pn := 24) K rfl 3 rfl dJ1_indexOfChar_4cfef_22 ?_
          exact g_iret K dJ1_indexOfChar_4cfef_24 (oi h) rfl
  refine g_sub [1, 2, 5, 0] rfl ?_
  exact LP7 FU _ h
set_option maxHeartbeats 4000000 in
set_option maxRecDepth 20000 in
theorem w_f_JL_indexOf4 {X : XT} {M : Mem} {j1 : Nat} {a2 : Int32} {a3 : Int32} {a4 : Int32} {r : Int32} (hj1 : j1 < nS)  (h : f_JL_indexOf4 j1 a2 a3 a4 = some r) : CT layX X 1 yJ1_indexOf_4cfef cJ1_indexOf_4cfef 4 (some .int) [.ref (X.2.2.2.1 (3000 + j1)), .int a2, .int a3, .int a4] M M (some (.int r)) := by
  refine CT.of rfl (Nat.le_of_ble_eq_true rfl) (lv := [(0, .ref (X.2.2.2.1 (3000 + j1))), (1, .int a2), (2, .int a3), (3, .int a4)]) rfl (fun Γ K => ?_)
  have K : Kx layX X Γ RJ1 cJ1_indexOf_4cfef 4 1 (some .int) := K
  unfold f_JL_indexOf4 at h
  refine g_iload_n (pn := 1) K rfl 1 rfl dJ1_indexOf_4cfef_0 ?_
  obtain ⟨v2, hc1, h⟩ := ob_e h
  refine g_callS1 (pn := 4) (As := [.int a2]) (rest := []) K rfl (d' := 0) (Nat.le_of_ble_eq_true rfl) ms_J1_88 (w_f_JL_canEncode1 hc1) rfl rfl (Nat.le_of_ble_eq_true rfl) dJ1_indexOf_4cfef_1 ?_
  refine g_ifB_ne (tgt := 9) (pn := 7) K rfl (by decide) dJ1_indexOf_4cfef_4 h (fun h => ?_) (fun h => ?_)
  · refine g_iload_n (pn := 10) K rfl 2 rfl dJ1_indexOf_4cfef_9 ?_
    refine g_iconst (pn := 11) (v := 0) K rfl ic_0 dJ1_indexOf_4cfef_10 ?_
    refine g_mmax (pn := 14) K rfl (by decide) mm_J1_92 mm_max_s mm_i mm_max_c (Nat.le_of_ble_eq_true rfl) dJ1_indexOf_4cfef_11 ?_
    refine g_nmi h (fun v3 h => ?_)
    refine g_istore_n (pn := 15) (lv' := [(2, .int v3), (0, .ref (X.2.2.2.1 (3000 + j1))), (1, .int a2), (3, .int a4)]) K rfl dJ1_indexOf_4cfef_14 rfl (Nat.le_of_ble_eq_true rfl) rfl ?_
    refine g_iload_n (pn := 16) K rfl 3 rfl dJ1_indexOf_4cfef_15 ?_
    refine g_aload_n (pn := 17) K rfl 1 rfl dJ1_indexOf_4cfef_16 ?_
    refine g_blen (pn := 18) K rfl hj1 dJ1_indexOf_4cfef_17 ?_
    refine g_mmin (pn := 21) K rfl (by decide) mm_J1_38 mm_min_s mm_i mm_min_c (Nat.le_of_ble_eq_true rfl) dJ1_indexOf_4cfef_18 ?_
    refine g_nmi h (fun v4 h => ?_)
    refine g_istore_n (pn := 22) (lv' := [(3, .int v4), (2, .int v3), (0, .ref (X.2.2.2.1 (3000 + j1))), (1, .int a2)]) K rfl dJ1_indexOf_4cfef_21 rfl (Nat.le_of_ble_eq_true rfl) rfl ?_
    refine g_iload_n (pn := 23) K rfl 1 rfl dJ1_indexOf_4cfef_22 ?_
    refine g_iload_n (pn := 24) K rfl 0 rfl dJ1_indexOf_4cfef_23 ?_
    refine g_icmp_lt (tgt := 29) (pn := 27) K rfl (by decide) dJ1_indexOf_4cfef_24 h (fun h => ?_) (fun h => ?_)
    · refine g_aload_n (pn := 30) K rfl 2 rfl dJ1_indexOf_4cfef_29 ?_
      refine g_iload_n (pn := 31) K rfl 3 rfl dJ1_indexOf_4cfef_30 ?_
      refine g_iload_n (pn := 32) K rfl 1 rfl dJ1_indexOf_4cfef_31 ?_
      refine g_iload_n (pn := 33) K rfl 0 rfl dJ1_indexOf_4cfef_32 ?_
      obtain ⟨v6, hc5, h⟩ := ob_e h
      refine g_callS1 (pn := 36) (As := [.ref (X.2.2.2.1 (3000 + j1)), .int a2, .int v3, .int v4]) (rest := []) K rfl (d' := 0) (Nat.le_of_ble_eq_true rfl) ms_J1_95 (w_f_JL_indexOfChar4 hj1 hc5) rfl rfl (Nat.le_of_ble_eq_true rfl) dJ1_indexOf_4cfef_33 ?_
      exact g_iret K dJ1_indexOf_4cfef_36 (oi h) rfl
    · refine g_iconst (pn := 28) (v := (-1)) K rfl ic_m1 dJ1_indexOf_4cfef_27 ?_
      exact g_iret K dJ1_indexOf_4cfef_28 (oi h) rfl
  · refine g_iconst (pn := 8) (v := (-1)) K rfl ic_m1 dJ1_indexOf_4cfef_7 ?_
    exact g_iret K dJ1_indexOf_4cfef_8 (oi h) rfl
set_option maxHeartbeats 4000000 in
set_option maxRecDepth 20000 in
theorem w_f_JS_indexOf2 {X : XT} {M : Mem} {j : Nat} {a1 : Int32} {a2 : Int32} {r : Int32} (hj : j < nS)  (h : f_JS_indexOf2 j a1 a2 = some r) : CT layX X 2 yJ0_indexOf_7cf53 cJ0_indexOf_7cf53 3 (some .int) [.ref (X.2.2.2.1 (2000 + j)), .int a1, .int a2] M M (some (.int r)) := by
  refine CT.of rfl (Nat.le_of_ble_eq_true rfl) (lv := [(0, .ref (X.2.2.2.1 (2000 + j))), (1, .int a1), (2, .int a2)]) rfl (fun Γ K => ?_)
  have K : Kx layX X Γ RJ0 cJ0_indexOf_7cf53 3 2 (some .int) := K
  unfold f_JS_indexOf2 at h
  refine g_aload_n (pn := 1) K rfl 0 rfl dJ0_indexOf_7cf53_0 ?_
  obtain ⟨v2, hc1, h⟩ := ob_e h
  have e9 : true = v2 := oi (show some true = some v2 from hc1)
  subst e9
  refine g_callV1 (pn := 4) (As := []) (rest := []) (a := (2000 + j)) K rfl (d' := 0) (Nat.le_of_ble_eq_true rfl) mv_J0_492 (recvS K hj) (w_f_JS_isLatin10 hj hc1) rfl rfl (Nat.le_of_ble_eq_true rfl) dJ0_indexOf_7cf53_1 ?_
  refine g_ifF_eq (tgt := 23) (pn := 7) K rfl (by decide) dJ0_indexOf_7cf53_4 (by decide) ?_
  refine g_aload_n (pn := 8) K rfl 0 rfl dJ0_indexOf_7cf53_7 ?_
  refine g_value (pn := 11) K rfl hj fs_J0_9 dJ0_indexOf_7cf53_8 ?_
  refine g_iload_n (pn := 12) K rfl 1 rfl dJ0_indexOf_7cf53_11 ?_
  refine g_iload_n (pn := 13) K rfl 2 rfl dJ0_indexOf_7cf53_12 ?_
  refine g_aload_n (pn := 14) K rfl 0 rfl dJ0_indexOf_7cf53_13 ?_
  obtain ⟨v4, hc3, h⟩ := ob_e h
  refine g_callV1 (pn := 17) (As := []) (rest := [.int a2, .int a1, .ref (X.2.2.2.1 (3000 + j))]) (a := (2000 + j)) K rfl (d' := 1) (Nat.le_of_ble_eq_true rfl) mv_J0_505 (recvS K hj) (w_f_JS_length0 hj hc3) rfl rfl (Nat.le_of_ble_eq_true rfl) dJ0_indexOf_7cf53_14 ?_
  obtain ⟨v6, hc5, h⟩ := ob_e h
  refine g_callS1 (pn := 20) (As := [.ref (X.2.2.2.1 (3000 + j)), .int a1, .int a2, .int v4]) (rest := []) K rfl (d' := 1) (Nat.le_of_ble_eq_true rfl) ms_J0_637 (w_f_JL_indexOf4 hj hc5) rfl rfl (Nat.le_of_ble_eq_true rfl) dJ0_indexOf_7cf53_17 ?_
  refine g_goto (tgt := 36) K (by decide) dJ0_indexOf_7cf53_20 ?_
  exact g_iret K dJ0_indexOf_7cf53_36 (oi h) rfl
set_option maxHeartbeats 4000000 in
set_option maxRecDepth 20000 in
theorem w_f_JS_indexOf1 {X : XT} {M : Mem} {j : Nat} {a1 : Int32} {r : Int32} (hj : j < nS)  (h : f_JS_indexOf1 j a1 = some r) : CT layX X 3 yJ0_indexOf_0f7a4 cJ0_indexOf_0f7a4 2 (some .int) [.ref (X.2.2.2.1 (2000 + j)), .int a1] M M (some (.int r)) := by
  refine CT.of rfl (Nat.le_of_ble_eq_true rfl) (lv := [(0, .ref (X.2.2.2.1 (2000 + j))), (1, .int a1)]) rfl (fun Γ K => ?_)
  have K : Kx layX X Γ RJ0 cJ0_indexOf_0f7a4 2 3 (some .int) := K
  unfold f_JS_indexOf1 at h
  refine g_aload_n (pn := 1) K rfl 0 rfl dJ0_indexOf_0f7a4_0 ?_
  refine g_iload_n (pn := 2) K rfl 1 rfl dJ0_indexOf_0f7a4_1 ?_
  refine g_iconst (pn := 3) (v := 0) K rfl ic_0 dJ0_indexOf_0f7a4_2 ?_
  obtain ⟨v2, hc1, h⟩ := ob_e h
  refine g_callV1 (pn := 6) (As := [.int a1, .int 0]) (rest := []) (a := (2000 + j)) K rfl (d' := 2) (Nat.le_of_ble_eq_true rfl) mv_J0_633 (recvS K hj) (w_f_JS_indexOf2 hj hc1) rfl rfl (Nat.le_of_ble_eq_true rfl) dJ0_indexOf_0f7a4_3 ?_
  exact g_iret K dJ0_indexOf_0f7a4_6 (oi h) rfl
set_option maxHeartbeats 4000000 in
set_option maxRecDepth 20000 in
theorem w_f_JI_bitCount1 {X : XT} {M : Mem} {a1 : Int32} {r : Int32}   (h : f_JI_bitCount1 a1 = some r) : CT layX X 0 yJ6_bitCount_0f7a4 cJ6_bitCount_0f7a4 1 (some .int) [.int a1] M M (some (.int r)) := by
  refine CT.of rfl (Nat.le_of_ble_eq_true rfl) (lv := [(0, .int a1)]) rfl (fun Γ K => ?_)
  have K : Kx layX X Γ RJ6 cJ6_bitCount_0f7a4 1 0 (some .int) := K
  unfold f_JI_bitCount1 at h
  refine g_iload_n (pn := 1) K rfl 0 rfl dJ6_bitCount_0f7a4_0 ?_
  refine g_iload_n (pn := 2) K rfl 0 rfl dJ6_bitCount_0f7a4_1 ?_
  refine g_iconst (pn := 3) (v := 1) K rfl ic_1 dJ6_bitCount_0f7a4_2 ?_
  refine g_iushr (pn := 4) K rfl dJ6_bitCount_0f7a4_3 ?_
  refine g_ldcw (pn := 7) (v := 1431655765) K rfl cn_J6_265 dJ6_bitCount_0f7a4_4 ?_
  refine g_iand (pn := 8) K rfl dJ6_bitCount_0f7a4_7 ?_
  refine g_isub (pn := 9) K rfl dJ6_bitCount_0f7a4_8 ?_
  refine g_nmi h (fun v1 h => ?_)
  refine g_istore_n (pn := 10) (lv' := [(0, .int v1)]) K rfl dJ6_bitCount_0f7a4_9 rfl (Nat.le_of_ble_eq_true rfl) rfl ?_
  refine g_iload_n (pn := 11) K rfl 0 rfl dJ6_bitCount_0f7a4_10 ?_
  refine g_ldcw (pn := 14) (v := 858993459) K rfl cn_J6_266 dJ6_bitCount_0f7a4_11 ?_
  refine g_iand (pn := 15) K rfl dJ6_bitCount_0f7a4_14 ?_
  refine g_iload_n (pn := 16) K rfl 0 rfl dJ6_bitCount_0f7a4_15 ?_
  refine g_iconst (pn := 17) (v := 2) K rfl ic_2 dJ6_bitCount_0f7a4_16 ?_
  refine g_iushr (pn := 18) K rfl dJ6_bitCount_0f7a4_17 ?_
  refine g_ldcw (pn := 21) (v := 858993459) K rfl cn_J6_266 dJ6_bitCount_0f7a4_18 ?_
  refine g_iand (pn := 22) K rfl dJ6_bitCount_0f7a4_21 ?_
  refine g_iadd (pn := 23) K rfl dJ6_bitCount_0f7a4_22 ?_
  refine g_nmi h (fun v2 h => ?_)
  refine g_istore_n (pn := 24) (lv' := [(0, .int v2)]) K rfl dJ6_bitCount_0f7a4_23 rfl (Nat.le_of_ble_eq_true rfl) rfl ?_
  refine g_iload_n (pn := 25) K rfl 0 rfl dJ6_bitCount_0f7a4_24 ?_
  refine g_iload_n (pn := 26) K rfl 0 rfl dJ6_bitCount_0f7a4_25 ?_
  refine g_iconst (pn := 27) (v := 4) K rfl ic_4 dJ6_bitCount_0f7a4_26 ?_
  refine g_iushr (pn := 28) K rfl dJ6_bitCount_0f7a4_27 ?_
  refine g_iadd (pn := 29) K rfl dJ6_bitCount_0f7a4_28 ?_
  refine g_ldcw (pn := 32) (v := 252645135) K rfl cn_J6_267 dJ6_bitCount_0f7a4_29 ?_
  refine g_iand (pn := 33) K rfl dJ6_bitCount_0f7a4_32 ?_
  refine g_nmi h (fun v3 h => ?_)
  refine g_istore_n (pn := 34) (lv' := [(0, .int v3)]) K rfl dJ6_bitCount_0f7a4_33 rfl (Nat.le_of_ble_eq_true rfl) rfl ?_
  refine g_iload_n (pn := 35) K rfl 0 rfl dJ6_bitCount_0f7a4_34 ?_
  refine g_iload_n (pn := 36) K rfl 0 rfl dJ6_bitCount_0f7a4_35 ?_
  refine g_bipush (pn := 38) (v := 8) K rfl bp_8 dJ6_bitCount_0f7a4_36 ?_
  refine g_iushr (pn := 39) K rfl dJ6_bitCount_0f7a4_38 ?_
  refine g_iadd (pn := 40) K rfl dJ6_bitCount_0f7a4_39 ?_
  refine g_nmi h (fun v4 h => ?_)
  refine g_istore_n (pn := 41) (lv' := [(0, .int v4)]) K rfl dJ6_bitCount_0f7a4_40 rfl (Nat.le_of_ble_eq_true rfl) rfl ?_
  refine g_iload_n (pn := 42) K rfl 0 rfl dJ6_bitCount_0f7a4_41 ?_
  refine g_iload_n (pn := 43) K rfl 0 rfl dJ6_bitCount_0f7a4_42 ?_
  refine g_bipush (pn := 45) (v := 16) K rfl bp_16 dJ6_bitCount_0f7a4_43 ?_
  refine g_iushr (pn := 46) K rfl dJ6_bitCount_0f7a4_45 ?_
  refine g_iadd (pn := 47) K rfl dJ6_bitCount_0f7a4_46 ?_
  refine g_nmi h (fun v5 h => ?_)
  refine g_istore_n (pn := 48) (lv' := [(0, .int v5)]) K rfl dJ6_bitCount_0f7a4_47 rfl (Nat.le_of_ble_eq_true rfl) rfl ?_
  refine g_iload_n (pn := 49) K rfl 0 rfl dJ6_bitCount_0f7a4_48 ?_
  refine g_bipush (pn := 51) (v := 63) K rfl bp_63 dJ6_bitCount_0f7a4_49 ?_
  refine g_iand (pn := 52) K rfl dJ6_bitCount_0f7a4_51 ?_
  exact g_iret K dJ6_bitCount_0f7a4_52 (oi h) rfl
