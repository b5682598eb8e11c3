/-! printed by gen1.py -/
theorem dX3_token_0 : decode cX3_token 0 = .ok (.aload_n 0, 1) := by decide +kernel
theorem dX3_token_1 : decode cX3_token 1 = .ok (.getfield 26, 3) := by decide +kernel
theorem dX3_token_4 : decode cX3_token 4 = .ok (.iconst (-1), 1) := by decide +kernel
theorem dX3_token_5 : decode cX3_token 5 = .ok (.if_icmp .ne 35, 3) := by decide +kernel
theorem dX3_token_8 : decode cX3_token 8 = .ok (.aload_n 0, 1) := by decide +kernel
theorem dX3_token_9 : decode cX3_token 9 = .ok (.getfield 32, 3) := by decide +kernel
theorem dX3_token_12 : decode cX3_token 12 = .ok (.ifCond .lt 28, 3) := by decide +kernel
theorem dX3_token_15 : decode cX3_token 15 = .ok (.aload_n 0, 1) := by decide +kernel
theorem dX3_token_16 : decode cX3_token 16 = .ok (.getfield 32, 3) := by decide +kernel
theorem dX3_token_19 : decode cX3_token 19 = .ok (.sipush 160, 3) := by decide +kernel
theorem dX3_token_22 : decode cX3_token 22 = .ok (.if_icmp .gt 18, 3) := by decide +kernel
theorem dX3_token_25 : decode cX3_token 25 = .ok (.aload_n 0, 1) := by decide +kernel
theorem dX3_token_26 : decode cX3_token 26 = .ok (.getfield 18, 3) := by decide +kernel
theorem dX3_token_29 : decode cX3_token 29 = .ok (.getfield 54, 3) := by decide +kernel
theorem dX3_token_32 : decode cX3_token 32 = .ok (.aload_n 0, 1) := by decide +kernel
theorem dX3_token_33 : decode cX3_token 33 = .ok (.getfield 32, 3) := by decide +kernel
theorem dX3_token_36 : decode cX3_token 36 = .ok (.iaload, 1) := by decide +kernel
theorem dX3_token_37 : decode cX3_token 37 = .ok (.goto 5, 3) := by decide +kernel
theorem dX3_token_40 : decode cX3_token 40 = .ok (.bipush 15, 2) := by decide +kernel
theorem dX3_token_42 : decode cX3_token 42 = .ok (.ireturn, 1) := by decide +kernel
theorem dX3_is_0 : decode cX3_is 0 = .ok (.aload_n 0, 1) := by decide +kernel
theorem dX3_is_1 : decode cX3_is 1 = .ok (.invokevirtual 50, 3) := by decide +kernel
theorem dX3_is_4 : decode cX3_is 4 = .ok (.iload_n 1, 1) := by decide +kernel
theorem dX3_is_5 : decode cX3_is 5 = .ok (.if_icmp .ne 7, 3) := by decide +kernel
theorem dX3_is_8 : decode cX3_is 8 = .ok (.iconst 1, 1) := by decide +kernel
theorem dX3_is_9 : decode cX3_is 9 = .ok (.goto 4, 3) := by decide +kernel
theorem dX3_is_12 : decode cX3_is 12 = .ok (.iconst 0, 1) := by decide +kernel
theorem dX3_is_13 : decode cX3_is 13 = .ok (.ireturn, 1) := by decide +kernel
theorem dX3_next_0 : decode cX3_next 0 = .ok (.aload_n 0, 1) := by decide +kernel
theorem dX3_next_1 : decode cX3_next 1 = .ok (.getfield 32, 3) := by decide +kernel
theorem dX3_next_4 : decode cX3_next 4 = .ok (.aload_n 0, 1) := by decide +kernel
theorem dX3_next_5 : decode cX3_next 5 = .ok (.getfield 18, 3) := by decide +kernel
theorem dX3_next_8 : decode cX3_next 8 = .ok (.getfield 58, 3) := by decide +kernel
theorem dX3_next_11 : decode cX3_next 11 = .ok (.if_icmp .ge 23, 3) := by decide +kernel
theorem dX3_next_14 : decode cX3_next 14 = .ok (.aload_n 0, 1) := by decide +kernel
theorem dX3_next_15 : decode cX3_next 15 = .ok (.getfield 32, 3) := by decide +kernel
theorem dX3_next_18 : decode cX3_next 18 = .ok (.sipush 160, 3) := by decide +kernel
theorem dX3_next_21 : decode cX3_next 21 = .ok (.if_icmp .ge 13, 3) := by decide +kernel
theorem dX3_next_24 : decode cX3_next 24 = .ok (.aload_n 0, 1) := by decide +kernel
theorem dX3_next_25 : decode cX3_next 25 = .ok (.dup, 1) := by decide +kernel
theorem dX3_next_26 : decode cX3_next 26 = .ok (.getfield 32, 3) := by decide +kernel
theorem dX3_next_29 : decode cX3_next 29 = .ok (.iconst 1, 1) := by decide +kernel
theorem dX3_next_30 : decode cX3_next 30 = .ok (.iadd, 1) := by decide +kernel
theorem dX3_next_31 : decode cX3_next 31 = .ok (.putfield 32, 3) := by decide +kernel
theorem dX3_next_34 : decode cX3_next 34 = .ok (.return_, 1) := by decide +kernel
theorem dX3_fail_0 : decode cX3_fail 0 = .ok (.aload_n 0, 1) := by decide +kernel
theorem dX3_fail_1 : decode cX3_fail 1 = .ok (.getfield 26, 3) := by decide +kernel
theorem dX3_fail_4 : decode cX3_fail 4 = .ok (.iconst (-1), 1) := by decide +kernel
theorem dX3_fail_5 : decode cX3_fail 5 = .ok (.if_icmp .ne 46, 3) := by decide +kernel
theorem dX3_fail_8 : decode cX3_fail 8 = .ok (.aload_n 0, 1) := by decide +kernel
theorem dX3_fail_9 : decode cX3_fail 9 = .ok (.aload_n 0, 1) := by decide +kernel
theorem dX3_fail_10 : decode cX3_fail 10 = .ok (.getfield 32, 3) := by decide +kernel
theorem dX3_fail_13 : decode cX3_fail 13 = .ok (.ifCond .lt 28, 3) := by decide +kernel
theorem dX3_fail_16 : decode cX3_fail 16 = .ok (.aload_n 0, 1) := by decide +kernel
theorem dX3_fail_17 : decode cX3_fail 17 = .ok (.getfield 32, 3) := by decide +kernel
theorem dX3_fail_20 : decode cX3_fail 20 = .ok (.sipush 160, 3) := by decide +kernel
theorem dX3_fail_23 : decode cX3_fail 23 = .ok (.if_icmp .gt 18, 3) := by decide +kernel
theorem dX3_fail_26 : decode cX3_fail 26 = .ok (.aload_n 0, 1) := by decide +kernel
theorem dX3_fail_27 : decode cX3_fail 27 = .ok (.getfield 18, 3) := by decide +kernel
theorem dX3_fail_30 : decode cX3_fail 30 = .ok (.getfield 61, 3) := by decide +kernel
theorem dX3_fail_33 : decode cX3_fail 33 = .ok (.aload_n 0, 1) := by decide +kernel
theorem dX3_fail_34 : decode cX3_fail 34 = .ok (.getfield 32, 3) := by decide +kernel
theorem dX3_fail_37 : decode cX3_fail 37 = .ok (.iaload, 1) := by decide +kernel
theorem dX3_fail_38 : decode cX3_fail 38 = .ok (.goto 10, 3) := by decide +kernel
theorem dX3_fail_41 : decode cX3_fail 41 = .ok (.aload_n 0, 1) := by decide +kernel
theorem dX3_fail_42 : decode cX3_fail 42 = .ok (.getfield 18, 3) := by decide +kernel
theorem dX3_fail_45 : decode cX3_fail 45 = .ok (.getfield 64, 3) := by decide +kernel
theorem dX3_fail_48 : decode cX3_fail 48 = .ok (.putfield 26, 3) := by decide +kernel
theorem dX3_fail_51 : decode cX3_fail 51 = .ok (.return_, 1) := by decide +kernel
theorem dX3_expect_0 : decode cX3_expect 0 = .ok (.aload_n 0, 1) := by decide +kernel
theorem dX3_expect_1 : decode cX3_expect 1 = .ok (.iload_n 1, 1) := by decide +kernel
theorem dX3_expect_2 : decode cX3_expect 2 = .ok (.invokevirtual 67, 3) := by decide +kernel
theorem dX3_expect_5 : decode cX3_expect 5 = .ok (.ifCond .eq 10, 3) := by decide +kernel
theorem dX3_expect_8 : decode cX3_expect 8 = .ok (.aload_n 0, 1) := by decide +kernel
theorem dX3_expect_9 : decode cX3_expect 9 = .ok (.invokevirtual 71, 3) := by decide +kernel
theorem dX3_expect_12 : decode cX3_expect 12 = .ok (.goto 7, 3) := by decide +kernel
theorem dX3_expect_15 : decode cX3_expect 15 = .ok (.aload_n 0, 1) := by decide +kernel
theorem dX3_expect_16 : decode cX3_expect 16 = .ok (.invokevirtual 74, 3) := by decide +kernel
theorem dX3_expect_19 : decode cX3_expect 19 = .ok (.return_, 1) := by decide +kernel
theorem dX3_opens_0 : decode cX3_opens 0 = .ok (.aload_n 0, 1) := by decide +kernel
theorem dX3_opens_1 : decode cX3_opens 1 = .ok (.getfield 22, 3) := by decide +kernel
theorem dX3_opens_4 : decode cX3_opens 4 = .ok (.iconst 5, 1) := by decide +kernel
theorem dX3_opens_5 : decode cX3_opens 5 = .ok (.if_icmp .lt 9, 3) := by decide +kernel
theorem dX3_opens_8 : decode cX3_opens 8 = .ok (.aload_n 0, 1) := by decide +kernel
theorem dX3_opens_9 : decode cX3_opens 9 = .ok (.invokevirtual 74, 3) := by decide +kernel
theorem dX3_opens_12 : decode cX3_opens 12 = .ok (.iconst 0, 1) := by decide +kernel
theorem dX3_opens_13 : decode cX3_opens 13 = .ok (.ireturn, 1) := by decide +kernel
theorem dX3_opens_14 : decode cX3_opens 14 = .ok (.aload_n 0, 1) := by decide +kernel
theorem dX3_opens_15 : decode cX3_opens 15 = .ok (.dup, 1) := by decide +kernel
theorem dX3_opens_16 : decode cX3_opens 16 = .ok (.getfield 22, 3) := by decide +kernel
theorem dX3_opens_19 : decode cX3_opens 19 = .ok (.iconst 1, 1) := by decide +kernel
theorem dX3_opens_20 : decode cX3_opens 20 = .ok (.iadd, 1) := by decide +kernel
theorem dX3_opens_21 : decode cX3_opens 21 = .ok (.putfield 22, 3) := by decide +kernel
theorem dX3_opens_24 : decode cX3_opens 24 = .ok (.aload_n 0, 1) := by decide +kernel
theorem dX3_opens_25 : decode cX3_opens 25 = .ok (.invokevirtual 71, 3) := by decide +kernel
theorem dX3_opens_28 : decode cX3_opens 28 = .ok (.iconst 1, 1) := by decide +kernel
theorem dX3_opens_29 : decode cX3_opens 29 = .ok (.ireturn, 1) := by decide +kernel
theorem dX3_number_0 : decode cX3_number 0 = .ok (.aload_n 0, 1) := by decide +kernel
theorem dX3_number_1 : decode cX3_number 1 = .ok (.getfield 32, 3) := by decide +kernel
theorem dX3_number_4 : decode cX3_number 4 = .ok (.ifCond .lt 28, 3) := by decide +kernel
theorem dX3_number_7 : decode cX3_number 7 = .ok (.aload_n 0, 1) := by decide +kernel
theorem dX3_number_8 : decode cX3_number 8 = .ok (.getfield 32, 3) := by decide +kernel
theorem dX3_number_11 : decode cX3_number 11 = .ok (.sipush 160, 3) := by decide +kernel
theorem dX3_number_14 : decode cX3_number 14 = .ok (.if_icmp .gt 18, 3) := by decide +kernel
theorem dX3_number_17 : decode cX3_number 17 = .ok (.aload_n 0, 1) := by decide +kernel
theorem dX3_number_18 : decode cX3_number 18 = .ok (.getfield 18, 3) := by decide +kernel
theorem dX3_number_21 : decode cX3_number 21 = .ok (.getfield 111, 3) := by decide +kernel
theorem dX3_number_24 : decode cX3_number 24 = .ok (.aload_n 0, 1) := by decide +kernel
theorem dX3_number_25 : decode cX3_number 25 = .ok (.getfield 32, 3) := by decide +kernel
theorem dX3_number_28 : decode cX3_number 28 = .ok (.iaload, 1) := by decide +kernel
theorem dX3_number_29 : decode cX3_number 29 = .ok (.goto 4, 3) := by decide +kernel
theorem dX3_number_32 : decode cX3_number 32 = .ok (.iconst 0, 1) := by decide +kernel
theorem dX3_number_33 : decode cX3_number 33 = .ok (.ireturn, 1) := by decide +kernel
theorem dX3_readTerm_0 : decode cX3_readTerm 0 = .ok (.aload_n 0, 1) := by decide +kernel
theorem dX3_readTerm_1 : decode cX3_readTerm 1 = .ok (.invokevirtual 99, 3) := by decide +kernel
theorem dX3_readTerm_4 : decode cX3_readTerm 4 = .ok (.iconst 0, 1) := by decide +kernel
theorem dX3_readTerm_5 : decode cX3_readTerm 5 = .ok (.istore_n 1, 1) := by decide +kernel
theorem dX3_readTerm_6 : decode cX3_readTerm 6 = .ok (.iload_n 1, 1) := by decide +kernel
theorem dX3_readTerm_7 : decode cX3_readTerm 7 = .ok (.sipush 160, 3) := by decide +kernel
theorem dX3_readTerm_10 : decode cX3_readTerm 10 = .ok (.if_icmp .ge 35, 3) := by decide +kernel
theorem dX3_readTerm_13 : decode cX3_readTerm 13 = .ok (.aload_n 0, 1) := by decide +kernel
theorem dX3_readTerm_14 : decode cX3_readTerm 14 = .ok (.bipush 42, 2) := by decide +kernel
theorem dX3_readTerm_16 : decode cX3_readTerm 16 = .ok (.invokevirtual 67, 3) := by decide +kernel
theorem dX3_readTerm_19 : decode cX3_readTerm 19 = .ok (.ifCond .eq 26, 3) := by decide +kernel
theorem dX3_readTerm_22 : decode cX3_readTerm 22 = .ok (.aload_n 0, 1) := by decide +kernel
theorem dX3_readTerm_23 : decode cX3_readTerm 23 = .ok (.invokevirtual 71, 3) := by decide +kernel
theorem dX3_readTerm_26 : decode cX3_readTerm 26 = .ok (.aload_n 0, 1) := by decide +kernel
theorem dX3_readTerm_27 : decode cX3_readTerm 27 = .ok (.invokevirtual 99, 3) := by decide +kernel
theorem dX3_readTerm_30 : decode cX3_readTerm 30 = .ok (.aload_n 0, 1) := by decide +kernel
theorem dX3_readTerm_31 : decode cX3_readTerm 31 = .ok (.getfield 12, 3) := by decide +kernel
theorem dX3_readTerm_34 : decode cX3_readTerm 34 = .ok (.bipush (-42), 2) := by decide +kernel
theorem dX3_readTerm_36 : decode cX3_readTerm 36 = .ok (.invokevirtual 80, 3) := by decide +kernel
theorem dX3_readTerm_39 : decode cX3_readTerm 39 = .ok (.iinc 1 1, 3) := by decide +kernel
theorem dX3_readTerm_42 : decode cX3_readTerm 42 = .ok (.goto (-36), 3) := by decide +kernel
theorem dX3_readTerm_45 : decode cX3_readTerm 45 = .ok (.return_, 1) := by decide +kernel
theorem dX3_readSum_0 : decode cX3_readSum 0 = .ok (.aload_n 0, 1) := by decide +kernel
theorem dX3_readSum_1 : decode cX3_readSum 1 = .ok (.invokevirtual 96, 3) := by decide +kernel
theorem dX3_readSum_4 : decode cX3_readSum 4 = .ok (.iconst 0, 1) := by decide +kernel
theorem dX3_readSum_5 : decode cX3_readSum 5 = .ok (.istore_n 1, 1) := by decide +kernel
theorem dX3_readSum_6 : decode cX3_readSum 6 = .ok (.iload_n 1, 1) := by decide +kernel
theorem dX3_readSum_7 : decode cX3_readSum 7 = .ok (.sipush 160, 3) := by decide +kernel
theorem dX3_readSum_10 : decode cX3_readSum 10 = .ok (.if_icmp .ge 49, 3) := by decide +kernel
theorem dX3_readSum_13 : decode cX3_readSum 13 = .ok (.aload_n 0, 1) := by decide +kernel
theorem dX3_readSum_14 : decode cX3_readSum 14 = .ok (.bipush 43, 2) := by decide +kernel
theorem dX3_readSum_16 : decode cX3_readSum 16 = .ok (.invokevirtual 67, 3) := by decide +kernel
theorem dX3_readSum_19 : decode cX3_readSum 19 = .ok (.ifCond .ne 12, 3) := by decide +kernel
theorem dX3_readSum_22 : decode cX3_readSum 22 = .ok (.aload_n 0, 1) := by decide +kernel
theorem dX3_readSum_23 : decode cX3_readSum 23 = .ok (.bipush 45, 2) := by decide +kernel
theorem dX3_readSum_25 : decode cX3_readSum 25 = .ok (.invokevirtual 67, 3) := by decide +kernel
theorem dX3_readSum_28 : decode cX3_readSum 28 = .ok (.ifCond .eq 31, 3) := by decide +kernel
theorem dX3_readSum_31 : decode cX3_readSum 31 = .ok (.aload_n 0, 1) := by decide +kernel
theorem dX3_readSum_32 : decode cX3_readSum 32 = .ok (.invokevirtual 50, 3) := by decide +kernel
theorem dX3_readSum_35 : decode cX3_readSum 35 = .ok (.istore_n 2, 1) := by decide +kernel
theorem dX3_readSum_36 : decode cX3_readSum 36 = .ok (.aload_n 0, 1) := by decide +kernel
theorem dX3_readSum_37 : decode cX3_readSum 37 = .ok (.invokevirtual 71, 3) := by decide +kernel
theorem dX3_readSum_40 : decode cX3_readSum 40 = .ok (.aload_n 0, 1) := by decide +kernel
theorem dX3_readSum_41 : decode cX3_readSum 41 = .ok (.invokevirtual 96, 3) := by decide +kernel
theorem dX3_readSum_44 : decode cX3_readSum 44 = .ok (.aload_n 0, 1) := by decide +kernel
theorem dX3_readSum_45 : decode cX3_readSum 45 = .ok (.getfield 12, 3) := by decide +kernel
theorem dX3_readSum_48 : decode cX3_readSum 48 = .ok (.iload_n 2, 1) := by decide +kernel
theorem dX3_readSum_49 : decode cX3_readSum 49 = .ok (.ineg, 1) := by decide +kernel
theorem dX3_readSum_50 : decode cX3_readSum 50 = .ok (.invokevirtual 80, 3) := by decide +kernel
theorem dX3_readSum_53 : decode cX3_readSum 53 = .ok (.iinc 1 1, 3) := by decide +kernel
theorem dX3_readSum_56 : decode cX3_readSum 56 = .ok (.goto (-50), 3) := by decide +kernel
theorem dX3_readSum_59 : decode cX3_readSum 59 = .ok (.return_, 1) := by decide +kernel
theorem dX3_readCompared_0 : decode cX3_readCompared 0 = .ok (.aload_n 0, 1) := by decide +kernel
theorem dX3_readCompared_1 : decode cX3_readCompared 1 = .ok (.invokevirtual 93, 3) := by decide +kernel
theorem dX3_readCompared_4 : decode cX3_readCompared 4 = .ok (.aload_n 0, 1) := by decide +kernel
theorem dX3_readCompared_5 : decode cX3_readCompared 5 = .ok (.bipush 60, 2) := by decide +kernel
theorem dX3_readCompared_7 : decode cX3_readCompared 7 = .ok (.invokevirtual 67, 3) := by decide +kernel
theorem dX3_readCompared_10 : decode cX3_readCompared 10 = .ok (.ifCond .ne 12, 3) := by decide +kernel
theorem dX3_readCompared_13 : decode cX3_readCompared 13 = .ok (.aload_n 0, 1) := by decide +kernel
theorem dX3_readCompared_14 : decode cX3_readCompared 14 = .ok (.bipush 61, 2) := by decide +kernel
theorem dX3_readCompared_16 : decode cX3_readCompared 16 = .ok (.invokevirtual 67, 3) := by decide +kernel
theorem dX3_readCompared_19 : decode cX3_readCompared 19 = .ok (.ifCond .eq 25, 3) := by decide +kernel
theorem dX3_readCompared_22 : decode cX3_readCompared 22 = .ok (.aload_n 0, 1) := by decide +kernel
theorem dX3_readCompared_23 : decode cX3_readCompared 23 = .ok (.invokevirtual 50, 3) := by decide +kernel
theorem dX3_readCompared_26 : decode cX3_readCompared 26 = .ok (.istore_n 1, 1) := by decide +kernel
theorem dX3_readCompared_27 : decode cX3_readCompared 27 = .ok (.aload_n 0, 1) := by decide +kernel
theorem dX3_readCompared_28 : decode cX3_readCompared 28 = .ok (.invokevirtual 71, 3) := by decide +kernel
theorem dX3_readCompared_31 : decode cX3_readCompared 31 = .ok (.aload_n 0, 1) := by decide +kernel
theorem dX3_readCompared_32 : decode cX3_readCompared 32 = .ok (.invokevirtual 93, 3) := by decide +kernel
theorem dX3_readCompared_35 : decode cX3_readCompared 35 = .ok (.aload_n 0, 1) := by decide +kernel
theorem dX3_readCompared_36 : decode cX3_readCompared 36 = .ok (.getfield 12, 3) := by decide +kernel
theorem dX3_readCompared_39 : decode cX3_readCompared 39 = .ok (.iload_n 1, 1) := by decide +kernel
theorem dX3_readCompared_40 : decode cX3_readCompared 40 = .ok (.ineg, 1) := by decide +kernel
theorem dX3_readCompared_41 : decode cX3_readCompared 41 = .ok (.invokevirtual 80, 3) := by decide +kernel
theorem dX3_readCompared_44 : decode cX3_readCompared 44 = .ok (.return_, 1) := by decide +kernel
theorem dX3_readNot_0 : decode cX3_readNot 0 = .ok (.aload_n 0, 1) := by decide +kernel
theorem dX3_readNot_1 : decode cX3_readNot 1 = .ok (.bipush 12, 2) := by decide +kernel
theorem dX3_readNot_3 : decode cX3_readNot 3 = .ok (.invokevirtual 67, 3) := by decide +kernel
theorem dX3_readNot_6 : decode cX3_readNot 6 = .ok (.ifCond .ne 10, 3) := by decide +kernel
theorem dX3_readNot_9 : decode cX3_readNot 9 = .ok (.aload_n 0, 1) := by decide +kernel
theorem dX3_readNot_10 : decode cX3_readNot 10 = .ok (.invokevirtual 86, 3) := by decide +kernel
theorem dX3_readNot_13 : decode cX3_readNot 13 = .ok (.goto 33, 3) := by decide +kernel
theorem dX3_readNot_16 : decode cX3_readNot 16 = .ok (.aload_n 0, 1) := by decide +kernel
theorem dX3_readNot_17 : decode cX3_readNot 17 = .ok (.invokevirtual 89, 3) := by decide +kernel
theorem dX3_readNot_20 : decode cX3_readNot 20 = .ok (.ifCond .eq 26, 3) := by decide +kernel
theorem dX3_readNot_23 : decode cX3_readNot 23 = .ok (.aload_n 0, 1) := by decide +kernel
theorem dX3_readNot_24 : decode cX3_readNot 24 = .ok (.invokevirtual 83, 3) := by decide +kernel
theorem dX3_readNot_27 : decode cX3_readNot 27 = .ok (.aload_n 0, 1) := by decide +kernel
theorem dX3_readNot_28 : decode cX3_readNot 28 = .ok (.dup, 1) := by decide +kernel
theorem dX3_readNot_29 : decode cX3_readNot 29 = .ok (.getfield 22, 3) := by decide +kernel
theorem dX3_readNot_32 : decode cX3_readNot 32 = .ok (.iconst 1, 1) := by decide +kernel
theorem dX3_readNot_33 : decode cX3_readNot 33 = .ok (.isub, 1) := by decide +kernel
theorem dX3_readNot_34 : decode cX3_readNot 34 = .ok (.putfield 22, 3) := by decide +kernel
theorem dX3_readNot_37 : decode cX3_readNot 37 = .ok (.aload_n 0, 1) := by decide +kernel
theorem dX3_readNot_38 : decode cX3_readNot 38 = .ok (.getfield 12, 3) := by decide +kernel
theorem dX3_readNot_41 : decode cX3_readNot 41 = .ok (.bipush (-12), 2) := by decide +kernel
theorem dX3_readNot_43 : decode cX3_readNot 43 = .ok (.invokevirtual 80, 3) := by decide +kernel
theorem dX3_readNot_46 : decode cX3_readNot 46 = .ok (.return_, 1) := by decide +kernel
theorem dX3_readAnd_0 : decode cX3_readAnd 0 = .ok (.aload_n 0, 1) := by decide +kernel
theorem dX3_readAnd_1 : decode cX3_readAnd 1 = .ok (.invokevirtual 83, 3) := by decide +kernel
theorem dX3_readAnd_4 : decode cX3_readAnd 4 = .ok (.iconst 0, 1) := by decide +kernel
theorem dX3_readAnd_5 : decode cX3_readAnd 5 = .ok (.istore_n 1, 1) := by decide +kernel
theorem dX3_readAnd_6 : decode cX3_readAnd 6 = .ok (.iload_n 1, 1) := by decide +kernel
theorem dX3_readAnd_7 : decode cX3_readAnd 7 = .ok (.sipush 160, 3) := by decide +kernel
theorem dX3_readAnd_10 : decode cX3_readAnd 10 = .ok (.if_icmp .ge 35, 3) := by decide +kernel
theorem dX3_readAnd_13 : decode cX3_readAnd 13 = .ok (.aload_n 0, 1) := by decide +kernel
theorem dX3_readAnd_14 : decode cX3_readAnd 14 = .ok (.bipush 11, 2) := by decide +kernel
theorem dX3_readAnd_16 : decode cX3_readAnd 16 = .ok (.invokevirtual 67, 3) := by decide +kernel
theorem dX3_readAnd_19 : decode cX3_readAnd 19 = .ok (.ifCond .eq 26, 3) := by decide +kernel
theorem dX3_readAnd_22 : decode cX3_readAnd 22 = .ok (.aload_n 0, 1) := by decide +kernel
theorem dX3_readAnd_23 : decode cX3_readAnd 23 = .ok (.invokevirtual 71, 3) := by decide +kernel
theorem dX3_readAnd_26 : decode cX3_readAnd 26 = .ok (.aload_n 0, 1) := by decide +kernel
theorem dX3_readAnd_27 : decode cX3_readAnd 27 = .ok (.invokevirtual 83, 3) := by decide +kernel
theorem dX3_readAnd_30 : decode cX3_readAnd 30 = .ok (.aload_n 0, 1) := by decide +kernel
theorem dX3_readAnd_31 : decode cX3_readAnd 31 = .ok (.getfield 12, 3) := by decide +kernel
theorem dX3_readAnd_34 : decode cX3_readAnd 34 = .ok (.bipush (-11), 2) := by decide +kernel
theorem dX3_readAnd_36 : decode cX3_readAnd 36 = .ok (.invokevirtual 80, 3) := by decide +kernel
theorem dX3_readAnd_39 : decode cX3_readAnd 39 = .ok (.iinc 1 1, 3) := by decide +kernel
theorem dX3_readAnd_42 : decode cX3_readAnd 42 = .ok (.goto (-36), 3) := by decide +kernel
theorem dX3_readAnd_45 : decode cX3_readAnd 45 = .ok (.return_, 1) := by decide +kernel
theorem dX3_readE_0 : decode cX3_readE 0 = .ok (.aload_n 0, 1) := by decide +kernel
theorem dX3_readE_1 : decode cX3_readE 1 = .ok (.invokevirtual 77, 3) := by decide +kernel
theorem dX3_readE_4 : decode cX3_readE 4 = .ok (.iconst 0, 1) := by decide +kernel
theorem dX3_readE_5 : decode cX3_readE 5 = .ok (.istore_n 1, 1) := by decide +kernel
theorem dX3_readE_6 : decode cX3_readE 6 = .ok (.iload_n 1, 1) := by decide +kernel
theorem dX3_readE_7 : decode cX3_readE 7 = .ok (.sipush 160, 3) := by decide +kernel
theorem dX3_readE_10 : decode cX3_readE 10 = .ok (.if_icmp .ge 35, 3) := by decide +kernel
theorem dX3_readE_13 : decode cX3_readE 13 = .ok (.aload_n 0, 1) := by decide +kernel
theorem dX3_readE_14 : decode cX3_readE 14 = .ok (.bipush 10, 2) := by decide +kernel
theorem dX3_readE_16 : decode cX3_readE 16 = .ok (.invokevirtual 67, 3) := by decide +kernel
theorem dX3_readE_19 : decode cX3_readE 19 = .ok (.ifCond .eq 26, 3) := by decide +kernel
theorem dX3_readE_22 : decode cX3_readE 22 = .ok (.aload_n 0, 1) := by decide +kernel
theorem dX3_readE_23 : decode cX3_readE 23 = .ok (.invokevirtual 71, 3) := by decide +kernel
theorem dX3_readE_26 : decode cX3_readE 26 = .ok (.aload_n 0, 1) := by decide +kernel
theorem dX3_readE_27 : decode cX3_readE 27 = .ok (.invokevirtual 77, 3) := by decide +kernel
theorem dX3_readE_30 : decode cX3_readE 30 = .ok (.aload_n 0, 1) := by decide +kernel
theorem dX3_readE_31 : decode cX3_readE 31 = .ok (.getfield 12, 3) := by decide +kernel
theorem dX3_readE_34 : decode cX3_readE 34 = .ok (.bipush (-10), 2) := by decide +kernel
theorem dX3_readE_36 : decode cX3_readE 36 = .ok (.invokevirtual 80, 3) := by decide +kernel
theorem dX3_readE_39 : decode cX3_readE 39 = .ok (.iinc 1 1, 3) := by decide +kernel
theorem dX3_readE_42 : decode cX3_readE 42 = .ok (.goto (-36), 3) := by decide +kernel
theorem dX3_readE_45 : decode cX3_readE 45 = .ok (.return_, 1) := by decide +kernel
theorem dX3_readMinus_0 : decode cX3_readMinus 0 = .ok (.aload_n 0, 1) := by decide +kernel
theorem dX3_readMinus_1 : decode cX3_readMinus 1 = .ok (.invokevirtual 89, 3) := by decide +kernel
theorem dX3_readMinus_4 : decode cX3_readMinus 4 = .ok (.ifCond .eq 26, 3) := by decide +kernel
theorem dX3_readMinus_7 : decode cX3_readMinus 7 = .ok (.aload_n 0, 1) := by decide +kernel
theorem dX3_readMinus_8 : decode cX3_readMinus 8 = .ok (.invokevirtual 99, 3) := by decide +kernel
theorem dX3_readMinus_11 : decode cX3_readMinus 11 = .ok (.aload_n 0, 1) := by decide +kernel
theorem dX3_readMinus_12 : decode cX3_readMinus 12 = .ok (.dup, 1) := by decide +kernel
theorem dX3_readMinus_13 : decode cX3_readMinus 13 = .ok (.getfield 22, 3) := by decide +kernel
theorem dX3_readMinus_16 : decode cX3_readMinus 16 = .ok (.iconst 1, 1) := by decide +kernel
theorem dX3_readMinus_17 : decode cX3_readMinus 17 = .ok (.isub, 1) := by decide +kernel
theorem dX3_readMinus_18 : decode cX3_readMinus 18 = .ok (.putfield 22, 3) := by decide +kernel
theorem dX3_readMinus_21 : decode cX3_readMinus 21 = .ok (.aload_n 0, 1) := by decide +kernel
theorem dX3_readMinus_22 : decode cX3_readMinus 22 = .ok (.getfield 12, 3) := by decide +kernel
theorem dX3_readMinus_25 : decode cX3_readMinus 25 = .ok (.bipush (-16), 2) := by decide +kernel
theorem dX3_readMinus_27 : decode cX3_readMinus 27 = .ok (.invokevirtual 80, 3) := by decide +kernel
theorem dX3_readMinus_30 : decode cX3_readMinus 30 = .ok (.return_, 1) := by decide +kernel
theorem dX3_readBracket_0 : decode cX3_readBracket 0 = .ok (.aload_n 0, 1) := by decide +kernel
theorem dX3_readBracket_1 : decode cX3_readBracket 1 = .ok (.invokevirtual 89, 3) := by decide +kernel
theorem dX3_readBracket_4 : decode cX3_readBracket 4 = .ok (.ifCond .eq 23, 3) := by decide +kernel
theorem dX3_readBracket_7 : decode cX3_readBracket 7 = .ok (.aload_n 0, 1) := by decide +kernel
theorem dX3_readBracket_8 : decode cX3_readBracket 8 = .ok (.invokevirtual 44, 3) := by decide +kernel
theorem dX3_readBracket_11 : decode cX3_readBracket 11 = .ok (.aload_n 0, 1) := by decide +kernel
theorem dX3_readBracket_12 : decode cX3_readBracket 12 = .ok (.bipush 41, 2) := by decide +kernel
theorem dX3_readBracket_14 : decode cX3_readBracket 14 = .ok (.invokevirtual 40, 3) := by decide +kernel
theorem dX3_readBracket_17 : decode cX3_readBracket 17 = .ok (.aload_n 0, 1) := by decide +kernel
theorem dX3_readBracket_18 : decode cX3_readBracket 18 = .ok (.dup, 1) := by decide +kernel
theorem dX3_readBracket_19 : decode cX3_readBracket 19 = .ok (.getfield 22, 3) := by decide +kernel
theorem dX3_readBracket_22 : decode cX3_readBracket 22 = .ok (.iconst 1, 1) := by decide +kernel
theorem dX3_readBracket_23 : decode cX3_readBracket 23 = .ok (.isub, 1) := by decide +kernel
theorem dX3_readBracket_24 : decode cX3_readBracket 24 = .ok (.putfield 22, 3) := by decide +kernel
theorem dX3_readBracket_27 : decode cX3_readBracket 27 = .ok (.return_, 1) := by decide +kernel
theorem dX3_readOne_0 : decode cX3_readOne 0 = .ok (.aload_n 0, 1) := by decide +kernel
theorem dX3_readOne_1 : decode cX3_readOne 1 = .ok (.invokevirtual 50, 3) := by decide +kernel
theorem dX3_readOne_4 : decode cX3_readOne 4 = .ok (.istore_n 1, 1) := by decide +kernel
theorem dX3_readOne_5 : decode cX3_readOne 5 = .ok (.iload_n 1, 1) := by decide +kernel
theorem dX3_readOne_6 : decode cX3_readOne 6 = .ok (.bipush 13, 2) := by decide +kernel
theorem dX3_readOne_8 : decode cX3_readOne 8 = .ok (.if_icmp .ne 21, 3) := by decide +kernel
theorem dX3_readOne_11 : decode cX3_readOne 11 = .ok (.aload_n 0, 1) := by decide +kernel
theorem dX3_readOne_12 : decode cX3_readOne 12 = .ok (.getfield 12, 3) := by decide +kernel
theorem dX3_readOne_15 : decode cX3_readOne 15 = .ok (.aload_n 0, 1) := by decide +kernel
theorem dX3_readOne_16 : decode cX3_readOne 16 = .ok (.invokevirtual 102, 3) := by decide +kernel
theorem dX3_readOne_19 : decode cX3_readOne 19 = .ok (.invokevirtual 80, 3) := by decide +kernel
theorem dX3_readOne_22 : decode cX3_readOne 22 = .ok (.aload_n 0, 1) := by decide +kernel
theorem dX3_readOne_23 : decode cX3_readOne 23 = .ok (.invokevirtual 71, 3) := by decide +kernel
theorem dX3_readOne_26 : decode cX3_readOne 26 = .ok (.goto 60, 3) := by decide +kernel
theorem dX3_readOne_29 : decode cX3_readOne 29 = .ok (.iload_n 1, 1) := by decide +kernel
theorem dX3_readOne_30 : decode cX3_readOne 30 = .ok (.iconst 1, 1) := by decide +kernel
theorem dX3_readOne_31 : decode cX3_readOne 31 = .ok (.if_icmp .lt 25, 3) := by decide +kernel
theorem dX3_readOne_34 : decode cX3_readOne 34 = .ok (.iload_n 1, 1) := by decide +kernel
theorem dX3_readOne_35 : decode cX3_readOne 35 = .ok (.bipush 6, 2) := by decide +kernel
theorem dX3_readOne_37 : decode cX3_readOne 37 = .ok (.if_icmp .gt 19, 3) := by decide +kernel
theorem dX3_readOne_40 : decode cX3_readOne 40 = .ok (.aload_n 0, 1) := by decide +kernel
theorem dX3_readOne_41 : decode cX3_readOne 41 = .ok (.getfield 12, 3) := by decide +kernel
theorem dX3_readOne_44 : decode cX3_readOne 44 = .ok (.iload_n 1, 1) := by decide +kernel
theorem dX3_readOne_45 : decode cX3_readOne 45 = .ok (.ineg, 1) := by decide +kernel
theorem dX3_readOne_46 : decode cX3_readOne 46 = .ok (.invokevirtual 80, 3) := by decide +kernel
theorem dX3_readOne_49 : decode cX3_readOne 49 = .ok (.aload_n 0, 1) := by decide +kernel
theorem dX3_readOne_50 : decode cX3_readOne 50 = .ok (.invokevirtual 71, 3) := by decide +kernel
theorem dX3_readOne_53 : decode cX3_readOne 53 = .ok (.goto 33, 3) := by decide +kernel
theorem dX3_readOne_56 : decode cX3_readOne 56 = .ok (.iload_n 1, 1) := by decide +kernel
theorem dX3_readOne_57 : decode cX3_readOne 57 = .ok (.bipush 45, 2) := by decide +kernel
theorem dX3_readOne_59 : decode cX3_readOne 59 = .ok (.if_icmp .ne 10, 3) := by decide +kernel
theorem dX3_readOne_62 : decode cX3_readOne 62 = .ok (.aload_n 0, 1) := by decide +kernel
theorem dX3_readOne_63 : decode cX3_readOne 63 = .ok (.invokevirtual 105, 3) := by decide +kernel
theorem dX3_readOne_66 : decode cX3_readOne 66 = .ok (.goto 20, 3) := by decide +kernel
theorem dX3_readOne_69 : decode cX3_readOne 69 = .ok (.iload_n 1, 1) := by decide +kernel
theorem dX3_readOne_70 : decode cX3_readOne 70 = .ok (.bipush 40, 2) := by decide +kernel
theorem dX3_readOne_72 : decode cX3_readOne 72 = .ok (.if_icmp .ne 10, 3) := by decide +kernel
theorem dX3_readOne_75 : decode cX3_readOne 75 = .ok (.aload_n 0, 1) := by decide +kernel
theorem dX3_readOne_76 : decode cX3_readOne 76 = .ok (.invokevirtual 108, 3) := by decide +kernel
theorem dX3_readOne_79 : decode cX3_readOne 79 = .ok (.goto 7, 3) := by decide +kernel
theorem dX3_readOne_82 : decode cX3_readOne 82 = .ok (.aload_n 0, 1) := by decide +kernel
theorem dX3_readOne_83 : decode cX3_readOne 83 = .ok (.invokevirtual 74, 3) := by decide +kernel
theorem dX3_readOne_86 : decode cX3_readOne 86 = .ok (.return_, 1) := by decide +kernel
theorem dX3_read_0 : decode cX3_read 0 = .ok (.aload_n 0, 1) := by decide +kernel
theorem dX3_read_1 : decode cX3_read 1 = .ok (.iconst 0, 1) := by decide +kernel
theorem dX3_read_2 : decode cX3_read 2 = .ok (.putfield 22, 3) := by decide +kernel
theorem dX3_read_5 : decode cX3_read 5 = .ok (.aload_n 0, 1) := by decide +kernel
theorem dX3_read_6 : decode cX3_read 6 = .ok (.iconst (-1), 1) := by decide +kernel
theorem dX3_read_7 : decode cX3_read 7 = .ok (.putfield 26, 3) := by decide +kernel
theorem dX3_read_10 : decode cX3_read 10 = .ok (.aload_n 0, 1) := by decide +kernel
theorem dX3_read_11 : decode cX3_read 11 = .ok (.getfield 12, 3) := by decide +kernel
theorem dX3_read_14 : decode cX3_read 14 = .ok (.invokevirtual 29, 3) := by decide +kernel
theorem dX3_read_17 : decode cX3_read 17 = .ok (.aload_n 0, 1) := by decide +kernel
theorem dX3_read_18 : decode cX3_read 18 = .ok (.iconst 0, 1) := by decide +kernel
theorem dX3_read_19 : decode cX3_read 19 = .ok (.putfield 32, 3) := by decide +kernel
theorem dX3_read_22 : decode cX3_read 22 = .ok (.aload_n 0, 1) := by decide +kernel
theorem dX3_read_23 : decode cX3_read 23 = .ok (.getfield 18, 3) := by decide +kernel
theorem dX3_read_26 : decode cX3_read 26 = .ok (.invokevirtual 35, 3) := by decide +kernel
theorem dX3_read_29 : decode cX3_read 29 = .ok (.iconst 0, 1) := by decide +kernel
theorem dX3_read_30 : decode cX3_read 30 = .ok (.istore_n 1, 1) := by decide +kernel
theorem dX3_read_31 : decode cX3_read 31 = .ok (.iload_n 1, 1) := by decide +kernel
theorem dX3_read_32 : decode cX3_read 32 = .ok (.iconst 3, 1) := by decide +kernel
theorem dX3_read_33 : decode cX3_read 33 = .ok (.if_icmp .ge 35, 3) := by decide +kernel
theorem dX3_read_36 : decode cX3_read 36 = .ok (.aload_n 0, 1) := by decide +kernel
theorem dX3_read_37 : decode cX3_read 37 = .ok (.bipush 7, 2) := by decide +kernel
theorem dX3_read_39 : decode cX3_read 39 = .ok (.iload_n 1, 1) := by decide +kernel
theorem dX3_read_40 : decode cX3_read 40 = .ok (.iadd, 1) := by decide +kernel
theorem dX3_read_41 : decode cX3_read 41 = .ok (.invokevirtual 40, 3) := by decide +kernel
theorem dX3_read_44 : decode cX3_read 44 = .ok (.aload_n 0, 1) := by decide +kernel
theorem dX3_read_45 : decode cX3_read 45 = .ok (.invokevirtual 44, 3) := by decide +kernel
theorem dX3_read_48 : decode cX3_read 48 = .ok (.aload_n 0, 1) := by decide +kernel
theorem dX3_read_49 : decode cX3_read 49 = .ok (.bipush 59, 2) := by decide +kernel
theorem dX3_read_51 : decode cX3_read 51 = .ok (.invokevirtual 40, 3) := by decide +kernel
theorem dX3_read_54 : decode cX3_read 54 = .ok (.aload_n 0, 1) := by decide +kernel
theorem dX3_read_55 : decode cX3_read 55 = .ok (.getfield 12, 3) := by decide +kernel
theorem dX3_read_58 : decode cX3_read 58 = .ok (.iload_n 1, 1) := by decide +kernel
theorem dX3_read_59 : decode cX3_read 59 = .ok (.invokevirtual 47, 3) := by decide +kernel
theorem dX3_read_62 : decode cX3_read 62 = .ok (.iinc 1 1, 3) := by decide +kernel
theorem dX3_read_65 : decode cX3_read 65 = .ok (.goto (-34), 3) := by decide +kernel
theorem dX3_read_68 : decode cX3_read 68 = .ok (.aload_n 0, 1) := by decide +kernel
theorem dX3_read_69 : decode cX3_read 69 = .ok (.bipush 14, 2) := by decide +kernel
theorem dX3_read_71 : decode cX3_read 71 = .ok (.invokevirtual 40, 3) := by decide +kernel
theorem dX3_read_74 : decode cX3_read 74 = .ok (.aload_n 0, 1) := by decide +kernel
theorem dX3_read_75 : decode cX3_read 75 = .ok (.getfield 26, 3) := by decide +kernel
theorem dX3_read_78 : decode cX3_read 78 = .ok (.ireturn, 1) := by decide +kernel
def f_Reader_token (M : Mem) : Option Int32 :=
if (M 18 4) = (-1) then
(if (M 18 2) < 0 then
(some 15)
else
(if 160 < (M 18 2) then
(some 15)
else
(ck (M 18 2) 161 <|
some (M 15 (M 18 2).toNatClampNeg))))
else
(some 15)
def f_Reader_is (M : Mem) (a1 : Int32) : Option Bool :=
ob (f_Reader_token M) fun (v2 : Int32) =>
if v2 = a1 then
(some true)
else
(some false)
def f_Reader_next (M : Mem) : Option Mem :=
if (M 13 5) ≤ (M 18 2) then
(some M)
else
(if 160 ≤ (M 18 2) then
(some M)
else
(bnd (wr M 18 2 ((M 18 2) + 1)) fun (M1 : Mem) =>
some M1))
def f_Reader_fail (M : Mem) : Option Mem :=
if (M 18 4) = (-1) then
(jp (fun (v1 : Int32) =>
bnd (wr M 18 4 v1) fun (M3 : Mem) =>
some M3) fun j2 =>
jp (fun (u4 : Unit) =>
j2 (M 13 1)) fun j5 =>
if (M 18 2) < 0 then
(j5 ())
else
(if 160 < (M 18 2) then
(j5 ())
else
(ck (M 18 2) 161 <|
j2 (M 16 (M 18 2).toNatClampNeg))))
else
(some M)
def f_Reader_expect (M : Mem) (a1 : Int32) : Option Mem :=
ob (f_Reader_is M a1) fun (v2 : Bool) =>
if v2 = true then
(ob (f_Reader_next M) fun (M6 : Mem) =>
some M6)
else
(ob (f_Reader_fail M) fun (M4 : Mem) =>
some M4)
def f_Reader_opens (M : Mem) : Option (Mem × Bool) :=
if (M 18 3) < 5 then
(bnd (wr M 18 3 ((M 18 3) + 1)) fun (M1 : Mem) =>
ob (f_Reader_next M1) fun (M3 : Mem) =>
some (M3, true))
else
(ob (f_Reader_fail M) fun (M5 : Mem) =>
some (M5, false))
def f_Reader_number (M : Mem) : Option Int32 :=
if (M 18 2) < 0 then
(some 0)
else
(if 160 < (M 18 2) then
(some 0)
else
(ck (M 18 2) 161 <|
some (M 17 (M 18 2).toNatClampNeg)))
def f_Reader_readTerm_L6 (one : Mem → Option Mem) (j4 : Mem → Option Mem) : Nat → Int32 → Mem → Option Mem
  | 0, _, _ => none
  | fu7 + 1, v5, M6 =>
    if 160 ≤ v5 then
    (j4 M6)
    else
    (ob (f_Reader_is M6 42) fun (v9 : Bool) =>
    if v9 = true then
    (ob (f_Reader_next M6) fun (M11 : Mem) =>
    ob (one M11) fun (M13 : Mem) =>
    ob (f_Text_add M13 19 (-42)) fun (M15 : Mem) =>
    bnd (v5 + 1) fun (v16 : Int32) =>
    f_Reader_readTerm_L6 one j4 fu7 v16 M15)
    else
    (j4 M6))
def f_Reader_readTerm (one : Mem → Option Mem) (M : Mem) : Option Mem :=
ob (one M) fun (M2 : Mem) =>
jp (fun (M3 : Mem) =>
some M3) fun j4 =>
f_Reader_readTerm_L6 one j4 FU 0 M2
def f_Reader_readSum_L6 (one : Mem → Option Mem) (j4 : Mem → Option Mem) : Nat → Int32 → Mem → Option Mem
  | 0, _, _ => none
  | fu7 + 1, v5, M6 =>
    if 160 ≤ v5 then
    (j4 M6)
    else
    (ob (f_Reader_is M6 43) fun (v9 : Bool) =>
    jp (fun (u10 : Unit) =>
    ob (f_Reader_token M6) fun (v13 : Int32) =>
    ob (f_Reader_next M6) fun (M15 : Mem) =>
    ob (f_Reader_readTerm one M15) fun (M17 : Mem) =>
    ob (f_Text_add M17 19 (-v13)) fun (M19 : Mem) =>
    bnd (v5 + 1) fun (v20 : Int32) =>
    f_Reader_readSum_L6 one j4 fu7 v20 M19) fun j11 =>
    if v9 = true then
    (j11 ())
    else
    (ob (f_Reader_is M6 45) fun (v22 : Bool) =>
    if v22 = true then
    (j11 ())
    else
    (j4 M6)))
def f_Reader_readSum (one : Mem → Option Mem) (M : Mem) : Option Mem :=
ob (f_Reader_readTerm one M) fun (M2 : Mem) =>
jp (fun (M3 : Mem) =>
some M3) fun j4 =>
f_Reader_readSum_L6 one j4 FU 0 M2
def f_Reader_readCompared (one : Mem → Option Mem) (M : Mem) : Option Mem :=
ob (f_Reader_readSum one M) fun (M2 : Mem) =>
ob (f_Reader_is M2 60) fun (v4 : Bool) =>
jp (fun (u5 : Unit) =>
ob (f_Reader_token M2) fun (v8 : Int32) =>
ob (f_Reader_next M2) fun (M10 : Mem) =>
ob (f_Reader_readSum one M10) fun (M12 : Mem) =>
ob (f_Text_add M12 19 (-v8)) fun (M14 : Mem) =>
some M14) fun j6 =>
if v4 = true then
(j6 ())
else
(ob (f_Reader_is M2 61) fun (v16 : Bool) =>
if v16 = true then
(j6 ())
else
(some M2))
def f_Reader_readNotB (one : Mem → Option Mem) (slf : Mem → Option Mem) (M : Mem) : Option Mem :=
ob (f_Reader_is M 12) fun (v2 : Bool) =>
if v2 = true then
(ob2 (f_Reader_opens M) fun (M4 : Mem) (v5 : Bool) =>
if v5 = true then
(ob (slf M4) fun (M7 : Mem) =>
bnd (wr M7 18 3 ((M7 18 3) - 1)) fun (M8 : Mem) =>
ob (f_Text_add M8 19 (-12)) fun (M10 : Mem) =>
some M10)
else
(some M4))
else
(ob (f_Reader_readCompared one M) fun (M12 : Mem) =>
some M12)
def f_Reader_readNot (one : Mem → Option Mem) : Nat → Mem → Option Mem
  | 0, _ => none
  | k + 1, M => f_Reader_readNotB one (f_Reader_readNot one k) M
def f_Reader_readAnd_L6 (one : Mem → Option Mem) (j4 : Mem → Option Mem) : Nat → Int32 → Mem → Option Mem
  | 0, _, _ => none
  | fu7 + 1, v5, M6 =>
    if 160 ≤ v5 then
    (j4 M6)
    else
    (ob (f_Reader_is M6 11) fun (v9 : Bool) =>
    if v9 = true then
    (ob (f_Reader_next M6) fun (M11 : Mem) =>
    ob (f_Reader_readNot one 10 M11) fun (M13 : Mem) =>
    ob (f_Text_add M13 19 (-11)) fun (M15 : Mem) =>
    bnd (v5 + 1) fun (v16 : Int32) =>
    f_Reader_readAnd_L6 one j4 fu7 v16 M15)
    else
    (j4 M6))
def f_Reader_readAnd (one : Mem → Option Mem) (M : Mem) : Option Mem :=
ob (f_Reader_readNot one 10 M) fun (M2 : Mem) =>
jp (fun (M3 : Mem) =>
some M3) fun j4 =>
f_Reader_readAnd_L6 one j4 FU 0 M2
def f_Reader_readE_L6 (one : Mem → Option Mem) (j4 : Mem → Option Mem) : Nat → Int32 → Mem → Option Mem
  | 0, _, _ => none
  | fu7 + 1, v5, M6 =>
    if 160 ≤ v5 then
    (j4 M6)
    else
    (ob (f_Reader_is M6 10) fun (v9 : Bool) =>
    if v9 = true then
    (ob (f_Reader_next M6) fun (M11 : Mem) =>
    ob (f_Reader_readAnd one M11) fun (M13 : Mem) =>
    ob (f_Text_add M13 19 (-10)) fun (M15 : Mem) =>
    bnd (v5 + 1) fun (v16 : Int32) =>
    f_Reader_readE_L6 one j4 fu7 v16 M15)
    else
    (j4 M6))
def f_Reader_readE (one : Mem → Option Mem) (M : Mem) : Option Mem :=
ob (f_Reader_readAnd one M) fun (M2 : Mem) =>
jp (fun (M3 : Mem) =>
some M3) fun j4 =>
f_Reader_readE_L6 one j4 FU 0 M2
def f_Reader_readMinus (one : Mem → Option Mem) (M : Mem) : Option Mem :=
ob2 (f_Reader_opens M) fun (M2 : Mem) (v3 : Bool) =>
if v3 = true then
(ob (one M2) fun (M5 : Mem) =>
bnd (wr M5 18 3 ((M5 18 3) - 1)) fun (M6 : Mem) =>
ob (f_Text_add M6 19 (-16)) fun (M8 : Mem) =>
some M8)
else
(some M2)
def f_Reader_readBracket (one : Mem → Option Mem) (M : Mem) : Option Mem :=
ob2 (f_Reader_opens M) fun (M2 : Mem) (v3 : Bool) =>
if v3 = true then
(ob (f_Reader_readE one M2) fun (M5 : Mem) =>
ob (f_Reader_expect M5 41) fun (M7 : Mem) =>
bnd (wr M7 18 3 ((M7 18 3) - 1)) fun (M8 : Mem) =>
some M8)
else
(some M2)
def f_Reader_readOneB (one : Mem → Option Mem) (M : Mem) : Option Mem :=
ob (f_Reader_token M) fun (v2 : Int32) =>
if v2 = 13 then
(ob (f_Reader_number M) fun (v16 : Int32) =>
ob (f_Text_add M 19 v16) fun (M18 : Mem) =>
ob (f_Reader_next M18) fun (M20 : Mem) =>
some M20)
else
(jp (fun (M3 : Mem) =>
if v2 = 45 then
(ob (f_Reader_readMinus one M3) fun (M10 : Mem) =>
some M10)
else
(if v2 = 40 then
(ob (f_Reader_readBracket one M3) fun (M8 : Mem) =>
some M8)
else
(ob (f_Reader_fail M3) fun (M6 : Mem) =>
some M6))) fun j4 =>
if v2 < 1 then
(j4 M)
else
(if 6 < v2 then
(j4 M)
else
(ob (f_Text_add M 19 (-v2)) fun (M12 : Mem) =>
ob (f_Reader_next M12) fun (M14 : Mem) =>
some M14)))
def f_Reader_readOne : Nat → Mem → Option Mem
  | 0, _ => none
  | n + 1, M => f_Reader_readOneB (f_Reader_readOne n) M
def f_Reader_read_L31 (j9 : Mem → Option (Mem × Int32)) : Nat → Int32 → Mem → Option (Mem × Int32)
  | 0, _, _ => none
  | fu14 + 1, v12, M13 =>
    if 3 ≤ v12 then
    (j9 M13)
    else
    (ob (f_Reader_expect M13 (7 + v12)) fun (M16 : Mem) =>
    ob (f_Reader_readE (f_Reader_readOne 8) M16) fun (M18 : Mem) =>
    ob (f_Reader_expect M18 59) fun (M20 : Mem) =>
    ob (f_Text_endPart M20 19 v12) fun (M22 : Mem) =>
    bnd (v12 + 1) fun (v23 : Int32) =>
    f_Reader_read_L31 j9 fu14 v23 M22)
def f_Reader_read (M : Mem) : Option (Mem × Int32) :=
bnd (wr M 18 3 0) fun (M1 : Mem) =>
bnd (wr M1 18 4 (-1)) fun (M2 : Mem) =>
ob (f_Text_clear M2 19) fun (M4 : Mem) =>
bnd (wr M4 18 2 0) fun (M5 : Mem) =>
ob (f_Tape_cut M5) fun (M7 : Mem) =>
jp (fun (M8 : Mem) =>
ob (f_Reader_expect M8 14) fun (M11 : Mem) =>
some (M11, (M11 18 4))) fun j9 =>
f_Reader_read_L31 j9 FU 0 M7
set_option maxHeartbeats 4000000 in
set_option maxRecDepth 20000 in
theorem w_f_Reader_token {X : XT} {M : Mem}  {r : Int32}   (h : f_Reader_token M = some r) : CT layX X 0 yX3_token cX3_token 1 (some .int) [.ref (X.2.2.2.1 18)] M M (some (.int r)) := by
  refine CT.of rfl (Nat.le_of_ble_eq_true rfl) (lv := [(0, .ref (X.2.2.2.1 18))]) rfl (fun Γ K => ?_)
  have K : Kx layX X Γ RX3 cX3_token 1 0 (some .int) := K
  unfold f_Reader_token at h
  refine g_aload_n (pn := 1) K rfl 0 rfl dX3_token_0 ?_
  refine g_geti (pn := 4) K rfl fl_X3_26 lx_18 rfl dX3_token_1 ?_
  refine g_iconst (pn := 5) (v := (-1)) K rfl ic_m1 dX3_token_4 ?_
  refine g_icmp_ne (tgt := 40) (pn := 8) K rfl (by decide) dX3_token_5 h (fun h => ?_) (fun h => ?_)
  · refine g_bipush (pn := 42) (v := 15) K rfl bp_15 dX3_token_40 ?_
    exact g_iret K dX3_token_42 (oi h) rfl
  · refine g_aload_n (pn := 9) K rfl 0 rfl dX3_token_8 ?_
    refine g_geti (pn := 12) K rfl fl_X3_32 lx_18 rfl dX3_token_9 ?_
    refine g_if_lt (tgt := 40) (pn := 15) K rfl (by decide) dX3_token_12 h (fun h => ?_) (fun h => ?_)
    · refine g_bipush (pn := 42) (v := 15) K rfl bp_15 dX3_token_40 ?_
      exact g_iret K dX3_token_42 (oi h) rfl
    · refine g_aload_n (pn := 16) K rfl 0 rfl dX3_token_15 ?_
      refine g_geti (pn := 19) K rfl fl_X3_32 lx_18 rfl dX3_token_16 ?_
      refine g_sipush (pn := 22) (v := 160) K rfl sp_160 dX3_token_19 ?_
      refine g_icmp_gt (tgt := 40) (pn := 25) K rfl (by decide) dX3_token_22 h (fun h => ?_) (fun h => ?_)
      · refine g_bipush (pn := 42) (v := 15) K rfl bp_15 dX3_token_40 ?_
        exact g_iret K dX3_token_42 (oi h) rfl
      · refine g_aload_n (pn := 26) K rfl 0 rfl dX3_token_25 ?_
        refine g_getr (pn := 29) (j := 13) K rfl fl_X3_18 lx_18 rfl dX3_token_26 ?_
        refine g_getr (pn := 32) (j := 15) K rfl fl_X3_54 lx_13 rfl dX3_token_29 ?_
        refine g_aload_n (pn := 33) K rfl 0 rfl dX3_token_32 ?_
        refine g_geti (pn := 36) K rfl fl_X3_32 lx_18 rfl dX3_token_33 ?_
        refine g_iald (pn := 37) K rfl lx_15 dX3_token_36 h (fun h => ?_)
        refine g_goto (tgt := 42) K (by decide) dX3_token_37 ?_
        exact g_iret K dX3_token_42 (oi h) rfl
set_option maxHeartbeats 4000000 in
set_option maxRecDepth 20000 in
theorem w_f_Reader_is {X : XT} {M : Mem} {a1 : Int32} {r : Bool}   (h : f_Reader_is M a1 = some r) : CT layX X 1 yX3_is cX3_is 2 (some .boolean) [.ref (X.2.2.2.1 18), .int a1] M M (some (.int (b2i r))) := by
  refine CT.of rfl (Nat.le_of_ble_eq_true rfl) (lv := [(0, .ref (X.2.2.2.1 18)), (1, .int a1)]) rfl (fun Γ K => ?_)
  have K : Kx layX X Γ RX3 cX3_is 2 1 (some .boolean) := K
  unfold f_Reader_is at h
  refine g_aload_n (pn := 1) K rfl 0 rfl dX3_is_0 ?_
  obtain ⟨v2, hc1, h⟩ := ob_e h
  refine g_callV1 (pn := 4) (As := []) (rest := []) (a := 18) K rfl (d' := 0) (Nat.le_of_ble_eq_true rfl) mv_X3_50 (recvO K lx_18 rfl) (w_f_Reader_token hc1) rfl rfl (Nat.le_of_ble_eq_true rfl) dX3_is_1 ?_
  refine g_iload_n (pn := 5) K rfl 1 rfl dX3_is_4 ?_
  refine g_icmp_ne (tgt := 12) (pn := 8) K rfl (by decide) dX3_is_5 h (fun h => ?_) (fun h => ?_)
  · refine g_iconst (pn := 13) (v := 0) K rfl ic_0 dX3_is_12 ?_
    exact g_zret K rfl dX3_is_13 (bq0 (oi h)) rfl
  · refine g_iconst (pn := 9) (v := 1) K rfl ic_1 dX3_is_8 ?_
    refine g_goto (tgt := 13) K (by decide) dX3_is_9 ?_
    exact g_zret K rfl dX3_is_13 (bq1 (oi h)) rfl
set_option maxHeartbeats 4000000 in
set_option maxRecDepth 20000 in
theorem w_f_Reader_next {X : XT} {M : Mem}  {M' : Mem}   (h : f_Reader_next M = some M') : CT layX X 0 yX3_next cX3_next 1 none [.ref (X.2.2.2.1 18)] M M' none := by
  refine CT.of rfl (Nat.le_of_ble_eq_true rfl) (lv := [(0, .ref (X.2.2.2.1 18))]) rfl (fun Γ K => ?_)
  have K : Kx layX X Γ RX3 cX3_next 1 0 none := K
  unfold f_Reader_next at h
  refine g_aload_n (pn := 1) K rfl 0 rfl dX3_next_0 ?_
  refine g_geti (pn := 4) K rfl fl_X3_32 lx_18 rfl dX3_next_1 ?_
  refine g_aload_n (pn := 5) K rfl 0 rfl dX3_next_4 ?_
  refine g_getr (pn := 8) (j := 13) K rfl fl_X3_18 lx_18 rfl dX3_next_5 ?_
  refine g_geti (pn := 11) K rfl fl_X3_58 lx_13 rfl dX3_next_8 ?_
  refine g_icmp_ge (tgt := 34) (pn := 14) K rfl (by decide) dX3_next_11 h (fun h => ?_) (fun h => ?_)
  · exact g_vret K dX3_next_34 (oi h)
  · refine g_aload_n (pn := 15) K rfl 0 rfl dX3_next_14 ?_
    refine g_geti (pn := 18) K rfl fl_X3_32 lx_18 rfl dX3_next_15 ?_
    refine g_sipush (pn := 21) (v := 160) K rfl sp_160 dX3_next_18 ?_
    refine g_icmp_ge (tgt := 34) (pn := 24) K rfl (by decide) dX3_next_21 h (fun h => ?_) (fun h => ?_)
    · exact g_vret K dX3_next_34 (oi h)
    · refine g_aload_n (pn := 25) K rfl 0 rfl dX3_next_24 ?_
      refine g_dup (pn := 26) K rfl rfl dX3_next_25 ?_
      refine g_geti (pn := 29) K rfl fl_X3_32 lx_18 rfl dX3_next_26 ?_
      refine g_iconst (pn := 30) (v := 1) K rfl ic_1 dX3_next_29 ?_
      refine g_iadd (pn := 31) K rfl dX3_next_30 ?_
      refine g_puti (pn := 34) K rfl fp_X3_32 lx_18 rfl dX3_next_31 h (fun M1 h => ?_)
      exact g_vret K dX3_next_34 (oi h)
set_option maxHeartbeats 4000000 in
set_option maxRecDepth 20000 in
theorem w_f_Reader_fail {X : XT} {M : Mem}  {M' : Mem}   (h : f_Reader_fail M = some M') : CT layX X 0 yX3_fail cX3_fail 1 none [.ref (X.2.2.2.1 18)] M M' none := by
  refine CT.of rfl (Nat.le_of_ble_eq_true rfl) (lv := [(0, .ref (X.2.2.2.1 18))]) rfl (fun Γ K => ?_)
  have K : Kx layX X Γ RX3 cX3_fail 1 0 none := K
  unfold f_Reader_fail at h
  refine g_aload_n (pn := 1) K rfl 0 rfl dX3_fail_0 ?_
  refine g_geti (pn := 4) K rfl fl_X3_26 lx_18 rfl dX3_fail_1 ?_
  refine g_iconst (pn := 5) (v := (-1)) K rfl ic_m1 dX3_fail_4 ?_
  refine g_icmp_ne (tgt := 51) (pn := 8) K rfl (by decide) dX3_fail_5 h (fun h => ?_) (fun h => ?_)
  · exact g_vret K dX3_fail_51 (oi h)
  · refine g_aload_n (pn := 9) K rfl 0 rfl dX3_fail_8 ?_
    refine g_aload_n (pn := 10) K rfl 0 rfl dX3_fail_9 ?_
    refine g_geti (pn := 13) K rfl fl_X3_32 lx_18 rfl dX3_fail_10 ?_
    refine jp_e1 h (fun v1 => G layX X Γ 1 (QM layX X Γ none M') 48 [] [.int v1, .ref (X.2.2.2.1 18)] M) (fun v1 h => ?_) (fun j2 hj2 h => ?_)
    · refine g_puti (pn := 51) K rfl fp_X3_26 lx_18 rfl dX3_fail_48 h (fun M3 h => ?_)
      exact g_vret K dX3_fail_51 (oi h)
    refine jp_e1 h (fun u4 => G layX X Γ 1 (QM layX X Γ none M') 41 [(0, .ref (X.2.2.2.1 18))] [.ref (X.2.2.2.1 18)] M) (fun u4 h => ?_) (fun j5 hj5 h => ?_)
    · refine g_aload_n (pn := 42) K rfl 0 rfl dX3_fail_41 ?_
      refine g_getr (pn := 45) (j := 13) K rfl fl_X3_18 lx_18 rfl dX3_fail_42 ?_
      refine g_geti (pn := 48) K rfl fl_X3_64 lx_13 rfl dX3_fail_45 ?_
      refine g_sub [] rfl ?_
      exact hj2 _ h
    refine g_if_lt (tgt := 41) (pn := 16) K rfl (by decide) dX3_fail_13 h (fun h => ?_) (fun h => ?_)
    · exact hj5 _ h
    · refine g_aload_n (pn := 17) K rfl 0 rfl dX3_fail_16 ?_
      refine g_geti (pn := 20) K rfl fl_X3_32 lx_18 rfl dX3_fail_17 ?_
      refine g_sipush (pn := 23) (v := 160) K rfl sp_160 dX3_fail_20 ?_
      refine g_icmp_gt (tgt := 41) (pn := 26) K rfl (by decide) dX3_fail_23 h (fun h => ?_) (fun h => ?_)
      · exact hj5 _ h
      · refine g_aload_n (pn := 27) K rfl 0 rfl dX3_fail_26 ?_
        refine g_getr (pn := 30) (j := 13) K rfl fl_X3_18 lx_18 rfl dX3_fail_27 ?_
        refine g_getr (pn := 33) (j := 16) K rfl fl_X3_61 lx_13 rfl dX3_fail_30 ?_
        refine g_aload_n (pn := 34) K rfl 0 rfl dX3_fail_33 ?_
        refine g_geti (pn := 37) K rfl fl_X3_32 lx_18 rfl dX3_fail_34 ?_
        refine g_iald (pn := 38) K rfl lx_16 dX3_fail_37 h (fun h => ?_)
        refine g_goto (tgt := 48) K (by decide) dX3_fail_38 ?_
        refine g_sub [] rfl ?_
        exact hj2 _ h
set_option maxHeartbeats 4000000 in
set_option maxRecDepth 20000 in
theorem w_f_Reader_expect {X : XT} {M : Mem} {a1 : Int32} {M' : Mem}   (h : f_Reader_expect M a1 = some M') : CT layX X 2 yX3_expect cX3_expect 2 none [.ref (X.2.2.2.1 18), .int a1] M M' none := by
  refine CT.of rfl (Nat.le_of_ble_eq_true rfl) (lv := [(0, .ref (X.2.2.2.1 18)), (1, .int a1)]) rfl (fun Γ K => ?_)
  have K : Kx layX X Γ RX3 cX3_expect 2 2 none := K
  unfold f_Reader_expect at h
  refine g_aload_n (pn := 1) K rfl 0 rfl dX3_expect_0 ?_
  refine g_iload_n (pn := 2) K rfl 1 rfl dX3_expect_1 ?_
  obtain ⟨v2, hc1, h⟩ := ob_e h
  refine g_callV1 (pn := 5) (As := [.int a1]) (rest := []) (a := 18) K rfl (d' := 1) (Nat.le_of_ble_eq_true rfl) mv_X3_67 (recvO K lx_18 rfl) (w_f_Reader_is hc1) rfl rfl (Nat.le_of_ble_eq_true rfl) dX3_expect_2 ?_
  refine g_ifB_eq (tgt := 15) (pn := 8) K rfl (by decide) dX3_expect_5 h (fun h => ?_) (fun h => ?_)
  · refine g_aload_n (pn := 16) K rfl 0 rfl dX3_expect_15 ?_
    obtain ⟨M4, hc3, h⟩ := ob_e h
    refine g_callV0 (pn := 19) (As := []) (rest := []) (a := 18) K rfl (d' := 0) (Nat.le_of_ble_eq_true rfl) mv_X3_74 (recvO K lx_18 rfl) (w_f_Reader_fail hc3) rfl rfl (Nat.le_of_ble_eq_true rfl) dX3_expect_16 ?_
    exact g_vret K dX3_expect_19 (oi h)
  · refine g_aload_n (pn := 9) K rfl 0 rfl dX3_expect_8 ?_
    obtain ⟨M6, hc5, h⟩ := ob_e h
    refine g_callV0 (pn := 12) (As := []) (rest := []) (a := 18) K rfl (d' := 0) (Nat.le_of_ble_eq_true rfl) mv_X3_71 (recvO K lx_18 rfl) (w_f_Reader_next hc5) rfl rfl (Nat.le_of_ble_eq_true rfl) dX3_expect_9 ?_
    refine g_goto (tgt := 19) K (by decide) dX3_expect_12 ?_
    exact g_vret K dX3_expect_19 (oi h)
set_option maxHeartbeats 4000000 in
set_option maxRecDepth 20000 in
theorem w_f_Reader_opens {X : XT} {M : Mem}  {M' : Mem} {r : Bool}   (h : f_Reader_opens M = some (M', r)) : CT layX X 1 yX3_opens cX3_opens 1 (some .boolean) [.ref (X.2.2.2.1 18)] M M' (some (.int (b2i r))) := by
  refine CT.of rfl (Nat.le_of_ble_eq_true rfl) (lv := [(0, .ref (X.2.2.2.1 18))]) rfl (fun Γ K => ?_)
  have K : Kx layX X Γ RX3 cX3_opens 1 1 (some .boolean) := K
  unfold f_Reader_opens at h
  refine g_aload_n (pn := 1) K rfl 0 rfl dX3_opens_0 ?_
  refine g_geti (pn := 4) K rfl fl_X3_22 lx_18 rfl dX3_opens_1 ?_
  refine g_iconst (pn := 5) (v := 5) K rfl ic_5 dX3_opens_4 ?_
  refine g_icmp_lt (tgt := 14) (pn := 8) K rfl (by decide) dX3_opens_5 h (fun h => ?_) (fun h => ?_)
  · refine g_aload_n (pn := 15) K rfl 0 rfl dX3_opens_14 ?_
    refine g_dup (pn := 16) K rfl rfl dX3_opens_15 ?_
    refine g_geti (pn := 19) K rfl fl_X3_22 lx_18 rfl dX3_opens_16 ?_
    refine g_iconst (pn := 20) (v := 1) K rfl ic_1 dX3_opens_19 ?_
    refine g_iadd (pn := 21) K rfl dX3_opens_20 ?_
    refine g_puti (pn := 24) K rfl fp_X3_22 lx_18 rfl dX3_opens_21 h (fun M1 h => ?_)
    refine g_aload_n (pn := 25) K rfl 0 rfl dX3_opens_24 ?_
    obtain ⟨M3, hc2, h⟩ := ob_e h
    refine g_callV0 (pn := 28) (As := []) (rest := []) (a := 18) K rfl (d' := 0) (Nat.le_of_ble_eq_true rfl) mv_X3_71 (recvO K lx_18 rfl) (w_f_Reader_next hc2) rfl rfl (Nat.le_of_ble_eq_true rfl) dX3_opens_25 ?_
    refine g_iconst (pn := 29) (v := 1) K rfl ic_1 dX3_opens_28 ?_
    exact g_zret K rfl dX3_opens_29 (bq1 (oi2 h).2) (oi2 h).1
  · refine g_aload_n (pn := 9) K rfl 0 rfl dX3_opens_8 ?_
    obtain ⟨M5, hc4, h⟩ := ob_e h
    refine g_callV0 (pn := 12) (As := []) (rest := []) (a := 18) K rfl (d' := 0) (Nat.le_of_ble_eq_true rfl) mv_X3_74 (recvO K lx_18 rfl) (w_f_Reader_fail hc4) rfl rfl (Nat.le_of_ble_eq_true rfl) dX3_opens_9 ?_
    refine g_iconst (pn := 13) (v := 0) K rfl ic_0 dX3_opens_12 ?_
    exact g_zret K rfl dX3_opens_13 (bq0 (oi2 h).2) (oi2 h).1
set_option maxHeartbeats 4000000 in
set_option maxRecDepth 20000 in
theorem w_f_Reader_number {X : XT} {M : Mem}  {r : Int32}   (h : f_Reader_number M = some r) : CT layX X 0 yX3_number cX3_number 1 (some .int) [.ref (X.2.2.2.1 18)] M M (some (.int r)) := by
  refine CT.of rfl (Nat.le_of_ble_eq_true rfl) (lv := [(0, .ref (X.2.2.2.1 18))]) rfl (fun Γ K => ?_)
  have K : Kx layX X Γ RX3 cX3_number 1 0 (some .int) := K
  unfold f_Reader_number at h
  refine g_aload_n (pn := 1) K rfl 0 rfl dX3_number_0 ?_
  refine g_geti (pn := 4) K rfl fl_X3_32 lx_18 rfl dX3_number_1 ?_
  refine g_if_lt (tgt := 32) (pn := 7) K rfl (by decide) dX3_number_4 h (fun h => ?_) (fun h => ?_)
  · refine g_iconst (pn := 33) (v := 0) K rfl ic_0 dX3_number_32 ?_
    exact g_iret K dX3_number_33 (oi h) rfl
  · refine g_aload_n (pn := 8) K rfl 0 rfl dX3_number_7 ?_
    refine g_geti (pn := 11) K rfl fl_X3_32 lx_18 rfl dX3_number_8 ?_
    refine g_sipush (pn := 14) (v := 160) K rfl sp_160 dX3_number_11 ?_
    refine g_icmp_gt (tgt := 32) (pn := 17) K rfl (by decide) dX3_number_14 h (fun h => ?_) (fun h => ?_)
    · refine g_iconst (pn := 33) (v := 0) K rfl ic_0 dX3_number_32 ?_
      exact g_iret K dX3_number_33 (oi h) rfl
    · refine g_aload_n (pn := 18) K rfl 0 rfl dX3_number_17 ?_
      refine g_getr (pn := 21) (j := 13) K rfl fl_X3_18 lx_18 rfl dX3_number_18 ?_
      refine g_getr (pn := 24) (j := 17) K rfl fl_X3_111 lx_13 rfl dX3_number_21 ?_
      refine g_aload_n (pn := 25) K rfl 0 rfl dX3_number_24 ?_
      refine g_geti (pn := 28) K rfl fl_X3_32 lx_18 rfl dX3_number_25 ?_
      refine g_iald (pn := 29) K rfl lx_17 dX3_number_28 h (fun h => ?_)
      refine g_goto (tgt := 33) K (by decide) dX3_number_29 ?_
      exact g_iret K dX3_number_33 (oi h) rfl
set_option maxHeartbeats 4000000 in
set_option maxRecDepth 20000 in
theorem w_f_Reader_readTerm {X : XT} {M : Mem} {one : Mem → Option Mem} {M' : Mem}  {D : Nat} (hD : 4 ≤ D) (hone : ∀ M M' : Mem, one M = some M' → CT layX X D yX3_readOne cX3_readOne 2 none [.ref (X.2.2.2.1 18)] M M' none) (h : f_Reader_readTerm one M = some M') : CT layX X (D + 1) yX3_readTerm cX3_readTerm 2 none [.ref (X.2.2.2.1 18)] M M' none := by
  refine CT.of rfl (Nat.le_of_ble_eq_true rfl) (lv := [(0, .ref (X.2.2.2.1 18))]) rfl (fun Γ K => ?_)
  have K : Kx layX X Γ RX3 cX3_readTerm 2 (D + 1) none := K
  unfold f_Reader_readTerm at h
  refine g_aload_n (pn := 1) K rfl 0 rfl dX3_readTerm_0 ?_
  obtain ⟨M2, hc1, h⟩ := ob_e h
  refine g_callV0 (pn := 4) (As := []) (rest := []) (a := 18) K rfl (d' := D) (by omega) mv_X3_99 (recvO K lx_18 rfl) (hone _ _ hc1) rfl rfl (Nat.le_of_ble_eq_true rfl) dX3_readTerm_1 ?_
  refine g_iconst (pn := 5) (v := 0) K rfl ic_0 dX3_readTerm_4 ?_
  refine g_istore_n (pn := 6) (lv' := [(1, .int 0), (0, .ref (X.2.2.2.1 18))]) K rfl dX3_readTerm_5 rfl (Nat.le_of_ble_eq_true rfl) rfl ?_
  refine jp_e1 h (fun M3 => G layX X Γ 2 (QM layX X Γ none M') 45 [] [] M3) (fun M3 h => ?_) (fun j4 hj4 h => ?_)
  · exact g_vret K dX3_readTerm_45 (oi h)
  have LP6 : ∀ (fu7 : Nat) (v5 : Int32) (M6 : Mem), f_Reader_readTerm_L6 one j4 fu7 v5 M6 = some M' → G layX X Γ 2 (QM layX X Γ none M') 6 [(0, .ref (X.2.2.2.1 18)), (1, .int v5)] [] M6 := by
    intro fu7
    induction fu7 with
    | zero =>
      intro v5 M6 h
      rw [f_Reader_readTerm_L6] at h
      cases h
    | succ fu7 ih7 =>
      intro v5 M6 h
      rw [f_Reader_readTerm_L6] at h
      refine g_iload_n (pn := 7) K rfl 1 rfl dX3_readTerm_6 ?_
      refine g_sipush (pn := 10) (v := 160) K rfl sp_160 dX3_readTerm_7 ?_
      refine g_icmp_ge (tgt := 45) (pn := 13) K rfl (by decide) dX3_readTerm_10 h (fun h => ?_) (fun h => ?_)
      · refine g_sub [] rfl ?_
        exact hj4 _ h
      · refine g_aload_n (pn := 14) K rfl 0 rfl dX3_readTerm_13 ?_
        refine g_bipush (pn := 16) (v := 42) K rfl bp_42 dX3_readTerm_14 ?_
        obtain ⟨v9, hc8, h⟩ := ob_e h
        refine g_callV1 (pn := 19) (As := [.int 42]) (rest := []) (a := 18) K rfl (d' := 1) (by omega) mv_X3_67 (recvO K lx_18 rfl) (w_f_Reader_is hc8) rfl rfl (Nat.le_of_ble_eq_true rfl) dX3_readTerm_16 ?_
        refine g_ifB_eq (tgt := 45) (pn := 22) K rfl (by decide) dX3_readTerm_19 h (fun h => ?_) (fun h => ?_)
        · refine g_sub [] rfl ?_
          exact hj4 _ h
        · refine g_aload_n (pn := 23) K rfl 0 rfl dX3_readTerm_22 ?_
          obtain ⟨M11, hc10, h⟩ := ob_e h
          refine g_callV0 (pn := 26) (As := []) (rest := []) (a := 18) K rfl (d' := 0) (by omega) mv_X3_71 (recvO K lx_18 rfl) (w_f_Reader_next hc10) rfl rfl (Nat.le_of_ble_eq_true rfl) dX3_readTerm_23 ?_
          refine g_aload_n (pn := 27) K rfl 0 rfl dX3_readTerm_26 ?_
          obtain ⟨M13, hc12, h⟩ := ob_e h
          refine g_callV0 (pn := 30) (As := []) (rest := []) (a := 18) K rfl (d' := D) (by omega) mv_X3_99 (recvO K lx_18 rfl) (hone _ _ hc12) rfl rfl (Nat.le_of_ble_eq_true rfl) dX3_readTerm_27 ?_
          refine g_aload_n (pn := 31) K rfl 0 rfl dX3_readTerm_30 ?_
          refine g_getr (pn := 34) (j := 19) K rfl fl_X3_12 lx_18 rfl dX3_readTerm_31 ?_
          refine g_bipush (pn := 36) (v := (-42)) K rfl bp_m42 dX3_readTerm_34 ?_
          obtain ⟨M15, hc14, h⟩ := ob_e h
          refine g_callV0 (pn := 39) (As := [.int (-42)]) (rest := []) (a := 19) K rfl (d' := 0) (by omega) mv_X3_80 (recvO K lx_19 rfl) (w_f_Text_add (Or.inl rfl) hc14) rfl rfl (Nat.le_of_ble_eq_true rfl) dX3_readTerm_36 ?_
          obtain ⟨v16, ev16, h⟩ := bnd_e h
          refine g_iinc (pn := 42) (v := v16) (lv' := [(1, .int v16), (0, .ref (X.2.2.2.1 18))]) K rfl 1 rfl ii_1 ev16 dX3_readTerm_39 (Nat.le_of_ble_eq_true rfl) rfl ?_
          refine g_goto (tgt := 6) K (by decide) dX3_readTerm_42 ?_
          refine g_sub [1, 0] rfl ?_
          exact ih7 _ _ h
  refine g_sub [1, 0] rfl ?_
  exact LP6 FU _ _ h
set_option maxHeartbeats 4000000 in
set_option maxRecDepth 20000 in
theorem w_f_Reader_readSum {X : XT} {M : Mem} {one : Mem → Option Mem} {M' : Mem}  {D : Nat} (hD : 4 ≤ D) (hone : ∀ M M' : Mem, one M = some M' → CT layX X D yX3_readOne cX3_readOne 2 none [.ref (X.2.2.2.1 18)] M M' none) (h : f_Reader_readSum one M = some M') : CT layX X (D + 2) yX3_readSum cX3_readSum 3 none [.ref (X.2.2.2.1 18)] M M' none := by
  refine CT.of rfl (Nat.le_of_ble_eq_true rfl) (lv := [(0, .ref (X.2.2.2.1 18))]) rfl (fun Γ K => ?_)
  have K : Kx layX X Γ RX3 cX3_readSum 3 (D + 2) none := K
  unfold f_Reader_readSum at h
  refine g_aload_n (pn := 1) K rfl 0 rfl dX3_readSum_0 ?_
  obtain ⟨M2, hc1, h⟩ := ob_e h
  refine g_callV0 (pn := 4) (As := []) (rest := []) (a := 18) K rfl (d' := (D + 1)) (by omega) mv_X3_96 (recvO K lx_18 rfl) (w_f_Reader_readTerm hD hone hc1) rfl rfl (Nat.le_of_ble_eq_true rfl) dX3_readSum_1 ?_
  refine g_iconst (pn := 5) (v := 0) K rfl ic_0 dX3_readSum_4 ?_
  refine g_istore_n (pn := 6) (lv' := [(1, .int 0), (0, .ref (X.2.2.2.1 18))]) K rfl dX3_readSum_5 rfl (Nat.le_of_ble_eq_true rfl) rfl ?_
  refine jp_e1 h (fun M3 => G layX X Γ 3 (QM layX X Γ none M') 59 [] [] M3) (fun M3 h => ?_) (fun j4 hj4 h => ?_)
  · exact g_vret K dX3_readSum_59 (oi h)
  have LP6 : ∀ (fu7 : Nat) (v5 : Int32) (M6 : Mem), f_Reader_readSum_L6 one j4 fu7 v5 M6 = some M' → G layX X Γ 3 (QM layX X Γ none M') 6 [(0, .ref (X.2.2.2.1 18)), (1, .int v5)] [] M6 := by
    intro fu7
    induction fu7 with
    | zero =>
      intro v5 M6 h
      rw [f_Reader_readSum_L6] at h
      cases h
    | succ fu7 ih7 =>
      intro v5 M6 h
      rw [f_Reader_readSum_L6] at h
      refine g_iload_n (pn := 7) K rfl 1 rfl dX3_readSum_6 ?_
      refine g_sipush (pn := 10) (v := 160) K rfl sp_160 dX3_readSum_7 ?_
      refine g_icmp_ge (tgt := 59) (pn := 13) K rfl (by decide) dX3_readSum_10 h (fun h => ?_) (fun h => ?_)
      · refine g_sub [] rfl ?_
        exact hj4 _ h
      · refine g_aload_n (pn := 14) K rfl 0 rfl dX3_readSum_13 ?_
        refine g_bipush (pn := 16) (v := 43) K rfl bp_43 dX3_readSum_14 ?_
        obtain ⟨v9, hc8, h⟩ := ob_e h
        refine g_callV1 (pn := 19) (As := [.int 43]) (rest := []) (a := 18) K rfl (d' := 1) (by omega) mv_X3_67 (recvO K lx_18 rfl) (w_f_Reader_is hc8) rfl rfl (Nat.le_of_ble_eq_true rfl) dX3_readSum_16 ?_
        refine jp_e1 h (fun u10 => G layX X Γ 3 (QM layX X Γ none M') 31 [(0, .ref (X.2.2.2.1 18)), (1, .int v5)] [] M6) (fun u10 h => ?_) (fun j11 hj11 h => ?_)
        · refine g_aload_n (pn := 32) K rfl 0 rfl dX3_readSum_31 ?_
          obtain ⟨v13, hc12, h⟩ := ob_e h
          refine g_callV1 (pn := 35) (As := []) (rest := []) (a := 18) K rfl (d' := 0) (by omega) mv_X3_50 (recvO K lx_18 rfl) (w_f_Reader_token hc12) rfl rfl (Nat.le_of_ble_eq_true rfl) dX3_readSum_32 ?_
          refine g_istore_n (pn := 36) (lv' := [(2, .int v13), (0, .ref (X.2.2.2.1 18)), (1, .int v5)]) K rfl dX3_readSum_35 rfl (Nat.le_of_ble_eq_true rfl) rfl ?_
          refine g_aload_n (pn := 37) K rfl 1 rfl dX3_readSum_36 ?_
          obtain ⟨M15, hc14, h⟩ := ob_e h
          refine g_callV0 (pn := 40) (As := []) (rest := []) (a := 18) K rfl (d' := 0) (by omega) mv_X3_71 (recvO K lx_18 rfl) (w_f_Reader_next hc14) rfl rfl (Nat.le_of_ble_eq_true rfl) dX3_readSum_37 ?_
          refine g_aload_n (pn := 41) K rfl 1 rfl dX3_readSum_40 ?_
          obtain ⟨M17, hc16, h⟩ := ob_e h
          refine g_callV0 (pn := 44) (As := []) (rest := []) (a := 18) K rfl (d' := (D + 1)) (by omega) mv_X3_96 (recvO K lx_18 rfl) (w_f_Reader_readTerm hD hone hc16) rfl rfl (Nat.le_of_ble_eq_true rfl) dX3_readSum_41 ?_
          refine g_aload_n (pn := 45) K rfl 1 rfl dX3_readSum_44 ?_
          refine g_getr (pn := 48) (j := 19) K rfl fl_X3_12 lx_18 rfl dX3_readSum_45 ?_
          refine g_iload_n (pn := 49) K rfl 0 rfl dX3_readSum_48 ?_
          refine g_ineg (pn := 50) K rfl dX3_readSum_49 ?_
          obtain ⟨M19, hc18, h⟩ := ob_e h
          refine g_callV0 (pn := 53) (As := [.int (-v13)]) (rest := []) (a := 19) K rfl (d' := 0) (by omega) mv_X3_80 (recvO K lx_19 rfl) (w_f_Text_add (Or.inl rfl) hc18) rfl rfl (Nat.le_of_ble_eq_true rfl) dX3_readSum_50 ?_
          obtain ⟨v20, ev20, h⟩ := bnd_e h
          refine g_iinc (pn := 56) (v := v20) (lv' := [(1, .int v20), (2, .int v13), (0, .ref (X.2.2.2.1 18))]) K rfl 2 rfl ii_1 ev20 dX3_readSum_53 (Nat.le_of_ble_eq_true rfl) rfl ?_
          refine g_goto (tgt := 6) K (by decide) dX3_readSum_56 ?_
          refine g_sub [2, 0] rfl ?_
          exact ih7 _ _ h
        refine g_ifB_ne (tgt := 31) (pn := 22) K rfl (by decide) dX3_readSum_19 h (fun h => ?_) (fun h => ?_)
        · exact hj11 _ h
        · refine g_aload_n (pn := 23) K rfl 0 rfl dX3_readSum_22 ?_
          refine g_bipush (pn := 25) (v := 45) K rfl bp_45 dX3_readSum_23 ?_
          obtain ⟨v22, hc21, h⟩ := ob_e h
          refine g_callV1 (pn := 28) (As := [.int 45]) (rest := []) (a := 18) K rfl (d' := 1) (by omega) mv_X3_67 (recvO K lx_18 rfl) (w_f_Reader_is hc21) rfl rfl (Nat.le_of_ble_eq_true rfl) dX3_readSum_25 ?_
          refine g_ifB_eq (tgt := 59) (pn := 31) K rfl (by decide) dX3_readSum_28 h (fun h => ?_) (fun h => ?_)
          · refine g_sub [] rfl ?_
            exact hj4 _ h
          · exact hj11 _ h
  refine g_sub [1, 0] rfl ?_
  exact LP6 FU _ _ h
set_option maxHeartbeats 4000000 in
set_option maxRecDepth 20000 in
theorem w_f_Reader_readCompared {X : XT} {M : Mem} {one : Mem → Option Mem} {M' : Mem}  {D : Nat} (hD : 4 ≤ D) (hone : ∀ M M' : Mem, one M = some M' → CT layX X D yX3_readOne cX3_readOne 2 none [.ref (X.2.2.2.1 18)] M M' none) (h : f_Reader_readCompared one M = some M') : CT layX X (D + 3) yX3_readCompared cX3_readCompared 2 none [.ref (X.2.2.2.1 18)] M M' none := by
  refine CT.of rfl (Nat.le_of_ble_eq_true rfl) (lv := [(0, .ref (X.2.2.2.1 18))]) rfl (fun Γ K => ?_)
  have K : Kx layX X Γ RX3 cX3_readCompared 2 (D + 3) none := K
  unfold f_Reader_readCompared at h
  refine g_aload_n (pn := 1) K rfl 0 rfl dX3_readCompared_0 ?_
  obtain ⟨M2, hc1, h⟩ := ob_e h
  refine g_callV0 (pn := 4) (As := []) (rest := []) (a := 18) K rfl (d' := (D + 2)) (by omega) mv_X3_93 (recvO K lx_18 rfl) (w_f_Reader_readSum hD hone hc1) rfl rfl (Nat.le_of_ble_eq_true rfl) dX3_readCompared_1 ?_
  refine g_aload_n (pn := 5) K rfl 0 rfl dX3_readCompared_4 ?_
  refine g_bipush (pn := 7) (v := 60) K rfl bp_60 dX3_readCompared_5 ?_
  obtain ⟨v4, hc3, h⟩ := ob_e h
  refine g_callV1 (pn := 10) (As := [.int 60]) (rest := []) (a := 18) K rfl (d' := 1) (by omega) mv_X3_67 (recvO K lx_18 rfl) (w_f_Reader_is hc3) rfl rfl (Nat.le_of_ble_eq_true rfl) dX3_readCompared_7 ?_
  refine jp_e1 h (fun u5 => G layX X Γ 2 (QM layX X Γ none M') 22 [(0, .ref (X.2.2.2.1 18))] [] M2) (fun u5 h => ?_) (fun j6 hj6 h => ?_)
  · refine g_aload_n (pn := 23) K rfl 0 rfl dX3_readCompared_22 ?_
    obtain ⟨v8, hc7, h⟩ := ob_e h
    refine g_callV1 (pn := 26) (As := []) (rest := []) (a := 18) K rfl (d' := 0) (by omega) mv_X3_50 (recvO K lx_18 rfl) (w_f_Reader_token hc7) rfl rfl (Nat.le_of_ble_eq_true rfl) dX3_readCompared_23 ?_
    refine g_istore_n (pn := 27) (lv' := [(1, .int v8), (0, .ref (X.2.2.2.1 18))]) K rfl dX3_readCompared_26 rfl (Nat.le_of_ble_eq_true rfl) rfl ?_
    refine g_aload_n (pn := 28) K rfl 1 rfl dX3_readCompared_27 ?_
    obtain ⟨M10, hc9, h⟩ := ob_e h
    refine g_callV0 (pn := 31) (As := []) (rest := []) (a := 18) K rfl (d' := 0) (by omega) mv_X3_71 (recvO K lx_18 rfl) (w_f_Reader_next hc9) rfl rfl (Nat.le_of_ble_eq_true rfl) dX3_readCompared_28 ?_
    refine g_aload_n (pn := 32) K rfl 1 rfl dX3_readCompared_31 ?_
    obtain ⟨M12, hc11, h⟩ := ob_e h
    refine g_callV0 (pn := 35) (As := []) (rest := []) (a := 18) K rfl (d' := (D + 2)) (by omega) mv_X3_93 (recvO K lx_18 rfl) (w_f_Reader_readSum hD hone hc11) rfl rfl (Nat.le_of_ble_eq_true rfl) dX3_readCompared_32 ?_
    refine g_aload_n (pn := 36) K rfl 1 rfl dX3_readCompared_35 ?_
    refine g_getr (pn := 39) (j := 19) K rfl fl_X3_12 lx_18 rfl dX3_readCompared_36 ?_
    refine g_iload_n (pn := 40) K rfl 0 rfl dX3_readCompared_39 ?_
    refine g_ineg (pn := 41) K rfl dX3_readCompared_40 ?_
    obtain ⟨M14, hc13, h⟩ := ob_e h
    refine g_callV0 (pn := 44) (As := [.int (-v8)]) (rest := []) (a := 19) K rfl (d' := 0) (by omega) mv_X3_80 (recvO K lx_19 rfl) (w_f_Text_add (Or.inl rfl) hc13) rfl rfl (Nat.le_of_ble_eq_true rfl) dX3_readCompared_41 ?_
    exact g_vret K dX3_readCompared_44 (oi h)
  refine g_ifB_ne (tgt := 22) (pn := 13) K rfl (by decide) dX3_readCompared_10 h (fun h => ?_) (fun h => ?_)
  · exact hj6 _ h
  · refine g_aload_n (pn := 14) K rfl 0 rfl dX3_readCompared_13 ?_
    refine g_bipush (pn := 16) (v := 61) K rfl bp_61 dX3_readCompared_14 ?_
    obtain ⟨v16, hc15, h⟩ := ob_e h
    refine g_callV1 (pn := 19) (As := [.int 61]) (rest := []) (a := 18) K rfl (d' := 1) (by omega) mv_X3_67 (recvO K lx_18 rfl) (w_f_Reader_is hc15) rfl rfl (Nat.le_of_ble_eq_true rfl) dX3_readCompared_16 ?_
    refine g_ifB_eq (tgt := 44) (pn := 22) K rfl (by decide) dX3_readCompared_19 h (fun h => ?_) (fun h => ?_)
    · exact g_vret K dX3_readCompared_44 (oi h)
    · exact hj6 _ h
set_option maxHeartbeats 4000000 in
set_option maxRecDepth 20000 in
theorem w_f_Reader_readNotB {X : XT} {M : Mem} {one : Mem → Option Mem} {slf : Mem → Option Mem} {M' : Mem}  {D : Nat} (hD : 4 ≤ D) (hone : ∀ M M' : Mem, one M = some M' → CT layX X D yX3_readOne cX3_readOne 2 none [.ref (X.2.2.2.1 18)] M M' none) {E : Nat} (hE : D + 3 ≤ E) (hslf : ∀ M M' : Mem, slf M = some M' → CT layX X E yX3_readNot cX3_readNot 1 none [.ref (X.2.2.2.1 18)] M M' none) (h : f_Reader_readNotB one slf M = some M') : CT layX X (E + 1) yX3_readNot cX3_readNot 1 none [.ref (X.2.2.2.1 18)] M M' none := by
  refine CT.of rfl (Nat.le_of_ble_eq_true rfl) (lv := [(0, .ref (X.2.2.2.1 18))]) rfl (fun Γ K => ?_)
  have K : Kx layX X Γ RX3 cX3_readNot 1 (E + 1) none := K
  unfold f_Reader_readNotB at h
  refine g_aload_n (pn := 1) K rfl 0 rfl dX3_readNot_0 ?_
  refine g_bipush (pn := 3) (v := 12) K rfl bp_12 dX3_readNot_1 ?_
  obtain ⟨v2, hc1, h⟩ := ob_e h
  refine g_callV1 (pn := 6) (As := [.int 12]) (rest := []) (a := 18) K rfl (d' := 1) (by omega) mv_X3_67 (recvO K lx_18 rfl) (w_f_Reader_is hc1) rfl rfl (Nat.le_of_ble_eq_true rfl) dX3_readNot_3 ?_
  refine g_ifB_ne (tgt := 16) (pn := 9) K rfl (by decide) dX3_readNot_6 h (fun h => ?_) (fun h => ?_)
  · refine g_aload_n (pn := 17) K rfl 0 rfl dX3_readNot_16 ?_
    obtain ⟨M4, v5, hc3, h⟩ := ob2_e h
    refine g_callV1 (pn := 20) (As := []) (rest := []) (a := 18) K rfl (d' := 1) (by omega) mv_X3_89 (recvO K lx_18 rfl) (w_f_Reader_opens hc3) rfl rfl (Nat.le_of_ble_eq_true rfl) dX3_readNot_17 ?_
    refine g_ifB_eq (tgt := 46) (pn := 23) K rfl (by decide) dX3_readNot_20 h (fun h => ?_) (fun h => ?_)
    · exact g_vret K dX3_readNot_46 (oi h)
    · refine g_aload_n (pn := 24) K rfl 0 rfl dX3_readNot_23 ?_
      obtain ⟨M7, hc6, h⟩ := ob_e h
      refine g_callV0 (pn := 27) (As := []) (rest := []) (a := 18) K rfl (d' := E) (by omega) mv_X3_83 (recvO K lx_18 rfl) (hslf _ _ hc6) rfl rfl (Nat.le_of_ble_eq_true rfl) dX3_readNot_24 ?_
      refine g_aload_n (pn := 28) K rfl 0 rfl dX3_readNot_27 ?_
      refine g_dup (pn := 29) K rfl rfl dX3_readNot_28 ?_
      refine g_geti (pn := 32) K rfl fl_X3_22 lx_18 rfl dX3_readNot_29 ?_
      refine g_iconst (pn := 33) (v := 1) K rfl ic_1 dX3_readNot_32 ?_
      refine g_isub (pn := 34) K rfl dX3_readNot_33 ?_
      refine g_puti (pn := 37) K rfl fp_X3_22 lx_18 rfl dX3_readNot_34 h (fun M8 h => ?_)
      refine g_aload_n (pn := 38) K rfl 0 rfl dX3_readNot_37 ?_
      refine g_getr (pn := 41) (j := 19) K rfl fl_X3_12 lx_18 rfl dX3_readNot_38 ?_
      refine g_bipush (pn := 43) (v := (-12)) K rfl bp_m12 dX3_readNot_41 ?_
      obtain ⟨M10, hc9, h⟩ := ob_e h
      refine g_callV0 (pn := 46) (As := [.int (-12)]) (rest := []) (a := 19) K rfl (d' := 0) (by omega) mv_X3_80 (recvO K lx_19 rfl) (w_f_Text_add (Or.inl rfl) hc9) rfl rfl (Nat.le_of_ble_eq_true rfl) dX3_readNot_43 ?_
      exact g_vret K dX3_readNot_46 (oi h)
  · refine g_aload_n (pn := 10) K rfl 0 rfl dX3_readNot_9 ?_
    obtain ⟨M12, hc11, h⟩ := ob_e h
    refine g_callV0 (pn := 13) (As := []) (rest := []) (a := 18) K rfl (d' := (D + 3)) (by omega) mv_X3_86 (recvO K lx_18 rfl) (w_f_Reader_readCompared hD hone hc11) rfl rfl (Nat.le_of_ble_eq_true rfl) dX3_readNot_10 ?_
    refine g_goto (tgt := 46) K (by decide) dX3_readNot_13 ?_
    exact g_vret K dX3_readNot_46 (oi h)
theorem w_f_Reader_readNot {X : XT} {one : Mem → Option Mem} {D : Nat} (hD : 4 ≤ D) (hone : ∀ M M' : Mem, one M = some M' → CT layX X D yX3_readOne cX3_readOne 2 none [.ref (X.2.2.2.1 18)] M M' none) (k : Nat) : ∀ {M M' : Mem}, f_Reader_readNot one k M = some M' → CT layX X (D + 4 + k) yX3_readNot cX3_readNot 1 none [.ref (X.2.2.2.1 18)] M M' none := by
  induction k with
  | zero =>
    intro M M' h
    rw [f_Reader_readNot] at h
    cases h
  | succ k ih =>
    intro M M' h
    rw [f_Reader_readNot] at h
    exact w_f_Reader_readNotB (E := D + 4 + k) hD hone (by omega) (fun M M' h => ih h) h
set_option maxHeartbeats 4000000 in
set_option maxRecDepth 20000 in
theorem w_f_Reader_readAnd {X : XT} {M : Mem} {one : Mem → Option Mem} {M' : Mem}  {D : Nat} (hD : 4 ≤ D) (hone : ∀ M M' : Mem, one M = some M' → CT layX X D yX3_readOne cX3_readOne 2 none [.ref (X.2.2.2.1 18)] M M' none) (h : f_Reader_readAnd one M = some M') : CT layX X (D + 15) yX3_readAnd cX3_readAnd 2 none [.ref (X.2.2.2.1 18)] M M' none := by
  refine CT.of rfl (Nat.le_of_ble_eq_true rfl) (lv := [(0, .ref (X.2.2.2.1 18))]) rfl (fun Γ K => ?_)
  have K : Kx layX X Γ RX3 cX3_readAnd 2 (D + 15) none := K
  unfold f_Reader_readAnd at h
  refine g_aload_n (pn := 1) K rfl 0 rfl dX3_readAnd_0 ?_
  obtain ⟨M2, hc1, h⟩ := ob_e h
  refine g_callV0 (pn := 4) (As := []) (rest := []) (a := 18) K rfl (d' := (D + 14)) (by omega) mv_X3_83 (recvO K lx_18 rfl) (w_f_Reader_readNot hD hone 10 hc1) rfl rfl (Nat.le_of_ble_eq_true rfl) dX3_readAnd_1 ?_
  refine g_iconst (pn := 5) (v := 0) K rfl ic_0 dX3_readAnd_4 ?_
  refine g_istore_n (pn := 6) (lv' := [(1, .int 0), (0, .ref (X.2.2.2.1 18))]) K rfl dX3_readAnd_5 rfl (Nat.le_of_ble_eq_true rfl) rfl ?_
  refine jp_e1 h (fun M3 => G layX X Γ 2 (QM layX X Γ none M') 45 [] [] M3) (fun M3 h => ?_) (fun j4 hj4 h => ?_)
  · exact g_vret K dX3_readAnd_45 (oi h)
  have LP6 : ∀ (fu7 : Nat) (v5 : Int32) (M6 : Mem), f_Reader_readAnd_L6 one j4 fu7 v5 M6 = some M' → G layX X Γ 2 (QM layX X Γ none M') 6 [(0, .ref (X.2.2.2.1 18)), (1, .int v5)] [] M6 := by
    intro fu7
    induction fu7 with
    | zero =>
      intro v5 M6 h
      rw [f_Reader_readAnd_L6] at h
      cases h
    | succ fu7 ih7 =>
      intro v5 M6 h
      rw [f_Reader_readAnd_L6] at h
      refine g_iload_n (pn := 7) K rfl 1 rfl dX3_readAnd_6 ?_
      refine g_sipush (pn := 10) (v := 160) K rfl sp_160 dX3_readAnd_7 ?_
      refine g_icmp_ge (tgt := 45) (pn := 13) K rfl (by decide) dX3_readAnd_10 h (fun h => ?_) (fun h => ?_)
      · refine g_sub [] rfl ?_
        exact hj4 _ h
      · refine g_aload_n (pn := 14) K rfl 0 rfl dX3_readAnd_13 ?_
        refine g_bipush (pn := 16) (v := 11) K rfl bp_11 dX3_readAnd_14 ?_
        obtain ⟨v9, hc8, h⟩ := ob_e h
        refine g_callV1 (pn := 19) (As := [.int 11]) (rest := []) (a := 18) K rfl (d' := 1) (by omega) mv_X3_67 (recvO K lx_18 rfl) (w_f_Reader_is hc8) rfl rfl (Nat.le_of_ble_eq_true rfl) dX3_readAnd_16 ?_
        refine g_ifB_eq (tgt := 45) (pn := 22) K rfl (by decide) dX3_readAnd_19 h (fun h => ?_) (fun h => ?_)
        · refine g_sub [] rfl ?_
          exact hj4 _ h
        · refine g_aload_n (pn := 23) K rfl 0 rfl dX3_readAnd_22 ?_
          obtain ⟨M11, hc10, h⟩ := ob_e h
          refine g_callV0 (pn := 26) (As := []) (rest := []) (a := 18) K rfl (d' := 0) (by omega) mv_X3_71 (recvO K lx_18 rfl) (w_f_Reader_next hc10) rfl rfl (Nat.le_of_ble_eq_true rfl) dX3_readAnd_23 ?_
          refine g_aload_n (pn := 27) K rfl 0 rfl dX3_readAnd_26 ?_
          obtain ⟨M13, hc12, h⟩ := ob_e h
          refine g_callV0 (pn := 30) (As := []) (rest := []) (a := 18) K rfl (d' := (D + 14)) (by omega) mv_X3_83 (recvO K lx_18 rfl) (w_f_Reader_readNot hD hone 10 hc12) rfl rfl (Nat.le_of_ble_eq_true rfl) dX3_readAnd_27 ?_
          refine g_aload_n (pn := 31) K rfl 0 rfl dX3_readAnd_30 ?_
          refine g_getr (pn := 34) (j := 19) K rfl fl_X3_12 lx_18 rfl dX3_readAnd_31 ?_
          refine g_bipush (pn := 36) (v := (-11)) K rfl bp_m11 dX3_readAnd_34 ?_
          obtain ⟨M15, hc14, h⟩ := ob_e h
          refine g_callV0 (pn := 39) (As := [.int (-11)]) (rest := []) (a := 19) K rfl (d' := 0) (by omega) mv_X3_80 (recvO K lx_19 rfl) (w_f_Text_add (Or.inl rfl) hc14) rfl rfl (Nat.le_of_ble_eq_true rfl) dX3_readAnd_36 ?_
          obtain ⟨v16, ev16, h⟩ := bnd_e h
          refine g_iinc (pn := 42) (v := v16) (lv' := [(1, .int v16), (0, .ref (X.2.2.2.1 18))]) K rfl 1 rfl ii_1 ev16 dX3_readAnd_39 (Nat.le_of_ble_eq_true rfl) rfl ?_
          refine g_goto (tgt := 6) K (by decide) dX3_readAnd_42 ?_
          refine g_sub [1, 0] rfl ?_
          exact ih7 _ _ h
  refine g_sub [1, 0] rfl ?_
  exact LP6 FU _ _ h
set_option maxHeartbeats 4000000 in
set_option maxRecDepth 20000 in
theorem w_f_Reader_readE {X : XT} {M : Mem} {one : Mem → Option Mem} {M' : Mem}  {D : Nat} (hD : 4 ≤ D) (hone : ∀ M M' : Mem, one M = some M' → CT layX X D yX3_readOne cX3_readOne 2 none [.ref (X.2.2.2.1 18)] M M' none) (h : f_Reader_readE one M = some M') : CT layX X (D + 16) yX3_readE cX3_readE 2 none [.ref (X.2.2.2.1 18)] M M' none := by
  refine CT.of rfl (Nat.le_of_ble_eq_true rfl) (lv := [(0, .ref (X.2.2.2.1 18))]) rfl (fun Γ K => ?_)
  have K : Kx layX X Γ RX3 cX3_readE 2 (D + 16) none := K
  unfold f_Reader_readE at h
  refine g_aload_n (pn := 1) K rfl 0 rfl dX3_readE_0 ?_
  obtain ⟨M2, hc1, h⟩ := ob_e h
  refine g_callV0 (pn := 4) (As := []) (rest := []) (a := 18) K rfl (d' := (D + 15)) (by omega) mv_X3_77 (recvO K lx_18 rfl) (w_f_Reader_readAnd hD hone hc1) rfl rfl (Nat.le_of_ble_eq_true rfl) dX3_readE_1 ?_
  refine g_iconst (pn := 5) (v := 0) K rfl ic_0 dX3_readE_4 ?_
  refine g_istore_n (pn := 6) (lv' := [(1, .int 0), (0, .ref (X.2.2.2.1 18))]) K rfl dX3_readE_5 rfl (Nat.le_of_ble_eq_true rfl) rfl ?_
  refine jp_e1 h (fun M3 => G layX X Γ 2 (QM layX X Γ none M') 45 [] [] M3) (fun M3 h => ?_) (fun j4 hj4 h => ?_)
  · exact g_vret K dX3_readE_45 (oi h)
  have LP6 : ∀ (fu7 : Nat) (v5 : Int32) (M6 : Mem), f_Reader_readE_L6 one j4 fu7 v5 M6 = some M' → G layX X Γ 2 (QM layX X Γ none M') 6 [(0, .ref (X.2.2.2.1 18)), (1, .int v5)] [] M6 := by
    intro fu7
    induction fu7 with
    | zero =>
      intro v5 M6 h
      rw [f_Reader_readE_L6] at h
      cases h
    | succ fu7 ih7 =>
      intro v5 M6 h
      rw [f_Reader_readE_L6] at h
      refine g_iload_n (pn := 7) K rfl 1 rfl dX3_readE_6 ?_
      refine g_sipush (pn := 10) (v := 160) K rfl sp_160 dX3_readE_7 ?_
      refine g_icmp_ge (tgt := 45) (pn := 13) K rfl (by decide) dX3_readE_10 h (fun h => ?_) (fun h => ?_)
      · refine g_sub [] rfl ?_
        exact hj4 _ h
      · refine g_aload_n (pn := 14) K rfl 0 rfl dX3_readE_13 ?_
        refine g_bipush (pn := 16) (v := 10) K rfl bp_10 dX3_readE_14 ?_
        obtain ⟨v9, hc8, h⟩ := ob_e h
        refine g_callV1 (pn := 19) (As := [.int 10]) (rest := []) (a := 18) K rfl (d' := 1) (by omega) mv_X3_67 (recvO K lx_18 rfl) (w_f_Reader_is hc8) rfl rfl (Nat.le_of_ble_eq_true rfl) dX3_readE_16 ?_
        refine g_ifB_eq (tgt := 45) (pn := 22) K rfl (by decide) dX3_readE_19 h (fun h => ?_) (fun h => ?_)
        · refine g_sub [] rfl ?_
          exact hj4 _ h
        · refine g_aload_n (pn := 23) K rfl 0 rfl dX3_readE_22 ?_
          obtain ⟨M11, hc10, h⟩ := ob_e h
          refine g_callV0 (pn := 26) (As := []) (rest := []) (a := 18) K rfl (d' := 0) (by omega) mv_X3_71 (recvO K lx_18 rfl) (w_f_Reader_next hc10) rfl rfl (Nat.le_of_ble_eq_true rfl) dX3_readE_23 ?_
          refine g_aload_n (pn := 27) K rfl 0 rfl dX3_readE_26 ?_
          obtain ⟨M13, hc12, h⟩ := ob_e h
          refine g_callV0 (pn := 30) (As := []) (rest := []) (a := 18) K rfl (d' := (D + 15)) (by omega) mv_X3_77 (recvO K lx_18 rfl) (w_f_Reader_readAnd hD hone hc12) rfl rfl (Nat.le_of_ble_eq_true rfl) dX3_readE_27 ?_
          refine g_aload_n (pn := 31) K rfl 0 rfl dX3_readE_30 ?_
          refine g_getr (pn := 34) (j := 19) K rfl fl_X3_12 lx_18 rfl dX3_readE_31 ?_
          refine g_bipush (pn := 36) (v := (-10)) K rfl bp_m10 dX3_readE_34 ?_
          obtain ⟨M15, hc14, h⟩ := ob_e h
          refine g_callV0 (pn := 39) (As := [.int (-10)]) (rest := []) (a := 19) K rfl (d' := 0) (by omega) mv_X3_80 (recvO K lx_19 rfl) (w_f_Text_add (Or.inl rfl) hc14) rfl rfl (Nat.le_of_ble_eq_true rfl) dX3_readE_36 ?_
          obtain ⟨v16, ev16, h⟩ := bnd_e h
          refine g_iinc (pn := 42) (v := v16) (lv' := [(1, .int v16), (0, .ref (X.2.2.2.1 18))]) K rfl 1 rfl ii_1 ev16 dX3_readE_39 (Nat.le_of_ble_eq_true rfl) rfl ?_
          refine g_goto (tgt := 6) K (by decide) dX3_readE_42 ?_
          refine g_sub [1, 0] rfl ?_
          exact ih7 _ _ h
  refine g_sub [1, 0] rfl ?_
  exact LP6 FU _ _ h
set_option maxHeartbeats 4000000 in
set_option maxRecDepth 20000 in
theorem w_f_Reader_readMinus {X : XT} {M : Mem} {one : Mem → Option Mem} {M' : Mem}  {D : Nat} (hD : 4 ≤ D) (hone : ∀ M M' : Mem, one M = some M' → CT layX X D yX3_readOne cX3_readOne 2 none [.ref (X.2.2.2.1 18)] M M' none) (h : f_Reader_readMinus one M = some M') : CT layX X (D + 1) yX3_readMinus cX3_readMinus 1 none [.ref (X.2.2.2.1 18)] M M' none := by
  refine CT.of rfl (Nat.le_of_ble_eq_true rfl) (lv := [(0, .ref (X.2.2.2.1 18))]) rfl (fun Γ K => ?_)
  have K : Kx layX X Γ RX3 cX3_readMinus 1 (D + 1) none := K
  unfold f_Reader_readMinus at h
  refine g_aload_n (pn := 1) K rfl 0 rfl dX3_readMinus_0 ?_
  obtain ⟨M2, v3, hc1, h⟩ := ob2_e h
  refine g_callV1 (pn := 4) (As := []) (rest := []) (a := 18) K rfl (d' := 1) (by omega) mv_X3_89 (recvO K lx_18 rfl) (w_f_Reader_opens hc1) rfl rfl (Nat.le_of_ble_eq_true rfl) dX3_readMinus_1 ?_
  refine g_ifB_eq (tgt := 30) (pn := 7) K rfl (by decide) dX3_readMinus_4 h (fun h => ?_) (fun h => ?_)
  · exact g_vret K dX3_readMinus_30 (oi h)
  · refine g_aload_n (pn := 8) K rfl 0 rfl dX3_readMinus_7 ?_
    obtain ⟨M5, hc4, h⟩ := ob_e h
    refine g_callV0 (pn := 11) (As := []) (rest := []) (a := 18) K rfl (d' := D) (by omega) mv_X3_99 (recvO K lx_18 rfl) (hone _ _ hc4) rfl rfl (Nat.le_of_ble_eq_true rfl) dX3_readMinus_8 ?_
    refine g_aload_n (pn := 12) K rfl 0 rfl dX3_readMinus_11 ?_
    refine g_dup (pn := 13) K rfl rfl dX3_readMinus_12 ?_
    refine g_geti (pn := 16) K rfl fl_X3_22 lx_18 rfl dX3_readMinus_13 ?_
    refine g_iconst (pn := 17) (v := 1) K rfl ic_1 dX3_readMinus_16 ?_
    refine g_isub (pn := 18) K rfl dX3_readMinus_17 ?_
    refine g_puti (pn := 21) K rfl fp_X3_22 lx_18 rfl dX3_readMinus_18 h (fun M6 h => ?_)
    refine g_aload_n (pn := 22) K rfl 0 rfl dX3_readMinus_21 ?_
    refine g_getr (pn := 25) (j := 19) K rfl fl_X3_12 lx_18 rfl dX3_readMinus_22 ?_
    refine g_bipush (pn := 27) (v := (-16)) K rfl bp_m16 dX3_readMinus_25 ?_
    obtain ⟨M8, hc7, h⟩ := ob_e h
    refine g_callV0 (pn := 30) (As := [.int (-16)]) (rest := []) (a := 19) K rfl (d' := 0) (by omega) mv_X3_80 (recvO K lx_19 rfl) (w_f_Text_add (Or.inl rfl) hc7) rfl rfl (Nat.le_of_ble_eq_true rfl) dX3_readMinus_27 ?_
    exact g_vret K dX3_readMinus_30 (oi h)
set_option maxHeartbeats 4000000 in
set_option maxRecDepth 20000 in
theorem w_f_Reader_readBracket {X : XT} {M : Mem} {one : Mem → Option Mem} {M' : Mem}  {D : Nat} (hD : 4 ≤ D) (hone : ∀ M M' : Mem, one M = some M' → CT layX X D yX3_readOne cX3_readOne 2 none [.ref (X.2.2.2.1 18)] M M' none) (h : f_Reader_readBracket one M = some M') : CT layX X (D + 17) yX3_readBracket cX3_readBracket 1 none [.ref (X.2.2.2.1 18)] M M' none := by
  refine CT.of rfl (Nat.le_of_ble_eq_true rfl) (lv := [(0, .ref (X.2.2.2.1 18))]) rfl (fun Γ K => ?_)
  have K : Kx layX X Γ RX3 cX3_readBracket 1 (D + 17) none := K
  unfold f_Reader_readBracket at h
  refine g_aload_n (pn := 1) K rfl 0 rfl dX3_readBracket_0 ?_
  obtain ⟨M2, v3, hc1, h⟩ := ob2_e h
  refine g_callV1 (pn := 4) (As := []) (rest := []) (a := 18) K rfl (d' := 1) (by omega) mv_X3_89 (recvO K lx_18 rfl) (w_f_Reader_opens hc1) rfl rfl (Nat.le_of_ble_eq_true rfl) dX3_readBracket_1 ?_
  refine g_ifB_eq (tgt := 27) (pn := 7) K rfl (by decide) dX3_readBracket_4 h (fun h => ?_) (fun h => ?_)
  · exact g_vret K dX3_readBracket_27 (oi h)
  · refine g_aload_n (pn := 8) K rfl 0 rfl dX3_readBracket_7 ?_
    obtain ⟨M5, hc4, h⟩ := ob_e h
    refine g_callV0 (pn := 11) (As := []) (rest := []) (a := 18) K rfl (d' := (D + 16)) (by omega) mv_X3_44 (recvO K lx_18 rfl) (w_f_Reader_readE hD hone hc4) rfl rfl (Nat.le_of_ble_eq_true rfl) dX3_readBracket_8 ?_
    refine g_aload_n (pn := 12) K rfl 0 rfl dX3_readBracket_11 ?_
    refine g_bipush (pn := 14) (v := 41) K rfl bp_41 dX3_readBracket_12 ?_
    obtain ⟨M7, hc6, h⟩ := ob_e h
    refine g_callV0 (pn := 17) (As := [.int 41]) (rest := []) (a := 18) K rfl (d' := 2) (by omega) mv_X3_40 (recvO K lx_18 rfl) (w_f_Reader_expect hc6) rfl rfl (Nat.le_of_ble_eq_true rfl) dX3_readBracket_14 ?_
    refine g_aload_n (pn := 18) K rfl 0 rfl dX3_readBracket_17 ?_
    refine g_dup (pn := 19) K rfl rfl dX3_readBracket_18 ?_
    refine g_geti (pn := 22) K rfl fl_X3_22 lx_18 rfl dX3_readBracket_19 ?_
    refine g_iconst (pn := 23) (v := 1) K rfl ic_1 dX3_readBracket_22 ?_
    refine g_isub (pn := 24) K rfl dX3_readBracket_23 ?_
    refine g_puti (pn := 27) K rfl fp_X3_22 lx_18 rfl dX3_readBracket_24 h (fun M8 h => ?_)
    exact g_vret K dX3_readBracket_27 (oi h)
set_option maxHeartbeats 4000000 in
set_option maxRecDepth 20000 in
theorem w_f_Reader_readOneB {X : XT} {M : Mem} {one : Mem → Option Mem} {M' : Mem}  {D : Nat} (hD : 4 ≤ D) (hone : ∀ M M' : Mem, one M = some M' → CT layX X D yX3_readOne cX3_readOne 2 none [.ref (X.2.2.2.1 18)] M M' none) (h : f_Reader_readOneB one M = some M') : CT layX X (D + 18) yX3_readOne cX3_readOne 2 none [.ref (X.2.2.2.1 18)] M M' none := by
  refine CT.of rfl (Nat.le_of_ble_eq_true rfl) (lv := [(0, .ref (X.2.2.2.1 18))]) rfl (fun Γ K => ?_)
  have K : Kx layX X Γ RX3 cX3_readOne 2 (D + 18) none := K
  unfold f_Reader_readOneB at h
  refine g_aload_n (pn := 1) K rfl 0 rfl dX3_readOne_0 ?_
  obtain ⟨v2, hc1, h⟩ := ob_e h
  refine g_callV1 (pn := 4) (As := []) (rest := []) (a := 18) K rfl (d' := 0) (by omega) mv_X3_50 (recvO K lx_18 rfl) (w_f_Reader_token hc1) rfl rfl (Nat.le_of_ble_eq_true rfl) dX3_readOne_1 ?_
  refine g_istore_n (pn := 5) (lv' := [(1, .int v2), (0, .ref (X.2.2.2.1 18))]) K rfl dX3_readOne_4 rfl (Nat.le_of_ble_eq_true rfl) rfl ?_
  refine g_iload_n (pn := 6) K rfl 0 rfl dX3_readOne_5 ?_
  refine g_bipush (pn := 8) (v := 13) K rfl bp_13 dX3_readOne_6 ?_
  refine g_icmp_ne (tgt := 29) (pn := 11) K rfl (by decide) dX3_readOne_8 h (fun h => ?_) (fun h => ?_)
  · refine g_iload_n (pn := 30) K rfl 0 rfl dX3_readOne_29 ?_
    refine g_iconst (pn := 31) (v := 1) K rfl ic_1 dX3_readOne_30 ?_
    refine jp_e1 h (fun M3 => G layX X Γ 2 (QM layX X Γ none M') 56 [(1, .int v2), (0, .ref (X.2.2.2.1 18))] [] M3) (fun M3 h => ?_) (fun j4 hj4 h => ?_)
    · refine g_iload_n (pn := 57) K rfl 0 rfl dX3_readOne_56 ?_
      refine g_bipush (pn := 59) (v := 45) K rfl bp_45 dX3_readOne_57 ?_
      refine g_icmp_ne (tgt := 69) (pn := 62) K rfl (by decide) dX3_readOne_59 h (fun h => ?_) (fun h => ?_)
      · refine g_iload_n (pn := 70) K rfl 0 rfl dX3_readOne_69 ?_
        refine g_bipush (pn := 72) (v := 40) K rfl bp_40 dX3_readOne_70 ?_
        refine g_icmp_ne (tgt := 82) (pn := 75) K rfl (by decide) dX3_readOne_72 h (fun h => ?_) (fun h => ?_)
        · refine g_aload_n (pn := 83) K rfl 1 rfl dX3_readOne_82 ?_
          obtain ⟨M6, hc5, h⟩ := ob_e h
          refine g_callV0 (pn := 86) (As := []) (rest := []) (a := 18) K rfl (d' := 0) (by omega) mv_X3_74 (recvO K lx_18 rfl) (w_f_Reader_fail hc5) rfl rfl (Nat.le_of_ble_eq_true rfl) dX3_readOne_83 ?_
          exact g_vret K dX3_readOne_86 (oi h)
        · refine g_aload_n (pn := 76) K rfl 1 rfl dX3_readOne_75 ?_
          obtain ⟨M8, hc7, h⟩ := ob_e h
          refine g_callV0 (pn := 79) (As := []) (rest := []) (a := 18) K rfl (d' := (D + 17)) (by omega) mv_X3_108 (recvO K lx_18 rfl) (w_f_Reader_readBracket hD hone hc7) rfl rfl (Nat.le_of_ble_eq_true rfl) dX3_readOne_76 ?_
          refine g_goto (tgt := 86) K (by decide) dX3_readOne_79 ?_
          exact g_vret K dX3_readOne_86 (oi h)
      · refine g_aload_n (pn := 63) K rfl 1 rfl dX3_readOne_62 ?_
        obtain ⟨M10, hc9, h⟩ := ob_e h
        refine g_callV0 (pn := 66) (As := []) (rest := []) (a := 18) K rfl (d' := (D + 1)) (by omega) mv_X3_105 (recvO K lx_18 rfl) (w_f_Reader_readMinus hD hone hc9) rfl rfl (Nat.le_of_ble_eq_true rfl) dX3_readOne_63 ?_
        refine g_goto (tgt := 86) K (by decide) dX3_readOne_66 ?_
        exact g_vret K dX3_readOne_86 (oi h)
    refine g_icmp_lt (tgt := 56) (pn := 34) K rfl (by decide) dX3_readOne_31 h (fun h => ?_) (fun h => ?_)
    · exact hj4 _ h
    · refine g_iload_n (pn := 35) K rfl 0 rfl dX3_readOne_34 ?_
      refine g_bipush (pn := 37) (v := 6) K rfl bp_6 dX3_readOne_35 ?_
      refine g_icmp_gt (tgt := 56) (pn := 40) K rfl (by decide) dX3_readOne_37 h (fun h => ?_) (fun h => ?_)
      · exact hj4 _ h
      · refine g_aload_n (pn := 41) K rfl 1 rfl dX3_readOne_40 ?_
        refine g_getr (pn := 44) (j := 19) K rfl fl_X3_12 lx_18 rfl dX3_readOne_41 ?_
        refine g_iload_n (pn := 45) K rfl 0 rfl dX3_readOne_44 ?_
        refine g_ineg (pn := 46) K rfl dX3_readOne_45 ?_
        obtain ⟨M12, hc11, h⟩ := ob_e h
        refine g_callV0 (pn := 49) (As := [.int (-v2)]) (rest := []) (a := 19) K rfl (d' := 0) (by omega) mv_X3_80 (recvO K lx_19 rfl) (w_f_Text_add (Or.inl rfl) hc11) rfl rfl (Nat.le_of_ble_eq_true rfl) dX3_readOne_46 ?_
        refine g_aload_n (pn := 50) K rfl 1 rfl dX3_readOne_49 ?_
        obtain ⟨M14, hc13, h⟩ := ob_e h
        refine g_callV0 (pn := 53) (As := []) (rest := []) (a := 18) K rfl (d' := 0) (by omega) mv_X3_71 (recvO K lx_18 rfl) (w_f_Reader_next hc13) rfl rfl (Nat.le_of_ble_eq_true rfl) dX3_readOne_50 ?_
        refine g_goto (tgt := 86) K (by decide) dX3_readOne_53 ?_
        exact g_vret K dX3_readOne_86 (oi h)
  · refine g_aload_n (pn := 12) K rfl 1 rfl dX3_readOne_11 ?_
    refine g_getr (pn := 15) (j := 19) K rfl fl_X3_12 lx_18 rfl dX3_readOne_12 ?_
    refine g_aload_n (pn := 16) K rfl 1 rfl dX3_readOne_15 ?_
    obtain ⟨v16, hc15, h⟩ := ob_e h
    refine g_callV1 (pn := 19) (As := []) (rest := [.ref (X.2.2.2.1 19)]) (a := 18) K rfl (d' := 0) (by omega) mv_X3_102 (recvO K lx_18 rfl) (w_f_Reader_number hc15) rfl rfl (Nat.le_of_ble_eq_true rfl) dX3_readOne_16 ?_
    obtain ⟨M18, hc17, h⟩ := ob_e h
    refine g_callV0 (pn := 22) (As := [.int v16]) (rest := []) (a := 19) K rfl (d' := 0) (by omega) mv_X3_80 (recvO K lx_19 rfl) (w_f_Text_add (Or.inl rfl) hc17) rfl rfl (Nat.le_of_ble_eq_true rfl) dX3_readOne_19 ?_
    refine g_aload_n (pn := 23) K rfl 1 rfl dX3_readOne_22 ?_
    obtain ⟨M20, hc19, h⟩ := ob_e h
    refine g_callV0 (pn := 26) (As := []) (rest := []) (a := 18) K rfl (d' := 0) (by omega) mv_X3_71 (recvO K lx_18 rfl) (w_f_Reader_next hc19) rfl rfl (Nat.le_of_ble_eq_true rfl) dX3_readOne_23 ?_
    refine g_goto (tgt := 86) K (by decide) dX3_readOne_26 ?_
    exact g_vret K dX3_readOne_86 (oi h)
theorem w_f_Reader_readOne {X : XT} (n : Nat) : ∀ {M M' : Mem}, f_Reader_readOne n M = some M' → CT layX X (4 + 18 * n) yX3_readOne cX3_readOne 2 none [.ref (X.2.2.2.1 18)] M M' none := by
  induction n with
  | zero =>
    intro M M' h
    rw [f_Reader_readOne] at h
    cases h
  | succ n ih =>
    intro M M' h
    rw [f_Reader_readOne] at h
    have e : 4 + 18 * (n + 1) = 4 + 18 * n + 18 := by omega
    rw [e]
    exact w_f_Reader_readOneB (D := 4 + 18 * n) (by omega) (fun M M' h => ih h) h
set_option maxHeartbeats 4000000 in
set_option maxRecDepth 20000 in
theorem w_f_Reader_read {X : XT} {M : Mem}  {M' : Mem} {r : Int32}   (h : f_Reader_read M = some (M', r)) : CT layX X 165 yX3_read cX3_read 2 (some .int) [.ref (X.2.2.2.1 18)] M M' (some (.int r)) := by
  refine CT.of rfl (Nat.le_of_ble_eq_true rfl) (lv := [(0, .ref (X.2.2.2.1 18))]) rfl (fun Γ K => ?_)
  have K : Kx layX X Γ RX3 cX3_read 2 165 (some .int) := K
  unfold f_Reader_read at h
  refine g_aload_n (pn := 1) K rfl 0 rfl dX3_read_0 ?_
  refine g_iconst (pn := 2) (v := 0) K rfl ic_0 dX3_read_1 ?_
  refine g_puti (pn := 5) K rfl fp_X3_22 lx_18 rfl dX3_read_2 h (fun M1 h => ?_)
  refine g_aload_n (pn := 6) K rfl 0 rfl dX3_read_5 ?_
  refine g_iconst (pn := 7) (v := (-1)) K rfl ic_m1 dX3_read_6 ?_
  refine g_puti (pn := 10) K rfl fp_X3_26 lx_18 rfl dX3_read_7 h (fun M2 h => ?_)
  refine g_aload_n (pn := 11) K rfl 0 rfl dX3_read_10 ?_
  refine g_getr (pn := 14) (j := 19) K rfl fl_X3_12 lx_18 rfl dX3_read_11 ?_
  obtain ⟨M4, hc3, h⟩ := ob_e h
  refine g_callV0 (pn := 17) (As := []) (rest := []) (a := 19) K rfl (d' := 0) (Nat.le_of_ble_eq_true rfl) mv_X3_29 (recvO K lx_19 rfl) (w_f_Text_clear (Or.inl rfl) hc3) rfl rfl (Nat.le_of_ble_eq_true rfl) dX3_read_14 ?_
  refine g_aload_n (pn := 18) K rfl 0 rfl dX3_read_17 ?_
  refine g_iconst (pn := 19) (v := 0) K rfl ic_0 dX3_read_18 ?_
  refine g_puti (pn := 22) K rfl fp_X3_32 lx_18 rfl dX3_read_19 h (fun M5 h => ?_)
  refine g_aload_n (pn := 23) K rfl 0 rfl dX3_read_22 ?_
  refine g_getr (pn := 26) (j := 13) K rfl fl_X3_18 lx_18 rfl dX3_read_23 ?_
  obtain ⟨M7, hc6, h⟩ := ob_e h
  refine g_callV0 (pn := 29) (As := []) (rest := []) (a := 13) K rfl (d' := 6) (Nat.le_of_ble_eq_true rfl) mv_X3_35 (recvO K lx_13 rfl) (w_f_Tape_cut hc6) rfl rfl (Nat.le_of_ble_eq_true rfl) dX3_read_26 ?_
  refine g_iconst (pn := 30) (v := 0) K rfl ic_0 dX3_read_29 ?_
  refine g_istore_n (pn := 31) (lv' := [(1, .int 0), (0, .ref (X.2.2.2.1 18))]) K rfl dX3_read_30 rfl (Nat.le_of_ble_eq_true rfl) rfl ?_
  refine jp_e1 h (fun M8 => G layX X Γ 2 (QM layX X Γ (some (.int r)) M') 68 [(0, .ref (X.2.2.2.1 18))] [] M8) (fun M8 h => ?_) (fun j9 hj9 h => ?_)
  · refine g_aload_n (pn := 69) K rfl 0 rfl dX3_read_68 ?_
    refine g_bipush (pn := 71) (v := 14) K rfl bp_14 dX3_read_69 ?_
    obtain ⟨M11, hc10, h⟩ := ob_e h
    refine g_callV0 (pn := 74) (As := [.int 14]) (rest := []) (a := 18) K rfl (d' := 2) (Nat.le_of_ble_eq_true rfl) mv_X3_40 (recvO K lx_18 rfl) (w_f_Reader_expect hc10) rfl rfl (Nat.le_of_ble_eq_true rfl) dX3_read_71 ?_
    refine g_aload_n (pn := 75) K rfl 0 rfl dX3_read_74 ?_
    refine g_geti (pn := 78) K rfl fl_X3_26 lx_18 rfl dX3_read_75 ?_
    exact g_iret K dX3_read_78 (oi2 h).2 (oi2 h).1
  have LP31 : ∀ (fu14 : Nat) (v12 : Int32) (M13 : Mem), f_Reader_read_L31 j9 fu14 v12 M13 = some (M', r) → G layX X Γ 2 (QM layX X Γ (some (.int r)) M') 31 [(0, .ref (X.2.2.2.1 18)), (1, .int v12)] [] M13 := by
    intro fu14
    induction fu14 with
    | zero =>
      intro v12 M13 h
      rw [f_Reader_read_L31] at h
      cases h
    | succ fu14 ih14 =>
      intro v12 M13 h
      rw [f_Reader_read_L31] at h
      refine g_iload_n (pn := 32) K rfl 1 rfl dX3_read_31 ?_
      refine g_iconst (pn := 33) (v := 3) K rfl ic_3 dX3_read_32 ?_
      refine g_icmp_ge (tgt := 68) (pn := 36) K rfl (by decide) dX3_read_33 h (fun h => ?_) (fun h => ?_)
      · refine g_sub [0] rfl ?_
        exact hj9 _ h
      · refine g_aload_n (pn := 37) K rfl 0 rfl dX3_read_36 ?_
        refine g_bipush (pn := 39) (v := 7) K rfl bp_7 dX3_read_37 ?_
        refine g_iload_n (pn := 40) K rfl 1 rfl dX3_read_39 ?_
        refine g_iadd (pn := 41) K rfl dX3_read_40 ?_
        obtain ⟨M16, hc15, h⟩ := ob_e h
        refine g_callV0 (pn := 44) (As := [.int (7 + v12)]) (rest := []) (a := 18) K rfl (d' := 2) (Nat.le_of_ble_eq_true rfl) mv_X3_40 (recvO K lx_18 rfl) (w_f_Reader_expect hc15) rfl rfl (Nat.le_of_ble_eq_true rfl) dX3_read_41 ?_
        refine g_aload_n (pn := 45) K rfl 0 rfl dX3_read_44 ?_
        obtain ⟨M18, hc17, h⟩ := ob_e h
        refine g_callV0 (pn := 48) (As := []) (rest := []) (a := 18) K rfl (d' := 164) (Nat.le_of_ble_eq_true rfl) mv_X3_44 (recvO K lx_18 rfl) (w_f_Reader_readE (D := 148) (by decide) (fun M M' h => w_f_Reader_readOne 8 h) hc17) rfl rfl (Nat.le_of_ble_eq_true rfl) dX3_read_45 ?_
        refine g_aload_n (pn := 49) K rfl 0 rfl dX3_read_48 ?_
        refine g_bipush (pn := 51) (v := 59) K rfl bp_59 dX3_read_49 ?_
        obtain ⟨M20, hc19, h⟩ := ob_e h
        refine g_callV0 (pn := 54) (As := [.int 59]) (rest := []) (a := 18) K rfl (d' := 2) (Nat.le_of_ble_eq_true rfl) mv_X3_40 (recvO K lx_18 rfl) (w_f_Reader_expect hc19) rfl rfl (Nat.le_of_ble_eq_true rfl) dX3_read_51 ?_
        refine g_aload_n (pn := 55) K rfl 0 rfl dX3_read_54 ?_
        refine g_getr (pn := 58) (j := 19) K rfl fl_X3_12 lx_18 rfl dX3_read_55 ?_
        refine g_iload_n (pn := 59) K rfl 1 rfl dX3_read_58 ?_
        obtain ⟨M22, hc21, h⟩ := ob_e h
        refine g_callV0 (pn := 62) (As := [.int v12]) (rest := []) (a := 19) K rfl (d' := 0) (Nat.le_of_ble_eq_true rfl) mv_X3_47 (recvO K lx_19 rfl) (w_f_Text_endPart (Or.inl rfl) hc21) rfl rfl (Nat.le_of_ble_eq_true rfl) dX3_read_59 ?_
        obtain ⟨v23, ev23, h⟩ := bnd_e h
        refine g_iinc (pn := 65) (v := v23) (lv' := [(1, .int v23), (0, .ref (X.2.2.2.1 18))]) K rfl 1 rfl ii_1 ev23 dX3_read_62 (Nat.le_of_ble_eq_true rfl) rfl ?_
        refine g_goto (tgt := 31) K (by decide) dX3_read_65 ?_
        refine g_sub [1, 0] rfl ?_
        exact ih14 _ _ h
  refine g_sub [1, 0] rfl ?_
  exact LP31 FU _ _ h
