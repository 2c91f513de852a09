theorem dX0_init_0 : decode cX0_init 0 = .ok (.aload_n 0, 1) := by decide +kernel
theorem dX0_init_1 : decode cX0_init 1 = .ok (.invokespecial 3, 3) := by decide +kernel
theorem dX0_init_4 : decode cX0_init 4 = .ok (.aload_n 0, 1) := by decide +kernel
theorem dX0_init_5 : decode cX0_init 5 = .ok (.sipush 202, 3) := by decide +kernel
theorem dX0_init_8 : decode cX0_init 8 = .ok (.newarray .long, 2) := by decide +kernel
theorem dX0_init_10 : decode cX0_init 10 = .ok (.putfield 9, 3) := by decide +kernel
theorem dX0_init_13 : decode cX0_init 13 = .ok (.aload_n 0, 1) := by decide +kernel
theorem dX0_init_14 : decode cX0_init 14 = .ok (.sipush 202, 3) := by decide +kernel
theorem dX0_init_17 : decode cX0_init 17 = .ok (.newarray .int, 2) := by decide +kernel
theorem dX0_init_19 : decode cX0_init 19 = .ok (.putfield 15, 3) := by decide +kernel
theorem dX0_init_22 : decode cX0_init 22 = .ok (.return_, 1) := by decide +kernel
theorem dX0_isEmpty_0 : decode cX0_isEmpty 0 = .ok (.aload_n 0, 1) := by decide +kernel
theorem dX0_isEmpty_1 : decode cX0_isEmpty 1 = .ok (.getfield 19, 3) := by decide +kernel
theorem dX0_isEmpty_4 : decode cX0_isEmpty 4 = .ok (.ifCond .ne 7, 3) := by decide +kernel
theorem dX0_isEmpty_7 : decode cX0_isEmpty 7 = .ok (.iconst 1, 1) := by decide +kernel
theorem dX0_isEmpty_8 : decode cX0_isEmpty 8 = .ok (.goto 4, 3) := by decide +kernel
theorem dX0_isEmpty_11 : decode cX0_isEmpty 11 = .ok (.iconst 0, 1) := by decide +kernel
theorem dX0_isEmpty_12 : decode cX0_isEmpty 12 = .ok (.ireturn, 1) := by decide +kernel
theorem dX0_forget_0 : decode cX0_forget 0 = .ok (.aload_n 0, 1) := by decide +kernel
theorem dX0_forget_1 : decode cX0_forget 1 = .ok (.iconst 0, 1) := by decide +kernel
theorem dX0_forget_2 : decode cX0_forget 2 = .ok (.putfield 19, 3) := by decide +kernel
theorem dX0_forget_5 : decode cX0_forget 5 = .ok (.return_, 1) := by decide +kernel
theorem dX0_put_0 : decode cX0_put 0 = .ok (.aload_n 0, 1) := by decide +kernel
theorem dX0_put_1 : decode cX0_put 1 = .ok (.getfield 19, 3) := by decide +kernel
theorem dX0_put_4 : decode cX0_put 4 = .ok (.aload_n 0, 1) := by decide +kernel
theorem dX0_put_5 : decode cX0_put 5 = .ok (.getfield 15, 3) := by decide +kernel
theorem dX0_put_8 : decode cX0_put 8 = .ok (.arraylength, 1) := by decide +kernel
theorem dX0_put_9 : decode cX0_put 9 = .ok (.if_icmp .ge 33, 3) := by decide +kernel
theorem dX0_put_12 : decode cX0_put 12 = .ok (.aload_n 0, 1) := by decide +kernel
theorem dX0_put_13 : decode cX0_put 13 = .ok (.getfield 9, 3) := by decide +kernel
theorem dX0_put_16 : decode cX0_put 16 = .ok (.aload_n 0, 1) := by decide +kernel
theorem dX0_put_17 : decode cX0_put 17 = .ok (.getfield 19, 3) := by decide +kernel
theorem dX0_put_20 : decode cX0_put 20 = .ok (.lload_n 1, 1) := by decide +kernel
theorem dX0_put_21 : decode cX0_put 21 = .ok (.lastore, 1) := by decide +kernel
theorem dX0_put_22 : decode cX0_put 22 = .ok (.aload_n 0, 1) := by decide +kernel
theorem dX0_put_23 : decode cX0_put 23 = .ok (.getfield 15, 3) := by decide +kernel
theorem dX0_put_26 : decode cX0_put 26 = .ok (.aload_n 0, 1) := by decide +kernel
theorem dX0_put_27 : decode cX0_put 27 = .ok (.getfield 19, 3) := by decide +kernel
theorem dX0_put_30 : decode cX0_put 30 = .ok (.iload_n 3, 1) := by decide +kernel
theorem dX0_put_31 : decode cX0_put 31 = .ok (.iastore, 1) := by decide +kernel
theorem dX0_put_32 : decode cX0_put 32 = .ok (.aload_n 0, 1) := by decide +kernel
theorem dX0_put_33 : decode cX0_put 33 = .ok (.dup, 1) := by decide +kernel
theorem dX0_put_34 : decode cX0_put 34 = .ok (.getfield 19, 3) := by decide +kernel
theorem dX0_put_37 : decode cX0_put 37 = .ok (.iconst 1, 1) := by decide +kernel
theorem dX0_put_38 : decode cX0_put 38 = .ok (.iadd, 1) := by decide +kernel
theorem dX0_put_39 : decode cX0_put 39 = .ok (.putfield 19, 3) := by decide +kernel
theorem dX0_put_42 : decode cX0_put 42 = .ok (.return_, 1) := by decide +kernel
theorem dX0_lastAlternatives_0 : decode cX0_lastAlternatives 0 = .ok (.aload_n 0, 1) := by decide +kernel
theorem dX0_lastAlternatives_1 : decode cX0_lastAlternatives 1 = .ok (.getfield 19, 3) := by decide +kernel
theorem dX0_lastAlternatives_4 : decode cX0_lastAlternatives 4 = .ok (.ifCond .le 29, 3) := by decide +kernel
theorem dX0_lastAlternatives_7 : decode cX0_lastAlternatives 7 = .ok (.aload_n 0, 1) := by decide +kernel
theorem dX0_lastAlternatives_8 : decode cX0_lastAlternatives 8 = .ok (.getfield 19, 3) := by decide +kernel
theorem dX0_lastAlternatives_11 : decode cX0_lastAlternatives 11 = .ok (.aload_n 0, 1) := by decide +kernel
theorem dX0_lastAlternatives_12 : decode cX0_lastAlternatives 12 = .ok (.getfield 9, 3) := by decide +kernel
theorem dX0_lastAlternatives_15 : decode cX0_lastAlternatives 15 = .ok (.arraylength, 1) := by decide +kernel
theorem dX0_lastAlternatives_16 : decode cX0_lastAlternatives 16 = .ok (.if_icmp .gt 17, 3) := by decide +kernel
theorem dX0_lastAlternatives_19 : decode cX0_lastAlternatives 19 = .ok (.aload_n 0, 1) := by decide +kernel
theorem dX0_lastAlternatives_20 : decode cX0_lastAlternatives 20 = .ok (.getfield 9, 3) := by decide +kernel
theorem dX0_lastAlternatives_23 : decode cX0_lastAlternatives 23 = .ok (.aload_n 0, 1) := by decide +kernel
theorem dX0_lastAlternatives_24 : decode cX0_lastAlternatives 24 = .ok (.getfield 19, 3) := by decide +kernel
theorem dX0_lastAlternatives_27 : decode cX0_lastAlternatives 27 = .ok (.iconst 1, 1) := by decide +kernel
theorem dX0_lastAlternatives_28 : decode cX0_lastAlternatives 28 = .ok (.isub, 1) := by decide +kernel
theorem dX0_lastAlternatives_29 : decode cX0_lastAlternatives 29 = .ok (.laload, 1) := by decide +kernel
theorem dX0_lastAlternatives_30 : decode cX0_lastAlternatives 30 = .ok (.goto 4, 3) := by decide +kernel
theorem dX0_lastAlternatives_33 : decode cX0_lastAlternatives 33 = .ok (.lconst 0, 1) := by decide +kernel
theorem dX0_lastAlternatives_34 : decode cX0_lastAlternatives 34 = .ok (.lreturn, 1) := by decide +kernel
theorem dX0_lastLength_0 : decode cX0_lastLength 0 = .ok (.aload_n 0, 1) := by decide +kernel
theorem dX0_lastLength_1 : decode cX0_lastLength 1 = .ok (.getfield 19, 3) := by decide +kernel
theorem dX0_lastLength_4 : decode cX0_lastLength 4 = .ok (.ifCond .le 29, 3) := by decide +kernel
theorem dX0_lastLength_7 : decode cX0_lastLength 7 = .ok (.aload_n 0, 1) := by decide +kernel
theorem dX0_lastLength_8 : decode cX0_lastLength 8 = .ok (.getfield 19, 3) := by decide +kernel
theorem dX0_lastLength_11 : decode cX0_lastLength 11 = .ok (.aload_n 0, 1) := by decide +kernel
theorem dX0_lastLength_12 : decode cX0_lastLength 12 = .ok (.getfield 15, 3) := by decide +kernel
theorem dX0_lastLength_15 : decode cX0_lastLength 15 = .ok (.arraylength, 1) := by decide +kernel
theorem dX0_lastLength_16 : decode cX0_lastLength 16 = .ok (.if_icmp .gt 17, 3) := by decide +kernel
theorem dX0_lastLength_19 : decode cX0_lastLength 19 = .ok (.aload_n 0, 1) := by decide +kernel
theorem dX0_lastLength_20 : decode cX0_lastLength 20 = .ok (.getfield 15, 3) := by decide +kernel
theorem dX0_lastLength_23 : decode cX0_lastLength 23 = .ok (.aload_n 0, 1) := by decide +kernel
theorem dX0_lastLength_24 : decode cX0_lastLength 24 = .ok (.getfield 19, 3) := by decide +kernel
theorem dX0_lastLength_27 : decode cX0_lastLength 27 = .ok (.iconst 1, 1) := by decide +kernel
theorem dX0_lastLength_28 : decode cX0_lastLength 28 = .ok (.isub, 1) := by decide +kernel
theorem dX0_lastLength_29 : decode cX0_lastLength 29 = .ok (.iaload, 1) := by decide +kernel
theorem dX0_lastLength_30 : decode cX0_lastLength 30 = .ok (.goto 4, 3) := by decide +kernel
theorem dX0_lastLength_33 : decode cX0_lastLength 33 = .ok (.iconst 0, 1) := by decide +kernel
theorem dX0_lastLength_34 : decode cX0_lastLength 34 = .ok (.ireturn, 1) := by decide +kernel
theorem dX0_dropLast_0 : decode cX0_dropLast 0 = .ok (.aload_n 0, 1) := by decide +kernel
theorem dX0_dropLast_1 : decode cX0_dropLast 1 = .ok (.getfield 19, 3) := by decide +kernel
theorem dX0_dropLast_4 : decode cX0_dropLast 4 = .ok (.ifCond .le 13, 3) := by decide +kernel
theorem dX0_dropLast_7 : decode cX0_dropLast 7 = .ok (.aload_n 0, 1) := by decide +kernel
theorem dX0_dropLast_8 : decode cX0_dropLast 8 = .ok (.dup, 1) := by decide +kernel
theorem dX0_dropLast_9 : decode cX0_dropLast 9 = .ok (.getfield 19, 3) := by decide +kernel
theorem dX0_dropLast_12 : decode cX0_dropLast 12 = .ok (.iconst 1, 1) := by decide +kernel
theorem dX0_dropLast_13 : decode cX0_dropLast 13 = .ok (.isub, 1) := by decide +kernel
theorem dX0_dropLast_14 : decode cX0_dropLast 14 = .ok (.putfield 19, 3) := by decide +kernel
theorem dX0_dropLast_17 : decode cX0_dropLast 17 = .ok (.return_, 1) := by decide +kernel
theorem dX0_takeAllOf_0 : decode cX0_takeAllOf 0 = .ok (.aload_n 1, 1) := by decide +kernel
theorem dX0_takeAllOf_1 : decode cX0_takeAllOf 1 = .ok (.getfield 19, 3) := by decide +kernel
theorem dX0_takeAllOf_4 : decode cX0_takeAllOf 4 = .ok (.istore_n 2, 1) := by decide +kernel
theorem dX0_takeAllOf_5 : decode cX0_takeAllOf 5 = .ok (.iload_n 2, 1) := by decide +kernel
theorem dX0_takeAllOf_6 : decode cX0_takeAllOf 6 = .ok (.ifCond .le 25, 3) := by decide +kernel
theorem dX0_takeAllOf_9 : decode cX0_takeAllOf 9 = .ok (.aload_n 0, 1) := by decide +kernel
theorem dX0_takeAllOf_10 : decode cX0_takeAllOf 10 = .ok (.aload_n 1, 1) := by decide +kernel
theorem dX0_takeAllOf_11 : decode cX0_takeAllOf 11 = .ok (.invokevirtual 23, 3) := by decide +kernel
theorem dX0_takeAllOf_14 : decode cX0_takeAllOf 14 = .ok (.aload_n 1, 1) := by decide +kernel
theorem dX0_takeAllOf_15 : decode cX0_takeAllOf 15 = .ok (.invokevirtual 27, 3) := by decide +kernel
theorem dX0_takeAllOf_18 : decode cX0_takeAllOf 18 = .ok (.invokevirtual 31, 3) := by decide +kernel
theorem dX0_takeAllOf_21 : decode cX0_takeAllOf 21 = .ok (.aload_n 1, 1) := by decide +kernel
theorem dX0_takeAllOf_22 : decode cX0_takeAllOf 22 = .ok (.invokevirtual 35, 3) := by decide +kernel
theorem dX0_takeAllOf_25 : decode cX0_takeAllOf 25 = .ok (.iinc 2 (-1), 3) := by decide +kernel
theorem dX0_takeAllOf_28 : decode cX0_takeAllOf 28 = .ok (.goto (-23), 3) := by decide +kernel
theorem dX0_takeAllOf_31 : decode cX0_takeAllOf 31 = .ok (.return_, 1) := by decide +kernel
theorem dX1_init_0 : decode cX1_init 0 = .ok (.aload_n 0, 1) := by decide +kernel
theorem dX1_init_1 : decode cX1_init 1 = .ok (.invokespecial 3, 3) := by decide +kernel
theorem dX1_init_4 : decode cX1_init 4 = .ok (.aload_n 0, 1) := by decide +kernel
theorem dX1_init_5 : decode cX1_init 5 = .ok (.new 9, 3) := by decide +kernel
theorem dX1_init_8 : decode cX1_init 8 = .ok (.dup, 1) := by decide +kernel
theorem dX1_init_9 : decode cX1_init 9 = .ok (.bipush 100, 2) := by decide +kernel
theorem dX1_init_11 : decode cX1_init 11 = .ok (.invokespecial 11, 3) := by decide +kernel
theorem dX1_init_14 : decode cX1_init 14 = .ok (.putfield 14, 3) := by decide +kernel
theorem dX1_init_17 : decode cX1_init 17 = .ok (.return_, 1) := by decide +kernel
theorem dX1_tokens_0 : decode cX1_tokens 0 = .ok (.aload_n 0, 1) := by decide +kernel
theorem dX1_tokens_1 : decode cX1_tokens 1 = .ok (.getfield 14, 3) := by decide +kernel
theorem dX1_tokens_4 : decode cX1_tokens 4 = .ok (.areturn, 1) := by decide +kernel
theorem dX1_decisions_0 : decode cX1_decisions 0 = .ok (.aload_n 0, 1) := by decide +kernel
theorem dX1_decisions_1 : decode cX1_decisions 1 = .ok (.getfield 20, 3) := by decide +kernel
theorem dX1_decisions_4 : decode cX1_decisions 4 = .ok (.ireturn, 1) := by decide +kernel
theorem dX1_labour_0 : decode cX1_labour 0 = .ok (.aload_n 0, 1) := by decide +kernel
theorem dX1_labour_1 : decode cX1_labour 1 = .ok (.getfield 24, 3) := by decide +kernel
theorem dX1_labour_4 : decode cX1_labour 4 = .ok (.ireturn, 1) := by decide +kernel
theorem dX1_alternativeAt_0 : decode cX1_alternativeAt 0 = .ok (.iload_n 1, 1) := by decide +kernel
theorem dX1_alternativeAt_1 : decode cX1_alternativeAt 1 = .ok (.ifCond .lt 23, 3) := by decide +kernel
theorem dX1_alternativeAt_4 : decode cX1_alternativeAt 4 = .ok (.iload_n 1, 1) := by decide +kernel
theorem dX1_alternativeAt_5 : decode cX1_alternativeAt 5 = .ok (.aload_n 0, 1) := by decide +kernel
theorem dX1_alternativeAt_6 : decode cX1_alternativeAt 6 = .ok (.getfield 20, 3) := by decide +kernel
theorem dX1_alternativeAt_9 : decode cX1_alternativeAt 9 = .ok (.if_icmp .ge 15, 3) := by decide +kernel
theorem dX1_alternativeAt_12 : decode cX1_alternativeAt 12 = .ok (.aload_n 0, 1) := by decide +kernel
theorem dX1_alternativeAt_13 : decode cX1_alternativeAt 13 = .ok (.getfield 27, 3) := by decide +kernel
theorem dX1_alternativeAt_16 : decode cX1_alternativeAt 16 = .ok (.iload_n 1, 1) := by decide +kernel
theorem dX1_alternativeAt_17 : decode cX1_alternativeAt 17 = .ok (.lushr, 1) := by decide +kernel
theorem dX1_alternativeAt_18 : decode cX1_alternativeAt 18 = .ok (.lconst 1, 1) := by decide +kernel
theorem dX1_alternativeAt_19 : decode cX1_alternativeAt 19 = .ok (.land, 1) := by decide +kernel
theorem dX1_alternativeAt_20 : decode cX1_alternativeAt 20 = .ok (.l2i, 1) := by decide +kernel
theorem dX1_alternativeAt_21 : decode cX1_alternativeAt 21 = .ok (.goto 4, 3) := by decide +kernel
theorem dX1_alternativeAt_24 : decode cX1_alternativeAt 24 = .ok (.iconst (-1), 1) := by decide +kernel
theorem dX1_alternativeAt_25 : decode cX1_alternativeAt 25 = .ok (.ireturn, 1) := by decide +kernel
theorem dX1_forget_0 : decode cX1_forget 0 = .ok (.aload_n 0, 1) := by decide +kernel
theorem dX1_forget_1 : decode cX1_forget 1 = .ok (.getfield 14, 3) := by decide +kernel
theorem dX1_forget_4 : decode cX1_forget 4 = .ok (.iconst 0, 1) := by decide +kernel
theorem dX1_forget_5 : decode cX1_forget 5 = .ok (.invokevirtual 31, 3) := by decide +kernel
theorem dX1_forget_8 : decode cX1_forget 8 = .ok (.aload_n 0, 1) := by decide +kernel
theorem dX1_forget_9 : decode cX1_forget 9 = .ok (.lconst 0, 1) := by decide +kernel
theorem dX1_forget_10 : decode cX1_forget 10 = .ok (.putfield 27, 3) := by decide +kernel
theorem dX1_forget_13 : decode cX1_forget 13 = .ok (.aload_n 0, 1) := by decide +kernel
theorem dX1_forget_14 : decode cX1_forget 14 = .ok (.iconst 0, 1) := by decide +kernel
theorem dX1_forget_15 : decode cX1_forget 15 = .ok (.putfield 20, 3) := by decide +kernel
theorem dX1_forget_18 : decode cX1_forget 18 = .ok (.aload_n 0, 1) := by decide +kernel
theorem dX1_forget_19 : decode cX1_forget 19 = .ok (.iconst 0, 1) := by decide +kernel
theorem dX1_forget_20 : decode cX1_forget 20 = .ok (.putfield 24, 3) := by decide +kernel
theorem dX1_forget_23 : decode cX1_forget 23 = .ok (.return_, 1) := by decide +kernel
theorem dX1_keep_0 : decode cX1_keep 0 = .ok (.aload_n 3, 1) := by decide +kernel
theorem dX1_keep_1 : decode cX1_keep 1 = .ok (.invokevirtual 34, 3) := by decide +kernel
theorem dX1_keep_4 : decode cX1_keep 4 = .ok (.astore 4, 2) := by decide +kernel
theorem dX1_keep_6 : decode cX1_keep 6 = .ok (.aload_n 0, 1) := by decide +kernel
theorem dX1_keep_7 : decode cX1_keep 7 = .ok (.getfield 14, 3) := by decide +kernel
theorem dX1_keep_10 : decode cX1_keep 10 = .ok (.iconst 0, 1) := by decide +kernel
theorem dX1_keep_11 : decode cX1_keep 11 = .ok (.invokevirtual 31, 3) := by decide +kernel
theorem dX1_keep_14 : decode cX1_keep 14 = .ok (.aload_n 0, 1) := by decide +kernel
theorem dX1_keep_15 : decode cX1_keep 15 = .ok (.getfield 14, 3) := by decide +kernel
theorem dX1_keep_18 : decode cX1_keep 18 = .ok (.aload 4, 2) := by decide +kernel
theorem dX1_keep_20 : decode cX1_keep 20 = .ok (.iconst 0, 1) := by decide +kernel
theorem dX1_keep_21 : decode cX1_keep 21 = .ok (.aload 4, 2) := by decide +kernel
theorem dX1_keep_23 : decode cX1_keep 23 = .ok (.invokevirtual 39, 3) := by decide +kernel
theorem dX1_keep_26 : decode cX1_keep 26 = .ok (.invokevirtual 43, 3) := by decide +kernel
theorem dX1_keep_29 : decode cX1_keep 29 = .ok (.pop, 1) := by decide +kernel
theorem dX1_keep_30 : decode cX1_keep 30 = .ok (.aload_n 0, 1) := by decide +kernel
theorem dX1_keep_31 : decode cX1_keep 31 = .ok (.lload_n 1, 1) := by decide +kernel
theorem dX1_keep_32 : decode cX1_keep 32 = .ok (.putfield 27, 3) := by decide +kernel
theorem dX1_keep_35 : decode cX1_keep 35 = .ok (.aload_n 0, 1) := by decide +kernel
theorem dX1_keep_36 : decode cX1_keep 36 = .ok (.aload_n 3, 1) := by decide +kernel
theorem dX1_keep_37 : decode cX1_keep 37 = .ok (.invokevirtual 47, 3) := by decide +kernel
theorem dX1_keep_40 : decode cX1_keep 40 = .ok (.putfield 20, 3) := by decide +kernel
theorem dX1_keep_43 : decode cX1_keep 43 = .ok (.aload_n 0, 1) := by decide +kernel
theorem dX1_keep_44 : decode cX1_keep 44 = .ok (.aload_n 3, 1) := by decide +kernel
theorem dX1_keep_45 : decode cX1_keep 45 = .ok (.invokevirtual 49, 3) := by decide +kernel
theorem dX1_keep_48 : decode cX1_keep 48 = .ok (.putfield 24, 3) := by decide +kernel
theorem dX1_keep_51 : decode cX1_keep 51 = .ok (.return_, 1) := by decide +kernel
theorem dX2_init_0 : decode cX2_init 0 = .ok (.aload_n 0, 1) := by decide +kernel
theorem dX2_init_1 : decode cX2_init 1 = .ok (.invokespecial 3, 3) := by decide +kernel
theorem dX2_init_4 : decode cX2_init 4 = .ok (.aload_n 0, 1) := by decide +kernel
theorem dX2_init_5 : decode cX2_init 5 = .ok (.bipush 60, 2) := by decide +kernel
theorem dX2_init_7 : decode cX2_init 7 = .ok (.newarray .int, 2) := by decide +kernel
theorem dX2_init_9 : decode cX2_init 9 = .ok (.putfield 9, 3) := by decide +kernel
theorem dX2_init_12 : decode cX2_init 12 = .ok (.aload_n 0, 1) := by decide +kernel
theorem dX2_init_13 : decode cX2_init 13 = .ok (.bipush 60, 2) := by decide +kernel
theorem dX2_init_15 : decode cX2_init 15 = .ok (.newarray .int, 2) := by decide +kernel
theorem dX2_init_17 : decode cX2_init 17 = .ok (.putfield 15, 3) := by decide +kernel
theorem dX2_init_20 : decode cX2_init 20 = .ok (.aload_n 0, 1) := by decide +kernel
theorem dX2_init_21 : decode cX2_init 21 = .ok (.bipush 60, 2) := by decide +kernel
theorem dX2_init_23 : decode cX2_init 23 = .ok (.newarray .int, 2) := by decide +kernel
theorem dX2_init_25 : decode cX2_init 25 = .ok (.putfield 18, 3) := by decide +kernel
theorem dX2_init_28 : decode cX2_init 28 = .ok (.aload_n 0, 1) := by decide +kernel
theorem dX2_init_29 : decode cX2_init 29 = .ok (.bipush 60, 2) := by decide +kernel
theorem dX2_init_31 : decode cX2_init 31 = .ok (.newarray .int, 2) := by decide +kernel
theorem dX2_init_33 : decode cX2_init 33 = .ok (.putfield 21, 3) := by decide +kernel
theorem dX2_init_36 : decode cX2_init 36 = .ok (.aload_n 0, 1) := by decide +kernel
theorem dX2_init_37 : decode cX2_init 37 = .ok (.bipush 60, 2) := by decide +kernel
theorem dX2_init_39 : decode cX2_init 39 = .ok (.newarray .long, 2) := by decide +kernel
theorem dX2_init_41 : decode cX2_init 41 = .ok (.putfield 24, 3) := by decide +kernel
theorem dX2_init_44 : decode cX2_init 44 = .ok (.return_, 1) := by decide +kernel
theorem dX2_size_0 : decode cX2_size 0 = .ok (.aload_n 0, 1) := by decide +kernel
theorem dX2_size_1 : decode cX2_size 1 = .ok (.getfield 28, 3) := by decide +kernel
theorem dX2_size_4 : decode cX2_size 4 = .ok (.ireturn, 1) := by decide +kernel
theorem dX2_has_0 : decode cX2_has 0 = .ok (.iload_n 1, 1) := by decide +kernel
theorem dX2_has_1 : decode cX2_has 1 = .ok (.ifCond .lt 15, 3) := by decide +kernel
theorem dX2_has_4 : decode cX2_has 4 = .ok (.iload_n 1, 1) := by decide +kernel
theorem dX2_has_5 : decode cX2_has 5 = .ok (.aload_n 0, 1) := by decide +kernel
theorem dX2_has_6 : decode cX2_has 6 = .ok (.getfield 28, 3) := by decide +kernel
theorem dX2_has_9 : decode cX2_has 9 = .ok (.if_icmp .ge 7, 3) := by decide +kernel
theorem dX2_has_12 : decode cX2_has 12 = .ok (.iconst 1, 1) := by decide +kernel
theorem dX2_has_13 : decode cX2_has 13 = .ok (.goto 4, 3) := by decide +kernel
theorem dX2_has_16 : decode cX2_has 16 = .ok (.iconst 0, 1) := by decide +kernel
theorem dX2_has_17 : decode cX2_has 17 = .ok (.ireturn, 1) := by decide +kernel
theorem dX2_add_0 : decode cX2_add 0 = .ok (.aload_n 0, 1) := by decide +kernel
theorem dX2_add_1 : decode cX2_add 1 = .ok (.getfield 28, 3) := by decide +kernel
theorem dX2_add_4 : decode cX2_add 4 = .ok (.bipush 60, 2) := by decide +kernel
theorem dX2_add_6 : decode cX2_add 6 = .ok (.if_icmp .lt 5, 3) := by decide +kernel
theorem dX2_add_9 : decode cX2_add 9 = .ok (.iconst (-1), 1) := by decide +kernel
theorem dX2_add_10 : decode cX2_add 10 = .ok (.ireturn, 1) := by decide +kernel
theorem dX2_add_11 : decode cX2_add 11 = .ok (.aload_n 0, 1) := by decide +kernel
theorem dX2_add_12 : decode cX2_add 12 = .ok (.getfield 28, 3) := by decide +kernel
theorem dX2_add_15 : decode cX2_add 15 = .ok (.istore 5, 2) := by decide +kernel
theorem dX2_add_17 : decode cX2_add 17 = .ok (.aload_n 0, 1) := by decide +kernel
theorem dX2_add_18 : decode cX2_add 18 = .ok (.getfield 9, 3) := by decide +kernel
theorem dX2_add_21 : decode cX2_add 21 = .ok (.iload 5, 2) := by decide +kernel
theorem dX2_add_23 : decode cX2_add 23 = .ok (.iload_n 1, 1) := by decide +kernel
theorem dX2_add_24 : decode cX2_add 24 = .ok (.iastore, 1) := by decide +kernel
theorem dX2_add_25 : decode cX2_add 25 = .ok (.aload_n 0, 1) := by decide +kernel
theorem dX2_add_26 : decode cX2_add 26 = .ok (.getfield 15, 3) := by decide +kernel
theorem dX2_add_29 : decode cX2_add 29 = .ok (.iload 5, 2) := by decide +kernel
theorem dX2_add_31 : decode cX2_add 31 = .ok (.iload_n 2, 1) := by decide +kernel
theorem dX2_add_32 : decode cX2_add 32 = .ok (.iastore, 1) := by decide +kernel
theorem dX2_add_33 : decode cX2_add 33 = .ok (.aload_n 0, 1) := by decide +kernel
theorem dX2_add_34 : decode cX2_add 34 = .ok (.getfield 18, 3) := by decide +kernel
theorem dX2_add_37 : decode cX2_add 37 = .ok (.iload 5, 2) := by decide +kernel
theorem dX2_add_39 : decode cX2_add 39 = .ok (.iload_n 3, 1) := by decide +kernel
theorem dX2_add_40 : decode cX2_add 40 = .ok (.iastore, 1) := by decide +kernel
theorem dX2_add_41 : decode cX2_add 41 = .ok (.aload_n 0, 1) := by decide +kernel
theorem dX2_add_42 : decode cX2_add 42 = .ok (.getfield 21, 3) := by decide +kernel
theorem dX2_add_45 : decode cX2_add 45 = .ok (.iload 5, 2) := by decide +kernel
theorem dX2_add_47 : decode cX2_add 47 = .ok (.iload 4, 2) := by decide +kernel
theorem dX2_add_49 : decode cX2_add 49 = .ok (.iastore, 1) := by decide +kernel
theorem dX2_add_50 : decode cX2_add 50 = .ok (.aload_n 0, 1) := by decide +kernel
theorem dX2_add_51 : decode cX2_add 51 = .ok (.iload 5, 2) := by decide +kernel
theorem dX2_add_53 : decode cX2_add 53 = .ok (.iconst 1, 1) := by decide +kernel
theorem dX2_add_54 : decode cX2_add 54 = .ok (.iadd, 1) := by decide +kernel
theorem dX2_add_55 : decode cX2_add 55 = .ok (.putfield 28, 3) := by decide +kernel
theorem dX2_add_58 : decode cX2_add 58 = .ok (.iload 5, 2) := by decide +kernel
theorem dX2_add_60 : decode cX2_add 60 = .ok (.ireturn, 1) := by decide +kernel
theorem dX2_addNumber_0 : decode cX2_addNumber 0 = .ok (.aload_n 0, 1) := by decide +kernel
theorem dX2_addNumber_1 : decode cX2_addNumber 1 = .ok (.iconst 0, 1) := by decide +kernel
theorem dX2_addNumber_2 : decode cX2_addNumber 2 = .ok (.iconst (-1), 1) := by decide +kernel
theorem dX2_addNumber_3 : decode cX2_addNumber 3 = .ok (.iconst (-1), 1) := by decide +kernel
theorem dX2_addNumber_4 : decode cX2_addNumber 4 = .ok (.iconst (-1), 1) := by decide +kernel
theorem dX2_addNumber_5 : decode cX2_addNumber 5 = .ok (.invokevirtual 32, 3) := by decide +kernel
theorem dX2_addNumber_8 : decode cX2_addNumber 8 = .ok (.istore_n 3, 1) := by decide +kernel
theorem dX2_addNumber_9 : decode cX2_addNumber 9 = .ok (.iload_n 3, 1) := by decide +kernel
theorem dX2_addNumber_10 : decode cX2_addNumber 10 = .ok (.ifCond .lt 10, 3) := by decide +kernel
theorem dX2_addNumber_13 : decode cX2_addNumber 13 = .ok (.aload_n 0, 1) := by decide +kernel
theorem dX2_addNumber_14 : decode cX2_addNumber 14 = .ok (.getfield 24, 3) := by decide +kernel
theorem dX2_addNumber_17 : decode cX2_addNumber 17 = .ok (.iload_n 3, 1) := by decide +kernel
theorem dX2_addNumber_18 : decode cX2_addNumber 18 = .ok (.lload_n 1, 1) := by decide +kernel
theorem dX2_addNumber_19 : decode cX2_addNumber 19 = .ok (.lastore, 1) := by decide +kernel
theorem dX2_addNumber_20 : decode cX2_addNumber 20 = .ok (.iload_n 3, 1) := by decide +kernel
theorem dX2_addNumber_21 : decode cX2_addNumber 21 = .ok (.ireturn, 1) := by decide +kernel
theorem dX2_sortOf_0 : decode cX2_sortOf 0 = .ok (.aload_n 0, 1) := by decide +kernel
theorem dX2_sortOf_1 : decode cX2_sortOf 1 = .ok (.iload_n 1, 1) := by decide +kernel
theorem dX2_sortOf_2 : decode cX2_sortOf 2 = .ok (.invokevirtual 36, 3) := by decide +kernel
theorem dX2_sortOf_5 : decode cX2_sortOf 5 = .ok (.ifCond .eq 12, 3) := by decide +kernel
theorem dX2_sortOf_8 : decode cX2_sortOf 8 = .ok (.aload_n 0, 1) := by decide +kernel
theorem dX2_sortOf_9 : decode cX2_sortOf 9 = .ok (.getfield 9, 3) := by decide +kernel
theorem dX2_sortOf_12 : decode cX2_sortOf 12 = .ok (.iload_n 1, 1) := by decide +kernel
theorem dX2_sortOf_13 : decode cX2_sortOf 13 = .ok (.iaload, 1) := by decide +kernel
theorem dX2_sortOf_14 : decode cX2_sortOf 14 = .ok (.goto 4, 3) := by decide +kernel
theorem dX2_sortOf_17 : decode cX2_sortOf 17 = .ok (.iconst (-1), 1) := by decide +kernel
theorem dX2_sortOf_18 : decode cX2_sortOf 18 = .ok (.ireturn, 1) := by decide +kernel
theorem dX2_firstOf_0 : decode cX2_firstOf 0 = .ok (.aload_n 0, 1) := by decide +kernel
theorem dX2_firstOf_1 : decode cX2_firstOf 1 = .ok (.iload_n 1, 1) := by decide +kernel
theorem dX2_firstOf_2 : decode cX2_firstOf 2 = .ok (.invokevirtual 36, 3) := by decide +kernel
theorem dX2_firstOf_5 : decode cX2_firstOf 5 = .ok (.ifCond .eq 12, 3) := by decide +kernel
theorem dX2_firstOf_8 : decode cX2_firstOf 8 = .ok (.aload_n 0, 1) := by decide +kernel
theorem dX2_firstOf_9 : decode cX2_firstOf 9 = .ok (.getfield 15, 3) := by decide +kernel
theorem dX2_firstOf_12 : decode cX2_firstOf 12 = .ok (.iload_n 1, 1) := by decide +kernel
theorem dX2_firstOf_13 : decode cX2_firstOf 13 = .ok (.iaload, 1) := by decide +kernel
theorem dX2_firstOf_14 : decode cX2_firstOf 14 = .ok (.goto 4, 3) := by decide +kernel
theorem dX2_firstOf_17 : decode cX2_firstOf 17 = .ok (.iconst (-1), 1) := by decide +kernel
theorem dX2_firstOf_18 : decode cX2_firstOf 18 = .ok (.ireturn, 1) := by decide +kernel
theorem dX2_secondOf_0 : decode cX2_secondOf 0 = .ok (.aload_n 0, 1) := by decide +kernel
theorem dX2_secondOf_1 : decode cX2_secondOf 1 = .ok (.iload_n 1, 1) := by decide +kernel
theorem dX2_secondOf_2 : decode cX2_secondOf 2 = .ok (.invokevirtual 36, 3) := by decide +kernel
theorem dX2_secondOf_5 : decode cX2_secondOf 5 = .ok (.ifCond .eq 12, 3) := by decide +kernel
theorem dX2_secondOf_8 : decode cX2_secondOf 8 = .ok (.aload_n 0, 1) := by decide +kernel
theorem dX2_secondOf_9 : decode cX2_secondOf 9 = .ok (.getfield 18, 3) := by decide +kernel
theorem dX2_secondOf_12 : decode cX2_secondOf 12 = .ok (.iload_n 1, 1) := by decide +kernel
theorem dX2_secondOf_13 : decode cX2_secondOf 13 = .ok (.iaload, 1) := by decide +kernel
theorem dX2_secondOf_14 : decode cX2_secondOf 14 = .ok (.goto 4, 3) := by decide +kernel
theorem dX2_secondOf_17 : decode cX2_secondOf 17 = .ok (.iconst (-1), 1) := by decide +kernel
theorem dX2_secondOf_18 : decode cX2_secondOf 18 = .ok (.ireturn, 1) := by decide +kernel
theorem dX2_thirdOf_0 : decode cX2_thirdOf 0 = .ok (.aload_n 0, 1) := by decide +kernel
theorem dX2_thirdOf_1 : decode cX2_thirdOf 1 = .ok (.iload_n 1, 1) := by decide +kernel
theorem dX2_thirdOf_2 : decode cX2_thirdOf 2 = .ok (.invokevirtual 36, 3) := by decide +kernel
theorem dX2_thirdOf_5 : decode cX2_thirdOf 5 = .ok (.ifCond .eq 12, 3) := by decide +kernel
theorem dX2_thirdOf_8 : decode cX2_thirdOf 8 = .ok (.aload_n 0, 1) := by decide +kernel
theorem dX2_thirdOf_9 : decode cX2_thirdOf 9 = .ok (.getfield 21, 3) := by decide +kernel
theorem dX2_thirdOf_12 : decode cX2_thirdOf 12 = .ok (.iload_n 1, 1) := by decide +kernel
theorem dX2_thirdOf_13 : decode cX2_thirdOf 13 = .ok (.iaload, 1) := by decide +kernel
theorem dX2_thirdOf_14 : decode cX2_thirdOf 14 = .ok (.goto 4, 3) := by decide +kernel
theorem dX2_thirdOf_17 : decode cX2_thirdOf 17 = .ok (.iconst (-1), 1) := by decide +kernel
theorem dX2_thirdOf_18 : decode cX2_thirdOf 18 = .ok (.ireturn, 1) := by decide +kernel
theorem dX2_numberOf_0 : decode cX2_numberOf 0 = .ok (.aload_n 0, 1) := by decide +kernel
theorem dX2_numberOf_1 : decode cX2_numberOf 1 = .ok (.iload_n 1, 1) := by decide +kernel
theorem dX2_numberOf_2 : decode cX2_numberOf 2 = .ok (.invokevirtual 36, 3) := by decide +kernel
theorem dX2_numberOf_5 : decode cX2_numberOf 5 = .ok (.ifCond .eq 12, 3) := by decide +kernel
theorem dX2_numberOf_8 : decode cX2_numberOf 8 = .ok (.aload_n 0, 1) := by decide +kernel
theorem dX2_numberOf_9 : decode cX2_numberOf 9 = .ok (.getfield 24, 3) := by decide +kernel
theorem dX2_numberOf_12 : decode cX2_numberOf 12 = .ok (.iload_n 1, 1) := by decide +kernel
theorem dX2_numberOf_13 : decode cX2_numberOf 13 = .ok (.laload, 1) := by decide +kernel
theorem dX2_numberOf_14 : decode cX2_numberOf 14 = .ok (.goto 4, 3) := by decide +kernel
theorem dX2_numberOf_17 : decode cX2_numberOf 17 = .ok (.lconst 0, 1) := by decide +kernel
theorem dX2_numberOf_18 : decode cX2_numberOf 18 = .ok (.lreturn, 1) := by decide +kernel
theorem dX2_forget_0 : decode cX2_forget 0 = .ok (.aload_n 0, 1) := by decide +kernel
theorem dX2_forget_1 : decode cX2_forget 1 = .ok (.iconst 0, 1) := by decide +kernel
theorem dX2_forget_2 : decode cX2_forget 2 = .ok (.putfield 28, 3) := by decide +kernel
theorem dX2_forget_5 : decode cX2_forget 5 = .ok (.return_, 1) := by decide +kernel
theorem dX3_init_0 : decode cX3_init 0 = .ok (.aload_n 0, 1) := by decide +kernel
theorem dX3_init_1 : decode cX3_init 1 = .ok (.invokespecial 3, 3) := by decide +kernel
theorem dX3_init_4 : decode cX3_init 4 = .ok (.aload_n 0, 1) := by decide +kernel
theorem dX3_init_5 : decode cX3_init 5 = .ok (.new 9, 3) := by decide +kernel
theorem dX3_init_8 : decode cX3_init 8 = .ok (.dup, 1) := by decide +kernel
theorem dX3_init_9 : decode cX3_init 9 = .ok (.invokespecial 11, 3) := by decide +kernel
theorem dX3_init_12 : decode cX3_init 12 = .ok (.putfield 12, 3) := by decide +kernel
theorem dX3_init_15 : decode cX3_init 15 = .ok (.aload_n 0, 1) := by decide +kernel
theorem dX3_init_16 : decode cX3_init 16 = .ok (.new 18, 3) := by decide +kernel
theorem dX3_init_19 : decode cX3_init 19 = .ok (.dup, 1) := by decide +kernel
theorem dX3_init_20 : decode cX3_init 20 = .ok (.invokespecial 20, 3) := by decide +kernel
theorem dX3_init_23 : decode cX3_init 23 = .ok (.putfield 21, 3) := by decide +kernel
theorem dX3_init_26 : decode cX3_init 26 = .ok (.aload_n 0, 1) := by decide +kernel
theorem dX3_init_27 : decode cX3_init 27 = .ok (.new 18, 3) := by decide +kernel
theorem dX3_init_30 : decode cX3_init 30 = .ok (.dup, 1) := by decide +kernel
theorem dX3_init_31 : decode cX3_init 31 = .ok (.invokespecial 20, 3) := by decide +kernel
theorem dX3_init_34 : decode cX3_init 34 = .ok (.putfield 25, 3) := by decide +kernel
theorem dX3_init_37 : decode cX3_init 37 = .ok (.aload_n 0, 1) := by decide +kernel
theorem dX3_init_38 : decode cX3_init 38 = .ok (.iconst 1, 1) := by decide +kernel
theorem dX3_init_39 : decode cX3_init 39 = .ok (.putfield 28, 3) := by decide +kernel
theorem dX3_init_42 : decode cX3_init 42 = .ok (.aload_n 0, 1) := by decide +kernel
theorem dX3_init_43 : decode cX3_init 43 = .ok (.new 32, 3) := by decide +kernel
theorem dX3_init_46 : decode cX3_init 46 = .ok (.dup, 1) := by decide +kernel
theorem dX3_init_47 : decode cX3_init 47 = .ok (.aload_n 1, 1) := by decide +kernel
theorem dX3_init_48 : decode cX3_init 48 = .ok (.invokespecial 34, 3) := by decide +kernel
theorem dX3_init_51 : decode cX3_init 51 = .ok (.putfield 37, 3) := by decide +kernel
theorem dX3_init_54 : decode cX3_init 54 = .ok (.return_, 1) := by decide +kernel
theorem dX3_isThere_0 : decode cX3_isThere 0 = .ok (.aload_n 0, 1) := by decide +kernel
theorem dX3_isThere_1 : decode cX3_isThere 1 = .ok (.getfield 41, 3) := by decide +kernel
theorem dX3_isThere_4 : decode cX3_isThere 4 = .ok (.ireturn, 1) := by decide +kernel
theorem dX3_latest_0 : decode cX3_latest 0 = .ok (.aload_n 0, 1) := by decide +kernel
theorem dX3_latest_1 : decode cX3_latest 1 = .ok (.getfield 12, 3) := by decide +kernel
theorem dX3_latest_4 : decode cX3_latest 4 = .ok (.areturn, 1) := by decide +kernel
theorem dX3_places_0 : decode cX3_places 0 = .ok (.aload_n 0, 1) := by decide +kernel
theorem dX3_places_1 : decode cX3_places 1 = .ok (.getfield 45, 3) := by decide +kernel
theorem dX3_places_4 : decode cX3_places 4 = .ok (.ireturn, 1) := by decide +kernel
theorem dX3_values_0 : decode cX3_values 0 = .ok (.aload_n 0, 1) := by decide +kernel
theorem dX3_values_1 : decode cX3_values 1 = .ok (.getfield 48, 3) := by decide +kernel
theorem dX3_values_4 : decode cX3_values 4 = .ok (.ireturn, 1) := by decide +kernel
theorem dX3_failed_0 : decode cX3_failed 0 = .ok (.aload_n 0, 1) := by decide +kernel
theorem dX3_failed_1 : decode cX3_failed 1 = .ok (.getfield 51, 3) := by decide +kernel
theorem dX3_failed_4 : decode cX3_failed 4 = .ok (.ireturn, 1) := by decide +kernel
theorem dX3_givenUp_0 : decode cX3_givenUp 0 = .ok (.aload_n 0, 1) := by decide +kernel
theorem dX3_givenUp_1 : decode cX3_givenUp 1 = .ok (.getfield 54, 3) := by decide +kernel
theorem dX3_givenUp_4 : decode cX3_givenUp 4 = .ok (.ireturn, 1) := by decide +kernel
theorem dX3_cut_0 : decode cX3_cut 0 = .ok (.aload_n 0, 1) := by decide +kernel
theorem dX3_cut_1 : decode cX3_cut 1 = .ok (.getfield 57, 3) := by decide +kernel
theorem dX3_cut_4 : decode cX3_cut 4 = .ok (.ireturn, 1) := by decide +kernel
theorem dX3_forget_0 : decode cX3_forget 0 = .ok (.aload_n 0, 1) := by decide +kernel
theorem dX3_forget_1 : decode cX3_forget 1 = .ok (.iconst 0, 1) := by decide +kernel
theorem dX3_forget_2 : decode cX3_forget 2 = .ok (.putfield 41, 3) := by decide +kernel
theorem dX3_forget_5 : decode cX3_forget 5 = .ok (.aload_n 0, 1) := by decide +kernel
theorem dX3_forget_6 : decode cX3_forget 6 = .ok (.iconst 0, 1) := by decide +kernel
theorem dX3_forget_7 : decode cX3_forget 7 = .ok (.putfield 60, 3) := by decide +kernel
theorem dX3_forget_10 : decode cX3_forget 10 = .ok (.aload_n 0, 1) := by decide +kernel
theorem dX3_forget_11 : decode cX3_forget 11 = .ok (.iconst 0, 1) := by decide +kernel
theorem dX3_forget_12 : decode cX3_forget 12 = .ok (.putfield 45, 3) := by decide +kernel
theorem dX3_forget_15 : decode cX3_forget 15 = .ok (.aload_n 0, 1) := by decide +kernel
theorem dX3_forget_16 : decode cX3_forget 16 = .ok (.iconst 0, 1) := by decide +kernel
theorem dX3_forget_17 : decode cX3_forget 17 = .ok (.putfield 48, 3) := by decide +kernel
theorem dX3_forget_20 : decode cX3_forget 20 = .ok (.aload_n 0, 1) := by decide +kernel
theorem dX3_forget_21 : decode cX3_forget 21 = .ok (.iconst 0, 1) := by decide +kernel
theorem dX3_forget_22 : decode cX3_forget 22 = .ok (.putfield 51, 3) := by decide +kernel
theorem dX3_forget_25 : decode cX3_forget 25 = .ok (.aload_n 0, 1) := by decide +kernel
theorem dX3_forget_26 : decode cX3_forget 26 = .ok (.iconst 0, 1) := by decide +kernel
theorem dX3_forget_27 : decode cX3_forget 27 = .ok (.putfield 54, 3) := by decide +kernel
theorem dX3_forget_30 : decode cX3_forget 30 = .ok (.aload_n 0, 1) := by decide +kernel
theorem dX3_forget_31 : decode cX3_forget 31 = .ok (.iconst 0, 1) := by decide +kernel
theorem dX3_forget_32 : decode cX3_forget 32 = .ok (.putfield 57, 3) := by decide +kernel
theorem dX3_forget_35 : decode cX3_forget 35 = .ok (.aload_n 0, 1) := by decide +kernel
theorem dX3_forget_36 : decode cX3_forget 36 = .ok (.getfield 21, 3) := by decide +kernel
theorem dX3_forget_39 : decode cX3_forget 39 = .ok (.invokevirtual 63, 3) := by decide +kernel
theorem dX3_forget_42 : decode cX3_forget 42 = .ok (.aload_n 0, 1) := by decide +kernel
theorem dX3_forget_43 : decode cX3_forget 43 = .ok (.getfield 25, 3) := by decide +kernel
theorem dX3_forget_46 : decode cX3_forget 46 = .ok (.invokevirtual 63, 3) := by decide +kernel
theorem dX3_forget_49 : decode cX3_forget 49 = .ok (.aload_n 0, 1) := by decide +kernel
theorem dX3_forget_50 : decode cX3_forget 50 = .ok (.getfield 12, 3) := by decide +kernel
theorem dX3_forget_53 : decode cX3_forget 53 = .ok (.invokevirtual 66, 3) := by decide +kernel
theorem dX3_forget_56 : decode cX3_forget 56 = .ok (.return_, 1) := by decide +kernel
theorem dX3_begin_0 : decode cX3_begin 0 = .ok (.aload_n 0, 1) := by decide +kernel
theorem dX3_begin_1 : decode cX3_begin 1 = .ok (.invokevirtual 67, 3) := by decide +kernel
theorem dX3_begin_4 : decode cX3_begin 4 = .ok (.aload_n 0, 1) := by decide +kernel
theorem dX3_begin_5 : decode cX3_begin 5 = .ok (.iconst 1, 1) := by decide +kernel
theorem dX3_begin_6 : decode cX3_begin 6 = .ok (.putfield 41, 3) := by decide +kernel
theorem dX3_begin_9 : decode cX3_begin 9 = .ok (.aload_n 0, 1) := by decide +kernel
theorem dX3_begin_10 : decode cX3_begin 10 = .ok (.iload_n 1, 1) := by decide +kernel
theorem dX3_begin_11 : decode cX3_begin 11 = .ok (.putfield 68, 3) := by decide +kernel
theorem dX3_begin_14 : decode cX3_begin 14 = .ok (.aload_n 0, 1) := by decide +kernel
theorem dX3_begin_15 : decode cX3_begin 15 = .ok (.iload_n 2, 1) := by decide +kernel
theorem dX3_begin_16 : decode cX3_begin 16 = .ok (.putfield 71, 3) := by decide +kernel
theorem dX3_begin_19 : decode cX3_begin 19 = .ok (.aload_n 0, 1) := by decide +kernel
theorem dX3_begin_20 : decode cX3_begin 20 = .ok (.iload_n 3, 1) := by decide +kernel
theorem dX3_begin_21 : decode cX3_begin 21 = .ok (.putfield 28, 3) := by decide +kernel
theorem dX3_begin_24 : decode cX3_begin 24 = .ok (.aload_n 0, 1) := by decide +kernel
theorem dX3_begin_25 : decode cX3_begin 25 = .ok (.iload_n 3, 1) := by decide +kernel
theorem dX3_begin_26 : decode cX3_begin 26 = .ok (.putfield 74, 3) := by decide +kernel
theorem dX3_begin_29 : decode cX3_begin 29 = .ok (.aload_n 0, 1) := by decide +kernel
theorem dX3_begin_30 : decode cX3_begin 30 = .ok (.getfield 21, 3) := by decide +kernel
theorem dX3_begin_33 : decode cX3_begin 33 = .ok (.lconst 0, 1) := by decide +kernel
theorem dX3_begin_34 : decode cX3_begin 34 = .ok (.iconst 0, 1) := by decide +kernel
theorem dX3_begin_35 : decode cX3_begin 35 = .ok (.invokevirtual 77, 3) := by decide +kernel
theorem dX3_begin_38 : decode cX3_begin 38 = .ok (.return_, 1) := by decide +kernel
theorem dX3_goOn_0 : decode cX3_goOn 0 = .ok (.iconst 0, 1) := by decide +kernel
theorem dX3_goOn_1 : decode cX3_goOn 1 = .ok (.istore_n 1, 1) := by decide +kernel
theorem dX3_goOn_2 : decode cX3_goOn 2 = .ok (.iload_n 1, 1) := by decide +kernel
theorem dX3_goOn_3 : decode cX3_goOn 3 = .ok (.sipush 200, 3) := by decide +kernel
theorem dX3_goOn_6 : decode cX3_goOn 6 = .ok (.if_icmp .gt 69, 3) := by decide +kernel
theorem dX3_goOn_9 : decode cX3_goOn 9 = .ok (.aload_n 0, 1) := by decide +kernel
theorem dX3_goOn_10 : decode cX3_goOn 10 = .ok (.getfield 60, 3) := by decide +kernel
theorem dX3_goOn_13 : decode cX3_goOn 13 = .ok (.ifCond .ne 62, 3) := by decide +kernel
theorem dX3_goOn_16 : decode cX3_goOn 16 = .ok (.aload_n 0, 1) := by decide +kernel
theorem dX3_goOn_17 : decode cX3_goOn 17 = .ok (.getfield 21, 3) := by decide +kernel
theorem dX3_goOn_20 : decode cX3_goOn 20 = .ok (.invokevirtual 81, 3) := by decide +kernel
theorem dX3_goOn_23 : decode cX3_goOn 23 = .ok (.ifCond .eq 7, 3) := by decide +kernel
theorem dX3_goOn_26 : decode cX3_goOn 26 = .ok (.aload_n 0, 1) := by decide +kernel
theorem dX3_goOn_27 : decode cX3_goOn 27 = .ok (.invokevirtual 85, 3) := by decide +kernel
theorem dX3_goOn_30 : decode cX3_goOn 30 = .ok (.aload_n 0, 1) := by decide +kernel
theorem dX3_goOn_31 : decode cX3_goOn 31 = .ok (.getfield 21, 3) := by decide +kernel
theorem dX3_goOn_34 : decode cX3_goOn 34 = .ok (.invokevirtual 81, 3) := by decide +kernel
theorem dX3_goOn_37 : decode cX3_goOn 37 = .ok (.ifCond .eq 5, 3) := by decide +kernel
theorem dX3_goOn_40 : decode cX3_goOn 40 = .ok (.iconst 0, 1) := by decide +kernel
theorem dX3_goOn_41 : decode cX3_goOn 41 = .ok (.ireturn, 1) := by decide +kernel
theorem dX3_goOn_42 : decode cX3_goOn 42 = .ok (.aload_n 0, 1) := by decide +kernel
theorem dX3_goOn_43 : decode cX3_goOn 43 = .ok (.getfield 45, 3) := by decide +kernel
theorem dX3_goOn_46 : decode cX3_goOn 46 = .ok (.sipush 200, 3) := by decide +kernel
theorem dX3_goOn_49 : decode cX3_goOn 49 = .ok (.if_icmp .lt 11, 3) := by decide +kernel
theorem dX3_goOn_52 : decode cX3_goOn 52 = .ok (.aload_n 0, 1) := by decide +kernel
theorem dX3_goOn_53 : decode cX3_goOn 53 = .ok (.iconst 1, 1) := by decide +kernel
theorem dX3_goOn_54 : decode cX3_goOn 54 = .ok (.putfield 60, 3) := by decide +kernel
theorem dX3_goOn_57 : decode cX3_goOn 57 = .ok (.goto 12, 3) := by decide +kernel
theorem dX3_goOn_60 : decode cX3_goOn 60 = .ok (.aload_n 0, 1) := by decide +kernel
theorem dX3_goOn_61 : decode cX3_goOn 61 = .ok (.invokevirtual 88, 3) := by decide +kernel
theorem dX3_goOn_64 : decode cX3_goOn 64 = .ok (.ifCond .eq 5, 3) := by decide +kernel
theorem dX3_goOn_67 : decode cX3_goOn 67 = .ok (.iconst 1, 1) := by decide +kernel
theorem dX3_goOn_68 : decode cX3_goOn 68 = .ok (.ireturn, 1) := by decide +kernel
theorem dX3_goOn_69 : decode cX3_goOn 69 = .ok (.iinc 1 1, 3) := by decide +kernel
theorem dX3_goOn_72 : decode cX3_goOn 72 = .ok (.goto (-70), 3) := by decide +kernel
theorem dX3_goOn_75 : decode cX3_goOn 75 = .ok (.iconst 2, 1) := by decide +kernel
theorem dX3_goOn_76 : decode cX3_goOn 76 = .ok (.ireturn, 1) := by decide +kernel
theorem dX3_openNextWindow_0 : decode cX3_openNextWindow 0 = .ok (.aload_n 0, 1) := by decide +kernel
theorem dX3_openNextWindow_1 : decode cX3_openNextWindow 1 = .ok (.getfield 25, 3) := by decide +kernel
theorem dX3_openNextWindow_4 : decode cX3_openNextWindow 4 = .ok (.invokevirtual 81, 3) := by decide +kernel
theorem dX3_openNextWindow_7 : decode cX3_openNextWindow 7 = .ok (.ifCond .ne 27, 3) := by decide +kernel
theorem dX3_openNextWindow_10 : decode cX3_openNextWindow 10 = .ok (.aload_n 0, 1) := by decide +kernel
theorem dX3_openNextWindow_11 : decode cX3_openNextWindow 11 = .ok (.dup, 1) := by decide +kernel
theorem dX3_openNextWindow_12 : decode cX3_openNextWindow 12 = .ok (.getfield 74, 3) := by decide +kernel
theorem dX3_openNextWindow_15 : decode cX3_openNextWindow 15 = .ok (.aload_n 0, 1) := by decide +kernel
theorem dX3_openNextWindow_16 : decode cX3_openNextWindow 16 = .ok (.getfield 28, 3) := by decide +kernel
theorem dX3_openNextWindow_19 : decode cX3_openNextWindow 19 = .ok (.iadd, 1) := by decide +kernel
theorem dX3_openNextWindow_20 : decode cX3_openNextWindow 20 = .ok (.putfield 74, 3) := by decide +kernel
theorem dX3_openNextWindow_23 : decode cX3_openNextWindow 23 = .ok (.aload_n 0, 1) := by decide +kernel
theorem dX3_openNextWindow_24 : decode cX3_openNextWindow 24 = .ok (.getfield 21, 3) := by decide +kernel
theorem dX3_openNextWindow_27 : decode cX3_openNextWindow 27 = .ok (.aload_n 0, 1) := by decide +kernel
theorem dX3_openNextWindow_28 : decode cX3_openNextWindow 28 = .ok (.getfield 25, 3) := by decide +kernel
theorem dX3_openNextWindow_31 : decode cX3_openNextWindow 31 = .ok (.invokevirtual 91, 3) := by decide +kernel
theorem dX3_openNextWindow_34 : decode cX3_openNextWindow 34 = .ok (.return_, 1) := by decide +kernel
theorem dX3_comesToValue_0 : decode cX3_comesToValue 0 = .ok (.aload_n 0, 1) := by decide +kernel
theorem dX3_comesToValue_1 : decode cX3_comesToValue 1 = .ok (.getfield 21, 3) := by decide +kernel
theorem dX3_comesToValue_4 : decode cX3_comesToValue 4 = .ok (.invokevirtual 95, 3) := by decide +kernel
theorem dX3_comesToValue_7 : decode cX3_comesToValue 7 = .ok (.lstore_n 1, 1) := by decide +kernel
theorem dX3_comesToValue_8 : decode cX3_comesToValue 8 = .ok (.aload_n 0, 1) := by decide +kernel
theorem dX3_comesToValue_9 : decode cX3_comesToValue 9 = .ok (.getfield 21, 3) := by decide +kernel
theorem dX3_comesToValue_12 : decode cX3_comesToValue 12 = .ok (.invokevirtual 99, 3) := by decide +kernel
theorem dX3_comesToValue_15 : decode cX3_comesToValue 15 = .ok (.istore_n 3, 1) := by decide +kernel
theorem dX3_comesToValue_16 : decode cX3_comesToValue 16 = .ok (.aload_n 0, 1) := by decide +kernel
theorem dX3_comesToValue_17 : decode cX3_comesToValue 17 = .ok (.getfield 21, 3) := by decide +kernel
theorem dX3_comesToValue_20 : decode cX3_comesToValue 20 = .ok (.invokevirtual 103, 3) := by decide +kernel
theorem dX3_comesToValue_23 : decode cX3_comesToValue 23 = .ok (.sipush 200, 3) := by decide +kernel
theorem dX3_comesToValue_26 : decode cX3_comesToValue 26 = .ok (.aload_n 0, 1) := by decide +kernel
theorem dX3_comesToValue_27 : decode cX3_comesToValue 27 = .ok (.getfield 45, 3) := by decide +kernel
theorem dX3_comesToValue_30 : decode cX3_comesToValue 30 = .ok (.isub, 1) := by decide +kernel
theorem dX3_comesToValue_31 : decode cX3_comesToValue 31 = .ok (.istore 4, 2) := by decide +kernel
theorem dX3_comesToValue_33 : decode cX3_comesToValue 33 = .ok (.aload_n 0, 1) := by decide +kernel
theorem dX3_comesToValue_34 : decode cX3_comesToValue 34 = .ok (.getfield 37, 3) := by decide +kernel
theorem dX3_comesToValue_37 : decode cX3_comesToValue 37 = .ok (.aload_n 0, 1) := by decide +kernel
theorem dX3_comesToValue_38 : decode cX3_comesToValue 38 = .ok (.getfield 68, 3) := by decide +kernel
theorem dX3_comesToValue_41 : decode cX3_comesToValue 41 = .ok (.lload_n 1, 1) := by decide +kernel
theorem dX3_comesToValue_42 : decode cX3_comesToValue 42 = .ok (.aload_n 0, 1) := by decide +kernel
theorem dX3_comesToValue_43 : decode cX3_comesToValue 43 = .ok (.invokevirtual 106, 3) := by decide +kernel
theorem dX3_comesToValue_46 : decode cX3_comesToValue 46 = .ok (.iload_n 3, 1) := by decide +kernel
theorem dX3_comesToValue_47 : decode cX3_comesToValue 47 = .ok (.iload 4, 2) := by decide +kernel
theorem dX3_comesToValue_49 : decode cX3_comesToValue 49 = .ok (.iadd, 1) := by decide +kernel
theorem dX3_comesToValue_50 : decode cX3_comesToValue 50 = .ok (.invokestatic 109, 3) := by decide +kernel
theorem dX3_comesToValue_53 : decode cX3_comesToValue 53 = .ok (.invokevirtual 115, 3) := by decide +kernel
theorem dX3_comesToValue_56 : decode cX3_comesToValue 56 = .ok (.istore 5, 2) := by decide +kernel
theorem dX3_comesToValue_58 : decode cX3_comesToValue 58 = .ok (.aload_n 0, 1) := by decide +kernel
theorem dX3_comesToValue_59 : decode cX3_comesToValue 59 = .ok (.getfield 37, 3) := by decide +kernel
theorem dX3_comesToValue_62 : decode cX3_comesToValue 62 = .ok (.invokevirtual 119, 3) := by decide +kernel
theorem dX3_comesToValue_65 : decode cX3_comesToValue 65 = .ok (.iload_n 3, 1) := by decide +kernel
theorem dX3_comesToValue_66 : decode cX3_comesToValue 66 = .ok (.isub, 1) := by decide +kernel
theorem dX3_comesToValue_67 : decode cX3_comesToValue 67 = .ok (.istore 6, 2) := by decide +kernel
theorem dX3_comesToValue_69 : decode cX3_comesToValue 69 = .ok (.aload_n 0, 1) := by decide +kernel
theorem dX3_comesToValue_70 : decode cX3_comesToValue 70 = .ok (.dup, 1) := by decide +kernel
theorem dX3_comesToValue_71 : decode cX3_comesToValue 71 = .ok (.getfield 45, 3) := by decide +kernel
theorem dX3_comesToValue_74 : decode cX3_comesToValue 74 = .ok (.iload 6, 2) := by decide +kernel
theorem dX3_comesToValue_76 : decode cX3_comesToValue 76 = .ok (.iadd, 1) := by decide +kernel
theorem dX3_comesToValue_77 : decode cX3_comesToValue 77 = .ok (.putfield 45, 3) := by decide +kernel
theorem dX3_comesToValue_80 : decode cX3_comesToValue 80 = .ok (.iload 6, 2) := by decide +kernel
theorem dX3_comesToValue_82 : decode cX3_comesToValue 82 = .ok (.iload 4, 2) := by decide +kernel
theorem dX3_comesToValue_84 : decode cX3_comesToValue 84 = .ok (.if_icmp .lt 10, 3) := by decide +kernel
theorem dX3_comesToValue_87 : decode cX3_comesToValue 87 = .ok (.aload_n 0, 1) := by decide +kernel
theorem dX3_comesToValue_88 : decode cX3_comesToValue 88 = .ok (.iconst 1, 1) := by decide +kernel
theorem dX3_comesToValue_89 : decode cX3_comesToValue 89 = .ok (.putfield 60, 3) := by decide +kernel
theorem dX3_comesToValue_92 : decode cX3_comesToValue 92 = .ok (.iconst 0, 1) := by decide +kernel
theorem dX3_comesToValue_93 : decode cX3_comesToValue 93 = .ok (.ireturn, 1) := by decide +kernel
theorem dX3_comesToValue_94 : decode cX3_comesToValue 94 = .ok (.aload_n 0, 1) := by decide +kernel
theorem dX3_comesToValue_95 : decode cX3_comesToValue 95 = .ok (.lload_n 1, 1) := by decide +kernel
theorem dX3_comesToValue_96 : decode cX3_comesToValue 96 = .ok (.iload_n 3, 1) := by decide +kernel
theorem dX3_comesToValue_97 : decode cX3_comesToValue 97 = .ok (.invokevirtual 122, 3) := by decide +kernel
theorem dX3_comesToValue_100 : decode cX3_comesToValue 100 = .ok (.aload_n 0, 1) := by decide +kernel
theorem dX3_comesToValue_101 : decode cX3_comesToValue 101 = .ok (.dup, 1) := by decide +kernel
theorem dX3_comesToValue_102 : decode cX3_comesToValue 102 = .ok (.getfield 45, 3) := by decide +kernel
theorem dX3_comesToValue_105 : decode cX3_comesToValue 105 = .ok (.iconst 1, 1) := by decide +kernel
theorem dX3_comesToValue_106 : decode cX3_comesToValue 106 = .ok (.iadd, 1) := by decide +kernel
theorem dX3_comesToValue_107 : decode cX3_comesToValue 107 = .ok (.putfield 45, 3) := by decide +kernel
theorem dX3_comesToValue_110 : decode cX3_comesToValue 110 = .ok (.aload_n 0, 1) := by decide +kernel
theorem dX3_comesToValue_111 : decode cX3_comesToValue 111 = .ok (.iload 5, 2) := by decide +kernel
theorem dX3_comesToValue_113 : decode cX3_comesToValue 113 = .ok (.lload_n 1, 1) := by decide +kernel
theorem dX3_comesToValue_114 : decode cX3_comesToValue 114 = .ok (.invokevirtual 125, 3) := by decide +kernel
theorem dX3_comesToValue_117 : decode cX3_comesToValue 117 = .ok (.ireturn, 1) := by decide +kernel
theorem dX3_mostDecisions_0 : decode cX3_mostDecisions 0 = .ok (.aload_n 0, 1) := by decide +kernel
theorem dX3_mostDecisions_1 : decode cX3_mostDecisions 1 = .ok (.getfield 71, 3) := by decide +kernel
theorem dX3_mostDecisions_4 : decode cX3_mostDecisions 4 = .ok (.lookupswitch 40 #[(1, 28), (2, 35)], 28) := by decide +kernel
theorem dX3_mostDecisions_32 : decode cX3_mostDecisions 32 = .ok (.aload_n 0, 1) := by decide +kernel
theorem dX3_mostDecisions_33 : decode cX3_mostDecisions 33 = .ok (.getfield 74, 3) := by decide +kernel
theorem dX3_mostDecisions_36 : decode cX3_mostDecisions 36 = .ok (.iconst 1, 1) := by decide +kernel
theorem dX3_mostDecisions_37 : decode cX3_mostDecisions 37 = .ok (.isub, 1) := by decide +kernel
theorem dX3_mostDecisions_38 : decode cX3_mostDecisions 38 = .ok (.ireturn, 1) := by decide +kernel
theorem dX3_mostDecisions_39 : decode cX3_mostDecisions 39 = .ok (.aload_n 0, 1) := by decide +kernel
theorem dX3_mostDecisions_40 : decode cX3_mostDecisions 40 = .ok (.getfield 28, 3) := by decide +kernel
theorem dX3_mostDecisions_43 : decode cX3_mostDecisions 43 = .ok (.ireturn, 1) := by decide +kernel
theorem dX3_mostDecisions_44 : decode cX3_mostDecisions 44 = .ok (.bipush 60, 2) := by decide +kernel
theorem dX3_mostDecisions_46 : decode cX3_mostDecisions 46 = .ok (.ireturn, 1) := by decide +kernel
theorem dX3_putOtherAlternatives_0 : decode cX3_putOtherAlternatives 0 = .ok (.iload_n 3, 1) := by decide +kernel
theorem dX3_putOtherAlternatives_1 : decode cX3_putOtherAlternatives 1 = .ok (.istore 4, 2) := by decide +kernel
theorem dX3_putOtherAlternatives_3 : decode cX3_putOtherAlternatives 3 = .ok (.iload 4, 2) := by decide +kernel
theorem dX3_putOtherAlternatives_5 : decode cX3_putOtherAlternatives 5 = .ok (.aload_n 0, 1) := by decide +kernel
theorem dX3_putOtherAlternatives_6 : decode cX3_putOtherAlternatives 6 = .ok (.getfield 37, 3) := by decide +kernel
theorem dX3_putOtherAlternatives_9 : decode cX3_putOtherAlternatives 9 = .ok (.invokevirtual 119, 3) := by decide +kernel
theorem dX3_putOtherAlternatives_12 : decode cX3_putOtherAlternatives 12 = .ok (.if_icmp .ge 26, 3) := by decide +kernel
theorem dX3_putOtherAlternatives_15 : decode cX3_putOtherAlternatives 15 = .ok (.aload_n 0, 1) := by decide +kernel
theorem dX3_putOtherAlternatives_16 : decode cX3_putOtherAlternatives 16 = .ok (.getfield 21, 3) := by decide +kernel
theorem dX3_putOtherAlternatives_19 : decode cX3_putOtherAlternatives 19 = .ok (.lload_n 1, 1) := by decide +kernel
theorem dX3_putOtherAlternatives_20 : decode cX3_putOtherAlternatives 20 = .ok (.lconst 1, 1) := by decide +kernel
theorem dX3_putOtherAlternatives_21 : decode cX3_putOtherAlternatives 21 = .ok (.iload 4, 2) := by decide +kernel
theorem dX3_putOtherAlternatives_23 : decode cX3_putOtherAlternatives 23 = .ok (.lshl, 1) := by decide +kernel
theorem dX3_putOtherAlternatives_24 : decode cX3_putOtherAlternatives 24 = .ok (.lor, 1) := by decide +kernel
theorem dX3_putOtherAlternatives_25 : decode cX3_putOtherAlternatives 25 = .ok (.iload 4, 2) := by decide +kernel
theorem dX3_putOtherAlternatives_27 : decode cX3_putOtherAlternatives 27 = .ok (.iconst 1, 1) := by decide +kernel
theorem dX3_putOtherAlternatives_28 : decode cX3_putOtherAlternatives 28 = .ok (.iadd, 1) := by decide +kernel
theorem dX3_putOtherAlternatives_29 : decode cX3_putOtherAlternatives 29 = .ok (.invokevirtual 77, 3) := by decide +kernel
theorem dX3_putOtherAlternatives_32 : decode cX3_putOtherAlternatives 32 = .ok (.iinc 4 1, 3) := by decide +kernel
theorem dX3_putOtherAlternatives_35 : decode cX3_putOtherAlternatives 35 = .ok (.goto (-32), 3) := by decide +kernel
theorem dX3_putOtherAlternatives_38 : decode cX3_putOtherAlternatives 38 = .ok (.return_, 1) := by decide +kernel
theorem dX3_endsAsValue_0 : decode cX3_endsAsValue 0 = .ok (.iload_n 1, 1) := by decide +kernel
theorem dX3_endsAsValue_1 : decode cX3_endsAsValue 1 = .ok (.tableswitch 81 0 3 #[31, 55, 81, 67], 31) := by decide +kernel
theorem dX3_endsAsValue_32 : decode cX3_endsAsValue 32 = .ok (.aload_n 0, 1) := by decide +kernel
theorem dX3_endsAsValue_33 : decode cX3_endsAsValue 33 = .ok (.dup, 1) := by decide +kernel
theorem dX3_endsAsValue_34 : decode cX3_endsAsValue 34 = .ok (.getfield 48, 3) := by decide +kernel
theorem dX3_endsAsValue_37 : decode cX3_endsAsValue 37 = .ok (.iconst 1, 1) := by decide +kernel
theorem dX3_endsAsValue_38 : decode cX3_endsAsValue 38 = .ok (.iadd, 1) := by decide +kernel
theorem dX3_endsAsValue_39 : decode cX3_endsAsValue 39 = .ok (.putfield 48, 3) := by decide +kernel
theorem dX3_endsAsValue_42 : decode cX3_endsAsValue 42 = .ok (.aload_n 0, 1) := by decide +kernel
theorem dX3_endsAsValue_43 : decode cX3_endsAsValue 43 = .ok (.getfield 12, 3) := by decide +kernel
theorem dX3_endsAsValue_46 : decode cX3_endsAsValue 46 = .ok (.lload_n 2, 1) := by decide +kernel
theorem dX3_endsAsValue_47 : decode cX3_endsAsValue 47 = .ok (.aload_n 0, 1) := by decide +kernel
theorem dX3_endsAsValue_48 : decode cX3_endsAsValue 48 = .ok (.getfield 37, 3) := by decide +kernel
theorem dX3_endsAsValue_51 : decode cX3_endsAsValue 51 = .ok (.invokevirtual 129, 3) := by decide +kernel
theorem dX3_endsAsValue_54 : decode cX3_endsAsValue 54 = .ok (.iconst 1, 1) := by decide +kernel
theorem dX3_endsAsValue_55 : decode cX3_endsAsValue 55 = .ok (.ireturn, 1) := by decide +kernel
theorem dX3_endsAsValue_56 : decode cX3_endsAsValue 56 = .ok (.aload_n 0, 1) := by decide +kernel
theorem dX3_endsAsValue_57 : decode cX3_endsAsValue 57 = .ok (.dup, 1) := by decide +kernel
theorem dX3_endsAsValue_58 : decode cX3_endsAsValue 58 = .ok (.getfield 51, 3) := by decide +kernel
theorem dX3_endsAsValue_61 : decode cX3_endsAsValue 61 = .ok (.iconst 1, 1) := by decide +kernel
theorem dX3_endsAsValue_62 : decode cX3_endsAsValue 62 = .ok (.iadd, 1) := by decide +kernel
theorem dX3_endsAsValue_63 : decode cX3_endsAsValue 63 = .ok (.putfield 51, 3) := by decide +kernel
theorem dX3_endsAsValue_66 : decode cX3_endsAsValue 66 = .ok (.iconst 0, 1) := by decide +kernel
theorem dX3_endsAsValue_67 : decode cX3_endsAsValue 67 = .ok (.ireturn, 1) := by decide +kernel
theorem dX3_endsAsValue_68 : decode cX3_endsAsValue 68 = .ok (.aload_n 0, 1) := by decide +kernel
theorem dX3_endsAsValue_69 : decode cX3_endsAsValue 69 = .ok (.lload_n 2, 1) := by decide +kernel
theorem dX3_endsAsValue_70 : decode cX3_endsAsValue 70 = .ok (.aload_n 0, 1) := by decide +kernel
theorem dX3_endsAsValue_71 : decode cX3_endsAsValue 71 = .ok (.getfield 37, 3) := by decide +kernel
theorem dX3_endsAsValue_74 : decode cX3_endsAsValue 74 = .ok (.invokevirtual 119, 3) := by decide +kernel
theorem dX3_endsAsValue_77 : decode cX3_endsAsValue 77 = .ok (.invokevirtual 133, 3) := by decide +kernel
theorem dX3_endsAsValue_80 : decode cX3_endsAsValue 80 = .ok (.iconst 0, 1) := by decide +kernel
theorem dX3_endsAsValue_81 : decode cX3_endsAsValue 81 = .ok (.ireturn, 1) := by decide +kernel
theorem dX3_endsAsValue_82 : decode cX3_endsAsValue 82 = .ok (.aload_n 0, 1) := by decide +kernel
theorem dX3_endsAsValue_83 : decode cX3_endsAsValue 83 = .ok (.dup, 1) := by decide +kernel
theorem dX3_endsAsValue_84 : decode cX3_endsAsValue 84 = .ok (.getfield 54, 3) := by decide +kernel
theorem dX3_endsAsValue_87 : decode cX3_endsAsValue 87 = .ok (.iconst 1, 1) := by decide +kernel
theorem dX3_endsAsValue_88 : decode cX3_endsAsValue 88 = .ok (.iadd, 1) := by decide +kernel
theorem dX3_endsAsValue_89 : decode cX3_endsAsValue 89 = .ok (.putfield 54, 3) := by decide +kernel
theorem dX3_endsAsValue_92 : decode cX3_endsAsValue 92 = .ok (.iconst 0, 1) := by decide +kernel
theorem dX3_endsAsValue_93 : decode cX3_endsAsValue 93 = .ok (.ireturn, 1) := by decide +kernel
theorem dX3_stopAtDecision_0 : decode cX3_stopAtDecision 0 = .ok (.aload_n 0, 1) := by decide +kernel
theorem dX3_stopAtDecision_1 : decode cX3_stopAtDecision 1 = .ok (.getfield 71, 3) := by decide +kernel
theorem dX3_stopAtDecision_4 : decode cX3_stopAtDecision 4 = .ok (.iconst 2, 1) := by decide +kernel
theorem dX3_stopAtDecision_5 : decode cX3_stopAtDecision 5 = .ok (.if_icmp .ne 16, 3) := by decide +kernel
theorem dX3_stopAtDecision_8 : decode cX3_stopAtDecision 8 = .ok (.aload_n 0, 1) := by decide +kernel
theorem dX3_stopAtDecision_9 : decode cX3_stopAtDecision 9 = .ok (.dup, 1) := by decide +kernel
theorem dX3_stopAtDecision_10 : decode cX3_stopAtDecision 10 = .ok (.getfield 57, 3) := by decide +kernel
theorem dX3_stopAtDecision_13 : decode cX3_stopAtDecision 13 = .ok (.iconst 1, 1) := by decide +kernel
theorem dX3_stopAtDecision_14 : decode cX3_stopAtDecision 14 = .ok (.iadd, 1) := by decide +kernel
theorem dX3_stopAtDecision_15 : decode cX3_stopAtDecision 15 = .ok (.putfield 57, 3) := by decide +kernel
theorem dX3_stopAtDecision_18 : decode cX3_stopAtDecision 18 = .ok (.goto 29, 3) := by decide +kernel
theorem dX3_stopAtDecision_21 : decode cX3_stopAtDecision 21 = .ok (.aload_n 0, 1) := by decide +kernel
theorem dX3_stopAtDecision_22 : decode cX3_stopAtDecision 22 = .ok (.getfield 25, 3) := by decide +kernel
theorem dX3_stopAtDecision_25 : decode cX3_stopAtDecision 25 = .ok (.lload_n 1, 1) := by decide +kernel
theorem dX3_stopAtDecision_26 : decode cX3_stopAtDecision 26 = .ok (.iload_n 3, 1) := by decide +kernel
theorem dX3_stopAtDecision_27 : decode cX3_stopAtDecision 27 = .ok (.iconst 1, 1) := by decide +kernel
theorem dX3_stopAtDecision_28 : decode cX3_stopAtDecision 28 = .ok (.iadd, 1) := by decide +kernel
theorem dX3_stopAtDecision_29 : decode cX3_stopAtDecision 29 = .ok (.invokevirtual 77, 3) := by decide +kernel
theorem dX3_stopAtDecision_32 : decode cX3_stopAtDecision 32 = .ok (.aload_n 0, 1) := by decide +kernel
theorem dX3_stopAtDecision_33 : decode cX3_stopAtDecision 33 = .ok (.getfield 25, 3) := by decide +kernel
theorem dX3_stopAtDecision_36 : decode cX3_stopAtDecision 36 = .ok (.lload_n 1, 1) := by decide +kernel
theorem dX3_stopAtDecision_37 : decode cX3_stopAtDecision 37 = .ok (.lconst 1, 1) := by decide +kernel
theorem dX3_stopAtDecision_38 : decode cX3_stopAtDecision 38 = .ok (.iload_n 3, 1) := by decide +kernel
theorem dX3_stopAtDecision_39 : decode cX3_stopAtDecision 39 = .ok (.lshl, 1) := by decide +kernel
theorem dX3_stopAtDecision_40 : decode cX3_stopAtDecision 40 = .ok (.lor, 1) := by decide +kernel
theorem dX3_stopAtDecision_41 : decode cX3_stopAtDecision 41 = .ok (.iload_n 3, 1) := by decide +kernel
theorem dX3_stopAtDecision_42 : decode cX3_stopAtDecision 42 = .ok (.iconst 1, 1) := by decide +kernel
theorem dX3_stopAtDecision_43 : decode cX3_stopAtDecision 43 = .ok (.iadd, 1) := by decide +kernel
theorem dX3_stopAtDecision_44 : decode cX3_stopAtDecision 44 = .ok (.invokevirtual 77, 3) := by decide +kernel
theorem dX3_stopAtDecision_47 : decode cX3_stopAtDecision 47 = .ok (.return_, 1) := by decide +kernel
theorem dX4_init_0 : decode cX4_init 0 = .ok (.aload_n 0, 1) := by decide +kernel
theorem dX4_init_1 : decode cX4_init 1 = .ok (.invokespecial 3, 3) := by decide +kernel
theorem dX4_init_4 : decode cX4_init 4 = .ok (.aload_n 0, 1) := by decide +kernel
theorem dX4_init_5 : decode cX4_init 5 = .ok (.bipush 16, 2) := by decide +kernel
theorem dX4_init_7 : decode cX4_init 7 = .ok (.newarray .int, 2) := by decide +kernel
theorem dX4_init_9 : decode cX4_init 9 = .ok (.putfield 11, 3) := by decide +kernel
theorem dX4_init_12 : decode cX4_init 12 = .ok (.aload_n 0, 1) := by decide +kernel
theorem dX4_init_13 : decode cX4_init 13 = .ok (.bipush 16, 2) := by decide +kernel
theorem dX4_init_15 : decode cX4_init 15 = .ok (.newarray .long, 2) := by decide +kernel
theorem dX4_init_17 : decode cX4_init 17 = .ok (.putfield 15, 3) := by decide +kernel
theorem dX4_init_20 : decode cX4_init 20 = .ok (.aload_n 0, 1) := by decide +kernel
theorem dX4_init_21 : decode cX4_init 21 = .ok (.iload_n 1, 1) := by decide +kernel
theorem dX4_init_22 : decode cX4_init 22 = .ok (.putfield 19, 3) := by decide +kernel
theorem dX4_init_25 : decode cX4_init 25 = .ok (.return_, 1) := by decide +kernel
theorem dX4_size_0 : decode cX4_size 0 = .ok (.aload_n 0, 1) := by decide +kernel
theorem dX4_size_1 : decode cX4_size 1 = .ok (.getfield 23, 3) := by decide +kernel
theorem dX4_size_4 : decode cX4_size 4 = .ok (.ireturn, 1) := by decide +kernel
theorem dX4_has_0 : decode cX4_has 0 = .ok (.iload_n 1, 1) := by decide +kernel
theorem dX4_has_1 : decode cX4_has 1 = .ok (.ifCond .lt 15, 3) := by decide +kernel
theorem dX4_has_4 : decode cX4_has 4 = .ok (.iload_n 1, 1) := by decide +kernel
theorem dX4_has_5 : decode cX4_has 5 = .ok (.aload_n 0, 1) := by decide +kernel
theorem dX4_has_6 : decode cX4_has 6 = .ok (.getfield 23, 3) := by decide +kernel
theorem dX4_has_9 : decode cX4_has 9 = .ok (.if_icmp .ge 7, 3) := by decide +kernel
theorem dX4_has_12 : decode cX4_has 12 = .ok (.iconst 1, 1) := by decide +kernel
theorem dX4_has_13 : decode cX4_has 13 = .ok (.goto 4, 3) := by decide +kernel
theorem dX4_has_16 : decode cX4_has 16 = .ok (.iconst 0, 1) := by decide +kernel
theorem dX4_has_17 : decode cX4_has 17 = .ok (.ireturn, 1) := by decide +kernel
theorem dX4_kindAt_0 : decode cX4_kindAt 0 = .ok (.aload_n 0, 1) := by decide +kernel
theorem dX4_kindAt_1 : decode cX4_kindAt 1 = .ok (.iload_n 1, 1) := by decide +kernel
theorem dX4_kindAt_2 : decode cX4_kindAt 2 = .ok (.invokevirtual 26, 3) := by decide +kernel
theorem dX4_kindAt_5 : decode cX4_kindAt 5 = .ok (.ifCond .eq 12, 3) := by decide +kernel
theorem dX4_kindAt_8 : decode cX4_kindAt 8 = .ok (.aload_n 0, 1) := by decide +kernel
theorem dX4_kindAt_9 : decode cX4_kindAt 9 = .ok (.getfield 11, 3) := by decide +kernel
theorem dX4_kindAt_12 : decode cX4_kindAt 12 = .ok (.iload_n 1, 1) := by decide +kernel
theorem dX4_kindAt_13 : decode cX4_kindAt 13 = .ok (.iaload, 1) := by decide +kernel
theorem dX4_kindAt_14 : decode cX4_kindAt 14 = .ok (.goto 4, 3) := by decide +kernel
theorem dX4_kindAt_17 : decode cX4_kindAt 17 = .ok (.iconst (-1), 1) := by decide +kernel
theorem dX4_kindAt_18 : decode cX4_kindAt 18 = .ok (.ireturn, 1) := by decide +kernel
theorem dX4_numberAt_0 : decode cX4_numberAt 0 = .ok (.aload_n 0, 1) := by decide +kernel
theorem dX4_numberAt_1 : decode cX4_numberAt 1 = .ok (.iload_n 1, 1) := by decide +kernel
theorem dX4_numberAt_2 : decode cX4_numberAt 2 = .ok (.invokevirtual 26, 3) := by decide +kernel
theorem dX4_numberAt_5 : decode cX4_numberAt 5 = .ok (.ifCond .eq 12, 3) := by decide +kernel
theorem dX4_numberAt_8 : decode cX4_numberAt 8 = .ok (.aload_n 0, 1) := by decide +kernel
theorem dX4_numberAt_9 : decode cX4_numberAt 9 = .ok (.getfield 15, 3) := by decide +kernel
theorem dX4_numberAt_12 : decode cX4_numberAt 12 = .ok (.iload_n 1, 1) := by decide +kernel
theorem dX4_numberAt_13 : decode cX4_numberAt 13 = .ok (.laload, 1) := by decide +kernel
theorem dX4_numberAt_14 : decode cX4_numberAt 14 = .ok (.goto 4, 3) := by decide +kernel
theorem dX4_numberAt_17 : decode cX4_numberAt 17 = .ok (.lconst 0, 1) := by decide +kernel
theorem dX4_numberAt_18 : decode cX4_numberAt 18 = .ok (.lreturn, 1) := by decide +kernel
theorem dX4_putNumber_0 : decode cX4_putNumber 0 = .ok (.aload_n 0, 1) := by decide +kernel
theorem dX4_putNumber_1 : decode cX4_putNumber 1 = .ok (.iload_n 1, 1) := by decide +kernel
theorem dX4_putNumber_2 : decode cX4_putNumber 2 = .ok (.invokevirtual 26, 3) := by decide +kernel
theorem dX4_putNumber_5 : decode cX4_putNumber 5 = .ok (.ifCond .eq 10, 3) := by decide +kernel
theorem dX4_putNumber_8 : decode cX4_putNumber 8 = .ok (.aload_n 0, 1) := by decide +kernel
theorem dX4_putNumber_9 : decode cX4_putNumber 9 = .ok (.getfield 15, 3) := by decide +kernel
theorem dX4_putNumber_12 : decode cX4_putNumber 12 = .ok (.iload_n 1, 1) := by decide +kernel
theorem dX4_putNumber_13 : decode cX4_putNumber 13 = .ok (.lload_n 2, 1) := by decide +kernel
theorem dX4_putNumber_14 : decode cX4_putNumber 14 = .ok (.lastore, 1) := by decide +kernel
theorem dX4_putNumber_15 : decode cX4_putNumber 15 = .ok (.return_, 1) := by decide +kernel
theorem dX4_add_0 : decode cX4_add 0 = .ok (.aload_n 0, 1) := by decide +kernel
theorem dX4_add_1 : decode cX4_add 1 = .ok (.iconst 1, 1) := by decide +kernel
theorem dX4_add_2 : decode cX4_add 2 = .ok (.invokevirtual 30, 3) := by decide +kernel
theorem dX4_add_5 : decode cX4_add 5 = .ok (.ifCond .ne 5, 3) := by decide +kernel
theorem dX4_add_8 : decode cX4_add 8 = .ok (.iconst 0, 1) := by decide +kernel
theorem dX4_add_9 : decode cX4_add 9 = .ok (.ireturn, 1) := by decide +kernel
theorem dX4_add_10 : decode cX4_add 10 = .ok (.aload_n 0, 1) := by decide +kernel
theorem dX4_add_11 : decode cX4_add 11 = .ok (.getfield 11, 3) := by decide +kernel
theorem dX4_add_14 : decode cX4_add 14 = .ok (.aload_n 0, 1) := by decide +kernel
theorem dX4_add_15 : decode cX4_add 15 = .ok (.getfield 23, 3) := by decide +kernel
theorem dX4_add_18 : decode cX4_add 18 = .ok (.iload_n 1, 1) := by decide +kernel
theorem dX4_add_19 : decode cX4_add 19 = .ok (.iastore, 1) := by decide +kernel
theorem dX4_add_20 : decode cX4_add 20 = .ok (.aload_n 0, 1) := by decide +kernel
theorem dX4_add_21 : decode cX4_add 21 = .ok (.getfield 15, 3) := by decide +kernel
theorem dX4_add_24 : decode cX4_add 24 = .ok (.aload_n 0, 1) := by decide +kernel
theorem dX4_add_25 : decode cX4_add 25 = .ok (.getfield 23, 3) := by decide +kernel
theorem dX4_add_28 : decode cX4_add 28 = .ok (.lload_n 2, 1) := by decide +kernel
theorem dX4_add_29 : decode cX4_add 29 = .ok (.lastore, 1) := by decide +kernel
theorem dX4_add_30 : decode cX4_add 30 = .ok (.aload_n 0, 1) := by decide +kernel
theorem dX4_add_31 : decode cX4_add 31 = .ok (.dup, 1) := by decide +kernel
theorem dX4_add_32 : decode cX4_add 32 = .ok (.getfield 23, 3) := by decide +kernel
theorem dX4_add_35 : decode cX4_add 35 = .ok (.iconst 1, 1) := by decide +kernel
theorem dX4_add_36 : decode cX4_add 36 = .ok (.iadd, 1) := by decide +kernel
theorem dX4_add_37 : decode cX4_add 37 = .ok (.putfield 23, 3) := by decide +kernel
theorem dX4_add_40 : decode cX4_add 40 = .ok (.iconst 1, 1) := by decide +kernel
theorem dX4_add_41 : decode cX4_add 41 = .ok (.ireturn, 1) := by decide +kernel
theorem dX4_addFrom_0 : decode cX4_addFrom 0 = .ok (.iload_n 2, 1) := by decide +kernel
theorem dX4_addFrom_1 : decode cX4_addFrom 1 = .ok (.ifCond .lt 25, 3) := by decide +kernel
theorem dX4_addFrom_4 : decode cX4_addFrom 4 = .ok (.iload_n 3, 1) := by decide +kernel
theorem dX4_addFrom_5 : decode cX4_addFrom 5 = .ok (.ifCond .lt 21, 3) := by decide +kernel
theorem dX4_addFrom_8 : decode cX4_addFrom 8 = .ok (.iload_n 3, 1) := by decide +kernel
theorem dX4_addFrom_9 : decode cX4_addFrom 9 = .ok (.aload_n 1, 1) := by decide +kernel
theorem dX4_addFrom_10 : decode cX4_addFrom 10 = .ok (.getfield 23, 3) := by decide +kernel
theorem dX4_addFrom_13 : decode cX4_addFrom 13 = .ok (.iload_n 2, 1) := by decide +kernel
theorem dX4_addFrom_14 : decode cX4_addFrom 14 = .ok (.isub, 1) := by decide +kernel
theorem dX4_addFrom_15 : decode cX4_addFrom 15 = .ok (.if_icmp .gt 11, 3) := by decide +kernel
theorem dX4_addFrom_18 : decode cX4_addFrom 18 = .ok (.aload_n 0, 1) := by decide +kernel
theorem dX4_addFrom_19 : decode cX4_addFrom 19 = .ok (.iload_n 3, 1) := by decide +kernel
theorem dX4_addFrom_20 : decode cX4_addFrom 20 = .ok (.invokevirtual 30, 3) := by decide +kernel
theorem dX4_addFrom_23 : decode cX4_addFrom 23 = .ok (.ifCond .ne 5, 3) := by decide +kernel
theorem dX4_addFrom_26 : decode cX4_addFrom 26 = .ok (.iconst 0, 1) := by decide +kernel
theorem dX4_addFrom_27 : decode cX4_addFrom 27 = .ok (.ireturn, 1) := by decide +kernel
theorem dX4_addFrom_28 : decode cX4_addFrom 28 = .ok (.aload_n 1, 1) := by decide +kernel
theorem dX4_addFrom_29 : decode cX4_addFrom 29 = .ok (.getfield 11, 3) := by decide +kernel
theorem dX4_addFrom_32 : decode cX4_addFrom 32 = .ok (.iload_n 2, 1) := by decide +kernel
theorem dX4_addFrom_33 : decode cX4_addFrom 33 = .ok (.aload_n 0, 1) := by decide +kernel
theorem dX4_addFrom_34 : decode cX4_addFrom 34 = .ok (.getfield 11, 3) := by decide +kernel
theorem dX4_addFrom_37 : decode cX4_addFrom 37 = .ok (.aload_n 0, 1) := by decide +kernel
theorem dX4_addFrom_38 : decode cX4_addFrom 38 = .ok (.getfield 23, 3) := by decide +kernel
theorem dX4_addFrom_41 : decode cX4_addFrom 41 = .ok (.iload_n 3, 1) := by decide +kernel
theorem dX4_addFrom_42 : decode cX4_addFrom 42 = .ok (.invokestatic 33, 3) := by decide +kernel
theorem dX4_addFrom_45 : decode cX4_addFrom 45 = .ok (.aload_n 1, 1) := by decide +kernel
theorem dX4_addFrom_46 : decode cX4_addFrom 46 = .ok (.getfield 15, 3) := by decide +kernel
theorem dX4_addFrom_49 : decode cX4_addFrom 49 = .ok (.iload_n 2, 1) := by decide +kernel
theorem dX4_addFrom_50 : decode cX4_addFrom 50 = .ok (.aload_n 0, 1) := by decide +kernel
theorem dX4_addFrom_51 : decode cX4_addFrom 51 = .ok (.getfield 15, 3) := by decide +kernel
theorem dX4_addFrom_54 : decode cX4_addFrom 54 = .ok (.aload_n 0, 1) := by decide +kernel
theorem dX4_addFrom_55 : decode cX4_addFrom 55 = .ok (.getfield 23, 3) := by decide +kernel
theorem dX4_addFrom_58 : decode cX4_addFrom 58 = .ok (.iload_n 3, 1) := by decide +kernel
theorem dX4_addFrom_59 : decode cX4_addFrom 59 = .ok (.invokestatic 33, 3) := by decide +kernel
theorem dX4_addFrom_62 : decode cX4_addFrom 62 = .ok (.aload_n 0, 1) := by decide +kernel
theorem dX4_addFrom_63 : decode cX4_addFrom 63 = .ok (.dup, 1) := by decide +kernel
theorem dX4_addFrom_64 : decode cX4_addFrom 64 = .ok (.getfield 23, 3) := by decide +kernel
theorem dX4_addFrom_67 : decode cX4_addFrom 67 = .ok (.iload_n 3, 1) := by decide +kernel
theorem dX4_addFrom_68 : decode cX4_addFrom 68 = .ok (.iadd, 1) := by decide +kernel
theorem dX4_addFrom_69 : decode cX4_addFrom 69 = .ok (.putfield 23, 3) := by decide +kernel
theorem dX4_addFrom_72 : decode cX4_addFrom 72 = .ok (.iconst 1, 1) := by decide +kernel
theorem dX4_addFrom_73 : decode cX4_addFrom 73 = .ok (.ireturn, 1) := by decide +kernel
theorem dX4_cutTo_0 : decode cX4_cutTo 0 = .ok (.iload_n 1, 1) := by decide +kernel
theorem dX4_cutTo_1 : decode cX4_cutTo 1 = .ok (.ifCond .lt 16, 3) := by decide +kernel
theorem dX4_cutTo_4 : decode cX4_cutTo 4 = .ok (.iload_n 1, 1) := by decide +kernel
theorem dX4_cutTo_5 : decode cX4_cutTo 5 = .ok (.aload_n 0, 1) := by decide +kernel
theorem dX4_cutTo_6 : decode cX4_cutTo 6 = .ok (.getfield 23, 3) := by decide +kernel
theorem dX4_cutTo_9 : decode cX4_cutTo 9 = .ok (.if_icmp .ge 8, 3) := by decide +kernel
theorem dX4_cutTo_12 : decode cX4_cutTo 12 = .ok (.aload_n 0, 1) := by decide +kernel
theorem dX4_cutTo_13 : decode cX4_cutTo 13 = .ok (.iload_n 1, 1) := by decide +kernel
theorem dX4_cutTo_14 : decode cX4_cutTo 14 = .ok (.putfield 23, 3) := by decide +kernel
theorem dX4_cutTo_17 : decode cX4_cutTo 17 = .ok (.return_, 1) := by decide +kernel
theorem dX4_makeRoom_0 : decode cX4_makeRoom 0 = .ok (.iload_n 1, 1) := by decide +kernel
theorem dX4_makeRoom_1 : decode cX4_makeRoom 1 = .ok (.aload_n 0, 1) := by decide +kernel
theorem dX4_makeRoom_2 : decode cX4_makeRoom 2 = .ok (.getfield 19, 3) := by decide +kernel
theorem dX4_makeRoom_5 : decode cX4_makeRoom 5 = .ok (.aload_n 0, 1) := by decide +kernel
theorem dX4_makeRoom_6 : decode cX4_makeRoom 6 = .ok (.getfield 23, 3) := by decide +kernel
theorem dX4_makeRoom_9 : decode cX4_makeRoom 9 = .ok (.isub, 1) := by decide +kernel
theorem dX4_makeRoom_10 : decode cX4_makeRoom 10 = .ok (.if_icmp .le 5, 3) := by decide +kernel
theorem dX4_makeRoom_13 : decode cX4_makeRoom 13 = .ok (.iconst 0, 1) := by decide +kernel
theorem dX4_makeRoom_14 : decode cX4_makeRoom 14 = .ok (.ireturn, 1) := by decide +kernel
theorem dX4_makeRoom_15 : decode cX4_makeRoom 15 = .ok (.aload_n 0, 1) := by decide +kernel
theorem dX4_makeRoom_16 : decode cX4_makeRoom 16 = .ok (.getfield 23, 3) := by decide +kernel
theorem dX4_makeRoom_19 : decode cX4_makeRoom 19 = .ok (.iload_n 1, 1) := by decide +kernel
theorem dX4_makeRoom_20 : decode cX4_makeRoom 20 = .ok (.iadd, 1) := by decide +kernel
theorem dX4_makeRoom_21 : decode cX4_makeRoom 21 = .ok (.istore_n 2, 1) := by decide +kernel
theorem dX4_makeRoom_22 : decode cX4_makeRoom 22 = .ok (.iload_n 2, 1) := by decide +kernel
theorem dX4_makeRoom_23 : decode cX4_makeRoom 23 = .ok (.aload_n 0, 1) := by decide +kernel
theorem dX4_makeRoom_24 : decode cX4_makeRoom 24 = .ok (.getfield 11, 3) := by decide +kernel
theorem dX4_makeRoom_27 : decode cX4_makeRoom 27 = .ok (.arraylength, 1) := by decide +kernel
theorem dX4_makeRoom_28 : decode cX4_makeRoom 28 = .ok (.if_icmp .le 46, 3) := by decide +kernel
theorem dX4_makeRoom_31 : decode cX4_makeRoom 31 = .ok (.iload_n 2, 1) := by decide +kernel
theorem dX4_makeRoom_32 : decode cX4_makeRoom 32 = .ok (.aload_n 0, 1) := by decide +kernel
theorem dX4_makeRoom_33 : decode cX4_makeRoom 33 = .ok (.getfield 19, 3) := by decide +kernel
theorem dX4_makeRoom_36 : decode cX4_makeRoom 36 = .ok (.iconst 2, 1) := by decide +kernel
theorem dX4_makeRoom_37 : decode cX4_makeRoom 37 = .ok (.aload_n 0, 1) := by decide +kernel
theorem dX4_makeRoom_38 : decode cX4_makeRoom 38 = .ok (.getfield 11, 3) := by decide +kernel
theorem dX4_makeRoom_41 : decode cX4_makeRoom 41 = .ok (.arraylength, 1) := by decide +kernel
theorem dX4_makeRoom_42 : decode cX4_makeRoom 42 = .ok (.imul, 1) := by decide +kernel
theorem dX4_makeRoom_43 : decode cX4_makeRoom 43 = .ok (.invokestatic 39, 3) := by decide +kernel
theorem dX4_makeRoom_46 : decode cX4_makeRoom 46 = .ok (.invokestatic 45, 3) := by decide +kernel
theorem dX4_makeRoom_49 : decode cX4_makeRoom 49 = .ok (.istore_n 3, 1) := by decide +kernel
theorem dX4_makeRoom_50 : decode cX4_makeRoom 50 = .ok (.aload_n 0, 1) := by decide +kernel
theorem dX4_makeRoom_51 : decode cX4_makeRoom 51 = .ok (.aload_n 0, 1) := by decide +kernel
theorem dX4_makeRoom_52 : decode cX4_makeRoom 52 = .ok (.getfield 11, 3) := by decide +kernel
theorem dX4_makeRoom_55 : decode cX4_makeRoom 55 = .ok (.iload_n 3, 1) := by decide +kernel
theorem dX4_makeRoom_56 : decode cX4_makeRoom 56 = .ok (.invokestatic 48, 3) := by decide +kernel
theorem dX4_makeRoom_59 : decode cX4_makeRoom 59 = .ok (.putfield 11, 3) := by decide +kernel
theorem dX4_makeRoom_62 : decode cX4_makeRoom 62 = .ok (.aload_n 0, 1) := by decide +kernel
theorem dX4_makeRoom_63 : decode cX4_makeRoom 63 = .ok (.aload_n 0, 1) := by decide +kernel
theorem dX4_makeRoom_64 : decode cX4_makeRoom 64 = .ok (.getfield 15, 3) := by decide +kernel
theorem dX4_makeRoom_67 : decode cX4_makeRoom 67 = .ok (.iload_n 3, 1) := by decide +kernel
theorem dX4_makeRoom_68 : decode cX4_makeRoom 68 = .ok (.invokestatic 54, 3) := by decide +kernel
theorem dX4_makeRoom_71 : decode cX4_makeRoom 71 = .ok (.putfield 15, 3) := by decide +kernel
theorem dX4_makeRoom_74 : decode cX4_makeRoom 74 = .ok (.iconst 1, 1) := by decide +kernel
theorem dX4_makeRoom_75 : decode cX4_makeRoom 75 = .ok (.ireturn, 1) := by decide +kernel
theorem dX5_init_0 : decode cX5_init 0 = .ok (.aload_n 0, 1) := by decide +kernel
theorem dX5_init_1 : decode cX5_init 1 = .ok (.invokespecial 3, 3) := by decide +kernel
theorem dX5_init_4 : decode cX5_init 4 = .ok (.aload_n 0, 1) := by decide +kernel
theorem dX5_init_5 : decode cX5_init 5 = .ok (.bipush 60, 2) := by decide +kernel
theorem dX5_init_7 : decode cX5_init 7 = .ok (.newarray .int, 2) := by decide +kernel
theorem dX5_init_9 : decode cX5_init 9 = .ok (.putfield 9, 3) := by decide +kernel
theorem dX5_init_12 : decode cX5_init 12 = .ok (.aload_n 0, 1) := by decide +kernel
theorem dX5_init_13 : decode cX5_init 13 = .ok (.bipush 60, 2) := by decide +kernel
theorem dX5_init_15 : decode cX5_init 15 = .ok (.newarray .long, 2) := by decide +kernel
theorem dX5_init_17 : decode cX5_init 17 = .ok (.putfield 15, 3) := by decide +kernel
theorem dX5_init_20 : decode cX5_init 20 = .ok (.aload_n 0, 1) := by decide +kernel
theorem dX5_init_21 : decode cX5_init 21 = .ok (.bipush 60, 2) := by decide +kernel
theorem dX5_init_23 : decode cX5_init 23 = .ok (.newarray .int, 2) := by decide +kernel
theorem dX5_init_25 : decode cX5_init 25 = .ok (.putfield 19, 3) := by decide +kernel
theorem dX5_init_28 : decode cX5_init 28 = .ok (.aload_n 0, 1) := by decide +kernel
theorem dX5_init_29 : decode cX5_init 29 = .ok (.new 22, 3) := by decide +kernel
theorem dX5_init_32 : decode cX5_init 32 = .ok (.dup, 1) := by decide +kernel
theorem dX5_init_33 : decode cX5_init 33 = .ok (.sipush 200, 3) := by decide +kernel
theorem dX5_init_36 : decode cX5_init 36 = .ok (.invokespecial 24, 3) := by decide +kernel
theorem dX5_init_39 : decode cX5_init 39 = .ok (.putfield 27, 3) := by decide +kernel
theorem dX5_init_42 : decode cX5_init 42 = .ok (.aload_n 0, 1) := by decide +kernel
theorem dX5_init_43 : decode cX5_init 43 = .ok (.aload_n 1, 1) := by decide +kernel
theorem dX5_init_44 : decode cX5_init 44 = .ok (.putfield 31, 3) := by decide +kernel
theorem dX5_init_47 : decode cX5_init 47 = .ok (.return_, 1) := by decide +kernel
theorem dX5_around_0 : decode cX5_around 0 = .ok (.aload_n 0, 1) := by decide +kernel
theorem dX5_around_1 : decode cX5_around 1 = .ok (.getfield 31, 3) := by decide +kernel
theorem dX5_around_4 : decode cX5_around 4 = .ok (.areturn, 1) := by decide +kernel
theorem dX5_inner_0 : decode cX5_inner 0 = .ok (.aload_n 0, 1) := by decide +kernel
theorem dX5_inner_1 : decode cX5_inner 1 = .ok (.getfield 35, 3) := by decide +kernel
theorem dX5_inner_4 : decode cX5_inner 4 = .ok (.areturn, 1) := by decide +kernel
theorem dX5_nest_0 : decode cX5_nest 0 = .ok (.aload_n 0, 1) := by decide +kernel
theorem dX5_nest_1 : decode cX5_nest 1 = .ok (.astore_n 2, 1) := by decide +kernel
theorem dX5_nest_2 : decode cX5_nest 2 = .ok (.iconst 0, 1) := by decide +kernel
theorem dX5_nest_3 : decode cX5_nest 3 = .ok (.istore_n 3, 1) := by decide +kernel
theorem dX5_nest_4 : decode cX5_nest 4 = .ok (.iload_n 3, 1) := by decide +kernel
theorem dX5_nest_5 : decode cX5_nest 5 = .ok (.iload_n 1, 1) := by decide +kernel
theorem dX5_nest_6 : decode cX5_nest 6 = .ok (.if_icmp .ge 26, 3) := by decide +kernel
theorem dX5_nest_9 : decode cX5_nest 9 = .ok (.aload_n 2, 1) := by decide +kernel
theorem dX5_nest_10 : decode cX5_nest 10 = .ok (.new 10, 3) := by decide +kernel
theorem dX5_nest_13 : decode cX5_nest 13 = .ok (.dup, 1) := by decide +kernel
theorem dX5_nest_14 : decode cX5_nest 14 = .ok (.aload_n 2, 1) := by decide +kernel
theorem dX5_nest_15 : decode cX5_nest 15 = .ok (.invokespecial 38, 3) := by decide +kernel
theorem dX5_nest_18 : decode cX5_nest 18 = .ok (.putfield 35, 3) := by decide +kernel
theorem dX5_nest_21 : decode cX5_nest 21 = .ok (.aload_n 2, 1) := by decide +kernel
theorem dX5_nest_22 : decode cX5_nest 22 = .ok (.getfield 35, 3) := by decide +kernel
theorem dX5_nest_25 : decode cX5_nest 25 = .ok (.astore_n 2, 1) := by decide +kernel
theorem dX5_nest_26 : decode cX5_nest 26 = .ok (.iinc 3 1, 3) := by decide +kernel
theorem dX5_nest_29 : decode cX5_nest 29 = .ok (.goto (-25), 3) := by decide +kernel
theorem dX5_nest_32 : decode cX5_nest 32 = .ok (.return_, 1) := by decide +kernel
theorem dX5_tokens_0 : decode cX5_tokens 0 = .ok (.aload_n 0, 1) := by decide +kernel
theorem dX5_tokens_1 : decode cX5_tokens 1 = .ok (.getfield 27, 3) := by decide +kernel
theorem dX5_tokens_4 : decode cX5_tokens 4 = .ok (.areturn, 1) := by decide +kernel
theorem dX5_decisions_0 : decode cX5_decisions 0 = .ok (.aload_n 0, 1) := by decide +kernel
theorem dX5_decisions_1 : decode cX5_decisions 1 = .ok (.getfield 41, 3) := by decide +kernel
theorem dX5_decisions_4 : decode cX5_decisions 4 = .ok (.ireturn, 1) := by decide +kernel
theorem dX5_isInside_0 : decode cX5_isInside 0 = .ok (.iload_n 1, 1) := by decide +kernel
theorem dX5_isInside_1 : decode cX5_isInside 1 = .ok (.aload_n 0, 1) := by decide +kernel
theorem dX5_isInside_2 : decode cX5_isInside 2 = .ok (.getfield 48, 3) := by decide +kernel
theorem dX5_isInside_5 : decode cX5_isInside 5 = .ok (.if_icmp .lt 7, 3) := by decide +kernel
theorem dX5_isInside_8 : decode cX5_isInside 8 = .ok (.iconst 1, 1) := by decide +kernel
theorem dX5_isInside_9 : decode cX5_isInside 9 = .ok (.goto 4, 3) := by decide +kernel
theorem dX5_isInside_12 : decode cX5_isInside 12 = .ok (.iconst 0, 1) := by decide +kernel
theorem dX5_isInside_13 : decode cX5_isInside 13 = .ok (.ireturn, 1) := by decide +kernel
theorem dX5_beginOfSearch_0 : decode cX5_beginOfSearch 0 = .ok (.aload_n 0, 1) := by decide +kernel
theorem dX5_beginOfSearch_1 : decode cX5_beginOfSearch 1 = .ok (.iconst 0, 1) := by decide +kernel
theorem dX5_beginOfSearch_2 : decode cX5_beginOfSearch 2 = .ok (.putfield 48, 3) := by decide +kernel
theorem dX5_beginOfSearch_5 : decode cX5_beginOfSearch 5 = .ok (.aload_n 0, 1) := by decide +kernel
theorem dX5_beginOfSearch_6 : decode cX5_beginOfSearch 6 = .ok (.lload_n 1, 1) := by decide +kernel
theorem dX5_beginOfSearch_7 : decode cX5_beginOfSearch 7 = .ok (.putfield 51, 3) := by decide +kernel
theorem dX5_beginOfSearch_10 : decode cX5_beginOfSearch 10 = .ok (.aload_n 0, 1) := by decide +kernel
theorem dX5_beginOfSearch_11 : decode cX5_beginOfSearch 11 = .ok (.iload_n 3, 1) := by decide +kernel
theorem dX5_beginOfSearch_12 : decode cX5_beginOfSearch 12 = .ok (.putfield 55, 3) := by decide +kernel
theorem dX5_beginOfSearch_15 : decode cX5_beginOfSearch 15 = .ok (.aload_n 0, 1) := by decide +kernel
theorem dX5_beginOfSearch_16 : decode cX5_beginOfSearch 16 = .ok (.getfield 27, 3) := by decide +kernel
theorem dX5_beginOfSearch_19 : decode cX5_beginOfSearch 19 = .ok (.iconst 0, 1) := by decide +kernel
theorem dX5_beginOfSearch_20 : decode cX5_beginOfSearch 20 = .ok (.invokevirtual 58, 3) := by decide +kernel
theorem dX5_beginOfSearch_23 : decode cX5_beginOfSearch 23 = .ok (.aload_n 0, 1) := by decide +kernel
theorem dX5_beginOfSearch_24 : decode cX5_beginOfSearch 24 = .ok (.invokevirtual 61, 3) := by decide +kernel
theorem dX5_beginOfSearch_27 : decode cX5_beginOfSearch 27 = .ok (.return_, 1) := by decide +kernel
theorem dX5_beginOfSet_0 : decode cX5_beginOfSet 0 = .ok (.aload_n 0, 1) := by decide +kernel
theorem dX5_beginOfSet_1 : decode cX5_beginOfSet 1 = .ok (.iload_n 1, 1) := by decide +kernel
theorem dX5_beginOfSet_2 : decode cX5_beginOfSet 2 = .ok (.putfield 48, 3) := by decide +kernel
theorem dX5_beginOfSet_5 : decode cX5_beginOfSet 5 = .ok (.aload_n 0, 1) := by decide +kernel
theorem dX5_beginOfSet_6 : decode cX5_beginOfSet 6 = .ok (.lconst 0, 1) := by decide +kernel
theorem dX5_beginOfSet_7 : decode cX5_beginOfSet 7 = .ok (.putfield 51, 3) := by decide +kernel
theorem dX5_beginOfSet_10 : decode cX5_beginOfSet 10 = .ok (.aload_n 0, 1) := by decide +kernel
theorem dX5_beginOfSet_11 : decode cX5_beginOfSet 11 = .ok (.bipush 60, 2) := by decide +kernel
theorem dX5_beginOfSet_13 : decode cX5_beginOfSet 13 = .ok (.putfield 55, 3) := by decide +kernel
theorem dX5_beginOfSet_16 : decode cX5_beginOfSet 16 = .ok (.aload_n 0, 1) := by decide +kernel
theorem dX5_beginOfSet_17 : decode cX5_beginOfSet 17 = .ok (.iconst 0, 1) := by decide +kernel
theorem dX5_beginOfSet_18 : decode cX5_beginOfSet 18 = .ok (.putfield 45, 3) := by decide +kernel
theorem dX5_beginOfSet_21 : decode cX5_beginOfSet 21 = .ok (.aload_n 0, 1) := by decide +kernel
theorem dX5_beginOfSet_22 : decode cX5_beginOfSet 22 = .ok (.getfield 27, 3) := by decide +kernel
theorem dX5_beginOfSet_25 : decode cX5_beginOfSet 25 = .ok (.iconst 0, 1) := by decide +kernel
theorem dX5_beginOfSet_26 : decode cX5_beginOfSet 26 = .ok (.invokevirtual 58, 3) := by decide +kernel
theorem dX5_beginOfSet_29 : decode cX5_beginOfSet 29 = .ok (.aload_n 0, 1) := by decide +kernel
theorem dX5_beginOfSet_30 : decode cX5_beginOfSet 30 = .ok (.getfield 27, 3) := by decide +kernel
theorem dX5_beginOfSet_33 : decode cX5_beginOfSet 33 = .ok (.iconst 2, 1) := by decide +kernel
theorem dX5_beginOfSet_34 : decode cX5_beginOfSet 34 = .ok (.lconst 0, 1) := by decide +kernel
theorem dX5_beginOfSet_35 : decode cX5_beginOfSet 35 = .ok (.invokevirtual 64, 3) := by decide +kernel
theorem dX5_beginOfSet_38 : decode cX5_beginOfSet 38 = .ok (.pop, 1) := by decide +kernel
theorem dX5_beginOfSet_39 : decode cX5_beginOfSet 39 = .ok (.aload_n 0, 1) := by decide +kernel
theorem dX5_beginOfSet_40 : decode cX5_beginOfSet 40 = .ok (.invokevirtual 61, 3) := by decide +kernel
theorem dX5_beginOfSet_43 : decode cX5_beginOfSet 43 = .ok (.return_, 1) := by decide +kernel
theorem dX5_begin_0 : decode cX5_begin 0 = .ok (.aload_n 0, 1) := by decide +kernel
theorem dX5_begin_1 : decode cX5_begin 1 = .ok (.iconst 0, 1) := by decide +kernel
theorem dX5_begin_2 : decode cX5_begin 2 = .ok (.putfield 41, 3) := by decide +kernel
theorem dX5_begin_5 : decode cX5_begin 5 = .ok (.aload_n 0, 1) := by decide +kernel
theorem dX5_begin_6 : decode cX5_begin 6 = .ok (.aload_n 0, 1) := by decide +kernel
theorem dX5_begin_7 : decode cX5_begin 7 = .ok (.getfield 27, 3) := by decide +kernel
theorem dX5_begin_10 : decode cX5_begin 10 = .ok (.invokevirtual 68, 3) := by decide +kernel
theorem dX5_begin_13 : decode cX5_begin 13 = .ok (.putfield 72, 3) := by decide +kernel
theorem dX5_begin_16 : decode cX5_begin 16 = .ok (.aload_n 0, 1) := by decide +kernel
theorem dX5_begin_17 : decode cX5_begin 17 = .ok (.getfield 9, 3) := by decide +kernel
theorem dX5_begin_20 : decode cX5_begin 20 = .ok (.iconst (-1), 1) := by decide +kernel
theorem dX5_begin_21 : decode cX5_begin 21 = .ok (.invokestatic 75, 3) := by decide +kernel
theorem dX5_begin_24 : decode cX5_begin 24 = .ok (.return_, 1) := by decide +kernel
theorem dX5_listValue_0 : decode cX5_listValue 0 = .ok (.aload_n 0, 1) := by decide +kernel
theorem dX5_listValue_1 : decode cX5_listValue 1 = .ok (.dup, 1) := by decide +kernel
theorem dX5_listValue_2 : decode cX5_listValue 2 = .ok (.getfield 45, 3) := by decide +kernel
theorem dX5_listValue_5 : decode cX5_listValue 5 = .ok (.iconst 1, 1) := by decide +kernel
theorem dX5_listValue_6 : decode cX5_listValue 6 = .ok (.iadd, 1) := by decide +kernel
theorem dX5_listValue_7 : decode cX5_listValue 7 = .ok (.putfield 45, 3) := by decide +kernel
theorem dX5_listValue_10 : decode cX5_listValue 10 = .ok (.aload_n 0, 1) := by decide +kernel
theorem dX5_listValue_11 : decode cX5_listValue 11 = .ok (.getfield 27, 3) := by decide +kernel
theorem dX5_listValue_14 : decode cX5_listValue 14 = .ok (.iconst 0, 1) := by decide +kernel
theorem dX5_listValue_15 : decode cX5_listValue 15 = .ok (.aload_n 0, 1) := by decide +kernel
theorem dX5_listValue_16 : decode cX5_listValue 16 = .ok (.getfield 45, 3) := by decide +kernel
theorem dX5_listValue_19 : decode cX5_listValue 19 = .ok (.i2l, 1) := by decide +kernel
theorem dX5_listValue_20 : decode cX5_listValue 20 = .ok (.invokevirtual 81, 3) := by decide +kernel
theorem dX5_listValue_23 : decode cX5_listValue 23 = .ok (.return_, 1) := by decide +kernel
theorem dX5_dropValue_0 : decode cX5_dropValue 0 = .ok (.aload_n 0, 1) := by decide +kernel
theorem dX5_dropValue_1 : decode cX5_dropValue 1 = .ok (.getfield 27, 3) := by decide +kernel
theorem dX5_dropValue_4 : decode cX5_dropValue 4 = .ok (.aload_n 0, 1) := by decide +kernel
theorem dX5_dropValue_5 : decode cX5_dropValue 5 = .ok (.getfield 72, 3) := by decide +kernel
theorem dX5_dropValue_8 : decode cX5_dropValue 8 = .ok (.invokevirtual 58, 3) := by decide +kernel
theorem dX5_dropValue_11 : decode cX5_dropValue 11 = .ok (.return_, 1) := by decide +kernel
theorem dX5_turn_0 : decode cX5_turn 0 = .ok (.aload_n 0, 1) := by decide +kernel
theorem dX5_turn_1 : decode cX5_turn 1 = .ok (.getfield 41, 3) := by decide +kernel
theorem dX5_turn_4 : decode cX5_turn 4 = .ok (.iconst 1, 1) := by decide +kernel
theorem dX5_turn_5 : decode cX5_turn 5 = .ok (.isub, 1) := by decide +kernel
theorem dX5_turn_6 : decode cX5_turn 6 = .ok (.istore_n 1, 1) := by decide +kernel
theorem dX5_turn_7 : decode cX5_turn 7 = .ok (.iload_n 1, 1) := by decide +kernel
theorem dX5_turn_8 : decode cX5_turn 8 = .ok (.ifCond .lt 44, 3) := by decide +kernel
theorem dX5_turn_11 : decode cX5_turn 11 = .ok (.lconst 1, 1) := by decide +kernel
theorem dX5_turn_12 : decode cX5_turn 12 = .ok (.iload_n 1, 1) := by decide +kernel
theorem dX5_turn_13 : decode cX5_turn 13 = .ok (.lshl, 1) := by decide +kernel
theorem dX5_turn_14 : decode cX5_turn 14 = .ok (.lstore_n 2, 1) := by decide +kernel
theorem dX5_turn_15 : decode cX5_turn 15 = .ok (.aload_n 0, 1) := by decide +kernel
theorem dX5_turn_16 : decode cX5_turn 16 = .ok (.getfield 51, 3) := by decide +kernel
theorem dX5_turn_19 : decode cX5_turn 19 = .ok (.lload_n 2, 1) := by decide +kernel
theorem dX5_turn_20 : decode cX5_turn 20 = .ok (.land, 1) := by decide +kernel
theorem dX5_turn_21 : decode cX5_turn 21 = .ok (.lconst 0, 1) := by decide +kernel
theorem dX5_turn_22 : decode cX5_turn 22 = .ok (.lcmp, 1) := by decide +kernel
theorem dX5_turn_23 : decode cX5_turn 23 = .ok (.ifCond .ne 23, 3) := by decide +kernel
theorem dX5_turn_26 : decode cX5_turn 26 = .ok (.aload_n 0, 1) := by decide +kernel
theorem dX5_turn_27 : decode cX5_turn 27 = .ok (.aload_n 0, 1) := by decide +kernel
theorem dX5_turn_28 : decode cX5_turn 28 = .ok (.getfield 51, 3) := by decide +kernel
theorem dX5_turn_31 : decode cX5_turn 31 = .ok (.lload_n 2, 1) := by decide +kernel
theorem dX5_turn_32 : decode cX5_turn 32 = .ok (.lconst 1, 1) := by decide +kernel
theorem dX5_turn_33 : decode cX5_turn 33 = .ok (.lsub, 1) := by decide +kernel
theorem dX5_turn_34 : decode cX5_turn 34 = .ok (.land, 1) := by decide +kernel
theorem dX5_turn_35 : decode cX5_turn 35 = .ok (.lload_n 2, 1) := by decide +kernel
theorem dX5_turn_36 : decode cX5_turn 36 = .ok (.lor, 1) := by decide +kernel
theorem dX5_turn_37 : decode cX5_turn 37 = .ok (.putfield 51, 3) := by decide +kernel
theorem dX5_turn_40 : decode cX5_turn 40 = .ok (.aload_n 0, 1) := by decide +kernel
theorem dX5_turn_41 : decode cX5_turn 41 = .ok (.invokevirtual 61, 3) := by decide +kernel
theorem dX5_turn_44 : decode cX5_turn 44 = .ok (.iconst 1, 1) := by decide +kernel
theorem dX5_turn_45 : decode cX5_turn 45 = .ok (.ireturn, 1) := by decide +kernel
theorem dX5_turn_46 : decode cX5_turn 46 = .ok (.iinc 1 (-1), 3) := by decide +kernel
theorem dX5_turn_49 : decode cX5_turn 49 = .ok (.goto (-42), 3) := by decide +kernel
theorem dX5_turn_52 : decode cX5_turn 52 = .ok (.iconst 0, 1) := by decide +kernel
theorem dX5_turn_53 : decode cX5_turn 53 = .ok (.ireturn, 1) := by decide +kernel
theorem dX5_decide_0 : decode cX5_decide 0 = .ok (.aload_n 0, 1) := by decide +kernel
theorem dX5_decide_1 : decode cX5_decide 1 = .ok (.getfield 41, 3) := by decide +kernel
theorem dX5_decide_4 : decode cX5_decide 4 = .ok (.aload_n 0, 1) := by decide +kernel
theorem dX5_decide_5 : decode cX5_decide 5 = .ok (.getfield 55, 3) := by decide +kernel
theorem dX5_decide_8 : decode cX5_decide 8 = .ok (.if_icmp .lt 5, 3) := by decide +kernel
theorem dX5_decide_11 : decode cX5_decide 11 = .ok (.iconst (-1), 1) := by decide +kernel
theorem dX5_decide_12 : decode cX5_decide 12 = .ok (.ireturn, 1) := by decide +kernel
theorem dX5_decide_13 : decode cX5_decide 13 = .ok (.aload_n 0, 1) := by decide +kernel
theorem dX5_decide_14 : decode cX5_decide 14 = .ok (.getfield 51, 3) := by decide +kernel
theorem dX5_decide_17 : decode cX5_decide 17 = .ok (.aload_n 0, 1) := by decide +kernel
theorem dX5_decide_18 : decode cX5_decide 18 = .ok (.getfield 41, 3) := by decide +kernel
theorem dX5_decide_21 : decode cX5_decide 21 = .ok (.lushr, 1) := by decide +kernel
theorem dX5_decide_22 : decode cX5_decide 22 = .ok (.lconst 1, 1) := by decide +kernel
theorem dX5_decide_23 : decode cX5_decide 23 = .ok (.land, 1) := by decide +kernel
theorem dX5_decide_24 : decode cX5_decide 24 = .ok (.l2i, 1) := by decide +kernel
theorem dX5_decide_25 : decode cX5_decide 25 = .ok (.istore_n 1, 1) := by decide +kernel
theorem dX5_decide_26 : decode cX5_decide 26 = .ok (.aload_n 0, 1) := by decide +kernel
theorem dX5_decide_27 : decode cX5_decide 27 = .ok (.dup, 1) := by decide +kernel
theorem dX5_decide_28 : decode cX5_decide 28 = .ok (.getfield 41, 3) := by decide +kernel
theorem dX5_decide_31 : decode cX5_decide 31 = .ok (.iconst 1, 1) := by decide +kernel
theorem dX5_decide_32 : decode cX5_decide 32 = .ok (.iadd, 1) := by decide +kernel
theorem dX5_decide_33 : decode cX5_decide 33 = .ok (.putfield 41, 3) := by decide +kernel
theorem dX5_decide_36 : decode cX5_decide 36 = .ok (.iload_n 1, 1) := by decide +kernel
theorem dX5_decide_37 : decode cX5_decide 37 = .ok (.ireturn, 1) := by decide +kernel
theorem dX5_hasValue_0 : decode cX5_hasValue 0 = .ok (.iload_n 1, 1) := by decide +kernel
theorem dX5_hasValue_1 : decode cX5_hasValue 1 = .ok (.ifCond .lt 23, 3) := by decide +kernel
theorem dX5_hasValue_4 : decode cX5_hasValue 4 = .ok (.iload_n 1, 1) := by decide +kernel
theorem dX5_hasValue_5 : decode cX5_hasValue 5 = .ok (.bipush 60, 2) := by decide +kernel
theorem dX5_hasValue_7 : decode cX5_hasValue 7 = .ok (.if_icmp .ge 17, 3) := by decide +kernel
theorem dX5_hasValue_10 : decode cX5_hasValue 10 = .ok (.aload_n 0, 1) := by decide +kernel
theorem dX5_hasValue_11 : decode cX5_hasValue 11 = .ok (.getfield 9, 3) := by decide +kernel
theorem dX5_hasValue_14 : decode cX5_hasValue 14 = .ok (.iload_n 1, 1) := by decide +kernel
theorem dX5_hasValue_15 : decode cX5_hasValue 15 = .ok (.iaload, 1) := by decide +kernel
theorem dX5_hasValue_16 : decode cX5_hasValue 16 = .ok (.iconst (-1), 1) := by decide +kernel
theorem dX5_hasValue_17 : decode cX5_hasValue 17 = .ok (.if_icmp .eq 7, 3) := by decide +kernel
theorem dX5_hasValue_20 : decode cX5_hasValue 20 = .ok (.iconst 1, 1) := by decide +kernel
theorem dX5_hasValue_21 : decode cX5_hasValue 21 = .ok (.goto 4, 3) := by decide +kernel
theorem dX5_hasValue_24 : decode cX5_hasValue 24 = .ok (.iconst 0, 1) := by decide +kernel
theorem dX5_hasValue_25 : decode cX5_hasValue 25 = .ok (.ireturn, 1) := by decide +kernel
theorem dX5_kindOf_0 : decode cX5_kindOf 0 = .ok (.aload_n 0, 1) := by decide +kernel
theorem dX5_kindOf_1 : decode cX5_kindOf 1 = .ok (.iload_n 1, 1) := by decide +kernel
theorem dX5_kindOf_2 : decode cX5_kindOf 2 = .ok (.invokevirtual 85, 3) := by decide +kernel
theorem dX5_kindOf_5 : decode cX5_kindOf 5 = .ok (.ifCond .eq 12, 3) := by decide +kernel
theorem dX5_kindOf_8 : decode cX5_kindOf 8 = .ok (.aload_n 0, 1) := by decide +kernel
theorem dX5_kindOf_9 : decode cX5_kindOf 9 = .ok (.getfield 9, 3) := by decide +kernel
theorem dX5_kindOf_12 : decode cX5_kindOf 12 = .ok (.iload_n 1, 1) := by decide +kernel
theorem dX5_kindOf_13 : decode cX5_kindOf 13 = .ok (.iaload, 1) := by decide +kernel
theorem dX5_kindOf_14 : decode cX5_kindOf 14 = .ok (.goto 4, 3) := by decide +kernel
theorem dX5_kindOf_17 : decode cX5_kindOf 17 = .ok (.iconst (-1), 1) := by decide +kernel
theorem dX5_kindOf_18 : decode cX5_kindOf 18 = .ok (.ireturn, 1) := by decide +kernel
theorem dX5_numberOf_0 : decode cX5_numberOf 0 = .ok (.aload_n 0, 1) := by decide +kernel
theorem dX5_numberOf_1 : decode cX5_numberOf 1 = .ok (.iload_n 1, 1) := by decide +kernel
theorem dX5_numberOf_2 : decode cX5_numberOf 2 = .ok (.invokevirtual 85, 3) := by decide +kernel
theorem dX5_numberOf_5 : decode cX5_numberOf 5 = .ok (.ifCond .eq 12, 3) := by decide +kernel
theorem dX5_numberOf_8 : decode cX5_numberOf 8 = .ok (.aload_n 0, 1) := by decide +kernel
theorem dX5_numberOf_9 : decode cX5_numberOf 9 = .ok (.getfield 15, 3) := by decide +kernel
theorem dX5_numberOf_12 : decode cX5_numberOf 12 = .ok (.iload_n 1, 1) := by decide +kernel
theorem dX5_numberOf_13 : decode cX5_numberOf 13 = .ok (.laload, 1) := by decide +kernel
theorem dX5_numberOf_14 : decode cX5_numberOf 14 = .ok (.goto 4, 3) := by decide +kernel
theorem dX5_numberOf_17 : decode cX5_numberOf 17 = .ok (.lconst 0, 1) := by decide +kernel
theorem dX5_numberOf_18 : decode cX5_numberOf 18 = .ok (.lreturn, 1) := by decide +kernel
theorem dX5_lengthOf_0 : decode cX5_lengthOf 0 = .ok (.aload_n 0, 1) := by decide +kernel
theorem dX5_lengthOf_1 : decode cX5_lengthOf 1 = .ok (.iload_n 1, 1) := by decide +kernel
theorem dX5_lengthOf_2 : decode cX5_lengthOf 2 = .ok (.invokevirtual 85, 3) := by decide +kernel
theorem dX5_lengthOf_5 : decode cX5_lengthOf 5 = .ok (.ifCond .eq 12, 3) := by decide +kernel
theorem dX5_lengthOf_8 : decode cX5_lengthOf 8 = .ok (.aload_n 0, 1) := by decide +kernel
theorem dX5_lengthOf_9 : decode cX5_lengthOf 9 = .ok (.getfield 19, 3) := by decide +kernel
theorem dX5_lengthOf_12 : decode cX5_lengthOf 12 = .ok (.iload_n 1, 1) := by decide +kernel
theorem dX5_lengthOf_13 : decode cX5_lengthOf 13 = .ok (.iaload, 1) := by decide +kernel
theorem dX5_lengthOf_14 : decode cX5_lengthOf 14 = .ok (.goto 4, 3) := by decide +kernel
theorem dX5_lengthOf_17 : decode cX5_lengthOf 17 = .ok (.iconst 0, 1) := by decide +kernel
theorem dX5_lengthOf_18 : decode cX5_lengthOf 18 = .ok (.ireturn, 1) := by decide +kernel
theorem dX5_keep_0 : decode cX5_keep 0 = .ok (.iload_n 1, 1) := by decide +kernel
theorem dX5_keep_1 : decode cX5_keep 1 = .ok (.ifCond .lt 31, 3) := by decide +kernel
theorem dX5_keep_4 : decode cX5_keep 4 = .ok (.iload_n 1, 1) := by decide +kernel
theorem dX5_keep_5 : decode cX5_keep 5 = .ok (.bipush 60, 2) := by decide +kernel
theorem dX5_keep_7 : decode cX5_keep 7 = .ok (.if_icmp .ge 25, 3) := by decide +kernel
theorem dX5_keep_10 : decode cX5_keep 10 = .ok (.aload_n 0, 1) := by decide +kernel
theorem dX5_keep_11 : decode cX5_keep 11 = .ok (.getfield 9, 3) := by decide +kernel
theorem dX5_keep_14 : decode cX5_keep 14 = .ok (.iload_n 1, 1) := by decide +kernel
theorem dX5_keep_15 : decode cX5_keep 15 = .ok (.iload_n 2, 1) := by decide +kernel
theorem dX5_keep_16 : decode cX5_keep 16 = .ok (.iastore, 1) := by decide +kernel
theorem dX5_keep_17 : decode cX5_keep 17 = .ok (.aload_n 0, 1) := by decide +kernel
theorem dX5_keep_18 : decode cX5_keep 18 = .ok (.getfield 15, 3) := by decide +kernel
theorem dX5_keep_21 : decode cX5_keep 21 = .ok (.iload_n 1, 1) := by decide +kernel
theorem dX5_keep_22 : decode cX5_keep 22 = .ok (.lload_n 3, 1) := by decide +kernel
theorem dX5_keep_23 : decode cX5_keep 23 = .ok (.lastore, 1) := by decide +kernel
theorem dX5_keep_24 : decode cX5_keep 24 = .ok (.aload_n 0, 1) := by decide +kernel
theorem dX5_keep_25 : decode cX5_keep 25 = .ok (.getfield 19, 3) := by decide +kernel
theorem dX5_keep_28 : decode cX5_keep 28 = .ok (.iload_n 1, 1) := by decide +kernel
theorem dX5_keep_29 : decode cX5_keep 29 = .ok (.iload 5, 2) := by decide +kernel
theorem dX5_keep_31 : decode cX5_keep 31 = .ok (.iastore, 1) := by decide +kernel
theorem dX5_keep_32 : decode cX5_keep 32 = .ok (.return_, 1) := by decide +kernel
theorem dX5_tell_0 : decode cX5_tell 0 = .ok (.aload_n 0, 1) := by decide +kernel
theorem dX5_tell_1 : decode cX5_tell 1 = .ok (.getfield 27, 3) := by decide +kernel
theorem dX5_tell_4 : decode cX5_tell 4 = .ok (.invokevirtual 68, 3) := by decide +kernel
theorem dX5_tell_7 : decode cX5_tell 7 = .ok (.aload_n 0, 1) := by decide +kernel
theorem dX5_tell_8 : decode cX5_tell 8 = .ok (.getfield 72, 3) := by decide +kernel
theorem dX5_tell_11 : decode cX5_tell 11 = .ok (.isub, 1) := by decide +kernel
theorem dX5_tell_12 : decode cX5_tell 12 = .ok (.bipush 100, 2) := by decide +kernel
theorem dX5_tell_14 : decode cX5_tell 14 = .ok (.if_icmp .ge 19, 3) := by decide +kernel
theorem dX5_tell_17 : decode cX5_tell 17 = .ok (.aload_n 0, 1) := by decide +kernel
theorem dX5_tell_18 : decode cX5_tell 18 = .ok (.getfield 27, 3) := by decide +kernel
theorem dX5_tell_21 : decode cX5_tell 21 = .ok (.iload_n 1, 1) := by decide +kernel
theorem dX5_tell_22 : decode cX5_tell 22 = .ok (.lload_n 2, 1) := by decide +kernel
theorem dX5_tell_23 : decode cX5_tell 23 = .ok (.invokevirtual 64, 3) := by decide +kernel
theorem dX5_tell_26 : decode cX5_tell 26 = .ok (.ifCond .eq 7, 3) := by decide +kernel
theorem dX5_tell_29 : decode cX5_tell 29 = .ok (.iconst 1, 1) := by decide +kernel
theorem dX5_tell_30 : decode cX5_tell 30 = .ok (.goto 4, 3) := by decide +kernel
theorem dX5_tell_33 : decode cX5_tell 33 = .ok (.iconst 0, 1) := by decide +kernel
theorem dX5_tell_34 : decode cX5_tell 34 = .ok (.ireturn, 1) := by decide +kernel
theorem dX5_tellAll_0 : decode cX5_tellAll 0 = .ok (.aload_n 0, 1) := by decide +kernel
theorem dX5_tellAll_1 : decode cX5_tellAll 1 = .ok (.getfield 27, 3) := by decide +kernel
theorem dX5_tellAll_4 : decode cX5_tellAll 4 = .ok (.invokevirtual 68, 3) := by decide +kernel
theorem dX5_tellAll_7 : decode cX5_tellAll 7 = .ok (.aload_n 0, 1) := by decide +kernel
theorem dX5_tellAll_8 : decode cX5_tellAll 8 = .ok (.getfield 72, 3) := by decide +kernel
theorem dX5_tellAll_11 : decode cX5_tellAll 11 = .ok (.isub, 1) := by decide +kernel
theorem dX5_tellAll_12 : decode cX5_tellAll 12 = .ok (.iload_n 3, 1) := by decide +kernel
theorem dX5_tellAll_13 : decode cX5_tellAll 13 = .ok (.iadd, 1) := by decide +kernel
theorem dX5_tellAll_14 : decode cX5_tellAll 14 = .ok (.bipush 100, 2) := by decide +kernel
theorem dX5_tellAll_16 : decode cX5_tellAll 16 = .ok (.if_icmp .gt 20, 3) := by decide +kernel
theorem dX5_tellAll_19 : decode cX5_tellAll 19 = .ok (.aload_n 0, 1) := by decide +kernel
theorem dX5_tellAll_20 : decode cX5_tellAll 20 = .ok (.getfield 27, 3) := by decide +kernel
theorem dX5_tellAll_23 : decode cX5_tellAll 23 = .ok (.aload_n 1, 1) := by decide +kernel
theorem dX5_tellAll_24 : decode cX5_tellAll 24 = .ok (.iload_n 2, 1) := by decide +kernel
theorem dX5_tellAll_25 : decode cX5_tellAll 25 = .ok (.iload_n 3, 1) := by decide +kernel
theorem dX5_tellAll_26 : decode cX5_tellAll 26 = .ok (.invokevirtual 89, 3) := by decide +kernel
theorem dX5_tellAll_29 : decode cX5_tellAll 29 = .ok (.ifCond .eq 7, 3) := by decide +kernel
theorem dX5_tellAll_32 : decode cX5_tellAll 32 = .ok (.iconst 1, 1) := by decide +kernel
theorem dX5_tellAll_33 : decode cX5_tellAll 33 = .ok (.goto 4, 3) := by decide +kernel
theorem dX5_tellAll_36 : decode cX5_tellAll 36 = .ok (.iconst 0, 1) := by decide +kernel
theorem dX5_tellAll_37 : decode cX5_tellAll 37 = .ok (.ireturn, 1) := by decide +kernel
theorem dX6_init_0 : decode cX6_init 0 = .ok (.aload_n 0, 1) := by decide +kernel
theorem dX6_init_1 : decode cX6_init 1 = .ok (.invokespecial 3, 3) := by decide +kernel
theorem dX6_init_4 : decode cX6_init 4 = .ok (.aload_n 0, 1) := by decide +kernel
theorem dX6_init_5 : decode cX6_init 5 = .ok (.new 9, 3) := by decide +kernel
theorem dX6_init_8 : decode cX6_init 8 = .ok (.dup, 1) := by decide +kernel
theorem dX6_init_9 : decode cX6_init 9 = .ok (.aconst_null, 1) := by decide +kernel
theorem dX6_init_10 : decode cX6_init 10 = .ok (.invokespecial 11, 3) := by decide +kernel
theorem dX6_init_13 : decode cX6_init 13 = .ok (.putfield 14, 3) := by decide +kernel
theorem dX6_init_16 : decode cX6_init 16 = .ok (.aload_n 0, 1) := by decide +kernel
theorem dX6_init_17 : decode cX6_init 17 = .ok (.aload_n 0, 1) := by decide +kernel
theorem dX6_init_18 : decode cX6_init 18 = .ok (.getfield 14, 3) := by decide +kernel
theorem dX6_init_21 : decode cX6_init 21 = .ok (.putfield 20, 3) := by decide +kernel
theorem dX6_init_24 : decode cX6_init 24 = .ok (.aload_n 0, 1) := by decide +kernel
theorem dX6_init_25 : decode cX6_init 25 = .ok (.new 23, 3) := by decide +kernel
theorem dX6_init_28 : decode cX6_init 28 = .ok (.dup, 1) := by decide +kernel
theorem dX6_init_29 : decode cX6_init 29 = .ok (.ldc 25, 2) := by decide +kernel
theorem dX6_init_31 : decode cX6_init 31 = .ok (.invokespecial 26, 3) := by decide +kernel
theorem dX6_init_34 : decode cX6_init 34 = .ok (.putfield 29, 3) := by decide +kernel
theorem dX6_init_37 : decode cX6_init 37 = .ok (.aload_n 0, 1) := by decide +kernel
theorem dX6_init_38 : decode cX6_init 38 = .ok (.aload_n 0, 1) := by decide +kernel
theorem dX6_init_39 : decode cX6_init 39 = .ok (.getfield 14, 3) := by decide +kernel
theorem dX6_init_42 : decode cX6_init 42 = .ok (.putfield 33, 3) := by decide +kernel
theorem dX6_init_45 : decode cX6_init 45 = .ok (.aload_n 0, 1) := by decide +kernel
theorem dX6_init_46 : decode cX6_init 46 = .ok (.aload_n 1, 1) := by decide +kernel
theorem dX6_init_47 : decode cX6_init 47 = .ok (.putfield 36, 3) := by decide +kernel
theorem dX6_init_50 : decode cX6_init 50 = .ok (.aload_n 0, 1) := by decide +kernel
theorem dX6_init_51 : decode cX6_init 51 = .ok (.getfield 14, 3) := by decide +kernel
theorem dX6_init_54 : decode cX6_init 54 = .ok (.iconst 5, 1) := by decide +kernel
theorem dX6_init_55 : decode cX6_init 55 = .ok (.invokevirtual 40, 3) := by decide +kernel
theorem dX6_init_58 : decode cX6_init 58 = .ok (.return_, 1) := by decide +kernel
theorem dX6_labour_0 : decode cX6_labour 0 = .ok (.aload_n 0, 1) := by decide +kernel
theorem dX6_labour_1 : decode cX6_labour 1 = .ok (.getfield 43, 3) := by decide +kernel
theorem dX6_labour_4 : decode cX6_labour 4 = .ok (.ireturn, 1) := by decide +kernel
theorem dX6_decisions_0 : decode cX6_decisions 0 = .ok (.aload_n 0, 1) := by decide +kernel
theorem dX6_decisions_1 : decode cX6_decisions 1 = .ok (.getfield 14, 3) := by decide +kernel
theorem dX6_decisions_4 : decode cX6_decisions 4 = .ok (.invokevirtual 47, 3) := by decide +kernel
theorem dX6_decisions_7 : decode cX6_decisions 7 = .ok (.ireturn, 1) := by decide +kernel
theorem dX6_tokens_0 : decode cX6_tokens 0 = .ok (.aload_n 0, 1) := by decide +kernel
theorem dX6_tokens_1 : decode cX6_tokens 1 = .ok (.getfield 14, 3) := by decide +kernel
theorem dX6_tokens_4 : decode cX6_tokens 4 = .ok (.invokevirtual 51, 3) := by decide +kernel
theorem dX6_tokens_7 : decode cX6_tokens 7 = .ok (.areturn, 1) := by decide +kernel
theorem dX6_goWay_0 : decode cX6_goWay 0 = .ok (.aload_n 0, 1) := by decide +kernel
theorem dX6_goWay_1 : decode cX6_goWay 1 = .ok (.aload_n 0, 1) := by decide +kernel
theorem dX6_goWay_2 : decode cX6_goWay 2 = .ok (.getfield 14, 3) := by decide +kernel
theorem dX6_goWay_5 : decode cX6_goWay 5 = .ok (.putfield 20, 3) := by decide +kernel
theorem dX6_goWay_8 : decode cX6_goWay 8 = .ok (.aload_n 0, 1) := by decide +kernel
theorem dX6_goWay_9 : decode cX6_goWay 9 = .ok (.iconst 0, 1) := by decide +kernel
theorem dX6_goWay_10 : decode cX6_goWay 10 = .ok (.putfield 43, 3) := by decide +kernel
theorem dX6_goWay_13 : decode cX6_goWay 13 = .ok (.aload_n 0, 1) := by decide +kernel
theorem dX6_goWay_14 : decode cX6_goWay 14 = .ok (.getfield 29, 3) := by decide +kernel
theorem dX6_goWay_17 : decode cX6_goWay 17 = .ok (.iconst 0, 1) := by decide +kernel
theorem dX6_goWay_18 : decode cX6_goWay 18 = .ok (.invokevirtual 55, 3) := by decide +kernel
theorem dX6_goWay_21 : decode cX6_goWay 21 = .ok (.aload_n 0, 1) := by decide +kernel
theorem dX6_goWay_22 : decode cX6_goWay 22 = .ok (.getfield 14, 3) := by decide +kernel
theorem dX6_goWay_25 : decode cX6_goWay 25 = .ok (.lload_n 2, 1) := by decide +kernel
theorem dX6_goWay_26 : decode cX6_goWay 26 = .ok (.iload 4, 2) := by decide +kernel
theorem dX6_goWay_28 : decode cX6_goWay 28 = .ok (.invokevirtual 58, 3) := by decide +kernel
theorem dX6_goWay_31 : decode cX6_goWay 31 = .ok (.aload_n 0, 1) := by decide +kernel
theorem dX6_goWay_32 : decode cX6_goWay 32 = .ok (.iload_n 1, 1) := by decide +kernel
theorem dX6_goWay_33 : decode cX6_goWay 33 = .ok (.iload_n 1, 1) := by decide +kernel
theorem dX6_goWay_34 : decode cX6_goWay 34 = .ok (.iconst 1, 1) := by decide +kernel
theorem dX6_goWay_35 : decode cX6_goWay 35 = .ok (.iadd, 1) := by decide +kernel
theorem dX6_goWay_36 : decode cX6_goWay 36 = .ok (.invokevirtual 62, 3) := by decide +kernel
theorem dX6_goWay_39 : decode cX6_goWay 39 = .ok (.ireturn, 1) := by decide +kernel
theorem dX6_tellInFull_0 : decode cX6_tellInFull 0 = .ok (.aload_n 0, 1) := by decide +kernel
theorem dX6_tellInFull_1 : decode cX6_tellInFull 1 = .ok (.iload_n 1, 1) := by decide +kernel
theorem dX6_tellInFull_2 : decode cX6_tellInFull 2 = .ok (.iload_n 2, 1) := by decide +kernel
theorem dX6_tellInFull_3 : decode cX6_tellInFull 3 = .ok (.invokevirtual 66, 3) := by decide +kernel
theorem dX6_tellInFull_6 : decode cX6_tellInFull 6 = .ok (.istore_n 3, 1) := by decide +kernel
theorem dX6_tellInFull_7 : decode cX6_tellInFull 7 = .ok (.iload_n 3, 1) := by decide +kernel
theorem dX6_tellInFull_8 : decode cX6_tellInFull 8 = .ok (.ifCond .eq 5, 3) := by decide +kernel
theorem dX6_tellInFull_11 : decode cX6_tellInFull 11 = .ok (.iload_n 3, 1) := by decide +kernel
theorem dX6_tellInFull_12 : decode cX6_tellInFull 12 = .ok (.ireturn, 1) := by decide +kernel
theorem dX6_tellInFull_13 : decode cX6_tellInFull 13 = .ok (.aload_n 0, 1) := by decide +kernel
theorem dX6_tellInFull_14 : decode cX6_tellInFull 14 = .ok (.getfield 69, 3) := by decide +kernel
theorem dX6_tellInFull_17 : decode cX6_tellInFull 17 = .ok (.ifCond .ne 24, 3) := by decide +kernel
theorem dX6_tellInFull_20 : decode cX6_tellInFull 20 = .ok (.aload_n 0, 1) := by decide +kernel
theorem dX6_tellInFull_21 : decode cX6_tellInFull 21 = .ok (.getfield 20, 3) := by decide +kernel
theorem dX6_tellInFull_24 : decode cX6_tellInFull 24 = .ok (.iconst 0, 1) := by decide +kernel
theorem dX6_tellInFull_25 : decode cX6_tellInFull 25 = .ok (.aload_n 0, 1) := by decide +kernel
theorem dX6_tellInFull_26 : decode cX6_tellInFull 26 = .ok (.getfield 72, 3) := by decide +kernel
theorem dX6_tellInFull_29 : decode cX6_tellInFull 29 = .ok (.invokevirtual 76, 3) := by decide +kernel
theorem dX6_tellInFull_32 : decode cX6_tellInFull 32 = .ok (.ifCond .eq 7, 3) := by decide +kernel
theorem dX6_tellInFull_35 : decode cX6_tellInFull 35 = .ok (.iconst 0, 1) := by decide +kernel
theorem dX6_tellInFull_36 : decode cX6_tellInFull 36 = .ok (.goto 4, 3) := by decide +kernel
theorem dX6_tellInFull_39 : decode cX6_tellInFull 39 = .ok (.iconst 2, 1) := by decide +kernel
theorem dX6_tellInFull_40 : decode cX6_tellInFull 40 = .ok (.ireturn, 1) := by decide +kernel
theorem dX6_tellInFull_41 : decode cX6_tellInFull 41 = .ok (.aload_n 0, 1) := by decide +kernel
theorem dX6_tellInFull_42 : decode cX6_tellInFull 42 = .ok (.getfield 69, 3) := by decide +kernel
theorem dX6_tellInFull_45 : decode cX6_tellInFull 45 = .ok (.iconst 2, 1) := by decide +kernel
theorem dX6_tellInFull_46 : decode cX6_tellInFull 46 = .ok (.if_icmp .ne 32, 3) := by decide +kernel
theorem dX6_tellInFull_49 : decode cX6_tellInFull 49 = .ok (.aload_n 0, 1) := by decide +kernel
theorem dX6_tellInFull_50 : decode cX6_tellInFull 50 = .ok (.getfield 20, 3) := by decide +kernel
theorem dX6_tellInFull_53 : decode cX6_tellInFull 53 = .ok (.aload_n 0, 1) := by decide +kernel
theorem dX6_tellInFull_54 : decode cX6_tellInFull 54 = .ok (.getfield 29, 3) := by decide +kernel
theorem dX6_tellInFull_57 : decode cX6_tellInFull 57 = .ok (.aload_n 0, 1) := by decide +kernel
theorem dX6_tellInFull_58 : decode cX6_tellInFull 58 = .ok (.getfield 72, 3) := by decide +kernel
theorem dX6_tellInFull_61 : decode cX6_tellInFull 61 = .ok (.l2i, 1) := by decide +kernel
theorem dX6_tellInFull_62 : decode cX6_tellInFull 62 = .ok (.aload_n 0, 1) := by decide +kernel
theorem dX6_tellInFull_63 : decode cX6_tellInFull 63 = .ok (.getfield 80, 3) := by decide +kernel
theorem dX6_tellInFull_66 : decode cX6_tellInFull 66 = .ok (.invokevirtual 83, 3) := by decide +kernel
theorem dX6_tellInFull_69 : decode cX6_tellInFull 69 = .ok (.ifCond .eq 7, 3) := by decide +kernel
theorem dX6_tellInFull_72 : decode cX6_tellInFull 72 = .ok (.iconst 0, 1) := by decide +kernel
theorem dX6_tellInFull_73 : decode cX6_tellInFull 73 = .ok (.goto 4, 3) := by decide +kernel
theorem dX6_tellInFull_76 : decode cX6_tellInFull 76 = .ok (.iconst 2, 1) := by decide +kernel
theorem dX6_tellInFull_77 : decode cX6_tellInFull 77 = .ok (.ireturn, 1) := by decide +kernel
theorem dX6_tellInFull_78 : decode cX6_tellInFull 78 = .ok (.aload_n 0, 1) := by decide +kernel
theorem dX6_tellInFull_79 : decode cX6_tellInFull 79 = .ok (.getfield 72, 3) := by decide +kernel
theorem dX6_tellInFull_82 : decode cX6_tellInFull 82 = .ok (.l2i, 1) := by decide +kernel
theorem dX6_tellInFull_83 : decode cX6_tellInFull 83 = .ok (.istore 4, 2) := by decide +kernel
theorem dX6_tellInFull_85 : decode cX6_tellInFull 85 = .ok (.aload_n 0, 1) := by decide +kernel
theorem dX6_tellInFull_86 : decode cX6_tellInFull 86 = .ok (.getfield 20, 3) := by decide +kernel
theorem dX6_tellInFull_89 : decode cX6_tellInFull 89 = .ok (.iconst 1, 1) := by decide +kernel
theorem dX6_tellInFull_90 : decode cX6_tellInFull 90 = .ok (.ldc2_w 87, 3) := by decide +kernel
theorem dX6_tellInFull_93 : decode cX6_tellInFull 93 = .ok (.invokevirtual 76, 3) := by decide +kernel
theorem dX6_tellInFull_96 : decode cX6_tellInFull 96 = .ok (.ifCond .ne 5, 3) := by decide +kernel
theorem dX6_tellInFull_99 : decode cX6_tellInFull 99 = .ok (.iconst 2, 1) := by decide +kernel
theorem dX6_tellInFull_100 : decode cX6_tellInFull 100 = .ok (.ireturn, 1) := by decide +kernel
theorem dX6_tellInFull_101 : decode cX6_tellInFull 101 = .ok (.aload_n 0, 1) := by decide +kernel
theorem dX6_tellInFull_102 : decode cX6_tellInFull 102 = .ok (.aload_n 0, 1) := by decide +kernel
theorem dX6_tellInFull_103 : decode cX6_tellInFull 103 = .ok (.getfield 36, 3) := by decide +kernel
theorem dX6_tellInFull_106 : decode cX6_tellInFull 106 = .ok (.iload 4, 2) := by decide +kernel
theorem dX6_tellInFull_108 : decode cX6_tellInFull 108 = .ok (.invokevirtual 89, 3) := by decide +kernel
theorem dX6_tellInFull_111 : decode cX6_tellInFull 111 = .ok (.iload 4, 2) := by decide +kernel
theorem dX6_tellInFull_113 : decode cX6_tellInFull 113 = .ok (.invokevirtual 62, 3) := by decide +kernel
theorem dX6_tellInFull_116 : decode cX6_tellInFull 116 = .ok (.istore_n 3, 1) := by decide +kernel
theorem dX6_tellInFull_117 : decode cX6_tellInFull 117 = .ok (.iload_n 3, 1) := by decide +kernel
theorem dX6_tellInFull_118 : decode cX6_tellInFull 118 = .ok (.ifCond .ne 21, 3) := by decide +kernel
theorem dX6_tellInFull_121 : decode cX6_tellInFull 121 = .ok (.aload_n 0, 1) := by decide +kernel
theorem dX6_tellInFull_122 : decode cX6_tellInFull 122 = .ok (.aload_n 0, 1) := by decide +kernel
theorem dX6_tellInFull_123 : decode cX6_tellInFull 123 = .ok (.getfield 36, 3) := by decide +kernel
theorem dX6_tellInFull_126 : decode cX6_tellInFull 126 = .ok (.iload 4, 2) := by decide +kernel
theorem dX6_tellInFull_128 : decode cX6_tellInFull 128 = .ok (.invokevirtual 95, 3) := by decide +kernel
theorem dX6_tellInFull_131 : decode cX6_tellInFull 131 = .ok (.iload 4, 2) := by decide +kernel
theorem dX6_tellInFull_133 : decode cX6_tellInFull 133 = .ok (.invokevirtual 62, 3) := by decide +kernel
theorem dX6_tellInFull_136 : decode cX6_tellInFull 136 = .ok (.goto 4, 3) := by decide +kernel
theorem dX6_tellInFull_139 : decode cX6_tellInFull 139 = .ok (.iload_n 3, 1) := by decide +kernel
theorem dX6_tellInFull_140 : decode cX6_tellInFull 140 = .ok (.ireturn, 1) := by decide +kernel
theorem dX6_valueOf_0 : decode cX6_valueOf 0 = .ok (.iload_n 1, 1) := by decide +kernel
theorem dX6_valueOf_1 : decode cX6_valueOf 1 = .ok (.ifCond .lt 8, 3) := by decide +kernel
theorem dX6_valueOf_4 : decode cX6_valueOf 4 = .ok (.iload_n 1, 1) := by decide +kernel
theorem dX6_valueOf_5 : decode cX6_valueOf 5 = .ok (.iload_n 2, 1) := by decide +kernel
theorem dX6_valueOf_6 : decode cX6_valueOf 6 = .ok (.if_icmp .lt 5, 3) := by decide +kernel
theorem dX6_valueOf_9 : decode cX6_valueOf 9 = .ok (.iconst 1, 1) := by decide +kernel
theorem dX6_valueOf_10 : decode cX6_valueOf 10 = .ok (.ireturn, 1) := by decide +kernel
theorem dX6_valueOf_11 : decode cX6_valueOf 11 = .ok (.aload_n 0, 1) := by decide +kernel
theorem dX6_valueOf_12 : decode cX6_valueOf 12 = .ok (.iload_n 1, 1) := by decide +kernel
theorem dX6_valueOf_13 : decode cX6_valueOf 13 = .ok (.invokevirtual 98, 3) := by decide +kernel
theorem dX6_valueOf_16 : decode cX6_valueOf 16 = .ok (.astore_n 3, 1) := by decide +kernel
theorem dX6_valueOf_17 : decode cX6_valueOf 17 = .ok (.aload_n 3, 1) := by decide +kernel
theorem dX6_valueOf_18 : decode cX6_valueOf 18 = .ok (.iload_n 1, 1) := by decide +kernel
theorem dX6_valueOf_19 : decode cX6_valueOf 19 = .ok (.invokevirtual 102, 3) := by decide +kernel
theorem dX6_valueOf_22 : decode cX6_valueOf 22 = .ok (.ifCond .eq 23, 3) := by decide +kernel
theorem dX6_valueOf_25 : decode cX6_valueOf 25 = .ok (.aload_n 0, 1) := by decide +kernel
theorem dX6_valueOf_26 : decode cX6_valueOf 26 = .ok (.aload_n 3, 1) := by decide +kernel
theorem dX6_valueOf_27 : decode cX6_valueOf 27 = .ok (.iload_n 1, 1) := by decide +kernel
theorem dX6_valueOf_28 : decode cX6_valueOf 28 = .ok (.invokevirtual 106, 3) := by decide +kernel
theorem dX6_valueOf_31 : decode cX6_valueOf 31 = .ok (.aload_n 3, 1) := by decide +kernel
theorem dX6_valueOf_32 : decode cX6_valueOf 32 = .ok (.iload_n 1, 1) := by decide +kernel
theorem dX6_valueOf_33 : decode cX6_valueOf 33 = .ok (.invokevirtual 109, 3) := by decide +kernel
theorem dX6_valueOf_36 : decode cX6_valueOf 36 = .ok (.aload_n 3, 1) := by decide +kernel
theorem dX6_valueOf_37 : decode cX6_valueOf 37 = .ok (.iload_n 1, 1) := by decide +kernel
theorem dX6_valueOf_38 : decode cX6_valueOf 38 = .ok (.invokevirtual 113, 3) := by decide +kernel
theorem dX6_valueOf_41 : decode cX6_valueOf 41 = .ok (.invokevirtual 116, 3) := by decide +kernel
theorem dX6_valueOf_44 : decode cX6_valueOf 44 = .ok (.ireturn, 1) := by decide +kernel
theorem dX6_valueOf_45 : decode cX6_valueOf 45 = .ok (.aload_n 3, 1) := by decide +kernel
theorem dX6_valueOf_46 : decode cX6_valueOf 46 = .ok (.aload_n 0, 1) := by decide +kernel
theorem dX6_valueOf_47 : decode cX6_valueOf 47 = .ok (.getfield 20, 3) := by decide +kernel
theorem dX6_valueOf_50 : decode cX6_valueOf 50 = .ok (.if_acmp .eq 15, 3) := by decide +kernel
theorem dX6_valueOf_53 : decode cX6_valueOf 53 = .ok (.aload_n 0, 1) := by decide +kernel
theorem dX6_valueOf_54 : decode cX6_valueOf 54 = .ok (.iload_n 1, 1) := by decide +kernel
theorem dX6_valueOf_55 : decode cX6_valueOf 55 = .ok (.putfield 120, 3) := by decide +kernel
theorem dX6_valueOf_58 : decode cX6_valueOf 58 = .ok (.aload_n 0, 1) := by decide +kernel
theorem dX6_valueOf_59 : decode cX6_valueOf 59 = .ok (.aload_n 3, 1) := by decide +kernel
theorem dX6_valueOf_60 : decode cX6_valueOf 60 = .ok (.putfield 33, 3) := by decide +kernel
theorem dX6_valueOf_63 : decode cX6_valueOf 63 = .ok (.iconst 4, 1) := by decide +kernel
theorem dX6_valueOf_64 : decode cX6_valueOf 64 = .ok (.ireturn, 1) := by decide +kernel
theorem dX6_valueOf_65 : decode cX6_valueOf 65 = .ok (.aload_n 0, 1) := by decide +kernel
theorem dX6_valueOf_66 : decode cX6_valueOf 66 = .ok (.iload_n 1, 1) := by decide +kernel
theorem dX6_valueOf_67 : decode cX6_valueOf 67 = .ok (.invokevirtual 123, 3) := by decide +kernel
theorem dX6_valueOf_70 : decode cX6_valueOf 70 = .ok (.ireturn, 1) := by decide +kernel
theorem dX6_homeOf_0 : decode cX6_homeOf 0 = .ok (.aload_n 0, 1) := by decide +kernel
theorem dX6_homeOf_1 : decode cX6_homeOf 1 = .ok (.getfield 20, 3) := by decide +kernel
theorem dX6_homeOf_4 : decode cX6_homeOf 4 = .ok (.astore_n 2, 1) := by decide +kernel
theorem dX6_homeOf_5 : decode cX6_homeOf 5 = .ok (.aload_n 2, 1) := by decide +kernel
theorem dX6_homeOf_6 : decode cX6_homeOf 6 = .ok (.ifnull 21, 3) := by decide +kernel
theorem dX6_homeOf_9 : decode cX6_homeOf 9 = .ok (.aload_n 2, 1) := by decide +kernel
theorem dX6_homeOf_10 : decode cX6_homeOf 10 = .ok (.iload_n 1, 1) := by decide +kernel
theorem dX6_homeOf_11 : decode cX6_homeOf 11 = .ok (.invokevirtual 126, 3) := by decide +kernel
theorem dX6_homeOf_14 : decode cX6_homeOf 14 = .ok (.ifCond .eq 5, 3) := by decide +kernel
theorem dX6_homeOf_17 : decode cX6_homeOf 17 = .ok (.aload_n 2, 1) := by decide +kernel
theorem dX6_homeOf_18 : decode cX6_homeOf 18 = .ok (.areturn, 1) := by decide +kernel
theorem dX6_homeOf_19 : decode cX6_homeOf 19 = .ok (.aload_n 2, 1) := by decide +kernel
theorem dX6_homeOf_20 : decode cX6_homeOf 20 = .ok (.invokevirtual 129, 3) := by decide +kernel
theorem dX6_homeOf_23 : decode cX6_homeOf 23 = .ok (.astore_n 2, 1) := by decide +kernel
theorem dX6_homeOf_24 : decode cX6_homeOf 24 = .ok (.goto (-19), 3) := by decide +kernel
theorem dX6_homeOf_27 : decode cX6_homeOf 27 = .ok (.aload_n 0, 1) := by decide +kernel
theorem dX6_homeOf_28 : decode cX6_homeOf 28 = .ok (.getfield 14, 3) := by decide +kernel
theorem dX6_homeOf_31 : decode cX6_homeOf 31 = .ok (.areturn, 1) := by decide +kernel
theorem dX6_take_0 : decode cX6_take 0 = .ok (.aload_n 0, 1) := by decide +kernel
theorem dX6_take_1 : decode cX6_take 1 = .ok (.iload_n 1, 1) := by decide +kernel
theorem dX6_take_2 : decode cX6_take 2 = .ok (.putfield 69, 3) := by decide +kernel
theorem dX6_take_5 : decode cX6_take 5 = .ok (.aload_n 0, 1) := by decide +kernel
theorem dX6_take_6 : decode cX6_take 6 = .ok (.lload_n 2, 1) := by decide +kernel
theorem dX6_take_7 : decode cX6_take 7 = .ok (.putfield 72, 3) := by decide +kernel
theorem dX6_take_10 : decode cX6_take 10 = .ok (.aload_n 0, 1) := by decide +kernel
theorem dX6_take_11 : decode cX6_take 11 = .ok (.iload 4, 2) := by decide +kernel
theorem dX6_take_13 : decode cX6_take 13 = .ok (.putfield 80, 3) := by decide +kernel
theorem dX6_take_16 : decode cX6_take 16 = .ok (.iconst 0, 1) := by decide +kernel
theorem dX6_take_17 : decode cX6_take 17 = .ok (.ireturn, 1) := by decide +kernel
theorem dX6_takeNumber_0 : decode cX6_takeNumber 0 = .ok (.aload_n 0, 1) := by decide +kernel
theorem dX6_takeNumber_1 : decode cX6_takeNumber 1 = .ok (.iconst 0, 1) := by decide +kernel
theorem dX6_takeNumber_2 : decode cX6_takeNumber 2 = .ok (.lload_n 1, 1) := by decide +kernel
theorem dX6_takeNumber_3 : decode cX6_takeNumber 3 = .ok (.iconst 1, 1) := by decide +kernel
theorem dX6_takeNumber_4 : decode cX6_takeNumber 4 = .ok (.invokevirtual 116, 3) := by decide +kernel
theorem dX6_takeNumber_7 : decode cX6_takeNumber 7 = .ok (.ireturn, 1) := by decide +kernel
theorem dX6_workOut_0 : decode cX6_workOut 0 = .ok (.aload_n 0, 1) := by decide +kernel
theorem dX6_workOut_1 : decode cX6_workOut 1 = .ok (.getfield 43, 3) := by decide +kernel
theorem dX6_workOut_4 : decode cX6_workOut 4 = .ok (.sipush 2000, 3) := by decide +kernel
theorem dX6_workOut_7 : decode cX6_workOut 7 = .ok (.if_icmp .lt 5, 3) := by decide +kernel
theorem dX6_workOut_10 : decode cX6_workOut 10 = .ok (.iconst 2, 1) := by decide +kernel
theorem dX6_workOut_11 : decode cX6_workOut 11 = .ok (.ireturn, 1) := by decide +kernel
theorem dX6_workOut_12 : decode cX6_workOut 12 = .ok (.aload_n 0, 1) := by decide +kernel
theorem dX6_workOut_13 : decode cX6_workOut 13 = .ok (.dup, 1) := by decide +kernel
theorem dX6_workOut_14 : decode cX6_workOut 14 = .ok (.getfield 43, 3) := by decide +kernel
theorem dX6_workOut_17 : decode cX6_workOut 17 = .ok (.iconst 1, 1) := by decide +kernel
theorem dX6_workOut_18 : decode cX6_workOut 18 = .ok (.iadd, 1) := by decide +kernel
theorem dX6_workOut_19 : decode cX6_workOut 19 = .ok (.putfield 43, 3) := by decide +kernel
theorem dX6_workOut_22 : decode cX6_workOut 22 = .ok (.iconst 1, 1) := by decide +kernel
theorem dX6_workOut_23 : decode cX6_workOut 23 = .ok (.istore_n 2, 1) := by decide +kernel
theorem dX6_workOut_24 : decode cX6_workOut 24 = .ok (.aload_n 0, 1) := by decide +kernel
theorem dX6_workOut_25 : decode cX6_workOut 25 = .ok (.getfield 36, 3) := by decide +kernel
theorem dX6_workOut_28 : decode cX6_workOut 28 = .ok (.iload_n 1, 1) := by decide +kernel
theorem dX6_workOut_29 : decode cX6_workOut 29 = .ok (.invokevirtual 133, 3) := by decide +kernel
theorem dX6_workOut_32 : decode cX6_workOut 32 = .ok (.tableswitch 149 0 9 #[56, 72, 149, 81, 93, 103, 113, 122, 131, 140], 56) := by decide +kernel
theorem dX6_workOut_88 : decode cX6_workOut 88 = .ok (.aload_n 0, 1) := by decide +kernel
theorem dX6_workOut_89 : decode cX6_workOut 89 = .ok (.aload_n 0, 1) := by decide +kernel
theorem dX6_workOut_90 : decode cX6_workOut 90 = .ok (.getfield 36, 3) := by decide +kernel
theorem dX6_workOut_93 : decode cX6_workOut 93 = .ok (.iload_n 1, 1) := by decide +kernel
theorem dX6_workOut_94 : decode cX6_workOut 94 = .ok (.invokevirtual 136, 3) := by decide +kernel
theorem dX6_workOut_97 : decode cX6_workOut 97 = .ok (.invokevirtual 137, 3) := by decide +kernel
theorem dX6_workOut_100 : decode cX6_workOut 100 = .ok (.istore_n 2, 1) := by decide +kernel
theorem dX6_workOut_101 : decode cX6_workOut 101 = .ok (.goto 80, 3) := by decide +kernel
theorem dX6_workOut_104 : decode cX6_workOut 104 = .ok (.aload_n 0, 1) := by decide +kernel
theorem dX6_workOut_105 : decode cX6_workOut 105 = .ok (.iload_n 1, 1) := by decide +kernel
theorem dX6_workOut_106 : decode cX6_workOut 106 = .ok (.invokevirtual 141, 3) := by decide +kernel
theorem dX6_workOut_109 : decode cX6_workOut 109 = .ok (.istore_n 2, 1) := by decide +kernel
theorem dX6_workOut_110 : decode cX6_workOut 110 = .ok (.goto 71, 3) := by decide +kernel
theorem dX6_workOut_113 : decode cX6_workOut 113 = .ok (.aload_n 0, 1) := by decide +kernel
theorem dX6_workOut_114 : decode cX6_workOut 114 = .ok (.iconst 1, 1) := by decide +kernel
theorem dX6_workOut_115 : decode cX6_workOut 115 = .ok (.iload_n 1, 1) := by decide +kernel
theorem dX6_workOut_116 : decode cX6_workOut 116 = .ok (.i2l, 1) := by decide +kernel
theorem dX6_workOut_117 : decode cX6_workOut 117 = .ok (.iconst 1, 1) := by decide +kernel
theorem dX6_workOut_118 : decode cX6_workOut 118 = .ok (.invokevirtual 116, 3) := by decide +kernel
theorem dX6_workOut_121 : decode cX6_workOut 121 = .ok (.istore_n 2, 1) := by decide +kernel
theorem dX6_workOut_122 : decode cX6_workOut 122 = .ok (.goto 59, 3) := by decide +kernel
theorem dX6_workOut_125 : decode cX6_workOut 125 = .ok (.aload_n 0, 1) := by decide +kernel
theorem dX6_workOut_126 : decode cX6_workOut 126 = .ok (.iload_n 1, 1) := by decide +kernel
theorem dX6_workOut_127 : decode cX6_workOut 127 = .ok (.iconst 0, 1) := by decide +kernel
theorem dX6_workOut_128 : decode cX6_workOut 128 = .ok (.invokevirtual 144, 3) := by decide +kernel
theorem dX6_workOut_131 : decode cX6_workOut 131 = .ok (.istore_n 2, 1) := by decide +kernel
theorem dX6_workOut_132 : decode cX6_workOut 132 = .ok (.goto 49, 3) := by decide +kernel
theorem dX6_workOut_135 : decode cX6_workOut 135 = .ok (.aload_n 0, 1) := by decide +kernel
theorem dX6_workOut_136 : decode cX6_workOut 136 = .ok (.iload_n 1, 1) := by decide +kernel
theorem dX6_workOut_137 : decode cX6_workOut 137 = .ok (.iconst 1, 1) := by decide +kernel
theorem dX6_workOut_138 : decode cX6_workOut 138 = .ok (.invokevirtual 144, 3) := by decide +kernel
theorem dX6_workOut_141 : decode cX6_workOut 141 = .ok (.istore_n 2, 1) := by decide +kernel
theorem dX6_workOut_142 : decode cX6_workOut 142 = .ok (.goto 39, 3) := by decide +kernel
theorem dX6_workOut_145 : decode cX6_workOut 145 = .ok (.aload_n 0, 1) := by decide +kernel
theorem dX6_workOut_146 : decode cX6_workOut 146 = .ok (.iload_n 1, 1) := by decide +kernel
theorem dX6_workOut_147 : decode cX6_workOut 147 = .ok (.invokevirtual 148, 3) := by decide +kernel
theorem dX6_workOut_150 : decode cX6_workOut 150 = .ok (.istore_n 2, 1) := by decide +kernel
theorem dX6_workOut_151 : decode cX6_workOut 151 = .ok (.goto 30, 3) := by decide +kernel
theorem dX6_workOut_154 : decode cX6_workOut 154 = .ok (.aload_n 0, 1) := by decide +kernel
theorem dX6_workOut_155 : decode cX6_workOut 155 = .ok (.iload_n 1, 1) := by decide +kernel
theorem dX6_workOut_156 : decode cX6_workOut 156 = .ok (.invokevirtual 151, 3) := by decide +kernel
theorem dX6_workOut_159 : decode cX6_workOut 159 = .ok (.istore_n 2, 1) := by decide +kernel
theorem dX6_workOut_160 : decode cX6_workOut 160 = .ok (.goto 21, 3) := by decide +kernel
theorem dX6_workOut_163 : decode cX6_workOut 163 = .ok (.aload_n 0, 1) := by decide +kernel
theorem dX6_workOut_164 : decode cX6_workOut 164 = .ok (.iload_n 1, 1) := by decide +kernel
theorem dX6_workOut_165 : decode cX6_workOut 165 = .ok (.invokevirtual 154, 3) := by decide +kernel
theorem dX6_workOut_168 : decode cX6_workOut 168 = .ok (.istore_n 2, 1) := by decide +kernel
theorem dX6_workOut_169 : decode cX6_workOut 169 = .ok (.goto 12, 3) := by decide +kernel
theorem dX6_workOut_172 : decode cX6_workOut 172 = .ok (.aload_n 0, 1) := by decide +kernel
theorem dX6_workOut_173 : decode cX6_workOut 173 = .ok (.iload_n 1, 1) := by decide +kernel
theorem dX6_workOut_174 : decode cX6_workOut 174 = .ok (.invokevirtual 157, 3) := by decide +kernel
theorem dX6_workOut_177 : decode cX6_workOut 177 = .ok (.istore_n 2, 1) := by decide +kernel
theorem dX6_workOut_178 : decode cX6_workOut 178 = .ok (.goto 3, 3) := by decide +kernel
theorem dX6_workOut_181 : decode cX6_workOut 181 = .ok (.iload_n 2, 1) := by decide +kernel
theorem dX6_workOut_182 : decode cX6_workOut 182 = .ok (.ifCond .ne 23, 3) := by decide +kernel
theorem dX6_workOut_185 : decode cX6_workOut 185 = .ok (.aload_n 0, 1) := by decide +kernel
theorem dX6_workOut_186 : decode cX6_workOut 186 = .ok (.getfield 20, 3) := by decide +kernel
theorem dX6_workOut_189 : decode cX6_workOut 189 = .ok (.iload_n 1, 1) := by decide +kernel
theorem dX6_workOut_190 : decode cX6_workOut 190 = .ok (.aload_n 0, 1) := by decide +kernel
theorem dX6_workOut_191 : decode cX6_workOut 191 = .ok (.getfield 69, 3) := by decide +kernel
theorem dX6_workOut_194 : decode cX6_workOut 194 = .ok (.aload_n 0, 1) := by decide +kernel
theorem dX6_workOut_195 : decode cX6_workOut 195 = .ok (.getfield 72, 3) := by decide +kernel
theorem dX6_workOut_198 : decode cX6_workOut 198 = .ok (.aload_n 0, 1) := by decide +kernel
theorem dX6_workOut_199 : decode cX6_workOut 199 = .ok (.getfield 80, 3) := by decide +kernel
theorem dX6_workOut_202 : decode cX6_workOut 202 = .ok (.invokevirtual 160, 3) := by decide +kernel
theorem dX6_workOut_205 : decode cX6_workOut 205 = .ok (.iload_n 2, 1) := by decide +kernel
theorem dX6_workOut_206 : decode cX6_workOut 206 = .ok (.ireturn, 1) := by decide +kernel
theorem dX6_workChoice_0 : decode cX6_workChoice 0 = .ok (.aload_n 0, 1) := by decide +kernel
theorem dX6_workChoice_1 : decode cX6_workChoice 1 = .ok (.getfield 20, 3) := by decide +kernel
theorem dX6_workChoice_4 : decode cX6_workChoice 4 = .ok (.invokevirtual 164, 3) := by decide +kernel
theorem dX6_workChoice_7 : decode cX6_workChoice 7 = .ok (.istore_n 2, 1) := by decide +kernel
theorem dX6_workChoice_8 : decode cX6_workChoice 8 = .ok (.iload_n 2, 1) := by decide +kernel
theorem dX6_workChoice_9 : decode cX6_workChoice 9 = .ok (.iconst (-1), 1) := by decide +kernel
theorem dX6_workChoice_10 : decode cX6_workChoice 10 = .ok (.if_icmp .ne 5, 3) := by decide +kernel
theorem dX6_workChoice_13 : decode cX6_workChoice 13 = .ok (.iconst 3, 1) := by decide +kernel
theorem dX6_workChoice_14 : decode cX6_workChoice 14 = .ok (.ireturn, 1) := by decide +kernel
theorem dX6_workChoice_15 : decode cX6_workChoice 15 = .ok (.aload_n 0, 1) := by decide +kernel
theorem dX6_workChoice_16 : decode cX6_workChoice 16 = .ok (.iload_n 2, 1) := by decide +kernel
theorem dX6_workChoice_17 : decode cX6_workChoice 17 = .ok (.ifCond .ne 14, 3) := by decide +kernel
theorem dX6_workChoice_20 : decode cX6_workChoice 20 = .ok (.aload_n 0, 1) := by decide +kernel
theorem dX6_workChoice_21 : decode cX6_workChoice 21 = .ok (.getfield 36, 3) := by decide +kernel
theorem dX6_workChoice_24 : decode cX6_workChoice 24 = .ok (.iload_n 1, 1) := by decide +kernel
theorem dX6_workChoice_25 : decode cX6_workChoice 25 = .ok (.invokevirtual 89, 3) := by decide +kernel
theorem dX6_workChoice_28 : decode cX6_workChoice 28 = .ok (.goto 11, 3) := by decide +kernel
theorem dX6_workChoice_31 : decode cX6_workChoice 31 = .ok (.aload_n 0, 1) := by decide +kernel
theorem dX6_workChoice_32 : decode cX6_workChoice 32 = .ok (.getfield 36, 3) := by decide +kernel
theorem dX6_workChoice_35 : decode cX6_workChoice 35 = .ok (.iload_n 1, 1) := by decide +kernel
theorem dX6_workChoice_36 : decode cX6_workChoice 36 = .ok (.invokevirtual 95, 3) := by decide +kernel
theorem dX6_workChoice_39 : decode cX6_workChoice 39 = .ok (.iload_n 1, 1) := by decide +kernel
theorem dX6_workChoice_40 : decode cX6_workChoice 40 = .ok (.invokevirtual 66, 3) := by decide +kernel
theorem dX6_workChoice_43 : decode cX6_workChoice 43 = .ok (.ireturn, 1) := by decide +kernel
theorem dX6_workPart_0 : decode cX6_workPart 0 = .ok (.aload_n 0, 1) := by decide +kernel
theorem dX6_workPart_1 : decode cX6_workPart 1 = .ok (.aload_n 0, 1) := by decide +kernel
theorem dX6_workPart_2 : decode cX6_workPart 2 = .ok (.getfield 36, 3) := by decide +kernel
theorem dX6_workPart_5 : decode cX6_workPart 5 = .ok (.iload_n 1, 1) := by decide +kernel
theorem dX6_workPart_6 : decode cX6_workPart 6 = .ok (.invokevirtual 89, 3) := by decide +kernel
theorem dX6_workPart_9 : decode cX6_workPart 9 = .ok (.iload_n 1, 1) := by decide +kernel
theorem dX6_workPart_10 : decode cX6_workPart 10 = .ok (.invokevirtual 66, 3) := by decide +kernel
theorem dX6_workPart_13 : decode cX6_workPart 13 = .ok (.istore_n 3, 1) := by decide +kernel
theorem dX6_workPart_14 : decode cX6_workPart 14 = .ok (.iload_n 3, 1) := by decide +kernel
theorem dX6_workPart_15 : decode cX6_workPart 15 = .ok (.ifCond .eq 5, 3) := by decide +kernel
theorem dX6_workPart_18 : decode cX6_workPart 18 = .ok (.iload_n 3, 1) := by decide +kernel
theorem dX6_workPart_19 : decode cX6_workPart 19 = .ok (.ireturn, 1) := by decide +kernel
theorem dX6_workPart_20 : decode cX6_workPart 20 = .ok (.aload_n 0, 1) := by decide +kernel
theorem dX6_workPart_21 : decode cX6_workPart 21 = .ok (.getfield 69, 3) := by decide +kernel
theorem dX6_workPart_24 : decode cX6_workPart 24 = .ok (.iconst 1, 1) := by decide +kernel
theorem dX6_workPart_25 : decode cX6_workPart 25 = .ok (.if_icmp .eq 5, 3) := by decide +kernel
theorem dX6_workPart_28 : decode cX6_workPart 28 = .ok (.iconst 1, 1) := by decide +kernel
theorem dX6_workPart_29 : decode cX6_workPart 29 = .ok (.ireturn, 1) := by decide +kernel
theorem dX6_workPart_30 : decode cX6_workPart 30 = .ok (.aload_n 0, 1) := by decide +kernel
theorem dX6_workPart_31 : decode cX6_workPart 31 = .ok (.getfield 72, 3) := by decide +kernel
theorem dX6_workPart_34 : decode cX6_workPart 34 = .ok (.l2i, 1) := by decide +kernel
theorem dX6_workPart_35 : decode cX6_workPart 35 = .ok (.istore 4, 2) := by decide +kernel
theorem dX6_workPart_37 : decode cX6_workPart 37 = .ok (.aload_n 0, 1) := by decide +kernel
theorem dX6_workPart_38 : decode cX6_workPart 38 = .ok (.iload_n 2, 1) := by decide +kernel
theorem dX6_workPart_39 : decode cX6_workPart 39 = .ok (.ifCond .eq 15, 3) := by decide +kernel
theorem dX6_workPart_42 : decode cX6_workPart 42 = .ok (.aload_n 0, 1) := by decide +kernel
theorem dX6_workPart_43 : decode cX6_workPart 43 = .ok (.getfield 36, 3) := by decide +kernel
theorem dX6_workPart_46 : decode cX6_workPart 46 = .ok (.iload 4, 2) := by decide +kernel
theorem dX6_workPart_48 : decode cX6_workPart 48 = .ok (.invokevirtual 95, 3) := by decide +kernel
theorem dX6_workPart_51 : decode cX6_workPart 51 = .ok (.goto 12, 3) := by decide +kernel
theorem dX6_workPart_54 : decode cX6_workPart 54 = .ok (.aload_n 0, 1) := by decide +kernel
theorem dX6_workPart_55 : decode cX6_workPart 55 = .ok (.getfield 36, 3) := by decide +kernel
theorem dX6_workPart_58 : decode cX6_workPart 58 = .ok (.iload 4, 2) := by decide +kernel
theorem dX6_workPart_60 : decode cX6_workPart 60 = .ok (.invokevirtual 89, 3) := by decide +kernel
theorem dX6_workPart_63 : decode cX6_workPart 63 = .ok (.iload_n 1, 1) := by decide +kernel
theorem dX6_workPart_64 : decode cX6_workPart 64 = .ok (.invokevirtual 66, 3) := by decide +kernel
theorem dX6_workPart_67 : decode cX6_workPart 67 = .ok (.ireturn, 1) := by decide +kernel
theorem dX6_workOp_0 : decode cX6_workOp 0 = .ok (.aload_n 0, 1) := by decide +kernel
theorem dX6_workOp_1 : decode cX6_workOp 1 = .ok (.aload_n 0, 1) := by decide +kernel
theorem dX6_workOp_2 : decode cX6_workOp 2 = .ok (.getfield 36, 3) := by decide +kernel
theorem dX6_workOp_5 : decode cX6_workOp 5 = .ok (.iload_n 1, 1) := by decide +kernel
theorem dX6_workOp_6 : decode cX6_workOp 6 = .ok (.invokevirtual 89, 3) := by decide +kernel
theorem dX6_workOp_9 : decode cX6_workOp 9 = .ok (.iload_n 1, 1) := by decide +kernel
theorem dX6_workOp_10 : decode cX6_workOp 10 = .ok (.invokevirtual 66, 3) := by decide +kernel
theorem dX6_workOp_13 : decode cX6_workOp 13 = .ok (.istore_n 2, 1) := by decide +kernel
theorem dX6_workOp_14 : decode cX6_workOp 14 = .ok (.iload_n 2, 1) := by decide +kernel
theorem dX6_workOp_15 : decode cX6_workOp 15 = .ok (.ifCond .eq 5, 3) := by decide +kernel
theorem dX6_workOp_18 : decode cX6_workOp 18 = .ok (.iload_n 2, 1) := by decide +kernel
theorem dX6_workOp_19 : decode cX6_workOp 19 = .ok (.ireturn, 1) := by decide +kernel
theorem dX6_workOp_20 : decode cX6_workOp 20 = .ok (.aload_n 0, 1) := by decide +kernel
theorem dX6_workOp_21 : decode cX6_workOp 21 = .ok (.getfield 69, 3) := by decide +kernel
theorem dX6_workOp_24 : decode cX6_workOp 24 = .ok (.ifCond .eq 5, 3) := by decide +kernel
theorem dX6_workOp_27 : decode cX6_workOp 27 = .ok (.iconst 1, 1) := by decide +kernel
theorem dX6_workOp_28 : decode cX6_workOp 28 = .ok (.ireturn, 1) := by decide +kernel
theorem dX6_workOp_29 : decode cX6_workOp 29 = .ok (.aload_n 0, 1) := by decide +kernel
theorem dX6_workOp_30 : decode cX6_workOp 30 = .ok (.getfield 72, 3) := by decide +kernel
theorem dX6_workOp_33 : decode cX6_workOp 33 = .ok (.lstore_n 3, 1) := by decide +kernel
theorem dX6_workOp_34 : decode cX6_workOp 34 = .ok (.aload_n 0, 1) := by decide +kernel
theorem dX6_workOp_35 : decode cX6_workOp 35 = .ok (.aload_n 0, 1) := by decide +kernel
theorem dX6_workOp_36 : decode cX6_workOp 36 = .ok (.getfield 36, 3) := by decide +kernel
theorem dX6_workOp_39 : decode cX6_workOp 39 = .ok (.iload_n 1, 1) := by decide +kernel
theorem dX6_workOp_40 : decode cX6_workOp 40 = .ok (.invokevirtual 95, 3) := by decide +kernel
theorem dX6_workOp_43 : decode cX6_workOp 43 = .ok (.iload_n 1, 1) := by decide +kernel
theorem dX6_workOp_44 : decode cX6_workOp 44 = .ok (.invokevirtual 66, 3) := by decide +kernel
theorem dX6_workOp_47 : decode cX6_workOp 47 = .ok (.istore_n 2, 1) := by decide +kernel
theorem dX6_workOp_48 : decode cX6_workOp 48 = .ok (.iload_n 2, 1) := by decide +kernel
theorem dX6_workOp_49 : decode cX6_workOp 49 = .ok (.ifCond .eq 5, 3) := by decide +kernel
theorem dX6_workOp_52 : decode cX6_workOp 52 = .ok (.iload_n 2, 1) := by decide +kernel
theorem dX6_workOp_53 : decode cX6_workOp 53 = .ok (.ireturn, 1) := by decide +kernel
theorem dX6_workOp_54 : decode cX6_workOp 54 = .ok (.aload_n 0, 1) := by decide +kernel
theorem dX6_workOp_55 : decode cX6_workOp 55 = .ok (.getfield 69, 3) := by decide +kernel
theorem dX6_workOp_58 : decode cX6_workOp 58 = .ok (.ifCond .ne 23, 3) := by decide +kernel
theorem dX6_workOp_61 : decode cX6_workOp 61 = .ok (.aload_n 0, 1) := by decide +kernel
theorem dX6_workOp_62 : decode cX6_workOp 62 = .ok (.aload_n 0, 1) := by decide +kernel
theorem dX6_workOp_63 : decode cX6_workOp 63 = .ok (.getfield 36, 3) := by decide +kernel
theorem dX6_workOp_66 : decode cX6_workOp 66 = .ok (.iload_n 1, 1) := by decide +kernel
theorem dX6_workOp_67 : decode cX6_workOp 67 = .ok (.invokevirtual 167, 3) := by decide +kernel
theorem dX6_workOp_70 : decode cX6_workOp 70 = .ok (.lload_n 3, 1) := by decide +kernel
theorem dX6_workOp_71 : decode cX6_workOp 71 = .ok (.aload_n 0, 1) := by decide +kernel
theorem dX6_workOp_72 : decode cX6_workOp 72 = .ok (.getfield 72, 3) := by decide +kernel
theorem dX6_workOp_75 : decode cX6_workOp 75 = .ok (.invokevirtual 170, 3) := by decide +kernel
theorem dX6_workOp_78 : decode cX6_workOp 78 = .ok (.goto 4, 3) := by decide +kernel
theorem dX6_workOp_81 : decode cX6_workOp 81 = .ok (.iconst 1, 1) := by decide +kernel
theorem dX6_workOp_82 : decode cX6_workOp 82 = .ok (.ireturn, 1) := by decide +kernel
theorem dX6_reckon_0 : decode cX6_reckon 0 = .ok (.iload_n 1, 1) := by decide +kernel
theorem dX6_reckon_1 : decode cX6_reckon 1 = .ok (.tableswitch 120 0 5 #[39, 48, 57, 66, 86, 103], 39) := by decide +kernel
theorem dX6_reckon_40 : decode cX6_reckon 40 = .ok (.aload_n 0, 1) := by decide +kernel
theorem dX6_reckon_41 : decode cX6_reckon 41 = .ok (.lload_n 2, 1) := by decide +kernel
theorem dX6_reckon_42 : decode cX6_reckon 42 = .ok (.lload 4, 2) := by decide +kernel
theorem dX6_reckon_44 : decode cX6_reckon 44 = .ok (.ladd, 1) := by decide +kernel
theorem dX6_reckon_45 : decode cX6_reckon 45 = .ok (.invokevirtual 137, 3) := by decide +kernel
theorem dX6_reckon_48 : decode cX6_reckon 48 = .ok (.ireturn, 1) := by decide +kernel
theorem dX6_reckon_49 : decode cX6_reckon 49 = .ok (.aload_n 0, 1) := by decide +kernel
theorem dX6_reckon_50 : decode cX6_reckon 50 = .ok (.lload_n 2, 1) := by decide +kernel
theorem dX6_reckon_51 : decode cX6_reckon 51 = .ok (.lload 4, 2) := by decide +kernel
theorem dX6_reckon_53 : decode cX6_reckon 53 = .ok (.lsub, 1) := by decide +kernel
theorem dX6_reckon_54 : decode cX6_reckon 54 = .ok (.invokevirtual 137, 3) := by decide +kernel
theorem dX6_reckon_57 : decode cX6_reckon 57 = .ok (.ireturn, 1) := by decide +kernel
theorem dX6_reckon_58 : decode cX6_reckon 58 = .ok (.aload_n 0, 1) := by decide +kernel
theorem dX6_reckon_59 : decode cX6_reckon 59 = .ok (.lload_n 2, 1) := by decide +kernel
theorem dX6_reckon_60 : decode cX6_reckon 60 = .ok (.lload 4, 2) := by decide +kernel
theorem dX6_reckon_62 : decode cX6_reckon 62 = .ok (.lmul, 1) := by decide +kernel
theorem dX6_reckon_63 : decode cX6_reckon 63 = .ok (.invokevirtual 137, 3) := by decide +kernel
theorem dX6_reckon_66 : decode cX6_reckon 66 = .ok (.ireturn, 1) := by decide +kernel
theorem dX6_reckon_67 : decode cX6_reckon 67 = .ok (.lload 4, 2) := by decide +kernel
theorem dX6_reckon_69 : decode cX6_reckon 69 = .ok (.lconst 0, 1) := by decide +kernel
theorem dX6_reckon_70 : decode cX6_reckon 70 = .ok (.lcmp, 1) := by decide +kernel
theorem dX6_reckon_71 : decode cX6_reckon 71 = .ok (.ifCond .ne 7, 3) := by decide +kernel
theorem dX6_reckon_74 : decode cX6_reckon 74 = .ok (.iconst 1, 1) := by decide +kernel
theorem dX6_reckon_75 : decode cX6_reckon 75 = .ok (.goto 11, 3) := by decide +kernel
theorem dX6_reckon_78 : decode cX6_reckon 78 = .ok (.aload_n 0, 1) := by decide +kernel
theorem dX6_reckon_79 : decode cX6_reckon 79 = .ok (.lload_n 2, 1) := by decide +kernel
theorem dX6_reckon_80 : decode cX6_reckon 80 = .ok (.lload 4, 2) := by decide +kernel
theorem dX6_reckon_82 : decode cX6_reckon 82 = .ok (.ldiv, 1) := by decide +kernel
theorem dX6_reckon_83 : decode cX6_reckon 83 = .ok (.invokevirtual 137, 3) := by decide +kernel
theorem dX6_reckon_86 : decode cX6_reckon 86 = .ok (.ireturn, 1) := by decide +kernel
theorem dX6_reckon_87 : decode cX6_reckon 87 = .ok (.aload_n 0, 1) := by decide +kernel
theorem dX6_reckon_88 : decode cX6_reckon 88 = .ok (.lload_n 2, 1) := by decide +kernel
theorem dX6_reckon_89 : decode cX6_reckon 89 = .ok (.lload 4, 2) := by decide +kernel
theorem dX6_reckon_91 : decode cX6_reckon 91 = .ok (.lcmp, 1) := by decide +kernel
theorem dX6_reckon_92 : decode cX6_reckon 92 = .ok (.ifCond .ge 7, 3) := by decide +kernel
theorem dX6_reckon_95 : decode cX6_reckon 95 = .ok (.lconst 1, 1) := by decide +kernel
theorem dX6_reckon_96 : decode cX6_reckon 96 = .ok (.goto 4, 3) := by decide +kernel
theorem dX6_reckon_99 : decode cX6_reckon 99 = .ok (.lconst 0, 1) := by decide +kernel
theorem dX6_reckon_100 : decode cX6_reckon 100 = .ok (.invokevirtual 137, 3) := by decide +kernel
theorem dX6_reckon_103 : decode cX6_reckon 103 = .ok (.ireturn, 1) := by decide +kernel
theorem dX6_reckon_104 : decode cX6_reckon 104 = .ok (.aload_n 0, 1) := by decide +kernel
theorem dX6_reckon_105 : decode cX6_reckon 105 = .ok (.lload_n 2, 1) := by decide +kernel
theorem dX6_reckon_106 : decode cX6_reckon 106 = .ok (.lload 4, 2) := by decide +kernel
theorem dX6_reckon_108 : decode cX6_reckon 108 = .ok (.lcmp, 1) := by decide +kernel
theorem dX6_reckon_109 : decode cX6_reckon 109 = .ok (.ifCond .ne 7, 3) := by decide +kernel
theorem dX6_reckon_112 : decode cX6_reckon 112 = .ok (.lconst 1, 1) := by decide +kernel
theorem dX6_reckon_113 : decode cX6_reckon 113 = .ok (.goto 4, 3) := by decide +kernel
theorem dX6_reckon_116 : decode cX6_reckon 116 = .ok (.lconst 0, 1) := by decide +kernel
theorem dX6_reckon_117 : decode cX6_reckon 117 = .ok (.invokevirtual 137, 3) := by decide +kernel
theorem dX6_reckon_120 : decode cX6_reckon 120 = .ok (.ireturn, 1) := by decide +kernel
theorem dX6_reckon_121 : decode cX6_reckon 121 = .ok (.iconst 1, 1) := by decide +kernel
theorem dX6_reckon_122 : decode cX6_reckon 122 = .ok (.ireturn, 1) := by decide +kernel
theorem dX6_workWhen_0 : decode cX6_workWhen 0 = .ok (.aload_n 0, 1) := by decide +kernel
theorem dX6_workWhen_1 : decode cX6_workWhen 1 = .ok (.aload_n 0, 1) := by decide +kernel
theorem dX6_workWhen_2 : decode cX6_workWhen 2 = .ok (.getfield 36, 3) := by decide +kernel
theorem dX6_workWhen_5 : decode cX6_workWhen 5 = .ok (.iload_n 1, 1) := by decide +kernel
theorem dX6_workWhen_6 : decode cX6_workWhen 6 = .ok (.invokevirtual 89, 3) := by decide +kernel
theorem dX6_workWhen_9 : decode cX6_workWhen 9 = .ok (.iload_n 1, 1) := by decide +kernel
theorem dX6_workWhen_10 : decode cX6_workWhen 10 = .ok (.invokevirtual 66, 3) := by decide +kernel
theorem dX6_workWhen_13 : decode cX6_workWhen 13 = .ok (.istore_n 2, 1) := by decide +kernel
theorem dX6_workWhen_14 : decode cX6_workWhen 14 = .ok (.iload_n 2, 1) := by decide +kernel
theorem dX6_workWhen_15 : decode cX6_workWhen 15 = .ok (.ifCond .eq 5, 3) := by decide +kernel
theorem dX6_workWhen_18 : decode cX6_workWhen 18 = .ok (.iload_n 2, 1) := by decide +kernel
theorem dX6_workWhen_19 : decode cX6_workWhen 19 = .ok (.ireturn, 1) := by decide +kernel
theorem dX6_workWhen_20 : decode cX6_workWhen 20 = .ok (.aload_n 0, 1) := by decide +kernel
theorem dX6_workWhen_21 : decode cX6_workWhen 21 = .ok (.getfield 69, 3) := by decide +kernel
theorem dX6_workWhen_24 : decode cX6_workWhen 24 = .ok (.ifCond .eq 5, 3) := by decide +kernel
theorem dX6_workWhen_27 : decode cX6_workWhen 27 = .ok (.iconst 1, 1) := by decide +kernel
theorem dX6_workWhen_28 : decode cX6_workWhen 28 = .ok (.ireturn, 1) := by decide +kernel
theorem dX6_workWhen_29 : decode cX6_workWhen 29 = .ok (.aload_n 0, 1) := by decide +kernel
theorem dX6_workWhen_30 : decode cX6_workWhen 30 = .ok (.aload_n 0, 1) := by decide +kernel
theorem dX6_workWhen_31 : decode cX6_workWhen 31 = .ok (.getfield 72, 3) := by decide +kernel
theorem dX6_workWhen_34 : decode cX6_workWhen 34 = .ok (.lconst 0, 1) := by decide +kernel
theorem dX6_workWhen_35 : decode cX6_workWhen 35 = .ok (.lcmp, 1) := by decide +kernel
theorem dX6_workWhen_36 : decode cX6_workWhen 36 = .ok (.ifCond .eq 14, 3) := by decide +kernel
theorem dX6_workWhen_39 : decode cX6_workWhen 39 = .ok (.aload_n 0, 1) := by decide +kernel
theorem dX6_workWhen_40 : decode cX6_workWhen 40 = .ok (.getfield 36, 3) := by decide +kernel
theorem dX6_workWhen_43 : decode cX6_workWhen 43 = .ok (.iload_n 1, 1) := by decide +kernel
theorem dX6_workWhen_44 : decode cX6_workWhen 44 = .ok (.invokevirtual 95, 3) := by decide +kernel
theorem dX6_workWhen_47 : decode cX6_workWhen 47 = .ok (.goto 11, 3) := by decide +kernel
theorem dX6_workWhen_50 : decode cX6_workWhen 50 = .ok (.aload_n 0, 1) := by decide +kernel
theorem dX6_workWhen_51 : decode cX6_workWhen 51 = .ok (.getfield 36, 3) := by decide +kernel
theorem dX6_workWhen_54 : decode cX6_workWhen 54 = .ok (.iload_n 1, 1) := by decide +kernel
theorem dX6_workWhen_55 : decode cX6_workWhen 55 = .ok (.invokevirtual 167, 3) := by decide +kernel
theorem dX6_workWhen_58 : decode cX6_workWhen 58 = .ok (.iload_n 1, 1) := by decide +kernel
theorem dX6_workWhen_59 : decode cX6_workWhen 59 = .ok (.invokevirtual 66, 3) := by decide +kernel
theorem dX6_workWhen_62 : decode cX6_workWhen 62 = .ok (.ireturn, 1) := by decide +kernel
theorem dX6_workFold_0 : decode cX6_workFold 0 = .ok (.aload_n 0, 1) := by decide +kernel
theorem dX6_workFold_1 : decode cX6_workFold 1 = .ok (.aload_n 0, 1) := by decide +kernel
theorem dX6_workFold_2 : decode cX6_workFold 2 = .ok (.getfield 36, 3) := by decide +kernel
theorem dX6_workFold_5 : decode cX6_workFold 5 = .ok (.iload_n 1, 1) := by decide +kernel
theorem dX6_workFold_6 : decode cX6_workFold 6 = .ok (.invokevirtual 89, 3) := by decide +kernel
theorem dX6_workFold_9 : decode cX6_workFold 9 = .ok (.iload_n 1, 1) := by decide +kernel
theorem dX6_workFold_10 : decode cX6_workFold 10 = .ok (.invokevirtual 66, 3) := by decide +kernel
theorem dX6_workFold_13 : decode cX6_workFold 13 = .ok (.istore_n 2, 1) := by decide +kernel
theorem dX6_workFold_14 : decode cX6_workFold 14 = .ok (.iload_n 2, 1) := by decide +kernel
theorem dX6_workFold_15 : decode cX6_workFold 15 = .ok (.ifCond .eq 5, 3) := by decide +kernel
theorem dX6_workFold_18 : decode cX6_workFold 18 = .ok (.iload_n 2, 1) := by decide +kernel
theorem dX6_workFold_19 : decode cX6_workFold 19 = .ok (.ireturn, 1) := by decide +kernel
theorem dX6_workFold_20 : decode cX6_workFold 20 = .ok (.aload_n 0, 1) := by decide +kernel
theorem dX6_workFold_21 : decode cX6_workFold 21 = .ok (.getfield 69, 3) := by decide +kernel
theorem dX6_workFold_24 : decode cX6_workFold 24 = .ok (.iconst 2, 1) := by decide +kernel
theorem dX6_workFold_25 : decode cX6_workFold 25 = .ok (.if_icmp .eq 5, 3) := by decide +kernel
theorem dX6_workFold_28 : decode cX6_workFold 28 = .ok (.iconst 1, 1) := by decide +kernel
theorem dX6_workFold_29 : decode cX6_workFold 29 = .ok (.ireturn, 1) := by decide +kernel
theorem dX6_workFold_30 : decode cX6_workFold 30 = .ok (.aload_n 0, 1) := by decide +kernel
theorem dX6_workFold_31 : decode cX6_workFold 31 = .ok (.getfield 72, 3) := by decide +kernel
theorem dX6_workFold_34 : decode cX6_workFold 34 = .ok (.l2i, 1) := by decide +kernel
theorem dX6_workFold_35 : decode cX6_workFold 35 = .ok (.istore_n 3, 1) := by decide +kernel
theorem dX6_workFold_36 : decode cX6_workFold 36 = .ok (.aload_n 0, 1) := by decide +kernel
theorem dX6_workFold_37 : decode cX6_workFold 37 = .ok (.getfield 36, 3) := by decide +kernel
theorem dX6_workFold_40 : decode cX6_workFold 40 = .ok (.iload_n 1, 1) := by decide +kernel
theorem dX6_workFold_41 : decode cX6_workFold 41 = .ok (.invokevirtual 95, 3) := by decide +kernel
theorem dX6_workFold_44 : decode cX6_workFold 44 = .ok (.istore 4, 2) := by decide +kernel
theorem dX6_workFold_46 : decode cX6_workFold 46 = .ok (.iload 4, 2) := by decide +kernel
theorem dX6_workFold_48 : decode cX6_workFold 48 = .ok (.ifCond .ne 16, 3) := by decide +kernel
theorem dX6_workFold_51 : decode cX6_workFold 51 = .ok (.aload_n 0, 1) := by decide +kernel
theorem dX6_workFold_52 : decode cX6_workFold 52 = .ok (.aload_n 0, 1) := by decide +kernel
theorem dX6_workFold_53 : decode cX6_workFold 53 = .ok (.getfield 29, 3) := by decide +kernel
theorem dX6_workFold_56 : decode cX6_workFold 56 = .ok (.iload_n 3, 1) := by decide +kernel
theorem dX6_workFold_57 : decode cX6_workFold 57 = .ok (.invokevirtual 174, 3) := by decide +kernel
theorem dX6_workFold_60 : decode cX6_workFold 60 = .ok (.invokevirtual 137, 3) := by decide +kernel
theorem dX6_workFold_63 : decode cX6_workFold 63 = .ok (.ireturn, 1) := by decide +kernel
theorem dX6_workFold_64 : decode cX6_workFold 64 = .ok (.aload_n 0, 1) := by decide +kernel
theorem dX6_workFold_65 : decode cX6_workFold 65 = .ok (.iload 4, 2) := by decide +kernel
theorem dX6_workFold_67 : decode cX6_workFold 67 = .ok (.iload_n 3, 1) := by decide +kernel
theorem dX6_workFold_68 : decode cX6_workFold 68 = .ok (.iconst 1, 1) := by decide +kernel
theorem dX6_workFold_69 : decode cX6_workFold 69 = .ok (.iadd, 1) := by decide +kernel
theorem dX6_workFold_70 : decode cX6_workFold 70 = .ok (.iload_n 3, 1) := by decide +kernel
theorem dX6_workFold_71 : decode cX6_workFold 71 = .ok (.aload_n 0, 1) := by decide +kernel
theorem dX6_workFold_72 : decode cX6_workFold 72 = .ok (.getfield 80, 3) := by decide +kernel
theorem dX6_workFold_75 : decode cX6_workFold 75 = .ok (.iadd, 1) := by decide +kernel
theorem dX6_workFold_76 : decode cX6_workFold 76 = .ok (.invokevirtual 177, 3) := by decide +kernel
theorem dX6_workFold_79 : decode cX6_workFold 79 = .ok (.ireturn, 1) := by decide +kernel
theorem dX6_foldNumbers_0 : decode cX6_foldNumbers 0 = .ok (.lconst 0, 1) := by decide +kernel
theorem dX6_foldNumbers_1 : decode cX6_foldNumbers 1 = .ok (.lstore 4, 2) := by decide +kernel
theorem dX6_foldNumbers_3 : decode cX6_foldNumbers 3 = .ok (.ldc2_w 183, 3) := by decide +kernel
theorem dX6_foldNumbers_6 : decode cX6_foldNumbers 6 = .ok (.lstore 6, 2) := by decide +kernel
theorem dX6_foldNumbers_8 : decode cX6_foldNumbers 8 = .ok (.iload_n 2, 1) := by decide +kernel
theorem dX6_foldNumbers_9 : decode cX6_foldNumbers 9 = .ok (.istore 8, 2) := by decide +kernel
theorem dX6_foldNumbers_11 : decode cX6_foldNumbers 11 = .ok (.iload 8, 2) := by decide +kernel
theorem dX6_foldNumbers_13 : decode cX6_foldNumbers 13 = .ok (.iload_n 3, 1) := by decide +kernel
theorem dX6_foldNumbers_14 : decode cX6_foldNumbers 14 = .ok (.if_icmp .ge 53, 3) := by decide +kernel
theorem dX6_foldNumbers_17 : decode cX6_foldNumbers 17 = .ok (.aload_n 0, 1) := by decide +kernel
theorem dX6_foldNumbers_18 : decode cX6_foldNumbers 18 = .ok (.getfield 29, 3) := by decide +kernel
theorem dX6_foldNumbers_21 : decode cX6_foldNumbers 21 = .ok (.iload 8, 2) := by decide +kernel
theorem dX6_foldNumbers_23 : decode cX6_foldNumbers 23 = .ok (.invokevirtual 185, 3) := by decide +kernel
theorem dX6_foldNumbers_26 : decode cX6_foldNumbers 26 = .ok (.ifCond .eq 5, 3) := by decide +kernel
theorem dX6_foldNumbers_29 : decode cX6_foldNumbers 29 = .ok (.iconst 1, 1) := by decide +kernel
theorem dX6_foldNumbers_30 : decode cX6_foldNumbers 30 = .ok (.ireturn, 1) := by decide +kernel
theorem dX6_foldNumbers_31 : decode cX6_foldNumbers 31 = .ok (.lload 4, 2) := by decide +kernel
theorem dX6_foldNumbers_33 : decode cX6_foldNumbers 33 = .ok (.aload_n 0, 1) := by decide +kernel
theorem dX6_foldNumbers_34 : decode cX6_foldNumbers 34 = .ok (.getfield 29, 3) := by decide +kernel
theorem dX6_foldNumbers_37 : decode cX6_foldNumbers 37 = .ok (.iload 8, 2) := by decide +kernel
theorem dX6_foldNumbers_39 : decode cX6_foldNumbers 39 = .ok (.invokevirtual 174, 3) := by decide +kernel
theorem dX6_foldNumbers_42 : decode cX6_foldNumbers 42 = .ok (.ladd, 1) := by decide +kernel
theorem dX6_foldNumbers_43 : decode cX6_foldNumbers 43 = .ok (.lstore 4, 2) := by decide +kernel
theorem dX6_foldNumbers_45 : decode cX6_foldNumbers 45 = .ok (.lload 6, 2) := by decide +kernel
theorem dX6_foldNumbers_47 : decode cX6_foldNumbers 47 = .ok (.aload_n 0, 1) := by decide +kernel
theorem dX6_foldNumbers_48 : decode cX6_foldNumbers 48 = .ok (.getfield 29, 3) := by decide +kernel
theorem dX6_foldNumbers_51 : decode cX6_foldNumbers 51 = .ok (.iload 8, 2) := by decide +kernel
theorem dX6_foldNumbers_53 : decode cX6_foldNumbers 53 = .ok (.invokevirtual 174, 3) := by decide +kernel
theorem dX6_foldNumbers_56 : decode cX6_foldNumbers 56 = .ok (.invokestatic 188, 3) := by decide +kernel
theorem dX6_foldNumbers_59 : decode cX6_foldNumbers 59 = .ok (.lstore 6, 2) := by decide +kernel
theorem dX6_foldNumbers_61 : decode cX6_foldNumbers 61 = .ok (.iinc 8 1, 3) := by decide +kernel
theorem dX6_foldNumbers_64 : decode cX6_foldNumbers 64 = .ok (.goto (-53), 3) := by decide +kernel
theorem dX6_foldNumbers_67 : decode cX6_foldNumbers 67 = .ok (.iload_n 1, 1) := by decide +kernel
theorem dX6_foldNumbers_68 : decode cX6_foldNumbers 68 = .ok (.iconst 1, 1) := by decide +kernel
theorem dX6_foldNumbers_69 : decode cX6_foldNumbers 69 = .ok (.if_icmp .ne 10, 3) := by decide +kernel
theorem dX6_foldNumbers_72 : decode cX6_foldNumbers 72 = .ok (.aload_n 0, 1) := by decide +kernel
theorem dX6_foldNumbers_73 : decode cX6_foldNumbers 73 = .ok (.lload 4, 2) := by decide +kernel
theorem dX6_foldNumbers_75 : decode cX6_foldNumbers 75 = .ok (.invokevirtual 137, 3) := by decide +kernel
theorem dX6_foldNumbers_78 : decode cX6_foldNumbers 78 = .ok (.ireturn, 1) := by decide +kernel
theorem dX6_foldNumbers_79 : decode cX6_foldNumbers 79 = .ok (.iload_n 2, 1) := by decide +kernel
theorem dX6_foldNumbers_80 : decode cX6_foldNumbers 80 = .ok (.iload_n 3, 1) := by decide +kernel
theorem dX6_foldNumbers_81 : decode cX6_foldNumbers 81 = .ok (.if_icmp .ge 12, 3) := by decide +kernel
theorem dX6_foldNumbers_84 : decode cX6_foldNumbers 84 = .ok (.aload_n 0, 1) := by decide +kernel
theorem dX6_foldNumbers_85 : decode cX6_foldNumbers 85 = .ok (.lload 6, 2) := by decide +kernel
theorem dX6_foldNumbers_87 : decode cX6_foldNumbers 87 = .ok (.invokevirtual 137, 3) := by decide +kernel
theorem dX6_foldNumbers_90 : decode cX6_foldNumbers 90 = .ok (.goto 4, 3) := by decide +kernel
theorem dX6_foldNumbers_93 : decode cX6_foldNumbers 93 = .ok (.iconst 1, 1) := by decide +kernel
theorem dX6_foldNumbers_94 : decode cX6_foldNumbers 94 = .ok (.ireturn, 1) := by decide +kernel
theorem dX6_workSet_0 : decode cX6_workSet 0 = .ok (.aload_n 0, 1) := by decide +kernel
theorem dX6_workSet_1 : decode cX6_workSet 1 = .ok (.getfield 20, 3) := by decide +kernel
theorem dX6_workSet_4 : decode cX6_workSet 4 = .ok (.astore_n 2, 1) := by decide +kernel
theorem dX6_workSet_5 : decode cX6_workSet 5 = .ok (.aload_n 2, 1) := by decide +kernel
theorem dX6_workSet_6 : decode cX6_workSet 6 = .ok (.invokevirtual 194, 3) := by decide +kernel
theorem dX6_workSet_9 : decode cX6_workSet 9 = .ok (.astore_n 3, 1) := by decide +kernel
theorem dX6_workSet_10 : decode cX6_workSet 10 = .ok (.aload_n 3, 1) := by decide +kernel
theorem dX6_workSet_11 : decode cX6_workSet 11 = .ok (.ifnonnull 5, 3) := by decide +kernel
theorem dX6_workSet_14 : decode cX6_workSet 14 = .ok (.iconst 2, 1) := by decide +kernel
theorem dX6_workSet_15 : decode cX6_workSet 15 = .ok (.ireturn, 1) := by decide +kernel
theorem dX6_workSet_16 : decode cX6_workSet 16 = .ok (.iconst 0, 1) := by decide +kernel
theorem dX6_workSet_17 : decode cX6_workSet 17 = .ok (.istore 4, 2) := by decide +kernel
theorem dX6_workSet_19 : decode cX6_workSet 19 = .ok (.iload 4, 2) := by decide +kernel
theorem dX6_workSet_21 : decode cX6_workSet 21 = .ok (.bipush 60, 2) := by decide +kernel
theorem dX6_workSet_23 : decode cX6_workSet 23 = .ok (.if_icmp .gt 97, 3) := by decide +kernel
theorem dX6_workSet_26 : decode cX6_workSet 26 = .ok (.aload_n 0, 1) := by decide +kernel
theorem dX6_workSet_27 : decode cX6_workSet 27 = .ok (.getfield 29, 3) := by decide +kernel
theorem dX6_workSet_30 : decode cX6_workSet 30 = .ok (.invokevirtual 197, 3) := by decide +kernel
theorem dX6_workSet_33 : decode cX6_workSet 33 = .ok (.istore 5, 2) := by decide +kernel
theorem dX6_workSet_35 : decode cX6_workSet 35 = .ok (.aload_n 0, 1) := by decide +kernel
theorem dX6_workSet_36 : decode cX6_workSet 36 = .ok (.aload_n 3, 1) := by decide +kernel
theorem dX6_workSet_37 : decode cX6_workSet 37 = .ok (.putfield 20, 3) := by decide +kernel
theorem dX6_workSet_40 : decode cX6_workSet 40 = .ok (.aload_n 0, 1) := by decide +kernel
theorem dX6_workSet_41 : decode cX6_workSet 41 = .ok (.iload_n 1, 1) := by decide +kernel
theorem dX6_workSet_42 : decode cX6_workSet 42 = .ok (.aload_n 3, 1) := by decide +kernel
theorem dX6_workSet_43 : decode cX6_workSet 43 = .ok (.iload 5, 2) := by decide +kernel
theorem dX6_workSet_45 : decode cX6_workSet 45 = .ok (.invokevirtual 200, 3) := by decide +kernel
theorem dX6_workSet_48 : decode cX6_workSet 48 = .ok (.istore 6, 2) := by decide +kernel
theorem dX6_workSet_50 : decode cX6_workSet 50 = .ok (.aload_n 0, 1) := by decide +kernel
theorem dX6_workSet_51 : decode cX6_workSet 51 = .ok (.aload_n 2, 1) := by decide +kernel
theorem dX6_workSet_52 : decode cX6_workSet 52 = .ok (.putfield 20, 3) := by decide +kernel
theorem dX6_workSet_55 : decode cX6_workSet 55 = .ok (.aload_n 0, 1) := by decide +kernel
theorem dX6_workSet_56 : decode cX6_workSet 56 = .ok (.getfield 29, 3) := by decide +kernel
theorem dX6_workSet_59 : decode cX6_workSet 59 = .ok (.iload 5, 2) := by decide +kernel
theorem dX6_workSet_61 : decode cX6_workSet 61 = .ok (.invokevirtual 55, 3) := by decide +kernel
theorem dX6_workSet_64 : decode cX6_workSet 64 = .ok (.iload 6, 2) := by decide +kernel
theorem dX6_workSet_66 : decode cX6_workSet 66 = .ok (.ifCond .ne 12, 3) := by decide +kernel
theorem dX6_workSet_69 : decode cX6_workSet 69 = .ok (.aload_n 0, 1) := by decide +kernel
theorem dX6_workSet_70 : decode cX6_workSet 70 = .ok (.aload_n 3, 1) := by decide +kernel
theorem dX6_workSet_71 : decode cX6_workSet 71 = .ok (.invokevirtual 51, 3) := by decide +kernel
theorem dX6_workSet_74 : decode cX6_workSet 74 = .ok (.invokevirtual 204, 3) := by decide +kernel
theorem dX6_workSet_77 : decode cX6_workSet 77 = .ok (.ireturn, 1) := by decide +kernel
theorem dX6_workSet_78 : decode cX6_workSet 78 = .ok (.iload 6, 2) := by decide +kernel
theorem dX6_workSet_80 : decode cX6_workSet 80 = .ok (.iconst 4, 1) := by decide +kernel
theorem dX6_workSet_81 : decode cX6_workSet 81 = .ok (.if_icmp .ne 11, 3) := by decide +kernel
theorem dX6_workSet_84 : decode cX6_workSet 84 = .ok (.aload_n 0, 1) := by decide +kernel
theorem dX6_workSet_85 : decode cX6_workSet 85 = .ok (.getfield 33, 3) := by decide +kernel
theorem dX6_workSet_88 : decode cX6_workSet 88 = .ok (.aload_n 2, 1) := by decide +kernel
theorem dX6_workSet_89 : decode cX6_workSet 89 = .ok (.if_acmp .eq 6, 3) := by decide +kernel
theorem dX6_workSet_92 : decode cX6_workSet 92 = .ok (.iload 6, 2) := by decide +kernel
theorem dX6_workSet_94 : decode cX6_workSet 94 = .ok (.ireturn, 1) := by decide +kernel
theorem dX6_workSet_95 : decode cX6_workSet 95 = .ok (.aload_n 0, 1) := by decide +kernel
theorem dX6_workSet_96 : decode cX6_workSet 96 = .ok (.aload_n 0, 1) := by decide +kernel
theorem dX6_workSet_97 : decode cX6_workSet 97 = .ok (.getfield 120, 3) := by decide +kernel
theorem dX6_workSet_100 : decode cX6_workSet 100 = .ok (.iload_n 1, 1) := by decide +kernel
theorem dX6_workSet_101 : decode cX6_workSet 101 = .ok (.invokevirtual 66, 3) := by decide +kernel
theorem dX6_workSet_104 : decode cX6_workSet 104 = .ok (.istore 6, 2) := by decide +kernel
theorem dX6_workSet_106 : decode cX6_workSet 106 = .ok (.iload 6, 2) := by decide +kernel
theorem dX6_workSet_108 : decode cX6_workSet 108 = .ok (.ifCond .eq 6, 3) := by decide +kernel
theorem dX6_workSet_111 : decode cX6_workSet 111 = .ok (.iload 6, 2) := by decide +kernel
theorem dX6_workSet_113 : decode cX6_workSet 113 = .ok (.ireturn, 1) := by decide +kernel
theorem dX6_workSet_114 : decode cX6_workSet 114 = .ok (.iinc 4 1, 3) := by decide +kernel
theorem dX6_workSet_117 : decode cX6_workSet 117 = .ok (.goto (-98), 3) := by decide +kernel
theorem dX6_workSet_120 : decode cX6_workSet 120 = .ok (.iconst 2, 1) := by decide +kernel
theorem dX6_workSet_121 : decode cX6_workSet 121 = .ok (.ireturn, 1) := by decide +kernel
theorem dX6_goWaysOfSet_0 : decode cX6_goWaysOfSet 0 = .ok (.aload_n 2, 1) := by decide +kernel
theorem dX6_goWaysOfSet_1 : decode cX6_goWaysOfSet 1 = .ok (.aload_n 0, 1) := by decide +kernel
theorem dX6_goWaysOfSet_2 : decode cX6_goWaysOfSet 2 = .ok (.getfield 36, 3) := by decide +kernel
theorem dX6_goWaysOfSet_5 : decode cX6_goWaysOfSet 5 = .ok (.iload_n 1, 1) := by decide +kernel
theorem dX6_goWaysOfSet_6 : decode cX6_goWaysOfSet 6 = .ok (.invokevirtual 95, 3) := by decide +kernel
theorem dX6_goWaysOfSet_9 : decode cX6_goWaysOfSet 9 = .ok (.invokevirtual 208, 3) := by decide +kernel
theorem dX6_goWaysOfSet_12 : decode cX6_goWaysOfSet 12 = .ok (.iconst 0, 1) := by decide +kernel
theorem dX6_goWaysOfSet_13 : decode cX6_goWaysOfSet 13 = .ok (.istore 4, 2) := by decide +kernel
theorem dX6_goWaysOfSet_15 : decode cX6_goWaysOfSet 15 = .ok (.iload 4, 2) := by decide +kernel
theorem dX6_goWaysOfSet_17 : decode cX6_goWaysOfSet 17 = .ok (.sipush 2000, 3) := by decide +kernel
theorem dX6_goWaysOfSet_20 : decode cX6_goWaysOfSet 20 = .ok (.if_icmp .gt 83, 3) := by decide +kernel
theorem dX6_goWaysOfSet_23 : decode cX6_goWaysOfSet 23 = .ok (.aload_n 0, 1) := by decide +kernel
theorem dX6_goWaysOfSet_24 : decode cX6_goWaysOfSet 24 = .ok (.aload_n 0, 1) := by decide +kernel
theorem dX6_goWaysOfSet_25 : decode cX6_goWaysOfSet 25 = .ok (.getfield 36, 3) := by decide +kernel
theorem dX6_goWaysOfSet_28 : decode cX6_goWaysOfSet 28 = .ok (.iload_n 1, 1) := by decide +kernel
theorem dX6_goWaysOfSet_29 : decode cX6_goWaysOfSet 29 = .ok (.invokevirtual 89, 3) := by decide +kernel
theorem dX6_goWaysOfSet_32 : decode cX6_goWaysOfSet 32 = .ok (.iload_n 1, 1) := by decide +kernel
theorem dX6_goWaysOfSet_33 : decode cX6_goWaysOfSet 33 = .ok (.invokevirtual 62, 3) := by decide +kernel
theorem dX6_goWaysOfSet_36 : decode cX6_goWaysOfSet 36 = .ok (.istore 5, 2) := by decide +kernel
theorem dX6_goWaysOfSet_38 : decode cX6_goWaysOfSet 38 = .ok (.iload 5, 2) := by decide +kernel
theorem dX6_goWaysOfSet_40 : decode cX6_goWaysOfSet 40 = .ok (.ifCond .ne 24, 3) := by decide +kernel
theorem dX6_goWaysOfSet_43 : decode cX6_goWaysOfSet 43 = .ok (.aload_n 2, 1) := by decide +kernel
theorem dX6_goWaysOfSet_44 : decode cX6_goWaysOfSet 44 = .ok (.invokevirtual 51, 3) := by decide +kernel
theorem dX6_goWaysOfSet_47 : decode cX6_goWaysOfSet 47 = .ok (.invokevirtual 197, 3) := by decide +kernel
theorem dX6_goWaysOfSet_50 : decode cX6_goWaysOfSet 50 = .ok (.bipush 100, 2) := by decide +kernel
theorem dX6_goWaysOfSet_52 : decode cX6_goWaysOfSet 52 = .ok (.if_icmp .le 5, 3) := by decide +kernel
theorem dX6_goWaysOfSet_55 : decode cX6_goWaysOfSet 55 = .ok (.iconst 2, 1) := by decide +kernel
theorem dX6_goWaysOfSet_56 : decode cX6_goWaysOfSet 56 = .ok (.ireturn, 1) := by decide +kernel
theorem dX6_goWaysOfSet_57 : decode cX6_goWaysOfSet 57 = .ok (.aload_n 2, 1) := by decide +kernel
theorem dX6_goWaysOfSet_58 : decode cX6_goWaysOfSet 58 = .ok (.invokevirtual 211, 3) := by decide +kernel
theorem dX6_goWaysOfSet_61 : decode cX6_goWaysOfSet 61 = .ok (.goto 19, 3) := by decide +kernel
theorem dX6_goWaysOfSet_64 : decode cX6_goWaysOfSet 64 = .ok (.iload 5, 2) := by decide +kernel
theorem dX6_goWaysOfSet_66 : decode cX6_goWaysOfSet 66 = .ok (.iconst 1, 1) := by decide +kernel
theorem dX6_goWaysOfSet_67 : decode cX6_goWaysOfSet 67 = .ok (.if_icmp .ne 10, 3) := by decide +kernel
theorem dX6_goWaysOfSet_70 : decode cX6_goWaysOfSet 70 = .ok (.aload_n 2, 1) := by decide +kernel
theorem dX6_goWaysOfSet_71 : decode cX6_goWaysOfSet 71 = .ok (.invokevirtual 214, 3) := by decide +kernel
theorem dX6_goWaysOfSet_74 : decode cX6_goWaysOfSet 74 = .ok (.goto 6, 3) := by decide +kernel
theorem dX6_goWaysOfSet_77 : decode cX6_goWaysOfSet 77 = .ok (.iload 5, 2) := by decide +kernel
theorem dX6_goWaysOfSet_79 : decode cX6_goWaysOfSet 79 = .ok (.ireturn, 1) := by decide +kernel
theorem dX6_goWaysOfSet_80 : decode cX6_goWaysOfSet 80 = .ok (.aload_n 0, 1) := by decide +kernel
theorem dX6_goWaysOfSet_81 : decode cX6_goWaysOfSet 81 = .ok (.getfield 29, 3) := by decide +kernel
theorem dX6_goWaysOfSet_84 : decode cX6_goWaysOfSet 84 = .ok (.iload_n 3, 1) := by decide +kernel
theorem dX6_goWaysOfSet_85 : decode cX6_goWaysOfSet 85 = .ok (.invokevirtual 55, 3) := by decide +kernel
theorem dX6_goWaysOfSet_88 : decode cX6_goWaysOfSet 88 = .ok (.aload_n 2, 1) := by decide +kernel
theorem dX6_goWaysOfSet_89 : decode cX6_goWaysOfSet 89 = .ok (.invokevirtual 217, 3) := by decide +kernel
theorem dX6_goWaysOfSet_92 : decode cX6_goWaysOfSet 92 = .ok (.ifCond .ne 5, 3) := by decide +kernel
theorem dX6_goWaysOfSet_95 : decode cX6_goWaysOfSet 95 = .ok (.iconst 0, 1) := by decide +kernel
theorem dX6_goWaysOfSet_96 : decode cX6_goWaysOfSet 96 = .ok (.ireturn, 1) := by decide +kernel
theorem dX6_goWaysOfSet_97 : decode cX6_goWaysOfSet 97 = .ok (.iinc 4 1, 3) := by decide +kernel
theorem dX6_goWaysOfSet_100 : decode cX6_goWaysOfSet 100 = .ok (.goto (-85), 3) := by decide +kernel
theorem dX6_goWaysOfSet_103 : decode cX6_goWaysOfSet 103 = .ok (.iconst 2, 1) := by decide +kernel
theorem dX6_goWaysOfSet_104 : decode cX6_goWaysOfSet 104 = .ok (.ireturn, 1) := by decide +kernel
theorem dX6_takeList_0 : decode cX6_takeList 0 = .ok (.aload_n 0, 1) := by decide +kernel
theorem dX6_takeList_1 : decode cX6_takeList 1 = .ok (.getfield 29, 3) := by decide +kernel
theorem dX6_takeList_4 : decode cX6_takeList 4 = .ok (.invokevirtual 197, 3) := by decide +kernel
theorem dX6_takeList_7 : decode cX6_takeList 7 = .ok (.istore_n 2, 1) := by decide +kernel
theorem dX6_takeList_8 : decode cX6_takeList 8 = .ok (.aload_n 1, 1) := by decide +kernel
theorem dX6_takeList_9 : decode cX6_takeList 9 = .ok (.invokevirtual 197, 3) := by decide +kernel
theorem dX6_takeList_12 : decode cX6_takeList 12 = .ok (.istore_n 3, 1) := by decide +kernel
theorem dX6_takeList_13 : decode cX6_takeList 13 = .ok (.aload_n 0, 1) := by decide +kernel
theorem dX6_takeList_14 : decode cX6_takeList 14 = .ok (.getfield 29, 3) := by decide +kernel
theorem dX6_takeList_17 : decode cX6_takeList 17 = .ok (.aload_n 1, 1) := by decide +kernel
theorem dX6_takeList_18 : decode cX6_takeList 18 = .ok (.iconst 0, 1) := by decide +kernel
theorem dX6_takeList_19 : decode cX6_takeList 19 = .ok (.iload_n 3, 1) := by decide +kernel
theorem dX6_takeList_20 : decode cX6_takeList 20 = .ok (.invokevirtual 221, 3) := by decide +kernel
theorem dX6_takeList_23 : decode cX6_takeList 23 = .ok (.ifCond .eq 14, 3) := by decide +kernel
theorem dX6_takeList_26 : decode cX6_takeList 26 = .ok (.aload_n 0, 1) := by decide +kernel
theorem dX6_takeList_27 : decode cX6_takeList 27 = .ok (.iconst 2, 1) := by decide +kernel
theorem dX6_takeList_28 : decode cX6_takeList 28 = .ok (.iload_n 2, 1) := by decide +kernel
theorem dX6_takeList_29 : decode cX6_takeList 29 = .ok (.i2l, 1) := by decide +kernel
theorem dX6_takeList_30 : decode cX6_takeList 30 = .ok (.iload_n 3, 1) := by decide +kernel
theorem dX6_takeList_31 : decode cX6_takeList 31 = .ok (.invokevirtual 116, 3) := by decide +kernel
theorem dX6_takeList_34 : decode cX6_takeList 34 = .ok (.goto 4, 3) := by decide +kernel
theorem dX6_takeList_37 : decode cX6_takeList 37 = .ok (.iconst 2, 1) := by decide +kernel
theorem dX6_takeList_38 : decode cX6_takeList 38 = .ok (.ireturn, 1) := by decide +kernel
theorem dX7_init_0 : decode cX7_init 0 = .ok (.aload_n 0, 1) := by decide +kernel
theorem dX7_init_1 : decode cX7_init 1 = .ok (.invokespecial 1, 3) := by decide +kernel
theorem dX7_init_4 : decode cX7_init 4 = .ok (.new 7, 3) := by decide +kernel
theorem dX7_init_7 : decode cX7_init 7 = .ok (.dup, 1) := by decide +kernel
theorem dX7_init_8 : decode cX7_init 8 = .ok (.invokespecial 9, 3) := by decide +kernel
theorem dX7_init_11 : decode cX7_init 11 = .ok (.astore_n 1, 1) := by decide +kernel
theorem dX7_init_12 : decode cX7_init 12 = .ok (.aload_n 0, 1) := by decide +kernel
theorem dX7_init_13 : decode cX7_init 13 = .ok (.aload_n 1, 1) := by decide +kernel
theorem dX7_init_14 : decode cX7_init 14 = .ok (.putfield 10, 3) := by decide +kernel
theorem dX7_init_17 : decode cX7_init 17 = .ok (.aload_n 0, 1) := by decide +kernel
theorem dX7_init_18 : decode cX7_init 18 = .ok (.new 16, 3) := by decide +kernel
theorem dX7_init_21 : decode cX7_init 21 = .ok (.dup, 1) := by decide +kernel
theorem dX7_init_22 : decode cX7_init 22 = .ok (.aload_n 1, 1) := by decide +kernel
theorem dX7_init_23 : decode cX7_init 23 = .ok (.invokespecial 18, 3) := by decide +kernel
theorem dX7_init_26 : decode cX7_init 26 = .ok (.putfield 21, 3) := by decide +kernel
theorem dX7_init_29 : decode cX7_init 29 = .ok (.return_, 1) := by decide +kernel
theorem dX7_number_0 : decode cX7_number 0 = .ok (.aload_n 0, 1) := by decide +kernel
theorem dX7_number_1 : decode cX7_number 1 = .ok (.getfield 10, 3) := by decide +kernel
theorem dX7_number_4 : decode cX7_number 4 = .ok (.lload_n 1, 1) := by decide +kernel
theorem dX7_number_5 : decode cX7_number 5 = .ok (.invokevirtual 25, 3) := by decide +kernel
theorem dX7_number_8 : decode cX7_number 8 = .ok (.ireturn, 1) := by decide +kernel
theorem dX7_choice_0 : decode cX7_choice 0 = .ok (.aload_n 0, 1) := by decide +kernel
theorem dX7_choice_1 : decode cX7_choice 1 = .ok (.getfield 10, 3) := by decide +kernel
theorem dX7_choice_4 : decode cX7_choice 4 = .ok (.iload_n 1, 1) := by decide +kernel
theorem dX7_choice_5 : decode cX7_choice 5 = .ok (.invokevirtual 29, 3) := by decide +kernel
theorem dX7_choice_8 : decode cX7_choice 8 = .ok (.ifCond .eq 18, 3) := by decide +kernel
theorem dX7_choice_11 : decode cX7_choice 11 = .ok (.aload_n 0, 1) := by decide +kernel
theorem dX7_choice_12 : decode cX7_choice 12 = .ok (.getfield 10, 3) := by decide +kernel
theorem dX7_choice_15 : decode cX7_choice 15 = .ok (.iload_n 2, 1) := by decide +kernel
theorem dX7_choice_16 : decode cX7_choice 16 = .ok (.invokevirtual 29, 3) := by decide +kernel
theorem dX7_choice_19 : decode cX7_choice 19 = .ok (.ifCond .eq 7, 3) := by decide +kernel
theorem dX7_choice_22 : decode cX7_choice 22 = .ok (.iconst 1, 1) := by decide +kernel
theorem dX7_choice_23 : decode cX7_choice 23 = .ok (.goto 4, 3) := by decide +kernel
theorem dX7_choice_26 : decode cX7_choice 26 = .ok (.iconst 0, 1) := by decide +kernel
theorem dX7_choice_27 : decode cX7_choice 27 = .ok (.invokestatic 33, 3) := by decide +kernel
theorem dX7_choice_30 : decode cX7_choice 30 = .ok (.aload_n 0, 1) := by decide +kernel
theorem dX7_choice_31 : decode cX7_choice 31 = .ok (.getfield 10, 3) := by decide +kernel
theorem dX7_choice_34 : decode cX7_choice 34 = .ok (.iconst 1, 1) := by decide +kernel
theorem dX7_choice_35 : decode cX7_choice 35 = .ok (.iload_n 1, 1) := by decide +kernel
theorem dX7_choice_36 : decode cX7_choice 36 = .ok (.iload_n 2, 1) := by decide +kernel
theorem dX7_choice_37 : decode cX7_choice 37 = .ok (.iconst (-1), 1) := by decide +kernel
theorem dX7_choice_38 : decode cX7_choice 38 = .ok (.invokevirtual 37, 3) := by decide +kernel
theorem dX7_choice_41 : decode cX7_choice 41 = .ok (.ireturn, 1) := by decide +kernel
theorem dX7_fail_0 : decode cX7_fail 0 = .ok (.aload_n 0, 1) := by decide +kernel
theorem dX7_fail_1 : decode cX7_fail 1 = .ok (.getfield 10, 3) := by decide +kernel
theorem dX7_fail_4 : decode cX7_fail 4 = .ok (.iconst 2, 1) := by decide +kernel
theorem dX7_fail_5 : decode cX7_fail 5 = .ok (.iconst (-1), 1) := by decide +kernel
theorem dX7_fail_6 : decode cX7_fail 6 = .ok (.iconst (-1), 1) := by decide +kernel
theorem dX7_fail_7 : decode cX7_fail 7 = .ok (.iconst (-1), 1) := by decide +kernel
theorem dX7_fail_8 : decode cX7_fail 8 = .ok (.invokevirtual 37, 3) := by decide +kernel
theorem dX7_fail_11 : decode cX7_fail 11 = .ok (.ireturn, 1) := by decide +kernel
theorem dX7_pair_0 : decode cX7_pair 0 = .ok (.aload_n 0, 1) := by decide +kernel
theorem dX7_pair_1 : decode cX7_pair 1 = .ok (.getfield 10, 3) := by decide +kernel
theorem dX7_pair_4 : decode cX7_pair 4 = .ok (.iload_n 1, 1) := by decide +kernel
theorem dX7_pair_5 : decode cX7_pair 5 = .ok (.invokevirtual 29, 3) := by decide +kernel
theorem dX7_pair_8 : decode cX7_pair 8 = .ok (.ifCond .eq 18, 3) := by decide +kernel
theorem dX7_pair_11 : decode cX7_pair 11 = .ok (.aload_n 0, 1) := by decide +kernel
theorem dX7_pair_12 : decode cX7_pair 12 = .ok (.getfield 10, 3) := by decide +kernel
theorem dX7_pair_15 : decode cX7_pair 15 = .ok (.iload_n 2, 1) := by decide +kernel
theorem dX7_pair_16 : decode cX7_pair 16 = .ok (.invokevirtual 29, 3) := by decide +kernel
theorem dX7_pair_19 : decode cX7_pair 19 = .ok (.ifCond .eq 7, 3) := by decide +kernel
theorem dX7_pair_22 : decode cX7_pair 22 = .ok (.iconst 1, 1) := by decide +kernel
theorem dX7_pair_23 : decode cX7_pair 23 = .ok (.goto 4, 3) := by decide +kernel
theorem dX7_pair_26 : decode cX7_pair 26 = .ok (.iconst 0, 1) := by decide +kernel
theorem dX7_pair_27 : decode cX7_pair 27 = .ok (.invokestatic 33, 3) := by decide +kernel
theorem dX7_pair_30 : decode cX7_pair 30 = .ok (.aload_n 0, 1) := by decide +kernel
theorem dX7_pair_31 : decode cX7_pair 31 = .ok (.getfield 10, 3) := by decide +kernel
theorem dX7_pair_34 : decode cX7_pair 34 = .ok (.iconst 3, 1) := by decide +kernel
theorem dX7_pair_35 : decode cX7_pair 35 = .ok (.iload_n 1, 1) := by decide +kernel
theorem dX7_pair_36 : decode cX7_pair 36 = .ok (.iload_n 2, 1) := by decide +kernel
theorem dX7_pair_37 : decode cX7_pair 37 = .ok (.iconst (-1), 1) := by decide +kernel
theorem dX7_pair_38 : decode cX7_pair 38 = .ok (.invokevirtual 37, 3) := by decide +kernel
theorem dX7_pair_41 : decode cX7_pair 41 = .ok (.ireturn, 1) := by decide +kernel
theorem dX7_part_0 : decode cX7_part 0 = .ok (.aload_n 0, 1) := by decide +kernel
theorem dX7_part_1 : decode cX7_part 1 = .ok (.getfield 10, 3) := by decide +kernel
theorem dX7_part_4 : decode cX7_part 4 = .ok (.iload_n 1, 1) := by decide +kernel
theorem dX7_part_5 : decode cX7_part 5 = .ok (.invokevirtual 29, 3) := by decide +kernel
theorem dX7_part_8 : decode cX7_part 8 = .ok (.invokestatic 33, 3) := by decide +kernel
theorem dX7_part_11 : decode cX7_part 11 = .ok (.aload_n 0, 1) := by decide +kernel
theorem dX7_part_12 : decode cX7_part 12 = .ok (.getfield 10, 3) := by decide +kernel
theorem dX7_part_15 : decode cX7_part 15 = .ok (.iload_n 2, 1) := by decide +kernel
theorem dX7_part_16 : decode cX7_part 16 = .ok (.ifCond .eq 7, 3) := by decide +kernel
theorem dX7_part_19 : decode cX7_part 19 = .ok (.iconst 5, 1) := by decide +kernel
theorem dX7_part_20 : decode cX7_part 20 = .ok (.goto 4, 3) := by decide +kernel
theorem dX7_part_23 : decode cX7_part 23 = .ok (.iconst 4, 1) := by decide +kernel
theorem dX7_part_24 : decode cX7_part 24 = .ok (.iload_n 1, 1) := by decide +kernel
theorem dX7_part_25 : decode cX7_part 25 = .ok (.iconst (-1), 1) := by decide +kernel
theorem dX7_part_26 : decode cX7_part 26 = .ok (.iconst (-1), 1) := by decide +kernel
theorem dX7_part_27 : decode cX7_part 27 = .ok (.invokevirtual 37, 3) := by decide +kernel
theorem dX7_part_30 : decode cX7_part 30 = .ok (.ireturn, 1) := by decide +kernel
theorem dX7_op_0 : decode cX7_op 0 = .ok (.aload_n 0, 1) := by decide +kernel
theorem dX7_op_1 : decode cX7_op 1 = .ok (.getfield 10, 3) := by decide +kernel
theorem dX7_op_4 : decode cX7_op 4 = .ok (.iload_n 2, 1) := by decide +kernel
theorem dX7_op_5 : decode cX7_op 5 = .ok (.invokevirtual 29, 3) := by decide +kernel
theorem dX7_op_8 : decode cX7_op 8 = .ok (.ifCond .eq 27, 3) := by decide +kernel
theorem dX7_op_11 : decode cX7_op 11 = .ok (.aload_n 0, 1) := by decide +kernel
theorem dX7_op_12 : decode cX7_op 12 = .ok (.getfield 10, 3) := by decide +kernel
theorem dX7_op_15 : decode cX7_op 15 = .ok (.iload_n 3, 1) := by decide +kernel
theorem dX7_op_16 : decode cX7_op 16 = .ok (.invokevirtual 29, 3) := by decide +kernel
theorem dX7_op_19 : decode cX7_op 19 = .ok (.ifCond .eq 16, 3) := by decide +kernel
theorem dX7_op_22 : decode cX7_op 22 = .ok (.iload_n 1, 1) := by decide +kernel
theorem dX7_op_23 : decode cX7_op 23 = .ok (.ifCond .lt 12, 3) := by decide +kernel
theorem dX7_op_26 : decode cX7_op 26 = .ok (.iload_n 1, 1) := by decide +kernel
theorem dX7_op_27 : decode cX7_op 27 = .ok (.iconst 5, 1) := by decide +kernel
theorem dX7_op_28 : decode cX7_op 28 = .ok (.if_icmp .gt 7, 3) := by decide +kernel
theorem dX7_op_31 : decode cX7_op 31 = .ok (.iconst 1, 1) := by decide +kernel
theorem dX7_op_32 : decode cX7_op 32 = .ok (.goto 4, 3) := by decide +kernel
theorem dX7_op_35 : decode cX7_op 35 = .ok (.iconst 0, 1) := by decide +kernel
theorem dX7_op_36 : decode cX7_op 36 = .ok (.invokestatic 33, 3) := by decide +kernel
theorem dX7_op_39 : decode cX7_op 39 = .ok (.aload_n 0, 1) := by decide +kernel
theorem dX7_op_40 : decode cX7_op 40 = .ok (.getfield 10, 3) := by decide +kernel
theorem dX7_op_43 : decode cX7_op 43 = .ok (.bipush 6, 2) := by decide +kernel
theorem dX7_op_45 : decode cX7_op 45 = .ok (.iload_n 2, 1) := by decide +kernel
theorem dX7_op_46 : decode cX7_op 46 = .ok (.iload_n 3, 1) := by decide +kernel
theorem dX7_op_47 : decode cX7_op 47 = .ok (.iload_n 1, 1) := by decide +kernel
theorem dX7_op_48 : decode cX7_op 48 = .ok (.invokevirtual 37, 3) := by decide +kernel
theorem dX7_op_51 : decode cX7_op 51 = .ok (.ireturn, 1) := by decide +kernel
theorem dX7_when_0 : decode cX7_when 0 = .ok (.aload_n 0, 1) := by decide +kernel
theorem dX7_when_1 : decode cX7_when 1 = .ok (.getfield 10, 3) := by decide +kernel
theorem dX7_when_4 : decode cX7_when 4 = .ok (.iload_n 1, 1) := by decide +kernel
theorem dX7_when_5 : decode cX7_when 5 = .ok (.invokevirtual 29, 3) := by decide +kernel
theorem dX7_when_8 : decode cX7_when 8 = .ok (.ifCond .eq 29, 3) := by decide +kernel
theorem dX7_when_11 : decode cX7_when 11 = .ok (.aload_n 0, 1) := by decide +kernel
theorem dX7_when_12 : decode cX7_when 12 = .ok (.getfield 10, 3) := by decide +kernel
theorem dX7_when_15 : decode cX7_when 15 = .ok (.iload_n 2, 1) := by decide +kernel
theorem dX7_when_16 : decode cX7_when 16 = .ok (.invokevirtual 29, 3) := by decide +kernel
theorem dX7_when_19 : decode cX7_when 19 = .ok (.ifCond .eq 18, 3) := by decide +kernel
theorem dX7_when_22 : decode cX7_when 22 = .ok (.aload_n 0, 1) := by decide +kernel
theorem dX7_when_23 : decode cX7_when 23 = .ok (.getfield 10, 3) := by decide +kernel
theorem dX7_when_26 : decode cX7_when 26 = .ok (.iload_n 3, 1) := by decide +kernel
theorem dX7_when_27 : decode cX7_when 27 = .ok (.invokevirtual 29, 3) := by decide +kernel
theorem dX7_when_30 : decode cX7_when 30 = .ok (.ifCond .eq 7, 3) := by decide +kernel
theorem dX7_when_33 : decode cX7_when 33 = .ok (.iconst 1, 1) := by decide +kernel
theorem dX7_when_34 : decode cX7_when 34 = .ok (.goto 4, 3) := by decide +kernel
theorem dX7_when_37 : decode cX7_when 37 = .ok (.iconst 0, 1) := by decide +kernel
theorem dX7_when_38 : decode cX7_when 38 = .ok (.invokestatic 33, 3) := by decide +kernel
theorem dX7_when_41 : decode cX7_when 41 = .ok (.aload_n 0, 1) := by decide +kernel
theorem dX7_when_42 : decode cX7_when 42 = .ok (.getfield 10, 3) := by decide +kernel
theorem dX7_when_45 : decode cX7_when 45 = .ok (.bipush 7, 2) := by decide +kernel
theorem dX7_when_47 : decode cX7_when 47 = .ok (.iload_n 1, 1) := by decide +kernel
theorem dX7_when_48 : decode cX7_when 48 = .ok (.iload_n 2, 1) := by decide +kernel
theorem dX7_when_49 : decode cX7_when 49 = .ok (.iload_n 3, 1) := by decide +kernel
theorem dX7_when_50 : decode cX7_when 50 = .ok (.invokevirtual 37, 3) := by decide +kernel
theorem dX7_when_53 : decode cX7_when 53 = .ok (.ireturn, 1) := by decide +kernel
theorem dX7_set_0 : decode cX7_set 0 = .ok (.aload_n 0, 1) := by decide +kernel
theorem dX7_set_1 : decode cX7_set 1 = .ok (.getfield 10, 3) := by decide +kernel
theorem dX7_set_4 : decode cX7_set 4 = .ok (.iload_n 1, 1) := by decide +kernel
theorem dX7_set_5 : decode cX7_set 5 = .ok (.invokevirtual 29, 3) := by decide +kernel
theorem dX7_set_8 : decode cX7_set 8 = .ok (.ifCond .eq 22, 3) := by decide +kernel
theorem dX7_set_11 : decode cX7_set 11 = .ok (.iload_n 2, 1) := by decide +kernel
theorem dX7_set_12 : decode cX7_set 12 = .ok (.ifCond .lt 18, 3) := by decide +kernel
theorem dX7_set_15 : decode cX7_set 15 = .ok (.iload_n 2, 1) := by decide +kernel
theorem dX7_set_16 : decode cX7_set 16 = .ok (.aload_n 0, 1) := by decide +kernel
theorem dX7_set_17 : decode cX7_set 17 = .ok (.getfield 10, 3) := by decide +kernel
theorem dX7_set_20 : decode cX7_set 20 = .ok (.invokevirtual 41, 3) := by decide +kernel
theorem dX7_set_23 : decode cX7_set 23 = .ok (.if_icmp .gt 7, 3) := by decide +kernel
theorem dX7_set_26 : decode cX7_set 26 = .ok (.iconst 1, 1) := by decide +kernel
theorem dX7_set_27 : decode cX7_set 27 = .ok (.goto 4, 3) := by decide +kernel
theorem dX7_set_30 : decode cX7_set 30 = .ok (.iconst 0, 1) := by decide +kernel
theorem dX7_set_31 : decode cX7_set 31 = .ok (.invokestatic 33, 3) := by decide +kernel
theorem dX7_set_34 : decode cX7_set 34 = .ok (.aload_n 0, 1) := by decide +kernel
theorem dX7_set_35 : decode cX7_set 35 = .ok (.getfield 10, 3) := by decide +kernel
theorem dX7_set_38 : decode cX7_set 38 = .ok (.bipush 8, 2) := by decide +kernel
theorem dX7_set_40 : decode cX7_set 40 = .ok (.iload_n 1, 1) := by decide +kernel
theorem dX7_set_41 : decode cX7_set 41 = .ok (.iload_n 2, 1) := by decide +kernel
theorem dX7_set_42 : decode cX7_set 42 = .ok (.iconst (-1), 1) := by decide +kernel
theorem dX7_set_43 : decode cX7_set 43 = .ok (.invokevirtual 37, 3) := by decide +kernel
theorem dX7_set_46 : decode cX7_set 46 = .ok (.ireturn, 1) := by decide +kernel
theorem dX7_fold_0 : decode cX7_fold 0 = .ok (.aload_n 0, 1) := by decide +kernel
theorem dX7_fold_1 : decode cX7_fold 1 = .ok (.getfield 10, 3) := by decide +kernel
theorem dX7_fold_4 : decode cX7_fold 4 = .ok (.iload_n 2, 1) := by decide +kernel
theorem dX7_fold_5 : decode cX7_fold 5 = .ok (.invokevirtual 29, 3) := by decide +kernel
theorem dX7_fold_8 : decode cX7_fold 8 = .ok (.ifCond .eq 16, 3) := by decide +kernel
theorem dX7_fold_11 : decode cX7_fold 11 = .ok (.iload_n 1, 1) := by decide +kernel
theorem dX7_fold_12 : decode cX7_fold 12 = .ok (.ifCond .lt 12, 3) := by decide +kernel
theorem dX7_fold_15 : decode cX7_fold 15 = .ok (.iload_n 1, 1) := by decide +kernel
theorem dX7_fold_16 : decode cX7_fold 16 = .ok (.iconst 2, 1) := by decide +kernel
theorem dX7_fold_17 : decode cX7_fold 17 = .ok (.if_icmp .gt 7, 3) := by decide +kernel
theorem dX7_fold_20 : decode cX7_fold 20 = .ok (.iconst 1, 1) := by decide +kernel
theorem dX7_fold_21 : decode cX7_fold 21 = .ok (.goto 4, 3) := by decide +kernel
theorem dX7_fold_24 : decode cX7_fold 24 = .ok (.iconst 0, 1) := by decide +kernel
theorem dX7_fold_25 : decode cX7_fold 25 = .ok (.invokestatic 33, 3) := by decide +kernel
theorem dX7_fold_28 : decode cX7_fold 28 = .ok (.aload_n 0, 1) := by decide +kernel
theorem dX7_fold_29 : decode cX7_fold 29 = .ok (.getfield 10, 3) := by decide +kernel
theorem dX7_fold_32 : decode cX7_fold 32 = .ok (.bipush 9, 2) := by decide +kernel
theorem dX7_fold_34 : decode cX7_fold 34 = .ok (.iload_n 2, 1) := by decide +kernel
theorem dX7_fold_35 : decode cX7_fold 35 = .ok (.iload_n 1, 1) := by decide +kernel
theorem dX7_fold_36 : decode cX7_fold 36 = .ok (.iconst (-1), 1) := by decide +kernel
theorem dX7_fold_37 : decode cX7_fold 37 = .ok (.invokevirtual 37, 3) := by decide +kernel
theorem dX7_fold_40 : decode cX7_fold 40 = .ok (.ireturn, 1) := by decide +kernel
theorem dX7_clear_0 : decode cX7_clear 0 = .ok (.aload_n 0, 1) := by decide +kernel
theorem dX7_clear_1 : decode cX7_clear 1 = .ok (.getfield 10, 3) := by decide +kernel
theorem dX7_clear_4 : decode cX7_clear 4 = .ok (.invokevirtual 41, 3) := by decide +kernel
theorem dX7_clear_7 : decode cX7_clear 7 = .ok (.istore_n 1, 1) := by decide +kernel
theorem dX7_clear_8 : decode cX7_clear 8 = .ok (.aload_n 0, 1) := by decide +kernel
theorem dX7_clear_9 : decode cX7_clear 9 = .ok (.getfield 10, 3) := by decide +kernel
theorem dX7_clear_12 : decode cX7_clear 12 = .ok (.invokevirtual 45, 3) := by decide +kernel
theorem dX7_clear_15 : decode cX7_clear 15 = .ok (.aload_n 0, 1) := by decide +kernel
theorem dX7_clear_16 : decode cX7_clear 16 = .ok (.getfield 21, 3) := by decide +kernel
theorem dX7_clear_19 : decode cX7_clear 19 = .ok (.invokevirtual 48, 3) := by decide +kernel
theorem dX7_clear_22 : decode cX7_clear 22 = .ok (.iload_n 1, 1) := by decide +kernel
theorem dX7_clear_23 : decode cX7_clear 23 = .ok (.ireturn, 1) := by decide +kernel
theorem dX7_node_0 : decode cX7_node 0 = .ok (.aload_n 0, 1) := by decide +kernel
theorem dX7_node_1 : decode cX7_node 1 = .ok (.getfield 10, 3) := by decide +kernel
theorem dX7_node_4 : decode cX7_node 4 = .ok (.iload_n 1, 1) := by decide +kernel
theorem dX7_node_5 : decode cX7_node 5 = .ok (.invokevirtual 29, 3) := by decide +kernel
theorem dX7_node_8 : decode cX7_node 8 = .ok (.ifCond .eq 12, 3) := by decide +kernel
theorem dX7_node_11 : decode cX7_node 11 = .ok (.iload_n 2, 1) := by decide +kernel
theorem dX7_node_12 : decode cX7_node 12 = .ok (.ifCond .lt 8, 3) := by decide +kernel
theorem dX7_node_15 : decode cX7_node 15 = .ok (.iload_n 2, 1) := by decide +kernel
theorem dX7_node_16 : decode cX7_node 16 = .ok (.iconst 3, 1) := by decide +kernel
theorem dX7_node_17 : decode cX7_node 17 = .ok (.if_icmp .le 13, 3) := by decide +kernel
theorem dX7_node_20 : decode cX7_node 20 = .ok (.new 49, 3) := by decide +kernel
theorem dX7_node_23 : decode cX7_node 23 = .ok (.dup, 1) := by decide +kernel
theorem dX7_node_24 : decode cX7_node 24 = .ok (.ldc 51, 2) := by decide +kernel
theorem dX7_node_26 : decode cX7_node 26 = .ok (.invokespecial 53, 3) := by decide +kernel
theorem dX7_node_29 : decode cX7_node 29 = .ok (.athrow, 1) := by decide +kernel
theorem dX7_node_30 : decode cX7_node 30 = .ok (.iload_n 2, 1) := by decide +kernel
theorem dX7_node_31 : decode cX7_node 31 = .ok (.tableswitch 52 0 2 #[25, 34, 43], 25) := by decide +kernel
theorem dX7_node_56 : decode cX7_node 56 = .ok (.aload_n 0, 1) := by decide +kernel
theorem dX7_node_57 : decode cX7_node 57 = .ok (.getfield 10, 3) := by decide +kernel
theorem dX7_node_60 : decode cX7_node 60 = .ok (.iload_n 1, 1) := by decide +kernel
theorem dX7_node_61 : decode cX7_node 61 = .ok (.invokevirtual 56, 3) := by decide +kernel
theorem dX7_node_64 : decode cX7_node 64 = .ok (.ireturn, 1) := by decide +kernel
theorem dX7_node_65 : decode cX7_node 65 = .ok (.aload_n 0, 1) := by decide +kernel
theorem dX7_node_66 : decode cX7_node 66 = .ok (.getfield 10, 3) := by decide +kernel
theorem dX7_node_69 : decode cX7_node 69 = .ok (.iload_n 1, 1) := by decide +kernel
theorem dX7_node_70 : decode cX7_node 70 = .ok (.invokevirtual 60, 3) := by decide +kernel
theorem dX7_node_73 : decode cX7_node 73 = .ok (.ireturn, 1) := by decide +kernel
theorem dX7_node_74 : decode cX7_node 74 = .ok (.aload_n 0, 1) := by decide +kernel
theorem dX7_node_75 : decode cX7_node 75 = .ok (.getfield 10, 3) := by decide +kernel
theorem dX7_node_78 : decode cX7_node 78 = .ok (.iload_n 1, 1) := by decide +kernel
theorem dX7_node_79 : decode cX7_node 79 = .ok (.invokevirtual 63, 3) := by decide +kernel
theorem dX7_node_82 : decode cX7_node 82 = .ok (.ireturn, 1) := by decide +kernel
theorem dX7_node_83 : decode cX7_node 83 = .ok (.aload_n 0, 1) := by decide +kernel
theorem dX7_node_84 : decode cX7_node 84 = .ok (.getfield 10, 3) := by decide +kernel
theorem dX7_node_87 : decode cX7_node 87 = .ok (.iload_n 1, 1) := by decide +kernel
theorem dX7_node_88 : decode cX7_node 88 = .ok (.invokevirtual 66, 3) := by decide +kernel
theorem dX7_node_91 : decode cX7_node 91 = .ok (.ireturn, 1) := by decide +kernel
theorem dX7_ask_0 : decode cX7_ask 0 = .ok (.aload_n 0, 1) := by decide +kernel
theorem dX7_ask_1 : decode cX7_ask 1 = .ok (.getfield 10, 3) := by decide +kernel
theorem dX7_ask_4 : decode cX7_ask 4 = .ok (.iload_n 1, 1) := by decide +kernel
theorem dX7_ask_5 : decode cX7_ask 5 = .ok (.invokevirtual 29, 3) := by decide +kernel
theorem dX7_ask_8 : decode cX7_ask 8 = .ok (.ifCond .eq 27, 3) := by decide +kernel
theorem dX7_ask_11 : decode cX7_ask 11 = .ok (.iload_n 2, 1) := by decide +kernel
theorem dX7_ask_12 : decode cX7_ask 12 = .ok (.ifCond .lt 23, 3) := by decide +kernel
theorem dX7_ask_15 : decode cX7_ask 15 = .ok (.iload_n 2, 1) := by decide +kernel
theorem dX7_ask_16 : decode cX7_ask 16 = .ok (.iconst 2, 1) := by decide +kernel
theorem dX7_ask_17 : decode cX7_ask 17 = .ok (.if_icmp .gt 18, 3) := by decide +kernel
theorem dX7_ask_20 : decode cX7_ask 20 = .ok (.iload_n 3, 1) := by decide +kernel
theorem dX7_ask_21 : decode cX7_ask 21 = .ok (.iconst 1, 1) := by decide +kernel
theorem dX7_ask_22 : decode cX7_ask 22 = .ok (.if_icmp .lt 13, 3) := by decide +kernel
theorem dX7_ask_25 : decode cX7_ask 25 = .ok (.iload_n 3, 1) := by decide +kernel
theorem dX7_ask_26 : decode cX7_ask 26 = .ok (.bipush 60, 2) := by decide +kernel
theorem dX7_ask_28 : decode cX7_ask 28 = .ok (.if_icmp .gt 7, 3) := by decide +kernel
theorem dX7_ask_31 : decode cX7_ask 31 = .ok (.iconst 1, 1) := by decide +kernel
theorem dX7_ask_32 : decode cX7_ask 32 = .ok (.goto 4, 3) := by decide +kernel
theorem dX7_ask_35 : decode cX7_ask 35 = .ok (.iconst 0, 1) := by decide +kernel
theorem dX7_ask_36 : decode cX7_ask 36 = .ok (.invokestatic 33, 3) := by decide +kernel
theorem dX7_ask_39 : decode cX7_ask 39 = .ok (.aload_n 0, 1) := by decide +kernel
theorem dX7_ask_40 : decode cX7_ask 40 = .ok (.getfield 21, 3) := by decide +kernel
theorem dX7_ask_43 : decode cX7_ask 43 = .ok (.iload_n 1, 1) := by decide +kernel
theorem dX7_ask_44 : decode cX7_ask 44 = .ok (.iload_n 2, 1) := by decide +kernel
theorem dX7_ask_45 : decode cX7_ask 45 = .ok (.iload_n 3, 1) := by decide +kernel
theorem dX7_ask_46 : decode cX7_ask 46 = .ok (.invokevirtual 69, 3) := by decide +kernel
theorem dX7_ask_49 : decode cX7_ask 49 = .ok (.return_, 1) := by decide +kernel
theorem dX7_next_0 : decode cX7_next 0 = .ok (.aload_n 0, 1) := by decide +kernel
theorem dX7_next_1 : decode cX7_next 1 = .ok (.getfield 21, 3) := by decide +kernel
theorem dX7_next_4 : decode cX7_next 4 = .ok (.invokevirtual 73, 3) := by decide +kernel
theorem dX7_next_7 : decode cX7_next 7 = .ok (.ifCond .ne 13, 3) := by decide +kernel
theorem dX7_next_10 : decode cX7_next 10 = .ok (.new 77, 3) := by decide +kernel
theorem dX7_next_13 : decode cX7_next 13 = .ok (.dup, 1) := by decide +kernel
theorem dX7_next_14 : decode cX7_next 14 = .ok (.ldc 79, 2) := by decide +kernel
theorem dX7_next_16 : decode cX7_next 16 = .ok (.invokespecial 81, 3) := by decide +kernel
theorem dX7_next_19 : decode cX7_next 19 = .ok (.athrow, 1) := by decide +kernel
theorem dX7_next_20 : decode cX7_next 20 = .ok (.aload_n 0, 1) := by decide +kernel
theorem dX7_next_21 : decode cX7_next 21 = .ok (.getfield 21, 3) := by decide +kernel
theorem dX7_next_24 : decode cX7_next 24 = .ok (.invokevirtual 82, 3) := by decide +kernel
theorem dX7_next_27 : decode cX7_next 27 = .ok (.ireturn, 1) := by decide +kernel
theorem dX7_decision_0 : decode cX7_decision 0 = .ok (.aload_n 0, 1) := by decide +kernel
theorem dX7_decision_1 : decode cX7_decision 1 = .ok (.getfield 21, 3) := by decide +kernel
theorem dX7_decision_4 : decode cX7_decision 4 = .ok (.invokevirtual 85, 3) := by decide +kernel
theorem dX7_decision_7 : decode cX7_decision 7 = .ok (.iload_n 1, 1) := by decide +kernel
theorem dX7_decision_8 : decode cX7_decision 8 = .ok (.invokevirtual 89, 3) := by decide +kernel
theorem dX7_decision_11 : decode cX7_decision 11 = .ok (.ireturn, 1) := by decide +kernel
theorem dX7_token_0 : decode cX7_token 0 = .ok (.aload_n 0, 1) := by decide +kernel
theorem dX7_token_1 : decode cX7_token 1 = .ok (.getfield 21, 3) := by decide +kernel
theorem dX7_token_4 : decode cX7_token 4 = .ok (.invokevirtual 85, 3) := by decide +kernel
theorem dX7_token_7 : decode cX7_token 7 = .ok (.invokevirtual 94, 3) := by decide +kernel
theorem dX7_token_10 : decode cX7_token 10 = .ok (.astore_n 3, 1) := by decide +kernel
theorem dX7_token_11 : decode cX7_token 11 = .ok (.aload_n 3, 1) := by decide +kernel
theorem dX7_token_12 : decode cX7_token 12 = .ok (.iload_n 1, 1) := by decide +kernel
theorem dX7_token_13 : decode cX7_token 13 = .ok (.invokevirtual 98, 3) := by decide +kernel
theorem dX7_token_16 : decode cX7_token 16 = .ok (.ifCond .eq 12, 3) := by decide +kernel
theorem dX7_token_19 : decode cX7_token 19 = .ok (.iload_n 2, 1) := by decide +kernel
theorem dX7_token_20 : decode cX7_token 20 = .ok (.ifCond .lt 8, 3) := by decide +kernel
theorem dX7_token_23 : decode cX7_token 23 = .ok (.iload_n 2, 1) := by decide +kernel
theorem dX7_token_24 : decode cX7_token 24 = .ok (.iconst 1, 1) := by decide +kernel
theorem dX7_token_25 : decode cX7_token 25 = .ok (.if_icmp .le 13, 3) := by decide +kernel
theorem dX7_token_28 : decode cX7_token 28 = .ok (.new 49, 3) := by decide +kernel
theorem dX7_token_31 : decode cX7_token 31 = .ok (.dup, 1) := by decide +kernel
theorem dX7_token_32 : decode cX7_token 32 = .ok (.ldc 101, 2) := by decide +kernel
theorem dX7_token_34 : decode cX7_token 34 = .ok (.invokespecial 53, 3) := by decide +kernel
theorem dX7_token_37 : decode cX7_token 37 = .ok (.athrow, 1) := by decide +kernel
theorem dX7_token_38 : decode cX7_token 38 = .ok (.iload_n 2, 1) := by decide +kernel
theorem dX7_token_39 : decode cX7_token 39 = .ok (.ifCond .ne 12, 3) := by decide +kernel
theorem dX7_token_42 : decode cX7_token 42 = .ok (.aload_n 3, 1) := by decide +kernel
theorem dX7_token_43 : decode cX7_token 43 = .ok (.iload_n 1, 1) := by decide +kernel
theorem dX7_token_44 : decode cX7_token 44 = .ok (.invokevirtual 103, 3) := by decide +kernel
theorem dX7_token_47 : decode cX7_token 47 = .ok (.i2l, 1) := by decide +kernel
theorem dX7_token_48 : decode cX7_token 48 = .ok (.goto 8, 3) := by decide +kernel
theorem dX7_token_51 : decode cX7_token 51 = .ok (.aload_n 3, 1) := by decide +kernel
theorem dX7_token_52 : decode cX7_token 52 = .ok (.iload_n 1, 1) := by decide +kernel
theorem dX7_token_53 : decode cX7_token 53 = .ok (.invokevirtual 106, 3) := by decide +kernel
theorem dX7_token_56 : decode cX7_token 56 = .ok (.lreturn, 1) := by decide +kernel
theorem dX7_count_0 : decode cX7_count 0 = .ok (.iload_n 1, 1) := by decide +kernel
theorem dX7_count_1 : decode cX7_count 1 = .ok (.tableswitch 135 0 8 #[51, 59, 67, 75, 83, 91, 99, 110, 121], 51) := by decide +kernel
theorem dX7_count_52 : decode cX7_count 52 = .ok (.aload_n 0, 1) := by decide +kernel
theorem dX7_count_53 : decode cX7_count 53 = .ok (.getfield 10, 3) := by decide +kernel
theorem dX7_count_56 : decode cX7_count 56 = .ok (.invokevirtual 41, 3) := by decide +kernel
theorem dX7_count_59 : decode cX7_count 59 = .ok (.ireturn, 1) := by decide +kernel
theorem dX7_count_60 : decode cX7_count 60 = .ok (.aload_n 0, 1) := by decide +kernel
theorem dX7_count_61 : decode cX7_count 61 = .ok (.getfield 21, 3) := by decide +kernel
theorem dX7_count_64 : decode cX7_count 64 = .ok (.invokevirtual 110, 3) := by decide +kernel
theorem dX7_count_67 : decode cX7_count 67 = .ok (.ireturn, 1) := by decide +kernel
theorem dX7_count_68 : decode cX7_count 68 = .ok (.aload_n 0, 1) := by decide +kernel
theorem dX7_count_69 : decode cX7_count 69 = .ok (.getfield 21, 3) := by decide +kernel
theorem dX7_count_72 : decode cX7_count 72 = .ok (.invokevirtual 113, 3) := by decide +kernel
theorem dX7_count_75 : decode cX7_count 75 = .ok (.ireturn, 1) := by decide +kernel
theorem dX7_count_76 : decode cX7_count 76 = .ok (.aload_n 0, 1) := by decide +kernel
theorem dX7_count_77 : decode cX7_count 77 = .ok (.getfield 21, 3) := by decide +kernel
theorem dX7_count_80 : decode cX7_count 80 = .ok (.invokevirtual 116, 3) := by decide +kernel
theorem dX7_count_83 : decode cX7_count 83 = .ok (.ireturn, 1) := by decide +kernel
theorem dX7_count_84 : decode cX7_count 84 = .ok (.aload_n 0, 1) := by decide +kernel
theorem dX7_count_85 : decode cX7_count 85 = .ok (.getfield 21, 3) := by decide +kernel
theorem dX7_count_88 : decode cX7_count 88 = .ok (.invokevirtual 119, 3) := by decide +kernel
theorem dX7_count_91 : decode cX7_count 91 = .ok (.ireturn, 1) := by decide +kernel
theorem dX7_count_92 : decode cX7_count 92 = .ok (.aload_n 0, 1) := by decide +kernel
theorem dX7_count_93 : decode cX7_count 93 = .ok (.getfield 21, 3) := by decide +kernel
theorem dX7_count_96 : decode cX7_count 96 = .ok (.invokevirtual 122, 3) := by decide +kernel
theorem dX7_count_99 : decode cX7_count 99 = .ok (.ireturn, 1) := by decide +kernel
theorem dX7_count_100 : decode cX7_count 100 = .ok (.aload_n 0, 1) := by decide +kernel
theorem dX7_count_101 : decode cX7_count 101 = .ok (.getfield 21, 3) := by decide +kernel
theorem dX7_count_104 : decode cX7_count 104 = .ok (.invokevirtual 85, 3) := by decide +kernel
theorem dX7_count_107 : decode cX7_count 107 = .ok (.invokevirtual 125, 3) := by decide +kernel
theorem dX7_count_110 : decode cX7_count 110 = .ok (.ireturn, 1) := by decide +kernel
theorem dX7_count_111 : decode cX7_count 111 = .ok (.aload_n 0, 1) := by decide +kernel
theorem dX7_count_112 : decode cX7_count 112 = .ok (.getfield 21, 3) := by decide +kernel
theorem dX7_count_115 : decode cX7_count 115 = .ok (.invokevirtual 85, 3) := by decide +kernel
theorem dX7_count_118 : decode cX7_count 118 = .ok (.invokevirtual 128, 3) := by decide +kernel
theorem dX7_count_121 : decode cX7_count 121 = .ok (.ireturn, 1) := by decide +kernel
theorem dX7_count_122 : decode cX7_count 122 = .ok (.aload_n 0, 1) := by decide +kernel
theorem dX7_count_123 : decode cX7_count 123 = .ok (.getfield 21, 3) := by decide +kernel
theorem dX7_count_126 : decode cX7_count 126 = .ok (.invokevirtual 85, 3) := by decide +kernel
theorem dX7_count_129 : decode cX7_count 129 = .ok (.invokevirtual 94, 3) := by decide +kernel
theorem dX7_count_132 : decode cX7_count 132 = .ok (.invokevirtual 131, 3) := by decide +kernel
theorem dX7_count_135 : decode cX7_count 135 = .ok (.ireturn, 1) := by decide +kernel
theorem dX7_count_136 : decode cX7_count 136 = .ok (.iconst (-1), 1) := by decide +kernel
theorem dX7_count_137 : decode cX7_count 137 = .ok (.ireturn, 1) := by decide +kernel
theorem dX7_demand_0 : decode cX7_demand 0 = .ok (.iload_n 0, 1) := by decide +kernel
theorem dX7_demand_1 : decode cX7_demand 1 = .ok (.ifCond .ne 13, 3) := by decide +kernel
theorem dX7_demand_4 : decode cX7_demand 4 = .ok (.new 132, 3) := by decide +kernel
theorem dX7_demand_7 : decode cX7_demand 7 = .ok (.dup, 1) := by decide +kernel
theorem dX7_demand_8 : decode cX7_demand 8 = .ok (.ldc 134, 2) := by decide +kernel
theorem dX7_demand_10 : decode cX7_demand 10 = .ok (.invokespecial 136, 3) := by decide +kernel
theorem dX7_demand_13 : decode cX7_demand 13 = .ok (.athrow, 1) := by decide +kernel
theorem dX7_demand_14 : decode cX7_demand 14 = .ok (.return_, 1) := by decide +kernel
theorem dX8_init_0 : decode cX8_init 0 = .ok (.aload_n 0, 1) := by decide +kernel
theorem dX8_init_1 : decode cX8_init 1 = .ok (.invokespecial 1, 3) := by decide +kernel
theorem dX8_init_4 : decode cX8_init 4 = .ok (.aload_n 0, 1) := by decide +kernel
theorem dX8_init_5 : decode cX8_init 5 = .ok (.bipush 60, 2) := by decide +kernel
theorem dX8_init_7 : decode cX8_init 7 = .ok (.newarray .int, 2) := by decide +kernel
theorem dX8_init_9 : decode cX8_init 9 = .ok (.putfield 9, 3) := by decide +kernel
theorem dX8_init_12 : decode cX8_init 12 = .ok (.aload_n 0, 1) := by decide +kernel
theorem dX8_init_13 : decode cX8_init 13 = .ok (.bipush 60, 2) := by decide +kernel
theorem dX8_init_15 : decode cX8_init 15 = .ok (.newarray .long, 2) := by decide +kernel
theorem dX8_init_17 : decode cX8_init 17 = .ok (.putfield 13, 3) := by decide +kernel
theorem dX8_init_20 : decode cX8_init 20 = .ok (.aload_n 0, 1) := by decide +kernel
theorem dX8_init_21 : decode cX8_init 21 = .ok (.bipush 60, 2) := by decide +kernel
theorem dX8_init_23 : decode cX8_init 23 = .ok (.newarray .int, 2) := by decide +kernel
theorem dX8_init_25 : decode cX8_init 25 = .ok (.putfield 17, 3) := by decide +kernel
theorem dX8_init_28 : decode cX8_init 28 = .ok (.aload_n 0, 1) := by decide +kernel
theorem dX8_init_29 : decode cX8_init 29 = .ok (.bipush 60, 2) := by decide +kernel
theorem dX8_init_31 : decode cX8_init 31 = .ok (.newarray .int, 2) := by decide +kernel
theorem dX8_init_33 : decode cX8_init 33 = .ok (.putfield 20, 3) := by decide +kernel
theorem dX8_init_36 : decode cX8_init 36 = .ok (.aload_n 0, 1) := by decide +kernel
theorem dX8_init_37 : decode cX8_init 37 = .ok (.bipush 60, 2) := by decide +kernel
theorem dX8_init_39 : decode cX8_init 39 = .ok (.newarray .int, 2) := by decide +kernel
theorem dX8_init_41 : decode cX8_init 41 = .ok (.putfield 23, 3) := by decide +kernel
theorem dX8_init_44 : decode cX8_init 44 = .ok (.aload_n 0, 1) := by decide +kernel
theorem dX8_init_45 : decode cX8_init 45 = .ok (.bipush 6, 2) := by decide +kernel
theorem dX8_init_47 : decode cX8_init 47 = .ok (.newarray .int, 2) := by decide +kernel
theorem dX8_init_49 : decode cX8_init 49 = .ok (.putfield 26, 3) := by decide +kernel
theorem dX8_init_52 : decode cX8_init 52 = .ok (.aload_n 0, 1) := by decide +kernel
theorem dX8_init_53 : decode cX8_init 53 = .ok (.sipush 360, 3) := by decide +kernel
theorem dX8_init_56 : decode cX8_init 56 = .ok (.newarray .int, 2) := by decide +kernel
theorem dX8_init_58 : decode cX8_init 58 = .ok (.putfield 29, 3) := by decide +kernel
theorem dX8_init_61 : decode cX8_init 61 = .ok (.aload_n 0, 1) := by decide +kernel
theorem dX8_init_62 : decode cX8_init 62 = .ok (.sipush 360, 3) := by decide +kernel
theorem dX8_init_65 : decode cX8_init 65 = .ok (.newarray .long, 2) := by decide +kernel
theorem dX8_init_67 : decode cX8_init 67 = .ok (.putfield 32, 3) := by decide +kernel
theorem dX8_init_70 : decode cX8_init 70 = .ok (.aload_n 0, 1) := by decide +kernel
theorem dX8_init_71 : decode cX8_init 71 = .ok (.sipush 360, 3) := by decide +kernel
theorem dX8_init_74 : decode cX8_init 74 = .ok (.newarray .int, 2) := by decide +kernel
theorem dX8_init_76 : decode cX8_init 76 = .ok (.putfield 35, 3) := by decide +kernel
theorem dX8_init_79 : decode cX8_init 79 = .ok (.aload_n 0, 1) := by decide +kernel
theorem dX8_init_80 : decode cX8_init 80 = .ok (.sipush 360, 3) := by decide +kernel
theorem dX8_init_83 : decode cX8_init 83 = .ok (.newarray .int, 2) := by decide +kernel
theorem dX8_init_85 : decode cX8_init 85 = .ok (.putfield 38, 3) := by decide +kernel
theorem dX8_init_88 : decode cX8_init 88 = .ok (.aload_n 0, 1) := by decide +kernel
theorem dX8_init_89 : decode cX8_init 89 = .ok (.sipush 1024, 3) := by decide +kernel
theorem dX8_init_92 : decode cX8_init 92 = .ok (.newarray .int, 2) := by decide +kernel
theorem dX8_init_94 : decode cX8_init 94 = .ok (.putfield 41, 3) := by decide +kernel
theorem dX8_init_97 : decode cX8_init 97 = .ok (.aload_n 0, 1) := by decide +kernel
theorem dX8_init_98 : decode cX8_init 98 = .ok (.sipush 1024, 3) := by decide +kernel
theorem dX8_init_101 : decode cX8_init 101 = .ok (.newarray .long, 2) := by decide +kernel
theorem dX8_init_103 : decode cX8_init 103 = .ok (.putfield 44, 3) := by decide +kernel
theorem dX8_init_106 : decode cX8_init 106 = .ok (.aload_n 0, 1) := by decide +kernel
theorem dX8_init_107 : decode cX8_init 107 = .ok (.sipush 12006, 3) := by decide +kernel
theorem dX8_init_110 : decode cX8_init 110 = .ok (.newarray .int, 2) := by decide +kernel
theorem dX8_init_112 : decode cX8_init 112 = .ok (.putfield 47, 3) := by decide +kernel
theorem dX8_init_115 : decode cX8_init 115 = .ok (.aload_n 0, 1) := by decide +kernel
theorem dX8_init_116 : decode cX8_init 116 = .ok (.bipush 6, 2) := by decide +kernel
theorem dX8_init_118 : decode cX8_init 118 = .ok (.newarray .int, 2) := by decide +kernel
theorem dX8_init_120 : decode cX8_init 120 = .ok (.putfield 50, 3) := by decide +kernel
theorem dX8_init_123 : decode cX8_init 123 = .ok (.aload_n 0, 1) := by decide +kernel
theorem dX8_init_124 : decode cX8_init 124 = .ok (.bipush 6, 2) := by decide +kernel
theorem dX8_init_126 : decode cX8_init 126 = .ok (.newarray .int, 2) := by decide +kernel
theorem dX8_init_128 : decode cX8_init 128 = .ok (.putfield 53, 3) := by decide +kernel
theorem dX8_init_131 : decode cX8_init 131 = .ok (.aload_n 0, 1) := by decide +kernel
theorem dX8_init_132 : decode cX8_init 132 = .ok (.sipush 600, 3) := by decide +kernel
theorem dX8_init_135 : decode cX8_init 135 = .ok (.newarray .int, 2) := by decide +kernel
theorem dX8_init_137 : decode cX8_init 137 = .ok (.putfield 56, 3) := by decide +kernel
theorem dX8_init_140 : decode cX8_init 140 = .ok (.aload_n 0, 1) := by decide +kernel
theorem dX8_init_141 : decode cX8_init 141 = .ok (.sipush 600, 3) := by decide +kernel
theorem dX8_init_144 : decode cX8_init 144 = .ok (.newarray .long, 2) := by decide +kernel
theorem dX8_init_146 : decode cX8_init 146 = .ok (.putfield 59, 3) := by decide +kernel
theorem dX8_init_149 : decode cX8_init 149 = .ok (.aload_n 0, 1) := by decide +kernel
theorem dX8_init_150 : decode cX8_init 150 = .ok (.bipush 6, 2) := by decide +kernel
theorem dX8_init_152 : decode cX8_init 152 = .ok (.newarray .int, 2) := by decide +kernel
theorem dX8_init_154 : decode cX8_init 154 = .ok (.putfield 62, 3) := by decide +kernel
theorem dX8_init_157 : decode cX8_init 157 = .ok (.aload_n 0, 1) := by decide +kernel
theorem dX8_init_158 : decode cX8_init 158 = .ok (.sipush 600, 3) := by decide +kernel
theorem dX8_init_161 : decode cX8_init 161 = .ok (.newarray .int, 2) := by decide +kernel
theorem dX8_init_163 : decode cX8_init 163 = .ok (.putfield 65, 3) := by decide +kernel
theorem dX8_init_166 : decode cX8_init 166 = .ok (.aload_n 0, 1) := by decide +kernel
theorem dX8_init_167 : decode cX8_init 167 = .ok (.sipush 600, 3) := by decide +kernel
theorem dX8_init_170 : decode cX8_init 170 = .ok (.newarray .long, 2) := by decide +kernel
theorem dX8_init_172 : decode cX8_init 172 = .ok (.putfield 68, 3) := by decide +kernel
theorem dX8_init_175 : decode cX8_init 175 = .ok (.aload_n 0, 1) := by decide +kernel
theorem dX8_init_176 : decode cX8_init 176 = .ok (.bipush 6, 2) := by decide +kernel
theorem dX8_init_178 : decode cX8_init 178 = .ok (.newarray .int, 2) := by decide +kernel
theorem dX8_init_180 : decode cX8_init 180 = .ok (.putfield 71, 3) := by decide +kernel
theorem dX8_init_183 : decode cX8_init 183 = .ok (.aload_n 0, 1) := by decide +kernel
theorem dX8_init_184 : decode cX8_init 184 = .ok (.ldc 74, 2) := by decide +kernel
theorem dX8_init_186 : decode cX8_init 186 = .ok (.newarray .int, 2) := by decide +kernel
theorem dX8_init_188 : decode cX8_init 188 = .ok (.putfield 75, 3) := by decide +kernel
theorem dX8_init_191 : decode cX8_init 191 = .ok (.aload_n 0, 1) := by decide +kernel
theorem dX8_init_192 : decode cX8_init 192 = .ok (.sipush 256, 3) := by decide +kernel
theorem dX8_init_195 : decode cX8_init 195 = .ok (.newarray .int, 2) := by decide +kernel
theorem dX8_init_197 : decode cX8_init 197 = .ok (.putfield 78, 3) := by decide +kernel
theorem dX8_init_200 : decode cX8_init 200 = .ok (.aload_n 0, 1) := by decide +kernel
theorem dX8_init_201 : decode cX8_init 201 = .ok (.ldc 81, 2) := by decide +kernel
theorem dX8_init_203 : decode cX8_init 203 = .ok (.newarray .int, 2) := by decide +kernel
theorem dX8_init_205 : decode cX8_init 205 = .ok (.putfield 82, 3) := by decide +kernel
theorem dX8_init_208 : decode cX8_init 208 = .ok (.aload_n 0, 1) := by decide +kernel
theorem dX8_init_209 : decode cX8_init 209 = .ok (.sipush 512, 3) := by decide +kernel
theorem dX8_init_212 : decode cX8_init 212 = .ok (.newarray .int, 2) := by decide +kernel
theorem dX8_init_214 : decode cX8_init 214 = .ok (.putfield 85, 3) := by decide +kernel
theorem dX8_init_217 : decode cX8_init 217 = .ok (.aload_n 0, 1) := by decide +kernel
theorem dX8_init_218 : decode cX8_init 218 = .ok (.sipush 256, 3) := by decide +kernel
theorem dX8_init_221 : decode cX8_init 221 = .ok (.newarray .int, 2) := by decide +kernel
theorem dX8_init_223 : decode cX8_init 223 = .ok (.putfield 88, 3) := by decide +kernel
theorem dX8_init_226 : decode cX8_init 226 = .ok (.aload_n 0, 1) := by decide +kernel
theorem dX8_init_227 : decode cX8_init 227 = .ok (.bipush 100, 2) := by decide +kernel
theorem dX8_init_229 : decode cX8_init 229 = .ok (.newarray .int, 2) := by decide +kernel
theorem dX8_init_231 : decode cX8_init 231 = .ok (.putfield 91, 3) := by decide +kernel
theorem dX8_init_234 : decode cX8_init 234 = .ok (.aload_n 0, 1) := by decide +kernel
theorem dX8_init_235 : decode cX8_init 235 = .ok (.bipush 100, 2) := by decide +kernel
theorem dX8_init_237 : decode cX8_init 237 = .ok (.newarray .long, 2) := by decide +kernel
theorem dX8_init_239 : decode cX8_init 239 = .ok (.putfield 94, 3) := by decide +kernel
theorem dX8_init_242 : decode cX8_init 242 = .ok (.return_, 1) := by decide +kernel
theorem dX8_thrown_0 : decode cX8_thrown 0 = .ok (.aload_n 0, 1) := by decide +kernel
theorem dX8_thrown_1 : decode cX8_thrown 1 = .ok (.getfield 97, 3) := by decide +kernel
theorem dX8_thrown_4 : decode cX8_thrown 4 = .ok (.ireturn, 1) := by decide +kernel
theorem dX8_isNode_0 : decode cX8_isNode 0 = .ok (.iload_n 1, 1) := by decide +kernel
theorem dX8_isNode_1 : decode cX8_isNode 1 = .ok (.ifCond .lt 15, 3) := by decide +kernel
theorem dX8_isNode_4 : decode cX8_isNode 4 = .ok (.iload_n 1, 1) := by decide +kernel
theorem dX8_isNode_5 : decode cX8_isNode 5 = .ok (.aload_n 0, 1) := by decide +kernel
theorem dX8_isNode_6 : decode cX8_isNode 6 = .ok (.getfield 101, 3) := by decide +kernel
theorem dX8_isNode_9 : decode cX8_isNode 9 = .ok (.if_icmp .ge 7, 3) := by decide +kernel
theorem dX8_isNode_12 : decode cX8_isNode 12 = .ok (.iconst 1, 1) := by decide +kernel
theorem dX8_isNode_13 : decode cX8_isNode 13 = .ok (.goto 4, 3) := by decide +kernel
theorem dX8_isNode_16 : decode cX8_isNode 16 = .ok (.iconst 0, 1) := by decide +kernel
theorem dX8_isNode_17 : decode cX8_isNode 17 = .ok (.ireturn, 1) := by decide +kernel
theorem dX8_make_0 : decode cX8_make 0 = .ok (.aload_n 0, 1) := by decide +kernel
theorem dX8_make_1 : decode cX8_make 1 = .ok (.getfield 101, 3) := by decide +kernel
theorem dX8_make_4 : decode cX8_make 4 = .ok (.bipush 60, 2) := by decide +kernel
theorem dX8_make_6 : decode cX8_make 6 = .ok (.if_icmp .ne 5, 3) := by decide +kernel
theorem dX8_make_9 : decode cX8_make 9 = .ok (.iconst (-1), 1) := by decide +kernel
theorem dX8_make_10 : decode cX8_make 10 = .ok (.ireturn, 1) := by decide +kernel
theorem dX8_make_11 : decode cX8_make 11 = .ok (.aload_n 0, 1) := by decide +kernel
theorem dX8_make_12 : decode cX8_make 12 = .ok (.getfield 9, 3) := by decide +kernel
theorem dX8_make_15 : decode cX8_make 15 = .ok (.aload_n 0, 1) := by decide +kernel
theorem dX8_make_16 : decode cX8_make 16 = .ok (.getfield 101, 3) := by decide +kernel
theorem dX8_make_19 : decode cX8_make 19 = .ok (.iload_n 1, 1) := by decide +kernel
theorem dX8_make_20 : decode cX8_make 20 = .ok (.iastore, 1) := by decide +kernel
theorem dX8_make_21 : decode cX8_make 21 = .ok (.aload_n 0, 1) := by decide +kernel
theorem dX8_make_22 : decode cX8_make 22 = .ok (.getfield 13, 3) := by decide +kernel
theorem dX8_make_25 : decode cX8_make 25 = .ok (.aload_n 0, 1) := by decide +kernel
theorem dX8_make_26 : decode cX8_make 26 = .ok (.getfield 101, 3) := by decide +kernel
theorem dX8_make_29 : decode cX8_make 29 = .ok (.lload_n 2, 1) := by decide +kernel
theorem dX8_make_30 : decode cX8_make 30 = .ok (.lastore, 1) := by decide +kernel
theorem dX8_make_31 : decode cX8_make 31 = .ok (.aload_n 0, 1) := by decide +kernel
theorem dX8_make_32 : decode cX8_make 32 = .ok (.getfield 17, 3) := by decide +kernel
theorem dX8_make_35 : decode cX8_make 35 = .ok (.aload_n 0, 1) := by decide +kernel
theorem dX8_make_36 : decode cX8_make 36 = .ok (.getfield 101, 3) := by decide +kernel
theorem dX8_make_39 : decode cX8_make 39 = .ok (.iload 4, 2) := by decide +kernel
theorem dX8_make_41 : decode cX8_make 41 = .ok (.iastore, 1) := by decide +kernel
theorem dX8_make_42 : decode cX8_make 42 = .ok (.aload_n 0, 1) := by decide +kernel
theorem dX8_make_43 : decode cX8_make 43 = .ok (.getfield 20, 3) := by decide +kernel
theorem dX8_make_46 : decode cX8_make 46 = .ok (.aload_n 0, 1) := by decide +kernel
theorem dX8_make_47 : decode cX8_make 47 = .ok (.getfield 101, 3) := by decide +kernel
theorem dX8_make_50 : decode cX8_make 50 = .ok (.iload 5, 2) := by decide +kernel
theorem dX8_make_52 : decode cX8_make 52 = .ok (.iastore, 1) := by decide +kernel
theorem dX8_make_53 : decode cX8_make 53 = .ok (.aload_n 0, 1) := by decide +kernel
theorem dX8_make_54 : decode cX8_make 54 = .ok (.getfield 23, 3) := by decide +kernel
theorem dX8_make_57 : decode cX8_make 57 = .ok (.aload_n 0, 1) := by decide +kernel
theorem dX8_make_58 : decode cX8_make 58 = .ok (.getfield 101, 3) := by decide +kernel
theorem dX8_make_61 : decode cX8_make 61 = .ok (.iload 6, 2) := by decide +kernel
theorem dX8_make_63 : decode cX8_make 63 = .ok (.iastore, 1) := by decide +kernel
theorem dX8_make_64 : decode cX8_make 64 = .ok (.aload_n 0, 1) := by decide +kernel
theorem dX8_make_65 : decode cX8_make 65 = .ok (.dup, 1) := by decide +kernel
theorem dX8_make_66 : decode cX8_make 66 = .ok (.getfield 101, 3) := by decide +kernel
theorem dX8_make_69 : decode cX8_make 69 = .ok (.iconst 1, 1) := by decide +kernel
theorem dX8_make_70 : decode cX8_make 70 = .ok (.iadd, 1) := by decide +kernel
theorem dX8_make_71 : decode cX8_make 71 = .ok (.putfield 101, 3) := by decide +kernel
theorem dX8_make_74 : decode cX8_make 74 = .ok (.aload_n 0, 1) := by decide +kernel
theorem dX8_make_75 : decode cX8_make 75 = .ok (.getfield 101, 3) := by decide +kernel
theorem dX8_make_78 : decode cX8_make 78 = .ok (.iconst 1, 1) := by decide +kernel
theorem dX8_make_79 : decode cX8_make 79 = .ok (.isub, 1) := by decide +kernel
theorem dX8_make_80 : decode cX8_make 80 = .ok (.ireturn, 1) := by decide +kernel
theorem dX8_refused_0 : decode cX8_refused 0 = .ok (.aload_n 0, 1) := by decide +kernel
theorem dX8_refused_1 : decode cX8_refused 1 = .ok (.iload_n 1, 1) := by decide +kernel
theorem dX8_refused_2 : decode cX8_refused 2 = .ok (.ifCond .eq 7, 3) := by decide +kernel
theorem dX8_refused_5 : decode cX8_refused 5 = .ok (.iconst 1, 1) := by decide +kernel
theorem dX8_refused_6 : decode cX8_refused 6 = .ok (.goto 4, 3) := by decide +kernel
theorem dX8_refused_9 : decode cX8_refused 9 = .ok (.iconst 0, 1) := by decide +kernel
theorem dX8_refused_10 : decode cX8_refused 10 = .ok (.putfield 97, 3) := by decide +kernel
theorem dX8_refused_13 : decode cX8_refused 13 = .ok (.iload_n 1, 1) := by decide +kernel
theorem dX8_refused_14 : decode cX8_refused 14 = .ok (.ireturn, 1) := by decide +kernel
theorem dX8_number_0 : decode cX8_number 0 = .ok (.aload_n 0, 1) := by decide +kernel
theorem dX8_number_1 : decode cX8_number 1 = .ok (.iconst 0, 1) := by decide +kernel
theorem dX8_number_2 : decode cX8_number 2 = .ok (.putfield 97, 3) := by decide +kernel
theorem dX8_number_5 : decode cX8_number 5 = .ok (.aload_n 0, 1) := by decide +kernel
theorem dX8_number_6 : decode cX8_number 6 = .ok (.iconst 0, 1) := by decide +kernel
theorem dX8_number_7 : decode cX8_number 7 = .ok (.lload_n 1, 1) := by decide +kernel
theorem dX8_number_8 : decode cX8_number 8 = .ok (.iconst (-1), 1) := by decide +kernel
theorem dX8_number_9 : decode cX8_number 9 = .ok (.iconst (-1), 1) := by decide +kernel
theorem dX8_number_10 : decode cX8_number 10 = .ok (.iconst (-1), 1) := by decide +kernel
theorem dX8_number_11 : decode cX8_number 11 = .ok (.invokevirtual 104, 3) := by decide +kernel
theorem dX8_number_14 : decode cX8_number 14 = .ok (.ireturn, 1) := by decide +kernel
theorem dX8_choice_0 : decode cX8_choice 0 = .ok (.aload_n 0, 1) := by decide +kernel
theorem dX8_choice_1 : decode cX8_choice 1 = .ok (.aload_n 0, 1) := by decide +kernel
theorem dX8_choice_2 : decode cX8_choice 2 = .ok (.iload_n 1, 1) := by decide +kernel
theorem dX8_choice_3 : decode cX8_choice 3 = .ok (.invokevirtual 108, 3) := by decide +kernel
theorem dX8_choice_6 : decode cX8_choice 6 = .ok (.ifCond .eq 11, 3) := by decide +kernel
theorem dX8_choice_9 : decode cX8_choice 9 = .ok (.aload_n 0, 1) := by decide +kernel
theorem dX8_choice_10 : decode cX8_choice 10 = .ok (.iload_n 2, 1) := by decide +kernel
theorem dX8_choice_11 : decode cX8_choice 11 = .ok (.invokevirtual 108, 3) := by decide +kernel
theorem dX8_choice_14 : decode cX8_choice 14 = .ok (.ifCond .ne 7, 3) := by decide +kernel
theorem dX8_choice_17 : decode cX8_choice 17 = .ok (.iconst 1, 1) := by decide +kernel
theorem dX8_choice_18 : decode cX8_choice 18 = .ok (.goto 4, 3) := by decide +kernel
theorem dX8_choice_21 : decode cX8_choice 21 = .ok (.iconst 0, 1) := by decide +kernel
theorem dX8_choice_22 : decode cX8_choice 22 = .ok (.invokevirtual 112, 3) := by decide +kernel
theorem dX8_choice_25 : decode cX8_choice 25 = .ok (.ifCond .eq 7, 3) := by decide +kernel
theorem dX8_choice_28 : decode cX8_choice 28 = .ok (.iconst 0, 1) := by decide +kernel
theorem dX8_choice_29 : decode cX8_choice 29 = .ok (.goto 12, 3) := by decide +kernel
theorem dX8_choice_32 : decode cX8_choice 32 = .ok (.aload_n 0, 1) := by decide +kernel
theorem dX8_choice_33 : decode cX8_choice 33 = .ok (.iconst 1, 1) := by decide +kernel
theorem dX8_choice_34 : decode cX8_choice 34 = .ok (.lconst 0, 1) := by decide +kernel
theorem dX8_choice_35 : decode cX8_choice 35 = .ok (.iload_n 1, 1) := by decide +kernel
theorem dX8_choice_36 : decode cX8_choice 36 = .ok (.iload_n 2, 1) := by decide +kernel
theorem dX8_choice_37 : decode cX8_choice 37 = .ok (.iconst (-1), 1) := by decide +kernel
theorem dX8_choice_38 : decode cX8_choice 38 = .ok (.invokevirtual 104, 3) := by decide +kernel
theorem dX8_choice_41 : decode cX8_choice 41 = .ok (.ireturn, 1) := by decide +kernel
theorem dX8_fail_0 : decode cX8_fail 0 = .ok (.aload_n 0, 1) := by decide +kernel
theorem dX8_fail_1 : decode cX8_fail 1 = .ok (.iconst 0, 1) := by decide +kernel
theorem dX8_fail_2 : decode cX8_fail 2 = .ok (.putfield 97, 3) := by decide +kernel
theorem dX8_fail_5 : decode cX8_fail 5 = .ok (.aload_n 0, 1) := by decide +kernel
theorem dX8_fail_6 : decode cX8_fail 6 = .ok (.iconst 2, 1) := by decide +kernel
theorem dX8_fail_7 : decode cX8_fail 7 = .ok (.lconst 0, 1) := by decide +kernel
theorem dX8_fail_8 : decode cX8_fail 8 = .ok (.iconst (-1), 1) := by decide +kernel
theorem dX8_fail_9 : decode cX8_fail 9 = .ok (.iconst (-1), 1) := by decide +kernel
theorem dX8_fail_10 : decode cX8_fail 10 = .ok (.iconst (-1), 1) := by decide +kernel
theorem dX8_fail_11 : decode cX8_fail 11 = .ok (.invokevirtual 104, 3) := by decide +kernel
theorem dX8_fail_14 : decode cX8_fail 14 = .ok (.ireturn, 1) := by decide +kernel
theorem dX8_pair_0 : decode cX8_pair 0 = .ok (.aload_n 0, 1) := by decide +kernel
theorem dX8_pair_1 : decode cX8_pair 1 = .ok (.aload_n 0, 1) := by decide +kernel
theorem dX8_pair_2 : decode cX8_pair 2 = .ok (.iload_n 1, 1) := by decide +kernel
theorem dX8_pair_3 : decode cX8_pair 3 = .ok (.invokevirtual 108, 3) := by decide +kernel
theorem dX8_pair_6 : decode cX8_pair 6 = .ok (.ifCond .eq 11, 3) := by decide +kernel
theorem dX8_pair_9 : decode cX8_pair 9 = .ok (.aload_n 0, 1) := by decide +kernel
theorem dX8_pair_10 : decode cX8_pair 10 = .ok (.iload_n 2, 1) := by decide +kernel
theorem dX8_pair_11 : decode cX8_pair 11 = .ok (.invokevirtual 108, 3) := by decide +kernel
theorem dX8_pair_14 : decode cX8_pair 14 = .ok (.ifCond .ne 7, 3) := by decide +kernel
theorem dX8_pair_17 : decode cX8_pair 17 = .ok (.iconst 1, 1) := by decide +kernel
theorem dX8_pair_18 : decode cX8_pair 18 = .ok (.goto 4, 3) := by decide +kernel
theorem dX8_pair_21 : decode cX8_pair 21 = .ok (.iconst 0, 1) := by decide +kernel
theorem dX8_pair_22 : decode cX8_pair 22 = .ok (.invokevirtual 112, 3) := by decide +kernel
theorem dX8_pair_25 : decode cX8_pair 25 = .ok (.ifCond .eq 7, 3) := by decide +kernel
theorem dX8_pair_28 : decode cX8_pair 28 = .ok (.iconst 0, 1) := by decide +kernel
theorem dX8_pair_29 : decode cX8_pair 29 = .ok (.goto 12, 3) := by decide +kernel
theorem dX8_pair_32 : decode cX8_pair 32 = .ok (.aload_n 0, 1) := by decide +kernel
theorem dX8_pair_33 : decode cX8_pair 33 = .ok (.iconst 3, 1) := by decide +kernel
theorem dX8_pair_34 : decode cX8_pair 34 = .ok (.lconst 0, 1) := by decide +kernel
theorem dX8_pair_35 : decode cX8_pair 35 = .ok (.iload_n 1, 1) := by decide +kernel
theorem dX8_pair_36 : decode cX8_pair 36 = .ok (.iload_n 2, 1) := by decide +kernel
theorem dX8_pair_37 : decode cX8_pair 37 = .ok (.iconst (-1), 1) := by decide +kernel
theorem dX8_pair_38 : decode cX8_pair 38 = .ok (.invokevirtual 104, 3) := by decide +kernel
theorem dX8_pair_41 : decode cX8_pair 41 = .ok (.ireturn, 1) := by decide +kernel
theorem dX8_part_0 : decode cX8_part 0 = .ok (.aload_n 0, 1) := by decide +kernel
theorem dX8_part_1 : decode cX8_part 1 = .ok (.aload_n 0, 1) := by decide +kernel
theorem dX8_part_2 : decode cX8_part 2 = .ok (.iload_n 1, 1) := by decide +kernel
theorem dX8_part_3 : decode cX8_part 3 = .ok (.invokevirtual 108, 3) := by decide +kernel
theorem dX8_part_6 : decode cX8_part 6 = .ok (.ifCond .ne 7, 3) := by decide +kernel
theorem dX8_part_9 : decode cX8_part 9 = .ok (.iconst 1, 1) := by decide +kernel
theorem dX8_part_10 : decode cX8_part 10 = .ok (.goto 4, 3) := by decide +kernel
theorem dX8_part_13 : decode cX8_part 13 = .ok (.iconst 0, 1) := by decide +kernel
theorem dX8_part_14 : decode cX8_part 14 = .ok (.invokevirtual 112, 3) := by decide +kernel
theorem dX8_part_17 : decode cX8_part 17 = .ok (.ifCond .eq 7, 3) := by decide +kernel
theorem dX8_part_20 : decode cX8_part 20 = .ok (.iconst 0, 1) := by decide +kernel
theorem dX8_part_21 : decode cX8_part 21 = .ok (.goto 20, 3) := by decide +kernel
theorem dX8_part_24 : decode cX8_part 24 = .ok (.aload_n 0, 1) := by decide +kernel
theorem dX8_part_25 : decode cX8_part 25 = .ok (.iload_n 2, 1) := by decide +kernel
theorem dX8_part_26 : decode cX8_part 26 = .ok (.ifCond .eq 7, 3) := by decide +kernel
theorem dX8_part_29 : decode cX8_part 29 = .ok (.iconst 5, 1) := by decide +kernel
theorem dX8_part_30 : decode cX8_part 30 = .ok (.goto 4, 3) := by decide +kernel
theorem dX8_part_33 : decode cX8_part 33 = .ok (.iconst 4, 1) := by decide +kernel
theorem dX8_part_34 : decode cX8_part 34 = .ok (.lconst 0, 1) := by decide +kernel
theorem dX8_part_35 : decode cX8_part 35 = .ok (.iload_n 1, 1) := by decide +kernel
theorem dX8_part_36 : decode cX8_part 36 = .ok (.iconst (-1), 1) := by decide +kernel
theorem dX8_part_37 : decode cX8_part 37 = .ok (.iconst (-1), 1) := by decide +kernel
theorem dX8_part_38 : decode cX8_part 38 = .ok (.invokevirtual 104, 3) := by decide +kernel
theorem dX8_part_41 : decode cX8_part 41 = .ok (.ireturn, 1) := by decide +kernel
theorem dX8_op_0 : decode cX8_op 0 = .ok (.aload_n 0, 1) := by decide +kernel
theorem dX8_op_1 : decode cX8_op 1 = .ok (.aload_n 0, 1) := by decide +kernel
theorem dX8_op_2 : decode cX8_op 2 = .ok (.iload_n 2, 1) := by decide +kernel
theorem dX8_op_3 : decode cX8_op 3 = .ok (.invokevirtual 108, 3) := by decide +kernel
theorem dX8_op_6 : decode cX8_op 6 = .ok (.ifCond .eq 20, 3) := by decide +kernel
theorem dX8_op_9 : decode cX8_op 9 = .ok (.aload_n 0, 1) := by decide +kernel
theorem dX8_op_10 : decode cX8_op 10 = .ok (.iload_n 3, 1) := by decide +kernel
theorem dX8_op_11 : decode cX8_op 11 = .ok (.invokevirtual 108, 3) := by decide +kernel
theorem dX8_op_14 : decode cX8_op 14 = .ok (.ifCond .eq 12, 3) := by decide +kernel
theorem dX8_op_17 : decode cX8_op 17 = .ok (.iload_n 1, 1) := by decide +kernel
theorem dX8_op_18 : decode cX8_op 18 = .ok (.ifCond .lt 8, 3) := by decide +kernel
theorem dX8_op_21 : decode cX8_op 21 = .ok (.iload_n 1, 1) := by decide +kernel
theorem dX8_op_22 : decode cX8_op 22 = .ok (.iconst 5, 1) := by decide +kernel
theorem dX8_op_23 : decode cX8_op 23 = .ok (.if_icmp .le 7, 3) := by decide +kernel
theorem dX8_op_26 : decode cX8_op 26 = .ok (.iconst 1, 1) := by decide +kernel
theorem dX8_op_27 : decode cX8_op 27 = .ok (.goto 4, 3) := by decide +kernel
theorem dX8_op_30 : decode cX8_op 30 = .ok (.iconst 0, 1) := by decide +kernel
theorem dX8_op_31 : decode cX8_op 31 = .ok (.invokevirtual 112, 3) := by decide +kernel
theorem dX8_op_34 : decode cX8_op 34 = .ok (.ifCond .eq 7, 3) := by decide +kernel
theorem dX8_op_37 : decode cX8_op 37 = .ok (.iconst 0, 1) := by decide +kernel
theorem dX8_op_38 : decode cX8_op 38 = .ok (.goto 13, 3) := by decide +kernel
theorem dX8_op_41 : decode cX8_op 41 = .ok (.aload_n 0, 1) := by decide +kernel
theorem dX8_op_42 : decode cX8_op 42 = .ok (.bipush 6, 2) := by decide +kernel
theorem dX8_op_44 : decode cX8_op 44 = .ok (.lconst 0, 1) := by decide +kernel
theorem dX8_op_45 : decode cX8_op 45 = .ok (.iload_n 2, 1) := by decide +kernel
theorem dX8_op_46 : decode cX8_op 46 = .ok (.iload_n 3, 1) := by decide +kernel
theorem dX8_op_47 : decode cX8_op 47 = .ok (.iload_n 1, 1) := by decide +kernel
theorem dX8_op_48 : decode cX8_op 48 = .ok (.invokevirtual 104, 3) := by decide +kernel
theorem dX8_op_51 : decode cX8_op 51 = .ok (.ireturn, 1) := by decide +kernel
theorem dX8_when_0 : decode cX8_when 0 = .ok (.aload_n 0, 1) := by decide +kernel
theorem dX8_when_1 : decode cX8_when 1 = .ok (.aload_n 0, 1) := by decide +kernel
theorem dX8_when_2 : decode cX8_when 2 = .ok (.iload_n 1, 1) := by decide +kernel
theorem dX8_when_3 : decode cX8_when 3 = .ok (.invokevirtual 108, 3) := by decide +kernel
theorem dX8_when_6 : decode cX8_when 6 = .ok (.ifCond .eq 19, 3) := by decide +kernel
theorem dX8_when_9 : decode cX8_when 9 = .ok (.aload_n 0, 1) := by decide +kernel
theorem dX8_when_10 : decode cX8_when 10 = .ok (.iload_n 2, 1) := by decide +kernel
theorem dX8_when_11 : decode cX8_when 11 = .ok (.invokevirtual 108, 3) := by decide +kernel
theorem dX8_when_14 : decode cX8_when 14 = .ok (.ifCond .eq 11, 3) := by decide +kernel
theorem dX8_when_17 : decode cX8_when 17 = .ok (.aload_n 0, 1) := by decide +kernel
theorem dX8_when_18 : decode cX8_when 18 = .ok (.iload_n 3, 1) := by decide +kernel
theorem dX8_when_19 : decode cX8_when 19 = .ok (.invokevirtual 108, 3) := by decide +kernel
theorem dX8_when_22 : decode cX8_when 22 = .ok (.ifCond .ne 7, 3) := by decide +kernel
theorem dX8_when_25 : decode cX8_when 25 = .ok (.iconst 1, 1) := by decide +kernel
theorem dX8_when_26 : decode cX8_when 26 = .ok (.goto 4, 3) := by decide +kernel
theorem dX8_when_29 : decode cX8_when 29 = .ok (.iconst 0, 1) := by decide +kernel
theorem dX8_when_30 : decode cX8_when 30 = .ok (.invokevirtual 112, 3) := by decide +kernel
theorem dX8_when_33 : decode cX8_when 33 = .ok (.ifCond .eq 7, 3) := by decide +kernel
theorem dX8_when_36 : decode cX8_when 36 = .ok (.iconst 0, 1) := by decide +kernel
theorem dX8_when_37 : decode cX8_when 37 = .ok (.goto 13, 3) := by decide +kernel
theorem dX8_when_40 : decode cX8_when 40 = .ok (.aload_n 0, 1) := by decide +kernel
theorem dX8_when_41 : decode cX8_when 41 = .ok (.bipush 7, 2) := by decide +kernel
theorem dX8_when_43 : decode cX8_when 43 = .ok (.lconst 0, 1) := by decide +kernel
theorem dX8_when_44 : decode cX8_when 44 = .ok (.iload_n 1, 1) := by decide +kernel
theorem dX8_when_45 : decode cX8_when 45 = .ok (.iload_n 2, 1) := by decide +kernel
theorem dX8_when_46 : decode cX8_when 46 = .ok (.iload_n 3, 1) := by decide +kernel
theorem dX8_when_47 : decode cX8_when 47 = .ok (.invokevirtual 104, 3) := by decide +kernel
theorem dX8_when_50 : decode cX8_when 50 = .ok (.ireturn, 1) := by decide +kernel
theorem dX8_set_0 : decode cX8_set 0 = .ok (.aload_n 0, 1) := by decide +kernel
theorem dX8_set_1 : decode cX8_set 1 = .ok (.aload_n 0, 1) := by decide +kernel
theorem dX8_set_2 : decode cX8_set 2 = .ok (.iload_n 1, 1) := by decide +kernel
theorem dX8_set_3 : decode cX8_set 3 = .ok (.invokevirtual 108, 3) := by decide +kernel
theorem dX8_set_6 : decode cX8_set 6 = .ok (.ifCond .eq 15, 3) := by decide +kernel
theorem dX8_set_9 : decode cX8_set 9 = .ok (.iload_n 2, 1) := by decide +kernel
theorem dX8_set_10 : decode cX8_set 10 = .ok (.ifCond .lt 11, 3) := by decide +kernel
theorem dX8_set_13 : decode cX8_set 13 = .ok (.iload_n 2, 1) := by decide +kernel
theorem dX8_set_14 : decode cX8_set 14 = .ok (.aload_n 0, 1) := by decide +kernel
theorem dX8_set_15 : decode cX8_set 15 = .ok (.getfield 101, 3) := by decide +kernel
theorem dX8_set_18 : decode cX8_set 18 = .ok (.if_icmp .le 7, 3) := by decide +kernel
theorem dX8_set_21 : decode cX8_set 21 = .ok (.iconst 1, 1) := by decide +kernel
theorem dX8_set_22 : decode cX8_set 22 = .ok (.goto 4, 3) := by decide +kernel
theorem dX8_set_25 : decode cX8_set 25 = .ok (.iconst 0, 1) := by decide +kernel
theorem dX8_set_26 : decode cX8_set 26 = .ok (.invokevirtual 112, 3) := by decide +kernel
theorem dX8_set_29 : decode cX8_set 29 = .ok (.ifCond .eq 7, 3) := by decide +kernel
theorem dX8_set_32 : decode cX8_set 32 = .ok (.iconst 0, 1) := by decide +kernel
theorem dX8_set_33 : decode cX8_set 33 = .ok (.goto 13, 3) := by decide +kernel
theorem dX8_set_36 : decode cX8_set 36 = .ok (.aload_n 0, 1) := by decide +kernel
theorem dX8_set_37 : decode cX8_set 37 = .ok (.bipush 8, 2) := by decide +kernel
theorem dX8_set_39 : decode cX8_set 39 = .ok (.lconst 0, 1) := by decide +kernel
theorem dX8_set_40 : decode cX8_set 40 = .ok (.iload_n 1, 1) := by decide +kernel
theorem dX8_set_41 : decode cX8_set 41 = .ok (.iload_n 2, 1) := by decide +kernel
theorem dX8_set_42 : decode cX8_set 42 = .ok (.iconst (-1), 1) := by decide +kernel
theorem dX8_set_43 : decode cX8_set 43 = .ok (.invokevirtual 104, 3) := by decide +kernel
theorem dX8_set_46 : decode cX8_set 46 = .ok (.ireturn, 1) := by decide +kernel
theorem dX8_fold_0 : decode cX8_fold 0 = .ok (.aload_n 0, 1) := by decide +kernel
theorem dX8_fold_1 : decode cX8_fold 1 = .ok (.aload_n 0, 1) := by decide +kernel
theorem dX8_fold_2 : decode cX8_fold 2 = .ok (.iload_n 2, 1) := by decide +kernel
theorem dX8_fold_3 : decode cX8_fold 3 = .ok (.invokevirtual 108, 3) := by decide +kernel
theorem dX8_fold_6 : decode cX8_fold 6 = .ok (.ifCond .eq 12, 3) := by decide +kernel
theorem dX8_fold_9 : decode cX8_fold 9 = .ok (.iload_n 1, 1) := by decide +kernel
theorem dX8_fold_10 : decode cX8_fold 10 = .ok (.ifCond .lt 8, 3) := by decide +kernel
theorem dX8_fold_13 : decode cX8_fold 13 = .ok (.iload_n 1, 1) := by decide +kernel
theorem dX8_fold_14 : decode cX8_fold 14 = .ok (.iconst 2, 1) := by decide +kernel
theorem dX8_fold_15 : decode cX8_fold 15 = .ok (.if_icmp .le 7, 3) := by decide +kernel
theorem dX8_fold_18 : decode cX8_fold 18 = .ok (.iconst 1, 1) := by decide +kernel
theorem dX8_fold_19 : decode cX8_fold 19 = .ok (.goto 4, 3) := by decide +kernel
theorem dX8_fold_22 : decode cX8_fold 22 = .ok (.iconst 0, 1) := by decide +kernel
theorem dX8_fold_23 : decode cX8_fold 23 = .ok (.invokevirtual 112, 3) := by decide +kernel
theorem dX8_fold_26 : decode cX8_fold 26 = .ok (.ifCond .eq 7, 3) := by decide +kernel
theorem dX8_fold_29 : decode cX8_fold 29 = .ok (.iconst 0, 1) := by decide +kernel
theorem dX8_fold_30 : decode cX8_fold 30 = .ok (.goto 13, 3) := by decide +kernel
theorem dX8_fold_33 : decode cX8_fold 33 = .ok (.aload_n 0, 1) := by decide +kernel
theorem dX8_fold_34 : decode cX8_fold 34 = .ok (.bipush 9, 2) := by decide +kernel
theorem dX8_fold_36 : decode cX8_fold 36 = .ok (.lconst 0, 1) := by decide +kernel
theorem dX8_fold_37 : decode cX8_fold 37 = .ok (.iload_n 2, 1) := by decide +kernel
theorem dX8_fold_38 : decode cX8_fold 38 = .ok (.iload_n 1, 1) := by decide +kernel
theorem dX8_fold_39 : decode cX8_fold 39 = .ok (.iconst (-1), 1) := by decide +kernel
theorem dX8_fold_40 : decode cX8_fold 40 = .ok (.invokevirtual 104, 3) := by decide +kernel
theorem dX8_fold_43 : decode cX8_fold 43 = .ok (.ireturn, 1) := by decide +kernel
theorem dX8_clear_0 : decode cX8_clear 0 = .ok (.aload_n 0, 1) := by decide +kernel
theorem dX8_clear_1 : decode cX8_clear 1 = .ok (.iconst 0, 1) := by decide +kernel
theorem dX8_clear_2 : decode cX8_clear 2 = .ok (.putfield 97, 3) := by decide +kernel
theorem dX8_clear_5 : decode cX8_clear 5 = .ok (.aload_n 0, 1) := by decide +kernel
theorem dX8_clear_6 : decode cX8_clear 6 = .ok (.getfield 101, 3) := by decide +kernel
theorem dX8_clear_9 : decode cX8_clear 9 = .ok (.istore_n 1, 1) := by decide +kernel
theorem dX8_clear_10 : decode cX8_clear 10 = .ok (.aload_n 0, 1) := by decide +kernel
theorem dX8_clear_11 : decode cX8_clear 11 = .ok (.iconst 0, 1) := by decide +kernel
theorem dX8_clear_12 : decode cX8_clear 12 = .ok (.putfield 101, 3) := by decide +kernel
theorem dX8_clear_15 : decode cX8_clear 15 = .ok (.aload_n 0, 1) := by decide +kernel
theorem dX8_clear_16 : decode cX8_clear 16 = .ok (.invokevirtual 116, 3) := by decide +kernel
theorem dX8_clear_19 : decode cX8_clear 19 = .ok (.iload_n 1, 1) := by decide +kernel
theorem dX8_clear_20 : decode cX8_clear 20 = .ok (.ireturn, 1) := by decide +kernel
theorem dX8_node_0 : decode cX8_node 0 = .ok (.aload_n 0, 1) := by decide +kernel
theorem dX8_node_1 : decode cX8_node 1 = .ok (.aload_n 0, 1) := by decide +kernel
theorem dX8_node_2 : decode cX8_node 2 = .ok (.iload_n 1, 1) := by decide +kernel
theorem dX8_node_3 : decode cX8_node 3 = .ok (.invokevirtual 108, 3) := by decide +kernel
theorem dX8_node_6 : decode cX8_node 6 = .ok (.ifCond .eq 12, 3) := by decide +kernel
theorem dX8_node_9 : decode cX8_node 9 = .ok (.iload_n 2, 1) := by decide +kernel
theorem dX8_node_10 : decode cX8_node 10 = .ok (.ifCond .lt 8, 3) := by decide +kernel
theorem dX8_node_13 : decode cX8_node 13 = .ok (.iload_n 2, 1) := by decide +kernel
theorem dX8_node_14 : decode cX8_node 14 = .ok (.iconst 3, 1) := by decide +kernel
theorem dX8_node_15 : decode cX8_node 15 = .ok (.if_icmp .le 7, 3) := by decide +kernel
theorem dX8_node_18 : decode cX8_node 18 = .ok (.iconst 1, 1) := by decide +kernel
theorem dX8_node_19 : decode cX8_node 19 = .ok (.goto 4, 3) := by decide +kernel
theorem dX8_node_22 : decode cX8_node 22 = .ok (.iconst 0, 1) := by decide +kernel
theorem dX8_node_23 : decode cX8_node 23 = .ok (.invokevirtual 112, 3) := by decide +kernel
theorem dX8_node_26 : decode cX8_node 26 = .ok (.ifCond .eq 5, 3) := by decide +kernel
theorem dX8_node_29 : decode cX8_node 29 = .ok (.iconst 0, 1) := by decide +kernel
theorem dX8_node_30 : decode cX8_node 30 = .ok (.ireturn, 1) := by decide +kernel
theorem dX8_node_31 : decode cX8_node 31 = .ok (.iload_n 2, 1) := by decide +kernel
theorem dX8_node_32 : decode cX8_node 32 = .ok (.ifCond .ne 12, 3) := by decide +kernel
theorem dX8_node_35 : decode cX8_node 35 = .ok (.aload_n 0, 1) := by decide +kernel
theorem dX8_node_36 : decode cX8_node 36 = .ok (.getfield 9, 3) := by decide +kernel
theorem dX8_node_39 : decode cX8_node 39 = .ok (.iload_n 1, 1) := by decide +kernel
theorem dX8_node_40 : decode cX8_node 40 = .ok (.iaload, 1) := by decide +kernel
theorem dX8_node_41 : decode cX8_node 41 = .ok (.goto 37, 3) := by decide +kernel
theorem dX8_node_44 : decode cX8_node 44 = .ok (.iload_n 2, 1) := by decide +kernel
theorem dX8_node_45 : decode cX8_node 45 = .ok (.iconst 1, 1) := by decide +kernel
theorem dX8_node_46 : decode cX8_node 46 = .ok (.if_icmp .ne 12, 3) := by decide +kernel
theorem dX8_node_49 : decode cX8_node 49 = .ok (.aload_n 0, 1) := by decide +kernel
theorem dX8_node_50 : decode cX8_node 50 = .ok (.getfield 17, 3) := by decide +kernel
theorem dX8_node_53 : decode cX8_node 53 = .ok (.iload_n 1, 1) := by decide +kernel
theorem dX8_node_54 : decode cX8_node 54 = .ok (.iaload, 1) := by decide +kernel
theorem dX8_node_55 : decode cX8_node 55 = .ok (.goto 23, 3) := by decide +kernel
theorem dX8_node_58 : decode cX8_node 58 = .ok (.iload_n 2, 1) := by decide +kernel
theorem dX8_node_59 : decode cX8_node 59 = .ok (.iconst 2, 1) := by decide +kernel
theorem dX8_node_60 : decode cX8_node 60 = .ok (.if_icmp .ne 12, 3) := by decide +kernel
theorem dX8_node_63 : decode cX8_node 63 = .ok (.aload_n 0, 1) := by decide +kernel
theorem dX8_node_64 : decode cX8_node 64 = .ok (.getfield 20, 3) := by decide +kernel
theorem dX8_node_67 : decode cX8_node 67 = .ok (.iload_n 1, 1) := by decide +kernel
theorem dX8_node_68 : decode cX8_node 68 = .ok (.iaload, 1) := by decide +kernel
theorem dX8_node_69 : decode cX8_node 69 = .ok (.goto 9, 3) := by decide +kernel
theorem dX8_node_72 : decode cX8_node 72 = .ok (.aload_n 0, 1) := by decide +kernel
theorem dX8_node_73 : decode cX8_node 73 = .ok (.getfield 23, 3) := by decide +kernel
theorem dX8_node_76 : decode cX8_node 76 = .ok (.iload_n 1, 1) := by decide +kernel
theorem dX8_node_77 : decode cX8_node 77 = .ok (.iaload, 1) := by decide +kernel
theorem dX8_node_78 : decode cX8_node 78 = .ok (.ireturn, 1) := by decide +kernel
theorem dX8_levelOf_0 : decode cX8_levelOf 0 = .ok (.aload_n 0, 1) := by decide +kernel
theorem dX8_levelOf_1 : decode cX8_levelOf 1 = .ok (.getfield 119, 3) := by decide +kernel
theorem dX8_levelOf_4 : decode cX8_levelOf 4 = .ok (.istore_n 2, 1) := by decide +kernel
theorem dX8_levelOf_5 : decode cX8_levelOf 5 = .ok (.iload_n 1, 1) := by decide +kernel
theorem dX8_levelOf_6 : decode cX8_levelOf 6 = .ok (.aload_n 0, 1) := by decide +kernel
theorem dX8_levelOf_7 : decode cX8_levelOf 7 = .ok (.getfield 26, 3) := by decide +kernel
theorem dX8_levelOf_10 : decode cX8_levelOf 10 = .ok (.iload_n 2, 1) := by decide +kernel
theorem dX8_levelOf_11 : decode cX8_levelOf 11 = .ok (.iaload, 1) := by decide +kernel
theorem dX8_levelOf_12 : decode cX8_levelOf 12 = .ok (.if_icmp .ge 9, 3) := by decide +kernel
theorem dX8_levelOf_15 : decode cX8_levelOf 15 = .ok (.iinc 2 (-1), 3) := by decide +kernel
theorem dX8_levelOf_18 : decode cX8_levelOf 18 = .ok (.goto (-13), 3) := by decide +kernel
theorem dX8_levelOf_21 : decode cX8_levelOf 21 = .ok (.iload_n 2, 1) := by decide +kernel
theorem dX8_levelOf_22 : decode cX8_levelOf 22 = .ok (.ireturn, 1) := by decide +kernel
theorem dX8_cellOf_0 : decode cX8_cellOf 0 = .ok (.bipush 60, 2) := by decide +kernel
theorem dX8_cellOf_2 : decode cX8_cellOf 2 = .ok (.aload_n 0, 1) := by decide +kernel
theorem dX8_cellOf_3 : decode cX8_cellOf 3 = .ok (.iload_n 1, 1) := by decide +kernel
theorem dX8_cellOf_4 : decode cX8_cellOf 4 = .ok (.invokevirtual 122, 3) := by decide +kernel
theorem dX8_cellOf_7 : decode cX8_cellOf 7 = .ok (.imul, 1) := by decide +kernel
theorem dX8_cellOf_8 : decode cX8_cellOf 8 = .ok (.iload_n 1, 1) := by decide +kernel
theorem dX8_cellOf_9 : decode cX8_cellOf 9 = .ok (.iadd, 1) := by decide +kernel
theorem dX8_cellOf_10 : decode cX8_cellOf 10 = .ok (.ireturn, 1) := by decide +kernel
theorem dX8_beginWay_0 : decode cX8_beginWay 0 = .ok (.iconst 0, 1) := by decide +kernel
theorem dX8_beginWay_1 : decode cX8_beginWay 1 = .ok (.istore_n 1, 1) := by decide +kernel
theorem dX8_beginWay_2 : decode cX8_beginWay 2 = .ok (.iload_n 1, 1) := by decide +kernel
theorem dX8_beginWay_3 : decode cX8_beginWay 3 = .ok (.bipush 60, 2) := by decide +kernel
theorem dX8_beginWay_5 : decode cX8_beginWay 5 = .ok (.if_icmp .ge 24, 3) := by decide +kernel
theorem dX8_beginWay_8 : decode cX8_beginWay 8 = .ok (.aload_n 0, 1) := by decide +kernel
theorem dX8_beginWay_9 : decode cX8_beginWay 9 = .ok (.getfield 29, 3) := by decide +kernel
theorem dX8_beginWay_12 : decode cX8_beginWay 12 = .ok (.bipush 60, 2) := by decide +kernel
theorem dX8_beginWay_14 : decode cX8_beginWay 14 = .ok (.aload_n 0, 1) := by decide +kernel
theorem dX8_beginWay_15 : decode cX8_beginWay 15 = .ok (.getfield 119, 3) := by decide +kernel
theorem dX8_beginWay_18 : decode cX8_beginWay 18 = .ok (.imul, 1) := by decide +kernel
theorem dX8_beginWay_19 : decode cX8_beginWay 19 = .ok (.iload_n 1, 1) := by decide +kernel
theorem dX8_beginWay_20 : decode cX8_beginWay 20 = .ok (.iadd, 1) := by decide +kernel
theorem dX8_beginWay_21 : decode cX8_beginWay 21 = .ok (.iconst 0, 1) := by decide +kernel
theorem dX8_beginWay_22 : decode cX8_beginWay 22 = .ok (.iastore, 1) := by decide +kernel
theorem dX8_beginWay_23 : decode cX8_beginWay 23 = .ok (.iinc 1 1, 3) := by decide +kernel
theorem dX8_beginWay_26 : decode cX8_beginWay 26 = .ok (.goto (-24), 3) := by decide +kernel
theorem dX8_beginWay_29 : decode cX8_beginWay 29 = .ok (.aload_n 0, 1) := by decide +kernel
theorem dX8_beginWay_30 : decode cX8_beginWay 30 = .ok (.getfield 53, 3) := by decide +kernel
theorem dX8_beginWay_33 : decode cX8_beginWay 33 = .ok (.aload_n 0, 1) := by decide +kernel
theorem dX8_beginWay_34 : decode cX8_beginWay 34 = .ok (.getfield 119, 3) := by decide +kernel
theorem dX8_beginWay_37 : decode cX8_beginWay 37 = .ok (.iconst 0, 1) := by decide +kernel
theorem dX8_beginWay_38 : decode cX8_beginWay 38 = .ok (.iastore, 1) := by decide +kernel
theorem dX8_beginWay_39 : decode cX8_beginWay 39 = .ok (.aload_n 0, 1) := by decide +kernel
theorem dX8_beginWay_40 : decode cX8_beginWay 40 = .ok (.getfield 62, 3) := by decide +kernel
theorem dX8_beginWay_43 : decode cX8_beginWay 43 = .ok (.aload_n 0, 1) := by decide +kernel
theorem dX8_beginWay_44 : decode cX8_beginWay 44 = .ok (.getfield 119, 3) := by decide +kernel
theorem dX8_beginWay_47 : decode cX8_beginWay 47 = .ok (.iconst 0, 1) := by decide +kernel
theorem dX8_beginWay_48 : decode cX8_beginWay 48 = .ok (.iastore, 1) := by decide +kernel
theorem dX8_beginWay_49 : decode cX8_beginWay 49 = .ok (.return_, 1) := by decide +kernel
theorem dX8_need_0 : decode cX8_need 0 = .ok (.aload_n 0, 1) := by decide +kernel
theorem dX8_need_1 : decode cX8_need 1 = .ok (.iload_n 1, 1) := by decide +kernel
theorem dX8_need_2 : decode cX8_need 2 = .ok (.invokevirtual 122, 3) := by decide +kernel
theorem dX8_need_5 : decode cX8_need 5 = .ok (.istore_n 2, 1) := by decide +kernel
theorem dX8_need_6 : decode cX8_need 6 = .ok (.aload_n 0, 1) := by decide +kernel
theorem dX8_need_7 : decode cX8_need 7 = .ok (.getfield 29, 3) := by decide +kernel
theorem dX8_need_10 : decode cX8_need 10 = .ok (.bipush 60, 2) := by decide +kernel
theorem dX8_need_12 : decode cX8_need 12 = .ok (.iload_n 2, 1) := by decide +kernel
theorem dX8_need_13 : decode cX8_need 13 = .ok (.imul, 1) := by decide +kernel
theorem dX8_need_14 : decode cX8_need 14 = .ok (.iload_n 1, 1) := by decide +kernel
theorem dX8_need_15 : decode cX8_need 15 = .ok (.iadd, 1) := by decide +kernel
theorem dX8_need_16 : decode cX8_need 16 = .ok (.iaload, 1) := by decide +kernel
theorem dX8_need_17 : decode cX8_need 17 = .ok (.ifCond .le 4, 3) := by decide +kernel
theorem dX8_need_20 : decode cX8_need 20 = .ok (.return_, 1) := by decide +kernel
theorem dX8_need_21 : decode cX8_need 21 = .ok (.iload_n 2, 1) := by decide +kernel
theorem dX8_need_22 : decode cX8_need 22 = .ok (.aload_n 0, 1) := by decide +kernel
theorem dX8_need_23 : decode cX8_need 23 = .ok (.getfield 119, 3) := by decide +kernel
theorem dX8_need_26 : decode cX8_need 26 = .ok (.if_icmp .ge 19, 3) := by decide +kernel
theorem dX8_need_29 : decode cX8_need 29 = .ok (.aload_n 0, 1) := by decide +kernel
theorem dX8_need_30 : decode cX8_need 30 = .ok (.iconst 4, 1) := by decide +kernel
theorem dX8_need_31 : decode cX8_need 31 = .ok (.putfield 126, 3) := by decide +kernel
theorem dX8_need_34 : decode cX8_need 34 = .ok (.aload_n 0, 1) := by decide +kernel
theorem dX8_need_35 : decode cX8_need 35 = .ok (.iload_n 1, 1) := by decide +kernel
theorem dX8_need_36 : decode cX8_need 36 = .ok (.putfield 129, 3) := by decide +kernel
theorem dX8_need_39 : decode cX8_need 39 = .ok (.aload_n 0, 1) := by decide +kernel
theorem dX8_need_40 : decode cX8_need 40 = .ok (.iload_n 2, 1) := by decide +kernel
theorem dX8_need_41 : decode cX8_need 41 = .ok (.putfield 132, 3) := by decide +kernel
theorem dX8_need_44 : decode cX8_need 44 = .ok (.return_, 1) := by decide +kernel
theorem dX8_need_45 : decode cX8_need 45 = .ok (.aload_n 0, 1) := by decide +kernel
theorem dX8_need_46 : decode cX8_need 46 = .ok (.getfield 135, 3) := by decide +kernel
theorem dX8_need_49 : decode cX8_need 49 = .ok (.sipush 2000, 3) := by decide +kernel
theorem dX8_need_52 : decode cX8_need 52 = .ok (.if_icmp .ne 9, 3) := by decide +kernel
theorem dX8_need_55 : decode cX8_need 55 = .ok (.aload_n 0, 1) := by decide +kernel
theorem dX8_need_56 : decode cX8_need 56 = .ok (.iconst 2, 1) := by decide +kernel
theorem dX8_need_57 : decode cX8_need 57 = .ok (.putfield 126, 3) := by decide +kernel
theorem dX8_need_60 : decode cX8_need 60 = .ok (.return_, 1) := by decide +kernel
theorem dX8_need_61 : decode cX8_need 61 = .ok (.aload_n 0, 1) := by decide +kernel
theorem dX8_need_62 : decode cX8_need 62 = .ok (.dup, 1) := by decide +kernel
theorem dX8_need_63 : decode cX8_need 63 = .ok (.getfield 135, 3) := by decide +kernel
theorem dX8_need_66 : decode cX8_need 66 = .ok (.iconst 1, 1) := by decide +kernel
theorem dX8_need_67 : decode cX8_need 67 = .ok (.iadd, 1) := by decide +kernel
theorem dX8_need_68 : decode cX8_need 68 = .ok (.putfield 135, 3) := by decide +kernel
theorem dX8_need_71 : decode cX8_need 71 = .ok (.aload_n 0, 1) := by decide +kernel
theorem dX8_need_72 : decode cX8_need 72 = .ok (.iload_n 1, 1) := by decide +kernel
theorem dX8_need_73 : decode cX8_need 73 = .ok (.invokevirtual 138, 3) := by decide +kernel
theorem dX8_need_76 : decode cX8_need 76 = .ok (.return_, 1) := by decide +kernel
theorem dX8_workOut_0 : decode cX8_workOut 0 = .ok (.bipush 60, 2) := by decide +kernel
theorem dX8_workOut_2 : decode cX8_workOut 2 = .ok (.aload_n 0, 1) := by decide +kernel
theorem dX8_workOut_3 : decode cX8_workOut 3 = .ok (.getfield 119, 3) := by decide +kernel
theorem dX8_workOut_6 : decode cX8_workOut 6 = .ok (.imul, 1) := by decide +kernel
theorem dX8_workOut_7 : decode cX8_workOut 7 = .ok (.iload_n 1, 1) := by decide +kernel
theorem dX8_workOut_8 : decode cX8_workOut 8 = .ok (.iadd, 1) := by decide +kernel
theorem dX8_workOut_9 : decode cX8_workOut 9 = .ok (.istore_n 2, 1) := by decide +kernel
theorem dX8_workOut_10 : decode cX8_workOut 10 = .ok (.aload_n 0, 1) := by decide +kernel
theorem dX8_workOut_11 : decode cX8_workOut 11 = .ok (.getfield 9, 3) := by decide +kernel
theorem dX8_workOut_14 : decode cX8_workOut 14 = .ok (.iload_n 1, 1) := by decide +kernel
theorem dX8_workOut_15 : decode cX8_workOut 15 = .ok (.iaload, 1) := by decide +kernel
theorem dX8_workOut_16 : decode cX8_workOut 16 = .ok (.tableswitch 265 0 8 #[52, 66, 75, 83, 117, 117, 186, 195, 256], 52) := by decide +kernel
theorem dX8_workOut_68 : decode cX8_workOut 68 = .ok (.aload_n 0, 1) := by decide +kernel
theorem dX8_workOut_69 : decode cX8_workOut 69 = .ok (.iload_n 2, 1) := by decide +kernel
theorem dX8_workOut_70 : decode cX8_workOut 70 = .ok (.aload_n 0, 1) := by decide +kernel
theorem dX8_workOut_71 : decode cX8_workOut 71 = .ok (.getfield 13, 3) := by decide +kernel
theorem dX8_workOut_74 : decode cX8_workOut 74 = .ok (.iload_n 1, 1) := by decide +kernel
theorem dX8_workOut_75 : decode cX8_workOut 75 = .ok (.laload, 1) := by decide +kernel
theorem dX8_workOut_76 : decode cX8_workOut 76 = .ok (.invokevirtual 142, 3) := by decide +kernel
theorem dX8_workOut_79 : decode cX8_workOut 79 = .ok (.goto 208, 3) := by decide +kernel
theorem dX8_workOut_82 : decode cX8_workOut 82 = .ok (.aload_n 0, 1) := by decide +kernel
theorem dX8_workOut_83 : decode cX8_workOut 83 = .ok (.iload_n 2, 1) := by decide +kernel
theorem dX8_workOut_84 : decode cX8_workOut 84 = .ok (.iload_n 1, 1) := by decide +kernel
theorem dX8_workOut_85 : decode cX8_workOut 85 = .ok (.invokevirtual 146, 3) := by decide +kernel
theorem dX8_workOut_88 : decode cX8_workOut 88 = .ok (.goto 199, 3) := by decide +kernel
theorem dX8_workOut_91 : decode cX8_workOut 91 = .ok (.aload_n 0, 1) := by decide +kernel
theorem dX8_workOut_92 : decode cX8_workOut 92 = .ok (.iconst 1, 1) := by decide +kernel
theorem dX8_workOut_93 : decode cX8_workOut 93 = .ok (.putfield 126, 3) := by decide +kernel
theorem dX8_workOut_96 : decode cX8_workOut 96 = .ok (.goto 191, 3) := by decide +kernel
theorem dX8_workOut_99 : decode cX8_workOut 99 = .ok (.aload_n 0, 1) := by decide +kernel
theorem dX8_workOut_100 : decode cX8_workOut 100 = .ok (.getfield 29, 3) := by decide +kernel
theorem dX8_workOut_103 : decode cX8_workOut 103 = .ok (.iload_n 2, 1) := by decide +kernel
theorem dX8_workOut_104 : decode cX8_workOut 104 = .ok (.iconst 2, 1) := by decide +kernel
theorem dX8_workOut_105 : decode cX8_workOut 105 = .ok (.iastore, 1) := by decide +kernel
theorem dX8_workOut_106 : decode cX8_workOut 106 = .ok (.aload_n 0, 1) := by decide +kernel
theorem dX8_workOut_107 : decode cX8_workOut 107 = .ok (.getfield 35, 3) := by decide +kernel
theorem dX8_workOut_110 : decode cX8_workOut 110 = .ok (.iload_n 2, 1) := by decide +kernel
theorem dX8_workOut_111 : decode cX8_workOut 111 = .ok (.aload_n 0, 1) := by decide +kernel
theorem dX8_workOut_112 : decode cX8_workOut 112 = .ok (.getfield 17, 3) := by decide +kernel
theorem dX8_workOut_115 : decode cX8_workOut 115 = .ok (.iload_n 1, 1) := by decide +kernel
theorem dX8_workOut_116 : decode cX8_workOut 116 = .ok (.iaload, 1) := by decide +kernel
theorem dX8_workOut_117 : decode cX8_workOut 117 = .ok (.iastore, 1) := by decide +kernel
theorem dX8_workOut_118 : decode cX8_workOut 118 = .ok (.aload_n 0, 1) := by decide +kernel
theorem dX8_workOut_119 : decode cX8_workOut 119 = .ok (.getfield 38, 3) := by decide +kernel
theorem dX8_workOut_122 : decode cX8_workOut 122 = .ok (.iload_n 2, 1) := by decide +kernel
theorem dX8_workOut_123 : decode cX8_workOut 123 = .ok (.aload_n 0, 1) := by decide +kernel
theorem dX8_workOut_124 : decode cX8_workOut 124 = .ok (.getfield 20, 3) := by decide +kernel
theorem dX8_workOut_127 : decode cX8_workOut 127 = .ok (.iload_n 1, 1) := by decide +kernel
theorem dX8_workOut_128 : decode cX8_workOut 128 = .ok (.iaload, 1) := by decide +kernel
theorem dX8_workOut_129 : decode cX8_workOut 129 = .ok (.iastore, 1) := by decide +kernel
theorem dX8_workOut_130 : decode cX8_workOut 130 = .ok (.goto 157, 3) := by decide +kernel
theorem dX8_workOut_133 : decode cX8_workOut 133 = .ok (.aload_n 0, 1) := by decide +kernel
theorem dX8_workOut_134 : decode cX8_workOut 134 = .ok (.aload_n 0, 1) := by decide +kernel
theorem dX8_workOut_135 : decode cX8_workOut 135 = .ok (.getfield 17, 3) := by decide +kernel
theorem dX8_workOut_138 : decode cX8_workOut 138 = .ok (.iload_n 1, 1) := by decide +kernel
theorem dX8_workOut_139 : decode cX8_workOut 139 = .ok (.iaload, 1) := by decide +kernel
theorem dX8_workOut_140 : decode cX8_workOut 140 = .ok (.iconst 2, 1) := by decide +kernel
theorem dX8_workOut_141 : decode cX8_workOut 141 = .ok (.invokevirtual 150, 3) := by decide +kernel
theorem dX8_workOut_144 : decode cX8_workOut 144 = .ok (.aload_n 0, 1) := by decide +kernel
theorem dX8_workOut_145 : decode cX8_workOut 145 = .ok (.getfield 126, 3) := by decide +kernel
theorem dX8_workOut_148 : decode cX8_workOut 148 = .ok (.ifCond .ne 139, 3) := by decide +kernel
theorem dX8_workOut_151 : decode cX8_workOut 151 = .ok (.aload_n 0, 1) := by decide +kernel
theorem dX8_workOut_152 : decode cX8_workOut 152 = .ok (.iload_n 2, 1) := by decide +kernel
theorem dX8_workOut_153 : decode cX8_workOut 153 = .ok (.aload_n 0, 1) := by decide +kernel
theorem dX8_workOut_154 : decode cX8_workOut 154 = .ok (.getfield 9, 3) := by decide +kernel
theorem dX8_workOut_157 : decode cX8_workOut 157 = .ok (.iload_n 1, 1) := by decide +kernel
theorem dX8_workOut_158 : decode cX8_workOut 158 = .ok (.iaload, 1) := by decide +kernel
theorem dX8_workOut_159 : decode cX8_workOut 159 = .ok (.iconst 4, 1) := by decide +kernel
theorem dX8_workOut_160 : decode cX8_workOut 160 = .ok (.if_icmp .ne 21, 3) := by decide +kernel
theorem dX8_workOut_163 : decode cX8_workOut 163 = .ok (.aload_n 0, 1) := by decide +kernel
theorem dX8_workOut_164 : decode cX8_workOut 164 = .ok (.getfield 35, 3) := by decide +kernel
theorem dX8_workOut_167 : decode cX8_workOut 167 = .ok (.aload_n 0, 1) := by decide +kernel
theorem dX8_workOut_168 : decode cX8_workOut 168 = .ok (.aload_n 0, 1) := by decide +kernel
theorem dX8_workOut_169 : decode cX8_workOut 169 = .ok (.getfield 17, 3) := by decide +kernel
theorem dX8_workOut_172 : decode cX8_workOut 172 = .ok (.iload_n 1, 1) := by decide +kernel
theorem dX8_workOut_173 : decode cX8_workOut 173 = .ok (.iaload, 1) := by decide +kernel
theorem dX8_workOut_174 : decode cX8_workOut 174 = .ok (.invokevirtual 153, 3) := by decide +kernel
theorem dX8_workOut_177 : decode cX8_workOut 177 = .ok (.iaload, 1) := by decide +kernel
theorem dX8_workOut_178 : decode cX8_workOut 178 = .ok (.goto 18, 3) := by decide +kernel
theorem dX8_workOut_181 : decode cX8_workOut 181 = .ok (.aload_n 0, 1) := by decide +kernel
theorem dX8_workOut_182 : decode cX8_workOut 182 = .ok (.getfield 38, 3) := by decide +kernel
theorem dX8_workOut_185 : decode cX8_workOut 185 = .ok (.aload_n 0, 1) := by decide +kernel
theorem dX8_workOut_186 : decode cX8_workOut 186 = .ok (.aload_n 0, 1) := by decide +kernel
theorem dX8_workOut_187 : decode cX8_workOut 187 = .ok (.getfield 17, 3) := by decide +kernel
theorem dX8_workOut_190 : decode cX8_workOut 190 = .ok (.iload_n 1, 1) := by decide +kernel
theorem dX8_workOut_191 : decode cX8_workOut 191 = .ok (.iaload, 1) := by decide +kernel
theorem dX8_workOut_192 : decode cX8_workOut 192 = .ok (.invokevirtual 153, 3) := by decide +kernel
theorem dX8_workOut_195 : decode cX8_workOut 195 = .ok (.iaload, 1) := by decide +kernel
theorem dX8_workOut_196 : decode cX8_workOut 196 = .ok (.invokevirtual 156, 3) := by decide +kernel
theorem dX8_workOut_199 : decode cX8_workOut 199 = .ok (.goto 88, 3) := by decide +kernel
theorem dX8_workOut_202 : decode cX8_workOut 202 = .ok (.aload_n 0, 1) := by decide +kernel
theorem dX8_workOut_203 : decode cX8_workOut 203 = .ok (.iload_n 2, 1) := by decide +kernel
theorem dX8_workOut_204 : decode cX8_workOut 204 = .ok (.iload_n 1, 1) := by decide +kernel
theorem dX8_workOut_205 : decode cX8_workOut 205 = .ok (.invokevirtual 159, 3) := by decide +kernel
theorem dX8_workOut_208 : decode cX8_workOut 208 = .ok (.goto 79, 3) := by decide +kernel
theorem dX8_workOut_211 : decode cX8_workOut 211 = .ok (.aload_n 0, 1) := by decide +kernel
theorem dX8_workOut_212 : decode cX8_workOut 212 = .ok (.aload_n 0, 1) := by decide +kernel
theorem dX8_workOut_213 : decode cX8_workOut 213 = .ok (.getfield 17, 3) := by decide +kernel
theorem dX8_workOut_216 : decode cX8_workOut 216 = .ok (.iload_n 1, 1) := by decide +kernel
theorem dX8_workOut_217 : decode cX8_workOut 217 = .ok (.iaload, 1) := by decide +kernel
theorem dX8_workOut_218 : decode cX8_workOut 218 = .ok (.iconst 1, 1) := by decide +kernel
theorem dX8_workOut_219 : decode cX8_workOut 219 = .ok (.invokevirtual 150, 3) := by decide +kernel
theorem dX8_workOut_222 : decode cX8_workOut 222 = .ok (.aload_n 0, 1) := by decide +kernel
theorem dX8_workOut_223 : decode cX8_workOut 223 = .ok (.getfield 126, 3) := by decide +kernel
theorem dX8_workOut_226 : decode cX8_workOut 226 = .ok (.ifCond .ne 61, 3) := by decide +kernel
theorem dX8_workOut_229 : decode cX8_workOut 229 = .ok (.aload_n 0, 1) := by decide +kernel
theorem dX8_workOut_230 : decode cX8_workOut 230 = .ok (.iload_n 2, 1) := by decide +kernel
theorem dX8_workOut_231 : decode cX8_workOut 231 = .ok (.aload_n 0, 1) := by decide +kernel
theorem dX8_workOut_232 : decode cX8_workOut 232 = .ok (.getfield 32, 3) := by decide +kernel
theorem dX8_workOut_235 : decode cX8_workOut 235 = .ok (.aload_n 0, 1) := by decide +kernel
theorem dX8_workOut_236 : decode cX8_workOut 236 = .ok (.aload_n 0, 1) := by decide +kernel
theorem dX8_workOut_237 : decode cX8_workOut 237 = .ok (.getfield 17, 3) := by decide +kernel
theorem dX8_workOut_240 : decode cX8_workOut 240 = .ok (.iload_n 1, 1) := by decide +kernel
theorem dX8_workOut_241 : decode cX8_workOut 241 = .ok (.iaload, 1) := by decide +kernel
theorem dX8_workOut_242 : decode cX8_workOut 242 = .ok (.invokevirtual 153, 3) := by decide +kernel
theorem dX8_workOut_245 : decode cX8_workOut 245 = .ok (.laload, 1) := by decide +kernel
theorem dX8_workOut_246 : decode cX8_workOut 246 = .ok (.lconst 0, 1) := by decide +kernel
theorem dX8_workOut_247 : decode cX8_workOut 247 = .ok (.lcmp, 1) := by decide +kernel
theorem dX8_workOut_248 : decode cX8_workOut 248 = .ok (.ifCond .eq 12, 3) := by decide +kernel
theorem dX8_workOut_251 : decode cX8_workOut 251 = .ok (.aload_n 0, 1) := by decide +kernel
theorem dX8_workOut_252 : decode cX8_workOut 252 = .ok (.getfield 20, 3) := by decide +kernel
theorem dX8_workOut_255 : decode cX8_workOut 255 = .ok (.iload_n 1, 1) := by decide +kernel
theorem dX8_workOut_256 : decode cX8_workOut 256 = .ok (.iaload, 1) := by decide +kernel
theorem dX8_workOut_257 : decode cX8_workOut 257 = .ok (.goto 9, 3) := by decide +kernel
theorem dX8_workOut_260 : decode cX8_workOut 260 = .ok (.aload_n 0, 1) := by decide +kernel
theorem dX8_workOut_261 : decode cX8_workOut 261 = .ok (.getfield 23, 3) := by decide +kernel
theorem dX8_workOut_264 : decode cX8_workOut 264 = .ok (.iload_n 1, 1) := by decide +kernel
theorem dX8_workOut_265 : decode cX8_workOut 265 = .ok (.iaload, 1) := by decide +kernel
theorem dX8_workOut_266 : decode cX8_workOut 266 = .ok (.invokevirtual 156, 3) := by decide +kernel
theorem dX8_workOut_269 : decode cX8_workOut 269 = .ok (.goto 18, 3) := by decide +kernel
theorem dX8_workOut_272 : decode cX8_workOut 272 = .ok (.aload_n 0, 1) := by decide +kernel
theorem dX8_workOut_273 : decode cX8_workOut 273 = .ok (.iload_n 2, 1) := by decide +kernel
theorem dX8_workOut_274 : decode cX8_workOut 274 = .ok (.iload_n 1, 1) := by decide +kernel
theorem dX8_workOut_275 : decode cX8_workOut 275 = .ok (.invokevirtual 162, 3) := by decide +kernel
theorem dX8_workOut_278 : decode cX8_workOut 278 = .ok (.goto 9, 3) := by decide +kernel
theorem dX8_workOut_281 : decode cX8_workOut 281 = .ok (.aload_n 0, 1) := by decide +kernel
theorem dX8_workOut_282 : decode cX8_workOut 282 = .ok (.iload_n 2, 1) := by decide +kernel
theorem dX8_workOut_283 : decode cX8_workOut 283 = .ok (.iload_n 1, 1) := by decide +kernel
theorem dX8_workOut_284 : decode cX8_workOut 284 = .ok (.invokevirtual 165, 3) := by decide +kernel
theorem dX8_workOut_287 : decode cX8_workOut 287 = .ok (.return_, 1) := by decide +kernel
theorem dX8_tell_0 : decode cX8_tell 0 = .ok (.aload_n 0, 1) := by decide +kernel
theorem dX8_tell_1 : decode cX8_tell 1 = .ok (.getfield 29, 3) := by decide +kernel
theorem dX8_tell_4 : decode cX8_tell 4 = .ok (.iload_n 1, 1) := by decide +kernel
theorem dX8_tell_5 : decode cX8_tell 5 = .ok (.iconst 1, 1) := by decide +kernel
theorem dX8_tell_6 : decode cX8_tell 6 = .ok (.iastore, 1) := by decide +kernel
theorem dX8_tell_7 : decode cX8_tell 7 = .ok (.aload_n 0, 1) := by decide +kernel
theorem dX8_tell_8 : decode cX8_tell 8 = .ok (.getfield 32, 3) := by decide +kernel
theorem dX8_tell_11 : decode cX8_tell 11 = .ok (.iload_n 1, 1) := by decide +kernel
theorem dX8_tell_12 : decode cX8_tell 12 = .ok (.lload_n 2, 1) := by decide +kernel
theorem dX8_tell_13 : decode cX8_tell 13 = .ok (.lastore, 1) := by decide +kernel
theorem dX8_tell_14 : decode cX8_tell 14 = .ok (.return_, 1) := by decide +kernel
theorem dX8_needAs_0 : decode cX8_needAs 0 = .ok (.aload_n 0, 1) := by decide +kernel
theorem dX8_needAs_1 : decode cX8_needAs 1 = .ok (.iload_n 1, 1) := by decide +kernel
theorem dX8_needAs_2 : decode cX8_needAs 2 = .ok (.invokevirtual 168, 3) := by decide +kernel
theorem dX8_needAs_5 : decode cX8_needAs 5 = .ok (.aload_n 0, 1) := by decide +kernel
theorem dX8_needAs_6 : decode cX8_needAs 6 = .ok (.getfield 126, 3) := by decide +kernel
theorem dX8_needAs_9 : decode cX8_needAs 9 = .ok (.ifCond .ne 22, 3) := by decide +kernel
theorem dX8_needAs_12 : decode cX8_needAs 12 = .ok (.aload_n 0, 1) := by decide +kernel
theorem dX8_needAs_13 : decode cX8_needAs 13 = .ok (.getfield 29, 3) := by decide +kernel
theorem dX8_needAs_16 : decode cX8_needAs 16 = .ok (.aload_n 0, 1) := by decide +kernel
theorem dX8_needAs_17 : decode cX8_needAs 17 = .ok (.iload_n 1, 1) := by decide +kernel
theorem dX8_needAs_18 : decode cX8_needAs 18 = .ok (.invokevirtual 153, 3) := by decide +kernel
theorem dX8_needAs_21 : decode cX8_needAs 21 = .ok (.iaload, 1) := by decide +kernel
theorem dX8_needAs_22 : decode cX8_needAs 22 = .ok (.iload_n 2, 1) := by decide +kernel
theorem dX8_needAs_23 : decode cX8_needAs 23 = .ok (.if_icmp .eq 8, 3) := by decide +kernel
theorem dX8_needAs_26 : decode cX8_needAs 26 = .ok (.aload_n 0, 1) := by decide +kernel
theorem dX8_needAs_27 : decode cX8_needAs 27 = .ok (.iconst 1, 1) := by decide +kernel
theorem dX8_needAs_28 : decode cX8_needAs 28 = .ok (.putfield 126, 3) := by decide +kernel
theorem dX8_needAs_31 : decode cX8_needAs 31 = .ok (.return_, 1) := by decide +kernel
theorem dX8_take_0 : decode cX8_take 0 = .ok (.aload_n 0, 1) := by decide +kernel
theorem dX8_take_1 : decode cX8_take 1 = .ok (.iload_n 2, 1) := by decide +kernel
theorem dX8_take_2 : decode cX8_take 2 = .ok (.invokevirtual 168, 3) := by decide +kernel
theorem dX8_take_5 : decode cX8_take 5 = .ok (.aload_n 0, 1) := by decide +kernel
theorem dX8_take_6 : decode cX8_take 6 = .ok (.getfield 126, 3) := by decide +kernel
theorem dX8_take_9 : decode cX8_take 9 = .ok (.ifCond .eq 4, 3) := by decide +kernel
theorem dX8_take_12 : decode cX8_take 12 = .ok (.return_, 1) := by decide +kernel
theorem dX8_take_13 : decode cX8_take 13 = .ok (.aload_n 0, 1) := by decide +kernel
theorem dX8_take_14 : decode cX8_take 14 = .ok (.iload_n 2, 1) := by decide +kernel
theorem dX8_take_15 : decode cX8_take 15 = .ok (.invokevirtual 153, 3) := by decide +kernel
theorem dX8_take_18 : decode cX8_take 18 = .ok (.istore_n 3, 1) := by decide +kernel
theorem dX8_take_19 : decode cX8_take 19 = .ok (.aload_n 0, 1) := by decide +kernel
theorem dX8_take_20 : decode cX8_take 20 = .ok (.getfield 29, 3) := by decide +kernel
theorem dX8_take_23 : decode cX8_take 23 = .ok (.iload_n 1, 1) := by decide +kernel
theorem dX8_take_24 : decode cX8_take 24 = .ok (.aload_n 0, 1) := by decide +kernel
theorem dX8_take_25 : decode cX8_take 25 = .ok (.getfield 29, 3) := by decide +kernel
theorem dX8_take_28 : decode cX8_take 28 = .ok (.iload_n 3, 1) := by decide +kernel
theorem dX8_take_29 : decode cX8_take 29 = .ok (.iaload, 1) := by decide +kernel
theorem dX8_take_30 : decode cX8_take 30 = .ok (.iastore, 1) := by decide +kernel
theorem dX8_take_31 : decode cX8_take 31 = .ok (.aload_n 0, 1) := by decide +kernel
theorem dX8_take_32 : decode cX8_take 32 = .ok (.getfield 32, 3) := by decide +kernel
theorem dX8_take_35 : decode cX8_take 35 = .ok (.iload_n 1, 1) := by decide +kernel
theorem dX8_take_36 : decode cX8_take 36 = .ok (.aload_n 0, 1) := by decide +kernel
theorem dX8_take_37 : decode cX8_take 37 = .ok (.getfield 32, 3) := by decide +kernel
theorem dX8_take_40 : decode cX8_take 40 = .ok (.iload_n 3, 1) := by decide +kernel
theorem dX8_take_41 : decode cX8_take 41 = .ok (.laload, 1) := by decide +kernel
theorem dX8_take_42 : decode cX8_take 42 = .ok (.lastore, 1) := by decide +kernel
theorem dX8_take_43 : decode cX8_take 43 = .ok (.aload_n 0, 1) := by decide +kernel
theorem dX8_take_44 : decode cX8_take 44 = .ok (.getfield 35, 3) := by decide +kernel
theorem dX8_take_47 : decode cX8_take 47 = .ok (.iload_n 1, 1) := by decide +kernel
theorem dX8_take_48 : decode cX8_take 48 = .ok (.aload_n 0, 1) := by decide +kernel
theorem dX8_take_49 : decode cX8_take 49 = .ok (.getfield 35, 3) := by decide +kernel
theorem dX8_take_52 : decode cX8_take 52 = .ok (.iload_n 3, 1) := by decide +kernel
theorem dX8_take_53 : decode cX8_take 53 = .ok (.iaload, 1) := by decide +kernel
theorem dX8_take_54 : decode cX8_take 54 = .ok (.iastore, 1) := by decide +kernel
theorem dX8_take_55 : decode cX8_take 55 = .ok (.aload_n 0, 1) := by decide +kernel
theorem dX8_take_56 : decode cX8_take 56 = .ok (.getfield 38, 3) := by decide +kernel
theorem dX8_take_59 : decode cX8_take 59 = .ok (.iload_n 1, 1) := by decide +kernel
theorem dX8_take_60 : decode cX8_take 60 = .ok (.aload_n 0, 1) := by decide +kernel
theorem dX8_take_61 : decode cX8_take 61 = .ok (.getfield 38, 3) := by decide +kernel
theorem dX8_take_64 : decode cX8_take 64 = .ok (.iload_n 3, 1) := by decide +kernel
theorem dX8_take_65 : decode cX8_take 65 = .ok (.iaload, 1) := by decide +kernel
theorem dX8_take_66 : decode cX8_take 66 = .ok (.iastore, 1) := by decide +kernel
theorem dX8_take_67 : decode cX8_take 67 = .ok (.return_, 1) := by decide +kernel
theorem dX8_choose_0 : decode cX8_choose 0 = .ok (.sipush 2001, 3) := by decide +kernel
theorem dX8_choose_3 : decode cX8_choose 3 = .ok (.aload_n 0, 1) := by decide +kernel
theorem dX8_choose_4 : decode cX8_choose 4 = .ok (.getfield 119, 3) := by decide +kernel
theorem dX8_choose_7 : decode cX8_choose 7 = .ok (.imul, 1) := by decide +kernel
theorem dX8_choose_8 : decode cX8_choose 8 = .ok (.aload_n 0, 1) := by decide +kernel
theorem dX8_choose_9 : decode cX8_choose 9 = .ok (.getfield 53, 3) := by decide +kernel
theorem dX8_choose_12 : decode cX8_choose 12 = .ok (.aload_n 0, 1) := by decide +kernel
theorem dX8_choose_13 : decode cX8_choose 13 = .ok (.getfield 119, 3) := by decide +kernel
theorem dX8_choose_16 : decode cX8_choose 16 = .ok (.iaload, 1) := by decide +kernel
theorem dX8_choose_17 : decode cX8_choose 17 = .ok (.iadd, 1) := by decide +kernel
theorem dX8_choose_18 : decode cX8_choose 18 = .ok (.istore_n 3, 1) := by decide +kernel
theorem dX8_choose_19 : decode cX8_choose 19 = .ok (.aload_n 0, 1) := by decide +kernel
theorem dX8_choose_20 : decode cX8_choose 20 = .ok (.getfield 53, 3) := by decide +kernel
theorem dX8_choose_23 : decode cX8_choose 23 = .ok (.aload_n 0, 1) := by decide +kernel
theorem dX8_choose_24 : decode cX8_choose 24 = .ok (.getfield 119, 3) := by decide +kernel
theorem dX8_choose_27 : decode cX8_choose 27 = .ok (.iaload, 1) := by decide +kernel
theorem dX8_choose_28 : decode cX8_choose 28 = .ok (.aload_n 0, 1) := by decide +kernel
theorem dX8_choose_29 : decode cX8_choose 29 = .ok (.getfield 50, 3) := by decide +kernel
theorem dX8_choose_32 : decode cX8_choose 32 = .ok (.aload_n 0, 1) := by decide +kernel
theorem dX8_choose_33 : decode cX8_choose 33 = .ok (.getfield 119, 3) := by decide +kernel
theorem dX8_choose_36 : decode cX8_choose 36 = .ok (.iaload, 1) := by decide +kernel
theorem dX8_choose_37 : decode cX8_choose 37 = .ok (.if_icmp .ne 36, 3) := by decide +kernel
theorem dX8_choose_40 : decode cX8_choose 40 = .ok (.aload_n 0, 1) := by decide +kernel
theorem dX8_choose_41 : decode cX8_choose 41 = .ok (.getfield 119, 3) := by decide +kernel
theorem dX8_choose_44 : decode cX8_choose 44 = .ok (.ifCond .ne 9, 3) := by decide +kernel
theorem dX8_choose_47 : decode cX8_choose 47 = .ok (.aload_n 0, 1) := by decide +kernel
theorem dX8_choose_48 : decode cX8_choose 48 = .ok (.iconst 3, 1) := by decide +kernel
theorem dX8_choose_49 : decode cX8_choose 49 = .ok (.putfield 126, 3) := by decide +kernel
theorem dX8_choose_52 : decode cX8_choose 52 = .ok (.return_, 1) := by decide +kernel
theorem dX8_choose_53 : decode cX8_choose 53 = .ok (.aload_n 0, 1) := by decide +kernel
theorem dX8_choose_54 : decode cX8_choose 54 = .ok (.getfield 47, 3) := by decide +kernel
theorem dX8_choose_57 : decode cX8_choose 57 = .ok (.iload_n 3, 1) := by decide +kernel
theorem dX8_choose_58 : decode cX8_choose 58 = .ok (.iconst 0, 1) := by decide +kernel
theorem dX8_choose_59 : decode cX8_choose 59 = .ok (.iastore, 1) := by decide +kernel
theorem dX8_choose_60 : decode cX8_choose 60 = .ok (.aload_n 0, 1) := by decide +kernel
theorem dX8_choose_61 : decode cX8_choose 61 = .ok (.getfield 50, 3) := by decide +kernel
theorem dX8_choose_64 : decode cX8_choose 64 = .ok (.aload_n 0, 1) := by decide +kernel
theorem dX8_choose_65 : decode cX8_choose 65 = .ok (.getfield 119, 3) := by decide +kernel
theorem dX8_choose_68 : decode cX8_choose 68 = .ok (.dup2, 1) := by decide +kernel
theorem dX8_choose_69 : decode cX8_choose 69 = .ok (.iaload, 1) := by decide +kernel
theorem dX8_choose_70 : decode cX8_choose 70 = .ok (.iconst 1, 1) := by decide +kernel
theorem dX8_choose_71 : decode cX8_choose 71 = .ok (.iadd, 1) := by decide +kernel
theorem dX8_choose_72 : decode cX8_choose 72 = .ok (.iastore, 1) := by decide +kernel
theorem dX8_choose_73 : decode cX8_choose 73 = .ok (.aload_n 0, 1) := by decide +kernel
theorem dX8_choose_74 : decode cX8_choose 74 = .ok (.getfield 53, 3) := by decide +kernel
theorem dX8_choose_77 : decode cX8_choose 77 = .ok (.aload_n 0, 1) := by decide +kernel
theorem dX8_choose_78 : decode cX8_choose 78 = .ok (.getfield 119, 3) := by decide +kernel
theorem dX8_choose_81 : decode cX8_choose 81 = .ok (.dup2, 1) := by decide +kernel
theorem dX8_choose_82 : decode cX8_choose 82 = .ok (.iaload, 1) := by decide +kernel
theorem dX8_choose_83 : decode cX8_choose 83 = .ok (.iconst 1, 1) := by decide +kernel
theorem dX8_choose_84 : decode cX8_choose 84 = .ok (.iadd, 1) := by decide +kernel
theorem dX8_choose_85 : decode cX8_choose 85 = .ok (.iastore, 1) := by decide +kernel
theorem dX8_choose_86 : decode cX8_choose 86 = .ok (.aload_n 0, 1) := by decide +kernel
theorem dX8_choose_87 : decode cX8_choose 87 = .ok (.iload_n 1, 1) := by decide +kernel
theorem dX8_choose_88 : decode cX8_choose 88 = .ok (.aload_n 0, 1) := by decide +kernel
theorem dX8_choose_89 : decode cX8_choose 89 = .ok (.getfield 47, 3) := by decide +kernel
theorem dX8_choose_92 : decode cX8_choose 92 = .ok (.iload_n 3, 1) := by decide +kernel
theorem dX8_choose_93 : decode cX8_choose 93 = .ok (.iaload, 1) := by decide +kernel
theorem dX8_choose_94 : decode cX8_choose 94 = .ok (.ifCond .ne 12, 3) := by decide +kernel
theorem dX8_choose_97 : decode cX8_choose 97 = .ok (.aload_n 0, 1) := by decide +kernel
theorem dX8_choose_98 : decode cX8_choose 98 = .ok (.getfield 17, 3) := by decide +kernel
theorem dX8_choose_101 : decode cX8_choose 101 = .ok (.iload_n 2, 1) := by decide +kernel
theorem dX8_choose_102 : decode cX8_choose 102 = .ok (.iaload, 1) := by decide +kernel
theorem dX8_choose_103 : decode cX8_choose 103 = .ok (.goto 9, 3) := by decide +kernel
theorem dX8_choose_106 : decode cX8_choose 106 = .ok (.aload_n 0, 1) := by decide +kernel
theorem dX8_choose_107 : decode cX8_choose 107 = .ok (.getfield 20, 3) := by decide +kernel
theorem dX8_choose_110 : decode cX8_choose 110 = .ok (.iload_n 2, 1) := by decide +kernel
theorem dX8_choose_111 : decode cX8_choose 111 = .ok (.iaload, 1) := by decide +kernel
theorem dX8_choose_112 : decode cX8_choose 112 = .ok (.invokevirtual 156, 3) := by decide +kernel
theorem dX8_choose_115 : decode cX8_choose 115 = .ok (.return_, 1) := by decide +kernel
theorem dX8_reckon_0 : decode cX8_reckon 0 = .ok (.aload_n 0, 1) := by decide +kernel
theorem dX8_reckon_1 : decode cX8_reckon 1 = .ok (.aload_n 0, 1) := by decide +kernel
theorem dX8_reckon_2 : decode cX8_reckon 2 = .ok (.getfield 17, 3) := by decide +kernel
theorem dX8_reckon_5 : decode cX8_reckon 5 = .ok (.iload_n 2, 1) := by decide +kernel
theorem dX8_reckon_6 : decode cX8_reckon 6 = .ok (.iaload, 1) := by decide +kernel
theorem dX8_reckon_7 : decode cX8_reckon 7 = .ok (.iconst 1, 1) := by decide +kernel
theorem dX8_reckon_8 : decode cX8_reckon 8 = .ok (.invokevirtual 150, 3) := by decide +kernel
theorem dX8_reckon_11 : decode cX8_reckon 11 = .ok (.aload_n 0, 1) := by decide +kernel
theorem dX8_reckon_12 : decode cX8_reckon 12 = .ok (.getfield 126, 3) := by decide +kernel
theorem dX8_reckon_15 : decode cX8_reckon 15 = .ok (.ifCond .ne 14, 3) := by decide +kernel
theorem dX8_reckon_18 : decode cX8_reckon 18 = .ok (.aload_n 0, 1) := by decide +kernel
theorem dX8_reckon_19 : decode cX8_reckon 19 = .ok (.aload_n 0, 1) := by decide +kernel
theorem dX8_reckon_20 : decode cX8_reckon 20 = .ok (.getfield 20, 3) := by decide +kernel
theorem dX8_reckon_23 : decode cX8_reckon 23 = .ok (.iload_n 2, 1) := by decide +kernel
theorem dX8_reckon_24 : decode cX8_reckon 24 = .ok (.iaload, 1) := by decide +kernel
theorem dX8_reckon_25 : decode cX8_reckon 25 = .ok (.iconst 1, 1) := by decide +kernel
theorem dX8_reckon_26 : decode cX8_reckon 26 = .ok (.invokevirtual 150, 3) := by decide +kernel
theorem dX8_reckon_29 : decode cX8_reckon 29 = .ok (.aload_n 0, 1) := by decide +kernel
theorem dX8_reckon_30 : decode cX8_reckon 30 = .ok (.getfield 126, 3) := by decide +kernel
theorem dX8_reckon_33 : decode cX8_reckon 33 = .ok (.ifCond .eq 4, 3) := by decide +kernel
theorem dX8_reckon_36 : decode cX8_reckon 36 = .ok (.return_, 1) := by decide +kernel
theorem dX8_reckon_37 : decode cX8_reckon 37 = .ok (.aload_n 0, 1) := by decide +kernel
theorem dX8_reckon_38 : decode cX8_reckon 38 = .ok (.getfield 32, 3) := by decide +kernel
theorem dX8_reckon_41 : decode cX8_reckon 41 = .ok (.aload_n 0, 1) := by decide +kernel
theorem dX8_reckon_42 : decode cX8_reckon 42 = .ok (.aload_n 0, 1) := by decide +kernel
theorem dX8_reckon_43 : decode cX8_reckon 43 = .ok (.getfield 17, 3) := by decide +kernel
theorem dX8_reckon_46 : decode cX8_reckon 46 = .ok (.iload_n 2, 1) := by decide +kernel
theorem dX8_reckon_47 : decode cX8_reckon 47 = .ok (.iaload, 1) := by decide +kernel
theorem dX8_reckon_48 : decode cX8_reckon 48 = .ok (.invokevirtual 153, 3) := by decide +kernel
theorem dX8_reckon_51 : decode cX8_reckon 51 = .ok (.laload, 1) := by decide +kernel
theorem dX8_reckon_52 : decode cX8_reckon 52 = .ok (.lstore_n 3, 1) := by decide +kernel
theorem dX8_reckon_53 : decode cX8_reckon 53 = .ok (.aload_n 0, 1) := by decide +kernel
theorem dX8_reckon_54 : decode cX8_reckon 54 = .ok (.getfield 32, 3) := by decide +kernel
theorem dX8_reckon_57 : decode cX8_reckon 57 = .ok (.aload_n 0, 1) := by decide +kernel
theorem dX8_reckon_58 : decode cX8_reckon 58 = .ok (.aload_n 0, 1) := by decide +kernel
theorem dX8_reckon_59 : decode cX8_reckon 59 = .ok (.getfield 20, 3) := by decide +kernel
theorem dX8_reckon_62 : decode cX8_reckon 62 = .ok (.iload_n 2, 1) := by decide +kernel
theorem dX8_reckon_63 : decode cX8_reckon 63 = .ok (.iaload, 1) := by decide +kernel
theorem dX8_reckon_64 : decode cX8_reckon 64 = .ok (.invokevirtual 153, 3) := by decide +kernel
theorem dX8_reckon_67 : decode cX8_reckon 67 = .ok (.laload, 1) := by decide +kernel
theorem dX8_reckon_68 : decode cX8_reckon 68 = .ok (.lstore 5, 2) := by decide +kernel
theorem dX8_reckon_70 : decode cX8_reckon 70 = .ok (.aload_n 0, 1) := by decide +kernel
theorem dX8_reckon_71 : decode cX8_reckon 71 = .ok (.getfield 23, 3) := by decide +kernel
theorem dX8_reckon_74 : decode cX8_reckon 74 = .ok (.iload_n 2, 1) := by decide +kernel
theorem dX8_reckon_75 : decode cX8_reckon 75 = .ok (.iaload, 1) := by decide +kernel
theorem dX8_reckon_76 : decode cX8_reckon 76 = .ok (.tableswitch 119 0 4 #[36, 48, 60, 72, 99], 36) := by decide +kernel
theorem dX8_reckon_112 : decode cX8_reckon 112 = .ok (.aload_n 0, 1) := by decide +kernel
theorem dX8_reckon_113 : decode cX8_reckon 113 = .ok (.iload_n 1, 1) := by decide +kernel
theorem dX8_reckon_114 : decode cX8_reckon 114 = .ok (.lload_n 3, 1) := by decide +kernel
theorem dX8_reckon_115 : decode cX8_reckon 115 = .ok (.lload 5, 2) := by decide +kernel
theorem dX8_reckon_117 : decode cX8_reckon 117 = .ok (.ladd, 1) := by decide +kernel
theorem dX8_reckon_118 : decode cX8_reckon 118 = .ok (.invokevirtual 142, 3) := by decide +kernel
theorem dX8_reckon_121 : decode cX8_reckon 121 = .ok (.goto 91, 3) := by decide +kernel
theorem dX8_reckon_124 : decode cX8_reckon 124 = .ok (.aload_n 0, 1) := by decide +kernel
theorem dX8_reckon_125 : decode cX8_reckon 125 = .ok (.iload_n 1, 1) := by decide +kernel
theorem dX8_reckon_126 : decode cX8_reckon 126 = .ok (.lload_n 3, 1) := by decide +kernel
theorem dX8_reckon_127 : decode cX8_reckon 127 = .ok (.lload 5, 2) := by decide +kernel
theorem dX8_reckon_129 : decode cX8_reckon 129 = .ok (.lsub, 1) := by decide +kernel
theorem dX8_reckon_130 : decode cX8_reckon 130 = .ok (.invokevirtual 142, 3) := by decide +kernel
theorem dX8_reckon_133 : decode cX8_reckon 133 = .ok (.goto 79, 3) := by decide +kernel
theorem dX8_reckon_136 : decode cX8_reckon 136 = .ok (.aload_n 0, 1) := by decide +kernel
theorem dX8_reckon_137 : decode cX8_reckon 137 = .ok (.iload_n 1, 1) := by decide +kernel
theorem dX8_reckon_138 : decode cX8_reckon 138 = .ok (.lload_n 3, 1) := by decide +kernel
theorem dX8_reckon_139 : decode cX8_reckon 139 = .ok (.lload 5, 2) := by decide +kernel
theorem dX8_reckon_141 : decode cX8_reckon 141 = .ok (.lmul, 1) := by decide +kernel
theorem dX8_reckon_142 : decode cX8_reckon 142 = .ok (.invokevirtual 142, 3) := by decide +kernel
theorem dX8_reckon_145 : decode cX8_reckon 145 = .ok (.goto 67, 3) := by decide +kernel
theorem dX8_reckon_148 : decode cX8_reckon 148 = .ok (.lload 5, 2) := by decide +kernel
theorem dX8_reckon_150 : decode cX8_reckon 150 = .ok (.lconst 0, 1) := by decide +kernel
theorem dX8_reckon_151 : decode cX8_reckon 151 = .ok (.lcmp, 1) := by decide +kernel
theorem dX8_reckon_152 : decode cX8_reckon 152 = .ok (.ifCond .ne 11, 3) := by decide +kernel
theorem dX8_reckon_155 : decode cX8_reckon 155 = .ok (.aload_n 0, 1) := by decide +kernel
theorem dX8_reckon_156 : decode cX8_reckon 156 = .ok (.iconst 1, 1) := by decide +kernel
theorem dX8_reckon_157 : decode cX8_reckon 157 = .ok (.putfield 126, 3) := by decide +kernel
theorem dX8_reckon_160 : decode cX8_reckon 160 = .ok (.goto 52, 3) := by decide +kernel
theorem dX8_reckon_163 : decode cX8_reckon 163 = .ok (.aload_n 0, 1) := by decide +kernel
theorem dX8_reckon_164 : decode cX8_reckon 164 = .ok (.iload_n 1, 1) := by decide +kernel
theorem dX8_reckon_165 : decode cX8_reckon 165 = .ok (.lload_n 3, 1) := by decide +kernel
theorem dX8_reckon_166 : decode cX8_reckon 166 = .ok (.lload 5, 2) := by decide +kernel
theorem dX8_reckon_168 : decode cX8_reckon 168 = .ok (.ldiv, 1) := by decide +kernel
theorem dX8_reckon_169 : decode cX8_reckon 169 = .ok (.invokevirtual 142, 3) := by decide +kernel
theorem dX8_reckon_172 : decode cX8_reckon 172 = .ok (.goto 40, 3) := by decide +kernel
theorem dX8_reckon_175 : decode cX8_reckon 175 = .ok (.aload_n 0, 1) := by decide +kernel
theorem dX8_reckon_176 : decode cX8_reckon 176 = .ok (.iload_n 1, 1) := by decide +kernel
theorem dX8_reckon_177 : decode cX8_reckon 177 = .ok (.lload_n 3, 1) := by decide +kernel
theorem dX8_reckon_178 : decode cX8_reckon 178 = .ok (.lload 5, 2) := by decide +kernel
theorem dX8_reckon_180 : decode cX8_reckon 180 = .ok (.lcmp, 1) := by decide +kernel
theorem dX8_reckon_181 : decode cX8_reckon 181 = .ok (.ifCond .ge 7, 3) := by decide +kernel
theorem dX8_reckon_184 : decode cX8_reckon 184 = .ok (.lconst 1, 1) := by decide +kernel
theorem dX8_reckon_185 : decode cX8_reckon 185 = .ok (.goto 4, 3) := by decide +kernel
theorem dX8_reckon_188 : decode cX8_reckon 188 = .ok (.lconst 0, 1) := by decide +kernel
theorem dX8_reckon_189 : decode cX8_reckon 189 = .ok (.invokevirtual 142, 3) := by decide +kernel
theorem dX8_reckon_192 : decode cX8_reckon 192 = .ok (.goto 20, 3) := by decide +kernel
theorem dX8_reckon_195 : decode cX8_reckon 195 = .ok (.aload_n 0, 1) := by decide +kernel
theorem dX8_reckon_196 : decode cX8_reckon 196 = .ok (.iload_n 1, 1) := by decide +kernel
theorem dX8_reckon_197 : decode cX8_reckon 197 = .ok (.lload_n 3, 1) := by decide +kernel
theorem dX8_reckon_198 : decode cX8_reckon 198 = .ok (.lload 5, 2) := by decide +kernel
theorem dX8_reckon_200 : decode cX8_reckon 200 = .ok (.lcmp, 1) := by decide +kernel
theorem dX8_reckon_201 : decode cX8_reckon 201 = .ok (.ifCond .ne 7, 3) := by decide +kernel
theorem dX8_reckon_204 : decode cX8_reckon 204 = .ok (.lconst 1, 1) := by decide +kernel
theorem dX8_reckon_205 : decode cX8_reckon 205 = .ok (.goto 4, 3) := by decide +kernel
theorem dX8_reckon_208 : decode cX8_reckon 208 = .ok (.lconst 0, 1) := by decide +kernel
theorem dX8_reckon_209 : decode cX8_reckon 209 = .ok (.invokevirtual 142, 3) := by decide +kernel
theorem dX8_reckon_212 : decode cX8_reckon 212 = .ok (.return_, 1) := by decide +kernel
theorem dX8_foldUp_0 : decode cX8_foldUp 0 = .ok (.aload_n 0, 1) := by decide +kernel
theorem dX8_foldUp_1 : decode cX8_foldUp 1 = .ok (.aload_n 0, 1) := by decide +kernel
theorem dX8_foldUp_2 : decode cX8_foldUp 2 = .ok (.getfield 17, 3) := by decide +kernel
theorem dX8_foldUp_5 : decode cX8_foldUp 5 = .ok (.iload_n 2, 1) := by decide +kernel
theorem dX8_foldUp_6 : decode cX8_foldUp 6 = .ok (.iaload, 1) := by decide +kernel
theorem dX8_foldUp_7 : decode cX8_foldUp 7 = .ok (.iconst 3, 1) := by decide +kernel
theorem dX8_foldUp_8 : decode cX8_foldUp 8 = .ok (.invokevirtual 150, 3) := by decide +kernel
theorem dX8_foldUp_11 : decode cX8_foldUp 11 = .ok (.aload_n 0, 1) := by decide +kernel
theorem dX8_foldUp_12 : decode cX8_foldUp 12 = .ok (.getfield 126, 3) := by decide +kernel
theorem dX8_foldUp_15 : decode cX8_foldUp 15 = .ok (.ifCond .eq 4, 3) := by decide +kernel
theorem dX8_foldUp_18 : decode cX8_foldUp 18 = .ok (.return_, 1) := by decide +kernel
theorem dX8_foldUp_19 : decode cX8_foldUp 19 = .ok (.aload_n 0, 1) := by decide +kernel
theorem dX8_foldUp_20 : decode cX8_foldUp 20 = .ok (.getfield 32, 3) := by decide +kernel
theorem dX8_foldUp_23 : decode cX8_foldUp 23 = .ok (.aload_n 0, 1) := by decide +kernel
theorem dX8_foldUp_24 : decode cX8_foldUp 24 = .ok (.aload_n 0, 1) := by decide +kernel
theorem dX8_foldUp_25 : decode cX8_foldUp 25 = .ok (.getfield 17, 3) := by decide +kernel
theorem dX8_foldUp_28 : decode cX8_foldUp 28 = .ok (.iload_n 2, 1) := by decide +kernel
theorem dX8_foldUp_29 : decode cX8_foldUp 29 = .ok (.iaload, 1) := by decide +kernel
theorem dX8_foldUp_30 : decode cX8_foldUp 30 = .ok (.invokevirtual 153, 3) := by decide +kernel
theorem dX8_foldUp_33 : decode cX8_foldUp 33 = .ok (.laload, 1) := by decide +kernel
theorem dX8_foldUp_34 : decode cX8_foldUp 34 = .ok (.l2i, 1) := by decide +kernel
theorem dX8_foldUp_35 : decode cX8_foldUp 35 = .ok (.istore_n 3, 1) := by decide +kernel
theorem dX8_foldUp_36 : decode cX8_foldUp 36 = .ok (.aload_n 0, 1) := by decide +kernel
theorem dX8_foldUp_37 : decode cX8_foldUp 37 = .ok (.getfield 44, 3) := by decide +kernel
theorem dX8_foldUp_40 : decode cX8_foldUp 40 = .ok (.iload_n 3, 1) := by decide +kernel
theorem dX8_foldUp_41 : decode cX8_foldUp 41 = .ok (.laload, 1) := by decide +kernel
theorem dX8_foldUp_42 : decode cX8_foldUp 42 = .ok (.lstore 4, 2) := by decide +kernel
theorem dX8_foldUp_44 : decode cX8_foldUp 44 = .ok (.aload_n 0, 1) := by decide +kernel
theorem dX8_foldUp_45 : decode cX8_foldUp 45 = .ok (.getfield 20, 3) := by decide +kernel
theorem dX8_foldUp_48 : decode cX8_foldUp 48 = .ok (.iload_n 2, 1) := by decide +kernel
theorem dX8_foldUp_49 : decode cX8_foldUp 49 = .ok (.iaload, 1) := by decide +kernel
theorem dX8_foldUp_50 : decode cX8_foldUp 50 = .ok (.ifCond .ne 11, 3) := by decide +kernel
theorem dX8_foldUp_53 : decode cX8_foldUp 53 = .ok (.aload_n 0, 1) := by decide +kernel
theorem dX8_foldUp_54 : decode cX8_foldUp 54 = .ok (.iload_n 1, 1) := by decide +kernel
theorem dX8_foldUp_55 : decode cX8_foldUp 55 = .ok (.lload 4, 2) := by decide +kernel
theorem dX8_foldUp_57 : decode cX8_foldUp 57 = .ok (.invokevirtual 142, 3) := by decide +kernel
theorem dX8_foldUp_60 : decode cX8_foldUp 60 = .ok (.return_, 1) := by decide +kernel
theorem dX8_foldUp_61 : decode cX8_foldUp 61 = .ok (.aload_n 0, 1) := by decide +kernel
theorem dX8_foldUp_62 : decode cX8_foldUp 62 = .ok (.getfield 20, 3) := by decide +kernel
theorem dX8_foldUp_65 : decode cX8_foldUp 65 = .ok (.iload_n 2, 1) := by decide +kernel
theorem dX8_foldUp_66 : decode cX8_foldUp 66 = .ok (.iaload, 1) := by decide +kernel
theorem dX8_foldUp_67 : decode cX8_foldUp 67 = .ok (.iconst 1, 1) := by decide +kernel
theorem dX8_foldUp_68 : decode cX8_foldUp 68 = .ok (.if_icmp .eq 10, 3) := by decide +kernel
theorem dX8_foldUp_71 : decode cX8_foldUp 71 = .ok (.lload 4, 2) := by decide +kernel
theorem dX8_foldUp_73 : decode cX8_foldUp 73 = .ok (.lconst 0, 1) := by decide +kernel
theorem dX8_foldUp_74 : decode cX8_foldUp 74 = .ok (.lcmp, 1) := by decide +kernel
theorem dX8_foldUp_75 : decode cX8_foldUp 75 = .ok (.ifCond .le 7, 3) := by decide +kernel
theorem dX8_foldUp_78 : decode cX8_foldUp 78 = .ok (.iconst 1, 1) := by decide +kernel
theorem dX8_foldUp_79 : decode cX8_foldUp 79 = .ok (.goto 4, 3) := by decide +kernel
theorem dX8_foldUp_82 : decode cX8_foldUp 82 = .ok (.iconst 0, 1) := by decide +kernel
theorem dX8_foldUp_83 : decode cX8_foldUp 83 = .ok (.istore 6, 2) := by decide +kernel
theorem dX8_foldUp_85 : decode cX8_foldUp 85 = .ok (.lconst 0, 1) := by decide +kernel
theorem dX8_foldUp_86 : decode cX8_foldUp 86 = .ok (.lstore 7, 2) := by decide +kernel
theorem dX8_foldUp_88 : decode cX8_foldUp 88 = .ok (.iconst 1, 1) := by decide +kernel
theorem dX8_foldUp_89 : decode cX8_foldUp 89 = .ok (.istore 9, 2) := by decide +kernel
theorem dX8_foldUp_91 : decode cX8_foldUp 91 = .ok (.iload 9, 2) := by decide +kernel
theorem dX8_foldUp_93 : decode cX8_foldUp 93 = .ok (.i2l, 1) := by decide +kernel
theorem dX8_foldUp_94 : decode cX8_foldUp 94 = .ok (.lload 4, 2) := by decide +kernel
theorem dX8_foldUp_96 : decode cX8_foldUp 96 = .ok (.lcmp, 1) := by decide +kernel
theorem dX8_foldUp_97 : decode cX8_foldUp 97 = .ok (.ifCond .gt 95, 3) := by decide +kernel
theorem dX8_foldUp_100 : decode cX8_foldUp 100 = .ok (.iload 6, 2) := by decide +kernel
theorem dX8_foldUp_102 : decode cX8_foldUp 102 = .ok (.ifCond .eq 90, 3) := by decide +kernel
theorem dX8_foldUp_105 : decode cX8_foldUp 105 = .ok (.aload_n 0, 1) := by decide +kernel
theorem dX8_foldUp_106 : decode cX8_foldUp 106 = .ok (.getfield 41, 3) := by decide +kernel
theorem dX8_foldUp_109 : decode cX8_foldUp 109 = .ok (.iload_n 3, 1) := by decide +kernel
theorem dX8_foldUp_110 : decode cX8_foldUp 110 = .ok (.iload 9, 2) := by decide +kernel
theorem dX8_foldUp_112 : decode cX8_foldUp 112 = .ok (.iadd, 1) := by decide +kernel
theorem dX8_foldUp_113 : decode cX8_foldUp 113 = .ok (.iaload, 1) := by decide +kernel
theorem dX8_foldUp_114 : decode cX8_foldUp 114 = .ok (.ifCond .ne 7, 3) := by decide +kernel
theorem dX8_foldUp_117 : decode cX8_foldUp 117 = .ok (.iconst 1, 1) := by decide +kernel
theorem dX8_foldUp_118 : decode cX8_foldUp 118 = .ok (.goto 4, 3) := by decide +kernel
theorem dX8_foldUp_121 : decode cX8_foldUp 121 = .ok (.iconst 0, 1) := by decide +kernel
theorem dX8_foldUp_122 : decode cX8_foldUp 122 = .ok (.istore 6, 2) := by decide +kernel
theorem dX8_foldUp_124 : decode cX8_foldUp 124 = .ok (.aload_n 0, 1) := by decide +kernel
theorem dX8_foldUp_125 : decode cX8_foldUp 125 = .ok (.getfield 20, 3) := by decide +kernel
theorem dX8_foldUp_128 : decode cX8_foldUp 128 = .ok (.iload_n 2, 1) := by decide +kernel
theorem dX8_foldUp_129 : decode cX8_foldUp 129 = .ok (.iaload, 1) := by decide +kernel
theorem dX8_foldUp_130 : decode cX8_foldUp 130 = .ok (.iconst 1, 1) := by decide +kernel
theorem dX8_foldUp_131 : decode cX8_foldUp 131 = .ok (.if_icmp .ne 18, 3) := by decide +kernel
theorem dX8_foldUp_134 : decode cX8_foldUp 134 = .ok (.lload 7, 2) := by decide +kernel
theorem dX8_foldUp_136 : decode cX8_foldUp 136 = .ok (.aload_n 0, 1) := by decide +kernel
theorem dX8_foldUp_137 : decode cX8_foldUp 137 = .ok (.getfield 44, 3) := by decide +kernel
theorem dX8_foldUp_140 : decode cX8_foldUp 140 = .ok (.iload_n 3, 1) := by decide +kernel
theorem dX8_foldUp_141 : decode cX8_foldUp 141 = .ok (.iload 9, 2) := by decide +kernel
theorem dX8_foldUp_143 : decode cX8_foldUp 143 = .ok (.iadd, 1) := by decide +kernel
theorem dX8_foldUp_144 : decode cX8_foldUp 144 = .ok (.laload, 1) := by decide +kernel
theorem dX8_foldUp_145 : decode cX8_foldUp 145 = .ok (.ladd, 1) := by decide +kernel
theorem dX8_foldUp_146 : decode cX8_foldUp 146 = .ok (.goto 38, 3) := by decide +kernel
theorem dX8_foldUp_149 : decode cX8_foldUp 149 = .ok (.iload 9, 2) := by decide +kernel
theorem dX8_foldUp_151 : decode cX8_foldUp 151 = .ok (.iconst 1, 1) := by decide +kernel
theorem dX8_foldUp_152 : decode cX8_foldUp 152 = .ok (.if_icmp .eq 18, 3) := by decide +kernel
theorem dX8_foldUp_155 : decode cX8_foldUp 155 = .ok (.aload_n 0, 1) := by decide +kernel
theorem dX8_foldUp_156 : decode cX8_foldUp 156 = .ok (.getfield 44, 3) := by decide +kernel
theorem dX8_foldUp_159 : decode cX8_foldUp 159 = .ok (.iload_n 3, 1) := by decide +kernel
theorem dX8_foldUp_160 : decode cX8_foldUp 160 = .ok (.iload 9, 2) := by decide +kernel
theorem dX8_foldUp_162 : decode cX8_foldUp 162 = .ok (.iadd, 1) := by decide +kernel
theorem dX8_foldUp_163 : decode cX8_foldUp 163 = .ok (.laload, 1) := by decide +kernel
theorem dX8_foldUp_164 : decode cX8_foldUp 164 = .ok (.lload 7, 2) := by decide +kernel
theorem dX8_foldUp_166 : decode cX8_foldUp 166 = .ok (.lcmp, 1) := by decide +kernel
theorem dX8_foldUp_167 : decode cX8_foldUp 167 = .ok (.ifCond .ge 15, 3) := by decide +kernel
theorem dX8_foldUp_170 : decode cX8_foldUp 170 = .ok (.aload_n 0, 1) := by decide +kernel
theorem dX8_foldUp_171 : decode cX8_foldUp 171 = .ok (.getfield 44, 3) := by decide +kernel
theorem dX8_foldUp_174 : decode cX8_foldUp 174 = .ok (.iload_n 3, 1) := by decide +kernel
theorem dX8_foldUp_175 : decode cX8_foldUp 175 = .ok (.iload 9, 2) := by decide +kernel
theorem dX8_foldUp_177 : decode cX8_foldUp 177 = .ok (.iadd, 1) := by decide +kernel
theorem dX8_foldUp_178 : decode cX8_foldUp 178 = .ok (.laload, 1) := by decide +kernel
theorem dX8_foldUp_179 : decode cX8_foldUp 179 = .ok (.goto 5, 3) := by decide +kernel
theorem dX8_foldUp_182 : decode cX8_foldUp 182 = .ok (.lload 7, 2) := by decide +kernel
theorem dX8_foldUp_184 : decode cX8_foldUp 184 = .ok (.lstore 7, 2) := by decide +kernel
theorem dX8_foldUp_186 : decode cX8_foldUp 186 = .ok (.iinc 9 1, 3) := by decide +kernel
theorem dX8_foldUp_189 : decode cX8_foldUp 189 = .ok (.goto (-98), 3) := by decide +kernel
theorem dX8_foldUp_192 : decode cX8_foldUp 192 = .ok (.iload 6, 2) := by decide +kernel
theorem dX8_foldUp_194 : decode cX8_foldUp 194 = .ok (.ifCond .eq 13, 3) := by decide +kernel
theorem dX8_foldUp_197 : decode cX8_foldUp 197 = .ok (.aload_n 0, 1) := by decide +kernel
theorem dX8_foldUp_198 : decode cX8_foldUp 198 = .ok (.iload_n 1, 1) := by decide +kernel
theorem dX8_foldUp_199 : decode cX8_foldUp 199 = .ok (.lload 7, 2) := by decide +kernel
theorem dX8_foldUp_201 : decode cX8_foldUp 201 = .ok (.invokevirtual 142, 3) := by decide +kernel
theorem dX8_foldUp_204 : decode cX8_foldUp 204 = .ok (.goto 8, 3) := by decide +kernel
theorem dX8_foldUp_207 : decode cX8_foldUp 207 = .ok (.aload_n 0, 1) := by decide +kernel
theorem dX8_foldUp_208 : decode cX8_foldUp 208 = .ok (.iconst 1, 1) := by decide +kernel
theorem dX8_foldUp_209 : decode cX8_foldUp 209 = .ok (.putfield 126, 3) := by decide +kernel
theorem dX8_foldUp_212 : decode cX8_foldUp 212 = .ok (.return_, 1) := by decide +kernel
theorem dX8_token_0 : decode cX8_token 0 = .ok (.aload_n 0, 1) := by decide +kernel
theorem dX8_token_1 : decode cX8_token 1 = .ok (.getfield 62, 3) := by decide +kernel
theorem dX8_token_4 : decode cX8_token 4 = .ok (.aload_n 0, 1) := by decide +kernel
theorem dX8_token_5 : decode cX8_token 5 = .ok (.getfield 119, 3) := by decide +kernel
theorem dX8_token_8 : decode cX8_token 8 = .ok (.iaload, 1) := by decide +kernel
theorem dX8_token_9 : decode cX8_token 9 = .ok (.bipush 100, 2) := by decide +kernel
theorem dX8_token_11 : decode cX8_token 11 = .ok (.if_icmp .ne 9, 3) := by decide +kernel
theorem dX8_token_14 : decode cX8_token 14 = .ok (.aload_n 0, 1) := by decide +kernel
theorem dX8_token_15 : decode cX8_token 15 = .ok (.iconst 2, 1) := by decide +kernel
theorem dX8_token_16 : decode cX8_token 16 = .ok (.putfield 126, 3) := by decide +kernel
theorem dX8_token_19 : decode cX8_token 19 = .ok (.return_, 1) := by decide +kernel
theorem dX8_token_20 : decode cX8_token 20 = .ok (.bipush 100, 2) := by decide +kernel
theorem dX8_token_22 : decode cX8_token 22 = .ok (.aload_n 0, 1) := by decide +kernel
theorem dX8_token_23 : decode cX8_token 23 = .ok (.getfield 119, 3) := by decide +kernel
theorem dX8_token_26 : decode cX8_token 26 = .ok (.imul, 1) := by decide +kernel
theorem dX8_token_27 : decode cX8_token 27 = .ok (.aload_n 0, 1) := by decide +kernel
theorem dX8_token_28 : decode cX8_token 28 = .ok (.getfield 62, 3) := by decide +kernel
theorem dX8_token_31 : decode cX8_token 31 = .ok (.aload_n 0, 1) := by decide +kernel
theorem dX8_token_32 : decode cX8_token 32 = .ok (.getfield 119, 3) := by decide +kernel
theorem dX8_token_35 : decode cX8_token 35 = .ok (.iaload, 1) := by decide +kernel
theorem dX8_token_36 : decode cX8_token 36 = .ok (.iadd, 1) := by decide +kernel
theorem dX8_token_37 : decode cX8_token 37 = .ok (.istore 4, 2) := by decide +kernel
theorem dX8_token_39 : decode cX8_token 39 = .ok (.aload_n 0, 1) := by decide +kernel
theorem dX8_token_40 : decode cX8_token 40 = .ok (.getfield 56, 3) := by decide +kernel
theorem dX8_token_43 : decode cX8_token 43 = .ok (.iload 4, 2) := by decide +kernel
theorem dX8_token_45 : decode cX8_token 45 = .ok (.iload_n 1, 1) := by decide +kernel
theorem dX8_token_46 : decode cX8_token 46 = .ok (.iastore, 1) := by decide +kernel
theorem dX8_token_47 : decode cX8_token 47 = .ok (.aload_n 0, 1) := by decide +kernel
theorem dX8_token_48 : decode cX8_token 48 = .ok (.getfield 59, 3) := by decide +kernel
theorem dX8_token_51 : decode cX8_token 51 = .ok (.iload 4, 2) := by decide +kernel
theorem dX8_token_53 : decode cX8_token 53 = .ok (.lload_n 2, 1) := by decide +kernel
theorem dX8_token_54 : decode cX8_token 54 = .ok (.lastore, 1) := by decide +kernel
theorem dX8_token_55 : decode cX8_token 55 = .ok (.aload_n 0, 1) := by decide +kernel
theorem dX8_token_56 : decode cX8_token 56 = .ok (.getfield 62, 3) := by decide +kernel
theorem dX8_token_59 : decode cX8_token 59 = .ok (.aload_n 0, 1) := by decide +kernel
theorem dX8_token_60 : decode cX8_token 60 = .ok (.getfield 119, 3) := by decide +kernel
theorem dX8_token_63 : decode cX8_token 63 = .ok (.dup2, 1) := by decide +kernel
theorem dX8_token_64 : decode cX8_token 64 = .ok (.iaload, 1) := by decide +kernel
theorem dX8_token_65 : decode cX8_token 65 = .ok (.iconst 1, 1) := by decide +kernel
theorem dX8_token_66 : decode cX8_token 66 = .ok (.iadd, 1) := by decide +kernel
theorem dX8_token_67 : decode cX8_token 67 = .ok (.iastore, 1) := by decide +kernel
theorem dX8_token_68 : decode cX8_token 68 = .ok (.return_, 1) := by decide +kernel
theorem dX8_tellFull_0 : decode cX8_tellFull 0 = .ok (.aload_n 0, 1) := by decide +kernel
theorem dX8_tellFull_1 : decode cX8_tellFull 1 = .ok (.iload_n 1, 1) := by decide +kernel
theorem dX8_tellFull_2 : decode cX8_tellFull 2 = .ok (.invokevirtual 168, 3) := by decide +kernel
theorem dX8_tellFull_5 : decode cX8_tellFull 5 = .ok (.aload_n 0, 1) := by decide +kernel
theorem dX8_tellFull_6 : decode cX8_tellFull 6 = .ok (.getfield 126, 3) := by decide +kernel
theorem dX8_tellFull_9 : decode cX8_tellFull 9 = .ok (.ifCond .eq 4, 3) := by decide +kernel
theorem dX8_tellFull_12 : decode cX8_tellFull 12 = .ok (.return_, 1) := by decide +kernel
theorem dX8_tellFull_13 : decode cX8_tellFull 13 = .ok (.aload_n 0, 1) := by decide +kernel
theorem dX8_tellFull_14 : decode cX8_tellFull 14 = .ok (.iload_n 1, 1) := by decide +kernel
theorem dX8_tellFull_15 : decode cX8_tellFull 15 = .ok (.invokevirtual 153, 3) := by decide +kernel
theorem dX8_tellFull_18 : decode cX8_tellFull 18 = .ok (.istore_n 2, 1) := by decide +kernel
theorem dX8_tellFull_19 : decode cX8_tellFull 19 = .ok (.aload_n 0, 1) := by decide +kernel
theorem dX8_tellFull_20 : decode cX8_tellFull 20 = .ok (.getfield 29, 3) := by decide +kernel
theorem dX8_tellFull_23 : decode cX8_tellFull 23 = .ok (.iload_n 2, 1) := by decide +kernel
theorem dX8_tellFull_24 : decode cX8_tellFull 24 = .ok (.iaload, 1) := by decide +kernel
theorem dX8_tellFull_25 : decode cX8_tellFull 25 = .ok (.iconst 1, 1) := by decide +kernel
theorem dX8_tellFull_26 : decode cX8_tellFull 26 = .ok (.if_icmp .ne 17, 3) := by decide +kernel
theorem dX8_tellFull_29 : decode cX8_tellFull 29 = .ok (.aload_n 0, 1) := by decide +kernel
theorem dX8_tellFull_30 : decode cX8_tellFull 30 = .ok (.iconst 0, 1) := by decide +kernel
theorem dX8_tellFull_31 : decode cX8_tellFull 31 = .ok (.aload_n 0, 1) := by decide +kernel
theorem dX8_tellFull_32 : decode cX8_tellFull 32 = .ok (.getfield 32, 3) := by decide +kernel
theorem dX8_tellFull_35 : decode cX8_tellFull 35 = .ok (.iload_n 2, 1) := by decide +kernel
theorem dX8_tellFull_36 : decode cX8_tellFull 36 = .ok (.laload, 1) := by decide +kernel
theorem dX8_tellFull_37 : decode cX8_tellFull 37 = .ok (.invokevirtual 171, 3) := by decide +kernel
theorem dX8_tellFull_40 : decode cX8_tellFull 40 = .ok (.goto 120, 3) := by decide +kernel
theorem dX8_tellFull_43 : decode cX8_tellFull 43 = .ok (.aload_n 0, 1) := by decide +kernel
theorem dX8_tellFull_44 : decode cX8_tellFull 44 = .ok (.getfield 29, 3) := by decide +kernel
theorem dX8_tellFull_47 : decode cX8_tellFull 47 = .ok (.iload_n 2, 1) := by decide +kernel
theorem dX8_tellFull_48 : decode cX8_tellFull 48 = .ok (.iaload, 1) := by decide +kernel
theorem dX8_tellFull_49 : decode cX8_tellFull 49 = .ok (.iconst 3, 1) := by decide +kernel
theorem dX8_tellFull_50 : decode cX8_tellFull 50 = .ok (.if_icmp .ne 62, 3) := by decide +kernel
theorem dX8_tellFull_53 : decode cX8_tellFull 53 = .ok (.aload_n 0, 1) := by decide +kernel
theorem dX8_tellFull_54 : decode cX8_tellFull 54 = .ok (.getfield 32, 3) := by decide +kernel
theorem dX8_tellFull_57 : decode cX8_tellFull 57 = .ok (.iload_n 2, 1) := by decide +kernel
theorem dX8_tellFull_58 : decode cX8_tellFull 58 = .ok (.laload, 1) := by decide +kernel
theorem dX8_tellFull_59 : decode cX8_tellFull 59 = .ok (.l2i, 1) := by decide +kernel
theorem dX8_tellFull_60 : decode cX8_tellFull 60 = .ok (.istore_n 3, 1) := by decide +kernel
theorem dX8_tellFull_61 : decode cX8_tellFull 61 = .ok (.aload_n 0, 1) := by decide +kernel
theorem dX8_tellFull_62 : decode cX8_tellFull 62 = .ok (.iload_n 3, 1) := by decide +kernel
theorem dX8_tellFull_63 : decode cX8_tellFull 63 = .ok (.invokevirtual 174, 3) := by decide +kernel
theorem dX8_tellFull_66 : decode cX8_tellFull 66 = .ok (.istore 4, 2) := by decide +kernel
theorem dX8_tellFull_68 : decode cX8_tellFull 68 = .ok (.iload_n 3, 1) := by decide +kernel
theorem dX8_tellFull_69 : decode cX8_tellFull 69 = .ok (.istore 5, 2) := by decide +kernel
theorem dX8_tellFull_71 : decode cX8_tellFull 71 = .ok (.iload 5, 2) := by decide +kernel
theorem dX8_tellFull_73 : decode cX8_tellFull 73 = .ok (.iload 4, 2) := by decide +kernel
theorem dX8_tellFull_75 : decode cX8_tellFull 75 = .ok (.if_icmp .ge 34, 3) := by decide +kernel
theorem dX8_tellFull_78 : decode cX8_tellFull 78 = .ok (.aload_n 0, 1) := by decide +kernel
theorem dX8_tellFull_79 : decode cX8_tellFull 79 = .ok (.getfield 126, 3) := by decide +kernel
theorem dX8_tellFull_82 : decode cX8_tellFull 82 = .ok (.ifCond .ne 27, 3) := by decide +kernel
theorem dX8_tellFull_85 : decode cX8_tellFull 85 = .ok (.aload_n 0, 1) := by decide +kernel
theorem dX8_tellFull_86 : decode cX8_tellFull 86 = .ok (.aload_n 0, 1) := by decide +kernel
theorem dX8_tellFull_87 : decode cX8_tellFull 87 = .ok (.getfield 41, 3) := by decide +kernel
theorem dX8_tellFull_90 : decode cX8_tellFull 90 = .ok (.iload 5, 2) := by decide +kernel
theorem dX8_tellFull_92 : decode cX8_tellFull 92 = .ok (.iaload, 1) := by decide +kernel
theorem dX8_tellFull_93 : decode cX8_tellFull 93 = .ok (.aload_n 0, 1) := by decide +kernel
theorem dX8_tellFull_94 : decode cX8_tellFull 94 = .ok (.getfield 44, 3) := by decide +kernel
theorem dX8_tellFull_97 : decode cX8_tellFull 97 = .ok (.iload 5, 2) := by decide +kernel
theorem dX8_tellFull_99 : decode cX8_tellFull 99 = .ok (.laload, 1) := by decide +kernel
theorem dX8_tellFull_100 : decode cX8_tellFull 100 = .ok (.invokevirtual 171, 3) := by decide +kernel
theorem dX8_tellFull_103 : decode cX8_tellFull 103 = .ok (.iinc 5 1, 3) := by decide +kernel
theorem dX8_tellFull_106 : decode cX8_tellFull 106 = .ok (.goto (-35), 3) := by decide +kernel
theorem dX8_tellFull_109 : decode cX8_tellFull 109 = .ok (.goto 51, 3) := by decide +kernel
theorem dX8_tellFull_112 : decode cX8_tellFull 112 = .ok (.aload_n 0, 1) := by decide +kernel
theorem dX8_tellFull_113 : decode cX8_tellFull 113 = .ok (.getfield 35, 3) := by decide +kernel
theorem dX8_tellFull_116 : decode cX8_tellFull 116 = .ok (.iload_n 2, 1) := by decide +kernel
theorem dX8_tellFull_117 : decode cX8_tellFull 117 = .ok (.iaload, 1) := by decide +kernel
theorem dX8_tellFull_118 : decode cX8_tellFull 118 = .ok (.istore_n 3, 1) := by decide +kernel
theorem dX8_tellFull_119 : decode cX8_tellFull 119 = .ok (.aload_n 0, 1) := by decide +kernel
theorem dX8_tellFull_120 : decode cX8_tellFull 120 = .ok (.getfield 38, 3) := by decide +kernel
theorem dX8_tellFull_123 : decode cX8_tellFull 123 = .ok (.iload_n 2, 1) := by decide +kernel
theorem dX8_tellFull_124 : decode cX8_tellFull 124 = .ok (.iaload, 1) := by decide +kernel
theorem dX8_tellFull_125 : decode cX8_tellFull 125 = .ok (.istore 4, 2) := by decide +kernel
theorem dX8_tellFull_127 : decode cX8_tellFull 127 = .ok (.aload_n 0, 1) := by decide +kernel
theorem dX8_tellFull_128 : decode cX8_tellFull 128 = .ok (.iconst 1, 1) := by decide +kernel
theorem dX8_tellFull_129 : decode cX8_tellFull 129 = .ok (.ldc2_w 177, 3) := by decide +kernel
theorem dX8_tellFull_132 : decode cX8_tellFull 132 = .ok (.invokevirtual 171, 3) := by decide +kernel
theorem dX8_tellFull_135 : decode cX8_tellFull 135 = .ok (.aload_n 0, 1) := by decide +kernel
theorem dX8_tellFull_136 : decode cX8_tellFull 136 = .ok (.getfield 126, 3) := by decide +kernel
theorem dX8_tellFull_139 : decode cX8_tellFull 139 = .ok (.ifCond .ne 8, 3) := by decide +kernel
theorem dX8_tellFull_142 : decode cX8_tellFull 142 = .ok (.aload_n 0, 1) := by decide +kernel
theorem dX8_tellFull_143 : decode cX8_tellFull 143 = .ok (.iload_n 3, 1) := by decide +kernel
theorem dX8_tellFull_144 : decode cX8_tellFull 144 = .ok (.invokevirtual 179, 3) := by decide +kernel
theorem dX8_tellFull_147 : decode cX8_tellFull 147 = .ok (.aload_n 0, 1) := by decide +kernel
theorem dX8_tellFull_148 : decode cX8_tellFull 148 = .ok (.getfield 126, 3) := by decide +kernel
theorem dX8_tellFull_151 : decode cX8_tellFull 151 = .ok (.ifCond .ne 9, 3) := by decide +kernel
theorem dX8_tellFull_154 : decode cX8_tellFull 154 = .ok (.aload_n 0, 1) := by decide +kernel
theorem dX8_tellFull_155 : decode cX8_tellFull 155 = .ok (.iload 4, 2) := by decide +kernel
theorem dX8_tellFull_157 : decode cX8_tellFull 157 = .ok (.invokevirtual 179, 3) := by decide +kernel
theorem dX8_tellFull_160 : decode cX8_tellFull 160 = .ok (.return_, 1) := by decide +kernel
theorem dX8_behind_0 : decode cX8_behind 0 = .ok (.lconst 1, 1) := by decide +kernel
theorem dX8_behind_1 : decode cX8_behind 1 = .ok (.lstore_n 2, 1) := by decide +kernel
theorem dX8_behind_2 : decode cX8_behind 2 = .ok (.iload_n 1, 1) := by decide +kernel
theorem dX8_behind_3 : decode cX8_behind 3 = .ok (.istore 4, 2) := by decide +kernel
theorem dX8_behind_5 : decode cX8_behind 5 = .ok (.lload_n 2, 1) := by decide +kernel
theorem dX8_behind_6 : decode cX8_behind 6 = .ok (.lconst 0, 1) := by decide +kernel
theorem dX8_behind_7 : decode cX8_behind 7 = .ok (.lcmp, 1) := by decide +kernel
theorem dX8_behind_8 : decode cX8_behind 8 = .ok (.ifCond .le 37, 3) := by decide +kernel
theorem dX8_behind_11 : decode cX8_behind 11 = .ok (.lload_n 2, 1) := by decide +kernel
theorem dX8_behind_12 : decode cX8_behind 12 = .ok (.aload_n 0, 1) := by decide +kernel
theorem dX8_behind_13 : decode cX8_behind 13 = .ok (.getfield 41, 3) := by decide +kernel
theorem dX8_behind_16 : decode cX8_behind 16 = .ok (.iload 4, 2) := by decide +kernel
theorem dX8_behind_18 : decode cX8_behind 18 = .ok (.iaload, 1) := by decide +kernel
theorem dX8_behind_19 : decode cX8_behind 19 = .ok (.ifCond .ne 9, 3) := by decide +kernel
theorem dX8_behind_22 : decode cX8_behind 22 = .ok (.ldc2_w 182, 3) := by decide +kernel
theorem dX8_behind_25 : decode cX8_behind 25 = .ok (.goto 12, 3) := by decide +kernel
theorem dX8_behind_28 : decode cX8_behind 28 = .ok (.aload_n 0, 1) := by decide +kernel
theorem dX8_behind_29 : decode cX8_behind 29 = .ok (.getfield 44, 3) := by decide +kernel
theorem dX8_behind_32 : decode cX8_behind 32 = .ok (.iload 4, 2) := by decide +kernel
theorem dX8_behind_34 : decode cX8_behind 34 = .ok (.laload, 1) := by decide +kernel
theorem dX8_behind_35 : decode cX8_behind 35 = .ok (.lconst 1, 1) := by decide +kernel
theorem dX8_behind_36 : decode cX8_behind 36 = .ok (.lsub, 1) := by decide +kernel
theorem dX8_behind_37 : decode cX8_behind 37 = .ok (.ladd, 1) := by decide +kernel
theorem dX8_behind_38 : decode cX8_behind 38 = .ok (.lstore_n 2, 1) := by decide +kernel
theorem dX8_behind_39 : decode cX8_behind 39 = .ok (.iinc 4 1, 3) := by decide +kernel
theorem dX8_behind_42 : decode cX8_behind 42 = .ok (.goto (-37), 3) := by decide +kernel
theorem dX8_behind_45 : decode cX8_behind 45 = .ok (.iload 4, 2) := by decide +kernel
theorem dX8_behind_47 : decode cX8_behind 47 = .ok (.ireturn, 1) := by decide +kernel
theorem dX8_goAll_0 : decode cX8_goAll 0 = .ok (.aload_n 0, 1) := by decide +kernel
theorem dX8_goAll_1 : decode cX8_goAll 1 = .ok (.getfield 119, 3) := by decide +kernel
theorem dX8_goAll_4 : decode cX8_goAll 4 = .ok (.iconst 5, 1) := by decide +kernel
theorem dX8_goAll_5 : decode cX8_goAll 5 = .ok (.if_icmp .ne 9, 3) := by decide +kernel
theorem dX8_goAll_8 : decode cX8_goAll 8 = .ok (.aload_n 0, 1) := by decide +kernel
theorem dX8_goAll_9 : decode cX8_goAll 9 = .ok (.iconst 2, 1) := by decide +kernel
theorem dX8_goAll_10 : decode cX8_goAll 10 = .ok (.putfield 126, 3) := by decide +kernel
theorem dX8_goAll_13 : decode cX8_goAll 13 = .ok (.return_, 1) := by decide +kernel
theorem dX8_goAll_14 : decode cX8_goAll 14 = .ok (.iconst 1, 1) := by decide +kernel
theorem dX8_goAll_15 : decode cX8_goAll 15 = .ok (.istore_n 3, 1) := by decide +kernel
theorem dX8_goAll_16 : decode cX8_goAll 16 = .ok (.iload_n 3, 1) := by decide +kernel
theorem dX8_goAll_17 : decode cX8_goAll 17 = .ok (.ifCond .eq 239, 3) := by decide +kernel
theorem dX8_goAll_20 : decode cX8_goAll 20 = .ok (.aload_n 0, 1) := by decide +kernel
theorem dX8_goAll_21 : decode cX8_goAll 21 = .ok (.getfield 126, 3) := by decide +kernel
theorem dX8_goAll_24 : decode cX8_goAll 24 = .ok (.ifCond .ne 232, 3) := by decide +kernel
theorem dX8_goAll_27 : decode cX8_goAll 27 = .ok (.iconst 0, 1) := by decide +kernel
theorem dX8_goAll_28 : decode cX8_goAll 28 = .ok (.istore_n 3, 1) := by decide +kernel
theorem dX8_goAll_29 : decode cX8_goAll 29 = .ok (.aload_n 0, 1) := by decide +kernel
theorem dX8_goAll_30 : decode cX8_goAll 30 = .ok (.getfield 184, 3) := by decide +kernel
theorem dX8_goAll_33 : decode cX8_goAll 33 = .ok (.istore 4, 2) := by decide +kernel
theorem dX8_goAll_35 : decode cX8_goAll 35 = .ok (.aload_n 0, 1) := by decide +kernel
theorem dX8_goAll_36 : decode cX8_goAll 36 = .ok (.dup, 1) := by decide +kernel
theorem dX8_goAll_37 : decode cX8_goAll 37 = .ok (.getfield 119, 3) := by decide +kernel
theorem dX8_goAll_40 : decode cX8_goAll 40 = .ok (.iconst 1, 1) := by decide +kernel
theorem dX8_goAll_41 : decode cX8_goAll 41 = .ok (.iadd, 1) := by decide +kernel
theorem dX8_goAll_42 : decode cX8_goAll 42 = .ok (.putfield 119, 3) := by decide +kernel
theorem dX8_goAll_45 : decode cX8_goAll 45 = .ok (.aload_n 0, 1) := by decide +kernel
theorem dX8_goAll_46 : decode cX8_goAll 46 = .ok (.getfield 26, 3) := by decide +kernel
theorem dX8_goAll_49 : decode cX8_goAll 49 = .ok (.aload_n 0, 1) := by decide +kernel
theorem dX8_goAll_50 : decode cX8_goAll 50 = .ok (.getfield 119, 3) := by decide +kernel
theorem dX8_goAll_53 : decode cX8_goAll 53 = .ok (.aload_n 0, 1) := by decide +kernel
theorem dX8_goAll_54 : decode cX8_goAll 54 = .ok (.getfield 20, 3) := by decide +kernel
theorem dX8_goAll_57 : decode cX8_goAll 57 = .ok (.iload_n 2, 1) := by decide +kernel
theorem dX8_goAll_58 : decode cX8_goAll 58 = .ok (.iaload, 1) := by decide +kernel
theorem dX8_goAll_59 : decode cX8_goAll 59 = .ok (.iastore, 1) := by decide +kernel
theorem dX8_goAll_60 : decode cX8_goAll 60 = .ok (.aload_n 0, 1) := by decide +kernel
theorem dX8_goAll_61 : decode cX8_goAll 61 = .ok (.getfield 50, 3) := by decide +kernel
theorem dX8_goAll_64 : decode cX8_goAll 64 = .ok (.aload_n 0, 1) := by decide +kernel
theorem dX8_goAll_65 : decode cX8_goAll 65 = .ok (.getfield 119, 3) := by decide +kernel
theorem dX8_goAll_68 : decode cX8_goAll 68 = .ok (.iconst 0, 1) := by decide +kernel
theorem dX8_goAll_69 : decode cX8_goAll 69 = .ok (.iastore, 1) := by decide +kernel
theorem dX8_goAll_70 : decode cX8_goAll 70 = .ok (.aload_n 0, 1) := by decide +kernel
theorem dX8_goAll_71 : decode cX8_goAll 71 = .ok (.getfield 71, 3) := by decide +kernel
theorem dX8_goAll_74 : decode cX8_goAll 74 = .ok (.aload_n 0, 1) := by decide +kernel
theorem dX8_goAll_75 : decode cX8_goAll 75 = .ok (.getfield 119, 3) := by decide +kernel
theorem dX8_goAll_78 : decode cX8_goAll 78 = .ok (.iconst 0, 1) := by decide +kernel
theorem dX8_goAll_79 : decode cX8_goAll 79 = .ok (.iastore, 1) := by decide +kernel
theorem dX8_goAll_80 : decode cX8_goAll 80 = .ok (.lconst 0, 1) := by decide +kernel
theorem dX8_goAll_81 : decode cX8_goAll 81 = .ok (.lstore 5, 2) := by decide +kernel
theorem dX8_goAll_83 : decode cX8_goAll 83 = .ok (.iconst 1, 1) := by decide +kernel
theorem dX8_goAll_84 : decode cX8_goAll 84 = .ok (.istore 7, 2) := by decide +kernel
theorem dX8_goAll_86 : decode cX8_goAll 86 = .ok (.iload 7, 2) := by decide +kernel
theorem dX8_goAll_88 : decode cX8_goAll 88 = .ok (.ifCond .eq 87, 3) := by decide +kernel
theorem dX8_goAll_91 : decode cX8_goAll 91 = .ok (.aload_n 0, 1) := by decide +kernel
theorem dX8_goAll_92 : decode cX8_goAll 92 = .ok (.getfield 126, 3) := by decide +kernel
theorem dX8_goAll_95 : decode cX8_goAll 95 = .ok (.ifCond .ne 80, 3) := by decide +kernel
theorem dX8_goAll_98 : decode cX8_goAll 98 = .ok (.aload_n 0, 1) := by decide +kernel
theorem dX8_goAll_99 : decode cX8_goAll 99 = .ok (.invokevirtual 187, 3) := by decide +kernel
theorem dX8_goAll_102 : decode cX8_goAll 102 = .ok (.aload_n 0, 1) := by decide +kernel
theorem dX8_goAll_103 : decode cX8_goAll 103 = .ok (.iload 4, 2) := by decide +kernel
theorem dX8_goAll_105 : decode cX8_goAll 105 = .ok (.putfield 184, 3) := by decide +kernel
theorem dX8_goAll_108 : decode cX8_goAll 108 = .ok (.aload_n 0, 1) := by decide +kernel
theorem dX8_goAll_109 : decode cX8_goAll 109 = .ok (.aload_n 0, 1) := by decide +kernel
theorem dX8_goAll_110 : decode cX8_goAll 110 = .ok (.getfield 17, 3) := by decide +kernel
theorem dX8_goAll_113 : decode cX8_goAll 113 = .ok (.iload_n 2, 1) := by decide +kernel
theorem dX8_goAll_114 : decode cX8_goAll 114 = .ok (.iaload, 1) := by decide +kernel
theorem dX8_goAll_115 : decode cX8_goAll 115 = .ok (.invokevirtual 179, 3) := by decide +kernel
theorem dX8_goAll_118 : decode cX8_goAll 118 = .ok (.aload_n 0, 1) := by decide +kernel
theorem dX8_goAll_119 : decode cX8_goAll 119 = .ok (.getfield 126, 3) := by decide +kernel
theorem dX8_goAll_122 : decode cX8_goAll 122 = .ok (.ifCond .ne 16, 3) := by decide +kernel
theorem dX8_goAll_125 : decode cX8_goAll 125 = .ok (.aload_n 0, 1) := by decide +kernel
theorem dX8_goAll_126 : decode cX8_goAll 126 = .ok (.invokevirtual 190, 3) := by decide +kernel
theorem dX8_goAll_129 : decode cX8_goAll 129 = .ok (.lload 5, 2) := by decide +kernel
theorem dX8_goAll_131 : decode cX8_goAll 131 = .ok (.lconst 1, 1) := by decide +kernel
theorem dX8_goAll_132 : decode cX8_goAll 132 = .ok (.ladd, 1) := by decide +kernel
theorem dX8_goAll_133 : decode cX8_goAll 133 = .ok (.lstore 5, 2) := by decide +kernel
theorem dX8_goAll_135 : decode cX8_goAll 135 = .ok (.goto 16, 3) := by decide +kernel
theorem dX8_goAll_138 : decode cX8_goAll 138 = .ok (.aload_n 0, 1) := by decide +kernel
theorem dX8_goAll_139 : decode cX8_goAll 139 = .ok (.getfield 126, 3) := by decide +kernel
theorem dX8_goAll_142 : decode cX8_goAll 142 = .ok (.iconst 1, 1) := by decide +kernel
theorem dX8_goAll_143 : decode cX8_goAll 143 = .ok (.if_icmp .ne 8, 3) := by decide +kernel
theorem dX8_goAll_146 : decode cX8_goAll 146 = .ok (.aload_n 0, 1) := by decide +kernel
theorem dX8_goAll_147 : decode cX8_goAll 147 = .ok (.iconst 0, 1) := by decide +kernel
theorem dX8_goAll_148 : decode cX8_goAll 148 = .ok (.putfield 126, 3) := by decide +kernel
theorem dX8_goAll_151 : decode cX8_goAll 151 = .ok (.aload_n 0, 1) := by decide +kernel
theorem dX8_goAll_152 : decode cX8_goAll 152 = .ok (.getfield 126, 3) := by decide +kernel
theorem dX8_goAll_155 : decode cX8_goAll 155 = .ok (.ifCond .ne 14, 3) := by decide +kernel
theorem dX8_goAll_158 : decode cX8_goAll 158 = .ok (.aload_n 0, 1) := by decide +kernel
theorem dX8_goAll_159 : decode cX8_goAll 159 = .ok (.invokevirtual 193, 3) := by decide +kernel
theorem dX8_goAll_162 : decode cX8_goAll 162 = .ok (.ifCond .eq 7, 3) := by decide +kernel
theorem dX8_goAll_165 : decode cX8_goAll 165 = .ok (.iconst 1, 1) := by decide +kernel
theorem dX8_goAll_166 : decode cX8_goAll 166 = .ok (.goto 4, 3) := by decide +kernel
theorem dX8_goAll_169 : decode cX8_goAll 169 = .ok (.iconst 0, 1) := by decide +kernel
theorem dX8_goAll_170 : decode cX8_goAll 170 = .ok (.istore 7, 2) := by decide +kernel
theorem dX8_goAll_172 : decode cX8_goAll 172 = .ok (.goto (-86), 3) := by decide +kernel
theorem dX8_goAll_175 : decode cX8_goAll 175 = .ok (.aload_n 0, 1) := by decide +kernel
theorem dX8_goAll_176 : decode cX8_goAll 176 = .ok (.dup, 1) := by decide +kernel
theorem dX8_goAll_177 : decode cX8_goAll 177 = .ok (.getfield 119, 3) := by decide +kernel
theorem dX8_goAll_180 : decode cX8_goAll 180 = .ok (.iconst 1, 1) := by decide +kernel
theorem dX8_goAll_181 : decode cX8_goAll 181 = .ok (.isub, 1) := by decide +kernel
theorem dX8_goAll_182 : decode cX8_goAll 182 = .ok (.putfield 119, 3) := by decide +kernel
theorem dX8_goAll_185 : decode cX8_goAll 185 = .ok (.aload_n 0, 1) := by decide +kernel
theorem dX8_goAll_186 : decode cX8_goAll 186 = .ok (.iload 4, 2) := by decide +kernel
theorem dX8_goAll_188 : decode cX8_goAll 188 = .ok (.putfield 184, 3) := by decide +kernel
theorem dX8_goAll_191 : decode cX8_goAll 191 = .ok (.aload_n 0, 1) := by decide +kernel
theorem dX8_goAll_192 : decode cX8_goAll 192 = .ok (.getfield 126, 3) := by decide +kernel
theorem dX8_goAll_195 : decode cX8_goAll 195 = .ok (.ifCond .ne 13, 3) := by decide +kernel
theorem dX8_goAll_198 : decode cX8_goAll 198 = .ok (.aload_n 0, 1) := by decide +kernel
theorem dX8_goAll_199 : decode cX8_goAll 199 = .ok (.iload_n 1, 1) := by decide +kernel
theorem dX8_goAll_200 : decode cX8_goAll 200 = .ok (.lload 5, 2) := by decide +kernel
theorem dX8_goAll_202 : decode cX8_goAll 202 = .ok (.invokevirtual 197, 3) := by decide +kernel
theorem dX8_goAll_205 : decode cX8_goAll 205 = .ok (.goto 48, 3) := by decide +kernel
theorem dX8_goAll_208 : decode cX8_goAll 208 = .ok (.aload_n 0, 1) := by decide +kernel
theorem dX8_goAll_209 : decode cX8_goAll 209 = .ok (.getfield 126, 3) := by decide +kernel
theorem dX8_goAll_212 : decode cX8_goAll 212 = .ok (.iconst 4, 1) := by decide +kernel
theorem dX8_goAll_213 : decode cX8_goAll 213 = .ok (.if_icmp .ne 40, 3) := by decide +kernel
theorem dX8_goAll_216 : decode cX8_goAll 216 = .ok (.aload_n 0, 1) := by decide +kernel
theorem dX8_goAll_217 : decode cX8_goAll 217 = .ok (.getfield 132, 3) := by decide +kernel
theorem dX8_goAll_220 : decode cX8_goAll 220 = .ok (.aload_n 0, 1) := by decide +kernel
theorem dX8_goAll_221 : decode cX8_goAll 221 = .ok (.getfield 119, 3) := by decide +kernel
theorem dX8_goAll_224 : decode cX8_goAll 224 = .ok (.if_icmp .ne 29, 3) := by decide +kernel
theorem dX8_goAll_227 : decode cX8_goAll 227 = .ok (.aload_n 0, 1) := by decide +kernel
theorem dX8_goAll_228 : decode cX8_goAll 228 = .ok (.iconst 0, 1) := by decide +kernel
theorem dX8_goAll_229 : decode cX8_goAll 229 = .ok (.putfield 126, 3) := by decide +kernel
theorem dX8_goAll_232 : decode cX8_goAll 232 = .ok (.aload_n 0, 1) := by decide +kernel
theorem dX8_goAll_233 : decode cX8_goAll 233 = .ok (.aload_n 0, 1) := by decide +kernel
theorem dX8_goAll_234 : decode cX8_goAll 234 = .ok (.getfield 129, 3) := by decide +kernel
theorem dX8_goAll_237 : decode cX8_goAll 237 = .ok (.invokevirtual 168, 3) := by decide +kernel
theorem dX8_goAll_240 : decode cX8_goAll 240 = .ok (.aload_n 0, 1) := by decide +kernel
theorem dX8_goAll_241 : decode cX8_goAll 241 = .ok (.getfield 126, 3) := by decide +kernel
theorem dX8_goAll_244 : decode cX8_goAll 244 = .ok (.ifCond .ne 7, 3) := by decide +kernel
theorem dX8_goAll_247 : decode cX8_goAll 247 = .ok (.iconst 1, 1) := by decide +kernel
theorem dX8_goAll_248 : decode cX8_goAll 248 = .ok (.goto 4, 3) := by decide +kernel
theorem dX8_goAll_251 : decode cX8_goAll 251 = .ok (.iconst 0, 1) := by decide +kernel
theorem dX8_goAll_252 : decode cX8_goAll 252 = .ok (.istore_n 3, 1) := by decide +kernel
theorem dX8_goAll_253 : decode cX8_goAll 253 = .ok (.goto (-237), 3) := by decide +kernel
theorem dX8_goAll_256 : decode cX8_goAll 256 = .ok (.return_, 1) := by decide +kernel
theorem dX8_collect_0 : decode cX8_collect 0 = .ok (.iconst 1, 1) := by decide +kernel
theorem dX8_collect_1 : decode cX8_collect 1 = .ok (.aload_n 0, 1) := by decide +kernel
theorem dX8_collect_2 : decode cX8_collect 2 = .ok (.getfield 71, 3) := by decide +kernel
theorem dX8_collect_5 : decode cX8_collect 5 = .ok (.aload_n 0, 1) := by decide +kernel
theorem dX8_collect_6 : decode cX8_collect 6 = .ok (.getfield 119, 3) := by decide +kernel
theorem dX8_collect_9 : decode cX8_collect 9 = .ok (.iaload, 1) := by decide +kernel
theorem dX8_collect_10 : decode cX8_collect 10 = .ok (.iadd, 1) := by decide +kernel
theorem dX8_collect_11 : decode cX8_collect 11 = .ok (.aload_n 0, 1) := by decide +kernel
theorem dX8_collect_12 : decode cX8_collect 12 = .ok (.getfield 62, 3) := by decide +kernel
theorem dX8_collect_15 : decode cX8_collect 15 = .ok (.aload_n 0, 1) := by decide +kernel
theorem dX8_collect_16 : decode cX8_collect 16 = .ok (.getfield 119, 3) := by decide +kernel
theorem dX8_collect_19 : decode cX8_collect 19 = .ok (.iaload, 1) := by decide +kernel
theorem dX8_collect_20 : decode cX8_collect 20 = .ok (.iadd, 1) := by decide +kernel
theorem dX8_collect_21 : decode cX8_collect 21 = .ok (.bipush 100, 2) := by decide +kernel
theorem dX8_collect_23 : decode cX8_collect 23 = .ok (.if_icmp .le 9, 3) := by decide +kernel
theorem dX8_collect_26 : decode cX8_collect 26 = .ok (.aload_n 0, 1) := by decide +kernel
theorem dX8_collect_27 : decode cX8_collect 27 = .ok (.iconst 2, 1) := by decide +kernel
theorem dX8_collect_28 : decode cX8_collect 28 = .ok (.putfield 126, 3) := by decide +kernel
theorem dX8_collect_31 : decode cX8_collect 31 = .ok (.return_, 1) := by decide +kernel
theorem dX8_collect_32 : decode cX8_collect 32 = .ok (.iconst 0, 1) := by decide +kernel
theorem dX8_collect_33 : decode cX8_collect 33 = .ok (.istore_n 1, 1) := by decide +kernel
theorem dX8_collect_34 : decode cX8_collect 34 = .ok (.iload_n 1, 1) := by decide +kernel
theorem dX8_collect_35 : decode cX8_collect 35 = .ok (.aload_n 0, 1) := by decide +kernel
theorem dX8_collect_36 : decode cX8_collect 36 = .ok (.getfield 62, 3) := by decide +kernel
theorem dX8_collect_39 : decode cX8_collect 39 = .ok (.aload_n 0, 1) := by decide +kernel
theorem dX8_collect_40 : decode cX8_collect 40 = .ok (.getfield 119, 3) := by decide +kernel
theorem dX8_collect_43 : decode cX8_collect 43 = .ok (.iaload, 1) := by decide +kernel
theorem dX8_collect_44 : decode cX8_collect 44 = .ok (.if_icmp .ge 94, 3) := by decide +kernel
theorem dX8_collect_47 : decode cX8_collect 47 = .ok (.aload_n 0, 1) := by decide +kernel
theorem dX8_collect_48 : decode cX8_collect 48 = .ok (.getfield 65, 3) := by decide +kernel
theorem dX8_collect_51 : decode cX8_collect 51 = .ok (.bipush 100, 2) := by decide +kernel
theorem dX8_collect_53 : decode cX8_collect 53 = .ok (.aload_n 0, 1) := by decide +kernel
theorem dX8_collect_54 : decode cX8_collect 54 = .ok (.getfield 119, 3) := by decide +kernel
theorem dX8_collect_57 : decode cX8_collect 57 = .ok (.imul, 1) := by decide +kernel
theorem dX8_collect_58 : decode cX8_collect 58 = .ok (.aload_n 0, 1) := by decide +kernel
theorem dX8_collect_59 : decode cX8_collect 59 = .ok (.getfield 71, 3) := by decide +kernel
theorem dX8_collect_62 : decode cX8_collect 62 = .ok (.aload_n 0, 1) := by decide +kernel
theorem dX8_collect_63 : decode cX8_collect 63 = .ok (.getfield 119, 3) := by decide +kernel
theorem dX8_collect_66 : decode cX8_collect 66 = .ok (.iaload, 1) := by decide +kernel
theorem dX8_collect_67 : decode cX8_collect 67 = .ok (.iadd, 1) := by decide +kernel
theorem dX8_collect_68 : decode cX8_collect 68 = .ok (.aload_n 0, 1) := by decide +kernel
theorem dX8_collect_69 : decode cX8_collect 69 = .ok (.getfield 56, 3) := by decide +kernel
theorem dX8_collect_72 : decode cX8_collect 72 = .ok (.bipush 100, 2) := by decide +kernel
theorem dX8_collect_74 : decode cX8_collect 74 = .ok (.aload_n 0, 1) := by decide +kernel
theorem dX8_collect_75 : decode cX8_collect 75 = .ok (.getfield 119, 3) := by decide +kernel
theorem dX8_collect_78 : decode cX8_collect 78 = .ok (.imul, 1) := by decide +kernel
theorem dX8_collect_79 : decode cX8_collect 79 = .ok (.iload_n 1, 1) := by decide +kernel
theorem dX8_collect_80 : decode cX8_collect 80 = .ok (.iadd, 1) := by decide +kernel
theorem dX8_collect_81 : decode cX8_collect 81 = .ok (.iaload, 1) := by decide +kernel
theorem dX8_collect_82 : decode cX8_collect 82 = .ok (.iastore, 1) := by decide +kernel
theorem dX8_collect_83 : decode cX8_collect 83 = .ok (.aload_n 0, 1) := by decide +kernel
theorem dX8_collect_84 : decode cX8_collect 84 = .ok (.getfield 68, 3) := by decide +kernel
theorem dX8_collect_87 : decode cX8_collect 87 = .ok (.bipush 100, 2) := by decide +kernel
theorem dX8_collect_89 : decode cX8_collect 89 = .ok (.aload_n 0, 1) := by decide +kernel
theorem dX8_collect_90 : decode cX8_collect 90 = .ok (.getfield 119, 3) := by decide +kernel
theorem dX8_collect_93 : decode cX8_collect 93 = .ok (.imul, 1) := by decide +kernel
theorem dX8_collect_94 : decode cX8_collect 94 = .ok (.aload_n 0, 1) := by decide +kernel
theorem dX8_collect_95 : decode cX8_collect 95 = .ok (.getfield 71, 3) := by decide +kernel
theorem dX8_collect_98 : decode cX8_collect 98 = .ok (.aload_n 0, 1) := by decide +kernel
theorem dX8_collect_99 : decode cX8_collect 99 = .ok (.getfield 119, 3) := by decide +kernel
theorem dX8_collect_102 : decode cX8_collect 102 = .ok (.iaload, 1) := by decide +kernel
theorem dX8_collect_103 : decode cX8_collect 103 = .ok (.iadd, 1) := by decide +kernel
theorem dX8_collect_104 : decode cX8_collect 104 = .ok (.aload_n 0, 1) := by decide +kernel
theorem dX8_collect_105 : decode cX8_collect 105 = .ok (.getfield 59, 3) := by decide +kernel
theorem dX8_collect_108 : decode cX8_collect 108 = .ok (.bipush 100, 2) := by decide +kernel
theorem dX8_collect_110 : decode cX8_collect 110 = .ok (.aload_n 0, 1) := by decide +kernel
theorem dX8_collect_111 : decode cX8_collect 111 = .ok (.getfield 119, 3) := by decide +kernel
theorem dX8_collect_114 : decode cX8_collect 114 = .ok (.imul, 1) := by decide +kernel
theorem dX8_collect_115 : decode cX8_collect 115 = .ok (.iload_n 1, 1) := by decide +kernel
theorem dX8_collect_116 : decode cX8_collect 116 = .ok (.iadd, 1) := by decide +kernel
theorem dX8_collect_117 : decode cX8_collect 117 = .ok (.laload, 1) := by decide +kernel
theorem dX8_collect_118 : decode cX8_collect 118 = .ok (.lastore, 1) := by decide +kernel
theorem dX8_collect_119 : decode cX8_collect 119 = .ok (.aload_n 0, 1) := by decide +kernel
theorem dX8_collect_120 : decode cX8_collect 120 = .ok (.getfield 71, 3) := by decide +kernel
theorem dX8_collect_123 : decode cX8_collect 123 = .ok (.aload_n 0, 1) := by decide +kernel
theorem dX8_collect_124 : decode cX8_collect 124 = .ok (.getfield 119, 3) := by decide +kernel
theorem dX8_collect_127 : decode cX8_collect 127 = .ok (.dup2, 1) := by decide +kernel
theorem dX8_collect_128 : decode cX8_collect 128 = .ok (.iaload, 1) := by decide +kernel
theorem dX8_collect_129 : decode cX8_collect 129 = .ok (.iconst 1, 1) := by decide +kernel
theorem dX8_collect_130 : decode cX8_collect 130 = .ok (.iadd, 1) := by decide +kernel
theorem dX8_collect_131 : decode cX8_collect 131 = .ok (.iastore, 1) := by decide +kernel
theorem dX8_collect_132 : decode cX8_collect 132 = .ok (.iinc 1 1, 3) := by decide +kernel
theorem dX8_collect_135 : decode cX8_collect 135 = .ok (.goto (-101), 3) := by decide +kernel
theorem dX8_collect_138 : decode cX8_collect 138 = .ok (.return_, 1) := by decide +kernel
theorem dX8_nextWay_0 : decode cX8_nextWay 0 = .ok (.aload_n 0, 1) := by decide +kernel
theorem dX8_nextWay_1 : decode cX8_nextWay 1 = .ok (.getfield 53, 3) := by decide +kernel
theorem dX8_nextWay_4 : decode cX8_nextWay 4 = .ok (.aload_n 0, 1) := by decide +kernel
theorem dX8_nextWay_5 : decode cX8_nextWay 5 = .ok (.getfield 119, 3) := by decide +kernel
theorem dX8_nextWay_8 : decode cX8_nextWay 8 = .ok (.iaload, 1) := by decide +kernel
theorem dX8_nextWay_9 : decode cX8_nextWay 9 = .ok (.iconst 1, 1) := by decide +kernel
theorem dX8_nextWay_10 : decode cX8_nextWay 10 = .ok (.isub, 1) := by decide +kernel
theorem dX8_nextWay_11 : decode cX8_nextWay 11 = .ok (.istore_n 1, 1) := by decide +kernel
theorem dX8_nextWay_12 : decode cX8_nextWay 12 = .ok (.iload_n 1, 1) := by decide +kernel
theorem dX8_nextWay_13 : decode cX8_nextWay 13 = .ok (.ifCond .lt 28, 3) := by decide +kernel
theorem dX8_nextWay_16 : decode cX8_nextWay 16 = .ok (.aload_n 0, 1) := by decide +kernel
theorem dX8_nextWay_17 : decode cX8_nextWay 17 = .ok (.getfield 47, 3) := by decide +kernel
theorem dX8_nextWay_20 : decode cX8_nextWay 20 = .ok (.sipush 2001, 3) := by decide +kernel
theorem dX8_nextWay_23 : decode cX8_nextWay 23 = .ok (.aload_n 0, 1) := by decide +kernel
theorem dX8_nextWay_24 : decode cX8_nextWay 24 = .ok (.getfield 119, 3) := by decide +kernel
theorem dX8_nextWay_27 : decode cX8_nextWay 27 = .ok (.imul, 1) := by decide +kernel
theorem dX8_nextWay_28 : decode cX8_nextWay 28 = .ok (.iload_n 1, 1) := by decide +kernel
theorem dX8_nextWay_29 : decode cX8_nextWay 29 = .ok (.iadd, 1) := by decide +kernel
theorem dX8_nextWay_30 : decode cX8_nextWay 30 = .ok (.iaload, 1) := by decide +kernel
theorem dX8_nextWay_31 : decode cX8_nextWay 31 = .ok (.iconst 1, 1) := by decide +kernel
theorem dX8_nextWay_32 : decode cX8_nextWay 32 = .ok (.if_icmp .ne 9, 3) := by decide +kernel
theorem dX8_nextWay_35 : decode cX8_nextWay 35 = .ok (.iinc 1 (-1), 3) := by decide +kernel
theorem dX8_nextWay_38 : decode cX8_nextWay 38 = .ok (.goto (-26), 3) := by decide +kernel
theorem dX8_nextWay_41 : decode cX8_nextWay 41 = .ok (.iload_n 1, 1) := by decide +kernel
theorem dX8_nextWay_42 : decode cX8_nextWay 42 = .ok (.ifCond .ge 5, 3) := by decide +kernel
theorem dX8_nextWay_45 : decode cX8_nextWay 45 = .ok (.iconst 0, 1) := by decide +kernel
theorem dX8_nextWay_46 : decode cX8_nextWay 46 = .ok (.ireturn, 1) := by decide +kernel
theorem dX8_nextWay_47 : decode cX8_nextWay 47 = .ok (.aload_n 0, 1) := by decide +kernel
theorem dX8_nextWay_48 : decode cX8_nextWay 48 = .ok (.getfield 47, 3) := by decide +kernel
theorem dX8_nextWay_51 : decode cX8_nextWay 51 = .ok (.sipush 2001, 3) := by decide +kernel
theorem dX8_nextWay_54 : decode cX8_nextWay 54 = .ok (.aload_n 0, 1) := by decide +kernel
theorem dX8_nextWay_55 : decode cX8_nextWay 55 = .ok (.getfield 119, 3) := by decide +kernel
theorem dX8_nextWay_58 : decode cX8_nextWay 58 = .ok (.imul, 1) := by decide +kernel
theorem dX8_nextWay_59 : decode cX8_nextWay 59 = .ok (.iload_n 1, 1) := by decide +kernel
theorem dX8_nextWay_60 : decode cX8_nextWay 60 = .ok (.iadd, 1) := by decide +kernel
theorem dX8_nextWay_61 : decode cX8_nextWay 61 = .ok (.iconst 1, 1) := by decide +kernel
theorem dX8_nextWay_62 : decode cX8_nextWay 62 = .ok (.iastore, 1) := by decide +kernel
theorem dX8_nextWay_63 : decode cX8_nextWay 63 = .ok (.aload_n 0, 1) := by decide +kernel
theorem dX8_nextWay_64 : decode cX8_nextWay 64 = .ok (.getfield 50, 3) := by decide +kernel
theorem dX8_nextWay_67 : decode cX8_nextWay 67 = .ok (.aload_n 0, 1) := by decide +kernel
theorem dX8_nextWay_68 : decode cX8_nextWay 68 = .ok (.getfield 119, 3) := by decide +kernel
theorem dX8_nextWay_71 : decode cX8_nextWay 71 = .ok (.iload_n 1, 1) := by decide +kernel
theorem dX8_nextWay_72 : decode cX8_nextWay 72 = .ok (.iconst 1, 1) := by decide +kernel
theorem dX8_nextWay_73 : decode cX8_nextWay 73 = .ok (.iadd, 1) := by decide +kernel
theorem dX8_nextWay_74 : decode cX8_nextWay 74 = .ok (.iastore, 1) := by decide +kernel
theorem dX8_nextWay_75 : decode cX8_nextWay 75 = .ok (.iconst 1, 1) := by decide +kernel
theorem dX8_nextWay_76 : decode cX8_nextWay 76 = .ok (.ireturn, 1) := by decide +kernel
theorem dX8_keep_0 : decode cX8_keep 0 = .ok (.aload_n 0, 1) := by decide +kernel
theorem dX8_keep_1 : decode cX8_keep 1 = .ok (.getfield 184, 3) := by decide +kernel
theorem dX8_keep_4 : decode cX8_keep 4 = .ok (.istore 4, 2) := by decide +kernel
theorem dX8_keep_6 : decode cX8_keep 6 = .ok (.aload_n 0, 1) := by decide +kernel
theorem dX8_keep_7 : decode cX8_keep 7 = .ok (.iconst 2, 1) := by decide +kernel
theorem dX8_keep_8 : decode cX8_keep 8 = .ok (.lload_n 2, 1) := by decide +kernel
theorem dX8_keep_9 : decode cX8_keep 9 = .ok (.invokevirtual 200, 3) := by decide +kernel
theorem dX8_keep_12 : decode cX8_keep 12 = .ok (.iconst 0, 1) := by decide +kernel
theorem dX8_keep_13 : decode cX8_keep 13 = .ok (.istore 5, 2) := by decide +kernel
theorem dX8_keep_15 : decode cX8_keep 15 = .ok (.iload 5, 2) := by decide +kernel
theorem dX8_keep_17 : decode cX8_keep 17 = .ok (.aload_n 0, 1) := by decide +kernel
theorem dX8_keep_18 : decode cX8_keep 18 = .ok (.getfield 71, 3) := by decide +kernel
theorem dX8_keep_21 : decode cX8_keep 21 = .ok (.aload_n 0, 1) := by decide +kernel
theorem dX8_keep_22 : decode cX8_keep 22 = .ok (.getfield 119, 3) := by decide +kernel
theorem dX8_keep_25 : decode cX8_keep 25 = .ok (.iconst 1, 1) := by decide +kernel
theorem dX8_keep_26 : decode cX8_keep 26 = .ok (.iadd, 1) := by decide +kernel
theorem dX8_keep_27 : decode cX8_keep 27 = .ok (.iaload, 1) := by decide +kernel
theorem dX8_keep_28 : decode cX8_keep 28 = .ok (.if_icmp .ge 47, 3) := by decide +kernel
theorem dX8_keep_31 : decode cX8_keep 31 = .ok (.aload_n 0, 1) := by decide +kernel
theorem dX8_keep_32 : decode cX8_keep 32 = .ok (.aload_n 0, 1) := by decide +kernel
theorem dX8_keep_33 : decode cX8_keep 33 = .ok (.getfield 65, 3) := by decide +kernel
theorem dX8_keep_36 : decode cX8_keep 36 = .ok (.bipush 100, 2) := by decide +kernel
theorem dX8_keep_38 : decode cX8_keep 38 = .ok (.aload_n 0, 1) := by decide +kernel
theorem dX8_keep_39 : decode cX8_keep 39 = .ok (.getfield 119, 3) := by decide +kernel
theorem dX8_keep_42 : decode cX8_keep 42 = .ok (.iconst 1, 1) := by decide +kernel
theorem dX8_keep_43 : decode cX8_keep 43 = .ok (.iadd, 1) := by decide +kernel
theorem dX8_keep_44 : decode cX8_keep 44 = .ok (.imul, 1) := by decide +kernel
theorem dX8_keep_45 : decode cX8_keep 45 = .ok (.iload 5, 2) := by decide +kernel
theorem dX8_keep_47 : decode cX8_keep 47 = .ok (.iadd, 1) := by decide +kernel
theorem dX8_keep_48 : decode cX8_keep 48 = .ok (.iaload, 1) := by decide +kernel
theorem dX8_keep_49 : decode cX8_keep 49 = .ok (.aload_n 0, 1) := by decide +kernel
theorem dX8_keep_50 : decode cX8_keep 50 = .ok (.getfield 68, 3) := by decide +kernel
theorem dX8_keep_53 : decode cX8_keep 53 = .ok (.bipush 100, 2) := by decide +kernel
theorem dX8_keep_55 : decode cX8_keep 55 = .ok (.aload_n 0, 1) := by decide +kernel
theorem dX8_keep_56 : decode cX8_keep 56 = .ok (.getfield 119, 3) := by decide +kernel
theorem dX8_keep_59 : decode cX8_keep 59 = .ok (.iconst 1, 1) := by decide +kernel
theorem dX8_keep_60 : decode cX8_keep 60 = .ok (.iadd, 1) := by decide +kernel
theorem dX8_keep_61 : decode cX8_keep 61 = .ok (.imul, 1) := by decide +kernel
theorem dX8_keep_62 : decode cX8_keep 62 = .ok (.iload 5, 2) := by decide +kernel
theorem dX8_keep_64 : decode cX8_keep 64 = .ok (.iadd, 1) := by decide +kernel
theorem dX8_keep_65 : decode cX8_keep 65 = .ok (.laload, 1) := by decide +kernel
theorem dX8_keep_66 : decode cX8_keep 66 = .ok (.invokevirtual 200, 3) := by decide +kernel
theorem dX8_keep_69 : decode cX8_keep 69 = .ok (.iinc 5 1, 3) := by decide +kernel
theorem dX8_keep_72 : decode cX8_keep 72 = .ok (.goto (-57), 3) := by decide +kernel
theorem dX8_keep_75 : decode cX8_keep 75 = .ok (.aload_n 0, 1) := by decide +kernel
theorem dX8_keep_76 : decode cX8_keep 76 = .ok (.getfield 29, 3) := by decide +kernel
theorem dX8_keep_79 : decode cX8_keep 79 = .ok (.iload_n 1, 1) := by decide +kernel
theorem dX8_keep_80 : decode cX8_keep 80 = .ok (.iconst 3, 1) := by decide +kernel
theorem dX8_keep_81 : decode cX8_keep 81 = .ok (.iastore, 1) := by decide +kernel
theorem dX8_keep_82 : decode cX8_keep 82 = .ok (.aload_n 0, 1) := by decide +kernel
theorem dX8_keep_83 : decode cX8_keep 83 = .ok (.getfield 32, 3) := by decide +kernel
theorem dX8_keep_86 : decode cX8_keep 86 = .ok (.iload_n 1, 1) := by decide +kernel
theorem dX8_keep_87 : decode cX8_keep 87 = .ok (.iload 4, 2) := by decide +kernel
theorem dX8_keep_89 : decode cX8_keep 89 = .ok (.i2l, 1) := by decide +kernel
theorem dX8_keep_90 : decode cX8_keep 90 = .ok (.lastore, 1) := by decide +kernel
theorem dX8_keep_91 : decode cX8_keep 91 = .ok (.return_, 1) := by decide +kernel
theorem dX8_lay_0 : decode cX8_lay 0 = .ok (.aload_n 0, 1) := by decide +kernel
theorem dX8_lay_1 : decode cX8_lay 1 = .ok (.getfield 184, 3) := by decide +kernel
theorem dX8_lay_4 : decode cX8_lay 4 = .ok (.aload_n 0, 1) := by decide +kernel
theorem dX8_lay_5 : decode cX8_lay 5 = .ok (.getfield 44, 3) := by decide +kernel
theorem dX8_lay_8 : decode cX8_lay 8 = .ok (.arraylength, 1) := by decide +kernel
theorem dX8_lay_9 : decode cX8_lay 9 = .ok (.if_icmp .ne 77, 3) := by decide +kernel
theorem dX8_lay_12 : decode cX8_lay 12 = .ok (.iconst 2, 1) := by decide +kernel
theorem dX8_lay_13 : decode cX8_lay 13 = .ok (.aload_n 0, 1) := by decide +kernel
theorem dX8_lay_14 : decode cX8_lay 14 = .ok (.getfield 184, 3) := by decide +kernel
theorem dX8_lay_17 : decode cX8_lay 17 = .ok (.imul, 1) := by decide +kernel
theorem dX8_lay_18 : decode cX8_lay 18 = .ok (.newarray .int, 2) := by decide +kernel
theorem dX8_lay_20 : decode cX8_lay 20 = .ok (.astore 4, 2) := by decide +kernel
theorem dX8_lay_22 : decode cX8_lay 22 = .ok (.iconst 2, 1) := by decide +kernel
theorem dX8_lay_23 : decode cX8_lay 23 = .ok (.aload_n 0, 1) := by decide +kernel
theorem dX8_lay_24 : decode cX8_lay 24 = .ok (.getfield 184, 3) := by decide +kernel
theorem dX8_lay_27 : decode cX8_lay 27 = .ok (.imul, 1) := by decide +kernel
theorem dX8_lay_28 : decode cX8_lay 28 = .ok (.newarray .long, 2) := by decide +kernel
theorem dX8_lay_30 : decode cX8_lay 30 = .ok (.astore 5, 2) := by decide +kernel
theorem dX8_lay_32 : decode cX8_lay 32 = .ok (.iconst 0, 1) := by decide +kernel
theorem dX8_lay_33 : decode cX8_lay 33 = .ok (.istore 6, 2) := by decide +kernel
theorem dX8_lay_35 : decode cX8_lay 35 = .ok (.iload 6, 2) := by decide +kernel
theorem dX8_lay_37 : decode cX8_lay 37 = .ok (.aload_n 0, 1) := by decide +kernel
theorem dX8_lay_38 : decode cX8_lay 38 = .ok (.getfield 184, 3) := by decide +kernel
theorem dX8_lay_41 : decode cX8_lay 41 = .ok (.if_icmp .ge 33, 3) := by decide +kernel
theorem dX8_lay_44 : decode cX8_lay 44 = .ok (.aload 4, 2) := by decide +kernel
theorem dX8_lay_46 : decode cX8_lay 46 = .ok (.iload 6, 2) := by decide +kernel
theorem dX8_lay_48 : decode cX8_lay 48 = .ok (.aload_n 0, 1) := by decide +kernel
theorem dX8_lay_49 : decode cX8_lay 49 = .ok (.getfield 41, 3) := by decide +kernel
theorem dX8_lay_52 : decode cX8_lay 52 = .ok (.iload 6, 2) := by decide +kernel
theorem dX8_lay_54 : decode cX8_lay 54 = .ok (.iaload, 1) := by decide +kernel
theorem dX8_lay_55 : decode cX8_lay 55 = .ok (.iastore, 1) := by decide +kernel
theorem dX8_lay_56 : decode cX8_lay 56 = .ok (.aload 5, 2) := by decide +kernel
theorem dX8_lay_58 : decode cX8_lay 58 = .ok (.iload 6, 2) := by decide +kernel
theorem dX8_lay_60 : decode cX8_lay 60 = .ok (.aload_n 0, 1) := by decide +kernel
theorem dX8_lay_61 : decode cX8_lay 61 = .ok (.getfield 44, 3) := by decide +kernel
theorem dX8_lay_64 : decode cX8_lay 64 = .ok (.iload 6, 2) := by decide +kernel
theorem dX8_lay_66 : decode cX8_lay 66 = .ok (.laload, 1) := by decide +kernel
theorem dX8_lay_67 : decode cX8_lay 67 = .ok (.lastore, 1) := by decide +kernel
theorem dX8_lay_68 : decode cX8_lay 68 = .ok (.iinc 6 1, 3) := by decide +kernel
theorem dX8_lay_71 : decode cX8_lay 71 = .ok (.goto (-36), 3) := by decide +kernel
theorem dX8_lay_74 : decode cX8_lay 74 = .ok (.aload_n 0, 1) := by decide +kernel
theorem dX8_lay_75 : decode cX8_lay 75 = .ok (.aload 4, 2) := by decide +kernel
theorem dX8_lay_77 : decode cX8_lay 77 = .ok (.putfield 41, 3) := by decide +kernel
theorem dX8_lay_80 : decode cX8_lay 80 = .ok (.aload_n 0, 1) := by decide +kernel
theorem dX8_lay_81 : decode cX8_lay 81 = .ok (.aload 5, 2) := by decide +kernel
theorem dX8_lay_83 : decode cX8_lay 83 = .ok (.putfield 44, 3) := by decide +kernel
theorem dX8_lay_86 : decode cX8_lay 86 = .ok (.aload_n 0, 1) := by decide +kernel
theorem dX8_lay_87 : decode cX8_lay 87 = .ok (.getfield 41, 3) := by decide +kernel
theorem dX8_lay_90 : decode cX8_lay 90 = .ok (.aload_n 0, 1) := by decide +kernel
theorem dX8_lay_91 : decode cX8_lay 91 = .ok (.getfield 184, 3) := by decide +kernel
theorem dX8_lay_94 : decode cX8_lay 94 = .ok (.iload_n 1, 1) := by decide +kernel
theorem dX8_lay_95 : decode cX8_lay 95 = .ok (.iastore, 1) := by decide +kernel
theorem dX8_lay_96 : decode cX8_lay 96 = .ok (.aload_n 0, 1) := by decide +kernel
theorem dX8_lay_97 : decode cX8_lay 97 = .ok (.getfield 44, 3) := by decide +kernel
theorem dX8_lay_100 : decode cX8_lay 100 = .ok (.aload_n 0, 1) := by decide +kernel
theorem dX8_lay_101 : decode cX8_lay 101 = .ok (.getfield 184, 3) := by decide +kernel
theorem dX8_lay_104 : decode cX8_lay 104 = .ok (.lload_n 2, 1) := by decide +kernel
theorem dX8_lay_105 : decode cX8_lay 105 = .ok (.lastore, 1) := by decide +kernel
theorem dX8_lay_106 : decode cX8_lay 106 = .ok (.aload_n 0, 1) := by decide +kernel
theorem dX8_lay_107 : decode cX8_lay 107 = .ok (.dup, 1) := by decide +kernel
theorem dX8_lay_108 : decode cX8_lay 108 = .ok (.getfield 184, 3) := by decide +kernel
theorem dX8_lay_111 : decode cX8_lay 111 = .ok (.iconst 1, 1) := by decide +kernel
theorem dX8_lay_112 : decode cX8_lay 112 = .ok (.iadd, 1) := by decide +kernel
theorem dX8_lay_113 : decode cX8_lay 113 = .ok (.putfield 184, 3) := by decide +kernel
theorem dX8_lay_116 : decode cX8_lay 116 = .ok (.return_, 1) := by decide +kernel
theorem dX8_forget_0 : decode cX8_forget 0 = .ok (.aload_n 0, 1) := by decide +kernel
theorem dX8_forget_1 : decode cX8_forget 1 = .ok (.iconst 0, 1) := by decide +kernel
theorem dX8_forget_2 : decode cX8_forget 2 = .ok (.putfield 203, 3) := by decide +kernel
theorem dX8_forget_5 : decode cX8_forget 5 = .ok (.aload_n 0, 1) := by decide +kernel
theorem dX8_forget_6 : decode cX8_forget 6 = .ok (.iconst 0, 1) := by decide +kernel
theorem dX8_forget_7 : decode cX8_forget 7 = .ok (.putfield 207, 3) := by decide +kernel
theorem dX8_forget_10 : decode cX8_forget 10 = .ok (.aload_n 0, 1) := by decide +kernel
theorem dX8_forget_11 : decode cX8_forget 11 = .ok (.iconst 0, 1) := by decide +kernel
theorem dX8_forget_12 : decode cX8_forget 12 = .ok (.putfield 210, 3) := by decide +kernel
theorem dX8_forget_15 : decode cX8_forget 15 = .ok (.aload_n 0, 1) := by decide +kernel
theorem dX8_forget_16 : decode cX8_forget 16 = .ok (.iconst 0, 1) := by decide +kernel
theorem dX8_forget_17 : decode cX8_forget 17 = .ok (.putfield 213, 3) := by decide +kernel
theorem dX8_forget_20 : decode cX8_forget 20 = .ok (.aload_n 0, 1) := by decide +kernel
theorem dX8_forget_21 : decode cX8_forget 21 = .ok (.iconst 0, 1) := by decide +kernel
theorem dX8_forget_22 : decode cX8_forget 22 = .ok (.putfield 216, 3) := by decide +kernel
theorem dX8_forget_25 : decode cX8_forget 25 = .ok (.aload_n 0, 1) := by decide +kernel
theorem dX8_forget_26 : decode cX8_forget 26 = .ok (.iconst 0, 1) := by decide +kernel
theorem dX8_forget_27 : decode cX8_forget 27 = .ok (.putfield 219, 3) := by decide +kernel
theorem dX8_forget_30 : decode cX8_forget 30 = .ok (.aload_n 0, 1) := by decide +kernel
theorem dX8_forget_31 : decode cX8_forget 31 = .ok (.iconst 0, 1) := by decide +kernel
theorem dX8_forget_32 : decode cX8_forget 32 = .ok (.putfield 222, 3) := by decide +kernel
theorem dX8_forget_35 : decode cX8_forget 35 = .ok (.aload_n 0, 1) := by decide +kernel
theorem dX8_forget_36 : decode cX8_forget 36 = .ok (.iconst 0, 1) := by decide +kernel
theorem dX8_forget_37 : decode cX8_forget 37 = .ok (.putfield 225, 3) := by decide +kernel
theorem dX8_forget_40 : decode cX8_forget 40 = .ok (.aload_n 0, 1) := by decide +kernel
theorem dX8_forget_41 : decode cX8_forget 41 = .ok (.iconst 0, 1) := by decide +kernel
theorem dX8_forget_42 : decode cX8_forget 42 = .ok (.putfield 228, 3) := by decide +kernel
theorem dX8_forget_45 : decode cX8_forget 45 = .ok (.aload_n 0, 1) := by decide +kernel
theorem dX8_forget_46 : decode cX8_forget 46 = .ok (.iconst 0, 1) := by decide +kernel
theorem dX8_forget_47 : decode cX8_forget 47 = .ok (.putfield 231, 3) := by decide +kernel
theorem dX8_forget_50 : decode cX8_forget 50 = .ok (.aload_n 0, 1) := by decide +kernel
theorem dX8_forget_51 : decode cX8_forget 51 = .ok (.iconst 0, 1) := by decide +kernel
theorem dX8_forget_52 : decode cX8_forget 52 = .ok (.putfield 234, 3) := by decide +kernel
theorem dX8_forget_55 : decode cX8_forget 55 = .ok (.aload_n 0, 1) := by decide +kernel
theorem dX8_forget_56 : decode cX8_forget 56 = .ok (.iconst 0, 1) := by decide +kernel
theorem dX8_forget_57 : decode cX8_forget 57 = .ok (.putfield 237, 3) := by decide +kernel
theorem dX8_forget_60 : decode cX8_forget 60 = .ok (.aload_n 0, 1) := by decide +kernel
theorem dX8_forget_61 : decode cX8_forget 61 = .ok (.iconst 0, 1) := by decide +kernel
theorem dX8_forget_62 : decode cX8_forget 62 = .ok (.putfield 240, 3) := by decide +kernel
theorem dX8_forget_65 : decode cX8_forget 65 = .ok (.aload_n 0, 1) := by decide +kernel
theorem dX8_forget_66 : decode cX8_forget 66 = .ok (.iconst 0, 1) := by decide +kernel
theorem dX8_forget_67 : decode cX8_forget 67 = .ok (.putfield 243, 3) := by decide +kernel
theorem dX8_forget_70 : decode cX8_forget 70 = .ok (.return_, 1) := by decide +kernel
theorem dX8_ask_0 : decode cX8_ask 0 = .ok (.aload_n 0, 1) := by decide +kernel
theorem dX8_ask_1 : decode cX8_ask 1 = .ok (.aload_n 0, 1) := by decide +kernel
theorem dX8_ask_2 : decode cX8_ask 2 = .ok (.iload_n 1, 1) := by decide +kernel
theorem dX8_ask_3 : decode cX8_ask 3 = .ok (.invokevirtual 108, 3) := by decide +kernel
theorem dX8_ask_6 : decode cX8_ask 6 = .ok (.ifCond .eq 23, 3) := by decide +kernel
theorem dX8_ask_9 : decode cX8_ask 9 = .ok (.iload_n 2, 1) := by decide +kernel
theorem dX8_ask_10 : decode cX8_ask 10 = .ok (.ifCond .lt 19, 3) := by decide +kernel
theorem dX8_ask_13 : decode cX8_ask 13 = .ok (.iload_n 2, 1) := by decide +kernel
theorem dX8_ask_14 : decode cX8_ask 14 = .ok (.iconst 2, 1) := by decide +kernel
theorem dX8_ask_15 : decode cX8_ask 15 = .ok (.if_icmp .gt 14, 3) := by decide +kernel
theorem dX8_ask_18 : decode cX8_ask 18 = .ok (.iload_n 3, 1) := by decide +kernel
theorem dX8_ask_19 : decode cX8_ask 19 = .ok (.iconst 1, 1) := by decide +kernel
theorem dX8_ask_20 : decode cX8_ask 20 = .ok (.if_icmp .lt 9, 3) := by decide +kernel
theorem dX8_ask_23 : decode cX8_ask 23 = .ok (.iload_n 3, 1) := by decide +kernel
theorem dX8_ask_24 : decode cX8_ask 24 = .ok (.bipush 60, 2) := by decide +kernel
theorem dX8_ask_26 : decode cX8_ask 26 = .ok (.if_icmp .le 7, 3) := by decide +kernel
theorem dX8_ask_29 : decode cX8_ask 29 = .ok (.iconst 1, 1) := by decide +kernel
theorem dX8_ask_30 : decode cX8_ask 30 = .ok (.goto 4, 3) := by decide +kernel
theorem dX8_ask_33 : decode cX8_ask 33 = .ok (.iconst 0, 1) := by decide +kernel
theorem dX8_ask_34 : decode cX8_ask 34 = .ok (.invokevirtual 112, 3) := by decide +kernel
theorem dX8_ask_37 : decode cX8_ask 37 = .ok (.ifCond .eq 4, 3) := by decide +kernel
theorem dX8_ask_40 : decode cX8_ask 40 = .ok (.return_, 1) := by decide +kernel
theorem dX8_ask_41 : decode cX8_ask 41 = .ok (.aload_n 0, 1) := by decide +kernel
theorem dX8_ask_42 : decode cX8_ask 42 = .ok (.invokevirtual 116, 3) := by decide +kernel
theorem dX8_ask_45 : decode cX8_ask 45 = .ok (.aload_n 0, 1) := by decide +kernel
theorem dX8_ask_46 : decode cX8_ask 46 = .ok (.iconst 1, 1) := by decide +kernel
theorem dX8_ask_47 : decode cX8_ask 47 = .ok (.putfield 203, 3) := by decide +kernel
theorem dX8_ask_50 : decode cX8_ask 50 = .ok (.aload_n 0, 1) := by decide +kernel
theorem dX8_ask_51 : decode cX8_ask 51 = .ok (.iload_n 1, 1) := by decide +kernel
theorem dX8_ask_52 : decode cX8_ask 52 = .ok (.putfield 246, 3) := by decide +kernel
theorem dX8_ask_55 : decode cX8_ask 55 = .ok (.aload_n 0, 1) := by decide +kernel
theorem dX8_ask_56 : decode cX8_ask 56 = .ok (.iload_n 2, 1) := by decide +kernel
theorem dX8_ask_57 : decode cX8_ask 57 = .ok (.putfield 249, 3) := by decide +kernel
theorem dX8_ask_60 : decode cX8_ask 60 = .ok (.aload_n 0, 1) := by decide +kernel
theorem dX8_ask_61 : decode cX8_ask 61 = .ok (.iload_n 3, 1) := by decide +kernel
theorem dX8_ask_62 : decode cX8_ask 62 = .ok (.putfield 252, 3) := by decide +kernel
theorem dX8_ask_65 : decode cX8_ask 65 = .ok (.aload_n 0, 1) := by decide +kernel
theorem dX8_ask_66 : decode cX8_ask 66 = .ok (.getfield 78, 3) := by decide +kernel
theorem dX8_ask_69 : decode cX8_ask 69 = .ok (.iconst 0, 1) := by decide +kernel
theorem dX8_ask_70 : decode cX8_ask 70 = .ok (.iconst 0, 1) := by decide +kernel
theorem dX8_ask_71 : decode cX8_ask 71 = .ok (.iastore, 1) := by decide +kernel
theorem dX8_ask_72 : decode cX8_ask 72 = .ok (.aload_n 0, 1) := by decide +kernel
theorem dX8_ask_73 : decode cX8_ask 73 = .ok (.iconst 1, 1) := by decide +kernel
theorem dX8_ask_74 : decode cX8_ask 74 = .ok (.putfield 213, 3) := by decide +kernel
theorem dX8_ask_77 : decode cX8_ask 77 = .ok (.return_, 1) := by decide +kernel
theorem dX8_go_0 : decode cX8_go 0 = .ok (.aload_n 0, 1) := by decide +kernel
theorem dX8_go_1 : decode cX8_go 1 = .ok (.iconst 0, 1) := by decide +kernel
theorem dX8_go_2 : decode cX8_go 2 = .ok (.putfield 119, 3) := by decide +kernel
theorem dX8_go_5 : decode cX8_go 5 = .ok (.aload_n 0, 1) := by decide +kernel
theorem dX8_go_6 : decode cX8_go 6 = .ok (.getfield 26, 3) := by decide +kernel
theorem dX8_go_9 : decode cX8_go 9 = .ok (.iconst 0, 1) := by decide +kernel
theorem dX8_go_10 : decode cX8_go 10 = .ok (.iconst 0, 1) := by decide +kernel
theorem dX8_go_11 : decode cX8_go 11 = .ok (.iastore, 1) := by decide +kernel
theorem dX8_go_12 : decode cX8_go 12 = .ok (.aload_n 0, 1) := by decide +kernel
theorem dX8_go_13 : decode cX8_go 13 = .ok (.iconst 0, 1) := by decide +kernel
theorem dX8_go_14 : decode cX8_go 14 = .ok (.putfield 135, 3) := by decide +kernel
theorem dX8_go_17 : decode cX8_go 17 = .ok (.aload_n 0, 1) := by decide +kernel
theorem dX8_go_18 : decode cX8_go 18 = .ok (.iconst 0, 1) := by decide +kernel
theorem dX8_go_19 : decode cX8_go 19 = .ok (.putfield 184, 3) := by decide +kernel
theorem dX8_go_22 : decode cX8_go 22 = .ok (.aload_n 0, 1) := by decide +kernel
theorem dX8_go_23 : decode cX8_go 23 = .ok (.iconst 0, 1) := by decide +kernel
theorem dX8_go_24 : decode cX8_go 24 = .ok (.putfield 126, 3) := by decide +kernel
theorem dX8_go_27 : decode cX8_go 27 = .ok (.aload_n 0, 1) := by decide +kernel
theorem dX8_go_28 : decode cX8_go 28 = .ok (.getfield 50, 3) := by decide +kernel
theorem dX8_go_31 : decode cX8_go 31 = .ok (.iconst 0, 1) := by decide +kernel
theorem dX8_go_32 : decode cX8_go 32 = .ok (.iload_n 1, 1) := by decide +kernel
theorem dX8_go_33 : decode cX8_go 33 = .ok (.iastore, 1) := by decide +kernel
theorem dX8_go_34 : decode cX8_go 34 = .ok (.aload_n 0, 1) := by decide +kernel
theorem dX8_go_35 : decode cX8_go 35 = .ok (.invokevirtual 187, 3) := by decide +kernel
theorem dX8_go_38 : decode cX8_go 38 = .ok (.aload_n 0, 1) := by decide +kernel
theorem dX8_go_39 : decode cX8_go 39 = .ok (.aload_n 0, 1) := by decide +kernel
theorem dX8_go_40 : decode cX8_go 40 = .ok (.getfield 246, 3) := by decide +kernel
theorem dX8_go_43 : decode cX8_go 43 = .ok (.invokevirtual 179, 3) := by decide +kernel
theorem dX8_go_46 : decode cX8_go 46 = .ok (.return_, 1) := by decide +kernel
theorem dX8_next_0 : decode cX8_next 0 = .ok (.aload_n 0, 1) := by decide +kernel
theorem dX8_next_1 : decode cX8_next 1 = .ok (.aload_n 0, 1) := by decide +kernel
theorem dX8_next_2 : decode cX8_next 2 = .ok (.getfield 203, 3) := by decide +kernel
theorem dX8_next_5 : decode cX8_next 5 = .ok (.ifCond .ne 7, 3) := by decide +kernel
theorem dX8_next_8 : decode cX8_next 8 = .ok (.iconst 1, 1) := by decide +kernel
theorem dX8_next_9 : decode cX8_next 9 = .ok (.goto 4, 3) := by decide +kernel
theorem dX8_next_12 : decode cX8_next 12 = .ok (.iconst 0, 1) := by decide +kernel
theorem dX8_next_13 : decode cX8_next 13 = .ok (.invokevirtual 112, 3) := by decide +kernel
theorem dX8_next_16 : decode cX8_next 16 = .ok (.ifCond .eq 5, 3) := by decide +kernel
theorem dX8_next_19 : decode cX8_next 19 = .ok (.iconst 0, 1) := by decide +kernel
theorem dX8_next_20 : decode cX8_next 20 = .ok (.ireturn, 1) := by decide +kernel
theorem dX8_next_21 : decode cX8_next 21 = .ok (.aload_n 0, 1) := by decide +kernel
theorem dX8_next_22 : decode cX8_next 22 = .ok (.getfield 207, 3) := by decide +kernel
theorem dX8_next_25 : decode cX8_next 25 = .ok (.ifCond .eq 5, 3) := by decide +kernel
theorem dX8_next_28 : decode cX8_next 28 = .ok (.iconst 2, 1) := by decide +kernel
theorem dX8_next_29 : decode cX8_next 29 = .ok (.ireturn, 1) := by decide +kernel
theorem dX8_next_30 : decode cX8_next 30 = .ok (.aload_n 0, 1) := by decide +kernel
theorem dX8_next_31 : decode cX8_next 31 = .ok (.getfield 213, 3) := by decide +kernel
theorem dX8_next_34 : decode cX8_next 34 = .ok (.ifCond .gt 14, 3) := by decide +kernel
theorem dX8_next_37 : decode cX8_next 37 = .ok (.aload_n 0, 1) := by decide +kernel
theorem dX8_next_38 : decode cX8_next 38 = .ok (.getfield 219, 3) := by decide +kernel
theorem dX8_next_41 : decode cX8_next 41 = .ok (.aload_n 0, 1) := by decide +kernel
theorem dX8_next_42 : decode cX8_next 42 = .ok (.getfield 216, 3) := by decide +kernel
theorem dX8_next_45 : decode cX8_next 45 = .ok (.if_icmp .ge 69, 3) := by decide +kernel
theorem dX8_next_48 : decode cX8_next 48 = .ok (.aload_n 0, 1) := by decide +kernel
theorem dX8_next_49 : decode cX8_next 49 = .ok (.getfield 222, 3) := by decide +kernel
theorem dX8_next_52 : decode cX8_next 52 = .ok (.sipush 200, 3) := by decide +kernel
theorem dX8_next_55 : decode cX8_next 55 = .ok (.if_icmp .ne 10, 3) := by decide +kernel
theorem dX8_next_58 : decode cX8_next 58 = .ok (.aload_n 0, 1) := by decide +kernel
theorem dX8_next_59 : decode cX8_next 59 = .ok (.iconst 1, 1) := by decide +kernel
theorem dX8_next_60 : decode cX8_next 60 = .ok (.putfield 207, 3) := by decide +kernel
theorem dX8_next_63 : decode cX8_next 63 = .ok (.iconst 2, 1) := by decide +kernel
theorem dX8_next_64 : decode cX8_next 64 = .ok (.ireturn, 1) := by decide +kernel
theorem dX8_next_65 : decode cX8_next 65 = .ok (.aload_n 0, 1) := by decide +kernel
theorem dX8_next_66 : decode cX8_next 66 = .ok (.dup, 1) := by decide +kernel
theorem dX8_next_67 : decode cX8_next 67 = .ok (.getfield 222, 3) := by decide +kernel
theorem dX8_next_70 : decode cX8_next 70 = .ok (.iconst 1, 1) := by decide +kernel
theorem dX8_next_71 : decode cX8_next 71 = .ok (.iadd, 1) := by decide +kernel
theorem dX8_next_72 : decode cX8_next 72 = .ok (.putfield 222, 3) := by decide +kernel
theorem dX8_next_75 : decode cX8_next 75 = .ok (.aload_n 0, 1) := by decide +kernel
theorem dX8_next_76 : decode cX8_next 76 = .ok (.invokevirtual 255, 3) := by decide +kernel
theorem dX8_next_79 : decode cX8_next 79 = .ok (.istore_n 1, 1) := by decide +kernel
theorem dX8_next_80 : decode cX8_next 80 = .ok (.aload_n 0, 1) := by decide +kernel
theorem dX8_next_81 : decode cX8_next 81 = .ok (.iload_n 1, 1) := by decide +kernel
theorem dX8_next_82 : decode cX8_next 82 = .ok (.invokevirtual 259, 3) := by decide +kernel
theorem dX8_next_85 : decode cX8_next 85 = .ok (.aload_n 0, 1) := by decide +kernel
theorem dX8_next_86 : decode cX8_next 86 = .ok (.getfield 126, 3) := by decide +kernel
theorem dX8_next_89 : decode cX8_next 89 = .ok (.iconst 3, 1) := by decide +kernel
theorem dX8_next_90 : decode cX8_next 90 = .ok (.if_icmp .ne 11, 3) := by decide +kernel
theorem dX8_next_93 : decode cX8_next 93 = .ok (.aload_n 0, 1) := by decide +kernel
theorem dX8_next_94 : decode cX8_next 94 = .ok (.iload_n 1, 1) := by decide +kernel
theorem dX8_next_95 : decode cX8_next 95 = .ok (.invokevirtual 262, 3) := by decide +kernel
theorem dX8_next_98 : decode cX8_next 98 = .ok (.goto 13, 3) := by decide +kernel
theorem dX8_next_101 : decode cX8_next 101 = .ok (.aload_n 0, 1) := by decide +kernel
theorem dX8_next_102 : decode cX8_next 102 = .ok (.iload_n 1, 1) := by decide +kernel
theorem dX8_next_103 : decode cX8_next 103 = .ok (.invokevirtual 265, 3) := by decide +kernel
theorem dX8_next_106 : decode cX8_next 106 = .ok (.ifCond .eq 5, 3) := by decide +kernel
theorem dX8_next_109 : decode cX8_next 109 = .ok (.iconst 1, 1) := by decide +kernel
theorem dX8_next_110 : decode cX8_next 110 = .ok (.ireturn, 1) := by decide +kernel
theorem dX8_next_111 : decode cX8_next 111 = .ok (.goto (-81), 3) := by decide +kernel
theorem dX8_next_114 : decode cX8_next 114 = .ok (.iconst 0, 1) := by decide +kernel
theorem dX8_next_115 : decode cX8_next 115 = .ok (.ireturn, 1) := by decide +kernel
theorem dX8_fetch_0 : decode cX8_fetch 0 = .ok (.aload_n 0, 1) := by decide +kernel
theorem dX8_fetch_1 : decode cX8_fetch 1 = .ok (.getfield 213, 3) := by decide +kernel
theorem dX8_fetch_4 : decode cX8_fetch 4 = .ok (.ifCond .ne 73, 3) := by decide +kernel
theorem dX8_fetch_7 : decode cX8_fetch 7 = .ok (.aload_n 0, 1) := by decide +kernel
theorem dX8_fetch_8 : decode cX8_fetch 8 = .ok (.getfield 85, 3) := by decide +kernel
theorem dX8_fetch_11 : decode cX8_fetch 11 = .ok (.aload_n 0, 1) := by decide +kernel
theorem dX8_fetch_12 : decode cX8_fetch 12 = .ok (.getfield 219, 3) := by decide +kernel
theorem dX8_fetch_15 : decode cX8_fetch 15 = .ok (.iaload, 1) := by decide +kernel
theorem dX8_fetch_16 : decode cX8_fetch 16 = .ok (.istore_n 1, 1) := by decide +kernel
theorem dX8_fetch_17 : decode cX8_fetch 17 = .ok (.aload_n 0, 1) := by decide +kernel
theorem dX8_fetch_18 : decode cX8_fetch 18 = .ok (.iload_n 1, 1) := by decide +kernel
theorem dX8_fetch_19 : decode cX8_fetch 19 = .ok (.aload_n 0, 1) := by decide +kernel
theorem dX8_fetch_20 : decode cX8_fetch 20 = .ok (.getfield 252, 3) := by decide +kernel
theorem dX8_fetch_23 : decode cX8_fetch 23 = .ok (.idiv, 1) := by decide +kernel
theorem dX8_fetch_24 : decode cX8_fetch 24 = .ok (.putfield 210, 3) := by decide +kernel
theorem dX8_fetch_27 : decode cX8_fetch 27 = .ok (.iconst 0, 1) := by decide +kernel
theorem dX8_fetch_28 : decode cX8_fetch 28 = .ok (.istore_n 2, 1) := by decide +kernel
theorem dX8_fetch_29 : decode cX8_fetch 29 = .ok (.iload_n 2, 1) := by decide +kernel
theorem dX8_fetch_30 : decode cX8_fetch 30 = .ok (.iload_n 1, 1) := by decide +kernel
theorem dX8_fetch_31 : decode cX8_fetch 31 = .ok (.if_icmp .ge 34, 3) := by decide +kernel
theorem dX8_fetch_34 : decode cX8_fetch 34 = .ok (.aload_n 0, 1) := by decide +kernel
theorem dX8_fetch_35 : decode cX8_fetch 35 = .ok (.getfield 47, 3) := by decide +kernel
theorem dX8_fetch_38 : decode cX8_fetch 38 = .ok (.iload_n 2, 1) := by decide +kernel
theorem dX8_fetch_39 : decode cX8_fetch 39 = .ok (.aload_n 0, 1) := by decide +kernel
theorem dX8_fetch_40 : decode cX8_fetch 40 = .ok (.getfield 82, 3) := by decide +kernel
theorem dX8_fetch_43 : decode cX8_fetch 43 = .ok (.sipush 256, 3) := by decide +kernel
theorem dX8_fetch_46 : decode cX8_fetch 46 = .ok (.aload_n 0, 1) := by decide +kernel
theorem dX8_fetch_47 : decode cX8_fetch 47 = .ok (.getfield 219, 3) := by decide +kernel
theorem dX8_fetch_50 : decode cX8_fetch 50 = .ok (.sipush 512, 3) := by decide +kernel
theorem dX8_fetch_53 : decode cX8_fetch 53 = .ok (.irem, 1) := by decide +kernel
theorem dX8_fetch_54 : decode cX8_fetch 54 = .ok (.imul, 1) := by decide +kernel
theorem dX8_fetch_55 : decode cX8_fetch 55 = .ok (.iload_n 2, 1) := by decide +kernel
theorem dX8_fetch_56 : decode cX8_fetch 56 = .ok (.iadd, 1) := by decide +kernel
theorem dX8_fetch_57 : decode cX8_fetch 57 = .ok (.iaload, 1) := by decide +kernel
theorem dX8_fetch_58 : decode cX8_fetch 58 = .ok (.iastore, 1) := by decide +kernel
theorem dX8_fetch_59 : decode cX8_fetch 59 = .ok (.iinc 2 1, 3) := by decide +kernel
theorem dX8_fetch_62 : decode cX8_fetch 62 = .ok (.goto (-33), 3) := by decide +kernel
theorem dX8_fetch_65 : decode cX8_fetch 65 = .ok (.aload_n 0, 1) := by decide +kernel
theorem dX8_fetch_66 : decode cX8_fetch 66 = .ok (.dup, 1) := by decide +kernel
theorem dX8_fetch_67 : decode cX8_fetch 67 = .ok (.getfield 219, 3) := by decide +kernel
theorem dX8_fetch_70 : decode cX8_fetch 70 = .ok (.iconst 1, 1) := by decide +kernel
theorem dX8_fetch_71 : decode cX8_fetch 71 = .ok (.iadd, 1) := by decide +kernel
theorem dX8_fetch_72 : decode cX8_fetch 72 = .ok (.putfield 219, 3) := by decide +kernel
theorem dX8_fetch_75 : decode cX8_fetch 75 = .ok (.iload_n 1, 1) := by decide +kernel
theorem dX8_fetch_76 : decode cX8_fetch 76 = .ok (.ireturn, 1) := by decide +kernel
theorem dX8_fetch_77 : decode cX8_fetch 77 = .ok (.aload_n 0, 1) := by decide +kernel
theorem dX8_fetch_78 : decode cX8_fetch 78 = .ok (.dup, 1) := by decide +kernel
theorem dX8_fetch_79 : decode cX8_fetch 79 = .ok (.getfield 213, 3) := by decide +kernel
theorem dX8_fetch_82 : decode cX8_fetch 82 = .ok (.iconst 1, 1) := by decide +kernel
theorem dX8_fetch_83 : decode cX8_fetch 83 = .ok (.isub, 1) := by decide +kernel
theorem dX8_fetch_84 : decode cX8_fetch 84 = .ok (.putfield 213, 3) := by decide +kernel
theorem dX8_fetch_87 : decode cX8_fetch 87 = .ok (.iconst 0, 1) := by decide +kernel
theorem dX8_fetch_88 : decode cX8_fetch 88 = .ok (.istore_n 1, 1) := by decide +kernel
theorem dX8_fetch_89 : decode cX8_fetch 89 = .ok (.iload_n 1, 1) := by decide +kernel
theorem dX8_fetch_90 : decode cX8_fetch 90 = .ok (.aload_n 0, 1) := by decide +kernel
theorem dX8_fetch_91 : decode cX8_fetch 91 = .ok (.getfield 78, 3) := by decide +kernel
theorem dX8_fetch_94 : decode cX8_fetch 94 = .ok (.aload_n 0, 1) := by decide +kernel
theorem dX8_fetch_95 : decode cX8_fetch 95 = .ok (.getfield 213, 3) := by decide +kernel
theorem dX8_fetch_98 : decode cX8_fetch 98 = .ok (.iaload, 1) := by decide +kernel
theorem dX8_fetch_99 : decode cX8_fetch 99 = .ok (.if_icmp .ge 30, 3) := by decide +kernel
theorem dX8_fetch_102 : decode cX8_fetch 102 = .ok (.aload_n 0, 1) := by decide +kernel
theorem dX8_fetch_103 : decode cX8_fetch 103 = .ok (.getfield 47, 3) := by decide +kernel
theorem dX8_fetch_106 : decode cX8_fetch 106 = .ok (.iload_n 1, 1) := by decide +kernel
theorem dX8_fetch_107 : decode cX8_fetch 107 = .ok (.aload_n 0, 1) := by decide +kernel
theorem dX8_fetch_108 : decode cX8_fetch 108 = .ok (.getfield 75, 3) := by decide +kernel
theorem dX8_fetch_111 : decode cX8_fetch 111 = .ok (.sipush 256, 3) := by decide +kernel
theorem dX8_fetch_114 : decode cX8_fetch 114 = .ok (.aload_n 0, 1) := by decide +kernel
theorem dX8_fetch_115 : decode cX8_fetch 115 = .ok (.getfield 213, 3) := by decide +kernel
theorem dX8_fetch_118 : decode cX8_fetch 118 = .ok (.imul, 1) := by decide +kernel
theorem dX8_fetch_119 : decode cX8_fetch 119 = .ok (.iload_n 1, 1) := by decide +kernel
theorem dX8_fetch_120 : decode cX8_fetch 120 = .ok (.iadd, 1) := by decide +kernel
theorem dX8_fetch_121 : decode cX8_fetch 121 = .ok (.iaload, 1) := by decide +kernel
theorem dX8_fetch_122 : decode cX8_fetch 122 = .ok (.iastore, 1) := by decide +kernel
theorem dX8_fetch_123 : decode cX8_fetch 123 = .ok (.iinc 1 1, 3) := by decide +kernel
theorem dX8_fetch_126 : decode cX8_fetch 126 = .ok (.goto (-37), 3) := by decide +kernel
theorem dX8_fetch_129 : decode cX8_fetch 129 = .ok (.aload_n 0, 1) := by decide +kernel
theorem dX8_fetch_130 : decode cX8_fetch 130 = .ok (.getfield 78, 3) := by decide +kernel
theorem dX8_fetch_133 : decode cX8_fetch 133 = .ok (.aload_n 0, 1) := by decide +kernel
theorem dX8_fetch_134 : decode cX8_fetch 134 = .ok (.getfield 213, 3) := by decide +kernel
theorem dX8_fetch_137 : decode cX8_fetch 137 = .ok (.iaload, 1) := by decide +kernel
theorem dX8_fetch_138 : decode cX8_fetch 138 = .ok (.ireturn, 1) := by decide +kernel
theorem dX8_decide_0 : decode cX8_decide 0 = .ok (.aload_n 0, 1) := by decide +kernel
theorem dX8_decide_1 : decode cX8_decide 1 = .ok (.getfield 249, 3) := by decide +kernel
theorem dX8_decide_4 : decode cX8_decide 4 = .ok (.iconst 2, 1) := by decide +kernel
theorem dX8_decide_5 : decode cX8_decide 5 = .ok (.if_icmp .ne 22, 3) := by decide +kernel
theorem dX8_decide_8 : decode cX8_decide 8 = .ok (.iload_n 1, 1) := by decide +kernel
theorem dX8_decide_9 : decode cX8_decide 9 = .ok (.aload_n 0, 1) := by decide +kernel
theorem dX8_decide_10 : decode cX8_decide 10 = .ok (.getfield 252, 3) := by decide +kernel
theorem dX8_decide_13 : decode cX8_decide 13 = .ok (.if_icmp .ne 14, 3) := by decide +kernel
theorem dX8_decide_16 : decode cX8_decide 16 = .ok (.aload_n 0, 1) := by decide +kernel
theorem dX8_decide_17 : decode cX8_decide 17 = .ok (.dup, 1) := by decide +kernel
theorem dX8_decide_18 : decode cX8_decide 18 = .ok (.getfield 234, 3) := by decide +kernel
theorem dX8_decide_21 : decode cX8_decide 21 = .ok (.iconst 1, 1) := by decide +kernel
theorem dX8_decide_22 : decode cX8_decide 22 = .ok (.iadd, 1) := by decide +kernel
theorem dX8_decide_23 : decode cX8_decide 23 = .ok (.putfield 234, 3) := by decide +kernel
theorem dX8_decide_26 : decode cX8_decide 26 = .ok (.return_, 1) := by decide +kernel
theorem dX8_decide_27 : decode cX8_decide 27 = .ok (.aload_n 0, 1) := by decide +kernel
theorem dX8_decide_28 : decode cX8_decide 28 = .ok (.getfield 249, 3) := by decide +kernel
theorem dX8_decide_31 : decode cX8_decide 31 = .ok (.iconst 1, 1) := by decide +kernel
theorem dX8_decide_32 : decode cX8_decide 32 = .ok (.if_icmp .ne 22, 3) := by decide +kernel
theorem dX8_decide_35 : decode cX8_decide 35 = .ok (.iload_n 1, 1) := by decide +kernel
theorem dX8_decide_36 : decode cX8_decide 36 = .ok (.iconst 1, 1) := by decide +kernel
theorem dX8_decide_37 : decode cX8_decide 37 = .ok (.iadd, 1) := by decide +kernel
theorem dX8_decide_38 : decode cX8_decide 38 = .ok (.aload_n 0, 1) := by decide +kernel
theorem dX8_decide_39 : decode cX8_decide 39 = .ok (.getfield 252, 3) := by decide +kernel
theorem dX8_decide_42 : decode cX8_decide 42 = .ok (.idiv, 1) := by decide +kernel
theorem dX8_decide_43 : decode cX8_decide 43 = .ok (.aload_n 0, 1) := by decide +kernel
theorem dX8_decide_44 : decode cX8_decide 44 = .ok (.getfield 210, 3) := by decide +kernel
theorem dX8_decide_47 : decode cX8_decide 47 = .ok (.if_icmp .le 7, 3) := by decide +kernel
theorem dX8_decide_50 : decode cX8_decide 50 = .ok (.iconst 1, 1) := by decide +kernel
theorem dX8_decide_51 : decode cX8_decide 51 = .ok (.goto 4, 3) := by decide +kernel
theorem dX8_decide_54 : decode cX8_decide 54 = .ok (.iconst 0, 1) := by decide +kernel
theorem dX8_decide_55 : decode cX8_decide 55 = .ok (.istore_n 2, 1) := by decide +kernel
theorem dX8_decide_56 : decode cX8_decide 56 = .ok (.iconst 1, 1) := by decide +kernel
theorem dX8_decide_57 : decode cX8_decide 57 = .ok (.istore_n 3, 1) := by decide +kernel
theorem dX8_decide_58 : decode cX8_decide 58 = .ok (.iload_n 3, 1) := by decide +kernel
theorem dX8_decide_59 : decode cX8_decide 59 = .ok (.ifCond .lt 111, 3) := by decide +kernel
theorem dX8_decide_62 : decode cX8_decide 62 = .ok (.iload_n 2, 1) := by decide +kernel
theorem dX8_decide_63 : decode cX8_decide 63 = .ok (.ifCond .eq 9, 3) := by decide +kernel
theorem dX8_decide_66 : decode cX8_decide 66 = .ok (.iconst 1, 1) := by decide +kernel
theorem dX8_decide_67 : decode cX8_decide 67 = .ok (.iload_n 3, 1) := by decide +kernel
theorem dX8_decide_68 : decode cX8_decide 68 = .ok (.isub, 1) := by decide +kernel
theorem dX8_decide_69 : decode cX8_decide 69 = .ok (.goto 4, 3) := by decide +kernel
theorem dX8_decide_72 : decode cX8_decide 72 = .ok (.iload_n 3, 1) := by decide +kernel
theorem dX8_decide_73 : decode cX8_decide 73 = .ok (.istore 4, 2) := by decide +kernel
theorem dX8_decide_75 : decode cX8_decide 75 = .ok (.iload_n 2, 1) := by decide +kernel
theorem dX8_decide_76 : decode cX8_decide 76 = .ok (.ifCond .eq 47, 3) := by decide +kernel
theorem dX8_decide_79 : decode cX8_decide 79 = .ok (.aload_n 0, 1) := by decide +kernel
theorem dX8_decide_80 : decode cX8_decide 80 = .ok (.aload_n 0, 1) := by decide +kernel
theorem dX8_decide_81 : decode cX8_decide 81 = .ok (.getfield 82, 3) := by decide +kernel
theorem dX8_decide_84 : decode cX8_decide 84 = .ok (.sipush 256, 3) := by decide +kernel
theorem dX8_decide_87 : decode cX8_decide 87 = .ok (.aload_n 0, 1) := by decide +kernel
theorem dX8_decide_88 : decode cX8_decide 88 = .ok (.getfield 216, 3) := by decide +kernel
theorem dX8_decide_91 : decode cX8_decide 91 = .ok (.imul, 1) := by decide +kernel
theorem dX8_decide_92 : decode cX8_decide 92 = .ok (.iload_n 1, 1) := by decide +kernel
theorem dX8_decide_93 : decode cX8_decide 93 = .ok (.iload 4, 2) := by decide +kernel
theorem dX8_decide_95 : decode cX8_decide 95 = .ok (.invokevirtual 268, 3) := by decide +kernel
theorem dX8_decide_98 : decode cX8_decide 98 = .ok (.aload_n 0, 1) := by decide +kernel
theorem dX8_decide_99 : decode cX8_decide 99 = .ok (.getfield 85, 3) := by decide +kernel
theorem dX8_decide_102 : decode cX8_decide 102 = .ok (.aload_n 0, 1) := by decide +kernel
theorem dX8_decide_103 : decode cX8_decide 103 = .ok (.getfield 216, 3) := by decide +kernel
theorem dX8_decide_106 : decode cX8_decide 106 = .ok (.iload_n 1, 1) := by decide +kernel
theorem dX8_decide_107 : decode cX8_decide 107 = .ok (.iconst 1, 1) := by decide +kernel
theorem dX8_decide_108 : decode cX8_decide 108 = .ok (.iadd, 1) := by decide +kernel
theorem dX8_decide_109 : decode cX8_decide 109 = .ok (.iastore, 1) := by decide +kernel
theorem dX8_decide_110 : decode cX8_decide 110 = .ok (.aload_n 0, 1) := by decide +kernel
theorem dX8_decide_111 : decode cX8_decide 111 = .ok (.dup, 1) := by decide +kernel
theorem dX8_decide_112 : decode cX8_decide 112 = .ok (.getfield 216, 3) := by decide +kernel
theorem dX8_decide_115 : decode cX8_decide 115 = .ok (.iconst 1, 1) := by decide +kernel
theorem dX8_decide_116 : decode cX8_decide 116 = .ok (.iadd, 1) := by decide +kernel
theorem dX8_decide_117 : decode cX8_decide 117 = .ok (.putfield 216, 3) := by decide +kernel
theorem dX8_decide_120 : decode cX8_decide 120 = .ok (.goto 44, 3) := by decide +kernel
theorem dX8_decide_123 : decode cX8_decide 123 = .ok (.aload_n 0, 1) := by decide +kernel
theorem dX8_decide_124 : decode cX8_decide 124 = .ok (.aload_n 0, 1) := by decide +kernel
theorem dX8_decide_125 : decode cX8_decide 125 = .ok (.getfield 75, 3) := by decide +kernel
theorem dX8_decide_128 : decode cX8_decide 128 = .ok (.sipush 256, 3) := by decide +kernel
theorem dX8_decide_131 : decode cX8_decide 131 = .ok (.aload_n 0, 1) := by decide +kernel
theorem dX8_decide_132 : decode cX8_decide 132 = .ok (.getfield 213, 3) := by decide +kernel
theorem dX8_decide_135 : decode cX8_decide 135 = .ok (.imul, 1) := by decide +kernel
theorem dX8_decide_136 : decode cX8_decide 136 = .ok (.iload_n 1, 1) := by decide +kernel
theorem dX8_decide_137 : decode cX8_decide 137 = .ok (.iload 4, 2) := by decide +kernel
theorem dX8_decide_139 : decode cX8_decide 139 = .ok (.invokevirtual 268, 3) := by decide +kernel
theorem dX8_decide_142 : decode cX8_decide 142 = .ok (.aload_n 0, 1) := by decide +kernel
theorem dX8_decide_143 : decode cX8_decide 143 = .ok (.getfield 78, 3) := by decide +kernel
theorem dX8_decide_146 : decode cX8_decide 146 = .ok (.aload_n 0, 1) := by decide +kernel
theorem dX8_decide_147 : decode cX8_decide 147 = .ok (.getfield 213, 3) := by decide +kernel
theorem dX8_decide_150 : decode cX8_decide 150 = .ok (.iload_n 1, 1) := by decide +kernel
theorem dX8_decide_151 : decode cX8_decide 151 = .ok (.iconst 1, 1) := by decide +kernel
theorem dX8_decide_152 : decode cX8_decide 152 = .ok (.iadd, 1) := by decide +kernel
theorem dX8_decide_153 : decode cX8_decide 153 = .ok (.iastore, 1) := by decide +kernel
theorem dX8_decide_154 : decode cX8_decide 154 = .ok (.aload_n 0, 1) := by decide +kernel
theorem dX8_decide_155 : decode cX8_decide 155 = .ok (.dup, 1) := by decide +kernel
theorem dX8_decide_156 : decode cX8_decide 156 = .ok (.getfield 213, 3) := by decide +kernel
theorem dX8_decide_159 : decode cX8_decide 159 = .ok (.iconst 1, 1) := by decide +kernel
theorem dX8_decide_160 : decode cX8_decide 160 = .ok (.iadd, 1) := by decide +kernel
theorem dX8_decide_161 : decode cX8_decide 161 = .ok (.putfield 213, 3) := by decide +kernel
theorem dX8_decide_164 : decode cX8_decide 164 = .ok (.iinc 3 (-1), 3) := by decide +kernel
theorem dX8_decide_167 : decode cX8_decide 167 = .ok (.goto (-109), 3) := by decide +kernel
theorem dX8_decide_170 : decode cX8_decide 170 = .ok (.return_, 1) := by decide +kernel
theorem dX8_copy_0 : decode cX8_copy 0 = .ok (.iconst 0, 1) := by decide +kernel
theorem dX8_copy_1 : decode cX8_copy 1 = .ok (.istore 5, 2) := by decide +kernel
theorem dX8_copy_3 : decode cX8_copy 3 = .ok (.iload 5, 2) := by decide +kernel
theorem dX8_copy_5 : decode cX8_copy 5 = .ok (.iload_n 3, 1) := by decide +kernel
theorem dX8_copy_6 : decode cX8_copy 6 = .ok (.if_icmp .ge 22, 3) := by decide +kernel
theorem dX8_copy_9 : decode cX8_copy 9 = .ok (.aload_n 1, 1) := by decide +kernel
theorem dX8_copy_10 : decode cX8_copy 10 = .ok (.iload_n 2, 1) := by decide +kernel
theorem dX8_copy_11 : decode cX8_copy 11 = .ok (.iload 5, 2) := by decide +kernel
theorem dX8_copy_13 : decode cX8_copy 13 = .ok (.iadd, 1) := by decide +kernel
theorem dX8_copy_14 : decode cX8_copy 14 = .ok (.aload_n 0, 1) := by decide +kernel
theorem dX8_copy_15 : decode cX8_copy 15 = .ok (.getfield 47, 3) := by decide +kernel
theorem dX8_copy_18 : decode cX8_copy 18 = .ok (.iload 5, 2) := by decide +kernel
theorem dX8_copy_20 : decode cX8_copy 20 = .ok (.iaload, 1) := by decide +kernel
theorem dX8_copy_21 : decode cX8_copy 21 = .ok (.iastore, 1) := by decide +kernel
theorem dX8_copy_22 : decode cX8_copy 22 = .ok (.iinc 5 1, 3) := by decide +kernel
theorem dX8_copy_25 : decode cX8_copy 25 = .ok (.goto (-22), 3) := by decide +kernel
theorem dX8_copy_28 : decode cX8_copy 28 = .ok (.aload_n 1, 1) := by decide +kernel
theorem dX8_copy_29 : decode cX8_copy 29 = .ok (.iload_n 2, 1) := by decide +kernel
theorem dX8_copy_30 : decode cX8_copy 30 = .ok (.iload_n 3, 1) := by decide +kernel
theorem dX8_copy_31 : decode cX8_copy 31 = .ok (.iadd, 1) := by decide +kernel
theorem dX8_copy_32 : decode cX8_copy 32 = .ok (.iload 4, 2) := by decide +kernel
theorem dX8_copy_34 : decode cX8_copy 34 = .ok (.iastore, 1) := by decide +kernel
theorem dX8_copy_35 : decode cX8_copy 35 = .ok (.return_, 1) := by decide +kernel
theorem dX8_ends_0 : decode cX8_ends 0 = .ok (.aload_n 0, 1) := by decide +kernel
theorem dX8_ends_1 : decode cX8_ends 1 = .ok (.getfield 126, 3) := by decide +kernel
theorem dX8_ends_4 : decode cX8_ends 4 = .ok (.iconst 1, 1) := by decide +kernel
theorem dX8_ends_5 : decode cX8_ends 5 = .ok (.if_icmp .ne 15, 3) := by decide +kernel
theorem dX8_ends_8 : decode cX8_ends 8 = .ok (.aload_n 0, 1) := by decide +kernel
theorem dX8_ends_9 : decode cX8_ends 9 = .ok (.dup, 1) := by decide +kernel
theorem dX8_ends_10 : decode cX8_ends 10 = .ok (.getfield 228, 3) := by decide +kernel
theorem dX8_ends_13 : decode cX8_ends 13 = .ok (.iconst 1, 1) := by decide +kernel
theorem dX8_ends_14 : decode cX8_ends 14 = .ok (.iadd, 1) := by decide +kernel
theorem dX8_ends_15 : decode cX8_ends 15 = .ok (.putfield 228, 3) := by decide +kernel
theorem dX8_ends_18 : decode cX8_ends 18 = .ok (.iconst 0, 1) := by decide +kernel
theorem dX8_ends_19 : decode cX8_ends 19 = .ok (.ireturn, 1) := by decide +kernel
theorem dX8_ends_20 : decode cX8_ends 20 = .ok (.aload_n 0, 1) := by decide +kernel
theorem dX8_ends_21 : decode cX8_ends 21 = .ok (.getfield 126, 3) := by decide +kernel
theorem dX8_ends_24 : decode cX8_ends 24 = .ok (.iconst 2, 1) := by decide +kernel
theorem dX8_ends_25 : decode cX8_ends 25 = .ok (.if_icmp .ne 15, 3) := by decide +kernel
theorem dX8_ends_28 : decode cX8_ends 28 = .ok (.aload_n 0, 1) := by decide +kernel
theorem dX8_ends_29 : decode cX8_ends 29 = .ok (.dup, 1) := by decide +kernel
theorem dX8_ends_30 : decode cX8_ends 30 = .ok (.getfield 231, 3) := by decide +kernel
theorem dX8_ends_33 : decode cX8_ends 33 = .ok (.iconst 1, 1) := by decide +kernel
theorem dX8_ends_34 : decode cX8_ends 34 = .ok (.iadd, 1) := by decide +kernel
theorem dX8_ends_35 : decode cX8_ends 35 = .ok (.putfield 231, 3) := by decide +kernel
theorem dX8_ends_38 : decode cX8_ends 38 = .ok (.iconst 0, 1) := by decide +kernel
theorem dX8_ends_39 : decode cX8_ends 39 = .ok (.ireturn, 1) := by decide +kernel
theorem dX8_ends_40 : decode cX8_ends 40 = .ok (.aload_n 0, 1) := by decide +kernel
theorem dX8_ends_41 : decode cX8_ends 41 = .ok (.dup, 1) := by decide +kernel
theorem dX8_ends_42 : decode cX8_ends 42 = .ok (.getfield 225, 3) := by decide +kernel
theorem dX8_ends_45 : decode cX8_ends 45 = .ok (.iconst 1, 1) := by decide +kernel
theorem dX8_ends_46 : decode cX8_ends 46 = .ok (.iadd, 1) := by decide +kernel
theorem dX8_ends_47 : decode cX8_ends 47 = .ok (.putfield 225, 3) := by decide +kernel
theorem dX8_ends_50 : decode cX8_ends 50 = .ok (.aload_n 0, 1) := by decide +kernel
theorem dX8_ends_51 : decode cX8_ends 51 = .ok (.aload_n 0, 1) := by decide +kernel
theorem dX8_ends_52 : decode cX8_ends 52 = .ok (.getfield 135, 3) := by decide +kernel
theorem dX8_ends_55 : decode cX8_ends 55 = .ok (.putfield 237, 3) := by decide +kernel
theorem dX8_ends_58 : decode cX8_ends 58 = .ok (.aload_n 0, 1) := by decide +kernel
theorem dX8_ends_59 : decode cX8_ends 59 = .ok (.iload_n 1, 1) := by decide +kernel
theorem dX8_ends_60 : decode cX8_ends 60 = .ok (.putfield 240, 3) := by decide +kernel
theorem dX8_ends_63 : decode cX8_ends 63 = .ok (.iconst 0, 1) := by decide +kernel
theorem dX8_ends_64 : decode cX8_ends 64 = .ok (.istore_n 2, 1) := by decide +kernel
theorem dX8_ends_65 : decode cX8_ends 65 = .ok (.iload_n 2, 1) := by decide +kernel
theorem dX8_ends_66 : decode cX8_ends 66 = .ok (.iload_n 1, 1) := by decide +kernel
theorem dX8_ends_67 : decode cX8_ends 67 = .ok (.if_icmp .ge 21, 3) := by decide +kernel
theorem dX8_ends_70 : decode cX8_ends 70 = .ok (.aload_n 0, 1) := by decide +kernel
theorem dX8_ends_71 : decode cX8_ends 71 = .ok (.getfield 88, 3) := by decide +kernel
theorem dX8_ends_74 : decode cX8_ends 74 = .ok (.iload_n 2, 1) := by decide +kernel
theorem dX8_ends_75 : decode cX8_ends 75 = .ok (.aload_n 0, 1) := by decide +kernel
theorem dX8_ends_76 : decode cX8_ends 76 = .ok (.getfield 47, 3) := by decide +kernel
theorem dX8_ends_79 : decode cX8_ends 79 = .ok (.iload_n 2, 1) := by decide +kernel
theorem dX8_ends_80 : decode cX8_ends 80 = .ok (.iaload, 1) := by decide +kernel
theorem dX8_ends_81 : decode cX8_ends 81 = .ok (.iastore, 1) := by decide +kernel
theorem dX8_ends_82 : decode cX8_ends 82 = .ok (.iinc 2 1, 3) := by decide +kernel
theorem dX8_ends_85 : decode cX8_ends 85 = .ok (.goto (-20), 3) := by decide +kernel
theorem dX8_ends_88 : decode cX8_ends 88 = .ok (.aload_n 0, 1) := by decide +kernel
theorem dX8_ends_89 : decode cX8_ends 89 = .ok (.aload_n 0, 1) := by decide +kernel
theorem dX8_ends_90 : decode cX8_ends 90 = .ok (.getfield 62, 3) := by decide +kernel
theorem dX8_ends_93 : decode cX8_ends 93 = .ok (.iconst 0, 1) := by decide +kernel
theorem dX8_ends_94 : decode cX8_ends 94 = .ok (.iaload, 1) := by decide +kernel
theorem dX8_ends_95 : decode cX8_ends 95 = .ok (.putfield 243, 3) := by decide +kernel
theorem dX8_ends_98 : decode cX8_ends 98 = .ok (.iconst 0, 1) := by decide +kernel
theorem dX8_ends_99 : decode cX8_ends 99 = .ok (.istore_n 2, 1) := by decide +kernel
theorem dX8_ends_100 : decode cX8_ends 100 = .ok (.iload_n 2, 1) := by decide +kernel
theorem dX8_ends_101 : decode cX8_ends 101 = .ok (.aload_n 0, 1) := by decide +kernel
theorem dX8_ends_102 : decode cX8_ends 102 = .ok (.getfield 243, 3) := by decide +kernel
theorem dX8_ends_105 : decode cX8_ends 105 = .ok (.if_icmp .ge 33, 3) := by decide +kernel
theorem dX8_ends_108 : decode cX8_ends 108 = .ok (.aload_n 0, 1) := by decide +kernel
theorem dX8_ends_109 : decode cX8_ends 109 = .ok (.getfield 91, 3) := by decide +kernel
theorem dX8_ends_112 : decode cX8_ends 112 = .ok (.iload_n 2, 1) := by decide +kernel
theorem dX8_ends_113 : decode cX8_ends 113 = .ok (.aload_n 0, 1) := by decide +kernel
theorem dX8_ends_114 : decode cX8_ends 114 = .ok (.getfield 56, 3) := by decide +kernel
theorem dX8_ends_117 : decode cX8_ends 117 = .ok (.iload_n 2, 1) := by decide +kernel
theorem dX8_ends_118 : decode cX8_ends 118 = .ok (.iaload, 1) := by decide +kernel
theorem dX8_ends_119 : decode cX8_ends 119 = .ok (.iastore, 1) := by decide +kernel
theorem dX8_ends_120 : decode cX8_ends 120 = .ok (.aload_n 0, 1) := by decide +kernel
theorem dX8_ends_121 : decode cX8_ends 121 = .ok (.getfield 94, 3) := by decide +kernel
theorem dX8_ends_124 : decode cX8_ends 124 = .ok (.iload_n 2, 1) := by decide +kernel
theorem dX8_ends_125 : decode cX8_ends 125 = .ok (.aload_n 0, 1) := by decide +kernel
theorem dX8_ends_126 : decode cX8_ends 126 = .ok (.getfield 59, 3) := by decide +kernel
theorem dX8_ends_129 : decode cX8_ends 129 = .ok (.iload_n 2, 1) := by decide +kernel
theorem dX8_ends_130 : decode cX8_ends 130 = .ok (.laload, 1) := by decide +kernel
theorem dX8_ends_131 : decode cX8_ends 131 = .ok (.lastore, 1) := by decide +kernel
theorem dX8_ends_132 : decode cX8_ends 132 = .ok (.iinc 2 1, 3) := by decide +kernel
theorem dX8_ends_135 : decode cX8_ends 135 = .ok (.goto (-35), 3) := by decide +kernel
theorem dX8_ends_138 : decode cX8_ends 138 = .ok (.iconst 1, 1) := by decide +kernel
theorem dX8_ends_139 : decode cX8_ends 139 = .ok (.ireturn, 1) := by decide +kernel
theorem dX8_decision_0 : decode cX8_decision 0 = .ok (.aload_n 0, 1) := by decide +kernel
theorem dX8_decision_1 : decode cX8_decision 1 = .ok (.iconst 0, 1) := by decide +kernel
theorem dX8_decision_2 : decode cX8_decision 2 = .ok (.putfield 97, 3) := by decide +kernel
theorem dX8_decision_5 : decode cX8_decision 5 = .ok (.iload_n 1, 1) := by decide +kernel
theorem dX8_decision_6 : decode cX8_decision 6 = .ok (.ifCond .lt 20, 3) := by decide +kernel
theorem dX8_decision_9 : decode cX8_decision 9 = .ok (.iload_n 1, 1) := by decide +kernel
theorem dX8_decision_10 : decode cX8_decision 10 = .ok (.aload_n 0, 1) := by decide +kernel
theorem dX8_decision_11 : decode cX8_decision 11 = .ok (.getfield 240, 3) := by decide +kernel
theorem dX8_decision_14 : decode cX8_decision 14 = .ok (.if_icmp .ge 12, 3) := by decide +kernel
theorem dX8_decision_17 : decode cX8_decision 17 = .ok (.aload_n 0, 1) := by decide +kernel
theorem dX8_decision_18 : decode cX8_decision 18 = .ok (.getfield 88, 3) := by decide +kernel
theorem dX8_decision_21 : decode cX8_decision 21 = .ok (.iload_n 1, 1) := by decide +kernel
theorem dX8_decision_22 : decode cX8_decision 22 = .ok (.iaload, 1) := by decide +kernel
theorem dX8_decision_23 : decode cX8_decision 23 = .ok (.goto 4, 3) := by decide +kernel
theorem dX8_decision_26 : decode cX8_decision 26 = .ok (.iconst (-1), 1) := by decide +kernel
theorem dX8_decision_27 : decode cX8_decision 27 = .ok (.ireturn, 1) := by decide +kernel
theorem dX8_token__0 : decode cX8_token_ 0 = .ok (.aload_n 0, 1) := by decide +kernel
theorem dX8_token__1 : decode cX8_token_ 1 = .ok (.iload_n 1, 1) := by decide +kernel
theorem dX8_token__2 : decode cX8_token_ 2 = .ok (.ifCond .lt 20, 3) := by decide +kernel
theorem dX8_token__5 : decode cX8_token_ 5 = .ok (.iload_n 1, 1) := by decide +kernel
theorem dX8_token__6 : decode cX8_token_ 6 = .ok (.aload_n 0, 1) := by decide +kernel
theorem dX8_token__7 : decode cX8_token_ 7 = .ok (.getfield 243, 3) := by decide +kernel
theorem dX8_token__10 : decode cX8_token_ 10 = .ok (.if_icmp .ge 12, 3) := by decide +kernel
theorem dX8_token__13 : decode cX8_token_ 13 = .ok (.iload_n 2, 1) := by decide +kernel
theorem dX8_token__14 : decode cX8_token_ 14 = .ok (.ifCond .lt 8, 3) := by decide +kernel
theorem dX8_token__17 : decode cX8_token_ 17 = .ok (.iload_n 2, 1) := by decide +kernel
theorem dX8_token__18 : decode cX8_token_ 18 = .ok (.iconst 1, 1) := by decide +kernel
theorem dX8_token__19 : decode cX8_token_ 19 = .ok (.if_icmp .le 7, 3) := by decide +kernel
theorem dX8_token__22 : decode cX8_token_ 22 = .ok (.iconst 1, 1) := by decide +kernel
theorem dX8_token__23 : decode cX8_token_ 23 = .ok (.goto 4, 3) := by decide +kernel
theorem dX8_token__26 : decode cX8_token_ 26 = .ok (.iconst 0, 1) := by decide +kernel
theorem dX8_token__27 : decode cX8_token_ 27 = .ok (.putfield 97, 3) := by decide +kernel
theorem dX8_token__30 : decode cX8_token_ 30 = .ok (.aload_n 0, 1) := by decide +kernel
theorem dX8_token__31 : decode cX8_token_ 31 = .ok (.getfield 97, 3) := by decide +kernel
theorem dX8_token__34 : decode cX8_token_ 34 = .ok (.ifCond .le 7, 3) := by decide +kernel
theorem dX8_token__37 : decode cX8_token_ 37 = .ok (.lconst 0, 1) := by decide +kernel
theorem dX8_token__38 : decode cX8_token_ 38 = .ok (.goto 23, 3) := by decide +kernel
theorem dX8_token__41 : decode cX8_token_ 41 = .ok (.iload_n 2, 1) := by decide +kernel
theorem dX8_token__42 : decode cX8_token_ 42 = .ok (.ifCond .ne 13, 3) := by decide +kernel
theorem dX8_token__45 : decode cX8_token_ 45 = .ok (.aload_n 0, 1) := by decide +kernel
theorem dX8_token__46 : decode cX8_token_ 46 = .ok (.getfield 91, 3) := by decide +kernel
theorem dX8_token__49 : decode cX8_token_ 49 = .ok (.iload_n 1, 1) := by decide +kernel
theorem dX8_token__50 : decode cX8_token_ 50 = .ok (.iaload, 1) := by decide +kernel
theorem dX8_token__51 : decode cX8_token_ 51 = .ok (.i2l, 1) := by decide +kernel
theorem dX8_token__52 : decode cX8_token_ 52 = .ok (.goto 9, 3) := by decide +kernel
theorem dX8_token__55 : decode cX8_token_ 55 = .ok (.aload_n 0, 1) := by decide +kernel
theorem dX8_token__56 : decode cX8_token_ 56 = .ok (.getfield 94, 3) := by decide +kernel
theorem dX8_token__59 : decode cX8_token_ 59 = .ok (.iload_n 1, 1) := by decide +kernel
theorem dX8_token__60 : decode cX8_token_ 60 = .ok (.laload, 1) := by decide +kernel
theorem dX8_token__61 : decode cX8_token_ 61 = .ok (.lreturn, 1) := by decide +kernel
theorem dX8_count_0 : decode cX8_count 0 = .ok (.aload_n 0, 1) := by decide +kernel
theorem dX8_count_1 : decode cX8_count 1 = .ok (.iconst 0, 1) := by decide +kernel
theorem dX8_count_2 : decode cX8_count 2 = .ok (.putfield 97, 3) := by decide +kernel
theorem dX8_count_5 : decode cX8_count 5 = .ok (.iload_n 1, 1) := by decide +kernel
theorem dX8_count_6 : decode cX8_count 6 = .ok (.tableswitch 95 0 8 #[50, 55, 60, 65, 70, 75, 80, 85, 90], 50) := by decide +kernel
theorem dX8_count_56 : decode cX8_count 56 = .ok (.aload_n 0, 1) := by decide +kernel
theorem dX8_count_57 : decode cX8_count 57 = .ok (.getfield 101, 3) := by decide +kernel
theorem dX8_count_60 : decode cX8_count 60 = .ok (.ireturn, 1) := by decide +kernel
theorem dX8_count_61 : decode cX8_count 61 = .ok (.aload_n 0, 1) := by decide +kernel
theorem dX8_count_62 : decode cX8_count 62 = .ok (.getfield 222, 3) := by decide +kernel
theorem dX8_count_65 : decode cX8_count 65 = .ok (.ireturn, 1) := by decide +kernel
theorem dX8_count_66 : decode cX8_count 66 = .ok (.aload_n 0, 1) := by decide +kernel
theorem dX8_count_67 : decode cX8_count 67 = .ok (.getfield 225, 3) := by decide +kernel
theorem dX8_count_70 : decode cX8_count 70 = .ok (.ireturn, 1) := by decide +kernel
theorem dX8_count_71 : decode cX8_count 71 = .ok (.aload_n 0, 1) := by decide +kernel
theorem dX8_count_72 : decode cX8_count 72 = .ok (.getfield 228, 3) := by decide +kernel
theorem dX8_count_75 : decode cX8_count 75 = .ok (.ireturn, 1) := by decide +kernel
theorem dX8_count_76 : decode cX8_count 76 = .ok (.aload_n 0, 1) := by decide +kernel
theorem dX8_count_77 : decode cX8_count 77 = .ok (.getfield 231, 3) := by decide +kernel
theorem dX8_count_80 : decode cX8_count 80 = .ok (.ireturn, 1) := by decide +kernel
theorem dX8_count_81 : decode cX8_count 81 = .ok (.aload_n 0, 1) := by decide +kernel
theorem dX8_count_82 : decode cX8_count 82 = .ok (.getfield 234, 3) := by decide +kernel
theorem dX8_count_85 : decode cX8_count 85 = .ok (.ireturn, 1) := by decide +kernel
theorem dX8_count_86 : decode cX8_count 86 = .ok (.aload_n 0, 1) := by decide +kernel
theorem dX8_count_87 : decode cX8_count 87 = .ok (.getfield 237, 3) := by decide +kernel
theorem dX8_count_90 : decode cX8_count 90 = .ok (.ireturn, 1) := by decide +kernel
theorem dX8_count_91 : decode cX8_count 91 = .ok (.aload_n 0, 1) := by decide +kernel
theorem dX8_count_92 : decode cX8_count 92 = .ok (.getfield 240, 3) := by decide +kernel
theorem dX8_count_95 : decode cX8_count 95 = .ok (.ireturn, 1) := by decide +kernel
theorem dX8_count_96 : decode cX8_count 96 = .ok (.aload_n 0, 1) := by decide +kernel
theorem dX8_count_97 : decode cX8_count 97 = .ok (.getfield 243, 3) := by decide +kernel
theorem dX8_count_100 : decode cX8_count 100 = .ok (.ireturn, 1) := by decide +kernel
theorem dX8_count_101 : decode cX8_count 101 = .ok (.iconst (-1), 1) := by decide +kernel
theorem dX8_count_102 : decode cX8_count 102 = .ok (.ireturn, 1) := by decide +kernel
theorem dJ9_max_7cf53_0 : decode cJ9_max_7cf53 0 = .ok (.iload_n 0, 1) := by decide +kernel
theorem dJ9_max_7cf53_1 : decode cJ9_max_7cf53 1 = .ok (.iload_n 1, 1) := by decide +kernel
theorem dJ9_max_7cf53_2 : decode cJ9_max_7cf53 2 = .ok (.if_icmp .lt 7, 3) := by decide +kernel
theorem dJ9_max_7cf53_5 : decode cJ9_max_7cf53 5 = .ok (.iload_n 0, 1) := by decide +kernel
theorem dJ9_max_7cf53_6 : decode cJ9_max_7cf53 6 = .ok (.goto 4, 3) := by decide +kernel
theorem dJ9_max_7cf53_9 : decode cJ9_max_7cf53 9 = .ok (.iload_n 1, 1) := by decide +kernel
theorem dJ9_max_7cf53_10 : decode cJ9_max_7cf53 10 = .ok (.ireturn, 1) := by decide +kernel
theorem dJ9_min_7cf53_0 : decode cJ9_min_7cf53 0 = .ok (.iload_n 0, 1) := by decide +kernel
theorem dJ9_min_7cf53_1 : decode cJ9_min_7cf53 1 = .ok (.iload_n 1, 1) := by decide +kernel
theorem dJ9_min_7cf53_2 : decode cJ9_min_7cf53 2 = .ok (.if_icmp .gt 7, 3) := by decide +kernel
theorem dJ9_min_7cf53_5 : decode cJ9_min_7cf53 5 = .ok (.iload_n 0, 1) := by decide +kernel
theorem dJ9_min_7cf53_6 : decode cJ9_min_7cf53 6 = .ok (.goto 4, 3) := by decide +kernel
theorem dJ9_min_7cf53_9 : decode cJ9_min_7cf53 9 = .ok (.iload_n 1, 1) := by decide +kernel
theorem dJ9_min_7cf53_10 : decode cJ9_min_7cf53 10 = .ok (.ireturn, 1) := by decide +kernel
theorem dJ9_min_f86c9_0 : decode cJ9_min_f86c9 0 = .ok (.lload_n 0, 1) := by decide +kernel
theorem dJ9_min_f86c9_1 : decode cJ9_min_f86c9 1 = .ok (.lload_n 2, 1) := by decide +kernel
theorem dJ9_min_f86c9_2 : decode cJ9_min_f86c9 2 = .ok (.lcmp, 1) := by decide +kernel
theorem dJ9_min_f86c9_3 : decode cJ9_min_f86c9 3 = .ok (.ifCond .gt 7, 3) := by decide +kernel
theorem dJ9_min_f86c9_6 : decode cJ9_min_f86c9 6 = .ok (.lload_n 0, 1) := by decide +kernel
theorem dJ9_min_f86c9_7 : decode cJ9_min_f86c9 7 = .ok (.goto 4, 3) := by decide +kernel
theorem dJ9_min_f86c9_10 : decode cJ9_min_f86c9 10 = .ok (.lload_n 2, 1) := by decide +kernel
theorem dJ9_min_f86c9_11 : decode cJ9_min_f86c9 11 = .ok (.lreturn, 1) := by decide +kernel
theorem dJ7_fill_53178_0 : decode cJ7_fill_53178 0 = .ok (.iconst 0, 1) := by decide +kernel
theorem dJ7_fill_53178_1 : decode cJ7_fill_53178 1 = .ok (.istore_n 2, 1) := by decide +kernel
theorem dJ7_fill_53178_2 : decode cJ7_fill_53178 2 = .ok (.aload_n 0, 1) := by decide +kernel
theorem dJ7_fill_53178_3 : decode cJ7_fill_53178 3 = .ok (.arraylength, 1) := by decide +kernel
theorem dJ7_fill_53178_4 : decode cJ7_fill_53178 4 = .ok (.istore_n 3, 1) := by decide +kernel
theorem dJ7_fill_53178_5 : decode cJ7_fill_53178 5 = .ok (.iload_n 2, 1) := by decide +kernel
theorem dJ7_fill_53178_6 : decode cJ7_fill_53178 6 = .ok (.iload_n 3, 1) := by decide +kernel
theorem dJ7_fill_53178_7 : decode cJ7_fill_53178 7 = .ok (.if_icmp .ge 13, 3) := by decide +kernel
theorem dJ7_fill_53178_10 : decode cJ7_fill_53178 10 = .ok (.aload_n 0, 1) := by decide +kernel
theorem dJ7_fill_53178_11 : decode cJ7_fill_53178 11 = .ok (.iload_n 2, 1) := by decide +kernel
theorem dJ7_fill_53178_12 : decode cJ7_fill_53178 12 = .ok (.iload_n 1, 1) := by decide +kernel
theorem dJ7_fill_53178_13 : decode cJ7_fill_53178 13 = .ok (.iastore, 1) := by decide +kernel
theorem dJ7_fill_53178_14 : decode cJ7_fill_53178 14 = .ok (.iinc 2 1, 3) := by decide +kernel
theorem dJ7_fill_53178_17 : decode cJ7_fill_53178 17 = .ok (.goto (-12), 3) := by decide +kernel
theorem dJ7_fill_53178_20 : decode cJ7_fill_53178 20 = .ok (.return_, 1) := by decide +kernel
theorem dJ7_copyOf_59c91_0 : decode cJ7_copyOf_59c91 0 = .ok (.iload_n 1, 1) := by decide +kernel
theorem dJ7_copyOf_59c91_1 : decode cJ7_copyOf_59c91 1 = .ok (.aload_n 0, 1) := by decide +kernel
theorem dJ7_copyOf_59c91_2 : decode cJ7_copyOf_59c91 2 = .ok (.arraylength, 1) := by decide +kernel
theorem dJ7_copyOf_59c91_3 : decode cJ7_copyOf_59c91 3 = .ok (.if_icmp .ne 11, 3) := by decide +kernel
theorem dJ7_copyOf_59c91_6 : decode cJ7_copyOf_59c91 6 = .ok (.aload_n 0, 1) := by decide +kernel
theorem dJ7_copyOf_59c91_7 : decode cJ7_copyOf_59c91 7 = .ok (.invokevirtual 316, 3) := by decide +kernel
theorem dJ7_copyOf_59c91_10 : decode cJ7_copyOf_59c91 10 = .ok (.checkcast 317, 3) := by decide +kernel
theorem dJ7_copyOf_59c91_13 : decode cJ7_copyOf_59c91 13 = .ok (.areturn, 1) := by decide +kernel
theorem dJ7_copyOf_59c91_14 : decode cJ7_copyOf_59c91 14 = .ok (.iload_n 1, 1) := by decide +kernel
theorem dJ7_copyOf_59c91_15 : decode cJ7_copyOf_59c91 15 = .ok (.newarray .int, 2) := by decide +kernel
theorem dJ7_copyOf_59c91_17 : decode cJ7_copyOf_59c91 17 = .ok (.astore_n 2, 1) := by decide +kernel
theorem dJ7_copyOf_59c91_18 : decode cJ7_copyOf_59c91 18 = .ok (.aload_n 0, 1) := by decide +kernel
theorem dJ7_copyOf_59c91_19 : decode cJ7_copyOf_59c91 19 = .ok (.iconst 0, 1) := by decide +kernel
theorem dJ7_copyOf_59c91_20 : decode cJ7_copyOf_59c91 20 = .ok (.aload_n 2, 1) := by decide +kernel
theorem dJ7_copyOf_59c91_21 : decode cJ7_copyOf_59c91 21 = .ok (.iconst 0, 1) := by decide +kernel
theorem dJ7_copyOf_59c91_22 : decode cJ7_copyOf_59c91 22 = .ok (.aload_n 0, 1) := by decide +kernel
theorem dJ7_copyOf_59c91_23 : decode cJ7_copyOf_59c91 23 = .ok (.arraylength, 1) := by decide +kernel
theorem dJ7_copyOf_59c91_24 : decode cJ7_copyOf_59c91 24 = .ok (.iload_n 1, 1) := by decide +kernel
theorem dJ7_copyOf_59c91_25 : decode cJ7_copyOf_59c91 25 = .ok (.invokestatic 304, 3) := by decide +kernel
theorem dJ7_copyOf_59c91_28 : decode cJ7_copyOf_59c91 28 = .ok (.invokestatic 150, 3) := by decide +kernel
theorem dJ7_copyOf_59c91_31 : decode cJ7_copyOf_59c91 31 = .ok (.aload_n 2, 1) := by decide +kernel
theorem dJ7_copyOf_59c91_32 : decode cJ7_copyOf_59c91 32 = .ok (.areturn, 1) := by decide +kernel
theorem dJ7_copyOf_c38d5_0 : decode cJ7_copyOf_c38d5 0 = .ok (.iload_n 1, 1) := by decide +kernel
theorem dJ7_copyOf_c38d5_1 : decode cJ7_copyOf_c38d5 1 = .ok (.aload_n 0, 1) := by decide +kernel
theorem dJ7_copyOf_c38d5_2 : decode cJ7_copyOf_c38d5 2 = .ok (.arraylength, 1) := by decide +kernel
theorem dJ7_copyOf_c38d5_3 : decode cJ7_copyOf_c38d5 3 = .ok (.if_icmp .ne 11, 3) := by decide +kernel
theorem dJ7_copyOf_c38d5_6 : decode cJ7_copyOf_c38d5 6 = .ok (.aload_n 0, 1) := by decide +kernel
theorem dJ7_copyOf_c38d5_7 : decode cJ7_copyOf_c38d5 7 = .ok (.invokevirtual 319, 3) := by decide +kernel
theorem dJ7_copyOf_c38d5_10 : decode cJ7_copyOf_c38d5 10 = .ok (.checkcast 320, 3) := by decide +kernel
theorem dJ7_copyOf_c38d5_13 : decode cJ7_copyOf_c38d5 13 = .ok (.areturn, 1) := by decide +kernel
theorem dJ7_copyOf_c38d5_14 : decode cJ7_copyOf_c38d5 14 = .ok (.iload_n 1, 1) := by decide +kernel
theorem dJ7_copyOf_c38d5_15 : decode cJ7_copyOf_c38d5 15 = .ok (.newarray .long, 2) := by decide +kernel
theorem dJ7_copyOf_c38d5_17 : decode cJ7_copyOf_c38d5 17 = .ok (.astore_n 2, 1) := by decide +kernel
theorem dJ7_copyOf_c38d5_18 : decode cJ7_copyOf_c38d5 18 = .ok (.aload_n 0, 1) := by decide +kernel
theorem dJ7_copyOf_c38d5_19 : decode cJ7_copyOf_c38d5 19 = .ok (.iconst 0, 1) := by decide +kernel
theorem dJ7_copyOf_c38d5_20 : decode cJ7_copyOf_c38d5 20 = .ok (.aload_n 2, 1) := by decide +kernel
theorem dJ7_copyOf_c38d5_21 : decode cJ7_copyOf_c38d5 21 = .ok (.iconst 0, 1) := by decide +kernel
theorem dJ7_copyOf_c38d5_22 : decode cJ7_copyOf_c38d5 22 = .ok (.aload_n 0, 1) := by decide +kernel
theorem dJ7_copyOf_c38d5_23 : decode cJ7_copyOf_c38d5 23 = .ok (.arraylength, 1) := by decide +kernel
theorem dJ7_copyOf_c38d5_24 : decode cJ7_copyOf_c38d5 24 = .ok (.iload_n 1, 1) := by decide +kernel
theorem dJ7_copyOf_c38d5_25 : decode cJ7_copyOf_c38d5 25 = .ok (.invokestatic 304, 3) := by decide +kernel
theorem dJ7_copyOf_c38d5_28 : decode cJ7_copyOf_c38d5 28 = .ok (.invokestatic 150, 3) := by decide +kernel
theorem dJ7_copyOf_c38d5_31 : decode cJ7_copyOf_c38d5 31 = .ok (.aload_n 2, 1) := by decide +kernel
theorem dJ7_copyOf_c38d5_32 : decode cJ7_copyOf_c38d5 32 = .ok (.areturn, 1) := by decide +kernel
theorem dL_choice_0 : decode cL_choice 0 = .ok (.aload_n 3, 1) := by decide +kernel
theorem dL_choice_1 : decode cL_choice 1 = .ok (.iconst 0, 1) := by decide +kernel
theorem dL_choice_2 : decode cL_choice 2 = .ok (.aload_n 0, 1) := by decide +kernel
theorem dL_choice_3 : decode cL_choice 3 = .ok (.iload_n 1, 1) := by decide +kernel
theorem dL_choice_4 : decode cL_choice 4 = .ok (.iload_n 2, 1) := by decide +kernel
theorem dL_choice_5 : decode cL_choice 5 = .ok (.invokevirtual 7, 3) := by decide +kernel
theorem dL_choice_8 : decode cL_choice 8 = .ok (.i2l, 1) := by decide +kernel
theorem dL_choice_9 : decode cL_choice 9 = .ok (.lastore, 1) := by decide +kernel
theorem dL_choice_10 : decode cL_choice 10 = .ok (.goto 7, 3) := by decide +kernel
theorem dL_choice_13 : decode cL_choice 13 = .ok (.astore 4, 2) := by decide +kernel
theorem dL_choice_15 : decode cL_choice 15 = .ok (.iconst 1, 1) := by decide +kernel
theorem dL_choice_16 : decode cL_choice 16 = .ok (.ireturn, 1) := by decide +kernel
theorem dL_choice_17 : decode cL_choice 17 = .ok (.iconst 0, 1) := by decide +kernel
theorem dL_choice_18 : decode cL_choice 18 = .ok (.ireturn, 1) := by decide +kernel
theorem dL_pair_0 : decode cL_pair 0 = .ok (.aload_n 3, 1) := by decide +kernel
theorem dL_pair_1 : decode cL_pair 1 = .ok (.iconst 0, 1) := by decide +kernel
theorem dL_pair_2 : decode cL_pair 2 = .ok (.aload_n 0, 1) := by decide +kernel
theorem dL_pair_3 : decode cL_pair 3 = .ok (.iload_n 1, 1) := by decide +kernel
theorem dL_pair_4 : decode cL_pair 4 = .ok (.iload_n 2, 1) := by decide +kernel
theorem dL_pair_5 : decode cL_pair 5 = .ok (.invokevirtual 15, 3) := by decide +kernel
theorem dL_pair_8 : decode cL_pair 8 = .ok (.i2l, 1) := by decide +kernel
theorem dL_pair_9 : decode cL_pair 9 = .ok (.lastore, 1) := by decide +kernel
theorem dL_pair_10 : decode cL_pair 10 = .ok (.goto 7, 3) := by decide +kernel
theorem dL_pair_13 : decode cL_pair 13 = .ok (.astore 4, 2) := by decide +kernel
theorem dL_pair_15 : decode cL_pair 15 = .ok (.iconst 1, 1) := by decide +kernel
theorem dL_pair_16 : decode cL_pair 16 = .ok (.ireturn, 1) := by decide +kernel
theorem dL_pair_17 : decode cL_pair 17 = .ok (.iconst 0, 1) := by decide +kernel
theorem dL_pair_18 : decode cL_pair 18 = .ok (.ireturn, 1) := by decide +kernel
theorem dL_part_0 : decode cL_part 0 = .ok (.aload_n 3, 1) := by decide +kernel
theorem dL_part_1 : decode cL_part 1 = .ok (.iconst 0, 1) := by decide +kernel
theorem dL_part_2 : decode cL_part 2 = .ok (.aload_n 0, 1) := by decide +kernel
theorem dL_part_3 : decode cL_part 3 = .ok (.iload_n 1, 1) := by decide +kernel
theorem dL_part_4 : decode cL_part 4 = .ok (.iload_n 2, 1) := by decide +kernel
theorem dL_part_5 : decode cL_part 5 = .ok (.invokevirtual 18, 3) := by decide +kernel
theorem dL_part_8 : decode cL_part 8 = .ok (.i2l, 1) := by decide +kernel
theorem dL_part_9 : decode cL_part 9 = .ok (.lastore, 1) := by decide +kernel
theorem dL_part_10 : decode cL_part 10 = .ok (.goto 7, 3) := by decide +kernel
theorem dL_part_13 : decode cL_part 13 = .ok (.astore 4, 2) := by decide +kernel
theorem dL_part_15 : decode cL_part 15 = .ok (.iconst 1, 1) := by decide +kernel
theorem dL_part_16 : decode cL_part 16 = .ok (.ireturn, 1) := by decide +kernel
theorem dL_part_17 : decode cL_part 17 = .ok (.iconst 0, 1) := by decide +kernel
theorem dL_part_18 : decode cL_part 18 = .ok (.ireturn, 1) := by decide +kernel
theorem dL_op_0 : decode cL_op 0 = .ok (.aload 4, 2) := by decide +kernel
theorem dL_op_2 : decode cL_op 2 = .ok (.iconst 0, 1) := by decide +kernel
theorem dL_op_3 : decode cL_op 3 = .ok (.aload_n 0, 1) := by decide +kernel
theorem dL_op_4 : decode cL_op 4 = .ok (.iload_n 1, 1) := by decide +kernel
theorem dL_op_5 : decode cL_op 5 = .ok (.iload_n 2, 1) := by decide +kernel
theorem dL_op_6 : decode cL_op 6 = .ok (.iload_n 3, 1) := by decide +kernel
theorem dL_op_7 : decode cL_op 7 = .ok (.invokevirtual 22, 3) := by decide +kernel
theorem dL_op_10 : decode cL_op 10 = .ok (.i2l, 1) := by decide +kernel
theorem dL_op_11 : decode cL_op 11 = .ok (.lastore, 1) := by decide +kernel
theorem dL_op_12 : decode cL_op 12 = .ok (.goto 7, 3) := by decide +kernel
theorem dL_op_15 : decode cL_op 15 = .ok (.astore 5, 2) := by decide +kernel
theorem dL_op_17 : decode cL_op 17 = .ok (.iconst 1, 1) := by decide +kernel
theorem dL_op_18 : decode cL_op 18 = .ok (.ireturn, 1) := by decide +kernel
theorem dL_op_19 : decode cL_op 19 = .ok (.iconst 0, 1) := by decide +kernel
theorem dL_op_20 : decode cL_op 20 = .ok (.ireturn, 1) := by decide +kernel
theorem dL_when_0 : decode cL_when 0 = .ok (.aload 4, 2) := by decide +kernel
theorem dL_when_2 : decode cL_when 2 = .ok (.iconst 0, 1) := by decide +kernel
theorem dL_when_3 : decode cL_when 3 = .ok (.aload_n 0, 1) := by decide +kernel
theorem dL_when_4 : decode cL_when 4 = .ok (.iload_n 1, 1) := by decide +kernel
theorem dL_when_5 : decode cL_when 5 = .ok (.iload_n 2, 1) := by decide +kernel
theorem dL_when_6 : decode cL_when 6 = .ok (.iload_n 3, 1) := by decide +kernel
theorem dL_when_7 : decode cL_when 7 = .ok (.invokevirtual 26, 3) := by decide +kernel
theorem dL_when_10 : decode cL_when 10 = .ok (.i2l, 1) := by decide +kernel
theorem dL_when_11 : decode cL_when 11 = .ok (.lastore, 1) := by decide +kernel
theorem dL_when_12 : decode cL_when 12 = .ok (.goto 7, 3) := by decide +kernel
theorem dL_when_15 : decode cL_when 15 = .ok (.astore 5, 2) := by decide +kernel
theorem dL_when_17 : decode cL_when 17 = .ok (.iconst 1, 1) := by decide +kernel
theorem dL_when_18 : decode cL_when 18 = .ok (.ireturn, 1) := by decide +kernel
theorem dL_when_19 : decode cL_when 19 = .ok (.iconst 0, 1) := by decide +kernel
theorem dL_when_20 : decode cL_when 20 = .ok (.ireturn, 1) := by decide +kernel
theorem dL_set_0 : decode cL_set 0 = .ok (.aload_n 3, 1) := by decide +kernel
theorem dL_set_1 : decode cL_set 1 = .ok (.iconst 0, 1) := by decide +kernel
theorem dL_set_2 : decode cL_set 2 = .ok (.aload_n 0, 1) := by decide +kernel
theorem dL_set_3 : decode cL_set 3 = .ok (.iload_n 1, 1) := by decide +kernel
theorem dL_set_4 : decode cL_set 4 = .ok (.iload_n 2, 1) := by decide +kernel
theorem dL_set_5 : decode cL_set 5 = .ok (.invokevirtual 29, 3) := by decide +kernel
theorem dL_set_8 : decode cL_set 8 = .ok (.i2l, 1) := by decide +kernel
theorem dL_set_9 : decode cL_set 9 = .ok (.lastore, 1) := by decide +kernel
theorem dL_set_10 : decode cL_set 10 = .ok (.goto 7, 3) := by decide +kernel
theorem dL_set_13 : decode cL_set 13 = .ok (.astore 4, 2) := by decide +kernel
theorem dL_set_15 : decode cL_set 15 = .ok (.iconst 1, 1) := by decide +kernel
theorem dL_set_16 : decode cL_set 16 = .ok (.ireturn, 1) := by decide +kernel
theorem dL_set_17 : decode cL_set 17 = .ok (.iconst 0, 1) := by decide +kernel
theorem dL_set_18 : decode cL_set 18 = .ok (.ireturn, 1) := by decide +kernel
theorem dL_fold_0 : decode cL_fold 0 = .ok (.aload_n 3, 1) := by decide +kernel
theorem dL_fold_1 : decode cL_fold 1 = .ok (.iconst 0, 1) := by decide +kernel
theorem dL_fold_2 : decode cL_fold 2 = .ok (.aload_n 0, 1) := by decide +kernel
theorem dL_fold_3 : decode cL_fold 3 = .ok (.iload_n 1, 1) := by decide +kernel
theorem dL_fold_4 : decode cL_fold 4 = .ok (.iload_n 2, 1) := by decide +kernel
theorem dL_fold_5 : decode cL_fold 5 = .ok (.invokevirtual 32, 3) := by decide +kernel
theorem dL_fold_8 : decode cL_fold 8 = .ok (.i2l, 1) := by decide +kernel
theorem dL_fold_9 : decode cL_fold 9 = .ok (.lastore, 1) := by decide +kernel
theorem dL_fold_10 : decode cL_fold 10 = .ok (.goto 7, 3) := by decide +kernel
theorem dL_fold_13 : decode cL_fold 13 = .ok (.astore 4, 2) := by decide +kernel
theorem dL_fold_15 : decode cL_fold 15 = .ok (.iconst 1, 1) := by decide +kernel
theorem dL_fold_16 : decode cL_fold 16 = .ok (.ireturn, 1) := by decide +kernel
theorem dL_fold_17 : decode cL_fold 17 = .ok (.iconst 0, 1) := by decide +kernel
theorem dL_fold_18 : decode cL_fold 18 = .ok (.ireturn, 1) := by decide +kernel
theorem dL_node_0 : decode cL_node 0 = .ok (.aload_n 3, 1) := by decide +kernel
theorem dL_node_1 : decode cL_node 1 = .ok (.iconst 0, 1) := by decide +kernel
theorem dL_node_2 : decode cL_node 2 = .ok (.aload_n 0, 1) := by decide +kernel
theorem dL_node_3 : decode cL_node 3 = .ok (.iload_n 1, 1) := by decide +kernel
theorem dL_node_4 : decode cL_node 4 = .ok (.iload_n 2, 1) := by decide +kernel
theorem dL_node_5 : decode cL_node 5 = .ok (.invokevirtual 35, 3) := by decide +kernel
theorem dL_node_8 : decode cL_node 8 = .ok (.i2l, 1) := by decide +kernel
theorem dL_node_9 : decode cL_node 9 = .ok (.lastore, 1) := by decide +kernel
theorem dL_node_10 : decode cL_node 10 = .ok (.goto 7, 3) := by decide +kernel
theorem dL_node_13 : decode cL_node 13 = .ok (.astore 4, 2) := by decide +kernel
theorem dL_node_15 : decode cL_node 15 = .ok (.iconst 1, 1) := by decide +kernel
theorem dL_node_16 : decode cL_node 16 = .ok (.ireturn, 1) := by decide +kernel
theorem dL_node_17 : decode cL_node 17 = .ok (.iconst 0, 1) := by decide +kernel
theorem dL_node_18 : decode cL_node 18 = .ok (.ireturn, 1) := by decide +kernel
theorem dL_ask_0 : decode cL_ask 0 = .ok (.aload_n 0, 1) := by decide +kernel
theorem dL_ask_1 : decode cL_ask 1 = .ok (.iload_n 1, 1) := by decide +kernel
theorem dL_ask_2 : decode cL_ask 2 = .ok (.iload_n 2, 1) := by decide +kernel
theorem dL_ask_3 : decode cL_ask 3 = .ok (.iload_n 3, 1) := by decide +kernel
theorem dL_ask_4 : decode cL_ask 4 = .ok (.invokevirtual 40, 3) := by decide +kernel
theorem dL_ask_7 : decode cL_ask 7 = .ok (.goto 7, 3) := by decide +kernel
theorem dL_ask_10 : decode cL_ask 10 = .ok (.astore 4, 2) := by decide +kernel
theorem dL_ask_12 : decode cL_ask 12 = .ok (.iconst 1, 1) := by decide +kernel
theorem dL_ask_13 : decode cL_ask 13 = .ok (.ireturn, 1) := by decide +kernel
theorem dL_ask_14 : decode cL_ask 14 = .ok (.iconst 0, 1) := by decide +kernel
theorem dL_ask_15 : decode cL_ask 15 = .ok (.ireturn, 1) := by decide +kernel
theorem dL_next_0 : decode cL_next 0 = .ok (.aload_n 1, 1) := by decide +kernel
theorem dL_next_1 : decode cL_next 1 = .ok (.iconst 0, 1) := by decide +kernel
theorem dL_next_2 : decode cL_next 2 = .ok (.aload_n 0, 1) := by decide +kernel
theorem dL_next_3 : decode cL_next 3 = .ok (.invokevirtual 44, 3) := by decide +kernel
theorem dL_next_6 : decode cL_next 6 = .ok (.i2l, 1) := by decide +kernel
theorem dL_next_7 : decode cL_next 7 = .ok (.lastore, 1) := by decide +kernel
theorem dL_next_8 : decode cL_next 8 = .ok (.goto 6, 3) := by decide +kernel
theorem dL_next_11 : decode cL_next 11 = .ok (.astore_n 2, 1) := by decide +kernel
theorem dL_next_12 : decode cL_next 12 = .ok (.iconst 1, 1) := by decide +kernel
theorem dL_next_13 : decode cL_next 13 = .ok (.ireturn, 1) := by decide +kernel
theorem dL_next_14 : decode cL_next 14 = .ok (.iconst 0, 1) := by decide +kernel
theorem dL_next_15 : decode cL_next 15 = .ok (.ireturn, 1) := by decide +kernel
theorem dL_token_0 : decode cL_token 0 = .ok (.aload_n 3, 1) := by decide +kernel
theorem dL_token_1 : decode cL_token 1 = .ok (.iconst 0, 1) := by decide +kernel
theorem dL_token_2 : decode cL_token 2 = .ok (.aload_n 0, 1) := by decide +kernel
theorem dL_token_3 : decode cL_token 3 = .ok (.iload_n 1, 1) := by decide +kernel
theorem dL_token_4 : decode cL_token 4 = .ok (.iload_n 2, 1) := by decide +kernel
theorem dL_token_5 : decode cL_token 5 = .ok (.invokevirtual 50, 3) := by decide +kernel
theorem dL_token_8 : decode cL_token 8 = .ok (.lastore, 1) := by decide +kernel
theorem dL_token_9 : decode cL_token 9 = .ok (.goto 7, 3) := by decide +kernel
theorem dL_token_12 : decode cL_token 12 = .ok (.astore 4, 2) := by decide +kernel
theorem dL_token_14 : decode cL_token 14 = .ok (.iconst 1, 1) := by decide +kernel
theorem dL_token_15 : decode cL_token 15 = .ok (.ireturn, 1) := by decide +kernel
theorem dL_token_16 : decode cL_token 16 = .ok (.iconst 0, 1) := by decide +kernel
theorem dL_token_17 : decode cL_token 17 = .ok (.ireturn, 1) := by decide +kernel
theorem dL_law_0 : decode cL_law 0 = .ok (.new 8, 3) := by decide +kernel
theorem dL_law_3 : decode cL_law 3 = .ok (.dup, 1) := by decide +kernel
theorem dL_law_4 : decode cL_law 4 = .ok (.invokespecial 54, 3) := by decide +kernel
theorem dL_law_7 : decode cL_law 7 = .ok (.astore_n 1, 1) := by decide +kernel
theorem dL_law_8 : decode cL_law 8 = .ok (.new 55, 3) := by decide +kernel
theorem dL_law_11 : decode cL_law 11 = .ok (.dup, 1) := by decide +kernel
theorem dL_law_12 : decode cL_law 12 = .ok (.invokespecial 57, 3) := by decide +kernel
theorem dL_law_15 : decode cL_law 15 = .ok (.astore_n 2, 1) := by decide +kernel
theorem dL_law_16 : decode cL_law 16 = .ok (.iconst 1, 1) := by decide +kernel
theorem dL_law_17 : decode cL_law 17 = .ok (.newarray .long, 2) := by decide +kernel
theorem dL_law_19 : decode cL_law 19 = .ok (.astore_n 3, 1) := by decide +kernel
theorem dL_law_20 : decode cL_law 20 = .ok (.iconst 0, 1) := by decide +kernel
theorem dL_law_21 : decode cL_law 21 = .ok (.istore 4, 2) := by decide +kernel
theorem dL_law_23 : decode cL_law 23 = .ok (.iload 4, 2) := by decide +kernel
theorem dL_law_25 : decode cL_law 25 = .ok (.aload_n 0, 1) := by decide +kernel
theorem dL_law_26 : decode cL_law 26 = .ok (.arraylength, 1) := by decide +kernel
theorem dL_law_27 : decode cL_law 27 = .ok (.iconst 4, 1) := by decide +kernel
theorem dL_law_28 : decode cL_law 28 = .ok (.isub, 1) := by decide +kernel
theorem dL_law_29 : decode cL_law 29 = .ok (.if_icmp .gt 981, 3) := by decide +kernel
theorem dL_law_32 : decode cL_law 32 = .ok (.aload_n 0, 1) := by decide +kernel
theorem dL_law_33 : decode cL_law 33 = .ok (.iload 4, 2) := by decide +kernel
theorem dL_law_35 : decode cL_law 35 = .ok (.iaload, 1) := by decide +kernel
theorem dL_law_36 : decode cL_law 36 = .ok (.bipush 15, 2) := by decide +kernel
theorem dL_law_38 : decode cL_law 38 = .ok (.iand, 1) := by decide +kernel
theorem dL_law_39 : decode cL_law 39 = .ok (.tableswitch 965 0 15 #[77, 134, 202, 215, 283, 367, 447, 527, 595, 663, 676, 744, 804, 848, 873, 940], 77) := by decide +kernel
theorem dL_law_116 : decode cL_law 116 = .ok (.aload_n 1, 1) := by decide +kernel
theorem dL_law_117 : decode cL_law 117 = .ok (.aload_n 0, 1) := by decide +kernel
theorem dL_law_118 : decode cL_law 118 = .ok (.iload 4, 2) := by decide +kernel
theorem dL_law_120 : decode cL_law 120 = .ok (.iconst 1, 1) := by decide +kernel
theorem dL_law_121 : decode cL_law 121 = .ok (.iadd, 1) := by decide +kernel
theorem dL_law_122 : decode cL_law 122 = .ok (.iaload, 1) := by decide +kernel
theorem dL_law_123 : decode cL_law 123 = .ok (.i2l, 1) := by decide +kernel
theorem dL_law_124 : decode cL_law 124 = .ok (.bipush 32, 2) := by decide +kernel
theorem dL_law_126 : decode cL_law 126 = .ok (.lshl, 1) := by decide +kernel
theorem dL_law_127 : decode cL_law 127 = .ok (.aload_n 0, 1) := by decide +kernel
theorem dL_law_128 : decode cL_law 128 = .ok (.iload 4, 2) := by decide +kernel
theorem dL_law_130 : decode cL_law 130 = .ok (.iconst 2, 1) := by decide +kernel
theorem dL_law_131 : decode cL_law 131 = .ok (.iadd, 1) := by decide +kernel
theorem dL_law_132 : decode cL_law 132 = .ok (.iaload, 1) := by decide +kernel
theorem dL_law_133 : decode cL_law 133 = .ok (.i2l, 1) := by decide +kernel
theorem dL_law_134 : decode cL_law 134 = .ok (.ldc2_w 58, 3) := by decide +kernel
theorem dL_law_137 : decode cL_law 137 = .ok (.land, 1) := by decide +kernel
theorem dL_law_138 : decode cL_law 138 = .ok (.lor, 1) := by decide +kernel
theorem dL_law_139 : decode cL_law 139 = .ok (.invokevirtual 60, 3) := by decide +kernel
theorem dL_law_142 : decode cL_law 142 = .ok (.aload_n 2, 1) := by decide +kernel
theorem dL_law_143 : decode cL_law 143 = .ok (.aload_n 0, 1) := by decide +kernel
theorem dL_law_144 : decode cL_law 144 = .ok (.iload 4, 2) := by decide +kernel
theorem dL_law_146 : decode cL_law 146 = .ok (.iconst 1, 1) := by decide +kernel
theorem dL_law_147 : decode cL_law 147 = .ok (.iadd, 1) := by decide +kernel
theorem dL_law_148 : decode cL_law 148 = .ok (.iaload, 1) := by decide +kernel
theorem dL_law_149 : decode cL_law 149 = .ok (.i2l, 1) := by decide +kernel
theorem dL_law_150 : decode cL_law 150 = .ok (.bipush 32, 2) := by decide +kernel
theorem dL_law_152 : decode cL_law 152 = .ok (.lshl, 1) := by decide +kernel
theorem dL_law_153 : decode cL_law 153 = .ok (.aload_n 0, 1) := by decide +kernel
theorem dL_law_154 : decode cL_law 154 = .ok (.iload 4, 2) := by decide +kernel
theorem dL_law_156 : decode cL_law 156 = .ok (.iconst 2, 1) := by decide +kernel
theorem dL_law_157 : decode cL_law 157 = .ok (.iadd, 1) := by decide +kernel
theorem dL_law_158 : decode cL_law 158 = .ok (.iaload, 1) := by decide +kernel
theorem dL_law_159 : decode cL_law 159 = .ok (.i2l, 1) := by decide +kernel
theorem dL_law_160 : decode cL_law 160 = .ok (.ldc2_w 58, 3) := by decide +kernel
theorem dL_law_163 : decode cL_law 163 = .ok (.land, 1) := by decide +kernel
theorem dL_law_164 : decode cL_law 164 = .ok (.lor, 1) := by decide +kernel
theorem dL_law_165 : decode cL_law 165 = .ok (.invokevirtual 64, 3) := by decide +kernel
theorem dL_law_168 : decode cL_law 168 = .ok (.if_icmp .eq 836, 3) := by decide +kernel
theorem dL_law_171 : decode cL_law 171 = .ok (.iconst 0, 1) := by decide +kernel
theorem dL_law_172 : decode cL_law 172 = .ok (.ireturn, 1) := by decide +kernel
theorem dL_law_173 : decode cL_law 173 = .ok (.aload_n 1, 1) := by decide +kernel
theorem dL_law_174 : decode cL_law 174 = .ok (.aload_n 0, 1) := by decide +kernel
theorem dL_law_175 : decode cL_law 175 = .ok (.iload 4, 2) := by decide +kernel
theorem dL_law_177 : decode cL_law 177 = .ok (.iconst 1, 1) := by decide +kernel
theorem dL_law_178 : decode cL_law 178 = .ok (.iadd, 1) := by decide +kernel
theorem dL_law_179 : decode cL_law 179 = .ok (.iaload, 1) := by decide +kernel
theorem dL_law_180 : decode cL_law 180 = .ok (.aload_n 0, 1) := by decide +kernel
theorem dL_law_181 : decode cL_law 181 = .ok (.iload 4, 2) := by decide +kernel
theorem dL_law_183 : decode cL_law 183 = .ok (.iconst 2, 1) := by decide +kernel
theorem dL_law_184 : decode cL_law 184 = .ok (.iadd, 1) := by decide +kernel
theorem dL_law_185 : decode cL_law 185 = .ok (.iaload, 1) := by decide +kernel
theorem dL_law_186 : decode cL_law 186 = .ok (.aload_n 3, 1) := by decide +kernel
theorem dL_law_187 : decode cL_law 187 = .ok (.invokestatic 65, 3) := by decide +kernel
theorem dL_law_190 : decode cL_law 190 = .ok (.istore 5, 2) := by decide +kernel
theorem dL_law_192 : decode cL_law 192 = .ok (.aload_n 2, 1) := by decide +kernel
theorem dL_law_193 : decode cL_law 193 = .ok (.aload_n 0, 1) := by decide +kernel
theorem dL_law_194 : decode cL_law 194 = .ok (.iload 4, 2) := by decide +kernel
theorem dL_law_196 : decode cL_law 196 = .ok (.iconst 1, 1) := by decide +kernel
theorem dL_law_197 : decode cL_law 197 = .ok (.iadd, 1) := by decide +kernel
theorem dL_law_198 : decode cL_law 198 = .ok (.iaload, 1) := by decide +kernel
theorem dL_law_199 : decode cL_law 199 = .ok (.aload_n 0, 1) := by decide +kernel
theorem dL_law_200 : decode cL_law 200 = .ok (.iload 4, 2) := by decide +kernel
theorem dL_law_202 : decode cL_law 202 = .ok (.iconst 2, 1) := by decide +kernel
theorem dL_law_203 : decode cL_law 203 = .ok (.iadd, 1) := by decide +kernel
theorem dL_law_204 : decode cL_law 204 = .ok (.iaload, 1) := by decide +kernel
theorem dL_law_205 : decode cL_law 205 = .ok (.invokevirtual 70, 3) := by decide +kernel
theorem dL_law_208 : decode cL_law 208 = .ok (.istore 6, 2) := by decide +kernel
theorem dL_law_210 : decode cL_law 210 = .ok (.aload_n 2, 1) := by decide +kernel
theorem dL_law_211 : decode cL_law 211 = .ok (.invokevirtual 71, 3) := by decide +kernel
theorem dL_law_214 : decode cL_law 214 = .ok (.iload 5, 2) := by decide +kernel
theorem dL_law_216 : decode cL_law 216 = .ok (.if_icmp .eq 5, 3) := by decide +kernel
theorem dL_law_219 : decode cL_law 219 = .ok (.iconst 0, 1) := by decide +kernel
theorem dL_law_220 : decode cL_law 220 = .ok (.ireturn, 1) := by decide +kernel
theorem dL_law_221 : decode cL_law 221 = .ok (.iload 5, 2) := by decide +kernel
theorem dL_law_223 : decode cL_law 223 = .ok (.ifCond .ne 15, 3) := by decide +kernel
theorem dL_law_226 : decode cL_law 226 = .ok (.aload_n 3, 1) := by decide +kernel
theorem dL_law_227 : decode cL_law 227 = .ok (.iconst 0, 1) := by decide +kernel
theorem dL_law_228 : decode cL_law 228 = .ok (.laload, 1) := by decide +kernel
theorem dL_law_229 : decode cL_law 229 = .ok (.iload 6, 2) := by decide +kernel
theorem dL_law_231 : decode cL_law 231 = .ok (.i2l, 1) := by decide +kernel
theorem dL_law_232 : decode cL_law 232 = .ok (.lcmp, 1) := by decide +kernel
theorem dL_law_233 : decode cL_law 233 = .ok (.ifCond .eq 5, 3) := by decide +kernel
theorem dL_law_236 : decode cL_law 236 = .ok (.iconst 0, 1) := by decide +kernel
theorem dL_law_237 : decode cL_law 237 = .ok (.ireturn, 1) := by decide +kernel
theorem dL_law_238 : decode cL_law 238 = .ok (.goto 766, 3) := by decide +kernel
theorem dL_law_241 : decode cL_law 241 = .ok (.aload_n 1, 1) := by decide +kernel
theorem dL_law_242 : decode cL_law 242 = .ok (.invokevirtual 74, 3) := by decide +kernel
theorem dL_law_245 : decode cL_law 245 = .ok (.aload_n 2, 1) := by decide +kernel
theorem dL_law_246 : decode cL_law 246 = .ok (.invokevirtual 77, 3) := by decide +kernel
theorem dL_law_249 : decode cL_law 249 = .ok (.if_icmp .eq 755, 3) := by decide +kernel
theorem dL_law_252 : decode cL_law 252 = .ok (.iconst 0, 1) := by decide +kernel
theorem dL_law_253 : decode cL_law 253 = .ok (.ireturn, 1) := by decide +kernel
theorem dL_law_254 : decode cL_law 254 = .ok (.aload_n 1, 1) := by decide +kernel
theorem dL_law_255 : decode cL_law 255 = .ok (.aload_n 0, 1) := by decide +kernel
theorem dL_law_256 : decode cL_law 256 = .ok (.iload 4, 2) := by decide +kernel
theorem dL_law_258 : decode cL_law 258 = .ok (.iconst 1, 1) := by decide +kernel
theorem dL_law_259 : decode cL_law 259 = .ok (.iadd, 1) := by decide +kernel
theorem dL_law_260 : decode cL_law 260 = .ok (.iaload, 1) := by decide +kernel
theorem dL_law_261 : decode cL_law 261 = .ok (.aload_n 0, 1) := by decide +kernel
theorem dL_law_262 : decode cL_law 262 = .ok (.iload 4, 2) := by decide +kernel
theorem dL_law_264 : decode cL_law 264 = .ok (.iconst 2, 1) := by decide +kernel
theorem dL_law_265 : decode cL_law 265 = .ok (.iadd, 1) := by decide +kernel
theorem dL_law_266 : decode cL_law 266 = .ok (.iaload, 1) := by decide +kernel
theorem dL_law_267 : decode cL_law 267 = .ok (.aload_n 3, 1) := by decide +kernel
theorem dL_law_268 : decode cL_law 268 = .ok (.invokestatic 78, 3) := by decide +kernel
theorem dL_law_271 : decode cL_law 271 = .ok (.istore 5, 2) := by decide +kernel
theorem dL_law_273 : decode cL_law 273 = .ok (.aload_n 2, 1) := by decide +kernel
theorem dL_law_274 : decode cL_law 274 = .ok (.aload_n 0, 1) := by decide +kernel
theorem dL_law_275 : decode cL_law 275 = .ok (.iload 4, 2) := by decide +kernel
theorem dL_law_277 : decode cL_law 277 = .ok (.iconst 1, 1) := by decide +kernel
theorem dL_law_278 : decode cL_law 278 = .ok (.iadd, 1) := by decide +kernel
theorem dL_law_279 : decode cL_law 279 = .ok (.iaload, 1) := by decide +kernel
theorem dL_law_280 : decode cL_law 280 = .ok (.aload_n 0, 1) := by decide +kernel
theorem dL_law_281 : decode cL_law 281 = .ok (.iload 4, 2) := by decide +kernel
theorem dL_law_283 : decode cL_law 283 = .ok (.iconst 2, 1) := by decide +kernel
theorem dL_law_284 : decode cL_law 284 = .ok (.iadd, 1) := by decide +kernel
theorem dL_law_285 : decode cL_law 285 = .ok (.iaload, 1) := by decide +kernel
theorem dL_law_286 : decode cL_law 286 = .ok (.invokevirtual 80, 3) := by decide +kernel
theorem dL_law_289 : decode cL_law 289 = .ok (.istore 6, 2) := by decide +kernel
theorem dL_law_291 : decode cL_law 291 = .ok (.aload_n 2, 1) := by decide +kernel
theorem dL_law_292 : decode cL_law 292 = .ok (.invokevirtual 71, 3) := by decide +kernel
theorem dL_law_295 : decode cL_law 295 = .ok (.iload 5, 2) := by decide +kernel
theorem dL_law_297 : decode cL_law 297 = .ok (.if_icmp .eq 5, 3) := by decide +kernel
theorem dL_law_300 : decode cL_law 300 = .ok (.iconst 0, 1) := by decide +kernel
theorem dL_law_301 : decode cL_law 301 = .ok (.ireturn, 1) := by decide +kernel
theorem dL_law_302 : decode cL_law 302 = .ok (.iload 5, 2) := by decide +kernel
theorem dL_law_304 : decode cL_law 304 = .ok (.ifCond .ne 15, 3) := by decide +kernel
theorem dL_law_307 : decode cL_law 307 = .ok (.aload_n 3, 1) := by decide +kernel
theorem dL_law_308 : decode cL_law 308 = .ok (.iconst 0, 1) := by decide +kernel
theorem dL_law_309 : decode cL_law 309 = .ok (.laload, 1) := by decide +kernel
theorem dL_law_310 : decode cL_law 310 = .ok (.iload 6, 2) := by decide +kernel
theorem dL_law_312 : decode cL_law 312 = .ok (.i2l, 1) := by decide +kernel
theorem dL_law_313 : decode cL_law 313 = .ok (.lcmp, 1) := by decide +kernel
theorem dL_law_314 : decode cL_law 314 = .ok (.ifCond .eq 5, 3) := by decide +kernel
theorem dL_law_317 : decode cL_law 317 = .ok (.iconst 0, 1) := by decide +kernel
theorem dL_law_318 : decode cL_law 318 = .ok (.ireturn, 1) := by decide +kernel
theorem dL_law_319 : decode cL_law 319 = .ok (.goto 685, 3) := by decide +kernel
theorem dL_law_322 : decode cL_law 322 = .ok (.aload_n 1, 1) := by decide +kernel
theorem dL_law_323 : decode cL_law 323 = .ok (.aload_n 0, 1) := by decide +kernel
theorem dL_law_324 : decode cL_law 324 = .ok (.iload 4, 2) := by decide +kernel
theorem dL_law_326 : decode cL_law 326 = .ok (.iconst 1, 1) := by decide +kernel
theorem dL_law_327 : decode cL_law 327 = .ok (.iadd, 1) := by decide +kernel
theorem dL_law_328 : decode cL_law 328 = .ok (.iaload, 1) := by decide +kernel
theorem dL_law_329 : decode cL_law 329 = .ok (.aload_n 0, 1) := by decide +kernel
theorem dL_law_330 : decode cL_law 330 = .ok (.iload 4, 2) := by decide +kernel
theorem dL_law_332 : decode cL_law 332 = .ok (.iconst 2, 1) := by decide +kernel
theorem dL_law_333 : decode cL_law 333 = .ok (.iadd, 1) := by decide +kernel
theorem dL_law_334 : decode cL_law 334 = .ok (.iaload, 1) := by decide +kernel
theorem dL_law_335 : decode cL_law 335 = .ok (.ifCond .eq 7, 3) := by decide +kernel
theorem dL_law_338 : decode cL_law 338 = .ok (.iconst 1, 1) := by decide +kernel
theorem dL_law_339 : decode cL_law 339 = .ok (.goto 4, 3) := by decide +kernel
theorem dL_law_342 : decode cL_law 342 = .ok (.iconst 0, 1) := by decide +kernel
theorem dL_law_343 : decode cL_law 343 = .ok (.aload_n 3, 1) := by decide +kernel
theorem dL_law_344 : decode cL_law 344 = .ok (.invokestatic 81, 3) := by decide +kernel
theorem dL_law_347 : decode cL_law 347 = .ok (.istore 5, 2) := by decide +kernel
theorem dL_law_349 : decode cL_law 349 = .ok (.aload_n 2, 1) := by decide +kernel
theorem dL_law_350 : decode cL_law 350 = .ok (.aload_n 0, 1) := by decide +kernel
theorem dL_law_351 : decode cL_law 351 = .ok (.iload 4, 2) := by decide +kernel
theorem dL_law_353 : decode cL_law 353 = .ok (.iconst 1, 1) := by decide +kernel
theorem dL_law_354 : decode cL_law 354 = .ok (.iadd, 1) := by decide +kernel
theorem dL_law_355 : decode cL_law 355 = .ok (.iaload, 1) := by decide +kernel
theorem dL_law_356 : decode cL_law 356 = .ok (.aload_n 0, 1) := by decide +kernel
theorem dL_law_357 : decode cL_law 357 = .ok (.iload 4, 2) := by decide +kernel
theorem dL_law_359 : decode cL_law 359 = .ok (.iconst 2, 1) := by decide +kernel
theorem dL_law_360 : decode cL_law 360 = .ok (.iadd, 1) := by decide +kernel
theorem dL_law_361 : decode cL_law 361 = .ok (.iaload, 1) := by decide +kernel
theorem dL_law_362 : decode cL_law 362 = .ok (.ifCond .eq 7, 3) := by decide +kernel
theorem dL_law_365 : decode cL_law 365 = .ok (.iconst 1, 1) := by decide +kernel
theorem dL_law_366 : decode cL_law 366 = .ok (.goto 4, 3) := by decide +kernel
theorem dL_law_369 : decode cL_law 369 = .ok (.iconst 0, 1) := by decide +kernel
theorem dL_law_370 : decode cL_law 370 = .ok (.invokevirtual 84, 3) := by decide +kernel
theorem dL_law_373 : decode cL_law 373 = .ok (.istore 6, 2) := by decide +kernel
theorem dL_law_375 : decode cL_law 375 = .ok (.aload_n 2, 1) := by decide +kernel
theorem dL_law_376 : decode cL_law 376 = .ok (.invokevirtual 71, 3) := by decide +kernel
theorem dL_law_379 : decode cL_law 379 = .ok (.iload 5, 2) := by decide +kernel
theorem dL_law_381 : decode cL_law 381 = .ok (.if_icmp .eq 5, 3) := by decide +kernel
theorem dL_law_384 : decode cL_law 384 = .ok (.iconst 0, 1) := by decide +kernel
theorem dL_law_385 : decode cL_law 385 = .ok (.ireturn, 1) := by decide +kernel
theorem dL_law_386 : decode cL_law 386 = .ok (.iload 5, 2) := by decide +kernel
theorem dL_law_388 : decode cL_law 388 = .ok (.ifCond .ne 15, 3) := by decide +kernel
theorem dL_law_391 : decode cL_law 391 = .ok (.aload_n 3, 1) := by decide +kernel
theorem dL_law_392 : decode cL_law 392 = .ok (.iconst 0, 1) := by decide +kernel
theorem dL_law_393 : decode cL_law 393 = .ok (.laload, 1) := by decide +kernel
theorem dL_law_394 : decode cL_law 394 = .ok (.iload 6, 2) := by decide +kernel
theorem dL_law_396 : decode cL_law 396 = .ok (.i2l, 1) := by decide +kernel
theorem dL_law_397 : decode cL_law 397 = .ok (.lcmp, 1) := by decide +kernel
theorem dL_law_398 : decode cL_law 398 = .ok (.ifCond .eq 5, 3) := by decide +kernel
theorem dL_law_401 : decode cL_law 401 = .ok (.iconst 0, 1) := by decide +kernel
theorem dL_law_402 : decode cL_law 402 = .ok (.ireturn, 1) := by decide +kernel
theorem dL_law_403 : decode cL_law 403 = .ok (.goto 601, 3) := by decide +kernel
theorem dL_law_406 : decode cL_law 406 = .ok (.aload_n 1, 1) := by decide +kernel
theorem dL_law_407 : decode cL_law 407 = .ok (.aload_n 0, 1) := by decide +kernel
theorem dL_law_408 : decode cL_law 408 = .ok (.iload 4, 2) := by decide +kernel
theorem dL_law_410 : decode cL_law 410 = .ok (.iconst 1, 1) := by decide +kernel
theorem dL_law_411 : decode cL_law 411 = .ok (.iadd, 1) := by decide +kernel
theorem dL_law_412 : decode cL_law 412 = .ok (.iaload, 1) := by decide +kernel
theorem dL_law_413 : decode cL_law 413 = .ok (.aload_n 0, 1) := by decide +kernel
theorem dL_law_414 : decode cL_law 414 = .ok (.iload 4, 2) := by decide +kernel
theorem dL_law_416 : decode cL_law 416 = .ok (.iconst 2, 1) := by decide +kernel
theorem dL_law_417 : decode cL_law 417 = .ok (.iadd, 1) := by decide +kernel
theorem dL_law_418 : decode cL_law 418 = .ok (.iaload, 1) := by decide +kernel
theorem dL_law_419 : decode cL_law 419 = .ok (.aload_n 0, 1) := by decide +kernel
theorem dL_law_420 : decode cL_law 420 = .ok (.iload 4, 2) := by decide +kernel
theorem dL_law_422 : decode cL_law 422 = .ok (.iconst 3, 1) := by decide +kernel
theorem dL_law_423 : decode cL_law 423 = .ok (.iadd, 1) := by decide +kernel
theorem dL_law_424 : decode cL_law 424 = .ok (.iaload, 1) := by decide +kernel
theorem dL_law_425 : decode cL_law 425 = .ok (.aload_n 3, 1) := by decide +kernel
theorem dL_law_426 : decode cL_law 426 = .ok (.invokestatic 85, 3) := by decide +kernel
theorem dL_law_429 : decode cL_law 429 = .ok (.istore 5, 2) := by decide +kernel
theorem dL_law_431 : decode cL_law 431 = .ok (.aload_n 2, 1) := by decide +kernel
theorem dL_law_432 : decode cL_law 432 = .ok (.aload_n 0, 1) := by decide +kernel
theorem dL_law_433 : decode cL_law 433 = .ok (.iload 4, 2) := by decide +kernel
theorem dL_law_435 : decode cL_law 435 = .ok (.iconst 1, 1) := by decide +kernel
theorem dL_law_436 : decode cL_law 436 = .ok (.iadd, 1) := by decide +kernel
theorem dL_law_437 : decode cL_law 437 = .ok (.iaload, 1) := by decide +kernel
theorem dL_law_438 : decode cL_law 438 = .ok (.aload_n 0, 1) := by decide +kernel
theorem dL_law_439 : decode cL_law 439 = .ok (.iload 4, 2) := by decide +kernel
theorem dL_law_441 : decode cL_law 441 = .ok (.iconst 2, 1) := by decide +kernel
theorem dL_law_442 : decode cL_law 442 = .ok (.iadd, 1) := by decide +kernel
theorem dL_law_443 : decode cL_law 443 = .ok (.iaload, 1) := by decide +kernel
theorem dL_law_444 : decode cL_law 444 = .ok (.aload_n 0, 1) := by decide +kernel
theorem dL_law_445 : decode cL_law 445 = .ok (.iload 4, 2) := by decide +kernel
theorem dL_law_447 : decode cL_law 447 = .ok (.iconst 3, 1) := by decide +kernel
theorem dL_law_448 : decode cL_law 448 = .ok (.iadd, 1) := by decide +kernel
theorem dL_law_449 : decode cL_law 449 = .ok (.iaload, 1) := by decide +kernel
theorem dL_law_450 : decode cL_law 450 = .ok (.invokevirtual 88, 3) := by decide +kernel
theorem dL_law_453 : decode cL_law 453 = .ok (.istore 6, 2) := by decide +kernel
theorem dL_law_455 : decode cL_law 455 = .ok (.aload_n 2, 1) := by decide +kernel
theorem dL_law_456 : decode cL_law 456 = .ok (.invokevirtual 71, 3) := by decide +kernel
theorem dL_law_459 : decode cL_law 459 = .ok (.iload 5, 2) := by decide +kernel
theorem dL_law_461 : decode cL_law 461 = .ok (.if_icmp .eq 5, 3) := by decide +kernel
theorem dL_law_464 : decode cL_law 464 = .ok (.iconst 0, 1) := by decide +kernel
theorem dL_law_465 : decode cL_law 465 = .ok (.ireturn, 1) := by decide +kernel
theorem dL_law_466 : decode cL_law 466 = .ok (.iload 5, 2) := by decide +kernel
theorem dL_law_468 : decode cL_law 468 = .ok (.ifCond .ne 15, 3) := by decide +kernel
theorem dL_law_471 : decode cL_law 471 = .ok (.aload_n 3, 1) := by decide +kernel
theorem dL_law_472 : decode cL_law 472 = .ok (.iconst 0, 1) := by decide +kernel
theorem dL_law_473 : decode cL_law 473 = .ok (.laload, 1) := by decide +kernel
theorem dL_law_474 : decode cL_law 474 = .ok (.iload 6, 2) := by decide +kernel
theorem dL_law_476 : decode cL_law 476 = .ok (.i2l, 1) := by decide +kernel
theorem dL_law_477 : decode cL_law 477 = .ok (.lcmp, 1) := by decide +kernel
theorem dL_law_478 : decode cL_law 478 = .ok (.ifCond .eq 5, 3) := by decide +kernel
theorem dL_law_481 : decode cL_law 481 = .ok (.iconst 0, 1) := by decide +kernel
theorem dL_law_482 : decode cL_law 482 = .ok (.ireturn, 1) := by decide +kernel
theorem dL_law_483 : decode cL_law 483 = .ok (.goto 521, 3) := by decide +kernel
theorem dL_law_486 : decode cL_law 486 = .ok (.aload_n 1, 1) := by decide +kernel
theorem dL_law_487 : decode cL_law 487 = .ok (.aload_n 0, 1) := by decide +kernel
theorem dL_law_488 : decode cL_law 488 = .ok (.iload 4, 2) := by decide +kernel
theorem dL_law_490 : decode cL_law 490 = .ok (.iconst 1, 1) := by decide +kernel
theorem dL_law_491 : decode cL_law 491 = .ok (.iadd, 1) := by decide +kernel
theorem dL_law_492 : decode cL_law 492 = .ok (.iaload, 1) := by decide +kernel
theorem dL_law_493 : decode cL_law 493 = .ok (.aload_n 0, 1) := by decide +kernel
theorem dL_law_494 : decode cL_law 494 = .ok (.iload 4, 2) := by decide +kernel
theorem dL_law_496 : decode cL_law 496 = .ok (.iconst 2, 1) := by decide +kernel
theorem dL_law_497 : decode cL_law 497 = .ok (.iadd, 1) := by decide +kernel
theorem dL_law_498 : decode cL_law 498 = .ok (.iaload, 1) := by decide +kernel
theorem dL_law_499 : decode cL_law 499 = .ok (.aload_n 0, 1) := by decide +kernel
theorem dL_law_500 : decode cL_law 500 = .ok (.iload 4, 2) := by decide +kernel
theorem dL_law_502 : decode cL_law 502 = .ok (.iconst 3, 1) := by decide +kernel
theorem dL_law_503 : decode cL_law 503 = .ok (.iadd, 1) := by decide +kernel
theorem dL_law_504 : decode cL_law 504 = .ok (.iaload, 1) := by decide +kernel
theorem dL_law_505 : decode cL_law 505 = .ok (.aload_n 3, 1) := by decide +kernel
theorem dL_law_506 : decode cL_law 506 = .ok (.invokestatic 89, 3) := by decide +kernel
theorem dL_law_509 : decode cL_law 509 = .ok (.istore 5, 2) := by decide +kernel
theorem dL_law_511 : decode cL_law 511 = .ok (.aload_n 2, 1) := by decide +kernel
theorem dL_law_512 : decode cL_law 512 = .ok (.aload_n 0, 1) := by decide +kernel
theorem dL_law_513 : decode cL_law 513 = .ok (.iload 4, 2) := by decide +kernel
theorem dL_law_515 : decode cL_law 515 = .ok (.iconst 1, 1) := by decide +kernel
theorem dL_law_516 : decode cL_law 516 = .ok (.iadd, 1) := by decide +kernel
theorem dL_law_517 : decode cL_law 517 = .ok (.iaload, 1) := by decide +kernel
theorem dL_law_518 : decode cL_law 518 = .ok (.aload_n 0, 1) := by decide +kernel
theorem dL_law_519 : decode cL_law 519 = .ok (.iload 4, 2) := by decide +kernel
theorem dL_law_521 : decode cL_law 521 = .ok (.iconst 2, 1) := by decide +kernel
theorem dL_law_522 : decode cL_law 522 = .ok (.iadd, 1) := by decide +kernel
theorem dL_law_523 : decode cL_law 523 = .ok (.iaload, 1) := by decide +kernel
theorem dL_law_524 : decode cL_law 524 = .ok (.aload_n 0, 1) := by decide +kernel
theorem dL_law_525 : decode cL_law 525 = .ok (.iload 4, 2) := by decide +kernel
theorem dL_law_527 : decode cL_law 527 = .ok (.iconst 3, 1) := by decide +kernel
theorem dL_law_528 : decode cL_law 528 = .ok (.iadd, 1) := by decide +kernel
theorem dL_law_529 : decode cL_law 529 = .ok (.iaload, 1) := by decide +kernel
theorem dL_law_530 : decode cL_law 530 = .ok (.invokevirtual 91, 3) := by decide +kernel
theorem dL_law_533 : decode cL_law 533 = .ok (.istore 6, 2) := by decide +kernel
theorem dL_law_535 : decode cL_law 535 = .ok (.aload_n 2, 1) := by decide +kernel
theorem dL_law_536 : decode cL_law 536 = .ok (.invokevirtual 71, 3) := by decide +kernel
theorem dL_law_539 : decode cL_law 539 = .ok (.iload 5, 2) := by decide +kernel
theorem dL_law_541 : decode cL_law 541 = .ok (.if_icmp .eq 5, 3) := by decide +kernel
theorem dL_law_544 : decode cL_law 544 = .ok (.iconst 0, 1) := by decide +kernel
theorem dL_law_545 : decode cL_law 545 = .ok (.ireturn, 1) := by decide +kernel
theorem dL_law_546 : decode cL_law 546 = .ok (.iload 5, 2) := by decide +kernel
theorem dL_law_548 : decode cL_law 548 = .ok (.ifCond .ne 15, 3) := by decide +kernel
theorem dL_law_551 : decode cL_law 551 = .ok (.aload_n 3, 1) := by decide +kernel
theorem dL_law_552 : decode cL_law 552 = .ok (.iconst 0, 1) := by decide +kernel
theorem dL_law_553 : decode cL_law 553 = .ok (.laload, 1) := by decide +kernel
theorem dL_law_554 : decode cL_law 554 = .ok (.iload 6, 2) := by decide +kernel
theorem dL_law_556 : decode cL_law 556 = .ok (.i2l, 1) := by decide +kernel
theorem dL_law_557 : decode cL_law 557 = .ok (.lcmp, 1) := by decide +kernel
theorem dL_law_558 : decode cL_law 558 = .ok (.ifCond .eq 5, 3) := by decide +kernel
theorem dL_law_561 : decode cL_law 561 = .ok (.iconst 0, 1) := by decide +kernel
theorem dL_law_562 : decode cL_law 562 = .ok (.ireturn, 1) := by decide +kernel
theorem dL_law_563 : decode cL_law 563 = .ok (.goto 441, 3) := by decide +kernel
theorem dL_law_566 : decode cL_law 566 = .ok (.aload_n 1, 1) := by decide +kernel
theorem dL_law_567 : decode cL_law 567 = .ok (.aload_n 0, 1) := by decide +kernel
theorem dL_law_568 : decode cL_law 568 = .ok (.iload 4, 2) := by decide +kernel
theorem dL_law_570 : decode cL_law 570 = .ok (.iconst 1, 1) := by decide +kernel
theorem dL_law_571 : decode cL_law 571 = .ok (.iadd, 1) := by decide +kernel
theorem dL_law_572 : decode cL_law 572 = .ok (.iaload, 1) := by decide +kernel
theorem dL_law_573 : decode cL_law 573 = .ok (.aload_n 0, 1) := by decide +kernel
theorem dL_law_574 : decode cL_law 574 = .ok (.iload 4, 2) := by decide +kernel
theorem dL_law_576 : decode cL_law 576 = .ok (.iconst 2, 1) := by decide +kernel
theorem dL_law_577 : decode cL_law 577 = .ok (.iadd, 1) := by decide +kernel
theorem dL_law_578 : decode cL_law 578 = .ok (.iaload, 1) := by decide +kernel
theorem dL_law_579 : decode cL_law 579 = .ok (.aload_n 3, 1) := by decide +kernel
theorem dL_law_580 : decode cL_law 580 = .ok (.invokestatic 92, 3) := by decide +kernel
theorem dL_law_583 : decode cL_law 583 = .ok (.istore 5, 2) := by decide +kernel
theorem dL_law_585 : decode cL_law 585 = .ok (.aload_n 2, 1) := by decide +kernel
theorem dL_law_586 : decode cL_law 586 = .ok (.aload_n 0, 1) := by decide +kernel
theorem dL_law_587 : decode cL_law 587 = .ok (.iload 4, 2) := by decide +kernel
theorem dL_law_589 : decode cL_law 589 = .ok (.iconst 1, 1) := by decide +kernel
theorem dL_law_590 : decode cL_law 590 = .ok (.iadd, 1) := by decide +kernel
theorem dL_law_591 : decode cL_law 591 = .ok (.iaload, 1) := by decide +kernel
theorem dL_law_592 : decode cL_law 592 = .ok (.aload_n 0, 1) := by decide +kernel
theorem dL_law_593 : decode cL_law 593 = .ok (.iload 4, 2) := by decide +kernel
theorem dL_law_595 : decode cL_law 595 = .ok (.iconst 2, 1) := by decide +kernel
theorem dL_law_596 : decode cL_law 596 = .ok (.iadd, 1) := by decide +kernel
theorem dL_law_597 : decode cL_law 597 = .ok (.iaload, 1) := by decide +kernel
theorem dL_law_598 : decode cL_law 598 = .ok (.invokevirtual 94, 3) := by decide +kernel
theorem dL_law_601 : decode cL_law 601 = .ok (.istore 6, 2) := by decide +kernel
theorem dL_law_603 : decode cL_law 603 = .ok (.aload_n 2, 1) := by decide +kernel
theorem dL_law_604 : decode cL_law 604 = .ok (.invokevirtual 71, 3) := by decide +kernel
theorem dL_law_607 : decode cL_law 607 = .ok (.iload 5, 2) := by decide +kernel
theorem dL_law_609 : decode cL_law 609 = .ok (.if_icmp .eq 5, 3) := by decide +kernel
theorem dL_law_612 : decode cL_law 612 = .ok (.iconst 0, 1) := by decide +kernel
theorem dL_law_613 : decode cL_law 613 = .ok (.ireturn, 1) := by decide +kernel
theorem dL_law_614 : decode cL_law 614 = .ok (.iload 5, 2) := by decide +kernel
theorem dL_law_616 : decode cL_law 616 = .ok (.ifCond .ne 15, 3) := by decide +kernel
theorem dL_law_619 : decode cL_law 619 = .ok (.aload_n 3, 1) := by decide +kernel
theorem dL_law_620 : decode cL_law 620 = .ok (.iconst 0, 1) := by decide +kernel
theorem dL_law_621 : decode cL_law 621 = .ok (.laload, 1) := by decide +kernel
theorem dL_law_622 : decode cL_law 622 = .ok (.iload 6, 2) := by decide +kernel
theorem dL_law_624 : decode cL_law 624 = .ok (.i2l, 1) := by decide +kernel
theorem dL_law_625 : decode cL_law 625 = .ok (.lcmp, 1) := by decide +kernel
theorem dL_law_626 : decode cL_law 626 = .ok (.ifCond .eq 5, 3) := by decide +kernel
theorem dL_law_629 : decode cL_law 629 = .ok (.iconst 0, 1) := by decide +kernel
theorem dL_law_630 : decode cL_law 630 = .ok (.ireturn, 1) := by decide +kernel
theorem dL_law_631 : decode cL_law 631 = .ok (.goto 373, 3) := by decide +kernel
theorem dL_law_634 : decode cL_law 634 = .ok (.aload_n 1, 1) := by decide +kernel
theorem dL_law_635 : decode cL_law 635 = .ok (.aload_n 0, 1) := by decide +kernel
theorem dL_law_636 : decode cL_law 636 = .ok (.iload 4, 2) := by decide +kernel
theorem dL_law_638 : decode cL_law 638 = .ok (.iconst 1, 1) := by decide +kernel
theorem dL_law_639 : decode cL_law 639 = .ok (.iadd, 1) := by decide +kernel
theorem dL_law_640 : decode cL_law 640 = .ok (.iaload, 1) := by decide +kernel
theorem dL_law_641 : decode cL_law 641 = .ok (.aload_n 0, 1) := by decide +kernel
theorem dL_law_642 : decode cL_law 642 = .ok (.iload 4, 2) := by decide +kernel
theorem dL_law_644 : decode cL_law 644 = .ok (.iconst 2, 1) := by decide +kernel
theorem dL_law_645 : decode cL_law 645 = .ok (.iadd, 1) := by decide +kernel
theorem dL_law_646 : decode cL_law 646 = .ok (.iaload, 1) := by decide +kernel
theorem dL_law_647 : decode cL_law 647 = .ok (.aload_n 3, 1) := by decide +kernel
theorem dL_law_648 : decode cL_law 648 = .ok (.invokestatic 95, 3) := by decide +kernel
theorem dL_law_651 : decode cL_law 651 = .ok (.istore 5, 2) := by decide +kernel
theorem dL_law_653 : decode cL_law 653 = .ok (.aload_n 2, 1) := by decide +kernel
theorem dL_law_654 : decode cL_law 654 = .ok (.aload_n 0, 1) := by decide +kernel
theorem dL_law_655 : decode cL_law 655 = .ok (.iload 4, 2) := by decide +kernel
theorem dL_law_657 : decode cL_law 657 = .ok (.iconst 1, 1) := by decide +kernel
theorem dL_law_658 : decode cL_law 658 = .ok (.iadd, 1) := by decide +kernel
theorem dL_law_659 : decode cL_law 659 = .ok (.iaload, 1) := by decide +kernel
theorem dL_law_660 : decode cL_law 660 = .ok (.aload_n 0, 1) := by decide +kernel
theorem dL_law_661 : decode cL_law 661 = .ok (.iload 4, 2) := by decide +kernel
theorem dL_law_663 : decode cL_law 663 = .ok (.iconst 2, 1) := by decide +kernel
theorem dL_law_664 : decode cL_law 664 = .ok (.iadd, 1) := by decide +kernel
theorem dL_law_665 : decode cL_law 665 = .ok (.iaload, 1) := by decide +kernel
theorem dL_law_666 : decode cL_law 666 = .ok (.invokevirtual 97, 3) := by decide +kernel
theorem dL_law_669 : decode cL_law 669 = .ok (.istore 6, 2) := by decide +kernel
theorem dL_law_671 : decode cL_law 671 = .ok (.aload_n 2, 1) := by decide +kernel
theorem dL_law_672 : decode cL_law 672 = .ok (.invokevirtual 71, 3) := by decide +kernel
theorem dL_law_675 : decode cL_law 675 = .ok (.iload 5, 2) := by decide +kernel
theorem dL_law_677 : decode cL_law 677 = .ok (.if_icmp .eq 5, 3) := by decide +kernel
theorem dL_law_680 : decode cL_law 680 = .ok (.iconst 0, 1) := by decide +kernel
theorem dL_law_681 : decode cL_law 681 = .ok (.ireturn, 1) := by decide +kernel
theorem dL_law_682 : decode cL_law 682 = .ok (.iload 5, 2) := by decide +kernel
theorem dL_law_684 : decode cL_law 684 = .ok (.ifCond .ne 15, 3) := by decide +kernel
theorem dL_law_687 : decode cL_law 687 = .ok (.aload_n 3, 1) := by decide +kernel
theorem dL_law_688 : decode cL_law 688 = .ok (.iconst 0, 1) := by decide +kernel
theorem dL_law_689 : decode cL_law 689 = .ok (.laload, 1) := by decide +kernel
theorem dL_law_690 : decode cL_law 690 = .ok (.iload 6, 2) := by decide +kernel
theorem dL_law_692 : decode cL_law 692 = .ok (.i2l, 1) := by decide +kernel
theorem dL_law_693 : decode cL_law 693 = .ok (.lcmp, 1) := by decide +kernel
theorem dL_law_694 : decode cL_law 694 = .ok (.ifCond .eq 5, 3) := by decide +kernel
theorem dL_law_697 : decode cL_law 697 = .ok (.iconst 0, 1) := by decide +kernel
theorem dL_law_698 : decode cL_law 698 = .ok (.ireturn, 1) := by decide +kernel
theorem dL_law_699 : decode cL_law 699 = .ok (.goto 305, 3) := by decide +kernel
theorem dL_law_702 : decode cL_law 702 = .ok (.aload_n 1, 1) := by decide +kernel
theorem dL_law_703 : decode cL_law 703 = .ok (.invokevirtual 98, 3) := by decide +kernel
theorem dL_law_706 : decode cL_law 706 = .ok (.aload_n 2, 1) := by decide +kernel
theorem dL_law_707 : decode cL_law 707 = .ok (.invokevirtual 101, 3) := by decide +kernel
theorem dL_law_710 : decode cL_law 710 = .ok (.if_icmp .eq 294, 3) := by decide +kernel
theorem dL_law_713 : decode cL_law 713 = .ok (.iconst 0, 1) := by decide +kernel
theorem dL_law_714 : decode cL_law 714 = .ok (.ireturn, 1) := by decide +kernel
theorem dL_law_715 : decode cL_law 715 = .ok (.aload_n 1, 1) := by decide +kernel
theorem dL_law_716 : decode cL_law 716 = .ok (.aload_n 0, 1) := by decide +kernel
theorem dL_law_717 : decode cL_law 717 = .ok (.iload 4, 2) := by decide +kernel
theorem dL_law_719 : decode cL_law 719 = .ok (.iconst 1, 1) := by decide +kernel
theorem dL_law_720 : decode cL_law 720 = .ok (.iadd, 1) := by decide +kernel
theorem dL_law_721 : decode cL_law 721 = .ok (.iaload, 1) := by decide +kernel
theorem dL_law_722 : decode cL_law 722 = .ok (.aload_n 0, 1) := by decide +kernel
theorem dL_law_723 : decode cL_law 723 = .ok (.iload 4, 2) := by decide +kernel
theorem dL_law_725 : decode cL_law 725 = .ok (.iconst 2, 1) := by decide +kernel
theorem dL_law_726 : decode cL_law 726 = .ok (.iadd, 1) := by decide +kernel
theorem dL_law_727 : decode cL_law 727 = .ok (.iaload, 1) := by decide +kernel
theorem dL_law_728 : decode cL_law 728 = .ok (.aload_n 3, 1) := by decide +kernel
theorem dL_law_729 : decode cL_law 729 = .ok (.invokestatic 102, 3) := by decide +kernel
theorem dL_law_732 : decode cL_law 732 = .ok (.istore 5, 2) := by decide +kernel
theorem dL_law_734 : decode cL_law 734 = .ok (.aload_n 2, 1) := by decide +kernel
theorem dL_law_735 : decode cL_law 735 = .ok (.aload_n 0, 1) := by decide +kernel
theorem dL_law_736 : decode cL_law 736 = .ok (.iload 4, 2) := by decide +kernel
theorem dL_law_738 : decode cL_law 738 = .ok (.iconst 1, 1) := by decide +kernel
theorem dL_law_739 : decode cL_law 739 = .ok (.iadd, 1) := by decide +kernel
theorem dL_law_740 : decode cL_law 740 = .ok (.iaload, 1) := by decide +kernel
theorem dL_law_741 : decode cL_law 741 = .ok (.aload_n 0, 1) := by decide +kernel
theorem dL_law_742 : decode cL_law 742 = .ok (.iload 4, 2) := by decide +kernel
theorem dL_law_744 : decode cL_law 744 = .ok (.iconst 2, 1) := by decide +kernel
theorem dL_law_745 : decode cL_law 745 = .ok (.iadd, 1) := by decide +kernel
theorem dL_law_746 : decode cL_law 746 = .ok (.iaload, 1) := by decide +kernel
theorem dL_law_747 : decode cL_law 747 = .ok (.invokevirtual 104, 3) := by decide +kernel
theorem dL_law_750 : decode cL_law 750 = .ok (.istore 6, 2) := by decide +kernel
theorem dL_law_752 : decode cL_law 752 = .ok (.aload_n 2, 1) := by decide +kernel
theorem dL_law_753 : decode cL_law 753 = .ok (.invokevirtual 71, 3) := by decide +kernel
theorem dL_law_756 : decode cL_law 756 = .ok (.iload 5, 2) := by decide +kernel
theorem dL_law_758 : decode cL_law 758 = .ok (.if_icmp .eq 5, 3) := by decide +kernel
theorem dL_law_761 : decode cL_law 761 = .ok (.iconst 0, 1) := by decide +kernel
theorem dL_law_762 : decode cL_law 762 = .ok (.ireturn, 1) := by decide +kernel
theorem dL_law_763 : decode cL_law 763 = .ok (.iload 5, 2) := by decide +kernel
theorem dL_law_765 : decode cL_law 765 = .ok (.ifCond .ne 15, 3) := by decide +kernel
theorem dL_law_768 : decode cL_law 768 = .ok (.aload_n 3, 1) := by decide +kernel
theorem dL_law_769 : decode cL_law 769 = .ok (.iconst 0, 1) := by decide +kernel
theorem dL_law_770 : decode cL_law 770 = .ok (.laload, 1) := by decide +kernel
theorem dL_law_771 : decode cL_law 771 = .ok (.iload 6, 2) := by decide +kernel
theorem dL_law_773 : decode cL_law 773 = .ok (.i2l, 1) := by decide +kernel
theorem dL_law_774 : decode cL_law 774 = .ok (.lcmp, 1) := by decide +kernel
theorem dL_law_775 : decode cL_law 775 = .ok (.ifCond .eq 5, 3) := by decide +kernel
theorem dL_law_778 : decode cL_law 778 = .ok (.iconst 0, 1) := by decide +kernel
theorem dL_law_779 : decode cL_law 779 = .ok (.ireturn, 1) := by decide +kernel
theorem dL_law_780 : decode cL_law 780 = .ok (.goto 224, 3) := by decide +kernel
theorem dL_law_783 : decode cL_law 783 = .ok (.aload_n 1, 1) := by decide +kernel
theorem dL_law_784 : decode cL_law 784 = .ok (.aload_n 0, 1) := by decide +kernel
theorem dL_law_785 : decode cL_law 785 = .ok (.iload 4, 2) := by decide +kernel
theorem dL_law_787 : decode cL_law 787 = .ok (.iconst 1, 1) := by decide +kernel
theorem dL_law_788 : decode cL_law 788 = .ok (.iadd, 1) := by decide +kernel
theorem dL_law_789 : decode cL_law 789 = .ok (.iaload, 1) := by decide +kernel
theorem dL_law_790 : decode cL_law 790 = .ok (.aload_n 0, 1) := by decide +kernel
theorem dL_law_791 : decode cL_law 791 = .ok (.iload 4, 2) := by decide +kernel
theorem dL_law_793 : decode cL_law 793 = .ok (.iconst 2, 1) := by decide +kernel
theorem dL_law_794 : decode cL_law 794 = .ok (.iadd, 1) := by decide +kernel
theorem dL_law_795 : decode cL_law 795 = .ok (.iaload, 1) := by decide +kernel
theorem dL_law_796 : decode cL_law 796 = .ok (.aload_n 0, 1) := by decide +kernel
theorem dL_law_797 : decode cL_law 797 = .ok (.iload 4, 2) := by decide +kernel
theorem dL_law_799 : decode cL_law 799 = .ok (.iconst 3, 1) := by decide +kernel
theorem dL_law_800 : decode cL_law 800 = .ok (.iadd, 1) := by decide +kernel
theorem dL_law_801 : decode cL_law 801 = .ok (.iaload, 1) := by decide +kernel
theorem dL_law_802 : decode cL_law 802 = .ok (.invokestatic 105, 3) := by decide +kernel
theorem dL_law_805 : decode cL_law 805 = .ok (.istore 5, 2) := by decide +kernel
theorem dL_law_807 : decode cL_law 807 = .ok (.aload_n 2, 1) := by decide +kernel
theorem dL_law_808 : decode cL_law 808 = .ok (.aload_n 0, 1) := by decide +kernel
theorem dL_law_809 : decode cL_law 809 = .ok (.iload 4, 2) := by decide +kernel
theorem dL_law_811 : decode cL_law 811 = .ok (.iconst 1, 1) := by decide +kernel
theorem dL_law_812 : decode cL_law 812 = .ok (.iadd, 1) := by decide +kernel
theorem dL_law_813 : decode cL_law 813 = .ok (.iaload, 1) := by decide +kernel
theorem dL_law_814 : decode cL_law 814 = .ok (.aload_n 0, 1) := by decide +kernel
theorem dL_law_815 : decode cL_law 815 = .ok (.iload 4, 2) := by decide +kernel
theorem dL_law_817 : decode cL_law 817 = .ok (.iconst 2, 1) := by decide +kernel
theorem dL_law_818 : decode cL_law 818 = .ok (.iadd, 1) := by decide +kernel
theorem dL_law_819 : decode cL_law 819 = .ok (.iaload, 1) := by decide +kernel
theorem dL_law_820 : decode cL_law 820 = .ok (.aload_n 0, 1) := by decide +kernel
theorem dL_law_821 : decode cL_law 821 = .ok (.iload 4, 2) := by decide +kernel
theorem dL_law_823 : decode cL_law 823 = .ok (.iconst 3, 1) := by decide +kernel
theorem dL_law_824 : decode cL_law 824 = .ok (.iadd, 1) := by decide +kernel
theorem dL_law_825 : decode cL_law 825 = .ok (.iaload, 1) := by decide +kernel
theorem dL_law_826 : decode cL_law 826 = .ok (.invokevirtual 108, 3) := by decide +kernel
theorem dL_law_829 : decode cL_law 829 = .ok (.aload_n 2, 1) := by decide +kernel
theorem dL_law_830 : decode cL_law 830 = .ok (.invokevirtual 71, 3) := by decide +kernel
theorem dL_law_833 : decode cL_law 833 = .ok (.iload 5, 2) := by decide +kernel
theorem dL_law_835 : decode cL_law 835 = .ok (.if_icmp .eq 5, 3) := by decide +kernel
theorem dL_law_838 : decode cL_law 838 = .ok (.iconst 0, 1) := by decide +kernel
theorem dL_law_839 : decode cL_law 839 = .ok (.ireturn, 1) := by decide +kernel
theorem dL_law_840 : decode cL_law 840 = .ok (.goto 164, 3) := by decide +kernel
theorem dL_law_843 : decode cL_law 843 = .ok (.aload_n 1, 1) := by decide +kernel
theorem dL_law_844 : decode cL_law 844 = .ok (.aload_n 3, 1) := by decide +kernel
theorem dL_law_845 : decode cL_law 845 = .ok (.invokestatic 109, 3) := by decide +kernel
theorem dL_law_848 : decode cL_law 848 = .ok (.istore 5, 2) := by decide +kernel
theorem dL_law_850 : decode cL_law 850 = .ok (.aload_n 2, 1) := by decide +kernel
theorem dL_law_851 : decode cL_law 851 = .ok (.invokevirtual 112, 3) := by decide +kernel
theorem dL_law_854 : decode cL_law 854 = .ok (.istore 6, 2) := by decide +kernel
theorem dL_law_856 : decode cL_law 856 = .ok (.aload_n 2, 1) := by decide +kernel
theorem dL_law_857 : decode cL_law 857 = .ok (.invokevirtual 71, 3) := by decide +kernel
theorem dL_law_860 : decode cL_law 860 = .ok (.iload 5, 2) := by decide +kernel
theorem dL_law_862 : decode cL_law 862 = .ok (.if_icmp .eq 5, 3) := by decide +kernel
theorem dL_law_865 : decode cL_law 865 = .ok (.iconst 0, 1) := by decide +kernel
theorem dL_law_866 : decode cL_law 866 = .ok (.ireturn, 1) := by decide +kernel
theorem dL_law_867 : decode cL_law 867 = .ok (.iload 5, 2) := by decide +kernel
theorem dL_law_869 : decode cL_law 869 = .ok (.ifCond .ne 15, 3) := by decide +kernel
theorem dL_law_872 : decode cL_law 872 = .ok (.aload_n 3, 1) := by decide +kernel
theorem dL_law_873 : decode cL_law 873 = .ok (.iconst 0, 1) := by decide +kernel
theorem dL_law_874 : decode cL_law 874 = .ok (.laload, 1) := by decide +kernel
theorem dL_law_875 : decode cL_law 875 = .ok (.iload 6, 2) := by decide +kernel
theorem dL_law_877 : decode cL_law 877 = .ok (.i2l, 1) := by decide +kernel
theorem dL_law_878 : decode cL_law 878 = .ok (.lcmp, 1) := by decide +kernel
theorem dL_law_879 : decode cL_law 879 = .ok (.ifCond .eq 5, 3) := by decide +kernel
theorem dL_law_882 : decode cL_law 882 = .ok (.iconst 0, 1) := by decide +kernel
theorem dL_law_883 : decode cL_law 883 = .ok (.ireturn, 1) := by decide +kernel
theorem dL_law_884 : decode cL_law 884 = .ok (.goto 120, 3) := by decide +kernel
theorem dL_law_887 : decode cL_law 887 = .ok (.aload_n 1, 1) := by decide +kernel
theorem dL_law_888 : decode cL_law 888 = .ok (.aload_n 0, 1) := by decide +kernel
theorem dL_law_889 : decode cL_law 889 = .ok (.iload 4, 2) := by decide +kernel
theorem dL_law_891 : decode cL_law 891 = .ok (.iconst 1, 1) := by decide +kernel
theorem dL_law_892 : decode cL_law 892 = .ok (.iadd, 1) := by decide +kernel
theorem dL_law_893 : decode cL_law 893 = .ok (.iaload, 1) := by decide +kernel
theorem dL_law_894 : decode cL_law 894 = .ok (.invokevirtual 113, 3) := by decide +kernel
theorem dL_law_897 : decode cL_law 897 = .ok (.aload_n 2, 1) := by decide +kernel
theorem dL_law_898 : decode cL_law 898 = .ok (.aload_n 0, 1) := by decide +kernel
theorem dL_law_899 : decode cL_law 899 = .ok (.iload 4, 2) := by decide +kernel
theorem dL_law_901 : decode cL_law 901 = .ok (.iconst 1, 1) := by decide +kernel
theorem dL_law_902 : decode cL_law 902 = .ok (.iadd, 1) := by decide +kernel
theorem dL_law_903 : decode cL_law 903 = .ok (.iaload, 1) := by decide +kernel
theorem dL_law_904 : decode cL_law 904 = .ok (.invokevirtual 117, 3) := by decide +kernel
theorem dL_law_907 : decode cL_law 907 = .ok (.if_icmp .eq 97, 3) := by decide +kernel
theorem dL_law_910 : decode cL_law 910 = .ok (.iconst 0, 1) := by decide +kernel
theorem dL_law_911 : decode cL_law 911 = .ok (.ireturn, 1) := by decide +kernel
theorem dL_law_912 : decode cL_law 912 = .ok (.aload_n 1, 1) := by decide +kernel
theorem dL_law_913 : decode cL_law 913 = .ok (.aload_n 0, 1) := by decide +kernel
theorem dL_law_914 : decode cL_law 914 = .ok (.iload 4, 2) := by decide +kernel
theorem dL_law_916 : decode cL_law 916 = .ok (.iconst 1, 1) := by decide +kernel
theorem dL_law_917 : decode cL_law 917 = .ok (.iadd, 1) := by decide +kernel
theorem dL_law_918 : decode cL_law 918 = .ok (.iaload, 1) := by decide +kernel
theorem dL_law_919 : decode cL_law 919 = .ok (.aload_n 0, 1) := by decide +kernel
theorem dL_law_920 : decode cL_law 920 = .ok (.iload 4, 2) := by decide +kernel
theorem dL_law_922 : decode cL_law 922 = .ok (.iconst 2, 1) := by decide +kernel
theorem dL_law_923 : decode cL_law 923 = .ok (.iadd, 1) := by decide +kernel
theorem dL_law_924 : decode cL_law 924 = .ok (.iaload, 1) := by decide +kernel
theorem dL_law_925 : decode cL_law 925 = .ok (.aload_n 3, 1) := by decide +kernel
theorem dL_law_926 : decode cL_law 926 = .ok (.invokestatic 118, 3) := by decide +kernel
theorem dL_law_929 : decode cL_law 929 = .ok (.istore 5, 2) := by decide +kernel
theorem dL_law_931 : decode cL_law 931 = .ok (.aload_n 2, 1) := by decide +kernel
theorem dL_law_932 : decode cL_law 932 = .ok (.aload_n 0, 1) := by decide +kernel
theorem dL_law_933 : decode cL_law 933 = .ok (.iload 4, 2) := by decide +kernel
theorem dL_law_935 : decode cL_law 935 = .ok (.iconst 1, 1) := by decide +kernel
theorem dL_law_936 : decode cL_law 936 = .ok (.iadd, 1) := by decide +kernel
theorem dL_law_937 : decode cL_law 937 = .ok (.iaload, 1) := by decide +kernel
theorem dL_law_938 : decode cL_law 938 = .ok (.aload_n 0, 1) := by decide +kernel
theorem dL_law_939 : decode cL_law 939 = .ok (.iload 4, 2) := by decide +kernel
theorem dL_law_941 : decode cL_law 941 = .ok (.iconst 2, 1) := by decide +kernel
theorem dL_law_942 : decode cL_law 942 = .ok (.iadd, 1) := by decide +kernel
theorem dL_law_943 : decode cL_law 943 = .ok (.iaload, 1) := by decide +kernel
theorem dL_law_944 : decode cL_law 944 = .ok (.invokevirtual 120, 3) := by decide +kernel
theorem dL_law_947 : decode cL_law 947 = .ok (.lstore 6, 2) := by decide +kernel
theorem dL_law_949 : decode cL_law 949 = .ok (.aload_n 2, 1) := by decide +kernel
theorem dL_law_950 : decode cL_law 950 = .ok (.invokevirtual 71, 3) := by decide +kernel
theorem dL_law_953 : decode cL_law 953 = .ok (.iload 5, 2) := by decide +kernel
theorem dL_law_955 : decode cL_law 955 = .ok (.if_icmp .eq 5, 3) := by decide +kernel
theorem dL_law_958 : decode cL_law 958 = .ok (.iconst 0, 1) := by decide +kernel
theorem dL_law_959 : decode cL_law 959 = .ok (.ireturn, 1) := by decide +kernel
theorem dL_law_960 : decode cL_law 960 = .ok (.iload 5, 2) := by decide +kernel
theorem dL_law_962 : decode cL_law 962 = .ok (.ifCond .ne 14, 3) := by decide +kernel
theorem dL_law_965 : decode cL_law 965 = .ok (.aload_n 3, 1) := by decide +kernel
theorem dL_law_966 : decode cL_law 966 = .ok (.iconst 0, 1) := by decide +kernel
theorem dL_law_967 : decode cL_law 967 = .ok (.laload, 1) := by decide +kernel
theorem dL_law_968 : decode cL_law 968 = .ok (.lload 6, 2) := by decide +kernel
theorem dL_law_970 : decode cL_law 970 = .ok (.lcmp, 1) := by decide +kernel
theorem dL_law_971 : decode cL_law 971 = .ok (.ifCond .eq 5, 3) := by decide +kernel
theorem dL_law_974 : decode cL_law 974 = .ok (.iconst 0, 1) := by decide +kernel
theorem dL_law_975 : decode cL_law 975 = .ok (.ireturn, 1) := by decide +kernel
theorem dL_law_976 : decode cL_law 976 = .ok (.goto 28, 3) := by decide +kernel
theorem dL_law_979 : decode cL_law 979 = .ok (.aload_n 1, 1) := by decide +kernel
theorem dL_law_980 : decode cL_law 980 = .ok (.aload_n 0, 1) := by decide +kernel
theorem dL_law_981 : decode cL_law 981 = .ok (.iload 4, 2) := by decide +kernel
theorem dL_law_983 : decode cL_law 983 = .ok (.iconst 1, 1) := by decide +kernel
theorem dL_law_984 : decode cL_law 984 = .ok (.iadd, 1) := by decide +kernel
theorem dL_law_985 : decode cL_law 985 = .ok (.iaload, 1) := by decide +kernel
theorem dL_law_986 : decode cL_law 986 = .ok (.invokevirtual 121, 3) := by decide +kernel
theorem dL_law_989 : decode cL_law 989 = .ok (.aload_n 2, 1) := by decide +kernel
theorem dL_law_990 : decode cL_law 990 = .ok (.aload_n 0, 1) := by decide +kernel
theorem dL_law_991 : decode cL_law 991 = .ok (.iload 4, 2) := by decide +kernel
theorem dL_law_993 : decode cL_law 993 = .ok (.iconst 1, 1) := by decide +kernel
theorem dL_law_994 : decode cL_law 994 = .ok (.iadd, 1) := by decide +kernel
theorem dL_law_995 : decode cL_law 995 = .ok (.iaload, 1) := by decide +kernel
theorem dL_law_996 : decode cL_law 996 = .ok (.invokevirtual 124, 3) := by decide +kernel
theorem dL_law_999 : decode cL_law 999 = .ok (.if_icmp .eq 5, 3) := by decide +kernel
theorem dL_law_1002 : decode cL_law 1002 = .ok (.iconst 0, 1) := by decide +kernel
theorem dL_law_1003 : decode cL_law 1003 = .ok (.ireturn, 1) := by decide +kernel
theorem dL_law_1004 : decode cL_law 1004 = .ok (.iinc 4 4, 3) := by decide +kernel
theorem dL_law_1007 : decode cL_law 1007 = .ok (.goto (-984), 3) := by decide +kernel
theorem dL_law_1010 : decode cL_law 1010 = .ok (.iconst 1, 1) := by decide +kernel
theorem dL_law_1011 : decode cL_law 1011 = .ok (.ireturn, 1) := by decide +kernel
