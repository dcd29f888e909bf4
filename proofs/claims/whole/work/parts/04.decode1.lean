theorem dX0_init_0 : decode cX0_init 0 = .ok (.aload_n 0, 1) := by decide +kernel
theorem dX0_init_1 : decode cX0_init 1 = .ok (.invokespecial 3, 3) := by decide +kernel
theorem dX0_init_4 : decode cX0_init 4 = .ok (.aload_n 0, 1) := by decide +kernel
theorem dX0_init_5 : decode cX0_init 5 = .ok (.iconst 4, 1) := by decide +kernel
theorem dX0_init_6 : decode cX0_init 6 = .ok (.newarray .long, 2) := by decide +kernel
theorem dX0_init_8 : decode cX0_init 8 = .ok (.putfield 9, 3) := by decide +kernel
theorem dX0_init_11 : decode cX0_init 11 = .ok (.return_, 1) := by decide +kernel
theorem dX0_wipe_0 : decode cX0_wipe 0 = .ok (.aload_n 0, 1) := by decide +kernel
theorem dX0_wipe_1 : decode cX0_wipe 1 = .ok (.getfield 9, 3) := by decide +kernel
theorem dX0_wipe_4 : decode cX0_wipe 4 = .ok (.lconst 0, 1) := by decide +kernel
theorem dX0_wipe_5 : decode cX0_wipe 5 = .ok (.invokestatic 15, 3) := by decide +kernel
theorem dX0_wipe_8 : decode cX0_wipe 8 = .ok (.return_, 1) := by decide +kernel
theorem dX0_word_0 : decode cX0_word 0 = .ok (.iload_n 1, 1) := by decide +kernel
theorem dX0_word_1 : decode cX0_word 1 = .ok (.ifCond .lt 17, 3) := by decide +kernel
theorem dX0_word_4 : decode cX0_word 4 = .ok (.iload_n 1, 1) := by decide +kernel
theorem dX0_word_5 : decode cX0_word 5 = .ok (.iconst 4, 1) := by decide +kernel
theorem dX0_word_6 : decode cX0_word 6 = .ok (.if_icmp .ge 12, 3) := by decide +kernel
theorem dX0_word_9 : decode cX0_word 9 = .ok (.aload_n 0, 1) := by decide +kernel
theorem dX0_word_10 : decode cX0_word 10 = .ok (.getfield 9, 3) := by decide +kernel
theorem dX0_word_13 : decode cX0_word 13 = .ok (.iload_n 1, 1) := by decide +kernel
theorem dX0_word_14 : decode cX0_word 14 = .ok (.laload, 1) := by decide +kernel
theorem dX0_word_15 : decode cX0_word 15 = .ok (.goto 4, 3) := by decide +kernel
theorem dX0_word_18 : decode cX0_word 18 = .ok (.lconst 0, 1) := by decide +kernel
theorem dX0_word_19 : decode cX0_word 19 = .ok (.lreturn, 1) := by decide +kernel
theorem dX0_setWord_0 : decode cX0_setWord 0 = .ok (.iload_n 1, 1) := by decide +kernel
theorem dX0_setWord_1 : decode cX0_setWord 1 = .ok (.ifCond .lt 15, 3) := by decide +kernel
theorem dX0_setWord_4 : decode cX0_setWord 4 = .ok (.iload_n 1, 1) := by decide +kernel
theorem dX0_setWord_5 : decode cX0_setWord 5 = .ok (.iconst 4, 1) := by decide +kernel
theorem dX0_setWord_6 : decode cX0_setWord 6 = .ok (.if_icmp .ge 10, 3) := by decide +kernel
theorem dX0_setWord_9 : decode cX0_setWord 9 = .ok (.aload_n 0, 1) := by decide +kernel
theorem dX0_setWord_10 : decode cX0_setWord 10 = .ok (.getfield 9, 3) := by decide +kernel
theorem dX0_setWord_13 : decode cX0_setWord 13 = .ok (.iload_n 1, 1) := by decide +kernel
theorem dX0_setWord_14 : decode cX0_setWord 14 = .ok (.lload_n 2, 1) := by decide +kernel
theorem dX0_setWord_15 : decode cX0_setWord 15 = .ok (.lastore, 1) := by decide +kernel
theorem dX0_setWord_16 : decode cX0_setWord 16 = .ok (.return_, 1) := by decide +kernel
theorem dX0_setNumber_0 : decode cX0_setNumber 0 = .ok (.iload_n 1, 1) := by decide +kernel
theorem dX0_setNumber_1 : decode cX0_setNumber 1 = .ok (.ifCond .lt 31, 3) := by decide +kernel
theorem dX0_setNumber_4 : decode cX0_setNumber 4 = .ok (.iload_n 1, 1) := by decide +kernel
theorem dX0_setNumber_5 : decode cX0_setNumber 5 = .ok (.bipush 16, 2) := by decide +kernel
theorem dX0_setNumber_7 : decode cX0_setNumber 7 = .ok (.if_icmp .ge 25, 3) := by decide +kernel
theorem dX0_setNumber_10 : decode cX0_setNumber 10 = .ok (.aload_n 0, 1) := by decide +kernel
theorem dX0_setNumber_11 : decode cX0_setNumber 11 = .ok (.getfield 9, 3) := by decide +kernel
theorem dX0_setNumber_14 : decode cX0_setNumber 14 = .ok (.iload_n 1, 1) := by decide +kernel
theorem dX0_setNumber_15 : decode cX0_setNumber 15 = .ok (.iconst 4, 1) := by decide +kernel
theorem dX0_setNumber_16 : decode cX0_setNumber 16 = .ok (.idiv, 1) := by decide +kernel
theorem dX0_setNumber_17 : decode cX0_setNumber 17 = .ok (.dup2, 1) := by decide +kernel
theorem dX0_setNumber_18 : decode cX0_setNumber 18 = .ok (.laload, 1) := by decide +kernel
theorem dX0_setNumber_19 : decode cX0_setNumber 19 = .ok (.iload_n 2, 1) := by decide +kernel
theorem dX0_setNumber_20 : decode cX0_setNumber 20 = .ok (.i2l, 1) := by decide +kernel
theorem dX0_setNumber_21 : decode cX0_setNumber 21 = .ok (.ldc2_w 21, 3) := by decide +kernel
theorem dX0_setNumber_24 : decode cX0_setNumber 24 = .ok (.land, 1) := by decide +kernel
theorem dX0_setNumber_25 : decode cX0_setNumber 25 = .ok (.iload_n 1, 1) := by decide +kernel
theorem dX0_setNumber_26 : decode cX0_setNumber 26 = .ok (.invokestatic 23, 3) := by decide +kernel
theorem dX0_setNumber_29 : decode cX0_setNumber 29 = .ok (.lshl, 1) := by decide +kernel
theorem dX0_setNumber_30 : decode cX0_setNumber 30 = .ok (.lor, 1) := by decide +kernel
theorem dX0_setNumber_31 : decode cX0_setNumber 31 = .ok (.lastore, 1) := by decide +kernel
theorem dX0_setNumber_32 : decode cX0_setNumber 32 = .ok (.return_, 1) := by decide +kernel
theorem dX1_init_0 : decode cX1_init 0 = .ok (.aload_n 0, 1) := by decide +kernel
theorem dX1_init_1 : decode cX1_init 1 = .ok (.invokespecial 3, 3) := by decide +kernel
theorem dX1_init_4 : decode cX1_init 4 = .ok (.aload_n 0, 1) := by decide +kernel
theorem dX1_init_5 : decode cX1_init 5 = .ok (.sipush 3000, 3) := by decide +kernel
theorem dX1_init_8 : decode cX1_init 8 = .ok (.newarray .long, 2) := by decide +kernel
theorem dX1_init_10 : decode cX1_init 10 = .ok (.putfield 9, 3) := by decide +kernel
theorem dX1_init_13 : decode cX1_init 13 = .ok (.aload_n 0, 1) := by decide +kernel
theorem dX1_init_14 : decode cX1_init 14 = .ok (.iconst 5, 1) := by decide +kernel
theorem dX1_init_15 : decode cX1_init 15 = .ok (.newarray .int, 2) := by decide +kernel
theorem dX1_init_17 : decode cX1_init 17 = .ok (.putfield 15, 3) := by decide +kernel
theorem dX1_init_20 : decode cX1_init 20 = .ok (.aload_n 0, 1) := by decide +kernel
theorem dX1_init_21 : decode cX1_init 21 = .ok (.iconst (-1), 1) := by decide +kernel
theorem dX1_init_22 : decode cX1_init 22 = .ok (.putfield 19, 3) := by decide +kernel
theorem dX1_init_25 : decode cX1_init 25 = .ok (.return_, 1) := by decide +kernel
theorem dX1_wipe_0 : decode cX1_wipe 0 = .ok (.aload_n 0, 1) := by decide +kernel
theorem dX1_wipe_1 : decode cX1_wipe 1 = .ok (.getfield 9, 3) := by decide +kernel
theorem dX1_wipe_4 : decode cX1_wipe 4 = .ok (.lconst 0, 1) := by decide +kernel
theorem dX1_wipe_5 : decode cX1_wipe 5 = .ok (.invokestatic 23, 3) := by decide +kernel
theorem dX1_wipe_8 : decode cX1_wipe 8 = .ok (.aload_n 0, 1) := by decide +kernel
theorem dX1_wipe_9 : decode cX1_wipe 9 = .ok (.getfield 15, 3) := by decide +kernel
theorem dX1_wipe_12 : decode cX1_wipe 12 = .ok (.sipush 150, 3) := by decide +kernel
theorem dX1_wipe_15 : decode cX1_wipe 15 = .ok (.invokestatic 29, 3) := by decide +kernel
theorem dX1_wipe_18 : decode cX1_wipe 18 = .ok (.aload_n 0, 1) := by decide +kernel
theorem dX1_wipe_19 : decode cX1_wipe 19 = .ok (.iconst (-1), 1) := by decide +kernel
theorem dX1_wipe_20 : decode cX1_wipe 20 = .ok (.putfield 19, 3) := by decide +kernel
theorem dX1_wipe_23 : decode cX1_wipe 23 = .ok (.aload_n 0, 1) := by decide +kernel
theorem dX1_wipe_24 : decode cX1_wipe 24 = .ok (.iconst 0, 1) := by decide +kernel
theorem dX1_wipe_25 : decode cX1_wipe 25 = .ok (.putfield 32, 3) := by decide +kernel
theorem dX1_wipe_28 : decode cX1_wipe 28 = .ok (.aload_n 0, 1) := by decide +kernel
theorem dX1_wipe_29 : decode cX1_wipe 29 = .ok (.iconst 0, 1) := by decide +kernel
theorem dX1_wipe_30 : decode cX1_wipe 30 = .ok (.putfield 36, 3) := by decide +kernel
theorem dX1_wipe_33 : decode cX1_wipe 33 = .ok (.aload_n 0, 1) := by decide +kernel
theorem dX1_wipe_34 : decode cX1_wipe 34 = .ok (.iconst 0, 1) := by decide +kernel
theorem dX1_wipe_35 : decode cX1_wipe 35 = .ok (.putfield 39, 3) := by decide +kernel
theorem dX1_wipe_38 : decode cX1_wipe 38 = .ok (.return_, 1) := by decide +kernel
theorem dX1_isBroken_0 : decode cX1_isBroken 0 = .ok (.aload_n 0, 1) := by decide +kernel
theorem dX1_isBroken_1 : decode cX1_isBroken 1 = .ok (.getfield 36, 3) := by decide +kernel
theorem dX1_isBroken_4 : decode cX1_isBroken 4 = .ok (.ireturn, 1) := by decide +kernel
theorem dX1_unsound_0 : decode cX1_unsound 0 = .ok (.aload_n 0, 1) := by decide +kernel
theorem dX1_unsound_1 : decode cX1_unsound 1 = .ok (.getfield 19, 3) := by decide +kernel
theorem dX1_unsound_4 : decode cX1_unsound 4 = .ok (.ireturn, 1) := by decide +kernel
theorem dX1_hasFailed_0 : decode cX1_hasFailed 0 = .ok (.aload_n 0, 1) := by decide +kernel
theorem dX1_hasFailed_1 : decode cX1_hasFailed 1 = .ok (.getfield 32, 3) := by decide +kernel
theorem dX1_hasFailed_4 : decode cX1_hasFailed 4 = .ok (.ifCond .eq 15, 3) := by decide +kernel
theorem dX1_hasFailed_7 : decode cX1_hasFailed 7 = .ok (.iload_n 1, 1) := by decide +kernel
theorem dX1_hasFailed_8 : decode cX1_hasFailed 8 = .ok (.aload_n 0, 1) := by decide +kernel
theorem dX1_hasFailed_9 : decode cX1_hasFailed 9 = .ok (.getfield 19, 3) := by decide +kernel
theorem dX1_hasFailed_12 : decode cX1_hasFailed 12 = .ok (.if_icmp .ne 7, 3) := by decide +kernel
theorem dX1_hasFailed_15 : decode cX1_hasFailed 15 = .ok (.iconst 1, 1) := by decide +kernel
theorem dX1_hasFailed_16 : decode cX1_hasFailed 16 = .ok (.goto 4, 3) := by decide +kernel
theorem dX1_hasFailed_19 : decode cX1_hasFailed 19 = .ok (.iconst 0, 1) := by decide +kernel
theorem dX1_hasFailed_20 : decode cX1_hasFailed 20 = .ok (.ireturn, 1) := by decide +kernel
theorem dX1_rebuiltUpTo_0 : decode cX1_rebuiltUpTo 0 = .ok (.aload_n 0, 1) := by decide +kernel
theorem dX1_rebuiltUpTo_1 : decode cX1_rebuiltUpTo 1 = .ok (.getfield 19, 3) := by decide +kernel
theorem dX1_rebuiltUpTo_4 : decode cX1_rebuiltUpTo 4 = .ok (.ifCond .lt 23, 3) := by decide +kernel
theorem dX1_rebuiltUpTo_7 : decode cX1_rebuiltUpTo 7 = .ok (.aload_n 0, 1) := by decide +kernel
theorem dX1_rebuiltUpTo_8 : decode cX1_rebuiltUpTo 8 = .ok (.getfield 19, 3) := by decide +kernel
theorem dX1_rebuiltUpTo_11 : decode cX1_rebuiltUpTo 11 = .ok (.iconst 5, 1) := by decide +kernel
theorem dX1_rebuiltUpTo_12 : decode cX1_rebuiltUpTo 12 = .ok (.if_icmp .ge 15, 3) := by decide +kernel
theorem dX1_rebuiltUpTo_15 : decode cX1_rebuiltUpTo 15 = .ok (.aload_n 0, 1) := by decide +kernel
theorem dX1_rebuiltUpTo_16 : decode cX1_rebuiltUpTo 16 = .ok (.getfield 15, 3) := by decide +kernel
theorem dX1_rebuiltUpTo_19 : decode cX1_rebuiltUpTo 19 = .ok (.aload_n 0, 1) := by decide +kernel
theorem dX1_rebuiltUpTo_20 : decode cX1_rebuiltUpTo 20 = .ok (.getfield 19, 3) := by decide +kernel
theorem dX1_rebuiltUpTo_23 : decode cX1_rebuiltUpTo 23 = .ok (.iaload, 1) := by decide +kernel
theorem dX1_rebuiltUpTo_24 : decode cX1_rebuiltUpTo 24 = .ok (.goto 6, 3) := by decide +kernel
theorem dX1_rebuiltUpTo_27 : decode cX1_rebuiltUpTo 27 = .ok (.sipush 150, 3) := by decide +kernel
theorem dX1_rebuiltUpTo_30 : decode cX1_rebuiltUpTo 30 = .ok (.ireturn, 1) := by decide +kernel
theorem dX1_writings_0 : decode cX1_writings 0 = .ok (.aload_n 0, 1) := by decide +kernel
theorem dX1_writings_1 : decode cX1_writings 1 = .ok (.getfield 39, 3) := by decide +kernel
theorem dX1_writings_4 : decode cX1_writings 4 = .ok (.ireturn, 1) := by decide +kernel
theorem dX1_standing_0 : decode cX1_standing 0 = .ok (.iload_n 1, 1) := by decide +kernel
theorem dX1_standing_1 : decode cX1_standing 1 = .ok (.ifCond .lt 28, 3) := by decide +kernel
theorem dX1_standing_4 : decode cX1_standing 4 = .ok (.iload_n 1, 1) := by decide +kernel
theorem dX1_standing_5 : decode cX1_standing 5 = .ok (.iconst 5, 1) := by decide +kernel
theorem dX1_standing_6 : decode cX1_standing 6 = .ok (.if_icmp .ge 23, 3) := by decide +kernel
theorem dX1_standing_9 : decode cX1_standing 9 = .ok (.iload_n 2, 1) := by decide +kernel
theorem dX1_standing_10 : decode cX1_standing 10 = .ok (.ifCond .lt 19, 3) := by decide +kernel
theorem dX1_standing_13 : decode cX1_standing 13 = .ok (.iload_n 2, 1) := by decide +kernel
theorem dX1_standing_14 : decode cX1_standing 14 = .ok (.sipush 150, 3) := by decide +kernel
theorem dX1_standing_17 : decode cX1_standing 17 = .ok (.if_icmp .ge 12, 3) := by decide +kernel
theorem dX1_standing_20 : decode cX1_standing 20 = .ok (.iload_n 3, 1) := by decide +kernel
theorem dX1_standing_21 : decode cX1_standing 21 = .ok (.ifCond .lt 8, 3) := by decide +kernel
theorem dX1_standing_24 : decode cX1_standing 24 = .ok (.iload_n 3, 1) := by decide +kernel
theorem dX1_standing_25 : decode cX1_standing 25 = .ok (.iconst 4, 1) := by decide +kernel
theorem dX1_standing_26 : decode cX1_standing 26 = .ok (.if_icmp .lt 5, 3) := by decide +kernel
theorem dX1_standing_29 : decode cX1_standing 29 = .ok (.lconst 0, 1) := by decide +kernel
theorem dX1_standing_30 : decode cX1_standing 30 = .ok (.lreturn, 1) := by decide +kernel
theorem dX1_standing_31 : decode cX1_standing 31 = .ok (.aload_n 0, 1) := by decide +kernel
theorem dX1_standing_32 : decode cX1_standing 32 = .ok (.getfield 9, 3) := by decide +kernel
theorem dX1_standing_35 : decode cX1_standing 35 = .ok (.iload_n 1, 1) := by decide +kernel
theorem dX1_standing_36 : decode cX1_standing 36 = .ok (.sipush 600, 3) := by decide +kernel
theorem dX1_standing_39 : decode cX1_standing 39 = .ok (.imul, 1) := by decide +kernel
theorem dX1_standing_40 : decode cX1_standing 40 = .ok (.iload_n 2, 1) := by decide +kernel
theorem dX1_standing_41 : decode cX1_standing 41 = .ok (.iconst 4, 1) := by decide +kernel
theorem dX1_standing_42 : decode cX1_standing 42 = .ok (.imul, 1) := by decide +kernel
theorem dX1_standing_43 : decode cX1_standing 43 = .ok (.iadd, 1) := by decide +kernel
theorem dX1_standing_44 : decode cX1_standing 44 = .ok (.iload_n 3, 1) := by decide +kernel
theorem dX1_standing_45 : decode cX1_standing 45 = .ok (.iadd, 1) := by decide +kernel
theorem dX1_standing_46 : decode cX1_standing 46 = .ok (.laload, 1) := by decide +kernel
theorem dX1_standing_47 : decode cX1_standing 47 = .ok (.lreturn, 1) := by decide +kernel
theorem dX1_word_0 : decode cX1_word 0 = .ok (.iload_n 1, 1) := by decide +kernel
theorem dX1_word_1 : decode cX1_word 1 = .ok (.ifCond .lt 19, 3) := by decide +kernel
theorem dX1_word_4 : decode cX1_word 4 = .ok (.iload_n 1, 1) := by decide +kernel
theorem dX1_word_5 : decode cX1_word 5 = .ok (.sipush 600, 3) := by decide +kernel
theorem dX1_word_8 : decode cX1_word 8 = .ok (.if_icmp .ge 12, 3) := by decide +kernel
theorem dX1_word_11 : decode cX1_word 11 = .ok (.iload_n 2, 1) := by decide +kernel
theorem dX1_word_12 : decode cX1_word 12 = .ok (.ifCond .lt 8, 3) := by decide +kernel
theorem dX1_word_15 : decode cX1_word 15 = .ok (.iload_n 2, 1) := by decide +kernel
theorem dX1_word_16 : decode cX1_word 16 = .ok (.iconst 4, 1) := by decide +kernel
theorem dX1_word_17 : decode cX1_word 17 = .ok (.if_icmp .lt 5, 3) := by decide +kernel
theorem dX1_word_20 : decode cX1_word 20 = .ok (.lconst 0, 1) := by decide +kernel
theorem dX1_word_21 : decode cX1_word 21 = .ok (.lreturn, 1) := by decide +kernel
theorem dX1_word_22 : decode cX1_word 22 = .ok (.aload_n 0, 1) := by decide +kernel
theorem dX1_word_23 : decode cX1_word 23 = .ok (.iload_n 1, 1) := by decide +kernel
theorem dX1_word_24 : decode cX1_word 24 = .ok (.iconst 4, 1) := by decide +kernel
theorem dX1_word_25 : decode cX1_word 25 = .ok (.irem, 1) := by decide +kernel
theorem dX1_word_26 : decode cX1_word 26 = .ok (.iload_n 1, 1) := by decide +kernel
theorem dX1_word_27 : decode cX1_word 27 = .ok (.iconst 4, 1) := by decide +kernel
theorem dX1_word_28 : decode cX1_word 28 = .ok (.idiv, 1) := by decide +kernel
theorem dX1_word_29 : decode cX1_word 29 = .ok (.iconst 4, 1) := by decide +kernel
theorem dX1_word_30 : decode cX1_word 30 = .ok (.imul, 1) := by decide +kernel
theorem dX1_word_31 : decode cX1_word 31 = .ok (.iload_n 2, 1) := by decide +kernel
theorem dX1_word_32 : decode cX1_word 32 = .ok (.iadd, 1) := by decide +kernel
theorem dX1_word_33 : decode cX1_word 33 = .ok (.invokevirtual 42, 3) := by decide +kernel
theorem dX1_word_36 : decode cX1_word 36 = .ok (.lreturn, 1) := by decide +kernel
theorem dX1_number_0 : decode cX1_number 0 = .ok (.iload_n 1, 1) := by decide +kernel
theorem dX1_number_1 : decode cX1_number 1 = .ok (.ifCond .lt 20, 3) := by decide +kernel
theorem dX1_number_4 : decode cX1_number 4 = .ok (.iload_n 1, 1) := by decide +kernel
theorem dX1_number_5 : decode cX1_number 5 = .ok (.sipush 600, 3) := by decide +kernel
theorem dX1_number_8 : decode cX1_number 8 = .ok (.if_icmp .ge 13, 3) := by decide +kernel
theorem dX1_number_11 : decode cX1_number 11 = .ok (.iload_n 2, 1) := by decide +kernel
theorem dX1_number_12 : decode cX1_number 12 = .ok (.ifCond .lt 9, 3) := by decide +kernel
theorem dX1_number_15 : decode cX1_number 15 = .ok (.iload_n 2, 1) := by decide +kernel
theorem dX1_number_16 : decode cX1_number 16 = .ok (.bipush 16, 2) := by decide +kernel
theorem dX1_number_18 : decode cX1_number 18 = .ok (.if_icmp .lt 5, 3) := by decide +kernel
theorem dX1_number_21 : decode cX1_number 21 = .ok (.iconst 0, 1) := by decide +kernel
theorem dX1_number_22 : decode cX1_number 22 = .ok (.ireturn, 1) := by decide +kernel
theorem dX1_number_23 : decode cX1_number 23 = .ok (.aload_n 0, 1) := by decide +kernel
theorem dX1_number_24 : decode cX1_number 24 = .ok (.iload_n 1, 1) := by decide +kernel
theorem dX1_number_25 : decode cX1_number 25 = .ok (.iconst 4, 1) := by decide +kernel
theorem dX1_number_26 : decode cX1_number 26 = .ok (.irem, 1) := by decide +kernel
theorem dX1_number_27 : decode cX1_number 27 = .ok (.iload_n 1, 1) := by decide +kernel
theorem dX1_number_28 : decode cX1_number 28 = .ok (.iconst 4, 1) := by decide +kernel
theorem dX1_number_29 : decode cX1_number 29 = .ok (.idiv, 1) := by decide +kernel
theorem dX1_number_30 : decode cX1_number 30 = .ok (.iconst 4, 1) := by decide +kernel
theorem dX1_number_31 : decode cX1_number 31 = .ok (.imul, 1) := by decide +kernel
theorem dX1_number_32 : decode cX1_number 32 = .ok (.iload_n 2, 1) := by decide +kernel
theorem dX1_number_33 : decode cX1_number 33 = .ok (.iconst 4, 1) := by decide +kernel
theorem dX1_number_34 : decode cX1_number 34 = .ok (.idiv, 1) := by decide +kernel
theorem dX1_number_35 : decode cX1_number 35 = .ok (.iadd, 1) := by decide +kernel
theorem dX1_number_36 : decode cX1_number 36 = .ok (.invokevirtual 42, 3) := by decide +kernel
theorem dX1_number_39 : decode cX1_number 39 = .ok (.lstore_n 3, 1) := by decide +kernel
theorem dX1_number_40 : decode cX1_number 40 = .ok (.lload_n 3, 1) := by decide +kernel
theorem dX1_number_41 : decode cX1_number 41 = .ok (.iload_n 2, 1) := by decide +kernel
theorem dX1_number_42 : decode cX1_number 42 = .ok (.invokestatic 46, 3) := by decide +kernel
theorem dX1_number_45 : decode cX1_number 45 = .ok (.lushr, 1) := by decide +kernel
theorem dX1_number_46 : decode cX1_number 46 = .ok (.l2i, 1) := by decide +kernel
theorem dX1_number_47 : decode cX1_number 47 = .ok (.ldc 50, 2) := by decide +kernel
theorem dX1_number_49 : decode cX1_number 49 = .ok (.iand, 1) := by decide +kernel
theorem dX1_number_50 : decode cX1_number 50 = .ok (.ireturn, 1) := by decide +kernel
theorem dX1_store_0 : decode cX1_store 0 = .ok (.iload_n 1, 1) := by decide +kernel
theorem dX1_store_1 : decode cX1_store 1 = .ok (.ifCond .lt 10, 3) := by decide +kernel
theorem dX1_store_4 : decode cX1_store 4 = .ok (.iload_n 1, 1) := by decide +kernel
theorem dX1_store_5 : decode cX1_store 5 = .ok (.sipush 600, 3) := by decide +kernel
theorem dX1_store_8 : decode cX1_store 8 = .ok (.if_icmp .lt 4, 3) := by decide +kernel
theorem dX1_store_11 : decode cX1_store 11 = .ok (.return_, 1) := by decide +kernel
theorem dX1_store_12 : decode cX1_store 12 = .ok (.iload_n 1, 1) := by decide +kernel
theorem dX1_store_13 : decode cX1_store 13 = .ok (.iconst 4, 1) := by decide +kernel
theorem dX1_store_14 : decode cX1_store 14 = .ok (.irem, 1) := by decide +kernel
theorem dX1_store_15 : decode cX1_store 15 = .ok (.istore_n 3, 1) := by decide +kernel
theorem dX1_store_16 : decode cX1_store 16 = .ok (.iload_n 1, 1) := by decide +kernel
theorem dX1_store_17 : decode cX1_store 17 = .ok (.iconst 4, 1) := by decide +kernel
theorem dX1_store_18 : decode cX1_store 18 = .ok (.idiv, 1) := by decide +kernel
theorem dX1_store_19 : decode cX1_store 19 = .ok (.istore 4, 2) := by decide +kernel
theorem dX1_store_21 : decode cX1_store 21 = .ok (.iconst 0, 1) := by decide +kernel
theorem dX1_store_22 : decode cX1_store 22 = .ok (.istore 5, 2) := by decide +kernel
theorem dX1_store_24 : decode cX1_store 24 = .ok (.iload 5, 2) := by decide +kernel
theorem dX1_store_26 : decode cX1_store 26 = .ok (.iconst 4, 1) := by decide +kernel
theorem dX1_store_27 : decode cX1_store 27 = .ok (.if_icmp .ge 96, 3) := by decide +kernel
theorem dX1_store_30 : decode cX1_store 30 = .ok (.iload 4, 2) := by decide +kernel
theorem dX1_store_32 : decode cX1_store 32 = .ok (.iconst 4, 1) := by decide +kernel
theorem dX1_store_33 : decode cX1_store 33 = .ok (.imul, 1) := by decide +kernel
theorem dX1_store_34 : decode cX1_store 34 = .ok (.iload 5, 2) := by decide +kernel
theorem dX1_store_36 : decode cX1_store 36 = .ok (.iadd, 1) := by decide +kernel
theorem dX1_store_37 : decode cX1_store 37 = .ok (.istore 6, 2) := by decide +kernel
theorem dX1_store_39 : decode cX1_store 39 = .ok (.aload_n 0, 1) := by decide +kernel
theorem dX1_store_40 : decode cX1_store 40 = .ok (.iconst 4, 1) := by decide +kernel
theorem dX1_store_41 : decode cX1_store 41 = .ok (.iload 6, 2) := by decide +kernel
theorem dX1_store_43 : decode cX1_store 43 = .ok (.invokevirtual 42, 3) := by decide +kernel
theorem dX1_store_46 : decode cX1_store 46 = .ok (.aload_n 0, 1) := by decide +kernel
theorem dX1_store_47 : decode cX1_store 47 = .ok (.iload_n 3, 1) := by decide +kernel
theorem dX1_store_48 : decode cX1_store 48 = .ok (.iload 6, 2) := by decide +kernel
theorem dX1_store_50 : decode cX1_store 50 = .ok (.invokevirtual 42, 3) := by decide +kernel
theorem dX1_store_53 : decode cX1_store 53 = .ok (.lxor, 1) := by decide +kernel
theorem dX1_store_54 : decode cX1_store 54 = .ok (.aload_n 2, 1) := by decide +kernel
theorem dX1_store_55 : decode cX1_store 55 = .ok (.iload 5, 2) := by decide +kernel
theorem dX1_store_57 : decode cX1_store 57 = .ok (.invokevirtual 51, 3) := by decide +kernel
theorem dX1_store_60 : decode cX1_store 60 = .ok (.lxor, 1) := by decide +kernel
theorem dX1_store_61 : decode cX1_store 61 = .ok (.lstore 7, 2) := by decide +kernel
theorem dX1_store_63 : decode cX1_store 63 = .ok (.iload 4, 2) := by decide +kernel
theorem dX1_store_65 : decode cX1_store 65 = .ok (.aload_n 0, 1) := by decide +kernel
theorem dX1_store_66 : decode cX1_store 66 = .ok (.getfield 15, 3) := by decide +kernel
theorem dX1_store_69 : decode cX1_store 69 = .ok (.iload_n 3, 1) := by decide +kernel
theorem dX1_store_70 : decode cX1_store 70 = .ok (.iaload, 1) := by decide +kernel
theorem dX1_store_71 : decode cX1_store 71 = .ok (.if_icmp .ge 22, 3) := by decide +kernel
theorem dX1_store_74 : decode cX1_store 74 = .ok (.aload_n 0, 1) := by decide +kernel
theorem dX1_store_75 : decode cX1_store 75 = .ok (.getfield 9, 3) := by decide +kernel
theorem dX1_store_78 : decode cX1_store 78 = .ok (.iload_n 3, 1) := by decide +kernel
theorem dX1_store_79 : decode cX1_store 79 = .ok (.sipush 600, 3) := by decide +kernel
theorem dX1_store_82 : decode cX1_store 82 = .ok (.imul, 1) := by decide +kernel
theorem dX1_store_83 : decode cX1_store 83 = .ok (.iload 6, 2) := by decide +kernel
theorem dX1_store_85 : decode cX1_store 85 = .ok (.iadd, 1) := by decide +kernel
theorem dX1_store_86 : decode cX1_store 86 = .ok (.aload_n 2, 1) := by decide +kernel
theorem dX1_store_87 : decode cX1_store 87 = .ok (.iload 5, 2) := by decide +kernel
theorem dX1_store_89 : decode cX1_store 89 = .ok (.invokevirtual 51, 3) := by decide +kernel
theorem dX1_store_92 : decode cX1_store 92 = .ok (.lastore, 1) := by decide +kernel
theorem dX1_store_93 : decode cX1_store 93 = .ok (.iload 4, 2) := by decide +kernel
theorem dX1_store_95 : decode cX1_store 95 = .ok (.aload_n 0, 1) := by decide +kernel
theorem dX1_store_96 : decode cX1_store 96 = .ok (.getfield 15, 3) := by decide +kernel
theorem dX1_store_99 : decode cX1_store 99 = .ok (.iconst 4, 1) := by decide +kernel
theorem dX1_store_100 : decode cX1_store 100 = .ok (.iaload, 1) := by decide +kernel
theorem dX1_store_101 : decode cX1_store 101 = .ok (.if_icmp .ge 16, 3) := by decide +kernel
theorem dX1_store_104 : decode cX1_store 104 = .ok (.aload_n 0, 1) := by decide +kernel
theorem dX1_store_105 : decode cX1_store 105 = .ok (.getfield 9, 3) := by decide +kernel
theorem dX1_store_108 : decode cX1_store 108 = .ok (.sipush 2400, 3) := by decide +kernel
theorem dX1_store_111 : decode cX1_store 111 = .ok (.iload 6, 2) := by decide +kernel
theorem dX1_store_113 : decode cX1_store 113 = .ok (.iadd, 1) := by decide +kernel
theorem dX1_store_114 : decode cX1_store 114 = .ok (.lload 7, 2) := by decide +kernel
theorem dX1_store_116 : decode cX1_store 116 = .ok (.lastore, 1) := by decide +kernel
theorem dX1_store_117 : decode cX1_store 117 = .ok (.iinc 5 1, 3) := by decide +kernel
theorem dX1_store_120 : decode cX1_store 120 = .ok (.goto (-96), 3) := by decide +kernel
theorem dX1_store_123 : decode cX1_store 123 = .ok (.aload_n 0, 1) := by decide +kernel
theorem dX1_store_124 : decode cX1_store 124 = .ok (.dup, 1) := by decide +kernel
theorem dX1_store_125 : decode cX1_store 125 = .ok (.getfield 39, 3) := by decide +kernel
theorem dX1_store_128 : decode cX1_store 128 = .ok (.iconst 1, 1) := by decide +kernel
theorem dX1_store_129 : decode cX1_store 129 = .ok (.iadd, 1) := by decide +kernel
theorem dX1_store_130 : decode cX1_store 130 = .ok (.putfield 39, 3) := by decide +kernel
theorem dX1_store_133 : decode cX1_store 133 = .ok (.return_, 1) := by decide +kernel
theorem dX1_lose_0 : decode cX1_lose 0 = .ok (.aload_n 0, 1) := by decide +kernel
theorem dX1_lose_1 : decode cX1_lose 1 = .ok (.getfield 19, 3) := by decide +kernel
theorem dX1_lose_4 : decode cX1_lose 4 = .ok (.iconst (-1), 1) := by decide +kernel
theorem dX1_lose_5 : decode cX1_lose 5 = .ok (.if_icmp .eq 19, 3) := by decide +kernel
theorem dX1_lose_8 : decode cX1_lose 8 = .ok (.aload_n 0, 1) := by decide +kernel
theorem dX1_lose_9 : decode cX1_lose 9 = .ok (.getfield 19, 3) := by decide +kernel
theorem dX1_lose_12 : decode cX1_lose 12 = .ok (.iload_n 1, 1) := by decide +kernel
theorem dX1_lose_13 : decode cX1_lose 13 = .ok (.if_icmp .eq 11, 3) := by decide +kernel
theorem dX1_lose_16 : decode cX1_lose 16 = .ok (.aload_n 0, 1) := by decide +kernel
theorem dX1_lose_17 : decode cX1_lose 17 = .ok (.iconst 1, 1) := by decide +kernel
theorem dX1_lose_18 : decode cX1_lose 18 = .ok (.putfield 36, 3) := by decide +kernel
theorem dX1_lose_21 : decode cX1_lose 21 = .ok (.goto 29, 3) := by decide +kernel
theorem dX1_lose_24 : decode cX1_lose 24 = .ok (.iload_n 1, 1) := by decide +kernel
theorem dX1_lose_25 : decode cX1_lose 25 = .ok (.ifCond .lt 25, 3) := by decide +kernel
theorem dX1_lose_28 : decode cX1_lose 28 = .ok (.iload_n 1, 1) := by decide +kernel
theorem dX1_lose_29 : decode cX1_lose 29 = .ok (.iconst 5, 1) := by decide +kernel
theorem dX1_lose_30 : decode cX1_lose 30 = .ok (.if_icmp .ge 20, 3) := by decide +kernel
theorem dX1_lose_33 : decode cX1_lose 33 = .ok (.aload_n 0, 1) := by decide +kernel
theorem dX1_lose_34 : decode cX1_lose 34 = .ok (.iload_n 1, 1) := by decide +kernel
theorem dX1_lose_35 : decode cX1_lose 35 = .ok (.putfield 19, 3) := by decide +kernel
theorem dX1_lose_38 : decode cX1_lose 38 = .ok (.aload_n 0, 1) := by decide +kernel
theorem dX1_lose_39 : decode cX1_lose 39 = .ok (.iconst 1, 1) := by decide +kernel
theorem dX1_lose_40 : decode cX1_lose 40 = .ok (.putfield 32, 3) := by decide +kernel
theorem dX1_lose_43 : decode cX1_lose 43 = .ok (.aload_n 0, 1) := by decide +kernel
theorem dX1_lose_44 : decode cX1_lose 44 = .ok (.getfield 15, 3) := by decide +kernel
theorem dX1_lose_47 : decode cX1_lose 47 = .ok (.iload_n 1, 1) := by decide +kernel
theorem dX1_lose_48 : decode cX1_lose 48 = .ok (.iconst 0, 1) := by decide +kernel
theorem dX1_lose_49 : decode cX1_lose 49 = .ok (.iastore, 1) := by decide +kernel
theorem dX1_lose_50 : decode cX1_lose 50 = .ok (.return_, 1) := by decide +kernel
theorem dX1_renew_0 : decode cX1_renew 0 = .ok (.aload_n 0, 1) := by decide +kernel
theorem dX1_renew_1 : decode cX1_renew 1 = .ok (.getfield 19, 3) := by decide +kernel
theorem dX1_renew_4 : decode cX1_renew 4 = .ok (.ifCond .lt 11, 3) := by decide +kernel
theorem dX1_renew_7 : decode cX1_renew 7 = .ok (.aload_n 0, 1) := by decide +kernel
theorem dX1_renew_8 : decode cX1_renew 8 = .ok (.getfield 19, 3) := by decide +kernel
theorem dX1_renew_11 : decode cX1_renew 11 = .ok (.iconst 5, 1) := by decide +kernel
theorem dX1_renew_12 : decode cX1_renew 12 = .ok (.if_icmp .lt 4, 3) := by decide +kernel
theorem dX1_renew_15 : decode cX1_renew 15 = .ok (.return_, 1) := by decide +kernel
theorem dX1_renew_16 : decode cX1_renew 16 = .ok (.iconst 0, 1) := by decide +kernel
theorem dX1_renew_17 : decode cX1_renew 17 = .ok (.istore_n 1, 1) := by decide +kernel
theorem dX1_renew_18 : decode cX1_renew 18 = .ok (.iload_n 1, 1) := by decide +kernel
theorem dX1_renew_19 : decode cX1_renew 19 = .ok (.sipush 600, 3) := by decide +kernel
theorem dX1_renew_22 : decode cX1_renew 22 = .ok (.if_icmp .ge 25, 3) := by decide +kernel
theorem dX1_renew_25 : decode cX1_renew 25 = .ok (.aload_n 0, 1) := by decide +kernel
theorem dX1_renew_26 : decode cX1_renew 26 = .ok (.getfield 9, 3) := by decide +kernel
theorem dX1_renew_29 : decode cX1_renew 29 = .ok (.aload_n 0, 1) := by decide +kernel
theorem dX1_renew_30 : decode cX1_renew 30 = .ok (.getfield 19, 3) := by decide +kernel
theorem dX1_renew_33 : decode cX1_renew 33 = .ok (.sipush 600, 3) := by decide +kernel
theorem dX1_renew_36 : decode cX1_renew 36 = .ok (.imul, 1) := by decide +kernel
theorem dX1_renew_37 : decode cX1_renew 37 = .ok (.iload_n 1, 1) := by decide +kernel
theorem dX1_renew_38 : decode cX1_renew 38 = .ok (.iadd, 1) := by decide +kernel
theorem dX1_renew_39 : decode cX1_renew 39 = .ok (.lconst 0, 1) := by decide +kernel
theorem dX1_renew_40 : decode cX1_renew 40 = .ok (.lastore, 1) := by decide +kernel
theorem dX1_renew_41 : decode cX1_renew 41 = .ok (.iinc 1 1, 3) := by decide +kernel
theorem dX1_renew_44 : decode cX1_renew 44 = .ok (.goto (-26), 3) := by decide +kernel
theorem dX1_renew_47 : decode cX1_renew 47 = .ok (.aload_n 0, 1) := by decide +kernel
theorem dX1_renew_48 : decode cX1_renew 48 = .ok (.iconst 0, 1) := by decide +kernel
theorem dX1_renew_49 : decode cX1_renew 49 = .ok (.putfield 32, 3) := by decide +kernel
theorem dX1_renew_52 : decode cX1_renew 52 = .ok (.return_, 1) := by decide +kernel
theorem dX1_restore_0 : decode cX1_restore 0 = .ok (.aload_n 0, 1) := by decide +kernel
theorem dX1_restore_1 : decode cX1_restore 1 = .ok (.getfield 19, 3) := by decide +kernel
theorem dX1_restore_4 : decode cX1_restore 4 = .ok (.ifCond .lt 11, 3) := by decide +kernel
theorem dX1_restore_7 : decode cX1_restore 7 = .ok (.aload_n 0, 1) := by decide +kernel
theorem dX1_restore_8 : decode cX1_restore 8 = .ok (.getfield 19, 3) := by decide +kernel
theorem dX1_restore_11 : decode cX1_restore 11 = .ok (.iconst 5, 1) := by decide +kernel
theorem dX1_restore_12 : decode cX1_restore 12 = .ok (.if_icmp .lt 4, 3) := by decide +kernel
theorem dX1_restore_15 : decode cX1_restore 15 = .ok (.return_, 1) := by decide +kernel
theorem dX1_restore_16 : decode cX1_restore 16 = .ok (.aload_n 0, 1) := by decide +kernel
theorem dX1_restore_17 : decode cX1_restore 17 = .ok (.getfield 15, 3) := by decide +kernel
theorem dX1_restore_20 : decode cX1_restore 20 = .ok (.aload_n 0, 1) := by decide +kernel
theorem dX1_restore_21 : decode cX1_restore 21 = .ok (.getfield 19, 3) := by decide +kernel
theorem dX1_restore_24 : decode cX1_restore 24 = .ok (.iaload, 1) := by decide +kernel
theorem dX1_restore_25 : decode cX1_restore 25 = .ok (.istore_n 2, 1) := by decide +kernel
theorem dX1_restore_26 : decode cX1_restore 26 = .ok (.iload_n 2, 1) := by decide +kernel
theorem dX1_restore_27 : decode cX1_restore 27 = .ok (.iload_n 1, 1) := by decide +kernel
theorem dX1_restore_28 : decode cX1_restore 28 = .ok (.sipush 150, 3) := by decide +kernel
theorem dX1_restore_31 : decode cX1_restore 31 = .ok (.iload_n 2, 1) := by decide +kernel
theorem dX1_restore_32 : decode cX1_restore 32 = .ok (.isub, 1) := by decide +kernel
theorem dX1_restore_33 : decode cX1_restore 33 = .ok (.invokestatic 57, 3) := by decide +kernel
theorem dX1_restore_36 : decode cX1_restore 36 = .ok (.iadd, 1) := by decide +kernel
theorem dX1_restore_37 : decode cX1_restore 37 = .ok (.istore_n 3, 1) := by decide +kernel
theorem dX1_restore_38 : decode cX1_restore 38 = .ok (.iload_n 2, 1) := by decide +kernel
theorem dX1_restore_39 : decode cX1_restore 39 = .ok (.iconst 4, 1) := by decide +kernel
theorem dX1_restore_40 : decode cX1_restore 40 = .ok (.imul, 1) := by decide +kernel
theorem dX1_restore_41 : decode cX1_restore 41 = .ok (.istore 4, 2) := by decide +kernel
theorem dX1_restore_43 : decode cX1_restore 43 = .ok (.iload 4, 2) := by decide +kernel
theorem dX1_restore_45 : decode cX1_restore 45 = .ok (.iload_n 3, 1) := by decide +kernel
theorem dX1_restore_46 : decode cX1_restore 46 = .ok (.iconst 4, 1) := by decide +kernel
theorem dX1_restore_47 : decode cX1_restore 47 = .ok (.imul, 1) := by decide +kernel
theorem dX1_restore_48 : decode cX1_restore 48 = .ok (.if_icmp .ge 35, 3) := by decide +kernel
theorem dX1_restore_51 : decode cX1_restore 51 = .ok (.aload_n 0, 1) := by decide +kernel
theorem dX1_restore_52 : decode cX1_restore 52 = .ok (.getfield 9, 3) := by decide +kernel
theorem dX1_restore_55 : decode cX1_restore 55 = .ok (.aload_n 0, 1) := by decide +kernel
theorem dX1_restore_56 : decode cX1_restore 56 = .ok (.getfield 19, 3) := by decide +kernel
theorem dX1_restore_59 : decode cX1_restore 59 = .ok (.sipush 600, 3) := by decide +kernel
theorem dX1_restore_62 : decode cX1_restore 62 = .ok (.imul, 1) := by decide +kernel
theorem dX1_restore_63 : decode cX1_restore 63 = .ok (.iload 4, 2) := by decide +kernel
theorem dX1_restore_65 : decode cX1_restore 65 = .ok (.iadd, 1) := by decide +kernel
theorem dX1_restore_66 : decode cX1_restore 66 = .ok (.aload_n 0, 1) := by decide +kernel
theorem dX1_restore_67 : decode cX1_restore 67 = .ok (.aload_n 0, 1) := by decide +kernel
theorem dX1_restore_68 : decode cX1_restore 68 = .ok (.getfield 19, 3) := by decide +kernel
theorem dX1_restore_71 : decode cX1_restore 71 = .ok (.iload 4, 2) := by decide +kernel
theorem dX1_restore_73 : decode cX1_restore 73 = .ok (.invokevirtual 42, 3) := by decide +kernel
theorem dX1_restore_76 : decode cX1_restore 76 = .ok (.lastore, 1) := by decide +kernel
theorem dX1_restore_77 : decode cX1_restore 77 = .ok (.iinc 4 1, 3) := by decide +kernel
theorem dX1_restore_80 : decode cX1_restore 80 = .ok (.goto (-37), 3) := by decide +kernel
theorem dX1_restore_83 : decode cX1_restore 83 = .ok (.aload_n 0, 1) := by decide +kernel
theorem dX1_restore_84 : decode cX1_restore 84 = .ok (.getfield 15, 3) := by decide +kernel
theorem dX1_restore_87 : decode cX1_restore 87 = .ok (.aload_n 0, 1) := by decide +kernel
theorem dX1_restore_88 : decode cX1_restore 88 = .ok (.getfield 19, 3) := by decide +kernel
theorem dX1_restore_91 : decode cX1_restore 91 = .ok (.iload_n 3, 1) := by decide +kernel
theorem dX1_restore_92 : decode cX1_restore 92 = .ok (.iastore, 1) := by decide +kernel
theorem dX1_restore_93 : decode cX1_restore 93 = .ok (.iload_n 3, 1) := by decide +kernel
theorem dX1_restore_94 : decode cX1_restore 94 = .ok (.sipush 150, 3) := by decide +kernel
theorem dX1_restore_97 : decode cX1_restore 97 = .ok (.if_icmp .ne 8, 3) := by decide +kernel
theorem dX1_restore_100 : decode cX1_restore 100 = .ok (.aload_n 0, 1) := by decide +kernel
theorem dX1_restore_101 : decode cX1_restore 101 = .ok (.iconst (-1), 1) := by decide +kernel
theorem dX1_restore_102 : decode cX1_restore 102 = .ok (.putfield 19, 3) := by decide +kernel
theorem dX1_restore_105 : decode cX1_restore 105 = .ok (.return_, 1) := by decide +kernel
theorem dX1_due_0 : decode cX1_due 0 = .ok (.iload_n 2, 1) := by decide +kernel
theorem dX1_due_1 : decode cX1_due 1 = .ok (.iconst 4, 1) := by decide +kernel
theorem dX1_due_2 : decode cX1_due 2 = .ok (.idiv, 1) := by decide +kernel
theorem dX1_due_3 : decode cX1_due 3 = .ok (.aload_n 0, 1) := by decide +kernel
theorem dX1_due_4 : decode cX1_due 4 = .ok (.getfield 15, 3) := by decide +kernel
theorem dX1_due_7 : decode cX1_due 7 = .ok (.iload_n 1, 1) := by decide +kernel
theorem dX1_due_8 : decode cX1_due 8 = .ok (.iaload, 1) := by decide +kernel
theorem dX1_due_9 : decode cX1_due 9 = .ok (.if_icmp .ge 16, 3) := by decide +kernel
theorem dX1_due_12 : decode cX1_due 12 = .ok (.aload_n 0, 1) := by decide +kernel
theorem dX1_due_13 : decode cX1_due 13 = .ok (.getfield 9, 3) := by decide +kernel
theorem dX1_due_16 : decode cX1_due 16 = .ok (.iload_n 1, 1) := by decide +kernel
theorem dX1_due_17 : decode cX1_due 17 = .ok (.sipush 600, 3) := by decide +kernel
theorem dX1_due_20 : decode cX1_due 20 = .ok (.imul, 1) := by decide +kernel
theorem dX1_due_21 : decode cX1_due 21 = .ok (.iload_n 2, 1) := by decide +kernel
theorem dX1_due_22 : decode cX1_due 22 = .ok (.iadd, 1) := by decide +kernel
theorem dX1_due_23 : decode cX1_due 23 = .ok (.laload, 1) := by decide +kernel
theorem dX1_due_24 : decode cX1_due 24 = .ok (.lreturn, 1) := by decide +kernel
theorem dX1_due_25 : decode cX1_due 25 = .ok (.lconst 0, 1) := by decide +kernel
theorem dX1_due_26 : decode cX1_due 26 = .ok (.lstore_n 3, 1) := by decide +kernel
theorem dX1_due_27 : decode cX1_due 27 = .ok (.iconst 0, 1) := by decide +kernel
theorem dX1_due_28 : decode cX1_due 28 = .ok (.istore 5, 2) := by decide +kernel
theorem dX1_due_30 : decode cX1_due 30 = .ok (.iload 5, 2) := by decide +kernel
theorem dX1_due_32 : decode cX1_due 32 = .ok (.iconst 5, 1) := by decide +kernel
theorem dX1_due_33 : decode cX1_due 33 = .ok (.if_icmp .ge 31, 3) := by decide +kernel
theorem dX1_due_36 : decode cX1_due 36 = .ok (.iload 5, 2) := by decide +kernel
theorem dX1_due_38 : decode cX1_due 38 = .ok (.iload_n 1, 1) := by decide +kernel
theorem dX1_due_39 : decode cX1_due 39 = .ok (.if_icmp .eq 19, 3) := by decide +kernel
theorem dX1_due_42 : decode cX1_due 42 = .ok (.lload_n 3, 1) := by decide +kernel
theorem dX1_due_43 : decode cX1_due 43 = .ok (.aload_n 0, 1) := by decide +kernel
theorem dX1_due_44 : decode cX1_due 44 = .ok (.getfield 9, 3) := by decide +kernel
theorem dX1_due_47 : decode cX1_due 47 = .ok (.iload 5, 2) := by decide +kernel
theorem dX1_due_49 : decode cX1_due 49 = .ok (.sipush 600, 3) := by decide +kernel
theorem dX1_due_52 : decode cX1_due 52 = .ok (.imul, 1) := by decide +kernel
theorem dX1_due_53 : decode cX1_due 53 = .ok (.iload_n 2, 1) := by decide +kernel
theorem dX1_due_54 : decode cX1_due 54 = .ok (.iadd, 1) := by decide +kernel
theorem dX1_due_55 : decode cX1_due 55 = .ok (.laload, 1) := by decide +kernel
theorem dX1_due_56 : decode cX1_due 56 = .ok (.lxor, 1) := by decide +kernel
theorem dX1_due_57 : decode cX1_due 57 = .ok (.lstore_n 3, 1) := by decide +kernel
theorem dX1_due_58 : decode cX1_due 58 = .ok (.iinc 5 1, 3) := by decide +kernel
theorem dX1_due_61 : decode cX1_due 61 = .ok (.goto (-31), 3) := by decide +kernel
theorem dX1_due_64 : decode cX1_due 64 = .ok (.lload_n 3, 1) := by decide +kernel
theorem dX1_due_65 : decode cX1_due 65 = .ok (.lreturn, 1) := by decide +kernel
theorem dX2_init_0 : decode cX2_init 0 = .ok (.aload_n 0, 1) := by decide +kernel
theorem dX2_init_1 : decode cX2_init 1 = .ok (.invokespecial 3, 3) := by decide +kernel
theorem dX2_init_4 : decode cX2_init 4 = .ok (.aload_n 0, 1) := by decide +kernel
theorem dX2_init_5 : decode cX2_init 5 = .ok (.bipush 12, 2) := by decide +kernel
theorem dX2_init_7 : decode cX2_init 7 = .ok (.newarray .int, 2) := by decide +kernel
theorem dX2_init_9 : decode cX2_init 9 = .ok (.putfield 9, 3) := by decide +kernel
theorem dX2_init_12 : decode cX2_init 12 = .ok (.return_, 1) := by decide +kernel
theorem dX2_wipe_0 : decode cX2_wipe 0 = .ok (.aload_n 0, 1) := by decide +kernel
theorem dX2_wipe_1 : decode cX2_wipe 1 = .ok (.iconst 0, 1) := by decide +kernel
theorem dX2_wipe_2 : decode cX2_wipe 2 = .ok (.putfield 15, 3) := by decide +kernel
theorem dX2_wipe_5 : decode cX2_wipe 5 = .ok (.aload_n 0, 1) := by decide +kernel
theorem dX2_wipe_6 : decode cX2_wipe 6 = .ok (.getfield 9, 3) := by decide +kernel
theorem dX2_wipe_9 : decode cX2_wipe 9 = .ok (.iconst 0, 1) := by decide +kernel
theorem dX2_wipe_10 : decode cX2_wipe 10 = .ok (.invokestatic 19, 3) := by decide +kernel
theorem dX2_wipe_13 : decode cX2_wipe 13 = .ok (.return_, 1) := by decide +kernel
theorem dX2_pointNumber_0 : decode cX2_pointNumber 0 = .ok (.aload_n 0, 1) := by decide +kernel
theorem dX2_pointNumber_1 : decode cX2_pointNumber 1 = .ok (.getfield 15, 3) := by decide +kernel
theorem dX2_pointNumber_4 : decode cX2_pointNumber 4 = .ok (.ireturn, 1) := by decide +kernel
theorem dX2_advance_0 : decode cX2_advance 0 = .ok (.aload_n 0, 1) := by decide +kernel
theorem dX2_advance_1 : decode cX2_advance 1 = .ok (.dup, 1) := by decide +kernel
theorem dX2_advance_2 : decode cX2_advance 2 = .ok (.getfield 15, 3) := by decide +kernel
theorem dX2_advance_5 : decode cX2_advance 5 = .ok (.iconst 1, 1) := by decide +kernel
theorem dX2_advance_6 : decode cX2_advance 6 = .ok (.iadd, 1) := by decide +kernel
theorem dX2_advance_7 : decode cX2_advance 7 = .ok (.putfield 15, 3) := by decide +kernel
theorem dX2_advance_10 : decode cX2_advance 10 = .ok (.return_, 1) := by decide +kernel
theorem dX2_halfOf_0 : decode cX2_halfOf 0 = .ok (.iload_n 1, 1) := by decide +kernel
theorem dX2_halfOf_1 : decode cX2_halfOf 1 = .ok (.iconst 1, 1) := by decide +kernel
theorem dX2_halfOf_2 : decode cX2_halfOf 2 = .ok (.iadd, 1) := by decide +kernel
theorem dX2_halfOf_3 : decode cX2_halfOf 3 = .ok (.iconst 2, 1) := by decide +kernel
theorem dX2_halfOf_4 : decode cX2_halfOf 4 = .ok (.imul, 1) := by decide +kernel
theorem dX2_halfOf_5 : decode cX2_halfOf 5 = .ok (.iload_n 2, 1) := by decide +kernel
theorem dX2_halfOf_6 : decode cX2_halfOf 6 = .ok (.iadd, 1) := by decide +kernel
theorem dX2_halfOf_7 : decode cX2_halfOf 7 = .ok (.istore_n 3, 1) := by decide +kernel
theorem dX2_halfOf_8 : decode cX2_halfOf 8 = .ok (.iload_n 3, 1) := by decide +kernel
theorem dX2_halfOf_9 : decode cX2_halfOf 9 = .ok (.ifCond .lt 21, 3) := by decide +kernel
theorem dX2_halfOf_12 : decode cX2_halfOf 12 = .ok (.iload_n 3, 1) := by decide +kernel
theorem dX2_halfOf_13 : decode cX2_halfOf 13 = .ok (.aload_n 0, 1) := by decide +kernel
theorem dX2_halfOf_14 : decode cX2_halfOf 14 = .ok (.getfield 9, 3) := by decide +kernel
theorem dX2_halfOf_17 : decode cX2_halfOf 17 = .ok (.arraylength, 1) := by decide +kernel
theorem dX2_halfOf_18 : decode cX2_halfOf 18 = .ok (.if_icmp .ge 12, 3) := by decide +kernel
theorem dX2_halfOf_21 : decode cX2_halfOf 21 = .ok (.aload_n 0, 1) := by decide +kernel
theorem dX2_halfOf_22 : decode cX2_halfOf 22 = .ok (.getfield 9, 3) := by decide +kernel
theorem dX2_halfOf_25 : decode cX2_halfOf 25 = .ok (.iload_n 3, 1) := by decide +kernel
theorem dX2_halfOf_26 : decode cX2_halfOf 26 = .ok (.iaload, 1) := by decide +kernel
theorem dX2_halfOf_27 : decode cX2_halfOf 27 = .ok (.goto 4, 3) := by decide +kernel
theorem dX2_halfOf_30 : decode cX2_halfOf 30 = .ok (.iconst 0, 1) := by decide +kernel
theorem dX2_halfOf_31 : decode cX2_halfOf 31 = .ok (.ireturn, 1) := by decide +kernel
theorem dX2_moveHalf_0 : decode cX2_moveHalf 0 = .ok (.iload_n 1, 1) := by decide +kernel
theorem dX2_moveHalf_1 : decode cX2_moveHalf 1 = .ok (.ifCond .lt 15, 3) := by decide +kernel
theorem dX2_moveHalf_4 : decode cX2_moveHalf 4 = .ok (.iload_n 1, 1) := by decide +kernel
theorem dX2_moveHalf_5 : decode cX2_moveHalf 5 = .ok (.iconst 2, 1) := by decide +kernel
theorem dX2_moveHalf_6 : decode cX2_moveHalf 6 = .ok (.if_icmp .ge 10, 3) := by decide +kernel
theorem dX2_moveHalf_9 : decode cX2_moveHalf 9 = .ok (.aload_n 0, 1) := by decide +kernel
theorem dX2_moveHalf_10 : decode cX2_moveHalf 10 = .ok (.getfield 9, 3) := by decide +kernel
theorem dX2_moveHalf_13 : decode cX2_moveHalf 13 = .ok (.iload_n 1, 1) := by decide +kernel
theorem dX2_moveHalf_14 : decode cX2_moveHalf 14 = .ok (.iload_n 2, 1) := by decide +kernel
theorem dX2_moveHalf_15 : decode cX2_moveHalf 15 = .ok (.iastore, 1) := by decide +kernel
theorem dX2_moveHalf_16 : decode cX2_moveHalf 16 = .ok (.return_, 1) := by decide +kernel
theorem dX2_hasSnapshot_0 : decode cX2_hasSnapshot 0 = .ok (.iload_n 1, 1) := by decide +kernel
theorem dX2_hasSnapshot_1 : decode cX2_hasSnapshot 1 = .ok (.ifCond .lt 30, 3) := by decide +kernel
theorem dX2_hasSnapshot_4 : decode cX2_hasSnapshot 4 = .ok (.iload_n 1, 1) := by decide +kernel
theorem dX2_hasSnapshot_5 : decode cX2_hasSnapshot 5 = .ok (.iconst 5, 1) := by decide +kernel
theorem dX2_hasSnapshot_6 : decode cX2_hasSnapshot 6 = .ok (.if_icmp .ge 25, 3) := by decide +kernel
theorem dX2_hasSnapshot_9 : decode cX2_hasSnapshot 9 = .ok (.aload_n 0, 1) := by decide +kernel
theorem dX2_hasSnapshot_10 : decode cX2_hasSnapshot 10 = .ok (.iload_n 1, 1) := by decide +kernel
theorem dX2_hasSnapshot_11 : decode cX2_hasSnapshot 11 = .ok (.iconst 0, 1) := by decide +kernel
theorem dX2_hasSnapshot_12 : decode cX2_hasSnapshot 12 = .ok (.invokevirtual 25, 3) := by decide +kernel
theorem dX2_hasSnapshot_15 : decode cX2_hasSnapshot 15 = .ok (.ifCond .ne 12, 3) := by decide +kernel
theorem dX2_hasSnapshot_18 : decode cX2_hasSnapshot 18 = .ok (.aload_n 0, 1) := by decide +kernel
theorem dX2_hasSnapshot_19 : decode cX2_hasSnapshot 19 = .ok (.iload_n 1, 1) := by decide +kernel
theorem dX2_hasSnapshot_20 : decode cX2_hasSnapshot 20 = .ok (.iconst 1, 1) := by decide +kernel
theorem dX2_hasSnapshot_21 : decode cX2_hasSnapshot 21 = .ok (.invokevirtual 25, 3) := by decide +kernel
theorem dX2_hasSnapshot_24 : decode cX2_hasSnapshot 24 = .ok (.ifCond .eq 7, 3) := by decide +kernel
theorem dX2_hasSnapshot_27 : decode cX2_hasSnapshot 27 = .ok (.iconst 1, 1) := by decide +kernel
theorem dX2_hasSnapshot_28 : decode cX2_hasSnapshot 28 = .ok (.goto 4, 3) := by decide +kernel
theorem dX2_hasSnapshot_31 : decode cX2_hasSnapshot 31 = .ok (.iconst 0, 1) := by decide +kernel
theorem dX2_hasSnapshot_32 : decode cX2_hasSnapshot 32 = .ok (.ireturn, 1) := by decide +kernel
theorem dX2_keepMapAs_0 : decode cX2_keepMapAs 0 = .ok (.aload_n 0, 1) := by decide +kernel
theorem dX2_keepMapAs_1 : decode cX2_keepMapAs 1 = .ok (.iload_n 1, 1) := by decide +kernel
theorem dX2_keepMapAs_2 : decode cX2_keepMapAs 2 = .ok (.aload_n 0, 1) := by decide +kernel
theorem dX2_keepMapAs_3 : decode cX2_keepMapAs 3 = .ok (.getfield 9, 3) := by decide +kernel
theorem dX2_keepMapAs_6 : decode cX2_keepMapAs 6 = .ok (.iconst 0, 1) := by decide +kernel
theorem dX2_keepMapAs_7 : decode cX2_keepMapAs 7 = .ok (.iaload, 1) := by decide +kernel
theorem dX2_keepMapAs_8 : decode cX2_keepMapAs 8 = .ok (.aload_n 0, 1) := by decide +kernel
theorem dX2_keepMapAs_9 : decode cX2_keepMapAs 9 = .ok (.getfield 9, 3) := by decide +kernel
theorem dX2_keepMapAs_12 : decode cX2_keepMapAs 12 = .ok (.iconst 1, 1) := by decide +kernel
theorem dX2_keepMapAs_13 : decode cX2_keepMapAs 13 = .ok (.iaload, 1) := by decide +kernel
theorem dX2_keepMapAs_14 : decode cX2_keepMapAs 14 = .ok (.invokevirtual 29, 3) := by decide +kernel
theorem dX2_keepMapAs_17 : decode cX2_keepMapAs 17 = .ok (.return_, 1) := by decide +kernel
theorem dX2_forget_0 : decode cX2_forget 0 = .ok (.aload_n 0, 1) := by decide +kernel
theorem dX2_forget_1 : decode cX2_forget 1 = .ok (.iload_n 1, 1) := by decide +kernel
theorem dX2_forget_2 : decode cX2_forget 2 = .ok (.iconst 0, 1) := by decide +kernel
theorem dX2_forget_3 : decode cX2_forget 3 = .ok (.iconst 0, 1) := by decide +kernel
theorem dX2_forget_4 : decode cX2_forget 4 = .ok (.invokevirtual 29, 3) := by decide +kernel
theorem dX2_forget_7 : decode cX2_forget 7 = .ok (.return_, 1) := by decide +kernel
theorem dX2_into_0 : decode cX2_into 0 = .ok (.aload_n 1, 1) := by decide +kernel
theorem dX2_into_1 : decode cX2_into 1 = .ok (.invokevirtual 33, 3) := by decide +kernel
theorem dX2_into_4 : decode cX2_into 4 = .ok (.aload_n 1, 1) := by decide +kernel
theorem dX2_into_5 : decode cX2_into 5 = .ok (.iconst 0, 1) := by decide +kernel
theorem dX2_into_6 : decode cX2_into 6 = .ok (.aload_n 0, 1) := by decide +kernel
theorem dX2_into_7 : decode cX2_into 7 = .ok (.getfield 15, 3) := by decide +kernel
theorem dX2_into_10 : decode cX2_into 10 = .ok (.bipush 16, 2) := by decide +kernel
theorem dX2_into_12 : decode cX2_into 12 = .ok (.iushr, 1) := by decide +kernel
theorem dX2_into_13 : decode cX2_into 13 = .ok (.invokevirtual 38, 3) := by decide +kernel
theorem dX2_into_16 : decode cX2_into 16 = .ok (.aload_n 1, 1) := by decide +kernel
theorem dX2_into_17 : decode cX2_into 17 = .ok (.iconst 1, 1) := by decide +kernel
theorem dX2_into_18 : decode cX2_into 18 = .ok (.aload_n 0, 1) := by decide +kernel
theorem dX2_into_19 : decode cX2_into 19 = .ok (.getfield 15, 3) := by decide +kernel
theorem dX2_into_22 : decode cX2_into 22 = .ok (.invokevirtual 38, 3) := by decide +kernel
theorem dX2_into_25 : decode cX2_into 25 = .ok (.iconst 0, 1) := by decide +kernel
theorem dX2_into_26 : decode cX2_into 26 = .ok (.istore_n 2, 1) := by decide +kernel
theorem dX2_into_27 : decode cX2_into 27 = .ok (.iload_n 2, 1) := by decide +kernel
theorem dX2_into_28 : decode cX2_into 28 = .ok (.aload_n 0, 1) := by decide +kernel
theorem dX2_into_29 : decode cX2_into 29 = .ok (.getfield 9, 3) := by decide +kernel
theorem dX2_into_32 : decode cX2_into 32 = .ok (.arraylength, 1) := by decide +kernel
theorem dX2_into_33 : decode cX2_into 33 = .ok (.if_icmp .ge 22, 3) := by decide +kernel
theorem dX2_into_36 : decode cX2_into 36 = .ok (.aload_n 1, 1) := by decide +kernel
theorem dX2_into_37 : decode cX2_into 37 = .ok (.iconst 2, 1) := by decide +kernel
theorem dX2_into_38 : decode cX2_into 38 = .ok (.iload_n 2, 1) := by decide +kernel
theorem dX2_into_39 : decode cX2_into 39 = .ok (.iadd, 1) := by decide +kernel
theorem dX2_into_40 : decode cX2_into 40 = .ok (.aload_n 0, 1) := by decide +kernel
theorem dX2_into_41 : decode cX2_into 41 = .ok (.getfield 9, 3) := by decide +kernel
theorem dX2_into_44 : decode cX2_into 44 = .ok (.iload_n 2, 1) := by decide +kernel
theorem dX2_into_45 : decode cX2_into 45 = .ok (.iaload, 1) := by decide +kernel
theorem dX2_into_46 : decode cX2_into 46 = .ok (.invokevirtual 38, 3) := by decide +kernel
theorem dX2_into_49 : decode cX2_into 49 = .ok (.iinc 2 1, 3) := by decide +kernel
theorem dX2_into_52 : decode cX2_into 52 = .ok (.goto (-25), 3) := by decide +kernel
theorem dX2_into_55 : decode cX2_into 55 = .ok (.return_, 1) := by decide +kernel
theorem dX2_readFrom_0 : decode cX2_readFrom 0 = .ok (.aload_n 0, 1) := by decide +kernel
theorem dX2_readFrom_1 : decode cX2_readFrom 1 = .ok (.aload_n 1, 1) := by decide +kernel
theorem dX2_readFrom_2 : decode cX2_readFrom 2 = .ok (.iconst 0, 1) := by decide +kernel
theorem dX2_readFrom_3 : decode cX2_readFrom 3 = .ok (.iconst 0, 1) := by decide +kernel
theorem dX2_readFrom_4 : decode cX2_readFrom 4 = .ok (.invokevirtual 42, 3) := by decide +kernel
theorem dX2_readFrom_7 : decode cX2_readFrom 7 = .ok (.bipush 16, 2) := by decide +kernel
theorem dX2_readFrom_9 : decode cX2_readFrom 9 = .ok (.ishl, 1) := by decide +kernel
theorem dX2_readFrom_10 : decode cX2_readFrom 10 = .ok (.aload_n 1, 1) := by decide +kernel
theorem dX2_readFrom_11 : decode cX2_readFrom 11 = .ok (.iconst 0, 1) := by decide +kernel
theorem dX2_readFrom_12 : decode cX2_readFrom 12 = .ok (.iconst 1, 1) := by decide +kernel
theorem dX2_readFrom_13 : decode cX2_readFrom 13 = .ok (.invokevirtual 42, 3) := by decide +kernel
theorem dX2_readFrom_16 : decode cX2_readFrom 16 = .ok (.ior, 1) := by decide +kernel
theorem dX2_readFrom_17 : decode cX2_readFrom 17 = .ok (.putfield 15, 3) := by decide +kernel
theorem dX2_readFrom_20 : decode cX2_readFrom 20 = .ok (.iconst 0, 1) := by decide +kernel
theorem dX2_readFrom_21 : decode cX2_readFrom 21 = .ok (.istore_n 2, 1) := by decide +kernel
theorem dX2_readFrom_22 : decode cX2_readFrom 22 = .ok (.iload_n 2, 1) := by decide +kernel
theorem dX2_readFrom_23 : decode cX2_readFrom 23 = .ok (.aload_n 0, 1) := by decide +kernel
theorem dX2_readFrom_24 : decode cX2_readFrom 24 = .ok (.getfield 9, 3) := by decide +kernel
theorem dX2_readFrom_27 : decode cX2_readFrom 27 = .ok (.arraylength, 1) := by decide +kernel
theorem dX2_readFrom_28 : decode cX2_readFrom 28 = .ok (.if_icmp .ge 23, 3) := by decide +kernel
theorem dX2_readFrom_31 : decode cX2_readFrom 31 = .ok (.aload_n 0, 1) := by decide +kernel
theorem dX2_readFrom_32 : decode cX2_readFrom 32 = .ok (.getfield 9, 3) := by decide +kernel
theorem dX2_readFrom_35 : decode cX2_readFrom 35 = .ok (.iload_n 2, 1) := by decide +kernel
theorem dX2_readFrom_36 : decode cX2_readFrom 36 = .ok (.aload_n 1, 1) := by decide +kernel
theorem dX2_readFrom_37 : decode cX2_readFrom 37 = .ok (.iconst 0, 1) := by decide +kernel
theorem dX2_readFrom_38 : decode cX2_readFrom 38 = .ok (.iconst 2, 1) := by decide +kernel
theorem dX2_readFrom_39 : decode cX2_readFrom 39 = .ok (.iload_n 2, 1) := by decide +kernel
theorem dX2_readFrom_40 : decode cX2_readFrom 40 = .ok (.iadd, 1) := by decide +kernel
theorem dX2_readFrom_41 : decode cX2_readFrom 41 = .ok (.invokevirtual 42, 3) := by decide +kernel
theorem dX2_readFrom_44 : decode cX2_readFrom 44 = .ok (.iastore, 1) := by decide +kernel
theorem dX2_readFrom_45 : decode cX2_readFrom 45 = .ok (.iinc 2 1, 3) := by decide +kernel
theorem dX2_readFrom_48 : decode cX2_readFrom 48 = .ok (.goto (-26), 3) := by decide +kernel
theorem dX2_readFrom_51 : decode cX2_readFrom 51 = .ok (.return_, 1) := by decide +kernel
theorem dX2_setSnapshot_0 : decode cX2_setSnapshot 0 = .ok (.iload_n 1, 1) := by decide +kernel
theorem dX2_setSnapshot_1 : decode cX2_setSnapshot 1 = .ok (.ifCond .lt 32, 3) := by decide +kernel
theorem dX2_setSnapshot_4 : decode cX2_setSnapshot 4 = .ok (.iload_n 1, 1) := by decide +kernel
theorem dX2_setSnapshot_5 : decode cX2_setSnapshot 5 = .ok (.iconst 5, 1) := by decide +kernel
theorem dX2_setSnapshot_6 : decode cX2_setSnapshot 6 = .ok (.if_icmp .ge 27, 3) := by decide +kernel
theorem dX2_setSnapshot_9 : decode cX2_setSnapshot 9 = .ok (.aload_n 0, 1) := by decide +kernel
theorem dX2_setSnapshot_10 : decode cX2_setSnapshot 10 = .ok (.getfield 9, 3) := by decide +kernel
theorem dX2_setSnapshot_13 : decode cX2_setSnapshot 13 = .ok (.iload_n 1, 1) := by decide +kernel
theorem dX2_setSnapshot_14 : decode cX2_setSnapshot 14 = .ok (.iconst 1, 1) := by decide +kernel
theorem dX2_setSnapshot_15 : decode cX2_setSnapshot 15 = .ok (.iadd, 1) := by decide +kernel
theorem dX2_setSnapshot_16 : decode cX2_setSnapshot 16 = .ok (.iconst 2, 1) := by decide +kernel
theorem dX2_setSnapshot_17 : decode cX2_setSnapshot 17 = .ok (.imul, 1) := by decide +kernel
theorem dX2_setSnapshot_18 : decode cX2_setSnapshot 18 = .ok (.iload_n 2, 1) := by decide +kernel
theorem dX2_setSnapshot_19 : decode cX2_setSnapshot 19 = .ok (.iastore, 1) := by decide +kernel
theorem dX2_setSnapshot_20 : decode cX2_setSnapshot 20 = .ok (.aload_n 0, 1) := by decide +kernel
theorem dX2_setSnapshot_21 : decode cX2_setSnapshot 21 = .ok (.getfield 9, 3) := by decide +kernel
theorem dX2_setSnapshot_24 : decode cX2_setSnapshot 24 = .ok (.iload_n 1, 1) := by decide +kernel
theorem dX2_setSnapshot_25 : decode cX2_setSnapshot 25 = .ok (.iconst 1, 1) := by decide +kernel
theorem dX2_setSnapshot_26 : decode cX2_setSnapshot 26 = .ok (.iadd, 1) := by decide +kernel
theorem dX2_setSnapshot_27 : decode cX2_setSnapshot 27 = .ok (.iconst 2, 1) := by decide +kernel
theorem dX2_setSnapshot_28 : decode cX2_setSnapshot 28 = .ok (.imul, 1) := by decide +kernel
theorem dX2_setSnapshot_29 : decode cX2_setSnapshot 29 = .ok (.iconst 1, 1) := by decide +kernel
theorem dX2_setSnapshot_30 : decode cX2_setSnapshot 30 = .ok (.iadd, 1) := by decide +kernel
theorem dX2_setSnapshot_31 : decode cX2_setSnapshot 31 = .ok (.iload_n 3, 1) := by decide +kernel
theorem dX2_setSnapshot_32 : decode cX2_setSnapshot 32 = .ok (.iastore, 1) := by decide +kernel
theorem dX2_setSnapshot_33 : decode cX2_setSnapshot 33 = .ok (.return_, 1) := by decide +kernel
theorem dX3_init_0 : decode cX3_init 0 = .ok (.aload_n 0, 1) := by decide +kernel
theorem dX3_init_1 : decode cX3_init 1 = .ok (.invokespecial 3, 3) := by decide +kernel
theorem dX3_init_4 : decode cX3_init 4 = .ok (.aload_n 0, 1) := by decide +kernel
theorem dX3_init_5 : decode cX3_init 5 = .ok (.bipush 40, 2) := by decide +kernel
theorem dX3_init_7 : decode cX3_init 7 = .ok (.newarray .int, 2) := by decide +kernel
theorem dX3_init_9 : decode cX3_init 9 = .ok (.putfield 9, 3) := by decide +kernel
theorem dX3_init_12 : decode cX3_init 12 = .ok (.aload_n 0, 1) := by decide +kernel
theorem dX3_init_13 : decode cX3_init 13 = .ok (.bipush 40, 2) := by decide +kernel
theorem dX3_init_15 : decode cX3_init 15 = .ok (.newarray .int, 2) := by decide +kernel
theorem dX3_init_17 : decode cX3_init 17 = .ok (.putfield 15, 3) := by decide +kernel
theorem dX3_init_20 : decode cX3_init 20 = .ok (.aload_n 0, 1) := by decide +kernel
theorem dX3_init_21 : decode cX3_init 21 = .ok (.bipush 40, 2) := by decide +kernel
theorem dX3_init_23 : decode cX3_init 23 = .ok (.newarray .int, 2) := by decide +kernel
theorem dX3_init_25 : decode cX3_init 25 = .ok (.putfield 18, 3) := by decide +kernel
theorem dX3_init_28 : decode cX3_init 28 = .ok (.aload_n 0, 1) := by decide +kernel
theorem dX3_init_29 : decode cX3_init 29 = .ok (.bipush 40, 2) := by decide +kernel
theorem dX3_init_31 : decode cX3_init 31 = .ok (.newarray .long, 2) := by decide +kernel
theorem dX3_init_33 : decode cX3_init 33 = .ok (.putfield 21, 3) := by decide +kernel
theorem dX3_init_36 : decode cX3_init 36 = .ok (.return_, 1) := by decide +kernel
theorem dX3_wipe_0 : decode cX3_wipe 0 = .ok (.aload_n 0, 1) := by decide +kernel
theorem dX3_wipe_1 : decode cX3_wipe 1 = .ok (.iconst 0, 1) := by decide +kernel
theorem dX3_wipe_2 : decode cX3_wipe 2 = .ok (.putfield 25, 3) := by decide +kernel
theorem dX3_wipe_5 : decode cX3_wipe 5 = .ok (.return_, 1) := by decide +kernel
theorem dX3_length_0 : decode cX3_length 0 = .ok (.aload_n 0, 1) := by decide +kernel
theorem dX3_length_1 : decode cX3_length 1 = .ok (.getfield 25, 3) := by decide +kernel
theorem dX3_length_4 : decode cX3_length 4 = .ok (.ireturn, 1) := by decide +kernel
theorem dX3_isFull_0 : decode cX3_isFull 0 = .ok (.aload_n 0, 1) := by decide +kernel
theorem dX3_isFull_1 : decode cX3_isFull 1 = .ok (.getfield 25, 3) := by decide +kernel
theorem dX3_isFull_4 : decode cX3_isFull 4 = .ok (.bipush 40, 2) := by decide +kernel
theorem dX3_isFull_6 : decode cX3_isFull 6 = .ok (.if_icmp .lt 7, 3) := by decide +kernel
theorem dX3_isFull_9 : decode cX3_isFull 9 = .ok (.iconst 1, 1) := by decide +kernel
theorem dX3_isFull_10 : decode cX3_isFull 10 = .ok (.goto 4, 3) := by decide +kernel
theorem dX3_isFull_13 : decode cX3_isFull 13 = .ok (.iconst 0, 1) := by decide +kernel
theorem dX3_isFull_14 : decode cX3_isFull 14 = .ok (.ireturn, 1) := by decide +kernel
theorem dX3_enter_0 : decode cX3_enter 0 = .ok (.aload_n 0, 1) := by decide +kernel
theorem dX3_enter_1 : decode cX3_enter 1 = .ok (.invokevirtual 29, 3) := by decide +kernel
theorem dX3_enter_4 : decode cX3_enter 4 = .ok (.ifCond .eq 4, 3) := by decide +kernel
theorem dX3_enter_7 : decode cX3_enter 7 = .ok (.return_, 1) := by decide +kernel
theorem dX3_enter_8 : decode cX3_enter 8 = .ok (.aload_n 0, 1) := by decide +kernel
theorem dX3_enter_9 : decode cX3_enter 9 = .ok (.getfield 9, 3) := by decide +kernel
theorem dX3_enter_12 : decode cX3_enter 12 = .ok (.aload_n 0, 1) := by decide +kernel
theorem dX3_enter_13 : decode cX3_enter 13 = .ok (.getfield 25, 3) := by decide +kernel
theorem dX3_enter_16 : decode cX3_enter 16 = .ok (.iload_n 1, 1) := by decide +kernel
theorem dX3_enter_17 : decode cX3_enter 17 = .ok (.iastore, 1) := by decide +kernel
theorem dX3_enter_18 : decode cX3_enter 18 = .ok (.aload_n 0, 1) := by decide +kernel
theorem dX3_enter_19 : decode cX3_enter 19 = .ok (.getfield 15, 3) := by decide +kernel
theorem dX3_enter_22 : decode cX3_enter 22 = .ok (.aload_n 0, 1) := by decide +kernel
theorem dX3_enter_23 : decode cX3_enter 23 = .ok (.getfield 25, 3) := by decide +kernel
theorem dX3_enter_26 : decode cX3_enter 26 = .ok (.iload_n 2, 1) := by decide +kernel
theorem dX3_enter_27 : decode cX3_enter 27 = .ok (.iastore, 1) := by decide +kernel
theorem dX3_enter_28 : decode cX3_enter 28 = .ok (.aload_n 0, 1) := by decide +kernel
theorem dX3_enter_29 : decode cX3_enter 29 = .ok (.getfield 18, 3) := by decide +kernel
theorem dX3_enter_32 : decode cX3_enter 32 = .ok (.aload_n 0, 1) := by decide +kernel
theorem dX3_enter_33 : decode cX3_enter 33 = .ok (.getfield 25, 3) := by decide +kernel
theorem dX3_enter_36 : decode cX3_enter 36 = .ok (.iload_n 3, 1) := by decide +kernel
theorem dX3_enter_37 : decode cX3_enter 37 = .ok (.iastore, 1) := by decide +kernel
theorem dX3_enter_38 : decode cX3_enter 38 = .ok (.aload_n 0, 1) := by decide +kernel
theorem dX3_enter_39 : decode cX3_enter 39 = .ok (.getfield 21, 3) := by decide +kernel
theorem dX3_enter_42 : decode cX3_enter 42 = .ok (.aload_n 0, 1) := by decide +kernel
theorem dX3_enter_43 : decode cX3_enter 43 = .ok (.getfield 25, 3) := by decide +kernel
theorem dX3_enter_46 : decode cX3_enter 46 = .ok (.lload 4, 2) := by decide +kernel
theorem dX3_enter_48 : decode cX3_enter 48 = .ok (.lastore, 1) := by decide +kernel
theorem dX3_enter_49 : decode cX3_enter 49 = .ok (.aload_n 0, 1) := by decide +kernel
theorem dX3_enter_50 : decode cX3_enter 50 = .ok (.dup, 1) := by decide +kernel
theorem dX3_enter_51 : decode cX3_enter 51 = .ok (.getfield 25, 3) := by decide +kernel
theorem dX3_enter_54 : decode cX3_enter 54 = .ok (.iconst 1, 1) := by decide +kernel
theorem dX3_enter_55 : decode cX3_enter 55 = .ok (.iadd, 1) := by decide +kernel
theorem dX3_enter_56 : decode cX3_enter 56 = .ok (.putfield 25, 3) := by decide +kernel
theorem dX3_enter_59 : decode cX3_enter 59 = .ok (.return_, 1) := by decide +kernel
theorem dX3_redoIn_0 : decode cX3_redoIn 0 = .ok (.iconst 0, 1) := by decide +kernel
theorem dX3_redoIn_1 : decode cX3_redoIn 1 = .ok (.istore_n 2, 1) := by decide +kernel
theorem dX3_redoIn_2 : decode cX3_redoIn 2 = .ok (.iload_n 2, 1) := by decide +kernel
theorem dX3_redoIn_3 : decode cX3_redoIn 3 = .ok (.aload_n 0, 1) := by decide +kernel
theorem dX3_redoIn_4 : decode cX3_redoIn 4 = .ok (.getfield 25, 3) := by decide +kernel
theorem dX3_redoIn_7 : decode cX3_redoIn 7 = .ok (.if_icmp .ge 88, 3) := by decide +kernel
theorem dX3_redoIn_10 : decode cX3_redoIn 10 = .ok (.iload_n 2, 1) := by decide +kernel
theorem dX3_redoIn_11 : decode cX3_redoIn 11 = .ok (.bipush 40, 2) := by decide +kernel
theorem dX3_redoIn_13 : decode cX3_redoIn 13 = .ok (.if_icmp .ge 82, 3) := by decide +kernel
theorem dX3_redoIn_16 : decode cX3_redoIn 16 = .ok (.aload_n 0, 1) := by decide +kernel
theorem dX3_redoIn_17 : decode cX3_redoIn 17 = .ok (.getfield 9, 3) := by decide +kernel
theorem dX3_redoIn_20 : decode cX3_redoIn 20 = .ok (.iload_n 2, 1) := by decide +kernel
theorem dX3_redoIn_21 : decode cX3_redoIn 21 = .ok (.iaload, 1) := by decide +kernel
theorem dX3_redoIn_22 : decode cX3_redoIn 22 = .ok (.ifCond .ne 28, 3) := by decide +kernel
theorem dX3_redoIn_25 : decode cX3_redoIn 25 = .ok (.aload_n 1, 1) := by decide +kernel
theorem dX3_redoIn_26 : decode cX3_redoIn 26 = .ok (.aload_n 0, 1) := by decide +kernel
theorem dX3_redoIn_27 : decode cX3_redoIn 27 = .ok (.getfield 15, 3) := by decide +kernel
theorem dX3_redoIn_30 : decode cX3_redoIn 30 = .ok (.iload_n 2, 1) := by decide +kernel
theorem dX3_redoIn_31 : decode cX3_redoIn 31 = .ok (.iaload, 1) := by decide +kernel
theorem dX3_redoIn_32 : decode cX3_redoIn 32 = .ok (.aload_n 0, 1) := by decide +kernel
theorem dX3_redoIn_33 : decode cX3_redoIn 33 = .ok (.getfield 18, 3) := by decide +kernel
theorem dX3_redoIn_36 : decode cX3_redoIn 36 = .ok (.iload_n 2, 1) := by decide +kernel
theorem dX3_redoIn_37 : decode cX3_redoIn 37 = .ok (.iaload, 1) := by decide +kernel
theorem dX3_redoIn_38 : decode cX3_redoIn 38 = .ok (.aload_n 0, 1) := by decide +kernel
theorem dX3_redoIn_39 : decode cX3_redoIn 39 = .ok (.getfield 21, 3) := by decide +kernel
theorem dX3_redoIn_42 : decode cX3_redoIn 42 = .ok (.iload_n 2, 1) := by decide +kernel
theorem dX3_redoIn_43 : decode cX3_redoIn 43 = .ok (.laload, 1) := by decide +kernel
theorem dX3_redoIn_44 : decode cX3_redoIn 44 = .ok (.invokevirtual 33, 3) := by decide +kernel
theorem dX3_redoIn_47 : decode cX3_redoIn 47 = .ok (.goto 42, 3) := by decide +kernel
theorem dX3_redoIn_50 : decode cX3_redoIn 50 = .ok (.aload_n 0, 1) := by decide +kernel
theorem dX3_redoIn_51 : decode cX3_redoIn 51 = .ok (.getfield 9, 3) := by decide +kernel
theorem dX3_redoIn_54 : decode cX3_redoIn 54 = .ok (.iload_n 2, 1) := by decide +kernel
theorem dX3_redoIn_55 : decode cX3_redoIn 55 = .ok (.iaload, 1) := by decide +kernel
theorem dX3_redoIn_56 : decode cX3_redoIn 56 = .ok (.iconst 1, 1) := by decide +kernel
theorem dX3_redoIn_57 : decode cX3_redoIn 57 = .ok (.if_icmp .ne 22, 3) := by decide +kernel
theorem dX3_redoIn_60 : decode cX3_redoIn 60 = .ok (.aload_n 1, 1) := by decide +kernel
theorem dX3_redoIn_61 : decode cX3_redoIn 61 = .ok (.aload_n 0, 1) := by decide +kernel
theorem dX3_redoIn_62 : decode cX3_redoIn 62 = .ok (.getfield 15, 3) := by decide +kernel
theorem dX3_redoIn_65 : decode cX3_redoIn 65 = .ok (.iload_n 2, 1) := by decide +kernel
theorem dX3_redoIn_66 : decode cX3_redoIn 66 = .ok (.iaload, 1) := by decide +kernel
theorem dX3_redoIn_67 : decode cX3_redoIn 67 = .ok (.aload_n 0, 1) := by decide +kernel
theorem dX3_redoIn_68 : decode cX3_redoIn 68 = .ok (.getfield 18, 3) := by decide +kernel
theorem dX3_redoIn_71 : decode cX3_redoIn 71 = .ok (.iload_n 2, 1) := by decide +kernel
theorem dX3_redoIn_72 : decode cX3_redoIn 72 = .ok (.iaload, 1) := by decide +kernel
theorem dX3_redoIn_73 : decode cX3_redoIn 73 = .ok (.invokevirtual 39, 3) := by decide +kernel
theorem dX3_redoIn_76 : decode cX3_redoIn 76 = .ok (.goto 13, 3) := by decide +kernel
theorem dX3_redoIn_79 : decode cX3_redoIn 79 = .ok (.aload_n 1, 1) := by decide +kernel
theorem dX3_redoIn_80 : decode cX3_redoIn 80 = .ok (.aload_n 0, 1) := by decide +kernel
theorem dX3_redoIn_81 : decode cX3_redoIn 81 = .ok (.getfield 15, 3) := by decide +kernel
theorem dX3_redoIn_84 : decode cX3_redoIn 84 = .ok (.iload_n 2, 1) := by decide +kernel
theorem dX3_redoIn_85 : decode cX3_redoIn 85 = .ok (.iaload, 1) := by decide +kernel
theorem dX3_redoIn_86 : decode cX3_redoIn 86 = .ok (.invokevirtual 43, 3) := by decide +kernel
theorem dX3_redoIn_89 : decode cX3_redoIn 89 = .ok (.iinc 2 1, 3) := by decide +kernel
theorem dX3_redoIn_92 : decode cX3_redoIn 92 = .ok (.goto (-90), 3) := by decide +kernel
theorem dX3_redoIn_95 : decode cX3_redoIn 95 = .ok (.return_, 1) := by decide +kernel
theorem dX4_init_0 : decode cX4_init 0 = .ok (.aload_n 0, 1) := by decide +kernel
theorem dX4_init_1 : decode cX4_init 1 = .ok (.invokespecial 3, 3) := by decide +kernel
theorem dX4_init_4 : decode cX4_init 4 = .ok (.aload_n 0, 1) := by decide +kernel
theorem dX4_init_5 : decode cX4_init 5 = .ok (.bipush 32, 2) := by decide +kernel
theorem dX4_init_7 : decode cX4_init 7 = .ok (.newarray .int, 2) := by decide +kernel
theorem dX4_init_9 : decode cX4_init 9 = .ok (.putfield 9, 3) := by decide +kernel
theorem dX4_init_12 : decode cX4_init 12 = .ok (.aload_n 0, 1) := by decide +kernel
theorem dX4_init_13 : decode cX4_init 13 = .ok (.sipush 1792, 3) := by decide +kernel
theorem dX4_init_16 : decode cX4_init 16 = .ok (.newarray .long, 2) := by decide +kernel
theorem dX4_init_18 : decode cX4_init 18 = .ok (.putfield 15, 3) := by decide +kernel
theorem dX4_init_21 : decode cX4_init 21 = .ok (.aload_n 0, 1) := by decide +kernel
theorem dX4_init_22 : decode cX4_init 22 = .ok (.bipush 32, 2) := by decide +kernel
theorem dX4_init_24 : decode cX4_init 24 = .ok (.newarray .int, 2) := by decide +kernel
theorem dX4_init_26 : decode cX4_init 26 = .ok (.putfield 19, 3) := by decide +kernel
theorem dX4_init_29 : decode cX4_init 29 = .ok (.aload_n 0, 1) := by decide +kernel
theorem dX4_init_30 : decode cX4_init 30 = .ok (.sipush 448, 3) := by decide +kernel
theorem dX4_init_33 : decode cX4_init 33 = .ok (.newarray .int, 2) := by decide +kernel
theorem dX4_init_35 : decode cX4_init 35 = .ok (.putfield 22, 3) := by decide +kernel
theorem dX4_init_38 : decode cX4_init 38 = .ok (.aload_n 0, 1) := by decide +kernel
theorem dX4_init_39 : decode cX4_init 39 = .ok (.bipush 32, 2) := by decide +kernel
theorem dX4_init_41 : decode cX4_init 41 = .ok (.newarray .int, 2) := by decide +kernel
theorem dX4_init_43 : decode cX4_init 43 = .ok (.putfield 25, 3) := by decide +kernel
theorem dX4_init_46 : decode cX4_init 46 = .ok (.return_, 1) := by decide +kernel
theorem dX4_wipe_0 : decode cX4_wipe 0 = .ok (.aload_n 0, 1) := by decide +kernel
theorem dX4_wipe_1 : decode cX4_wipe 1 = .ok (.getfield 9, 3) := by decide +kernel
theorem dX4_wipe_4 : decode cX4_wipe 4 = .ok (.iconst (-1), 1) := by decide +kernel
theorem dX4_wipe_5 : decode cX4_wipe 5 = .ok (.invokestatic 28, 3) := by decide +kernel
theorem dX4_wipe_8 : decode cX4_wipe 8 = .ok (.aload_n 0, 1) := by decide +kernel
theorem dX4_wipe_9 : decode cX4_wipe 9 = .ok (.getfield 19, 3) := by decide +kernel
theorem dX4_wipe_12 : decode cX4_wipe 12 = .ok (.iconst 0, 1) := by decide +kernel
theorem dX4_wipe_13 : decode cX4_wipe 13 = .ok (.invokestatic 28, 3) := by decide +kernel
theorem dX4_wipe_16 : decode cX4_wipe 16 = .ok (.aload_n 0, 1) := by decide +kernel
theorem dX4_wipe_17 : decode cX4_wipe 17 = .ok (.invokevirtual 34, 3) := by decide +kernel
theorem dX4_wipe_20 : decode cX4_wipe 20 = .ok (.return_, 1) := by decide +kernel
theorem dX4_settle_0 : decode cX4_settle 0 = .ok (.aload_n 0, 1) := by decide +kernel
theorem dX4_settle_1 : decode cX4_settle 1 = .ok (.getfield 25, 3) := by decide +kernel
theorem dX4_settle_4 : decode cX4_settle 4 = .ok (.iconst 0, 1) := by decide +kernel
theorem dX4_settle_5 : decode cX4_settle 5 = .ok (.invokestatic 28, 3) := by decide +kernel
theorem dX4_settle_8 : decode cX4_settle 8 = .ok (.aload_n 0, 1) := by decide +kernel
theorem dX4_settle_9 : decode cX4_settle 9 = .ok (.iconst 0, 1) := by decide +kernel
theorem dX4_settle_10 : decode cX4_settle 10 = .ok (.putfield 37, 3) := by decide +kernel
theorem dX4_settle_13 : decode cX4_settle 13 = .ok (.return_, 1) := by decide +kernel
theorem dX4_octetsOf_0 : decode cX4_octetsOf 0 = .ok (.iload_n 1, 1) := by decide +kernel
theorem dX4_octetsOf_1 : decode cX4_octetsOf 1 = .ok (.invokestatic 41, 3) := by decide +kernel
theorem dX4_octetsOf_4 : decode cX4_octetsOf 4 = .ok (.ifCond .eq 12, 3) := by decide +kernel
theorem dX4_octetsOf_7 : decode cX4_octetsOf 7 = .ok (.aload_n 0, 1) := by decide +kernel
theorem dX4_octetsOf_8 : decode cX4_octetsOf 8 = .ok (.getfield 9, 3) := by decide +kernel
theorem dX4_octetsOf_11 : decode cX4_octetsOf 11 = .ok (.iload_n 1, 1) := by decide +kernel
theorem dX4_octetsOf_12 : decode cX4_octetsOf 12 = .ok (.iaload, 1) := by decide +kernel
theorem dX4_octetsOf_13 : decode cX4_octetsOf 13 = .ok (.goto 4, 3) := by decide +kernel
theorem dX4_octetsOf_16 : decode cX4_octetsOf 16 = .ok (.iconst (-1), 1) := by decide +kernel
theorem dX4_octetsOf_17 : decode cX4_octetsOf 17 = .ok (.ireturn, 1) := by decide +kernel
theorem dX4_octetAt_0 : decode cX4_octetAt 0 = .ok (.iload_n 2, 1) := by decide +kernel
theorem dX4_octetAt_1 : decode cX4_octetAt 1 = .ok (.ifCond .lt 12, 3) := by decide +kernel
theorem dX4_octetAt_4 : decode cX4_octetAt 4 = .ok (.iload_n 2, 1) := by decide +kernel
theorem dX4_octetAt_5 : decode cX4_octetAt 5 = .ok (.aload_n 0, 1) := by decide +kernel
theorem dX4_octetAt_6 : decode cX4_octetAt 6 = .ok (.iload_n 1, 1) := by decide +kernel
theorem dX4_octetAt_7 : decode cX4_octetAt 7 = .ok (.invokevirtual 45, 3) := by decide +kernel
theorem dX4_octetAt_10 : decode cX4_octetAt 10 = .ok (.if_icmp .lt 5, 3) := by decide +kernel
theorem dX4_octetAt_13 : decode cX4_octetAt 13 = .ok (.iconst 0, 1) := by decide +kernel
theorem dX4_octetAt_14 : decode cX4_octetAt 14 = .ok (.ireturn, 1) := by decide +kernel
theorem dX4_octetAt_15 : decode cX4_octetAt 15 = .ok (.aload_n 0, 1) := by decide +kernel
theorem dX4_octetAt_16 : decode cX4_octetAt 16 = .ok (.getfield 15, 3) := by decide +kernel
theorem dX4_octetAt_19 : decode cX4_octetAt 19 = .ok (.iload_n 1, 1) := by decide +kernel
theorem dX4_octetAt_20 : decode cX4_octetAt 20 = .ok (.bipush 56, 2) := by decide +kernel
theorem dX4_octetAt_22 : decode cX4_octetAt 22 = .ok (.imul, 1) := by decide +kernel
theorem dX4_octetAt_23 : decode cX4_octetAt 23 = .ok (.iload_n 2, 1) := by decide +kernel
theorem dX4_octetAt_24 : decode cX4_octetAt 24 = .ok (.bipush 8, 2) := by decide +kernel
theorem dX4_octetAt_26 : decode cX4_octetAt 26 = .ok (.idiv, 1) := by decide +kernel
theorem dX4_octetAt_27 : decode cX4_octetAt 27 = .ok (.iadd, 1) := by decide +kernel
theorem dX4_octetAt_28 : decode cX4_octetAt 28 = .ok (.laload, 1) := by decide +kernel
theorem dX4_octetAt_29 : decode cX4_octetAt 29 = .ok (.iload_n 2, 1) := by decide +kernel
theorem dX4_octetAt_30 : decode cX4_octetAt 30 = .ok (.bipush 8, 2) := by decide +kernel
theorem dX4_octetAt_32 : decode cX4_octetAt 32 = .ok (.irem, 1) := by decide +kernel
theorem dX4_octetAt_33 : decode cX4_octetAt 33 = .ok (.invokestatic 49, 3) := by decide +kernel
theorem dX4_octetAt_36 : decode cX4_octetAt 36 = .ok (.ireturn, 1) := by decide +kernel
theorem dX4_filesThere_0 : decode cX4_filesThere 0 = .ok (.iconst 0, 1) := by decide +kernel
theorem dX4_filesThere_1 : decode cX4_filesThere 1 = .ok (.istore_n 1, 1) := by decide +kernel
theorem dX4_filesThere_2 : decode cX4_filesThere 2 = .ok (.iconst 0, 1) := by decide +kernel
theorem dX4_filesThere_3 : decode cX4_filesThere 3 = .ok (.istore_n 2, 1) := by decide +kernel
theorem dX4_filesThere_4 : decode cX4_filesThere 4 = .ok (.iload_n 2, 1) := by decide +kernel
theorem dX4_filesThere_5 : decode cX4_filesThere 5 = .ok (.bipush 32, 2) := by decide +kernel
theorem dX4_filesThere_7 : decode cX4_filesThere 7 = .ok (.if_icmp .ge 22, 3) := by decide +kernel
theorem dX4_filesThere_10 : decode cX4_filesThere 10 = .ok (.aload_n 0, 1) := by decide +kernel
theorem dX4_filesThere_11 : decode cX4_filesThere 11 = .ok (.getfield 9, 3) := by decide +kernel
theorem dX4_filesThere_14 : decode cX4_filesThere 14 = .ok (.iload_n 2, 1) := by decide +kernel
theorem dX4_filesThere_15 : decode cX4_filesThere 15 = .ok (.iaload, 1) := by decide +kernel
theorem dX4_filesThere_16 : decode cX4_filesThere 16 = .ok (.iconst (-1), 1) := by decide +kernel
theorem dX4_filesThere_17 : decode cX4_filesThere 17 = .ok (.if_icmp .eq 6, 3) := by decide +kernel
theorem dX4_filesThere_20 : decode cX4_filesThere 20 = .ok (.iinc 1 1, 3) := by decide +kernel
theorem dX4_filesThere_23 : decode cX4_filesThere 23 = .ok (.iinc 2 1, 3) := by decide +kernel
theorem dX4_filesThere_26 : decode cX4_filesThere 26 = .ok (.goto (-22), 3) := by decide +kernel
theorem dX4_filesThere_29 : decode cX4_filesThere 29 = .ok (.iload_n 1, 1) := by decide +kernel
theorem dX4_filesThere_30 : decode cX4_filesThere 30 = .ok (.ireturn, 1) := by decide +kernel
theorem dX4_overwrite_0 : decode cX4_overwrite 0 = .ok (.iload_n 1, 1) := by decide +kernel
theorem dX4_overwrite_1 : decode cX4_overwrite 1 = .ok (.invokestatic 41, 3) := by decide +kernel
theorem dX4_overwrite_4 : decode cX4_overwrite 4 = .ok (.ifCond .eq 14, 3) := by decide +kernel
theorem dX4_overwrite_7 : decode cX4_overwrite 7 = .ok (.iload_n 2, 1) := by decide +kernel
theorem dX4_overwrite_8 : decode cX4_overwrite 8 = .ok (.ifCond .lt 10, 3) := by decide +kernel
theorem dX4_overwrite_11 : decode cX4_overwrite 11 = .ok (.iload_n 2, 1) := by decide +kernel
theorem dX4_overwrite_12 : decode cX4_overwrite 12 = .ok (.sipush 440, 3) := by decide +kernel
theorem dX4_overwrite_15 : decode cX4_overwrite 15 = .ok (.if_icmp .le 4, 3) := by decide +kernel
theorem dX4_overwrite_18 : decode cX4_overwrite 18 = .ok (.return_, 1) := by decide +kernel
theorem dX4_overwrite_19 : decode cX4_overwrite 19 = .ok (.aload_n 0, 1) := by decide +kernel
theorem dX4_overwrite_20 : decode cX4_overwrite 20 = .ok (.getfield 9, 3) := by decide +kernel
theorem dX4_overwrite_23 : decode cX4_overwrite 23 = .ok (.iload_n 1, 1) := by decide +kernel
theorem dX4_overwrite_24 : decode cX4_overwrite 24 = .ok (.aload_n 0, 1) := by decide +kernel
theorem dX4_overwrite_25 : decode cX4_overwrite 25 = .ok (.getfield 9, 3) := by decide +kernel
theorem dX4_overwrite_28 : decode cX4_overwrite 28 = .ok (.iload_n 1, 1) := by decide +kernel
theorem dX4_overwrite_29 : decode cX4_overwrite 29 = .ok (.iaload, 1) := by decide +kernel
theorem dX4_overwrite_30 : decode cX4_overwrite 30 = .ok (.iload_n 2, 1) := by decide +kernel
theorem dX4_overwrite_31 : decode cX4_overwrite 31 = .ok (.bipush 8, 2) := by decide +kernel
theorem dX4_overwrite_33 : decode cX4_overwrite 33 = .ok (.iadd, 1) := by decide +kernel
theorem dX4_overwrite_34 : decode cX4_overwrite 34 = .ok (.invokestatic 53, 3) := by decide +kernel
theorem dX4_overwrite_37 : decode cX4_overwrite 37 = .ok (.iastore, 1) := by decide +kernel
theorem dX4_overwrite_38 : decode cX4_overwrite 38 = .ok (.iload_n 1, 1) := by decide +kernel
theorem dX4_overwrite_39 : decode cX4_overwrite 39 = .ok (.bipush 56, 2) := by decide +kernel
theorem dX4_overwrite_41 : decode cX4_overwrite 41 = .ok (.imul, 1) := by decide +kernel
theorem dX4_overwrite_42 : decode cX4_overwrite 42 = .ok (.iload_n 2, 1) := by decide +kernel
theorem dX4_overwrite_43 : decode cX4_overwrite 43 = .ok (.bipush 8, 2) := by decide +kernel
theorem dX4_overwrite_45 : decode cX4_overwrite 45 = .ok (.idiv, 1) := by decide +kernel
theorem dX4_overwrite_46 : decode cX4_overwrite 46 = .ok (.iadd, 1) := by decide +kernel
theorem dX4_overwrite_47 : decode cX4_overwrite 47 = .ok (.istore 5, 2) := by decide +kernel
theorem dX4_overwrite_49 : decode cX4_overwrite 49 = .ok (.bipush 8, 2) := by decide +kernel
theorem dX4_overwrite_51 : decode cX4_overwrite 51 = .ok (.iload_n 2, 1) := by decide +kernel
theorem dX4_overwrite_52 : decode cX4_overwrite 52 = .ok (.bipush 8, 2) := by decide +kernel
theorem dX4_overwrite_54 : decode cX4_overwrite 54 = .ok (.irem, 1) := by decide +kernel
theorem dX4_overwrite_55 : decode cX4_overwrite 55 = .ok (.imul, 1) := by decide +kernel
theorem dX4_overwrite_56 : decode cX4_overwrite 56 = .ok (.istore 6, 2) := by decide +kernel
theorem dX4_overwrite_58 : decode cX4_overwrite 58 = .ok (.ldc2_w 59, 3) := by decide +kernel
theorem dX4_overwrite_61 : decode cX4_overwrite 61 = .ok (.iload 6, 2) := by decide +kernel
theorem dX4_overwrite_63 : decode cX4_overwrite 63 = .ok (.lushr, 1) := by decide +kernel
theorem dX4_overwrite_64 : decode cX4_overwrite 64 = .ok (.lstore 7, 2) := by decide +kernel
theorem dX4_overwrite_66 : decode cX4_overwrite 66 = .ok (.aload_n 0, 1) := by decide +kernel
theorem dX4_overwrite_67 : decode cX4_overwrite 67 = .ok (.getfield 15, 3) := by decide +kernel
theorem dX4_overwrite_70 : decode cX4_overwrite 70 = .ok (.iload 5, 2) := by decide +kernel
theorem dX4_overwrite_72 : decode cX4_overwrite 72 = .ok (.aload_n 0, 1) := by decide +kernel
theorem dX4_overwrite_73 : decode cX4_overwrite 73 = .ok (.getfield 15, 3) := by decide +kernel
theorem dX4_overwrite_76 : decode cX4_overwrite 76 = .ok (.iload 5, 2) := by decide +kernel
theorem dX4_overwrite_78 : decode cX4_overwrite 78 = .ok (.laload, 1) := by decide +kernel
theorem dX4_overwrite_79 : decode cX4_overwrite 79 = .ok (.lload 7, 2) := by decide +kernel
theorem dX4_overwrite_81 : decode cX4_overwrite 81 = .ok (.ldc2_w 59, 3) := by decide +kernel
theorem dX4_overwrite_84 : decode cX4_overwrite 84 = .ok (.lxor, 1) := by decide +kernel
theorem dX4_overwrite_85 : decode cX4_overwrite 85 = .ok (.land, 1) := by decide +kernel
theorem dX4_overwrite_86 : decode cX4_overwrite 86 = .ok (.lload_n 3, 1) := by decide +kernel
theorem dX4_overwrite_87 : decode cX4_overwrite 87 = .ok (.iload 6, 2) := by decide +kernel
theorem dX4_overwrite_89 : decode cX4_overwrite 89 = .ok (.lushr, 1) := by decide +kernel
theorem dX4_overwrite_90 : decode cX4_overwrite 90 = .ok (.lor, 1) := by decide +kernel
theorem dX4_overwrite_91 : decode cX4_overwrite 91 = .ok (.lastore, 1) := by decide +kernel
theorem dX4_overwrite_92 : decode cX4_overwrite 92 = .ok (.iload 6, 2) := by decide +kernel
theorem dX4_overwrite_94 : decode cX4_overwrite 94 = .ok (.ifCond .eq 32, 3) := by decide +kernel
theorem dX4_overwrite_97 : decode cX4_overwrite 97 = .ok (.aload_n 0, 1) := by decide +kernel
theorem dX4_overwrite_98 : decode cX4_overwrite 98 = .ok (.getfield 15, 3) := by decide +kernel
theorem dX4_overwrite_101 : decode cX4_overwrite 101 = .ok (.iload 5, 2) := by decide +kernel
theorem dX4_overwrite_103 : decode cX4_overwrite 103 = .ok (.iconst 1, 1) := by decide +kernel
theorem dX4_overwrite_104 : decode cX4_overwrite 104 = .ok (.iadd, 1) := by decide +kernel
theorem dX4_overwrite_105 : decode cX4_overwrite 105 = .ok (.aload_n 0, 1) := by decide +kernel
theorem dX4_overwrite_106 : decode cX4_overwrite 106 = .ok (.getfield 15, 3) := by decide +kernel
theorem dX4_overwrite_109 : decode cX4_overwrite 109 = .ok (.iload 5, 2) := by decide +kernel
theorem dX4_overwrite_111 : decode cX4_overwrite 111 = .ok (.iconst 1, 1) := by decide +kernel
theorem dX4_overwrite_112 : decode cX4_overwrite 112 = .ok (.iadd, 1) := by decide +kernel
theorem dX4_overwrite_113 : decode cX4_overwrite 113 = .ok (.laload, 1) := by decide +kernel
theorem dX4_overwrite_114 : decode cX4_overwrite 114 = .ok (.lload 7, 2) := by decide +kernel
theorem dX4_overwrite_116 : decode cX4_overwrite 116 = .ok (.land, 1) := by decide +kernel
theorem dX4_overwrite_117 : decode cX4_overwrite 117 = .ok (.lload_n 3, 1) := by decide +kernel
theorem dX4_overwrite_118 : decode cX4_overwrite 118 = .ok (.bipush 64, 2) := by decide +kernel
theorem dX4_overwrite_120 : decode cX4_overwrite 120 = .ok (.iload 6, 2) := by decide +kernel
theorem dX4_overwrite_122 : decode cX4_overwrite 122 = .ok (.isub, 1) := by decide +kernel
theorem dX4_overwrite_123 : decode cX4_overwrite 123 = .ok (.lshl, 1) := by decide +kernel
theorem dX4_overwrite_124 : decode cX4_overwrite 124 = .ok (.lor, 1) := by decide +kernel
theorem dX4_overwrite_125 : decode cX4_overwrite 125 = .ok (.lastore, 1) := by decide +kernel
theorem dX4_overwrite_126 : decode cX4_overwrite 126 = .ok (.aload_n 0, 1) := by decide +kernel
theorem dX4_overwrite_127 : decode cX4_overwrite 127 = .ok (.getfield 25, 3) := by decide +kernel
theorem dX4_overwrite_130 : decode cX4_overwrite 130 = .ok (.iload_n 1, 1) := by decide +kernel
theorem dX4_overwrite_131 : decode cX4_overwrite 131 = .ok (.dup2, 1) := by decide +kernel
theorem dX4_overwrite_132 : decode cX4_overwrite 132 = .ok (.iaload, 1) := by decide +kernel
theorem dX4_overwrite_133 : decode cX4_overwrite 133 = .ok (.iconst 1, 1) := by decide +kernel
theorem dX4_overwrite_134 : decode cX4_overwrite 134 = .ok (.iload_n 2, 1) := by decide +kernel
theorem dX4_overwrite_135 : decode cX4_overwrite 135 = .ok (.bipush 32, 2) := by decide +kernel
theorem dX4_overwrite_137 : decode cX4_overwrite 137 = .ok (.idiv, 1) := by decide +kernel
theorem dX4_overwrite_138 : decode cX4_overwrite 138 = .ok (.ishl, 1) := by decide +kernel
theorem dX4_overwrite_139 : decode cX4_overwrite 139 = .ok (.ior, 1) := by decide +kernel
theorem dX4_overwrite_140 : decode cX4_overwrite 140 = .ok (.iastore, 1) := by decide +kernel
theorem dX4_overwrite_141 : decode cX4_overwrite 141 = .ok (.aload_n 0, 1) := by decide +kernel
theorem dX4_overwrite_142 : decode cX4_overwrite 142 = .ok (.getfield 25, 3) := by decide +kernel
theorem dX4_overwrite_145 : decode cX4_overwrite 145 = .ok (.iload_n 1, 1) := by decide +kernel
theorem dX4_overwrite_146 : decode cX4_overwrite 146 = .ok (.dup2, 1) := by decide +kernel
theorem dX4_overwrite_147 : decode cX4_overwrite 147 = .ok (.iaload, 1) := by decide +kernel
theorem dX4_overwrite_148 : decode cX4_overwrite 148 = .ok (.iconst 1, 1) := by decide +kernel
theorem dX4_overwrite_149 : decode cX4_overwrite 149 = .ok (.iload_n 2, 1) := by decide +kernel
theorem dX4_overwrite_150 : decode cX4_overwrite 150 = .ok (.bipush 8, 2) := by decide +kernel
theorem dX4_overwrite_152 : decode cX4_overwrite 152 = .ok (.iadd, 1) := by decide +kernel
theorem dX4_overwrite_153 : decode cX4_overwrite 153 = .ok (.iconst 1, 1) := by decide +kernel
theorem dX4_overwrite_154 : decode cX4_overwrite 154 = .ok (.isub, 1) := by decide +kernel
theorem dX4_overwrite_155 : decode cX4_overwrite 155 = .ok (.bipush 32, 2) := by decide +kernel
theorem dX4_overwrite_157 : decode cX4_overwrite 157 = .ok (.idiv, 1) := by decide +kernel
theorem dX4_overwrite_158 : decode cX4_overwrite 158 = .ok (.ishl, 1) := by decide +kernel
theorem dX4_overwrite_159 : decode cX4_overwrite 159 = .ok (.ior, 1) := by decide +kernel
theorem dX4_overwrite_160 : decode cX4_overwrite 160 = .ok (.iastore, 1) := by decide +kernel
theorem dX4_overwrite_161 : decode cX4_overwrite 161 = .ok (.aload_n 0, 1) := by decide +kernel
theorem dX4_overwrite_162 : decode cX4_overwrite 162 = .ok (.dup, 1) := by decide +kernel
theorem dX4_overwrite_163 : decode cX4_overwrite 163 = .ok (.getfield 37, 3) := by decide +kernel
theorem dX4_overwrite_166 : decode cX4_overwrite 166 = .ok (.iconst 1, 1) := by decide +kernel
theorem dX4_overwrite_167 : decode cX4_overwrite 167 = .ok (.iload_n 1, 1) := by decide +kernel
theorem dX4_overwrite_168 : decode cX4_overwrite 168 = .ok (.ishl, 1) := by decide +kernel
theorem dX4_overwrite_169 : decode cX4_overwrite 169 = .ok (.ior, 1) := by decide +kernel
theorem dX4_overwrite_170 : decode cX4_overwrite 170 = .ok (.putfield 37, 3) := by decide +kernel
theorem dX4_overwrite_173 : decode cX4_overwrite 173 = .ok (.return_, 1) := by decide +kernel
theorem dX4_shorten_0 : decode cX4_shorten 0 = .ok (.iload_n 2, 1) := by decide +kernel
theorem dX4_shorten_1 : decode cX4_shorten 1 = .ok (.ifCond .lt 12, 3) := by decide +kernel
theorem dX4_shorten_4 : decode cX4_shorten 4 = .ok (.iload_n 2, 1) := by decide +kernel
theorem dX4_shorten_5 : decode cX4_shorten 5 = .ok (.aload_n 0, 1) := by decide +kernel
theorem dX4_shorten_6 : decode cX4_shorten 6 = .ok (.iload_n 1, 1) := by decide +kernel
theorem dX4_shorten_7 : decode cX4_shorten 7 = .ok (.invokevirtual 45, 3) := by decide +kernel
theorem dX4_shorten_10 : decode cX4_shorten 10 = .ok (.if_icmp .le 4, 3) := by decide +kernel
theorem dX4_shorten_13 : decode cX4_shorten 13 = .ok (.return_, 1) := by decide +kernel
theorem dX4_shorten_14 : decode cX4_shorten 14 = .ok (.aload_n 0, 1) := by decide +kernel
theorem dX4_shorten_15 : decode cX4_shorten 15 = .ok (.getfield 9, 3) := by decide +kernel
theorem dX4_shorten_18 : decode cX4_shorten 18 = .ok (.iload_n 1, 1) := by decide +kernel
theorem dX4_shorten_19 : decode cX4_shorten 19 = .ok (.iload_n 2, 1) := by decide +kernel
theorem dX4_shorten_20 : decode cX4_shorten 20 = .ok (.iastore, 1) := by decide +kernel
theorem dX4_shorten_21 : decode cX4_shorten 21 = .ok (.aload_n 0, 1) := by decide +kernel
theorem dX4_shorten_22 : decode cX4_shorten 22 = .ok (.getfield 25, 3) := by decide +kernel
theorem dX4_shorten_25 : decode cX4_shorten 25 = .ok (.iload_n 1, 1) := by decide +kernel
theorem dX4_shorten_26 : decode cX4_shorten 26 = .ok (.dup2, 1) := by decide +kernel
theorem dX4_shorten_27 : decode cX4_shorten 27 = .ok (.iaload, 1) := by decide +kernel
theorem dX4_shorten_28 : decode cX4_shorten 28 = .ok (.iconst 1, 1) := by decide +kernel
theorem dX4_shorten_29 : decode cX4_shorten 29 = .ok (.iload_n 2, 1) := by decide +kernel
theorem dX4_shorten_30 : decode cX4_shorten 30 = .ok (.invokestatic 61, 3) := by decide +kernel
theorem dX4_shorten_33 : decode cX4_shorten 33 = .ok (.ishl, 1) := by decide +kernel
theorem dX4_shorten_34 : decode cX4_shorten 34 = .ok (.iconst 1, 1) := by decide +kernel
theorem dX4_shorten_35 : decode cX4_shorten 35 = .ok (.isub, 1) := by decide +kernel
theorem dX4_shorten_36 : decode cX4_shorten 36 = .ok (.iand, 1) := by decide +kernel
theorem dX4_shorten_37 : decode cX4_shorten 37 = .ok (.iastore, 1) := by decide +kernel
theorem dX4_shorten_38 : decode cX4_shorten 38 = .ok (.aload_n 0, 1) := by decide +kernel
theorem dX4_shorten_39 : decode cX4_shorten 39 = .ok (.dup, 1) := by decide +kernel
theorem dX4_shorten_40 : decode cX4_shorten 40 = .ok (.getfield 37, 3) := by decide +kernel
theorem dX4_shorten_43 : decode cX4_shorten 43 = .ok (.iconst 1, 1) := by decide +kernel
theorem dX4_shorten_44 : decode cX4_shorten 44 = .ok (.iload_n 1, 1) := by decide +kernel
theorem dX4_shorten_45 : decode cX4_shorten 45 = .ok (.ishl, 1) := by decide +kernel
theorem dX4_shorten_46 : decode cX4_shorten 46 = .ok (.ior, 1) := by decide +kernel
theorem dX4_shorten_47 : decode cX4_shorten 47 = .ok (.putfield 37, 3) := by decide +kernel
theorem dX4_shorten_50 : decode cX4_shorten 50 = .ok (.return_, 1) := by decide +kernel
theorem dX4_erase_0 : decode cX4_erase 0 = .ok (.iload_n 1, 1) := by decide +kernel
theorem dX4_erase_1 : decode cX4_erase 1 = .ok (.invokestatic 41, 3) := by decide +kernel
theorem dX4_erase_4 : decode cX4_erase 4 = .ok (.ifCond .ne 4, 3) := by decide +kernel
theorem dX4_erase_7 : decode cX4_erase 7 = .ok (.return_, 1) := by decide +kernel
theorem dX4_erase_8 : decode cX4_erase 8 = .ok (.aload_n 0, 1) := by decide +kernel
theorem dX4_erase_9 : decode cX4_erase 9 = .ok (.getfield 9, 3) := by decide +kernel
theorem dX4_erase_12 : decode cX4_erase 12 = .ok (.iload_n 1, 1) := by decide +kernel
theorem dX4_erase_13 : decode cX4_erase 13 = .ok (.iconst (-1), 1) := by decide +kernel
theorem dX4_erase_14 : decode cX4_erase 14 = .ok (.iastore, 1) := by decide +kernel
theorem dX4_erase_15 : decode cX4_erase 15 = .ok (.aload_n 0, 1) := by decide +kernel
theorem dX4_erase_16 : decode cX4_erase 16 = .ok (.getfield 25, 3) := by decide +kernel
theorem dX4_erase_19 : decode cX4_erase 19 = .ok (.iload_n 1, 1) := by decide +kernel
theorem dX4_erase_20 : decode cX4_erase 20 = .ok (.iconst 0, 1) := by decide +kernel
theorem dX4_erase_21 : decode cX4_erase 21 = .ok (.iastore, 1) := by decide +kernel
theorem dX4_erase_22 : decode cX4_erase 22 = .ok (.aload_n 0, 1) := by decide +kernel
theorem dX4_erase_23 : decode cX4_erase 23 = .ok (.dup, 1) := by decide +kernel
theorem dX4_erase_24 : decode cX4_erase 24 = .ok (.getfield 37, 3) := by decide +kernel
theorem dX4_erase_27 : decode cX4_erase 27 = .ok (.iconst 1, 1) := by decide +kernel
theorem dX4_erase_28 : decode cX4_erase 28 = .ok (.iload_n 1, 1) := by decide +kernel
theorem dX4_erase_29 : decode cX4_erase 29 = .ok (.ishl, 1) := by decide +kernel
theorem dX4_erase_30 : decode cX4_erase 30 = .ok (.ior, 1) := by decide +kernel
theorem dX4_erase_31 : decode cX4_erase 31 = .ok (.putfield 37, 3) := by decide +kernel
theorem dX4_erase_34 : decode cX4_erase 34 = .ok (.return_, 1) := by decide +kernel
theorem dX4_isChanged_0 : decode cX4_isChanged 0 = .ok (.aload_n 0, 1) := by decide +kernel
theorem dX4_isChanged_1 : decode cX4_isChanged 1 = .ok (.getfield 37, 3) := by decide +kernel
theorem dX4_isChanged_4 : decode cX4_isChanged 4 = .ok (.iload_n 1, 1) := by decide +kernel
theorem dX4_isChanged_5 : decode cX4_isChanged 5 = .ok (.iushr, 1) := by decide +kernel
theorem dX4_isChanged_6 : decode cX4_isChanged 6 = .ok (.iconst 1, 1) := by decide +kernel
theorem dX4_isChanged_7 : decode cX4_isChanged 7 = .ok (.iand, 1) := by decide +kernel
theorem dX4_isChanged_8 : decode cX4_isChanged 8 = .ok (.ifCond .eq 7, 3) := by decide +kernel
theorem dX4_isChanged_11 : decode cX4_isChanged 11 = .ok (.iconst 1, 1) := by decide +kernel
theorem dX4_isChanged_12 : decode cX4_isChanged 12 = .ok (.goto 4, 3) := by decide +kernel
theorem dX4_isChanged_15 : decode cX4_isChanged 15 = .ok (.iconst 0, 1) := by decide +kernel
theorem dX4_isChanged_16 : decode cX4_isChanged 16 = .ok (.ireturn, 1) := by decide +kernel
theorem dX4_isHalfChanged_0 : decode cX4_isHalfChanged 0 = .ok (.aload_n 0, 1) := by decide +kernel
theorem dX4_isHalfChanged_1 : decode cX4_isHalfChanged 1 = .ok (.getfield 37, 3) := by decide +kernel
theorem dX4_isHalfChanged_4 : decode cX4_isHalfChanged 4 = .ok (.iload_n 1, 1) := by decide +kernel
theorem dX4_isHalfChanged_5 : decode cX4_isHalfChanged 5 = .ok (.bipush 16, 2) := by decide +kernel
theorem dX4_isHalfChanged_7 : decode cX4_isHalfChanged 7 = .ok (.imul, 1) := by decide +kernel
theorem dX4_isHalfChanged_8 : decode cX4_isHalfChanged 8 = .ok (.iushr, 1) := by decide +kernel
theorem dX4_isHalfChanged_9 : decode cX4_isHalfChanged 9 = .ok (.ldc 64, 2) := by decide +kernel
theorem dX4_isHalfChanged_11 : decode cX4_isHalfChanged 11 = .ok (.iand, 1) := by decide +kernel
theorem dX4_isHalfChanged_12 : decode cX4_isHalfChanged 12 = .ok (.ifCond .eq 7, 3) := by decide +kernel
theorem dX4_isHalfChanged_15 : decode cX4_isHalfChanged 15 = .ok (.iconst 1, 1) := by decide +kernel
theorem dX4_isHalfChanged_16 : decode cX4_isHalfChanged 16 = .ok (.goto 4, 3) := by decide +kernel
theorem dX4_isHalfChanged_19 : decode cX4_isHalfChanged 19 = .ok (.iconst 0, 1) := by decide +kernel
theorem dX4_isHalfChanged_20 : decode cX4_isHalfChanged 20 = .ok (.ireturn, 1) := by decide +kernel
theorem dX4_isWritten_0 : decode cX4_isWritten 0 = .ok (.iload_n 1, 1) := by decide +kernel
theorem dX4_isWritten_1 : decode cX4_isWritten 1 = .ok (.invokestatic 41, 3) := by decide +kernel
theorem dX4_isWritten_4 : decode cX4_isWritten 4 = .ok (.ifCond .eq 20, 3) := by decide +kernel
theorem dX4_isWritten_7 : decode cX4_isWritten 7 = .ok (.aload_n 0, 1) := by decide +kernel
theorem dX4_isWritten_8 : decode cX4_isWritten 8 = .ok (.getfield 25, 3) := by decide +kernel
theorem dX4_isWritten_11 : decode cX4_isWritten 11 = .ok (.iload_n 1, 1) := by decide +kernel
theorem dX4_isWritten_12 : decode cX4_isWritten 12 = .ok (.iaload, 1) := by decide +kernel
theorem dX4_isWritten_13 : decode cX4_isWritten 13 = .ok (.iload_n 2, 1) := by decide +kernel
theorem dX4_isWritten_14 : decode cX4_isWritten 14 = .ok (.iushr, 1) := by decide +kernel
theorem dX4_isWritten_15 : decode cX4_isWritten 15 = .ok (.iconst 1, 1) := by decide +kernel
theorem dX4_isWritten_16 : decode cX4_isWritten 16 = .ok (.iand, 1) := by decide +kernel
theorem dX4_isWritten_17 : decode cX4_isWritten 17 = .ok (.ifCond .eq 7, 3) := by decide +kernel
theorem dX4_isWritten_20 : decode cX4_isWritten 20 = .ok (.iconst 1, 1) := by decide +kernel
theorem dX4_isWritten_21 : decode cX4_isWritten 21 = .ok (.goto 4, 3) := by decide +kernel
theorem dX4_isWritten_24 : decode cX4_isWritten 24 = .ok (.iconst 0, 1) := by decide +kernel
theorem dX4_isWritten_25 : decode cX4_isWritten 25 = .ok (.ireturn, 1) := by decide +kernel
theorem dX4_placesNeeded_0 : decode cX4_placesNeeded 0 = .ok (.iconst 0, 1) := by decide +kernel
theorem dX4_placesNeeded_1 : decode cX4_placesNeeded 1 = .ok (.istore_n 1, 1) := by decide +kernel
theorem dX4_placesNeeded_2 : decode cX4_placesNeeded 2 = .ok (.iconst 0, 1) := by decide +kernel
theorem dX4_placesNeeded_3 : decode cX4_placesNeeded 3 = .ok (.istore_n 2, 1) := by decide +kernel
theorem dX4_placesNeeded_4 : decode cX4_placesNeeded 4 = .ok (.iload_n 2, 1) := by decide +kernel
theorem dX4_placesNeeded_5 : decode cX4_placesNeeded 5 = .ok (.bipush 32, 2) := by decide +kernel
theorem dX4_placesNeeded_7 : decode cX4_placesNeeded 7 = .ok (.if_icmp .ge 42, 3) := by decide +kernel
theorem dX4_placesNeeded_10 : decode cX4_placesNeeded 10 = .ok (.iload_n 1, 1) := by decide +kernel
theorem dX4_placesNeeded_11 : decode cX4_placesNeeded 11 = .ok (.aload_n 0, 1) := by decide +kernel
theorem dX4_placesNeeded_12 : decode cX4_placesNeeded 12 = .ok (.getfield 25, 3) := by decide +kernel
theorem dX4_placesNeeded_15 : decode cX4_placesNeeded 15 = .ok (.iload_n 2, 1) := by decide +kernel
theorem dX4_placesNeeded_16 : decode cX4_placesNeeded 16 = .ok (.iaload, 1) := by decide +kernel
theorem dX4_placesNeeded_17 : decode cX4_placesNeeded 17 = .ok (.invokestatic 65, 3) := by decide +kernel
theorem dX4_placesNeeded_20 : decode cX4_placesNeeded 20 = .ok (.iadd, 1) := by decide +kernel
theorem dX4_placesNeeded_21 : decode cX4_placesNeeded 21 = .ok (.istore_n 1, 1) := by decide +kernel
theorem dX4_placesNeeded_22 : decode cX4_placesNeeded 22 = .ok (.aload_n 0, 1) := by decide +kernel
theorem dX4_placesNeeded_23 : decode cX4_placesNeeded 23 = .ok (.iload_n 2, 1) := by decide +kernel
theorem dX4_placesNeeded_24 : decode cX4_placesNeeded 24 = .ok (.invokevirtual 70, 3) := by decide +kernel
theorem dX4_placesNeeded_27 : decode cX4_placesNeeded 27 = .ok (.ifCond .eq 16, 3) := by decide +kernel
theorem dX4_placesNeeded_30 : decode cX4_placesNeeded 30 = .ok (.aload_n 0, 1) := by decide +kernel
theorem dX4_placesNeeded_31 : decode cX4_placesNeeded 31 = .ok (.getfield 9, 3) := by decide +kernel
theorem dX4_placesNeeded_34 : decode cX4_placesNeeded 34 = .ok (.iload_n 2, 1) := by decide +kernel
theorem dX4_placesNeeded_35 : decode cX4_placesNeeded 35 = .ok (.iaload, 1) := by decide +kernel
theorem dX4_placesNeeded_36 : decode cX4_placesNeeded 36 = .ok (.iconst (-1), 1) := by decide +kernel
theorem dX4_placesNeeded_37 : decode cX4_placesNeeded 37 = .ok (.if_icmp .eq 6, 3) := by decide +kernel
theorem dX4_placesNeeded_40 : decode cX4_placesNeeded 40 = .ok (.iinc 1 1, 3) := by decide +kernel
theorem dX4_placesNeeded_43 : decode cX4_placesNeeded 43 = .ok (.iinc 2 1, 3) := by decide +kernel
theorem dX4_placesNeeded_46 : decode cX4_placesNeeded 46 = .ok (.goto (-42), 3) := by decide +kernel
theorem dX4_placesNeeded_49 : decode cX4_placesNeeded 49 = .ok (.iconst 0, 1) := by decide +kernel
theorem dX4_placesNeeded_50 : decode cX4_placesNeeded 50 = .ok (.istore_n 2, 1) := by decide +kernel
theorem dX4_placesNeeded_51 : decode cX4_placesNeeded 51 = .ok (.iload_n 2, 1) := by decide +kernel
theorem dX4_placesNeeded_52 : decode cX4_placesNeeded 52 = .ok (.iconst 2, 1) := by decide +kernel
theorem dX4_placesNeeded_53 : decode cX4_placesNeeded 53 = .ok (.if_icmp .ge 20, 3) := by decide +kernel
theorem dX4_placesNeeded_56 : decode cX4_placesNeeded 56 = .ok (.aload_n 0, 1) := by decide +kernel
theorem dX4_placesNeeded_57 : decode cX4_placesNeeded 57 = .ok (.iload_n 2, 1) := by decide +kernel
theorem dX4_placesNeeded_58 : decode cX4_placesNeeded 58 = .ok (.invokevirtual 73, 3) := by decide +kernel
theorem dX4_placesNeeded_61 : decode cX4_placesNeeded 61 = .ok (.ifCond .eq 6, 3) := by decide +kernel
theorem dX4_placesNeeded_64 : decode cX4_placesNeeded 64 = .ok (.iinc 1 1, 3) := by decide +kernel
theorem dX4_placesNeeded_67 : decode cX4_placesNeeded 67 = .ok (.iinc 2 1, 3) := by decide +kernel
theorem dX4_placesNeeded_70 : decode cX4_placesNeeded 70 = .ok (.goto (-19), 3) := by decide +kernel
theorem dX4_placesNeeded_73 : decode cX4_placesNeeded 73 = .ok (.iload_n 1, 1) := by decide +kernel
theorem dX4_placesNeeded_74 : decode cX4_placesNeeded 74 = .ok (.ireturn, 1) := by decide +kernel
theorem dX4_movePiece_0 : decode cX4_movePiece 0 = .ok (.iload_n 1, 1) := by decide +kernel
theorem dX4_movePiece_1 : decode cX4_movePiece 1 = .ok (.invokestatic 41, 3) := by decide +kernel
theorem dX4_movePiece_4 : decode cX4_movePiece 4 = .ok (.ifCond .eq 25, 3) := by decide +kernel
theorem dX4_movePiece_7 : decode cX4_movePiece 7 = .ok (.iload_n 2, 1) := by decide +kernel
theorem dX4_movePiece_8 : decode cX4_movePiece 8 = .ok (.ifCond .lt 21, 3) := by decide +kernel
theorem dX4_movePiece_11 : decode cX4_movePiece 11 = .ok (.iload_n 2, 1) := by decide +kernel
theorem dX4_movePiece_12 : decode cX4_movePiece 12 = .ok (.bipush 14, 2) := by decide +kernel
theorem dX4_movePiece_14 : decode cX4_movePiece 14 = .ok (.if_icmp .ge 15, 3) := by decide +kernel
theorem dX4_movePiece_17 : decode cX4_movePiece 17 = .ok (.aload_n 0, 1) := by decide +kernel
theorem dX4_movePiece_18 : decode cX4_movePiece 18 = .ok (.getfield 22, 3) := by decide +kernel
theorem dX4_movePiece_21 : decode cX4_movePiece 21 = .ok (.iload_n 1, 1) := by decide +kernel
theorem dX4_movePiece_22 : decode cX4_movePiece 22 = .ok (.bipush 14, 2) := by decide +kernel
theorem dX4_movePiece_24 : decode cX4_movePiece 24 = .ok (.imul, 1) := by decide +kernel
theorem dX4_movePiece_25 : decode cX4_movePiece 25 = .ok (.iload_n 2, 1) := by decide +kernel
theorem dX4_movePiece_26 : decode cX4_movePiece 26 = .ok (.iadd, 1) := by decide +kernel
theorem dX4_movePiece_27 : decode cX4_movePiece 27 = .ok (.iload_n 3, 1) := by decide +kernel
theorem dX4_movePiece_28 : decode cX4_movePiece 28 = .ok (.iastore, 1) := by decide +kernel
theorem dX4_movePiece_29 : decode cX4_movePiece 29 = .ok (.return_, 1) := by decide +kernel
theorem dX4_moveInode_0 : decode cX4_moveInode 0 = .ok (.iload_n 1, 1) := by decide +kernel
theorem dX4_moveInode_1 : decode cX4_moveInode 1 = .ok (.invokestatic 41, 3) := by decide +kernel
theorem dX4_moveInode_4 : decode cX4_moveInode 4 = .ok (.ifCond .eq 10, 3) := by decide +kernel
theorem dX4_moveInode_7 : decode cX4_moveInode 7 = .ok (.aload_n 0, 1) := by decide +kernel
theorem dX4_moveInode_8 : decode cX4_moveInode 8 = .ok (.getfield 19, 3) := by decide +kernel
theorem dX4_moveInode_11 : decode cX4_moveInode 11 = .ok (.iload_n 1, 1) := by decide +kernel
theorem dX4_moveInode_12 : decode cX4_moveInode 12 = .ok (.iload_n 2, 1) := by decide +kernel
theorem dX4_moveInode_13 : decode cX4_moveInode 13 = .ok (.iastore, 1) := by decide +kernel
theorem dX4_moveInode_14 : decode cX4_moveInode 14 = .ok (.return_, 1) := by decide +kernel
theorem dX4_pieceInto_0 : decode cX4_pieceInto 0 = .ok (.aload_n 3, 1) := by decide +kernel
theorem dX4_pieceInto_1 : decode cX4_pieceInto 1 = .ok (.invokevirtual 76, 3) := by decide +kernel
theorem dX4_pieceInto_4 : decode cX4_pieceInto 4 = .ok (.iload_n 1, 1) := by decide +kernel
theorem dX4_pieceInto_5 : decode cX4_pieceInto 5 = .ok (.invokestatic 41, 3) := by decide +kernel
theorem dX4_pieceInto_8 : decode cX4_pieceInto 8 = .ok (.ifCond .eq 13, 3) := by decide +kernel
theorem dX4_pieceInto_11 : decode cX4_pieceInto 11 = .ok (.iload_n 2, 1) := by decide +kernel
theorem dX4_pieceInto_12 : decode cX4_pieceInto 12 = .ok (.ifCond .lt 9, 3) := by decide +kernel
theorem dX4_pieceInto_15 : decode cX4_pieceInto 15 = .ok (.iload_n 2, 1) := by decide +kernel
theorem dX4_pieceInto_16 : decode cX4_pieceInto 16 = .ok (.bipush 14, 2) := by decide +kernel
theorem dX4_pieceInto_18 : decode cX4_pieceInto 18 = .ok (.if_icmp .lt 4, 3) := by decide +kernel
theorem dX4_pieceInto_21 : decode cX4_pieceInto 21 = .ok (.return_, 1) := by decide +kernel
theorem dX4_pieceInto_22 : decode cX4_pieceInto 22 = .ok (.iload_n 2, 1) := by decide +kernel
theorem dX4_pieceInto_23 : decode cX4_pieceInto 23 = .ok (.iconst 4, 1) := by decide +kernel
theorem dX4_pieceInto_24 : decode cX4_pieceInto 24 = .ok (.imul, 1) := by decide +kernel
theorem dX4_pieceInto_25 : decode cX4_pieceInto 25 = .ok (.istore 4, 2) := by decide +kernel
theorem dX4_pieceInto_27 : decode cX4_pieceInto 27 = .ok (.iconst 0, 1) := by decide +kernel
theorem dX4_pieceInto_28 : decode cX4_pieceInto 28 = .ok (.istore 5, 2) := by decide +kernel
theorem dX4_pieceInto_30 : decode cX4_pieceInto 30 = .ok (.iload 5, 2) := by decide +kernel
theorem dX4_pieceInto_32 : decode cX4_pieceInto 32 = .ok (.iconst 4, 1) := by decide +kernel
theorem dX4_pieceInto_33 : decode cX4_pieceInto 33 = .ok (.if_icmp .ge 82, 3) := by decide +kernel
theorem dX4_pieceInto_36 : decode cX4_pieceInto 36 = .ok (.aload_n 0, 1) := by decide +kernel
theorem dX4_pieceInto_37 : decode cX4_pieceInto 37 = .ok (.getfield 9, 3) := by decide +kernel
theorem dX4_pieceInto_40 : decode cX4_pieceInto 40 = .ok (.iload_n 1, 1) := by decide +kernel
theorem dX4_pieceInto_41 : decode cX4_pieceInto 41 = .ok (.iaload, 1) := by decide +kernel
theorem dX4_pieceInto_42 : decode cX4_pieceInto 42 = .ok (.iload 4, 2) := by decide +kernel
theorem dX4_pieceInto_44 : decode cX4_pieceInto 44 = .ok (.iload 5, 2) := by decide +kernel
theorem dX4_pieceInto_46 : decode cX4_pieceInto 46 = .ok (.iadd, 1) := by decide +kernel
theorem dX4_pieceInto_47 : decode cX4_pieceInto 47 = .ok (.bipush 8, 2) := by decide +kernel
theorem dX4_pieceInto_49 : decode cX4_pieceInto 49 = .ok (.imul, 1) := by decide +kernel
theorem dX4_pieceInto_50 : decode cX4_pieceInto 50 = .ok (.isub, 1) := by decide +kernel
theorem dX4_pieceInto_51 : decode cX4_pieceInto 51 = .ok (.istore 6, 2) := by decide +kernel
theorem dX4_pieceInto_53 : decode cX4_pieceInto 53 = .ok (.iload 6, 2) := by decide +kernel
theorem dX4_pieceInto_55 : decode cX4_pieceInto 55 = .ok (.ifCond .le 54, 3) := by decide +kernel
theorem dX4_pieceInto_58 : decode cX4_pieceInto 58 = .ok (.iload 6, 2) := by decide +kernel
theorem dX4_pieceInto_60 : decode cX4_pieceInto 60 = .ok (.bipush 8, 2) := by decide +kernel
theorem dX4_pieceInto_62 : decode cX4_pieceInto 62 = .ok (.if_icmp .lt 9, 3) := by decide +kernel
theorem dX4_pieceInto_65 : decode cX4_pieceInto 65 = .ok (.ldc2_w 59, 3) := by decide +kernel
theorem dX4_pieceInto_68 : decode cX4_pieceInto 68 = .ok (.goto 15, 3) := by decide +kernel
theorem dX4_pieceInto_71 : decode cX4_pieceInto 71 = .ok (.ldc2_w 59, 3) := by decide +kernel
theorem dX4_pieceInto_74 : decode cX4_pieceInto 74 = .ok (.bipush 64, 2) := by decide +kernel
theorem dX4_pieceInto_76 : decode cX4_pieceInto 76 = .ok (.bipush 8, 2) := by decide +kernel
theorem dX4_pieceInto_78 : decode cX4_pieceInto 78 = .ok (.iload 6, 2) := by decide +kernel
theorem dX4_pieceInto_80 : decode cX4_pieceInto 80 = .ok (.imul, 1) := by decide +kernel
theorem dX4_pieceInto_81 : decode cX4_pieceInto 81 = .ok (.isub, 1) := by decide +kernel
theorem dX4_pieceInto_82 : decode cX4_pieceInto 82 = .ok (.lshl, 1) := by decide +kernel
theorem dX4_pieceInto_83 : decode cX4_pieceInto 83 = .ok (.lstore 7, 2) := by decide +kernel
theorem dX4_pieceInto_85 : decode cX4_pieceInto 85 = .ok (.aload_n 3, 1) := by decide +kernel
theorem dX4_pieceInto_86 : decode cX4_pieceInto 86 = .ok (.iload 5, 2) := by decide +kernel
theorem dX4_pieceInto_88 : decode cX4_pieceInto 88 = .ok (.aload_n 0, 1) := by decide +kernel
theorem dX4_pieceInto_89 : decode cX4_pieceInto 89 = .ok (.getfield 15, 3) := by decide +kernel
theorem dX4_pieceInto_92 : decode cX4_pieceInto 92 = .ok (.iload_n 1, 1) := by decide +kernel
theorem dX4_pieceInto_93 : decode cX4_pieceInto 93 = .ok (.bipush 56, 2) := by decide +kernel
theorem dX4_pieceInto_95 : decode cX4_pieceInto 95 = .ok (.imul, 1) := by decide +kernel
theorem dX4_pieceInto_96 : decode cX4_pieceInto 96 = .ok (.iload 4, 2) := by decide +kernel
theorem dX4_pieceInto_98 : decode cX4_pieceInto 98 = .ok (.iadd, 1) := by decide +kernel
theorem dX4_pieceInto_99 : decode cX4_pieceInto 99 = .ok (.iload 5, 2) := by decide +kernel
theorem dX4_pieceInto_101 : decode cX4_pieceInto 101 = .ok (.iadd, 1) := by decide +kernel
theorem dX4_pieceInto_102 : decode cX4_pieceInto 102 = .ok (.laload, 1) := by decide +kernel
theorem dX4_pieceInto_103 : decode cX4_pieceInto 103 = .ok (.lload 7, 2) := by decide +kernel
theorem dX4_pieceInto_105 : decode cX4_pieceInto 105 = .ok (.land, 1) := by decide +kernel
theorem dX4_pieceInto_106 : decode cX4_pieceInto 106 = .ok (.invokevirtual 81, 3) := by decide +kernel
theorem dX4_pieceInto_109 : decode cX4_pieceInto 109 = .ok (.iinc 5 1, 3) := by decide +kernel
theorem dX4_pieceInto_112 : decode cX4_pieceInto 112 = .ok (.goto (-82), 3) := by decide +kernel
theorem dX4_pieceInto_115 : decode cX4_pieceInto 115 = .ok (.return_, 1) := by decide +kernel
theorem dX4_inodeInto_0 : decode cX4_inodeInto 0 = .ok (.aload_n 2, 1) := by decide +kernel
theorem dX4_inodeInto_1 : decode cX4_inodeInto 1 = .ok (.invokevirtual 76, 3) := by decide +kernel
theorem dX4_inodeInto_4 : decode cX4_inodeInto 4 = .ok (.iload_n 1, 1) := by decide +kernel
theorem dX4_inodeInto_5 : decode cX4_inodeInto 5 = .ok (.invokestatic 41, 3) := by decide +kernel
theorem dX4_inodeInto_8 : decode cX4_inodeInto 8 = .ok (.ifCond .ne 4, 3) := by decide +kernel
theorem dX4_inodeInto_11 : decode cX4_inodeInto 11 = .ok (.return_, 1) := by decide +kernel
theorem dX4_inodeInto_12 : decode cX4_inodeInto 12 = .ok (.aload_n 2, 1) := by decide +kernel
theorem dX4_inodeInto_13 : decode cX4_inodeInto 13 = .ok (.iconst 0, 1) := by decide +kernel
theorem dX4_inodeInto_14 : decode cX4_inodeInto 14 = .ok (.aload_n 0, 1) := by decide +kernel
theorem dX4_inodeInto_15 : decode cX4_inodeInto 15 = .ok (.getfield 9, 3) := by decide +kernel
theorem dX4_inodeInto_18 : decode cX4_inodeInto 18 = .ok (.iload_n 1, 1) := by decide +kernel
theorem dX4_inodeInto_19 : decode cX4_inodeInto 19 = .ok (.iaload, 1) := by decide +kernel
theorem dX4_inodeInto_20 : decode cX4_inodeInto 20 = .ok (.invokevirtual 85, 3) := by decide +kernel
theorem dX4_inodeInto_23 : decode cX4_inodeInto 23 = .ok (.iconst 0, 1) := by decide +kernel
theorem dX4_inodeInto_24 : decode cX4_inodeInto 24 = .ok (.istore_n 3, 1) := by decide +kernel
theorem dX4_inodeInto_25 : decode cX4_inodeInto 25 = .ok (.iload_n 3, 1) := by decide +kernel
theorem dX4_inodeInto_26 : decode cX4_inodeInto 26 = .ok (.bipush 14, 2) := by decide +kernel
theorem dX4_inodeInto_28 : decode cX4_inodeInto 28 = .ok (.if_icmp .ge 40, 3) := by decide +kernel
theorem dX4_inodeInto_31 : decode cX4_inodeInto 31 = .ok (.iload_n 3, 1) := by decide +kernel
theorem dX4_inodeInto_32 : decode cX4_inodeInto 32 = .ok (.aload_n 0, 1) := by decide +kernel
theorem dX4_inodeInto_33 : decode cX4_inodeInto 33 = .ok (.getfield 9, 3) := by decide +kernel
theorem dX4_inodeInto_36 : decode cX4_inodeInto 36 = .ok (.iload_n 1, 1) := by decide +kernel
theorem dX4_inodeInto_37 : decode cX4_inodeInto 37 = .ok (.iaload, 1) := by decide +kernel
theorem dX4_inodeInto_38 : decode cX4_inodeInto 38 = .ok (.invokestatic 61, 3) := by decide +kernel
theorem dX4_inodeInto_41 : decode cX4_inodeInto 41 = .ok (.if_icmp .ge 27, 3) := by decide +kernel
theorem dX4_inodeInto_44 : decode cX4_inodeInto 44 = .ok (.aload_n 2, 1) := by decide +kernel
theorem dX4_inodeInto_45 : decode cX4_inodeInto 45 = .ok (.iconst 1, 1) := by decide +kernel
theorem dX4_inodeInto_46 : decode cX4_inodeInto 46 = .ok (.iload_n 3, 1) := by decide +kernel
theorem dX4_inodeInto_47 : decode cX4_inodeInto 47 = .ok (.iadd, 1) := by decide +kernel
theorem dX4_inodeInto_48 : decode cX4_inodeInto 48 = .ok (.aload_n 0, 1) := by decide +kernel
theorem dX4_inodeInto_49 : decode cX4_inodeInto 49 = .ok (.getfield 22, 3) := by decide +kernel
theorem dX4_inodeInto_52 : decode cX4_inodeInto 52 = .ok (.iload_n 1, 1) := by decide +kernel
theorem dX4_inodeInto_53 : decode cX4_inodeInto 53 = .ok (.bipush 14, 2) := by decide +kernel
theorem dX4_inodeInto_55 : decode cX4_inodeInto 55 = .ok (.imul, 1) := by decide +kernel
theorem dX4_inodeInto_56 : decode cX4_inodeInto 56 = .ok (.iload_n 3, 1) := by decide +kernel
theorem dX4_inodeInto_57 : decode cX4_inodeInto 57 = .ok (.iadd, 1) := by decide +kernel
theorem dX4_inodeInto_58 : decode cX4_inodeInto 58 = .ok (.iaload, 1) := by decide +kernel
theorem dX4_inodeInto_59 : decode cX4_inodeInto 59 = .ok (.invokevirtual 85, 3) := by decide +kernel
theorem dX4_inodeInto_62 : decode cX4_inodeInto 62 = .ok (.iinc 3 1, 3) := by decide +kernel
theorem dX4_inodeInto_65 : decode cX4_inodeInto 65 = .ok (.goto (-40), 3) := by decide +kernel
theorem dX4_inodeInto_68 : decode cX4_inodeInto 68 = .ok (.return_, 1) := by decide +kernel
theorem dX4_halfInto_0 : decode cX4_halfInto 0 = .ok (.aload_n 2, 1) := by decide +kernel
theorem dX4_halfInto_1 : decode cX4_halfInto 1 = .ok (.invokevirtual 76, 3) := by decide +kernel
theorem dX4_halfInto_4 : decode cX4_halfInto 4 = .ok (.iload_n 1, 1) := by decide +kernel
theorem dX4_halfInto_5 : decode cX4_halfInto 5 = .ok (.ifCond .lt 8, 3) := by decide +kernel
theorem dX4_halfInto_8 : decode cX4_halfInto 8 = .ok (.iload_n 1, 1) := by decide +kernel
theorem dX4_halfInto_9 : decode cX4_halfInto 9 = .ok (.iconst 2, 1) := by decide +kernel
theorem dX4_halfInto_10 : decode cX4_halfInto 10 = .ok (.if_icmp .lt 4, 3) := by decide +kernel
theorem dX4_halfInto_13 : decode cX4_halfInto 13 = .ok (.return_, 1) := by decide +kernel
theorem dX4_halfInto_14 : decode cX4_halfInto 14 = .ok (.iconst 0, 1) := by decide +kernel
theorem dX4_halfInto_15 : decode cX4_halfInto 15 = .ok (.istore_n 3, 1) := by decide +kernel
theorem dX4_halfInto_16 : decode cX4_halfInto 16 = .ok (.iload_n 3, 1) := by decide +kernel
theorem dX4_halfInto_17 : decode cX4_halfInto 17 = .ok (.bipush 16, 2) := by decide +kernel
theorem dX4_halfInto_19 : decode cX4_halfInto 19 = .ok (.if_icmp .ge 25, 3) := by decide +kernel
theorem dX4_halfInto_22 : decode cX4_halfInto 22 = .ok (.aload_n 2, 1) := by decide +kernel
theorem dX4_halfInto_23 : decode cX4_halfInto 23 = .ok (.iload_n 3, 1) := by decide +kernel
theorem dX4_halfInto_24 : decode cX4_halfInto 24 = .ok (.aload_n 0, 1) := by decide +kernel
theorem dX4_halfInto_25 : decode cX4_halfInto 25 = .ok (.getfield 19, 3) := by decide +kernel
theorem dX4_halfInto_28 : decode cX4_halfInto 28 = .ok (.iload_n 1, 1) := by decide +kernel
theorem dX4_halfInto_29 : decode cX4_halfInto 29 = .ok (.bipush 16, 2) := by decide +kernel
theorem dX4_halfInto_31 : decode cX4_halfInto 31 = .ok (.imul, 1) := by decide +kernel
theorem dX4_halfInto_32 : decode cX4_halfInto 32 = .ok (.iload_n 3, 1) := by decide +kernel
theorem dX4_halfInto_33 : decode cX4_halfInto 33 = .ok (.iadd, 1) := by decide +kernel
theorem dX4_halfInto_34 : decode cX4_halfInto 34 = .ok (.iaload, 1) := by decide +kernel
theorem dX4_halfInto_35 : decode cX4_halfInto 35 = .ok (.invokevirtual 85, 3) := by decide +kernel
theorem dX4_halfInto_38 : decode cX4_halfInto 38 = .ok (.iinc 3 1, 3) := by decide +kernel
theorem dX4_halfInto_41 : decode cX4_halfInto 41 = .ok (.goto (-25), 3) := by decide +kernel
theorem dX4_halfInto_44 : decode cX4_halfInto 44 = .ok (.return_, 1) := by decide +kernel
theorem dX4_load_0 : decode cX4_load 0 = .ok (.iload_n 1, 1) := by decide +kernel
theorem dX4_load_1 : decode cX4_load 1 = .ok (.invokestatic 41, 3) := by decide +kernel
theorem dX4_load_4 : decode cX4_load 4 = .ok (.ifCond .ne 4, 3) := by decide +kernel
theorem dX4_load_7 : decode cX4_load 7 = .ok (.return_, 1) := by decide +kernel
theorem dX4_load_8 : decode cX4_load 8 = .ok (.aload_n 0, 1) := by decide +kernel
theorem dX4_load_9 : decode cX4_load 9 = .ok (.getfield 19, 3) := by decide +kernel
theorem dX4_load_12 : decode cX4_load 12 = .ok (.iload_n 1, 1) := by decide +kernel
theorem dX4_load_13 : decode cX4_load 13 = .ok (.iload_n 2, 1) := by decide +kernel
theorem dX4_load_14 : decode cX4_load 14 = .ok (.iastore, 1) := by decide +kernel
theorem dX4_load_15 : decode cX4_load 15 = .ok (.aload_n 0, 1) := by decide +kernel
theorem dX4_load_16 : decode cX4_load 16 = .ok (.getfield 9, 3) := by decide +kernel
theorem dX4_load_19 : decode cX4_load 19 = .ok (.iload_n 1, 1) := by decide +kernel
theorem dX4_load_20 : decode cX4_load 20 = .ok (.iload_n 2, 1) := by decide +kernel
theorem dX4_load_21 : decode cX4_load 21 = .ok (.ifCond .ne 7, 3) := by decide +kernel
theorem dX4_load_24 : decode cX4_load 24 = .ok (.iconst (-1), 1) := by decide +kernel
theorem dX4_load_25 : decode cX4_load 25 = .ok (.goto 15, 3) := by decide +kernel
theorem dX4_load_28 : decode cX4_load 28 = .ok (.aload_n 3, 1) := by decide +kernel
theorem dX4_load_29 : decode cX4_load 29 = .ok (.iload_n 2, 1) := by decide +kernel
theorem dX4_load_30 : decode cX4_load 30 = .ok (.iconst 0, 1) := by decide +kernel
theorem dX4_load_31 : decode cX4_load 31 = .ok (.invokevirtual 89, 3) := by decide +kernel
theorem dX4_load_34 : decode cX4_load 34 = .ok (.sipush 448, 3) := by decide +kernel
theorem dX4_load_37 : decode cX4_load 37 = .ok (.invokestatic 94, 3) := by decide +kernel
theorem dX4_load_40 : decode cX4_load 40 = .ok (.iastore, 1) := by decide +kernel
theorem dX4_load_41 : decode cX4_load 41 = .ok (.iconst 0, 1) := by decide +kernel
theorem dX4_load_42 : decode cX4_load 42 = .ok (.istore 4, 2) := by decide +kernel
theorem dX4_load_44 : decode cX4_load 44 = .ok (.iload 4, 2) := by decide +kernel
theorem dX4_load_46 : decode cX4_load 46 = .ok (.aload_n 0, 1) := by decide +kernel
theorem dX4_load_47 : decode cX4_load 47 = .ok (.getfield 9, 3) := by decide +kernel
theorem dX4_load_50 : decode cX4_load 50 = .ok (.iload_n 1, 1) := by decide +kernel
theorem dX4_load_51 : decode cX4_load 51 = .ok (.iaload, 1) := by decide +kernel
theorem dX4_load_52 : decode cX4_load 52 = .ok (.invokestatic 61, 3) := by decide +kernel
theorem dX4_load_55 : decode cX4_load 55 = .ok (.if_icmp .ge 74, 3) := by decide +kernel
theorem dX4_load_58 : decode cX4_load 58 = .ok (.aload_n 3, 1) := by decide +kernel
theorem dX4_load_59 : decode cX4_load 59 = .ok (.iload_n 2, 1) := by decide +kernel
theorem dX4_load_60 : decode cX4_load 60 = .ok (.iconst 1, 1) := by decide +kernel
theorem dX4_load_61 : decode cX4_load 61 = .ok (.iload 4, 2) := by decide +kernel
theorem dX4_load_63 : decode cX4_load 63 = .ok (.iadd, 1) := by decide +kernel
theorem dX4_load_64 : decode cX4_load 64 = .ok (.invokevirtual 89, 3) := by decide +kernel
theorem dX4_load_67 : decode cX4_load 67 = .ok (.istore 5, 2) := by decide +kernel
theorem dX4_load_69 : decode cX4_load 69 = .ok (.aload_n 0, 1) := by decide +kernel
theorem dX4_load_70 : decode cX4_load 70 = .ok (.getfield 22, 3) := by decide +kernel
theorem dX4_load_73 : decode cX4_load 73 = .ok (.iload_n 1, 1) := by decide +kernel
theorem dX4_load_74 : decode cX4_load 74 = .ok (.bipush 14, 2) := by decide +kernel
theorem dX4_load_76 : decode cX4_load 76 = .ok (.imul, 1) := by decide +kernel
theorem dX4_load_77 : decode cX4_load 77 = .ok (.iload 4, 2) := by decide +kernel
theorem dX4_load_79 : decode cX4_load 79 = .ok (.iadd, 1) := by decide +kernel
theorem dX4_load_80 : decode cX4_load 80 = .ok (.iload 5, 2) := by decide +kernel
theorem dX4_load_82 : decode cX4_load 82 = .ok (.iastore, 1) := by decide +kernel
theorem dX4_load_83 : decode cX4_load 83 = .ok (.iconst 0, 1) := by decide +kernel
theorem dX4_load_84 : decode cX4_load 84 = .ok (.istore 6, 2) := by decide +kernel
theorem dX4_load_86 : decode cX4_load 86 = .ok (.iload 6, 2) := by decide +kernel
theorem dX4_load_88 : decode cX4_load 88 = .ok (.iconst 4, 1) := by decide +kernel
theorem dX4_load_89 : decode cX4_load 89 = .ok (.if_icmp .ge 34, 3) := by decide +kernel
theorem dX4_load_92 : decode cX4_load 92 = .ok (.aload_n 0, 1) := by decide +kernel
theorem dX4_load_93 : decode cX4_load 93 = .ok (.getfield 15, 3) := by decide +kernel
theorem dX4_load_96 : decode cX4_load 96 = .ok (.iload_n 1, 1) := by decide +kernel
theorem dX4_load_97 : decode cX4_load 97 = .ok (.bipush 56, 2) := by decide +kernel
theorem dX4_load_99 : decode cX4_load 99 = .ok (.imul, 1) := by decide +kernel
theorem dX4_load_100 : decode cX4_load 100 = .ok (.iload 4, 2) := by decide +kernel
theorem dX4_load_102 : decode cX4_load 102 = .ok (.iconst 4, 1) := by decide +kernel
theorem dX4_load_103 : decode cX4_load 103 = .ok (.imul, 1) := by decide +kernel
theorem dX4_load_104 : decode cX4_load 104 = .ok (.iadd, 1) := by decide +kernel
theorem dX4_load_105 : decode cX4_load 105 = .ok (.iload 6, 2) := by decide +kernel
theorem dX4_load_107 : decode cX4_load 107 = .ok (.iadd, 1) := by decide +kernel
theorem dX4_load_108 : decode cX4_load 108 = .ok (.aload_n 3, 1) := by decide +kernel
theorem dX4_load_109 : decode cX4_load 109 = .ok (.iload 5, 2) := by decide +kernel
theorem dX4_load_111 : decode cX4_load 111 = .ok (.iload 6, 2) := by decide +kernel
theorem dX4_load_113 : decode cX4_load 113 = .ok (.invokevirtual 97, 3) := by decide +kernel
theorem dX4_load_116 : decode cX4_load 116 = .ok (.lastore, 1) := by decide +kernel
theorem dX4_load_117 : decode cX4_load 117 = .ok (.iinc 6 1, 3) := by decide +kernel
theorem dX4_load_120 : decode cX4_load 120 = .ok (.goto (-34), 3) := by decide +kernel
theorem dX4_load_123 : decode cX4_load 123 = .ok (.iinc 4 1, 3) := by decide +kernel
theorem dX4_load_126 : decode cX4_load 126 = .ok (.goto (-82), 3) := by decide +kernel
theorem dX4_load_129 : decode cX4_load 129 = .ok (.return_, 1) := by decide +kernel
theorem dX5_init_0 : decode cX5_init 0 = .ok (.aload_n 0, 1) := by decide +kernel
theorem dX5_init_1 : decode cX5_init 1 = .ok (.invokespecial 3, 3) := by decide +kernel
theorem dX5_init_4 : decode cX5_init 4 = .ok (.aload_n 0, 1) := by decide +kernel
theorem dX5_init_5 : decode cX5_init 5 = .ok (.sipush 600, 3) := by decide +kernel
theorem dX5_init_8 : decode cX5_init 8 = .ok (.newarray .int, 2) := by decide +kernel
theorem dX5_init_10 : decode cX5_init 10 = .ok (.putfield 9, 3) := by decide +kernel
theorem dX5_init_13 : decode cX5_init 13 = .ok (.return_, 1) := by decide +kernel
theorem dX5_freePlaces_0 : decode cX5_freePlaces 0 = .ok (.aload_n 0, 1) := by decide +kernel
theorem dX5_freePlaces_1 : decode cX5_freePlaces 1 = .ok (.getfield 15, 3) := by decide +kernel
theorem dX5_freePlaces_4 : decode cX5_freePlaces 4 = .ok (.ireturn, 1) := by decide +kernel
theorem dX5_startTaking_0 : decode cX5_startTaking 0 = .ok (.aload_n 0, 1) := by decide +kernel
theorem dX5_startTaking_1 : decode cX5_startTaking 1 = .ok (.iconst 0, 1) := by decide +kernel
theorem dX5_startTaking_2 : decode cX5_startTaking 2 = .ok (.putfield 19, 3) := by decide +kernel
theorem dX5_startTaking_5 : decode cX5_startTaking 5 = .ok (.return_, 1) := by decide +kernel
theorem dX5_takeFresh_0 : decode cX5_takeFresh 0 = .ok (.aload_n 0, 1) := by decide +kernel
theorem dX5_takeFresh_1 : decode cX5_takeFresh 1 = .ok (.getfield 19, 3) := by decide +kernel
theorem dX5_takeFresh_4 : decode cX5_takeFresh 4 = .ok (.iconst 1, 1) := by decide +kernel
theorem dX5_takeFresh_5 : decode cX5_takeFresh 5 = .ok (.iadd, 1) := by decide +kernel
theorem dX5_takeFresh_6 : decode cX5_takeFresh 6 = .ok (.istore_n 1, 1) := by decide +kernel
theorem dX5_takeFresh_7 : decode cX5_takeFresh 7 = .ok (.iload_n 1, 1) := by decide +kernel
theorem dX5_takeFresh_8 : decode cX5_takeFresh 8 = .ok (.sipush 600, 3) := by decide +kernel
theorem dX5_takeFresh_11 : decode cX5_takeFresh 11 = .ok (.if_icmp .ge 25, 3) := by decide +kernel
theorem dX5_takeFresh_14 : decode cX5_takeFresh 14 = .ok (.aload_n 0, 1) := by decide +kernel
theorem dX5_takeFresh_15 : decode cX5_takeFresh 15 = .ok (.getfield 9, 3) := by decide +kernel
theorem dX5_takeFresh_18 : decode cX5_takeFresh 18 = .ok (.iload_n 1, 1) := by decide +kernel
theorem dX5_takeFresh_19 : decode cX5_takeFresh 19 = .ok (.iaload, 1) := by decide +kernel
theorem dX5_takeFresh_20 : decode cX5_takeFresh 20 = .ok (.ifCond .ne 10, 3) := by decide +kernel
theorem dX5_takeFresh_23 : decode cX5_takeFresh 23 = .ok (.aload_n 0, 1) := by decide +kernel
theorem dX5_takeFresh_24 : decode cX5_takeFresh 24 = .ok (.iload_n 1, 1) := by decide +kernel
theorem dX5_takeFresh_25 : decode cX5_takeFresh 25 = .ok (.putfield 19, 3) := by decide +kernel
theorem dX5_takeFresh_28 : decode cX5_takeFresh 28 = .ok (.iload_n 1, 1) := by decide +kernel
theorem dX5_takeFresh_29 : decode cX5_takeFresh 29 = .ok (.ireturn, 1) := by decide +kernel
theorem dX5_takeFresh_30 : decode cX5_takeFresh 30 = .ok (.iinc 1 1, 3) := by decide +kernel
theorem dX5_takeFresh_33 : decode cX5_takeFresh 33 = .ok (.goto (-26), 3) := by decide +kernel
theorem dX5_takeFresh_36 : decode cX5_takeFresh 36 = .ok (.iconst (-1), 1) := by decide +kernel
theorem dX5_takeFresh_37 : decode cX5_takeFresh 37 = .ok (.ireturn, 1) := by decide +kernel
theorem dX5_survey_0 : decode cX5_survey 0 = .ok (.aload_n 0, 1) := by decide +kernel
theorem dX5_survey_1 : decode cX5_survey 1 = .ok (.getfield 9, 3) := by decide +kernel
theorem dX5_survey_4 : decode cX5_survey 4 = .ok (.iconst 0, 1) := by decide +kernel
theorem dX5_survey_5 : decode cX5_survey 5 = .ok (.invokestatic 22, 3) := by decide +kernel
theorem dX5_survey_8 : decode cX5_survey 8 = .ok (.aload_n 0, 1) := by decide +kernel
theorem dX5_survey_9 : decode cX5_survey 9 = .ok (.getfield 9, 3) := by decide +kernel
theorem dX5_survey_12 : decode cX5_survey 12 = .ok (.iconst 0, 1) := by decide +kernel
theorem dX5_survey_13 : decode cX5_survey 13 = .ok (.iconst 1, 1) := by decide +kernel
theorem dX5_survey_14 : decode cX5_survey 14 = .ok (.iastore, 1) := by decide +kernel
theorem dX5_survey_15 : decode cX5_survey 15 = .ok (.aload_n 0, 1) := by decide +kernel
theorem dX5_survey_16 : decode cX5_survey 16 = .ok (.sipush 599, 3) := by decide +kernel
theorem dX5_survey_19 : decode cX5_survey 19 = .ok (.putfield 15, 3) := by decide +kernel
theorem dX5_survey_22 : decode cX5_survey 22 = .ok (.iconst (-1), 1) := by decide +kernel
theorem dX5_survey_23 : decode cX5_survey 23 = .ok (.istore_n 3, 1) := by decide +kernel
theorem dX5_survey_24 : decode cX5_survey 24 = .ok (.iload_n 3, 1) := by decide +kernel
theorem dX5_survey_25 : decode cX5_survey 25 = .ok (.iconst 5, 1) := by decide +kernel
theorem dX5_survey_26 : decode cX5_survey 26 = .ok (.if_icmp .ge 36, 3) := by decide +kernel
theorem dX5_survey_29 : decode cX5_survey 29 = .ok (.iconst 0, 1) := by decide +kernel
theorem dX5_survey_30 : decode cX5_survey 30 = .ok (.istore 4, 2) := by decide +kernel
theorem dX5_survey_32 : decode cX5_survey 32 = .ok (.iload 4, 2) := by decide +kernel
theorem dX5_survey_34 : decode cX5_survey 34 = .ok (.iconst 2, 1) := by decide +kernel
theorem dX5_survey_35 : decode cX5_survey 35 = .ok (.if_icmp .ge 21, 3) := by decide +kernel
theorem dX5_survey_38 : decode cX5_survey 38 = .ok (.aload_n 0, 1) := by decide +kernel
theorem dX5_survey_39 : decode cX5_survey 39 = .ok (.aload_n 1, 1) := by decide +kernel
theorem dX5_survey_40 : decode cX5_survey 40 = .ok (.iload_n 3, 1) := by decide +kernel
theorem dX5_survey_41 : decode cX5_survey 41 = .ok (.iload 4, 2) := by decide +kernel
theorem dX5_survey_43 : decode cX5_survey 43 = .ok (.invokevirtual 28, 3) := by decide +kernel
theorem dX5_survey_46 : decode cX5_survey 46 = .ok (.aload_n 2, 1) := by decide +kernel
theorem dX5_survey_47 : decode cX5_survey 47 = .ok (.invokevirtual 34, 3) := by decide +kernel
theorem dX5_survey_50 : decode cX5_survey 50 = .ok (.iinc 4 1, 3) := by decide +kernel
theorem dX5_survey_53 : decode cX5_survey 53 = .ok (.goto (-21), 3) := by decide +kernel
theorem dX5_survey_56 : decode cX5_survey 56 = .ok (.iinc 3 1, 3) := by decide +kernel
theorem dX5_survey_59 : decode cX5_survey 59 = .ok (.goto (-35), 3) := by decide +kernel
theorem dX5_survey_62 : decode cX5_survey 62 = .ok (.return_, 1) := by decide +kernel
theorem dX5_useHalf_0 : decode cX5_useHalf 0 = .ok (.aload_n 0, 1) := by decide +kernel
theorem dX5_useHalf_1 : decode cX5_useHalf 1 = .ok (.iload_n 1, 1) := by decide +kernel
theorem dX5_useHalf_2 : decode cX5_useHalf 2 = .ok (.invokevirtual 38, 3) := by decide +kernel
theorem dX5_useHalf_5 : decode cX5_useHalf 5 = .ok (.ifCond .ne 4, 3) := by decide +kernel
theorem dX5_useHalf_8 : decode cX5_useHalf 8 = .ok (.return_, 1) := by decide +kernel
theorem dX5_useHalf_9 : decode cX5_useHalf 9 = .ok (.iconst 0, 1) := by decide +kernel
theorem dX5_useHalf_10 : decode cX5_useHalf 10 = .ok (.istore_n 3, 1) := by decide +kernel
theorem dX5_useHalf_11 : decode cX5_useHalf 11 = .ok (.iload_n 3, 1) := by decide +kernel
theorem dX5_useHalf_12 : decode cX5_useHalf 12 = .ok (.bipush 16, 2) := by decide +kernel
theorem dX5_useHalf_14 : decode cX5_useHalf 14 = .ok (.if_icmp .ge 20, 3) := by decide +kernel
theorem dX5_useHalf_17 : decode cX5_useHalf 17 = .ok (.aload_n 0, 1) := by decide +kernel
theorem dX5_useHalf_18 : decode cX5_useHalf 18 = .ok (.aload_n 2, 1) := by decide +kernel
theorem dX5_useHalf_19 : decode cX5_useHalf 19 = .ok (.iload_n 1, 1) := by decide +kernel
theorem dX5_useHalf_20 : decode cX5_useHalf 20 = .ok (.iload_n 3, 1) := by decide +kernel
theorem dX5_useHalf_21 : decode cX5_useHalf 21 = .ok (.invokevirtual 42, 3) := by decide +kernel
theorem dX5_useHalf_24 : decode cX5_useHalf 24 = .ok (.aload_n 2, 1) := by decide +kernel
theorem dX5_useHalf_25 : decode cX5_useHalf 25 = .ok (.invokevirtual 47, 3) := by decide +kernel
theorem dX5_useHalf_28 : decode cX5_useHalf 28 = .ok (.iinc 3 1, 3) := by decide +kernel
theorem dX5_useHalf_31 : decode cX5_useHalf 31 = .ok (.goto (-20), 3) := by decide +kernel
theorem dX5_useHalf_34 : decode cX5_useHalf 34 = .ok (.return_, 1) := by decide +kernel
theorem dX5_useInode_0 : decode cX5_useInode 0 = .ok (.aload_n 0, 1) := by decide +kernel
theorem dX5_useInode_1 : decode cX5_useInode 1 = .ok (.iload_n 1, 1) := by decide +kernel
theorem dX5_useInode_2 : decode cX5_useInode 2 = .ok (.invokevirtual 38, 3) := by decide +kernel
theorem dX5_useInode_5 : decode cX5_useInode 5 = .ok (.ifCond .ne 4, 3) := by decide +kernel
theorem dX5_useInode_8 : decode cX5_useInode 8 = .ok (.return_, 1) := by decide +kernel
theorem dX5_useInode_9 : decode cX5_useInode 9 = .ok (.aload_n 2, 1) := by decide +kernel
theorem dX5_useInode_10 : decode cX5_useInode 10 = .ok (.iload_n 1, 1) := by decide +kernel
theorem dX5_useInode_11 : decode cX5_useInode 11 = .ok (.iconst 0, 1) := by decide +kernel
theorem dX5_useInode_12 : decode cX5_useInode 12 = .ok (.invokevirtual 42, 3) := by decide +kernel
theorem dX5_useInode_15 : decode cX5_useInode 15 = .ok (.invokestatic 50, 3) := by decide +kernel
theorem dX5_useInode_18 : decode cX5_useInode 18 = .ok (.bipush 14, 2) := by decide +kernel
theorem dX5_useInode_20 : decode cX5_useInode 20 = .ok (.invokestatic 54, 3) := by decide +kernel
theorem dX5_useInode_23 : decode cX5_useInode 23 = .ok (.istore_n 3, 1) := by decide +kernel
theorem dX5_useInode_24 : decode cX5_useInode 24 = .ok (.iconst 0, 1) := by decide +kernel
theorem dX5_useInode_25 : decode cX5_useInode 25 = .ok (.istore 4, 2) := by decide +kernel
theorem dX5_useInode_27 : decode cX5_useInode 27 = .ok (.iload 4, 2) := by decide +kernel
theorem dX5_useInode_29 : decode cX5_useInode 29 = .ok (.iload_n 3, 1) := by decide +kernel
theorem dX5_useInode_30 : decode cX5_useInode 30 = .ok (.if_icmp .ge 23, 3) := by decide +kernel
theorem dX5_useInode_33 : decode cX5_useInode 33 = .ok (.aload_n 0, 1) := by decide +kernel
theorem dX5_useInode_34 : decode cX5_useInode 34 = .ok (.aload_n 2, 1) := by decide +kernel
theorem dX5_useInode_35 : decode cX5_useInode 35 = .ok (.iload_n 1, 1) := by decide +kernel
theorem dX5_useInode_36 : decode cX5_useInode 36 = .ok (.iconst 1, 1) := by decide +kernel
theorem dX5_useInode_37 : decode cX5_useInode 37 = .ok (.iload 4, 2) := by decide +kernel
theorem dX5_useInode_39 : decode cX5_useInode 39 = .ok (.iadd, 1) := by decide +kernel
theorem dX5_useInode_40 : decode cX5_useInode 40 = .ok (.invokevirtual 42, 3) := by decide +kernel
theorem dX5_useInode_43 : decode cX5_useInode 43 = .ok (.invokevirtual 38, 3) := by decide +kernel
theorem dX5_useInode_46 : decode cX5_useInode 46 = .ok (.pop, 1) := by decide +kernel
theorem dX5_useInode_47 : decode cX5_useInode 47 = .ok (.iinc 4 1, 3) := by decide +kernel
theorem dX5_useInode_50 : decode cX5_useInode 50 = .ok (.goto (-23), 3) := by decide +kernel
theorem dX5_useInode_53 : decode cX5_useInode 53 = .ok (.return_, 1) := by decide +kernel
theorem dX5_use_0 : decode cX5_use 0 = .ok (.iload_n 1, 1) := by decide +kernel
theorem dX5_use_1 : decode cX5_use 1 = .ok (.ifCond .lt 19, 3) := by decide +kernel
theorem dX5_use_4 : decode cX5_use 4 = .ok (.iload_n 1, 1) := by decide +kernel
theorem dX5_use_5 : decode cX5_use 5 = .ok (.sipush 600, 3) := by decide +kernel
theorem dX5_use_8 : decode cX5_use 8 = .ok (.if_icmp .ge 12, 3) := by decide +kernel
theorem dX5_use_11 : decode cX5_use 11 = .ok (.aload_n 0, 1) := by decide +kernel
theorem dX5_use_12 : decode cX5_use 12 = .ok (.getfield 9, 3) := by decide +kernel
theorem dX5_use_15 : decode cX5_use 15 = .ok (.iload_n 1, 1) := by decide +kernel
theorem dX5_use_16 : decode cX5_use 16 = .ok (.iaload, 1) := by decide +kernel
theorem dX5_use_17 : decode cX5_use 17 = .ok (.ifCond .eq 5, 3) := by decide +kernel
theorem dX5_use_20 : decode cX5_use 20 = .ok (.iconst 0, 1) := by decide +kernel
theorem dX5_use_21 : decode cX5_use 21 = .ok (.ireturn, 1) := by decide +kernel
theorem dX5_use_22 : decode cX5_use 22 = .ok (.aload_n 0, 1) := by decide +kernel
theorem dX5_use_23 : decode cX5_use 23 = .ok (.getfield 9, 3) := by decide +kernel
theorem dX5_use_26 : decode cX5_use 26 = .ok (.iload_n 1, 1) := by decide +kernel
theorem dX5_use_27 : decode cX5_use 27 = .ok (.iconst 1, 1) := by decide +kernel
theorem dX5_use_28 : decode cX5_use 28 = .ok (.iastore, 1) := by decide +kernel
theorem dX5_use_29 : decode cX5_use 29 = .ok (.aload_n 0, 1) := by decide +kernel
theorem dX5_use_30 : decode cX5_use 30 = .ok (.dup, 1) := by decide +kernel
theorem dX5_use_31 : decode cX5_use 31 = .ok (.getfield 15, 3) := by decide +kernel
theorem dX5_use_34 : decode cX5_use 34 = .ok (.iconst 1, 1) := by decide +kernel
theorem dX5_use_35 : decode cX5_use 35 = .ok (.isub, 1) := by decide +kernel
theorem dX5_use_36 : decode cX5_use 36 = .ok (.putfield 15, 3) := by decide +kernel
theorem dX5_use_39 : decode cX5_use 39 = .ok (.iconst 1, 1) := by decide +kernel
theorem dX5_use_40 : decode cX5_use 40 = .ok (.ireturn, 1) := by decide +kernel
theorem dX6_init_0 : decode cX6_init 0 = .ok (.aload_n 0, 1) := by decide +kernel
theorem dX6_init_1 : decode cX6_init 1 = .ok (.invokespecial 3, 3) := by decide +kernel
theorem dX6_init_4 : decode cX6_init 4 = .ok (.aload_n 0, 1) := by decide +kernel
theorem dX6_init_5 : decode cX6_init 5 = .ok (.new 9, 3) := by decide +kernel
theorem dX6_init_8 : decode cX6_init 8 = .ok (.dup, 1) := by decide +kernel
theorem dX6_init_9 : decode cX6_init 9 = .ok (.invokespecial 11, 3) := by decide +kernel
theorem dX6_init_12 : decode cX6_init 12 = .ok (.putfield 12, 3) := by decide +kernel
theorem dX6_init_15 : decode cX6_init 15 = .ok (.aload_n 0, 1) := by decide +kernel
theorem dX6_init_16 : decode cX6_init 16 = .ok (.new 16, 3) := by decide +kernel
theorem dX6_init_19 : decode cX6_init 19 = .ok (.dup, 1) := by decide +kernel
theorem dX6_init_20 : decode cX6_init 20 = .ok (.invokespecial 18, 3) := by decide +kernel
theorem dX6_init_23 : decode cX6_init 23 = .ok (.putfield 19, 3) := by decide +kernel
theorem dX6_init_26 : decode cX6_init 26 = .ok (.aload_n 0, 1) := by decide +kernel
theorem dX6_init_27 : decode cX6_init 27 = .ok (.new 23, 3) := by decide +kernel
theorem dX6_init_30 : decode cX6_init 30 = .ok (.dup, 1) := by decide +kernel
theorem dX6_init_31 : decode cX6_init 31 = .ok (.invokespecial 25, 3) := by decide +kernel
theorem dX6_init_34 : decode cX6_init 34 = .ok (.putfield 26, 3) := by decide +kernel
theorem dX6_init_37 : decode cX6_init 37 = .ok (.aload_n 0, 1) := by decide +kernel
theorem dX6_init_38 : decode cX6_init 38 = .ok (.new 30, 3) := by decide +kernel
theorem dX6_init_41 : decode cX6_init 41 = .ok (.dup, 1) := by decide +kernel
theorem dX6_init_42 : decode cX6_init 42 = .ok (.invokespecial 32, 3) := by decide +kernel
theorem dX6_init_45 : decode cX6_init 45 = .ok (.putfield 33, 3) := by decide +kernel
theorem dX6_init_48 : decode cX6_init 48 = .ok (.aload_n 0, 1) := by decide +kernel
theorem dX6_init_49 : decode cX6_init 49 = .ok (.new 37, 3) := by decide +kernel
theorem dX6_init_52 : decode cX6_init 52 = .ok (.dup, 1) := by decide +kernel
theorem dX6_init_53 : decode cX6_init 53 = .ok (.invokespecial 39, 3) := by decide +kernel
theorem dX6_init_56 : decode cX6_init 56 = .ok (.putfield 40, 3) := by decide +kernel
theorem dX6_init_59 : decode cX6_init 59 = .ok (.aload_n 0, 1) := by decide +kernel
theorem dX6_init_60 : decode cX6_init 60 = .ok (.new 44, 3) := by decide +kernel
theorem dX6_init_63 : decode cX6_init 63 = .ok (.dup, 1) := by decide +kernel
theorem dX6_init_64 : decode cX6_init 64 = .ok (.invokespecial 46, 3) := by decide +kernel
theorem dX6_init_67 : decode cX6_init 67 = .ok (.putfield 47, 3) := by decide +kernel
theorem dX6_init_70 : decode cX6_init 70 = .ok (.aload_n 0, 1) := by decide +kernel
theorem dX6_init_71 : decode cX6_init 71 = .ok (.invokevirtual 51, 3) := by decide +kernel
theorem dX6_init_74 : decode cX6_init 74 = .ok (.return_, 1) := by decide +kernel
theorem dX6_begin_0 : decode cX6_begin 0 = .ok (.aload_n 0, 1) := by decide +kernel
theorem dX6_begin_1 : decode cX6_begin 1 = .ok (.getfield 12, 3) := by decide +kernel
theorem dX6_begin_4 : decode cX6_begin 4 = .ok (.invokevirtual 54, 3) := by decide +kernel
theorem dX6_begin_7 : decode cX6_begin 7 = .ok (.aload_n 0, 1) := by decide +kernel
theorem dX6_begin_8 : decode cX6_begin 8 = .ok (.getfield 19, 3) := by decide +kernel
theorem dX6_begin_11 : decode cX6_begin 11 = .ok (.invokevirtual 57, 3) := by decide +kernel
theorem dX6_begin_14 : decode cX6_begin 14 = .ok (.aload_n 0, 1) := by decide +kernel
theorem dX6_begin_15 : decode cX6_begin 15 = .ok (.getfield 33, 3) := by decide +kernel
theorem dX6_begin_18 : decode cX6_begin 18 = .ok (.invokevirtual 58, 3) := by decide +kernel
theorem dX6_begin_21 : decode cX6_begin 21 = .ok (.aload_n 0, 1) := by decide +kernel
theorem dX6_begin_22 : decode cX6_begin 22 = .ok (.getfield 40, 3) := by decide +kernel
theorem dX6_begin_25 : decode cX6_begin 25 = .ok (.invokevirtual 59, 3) := by decide +kernel
theorem dX6_begin_28 : decode cX6_begin 28 = .ok (.aload_n 0, 1) := by decide +kernel
theorem dX6_begin_29 : decode cX6_begin 29 = .ok (.getfield 26, 3) := by decide +kernel
theorem dX6_begin_32 : decode cX6_begin 32 = .ok (.aload_n 0, 1) := by decide +kernel
theorem dX6_begin_33 : decode cX6_begin 33 = .ok (.getfield 19, 3) := by decide +kernel
theorem dX6_begin_36 : decode cX6_begin 36 = .ok (.aload_n 0, 1) := by decide +kernel
theorem dX6_begin_37 : decode cX6_begin 37 = .ok (.getfield 12, 3) := by decide +kernel
theorem dX6_begin_40 : decode cX6_begin 40 = .ok (.invokevirtual 60, 3) := by decide +kernel
theorem dX6_begin_43 : decode cX6_begin 43 = .ok (.return_, 1) := by decide +kernel
theorem dX6_write_0 : decode cX6_write 0 = .ok (.iload_n 1, 1) := by decide +kernel
theorem dX6_write_1 : decode cX6_write 1 = .ok (.invokestatic 64, 3) := by decide +kernel
theorem dX6_write_4 : decode cX6_write 4 = .ok (.ifCond .eq 30, 3) := by decide +kernel
theorem dX6_write_7 : decode cX6_write 7 = .ok (.iload_n 2, 1) := by decide +kernel
theorem dX6_write_8 : decode cX6_write 8 = .ok (.ifCond .lt 26, 3) := by decide +kernel
theorem dX6_write_11 : decode cX6_write 11 = .ok (.iload_n 2, 1) := by decide +kernel
theorem dX6_write_12 : decode cX6_write 12 = .ok (.sipush 440, 3) := by decide +kernel
theorem dX6_write_15 : decode cX6_write 15 = .ok (.if_icmp .gt 19, 3) := by decide +kernel
theorem dX6_write_18 : decode cX6_write 18 = .ok (.iload_n 2, 1) := by decide +kernel
theorem dX6_write_19 : decode cX6_write 19 = .ok (.aload_n 0, 1) := by decide +kernel
theorem dX6_write_20 : decode cX6_write 20 = .ok (.getfield 33, 3) := by decide +kernel
theorem dX6_write_23 : decode cX6_write 23 = .ok (.iload_n 1, 1) := by decide +kernel
theorem dX6_write_24 : decode cX6_write 24 = .ok (.invokevirtual 68, 3) := by decide +kernel
theorem dX6_write_27 : decode cX6_write 27 = .ok (.iconst 0, 1) := by decide +kernel
theorem dX6_write_28 : decode cX6_write 28 = .ok (.invokestatic 72, 3) := by decide +kernel
theorem dX6_write_31 : decode cX6_write 31 = .ok (.if_icmp .le 13, 3) := by decide +kernel
theorem dX6_write_34 : decode cX6_write 34 = .ok (.new 78, 3) := by decide +kernel
theorem dX6_write_37 : decode cX6_write 37 = .ok (.dup, 1) := by decide +kernel
theorem dX6_write_38 : decode cX6_write 38 = .ok (.ldc 80, 2) := by decide +kernel
theorem dX6_write_40 : decode cX6_write 40 = .ok (.invokespecial 82, 3) := by decide +kernel
theorem dX6_write_43 : decode cX6_write 43 = .ok (.athrow, 1) := by decide +kernel
theorem dX6_write_44 : decode cX6_write 44 = .ok (.aload_n 0, 1) := by decide +kernel
theorem dX6_write_45 : decode cX6_write 45 = .ok (.invokevirtual 85, 3) := by decide +kernel
theorem dX6_write_48 : decode cX6_write 48 = .ok (.aload_n 0, 1) := by decide +kernel
theorem dX6_write_49 : decode cX6_write 49 = .ok (.getfield 40, 3) := by decide +kernel
theorem dX6_write_52 : decode cX6_write 52 = .ok (.invokevirtual 88, 3) := by decide +kernel
theorem dX6_write_55 : decode cX6_write 55 = .ok (.ifCond .eq 7, 3) := by decide +kernel
theorem dX6_write_58 : decode cX6_write 58 = .ok (.aload_n 0, 1) := by decide +kernel
theorem dX6_write_59 : decode cX6_write 59 = .ok (.invokevirtual 92, 3) := by decide +kernel
theorem dX6_write_62 : decode cX6_write 62 = .ok (.aload_n 0, 1) := by decide +kernel
theorem dX6_write_63 : decode cX6_write 63 = .ok (.getfield 40, 3) := by decide +kernel
theorem dX6_write_66 : decode cX6_write 66 = .ok (.iconst 0, 1) := by decide +kernel
theorem dX6_write_67 : decode cX6_write 67 = .ok (.iload_n 1, 1) := by decide +kernel
theorem dX6_write_68 : decode cX6_write 68 = .ok (.iload_n 2, 1) := by decide +kernel
theorem dX6_write_69 : decode cX6_write 69 = .ok (.lload_n 3, 1) := by decide +kernel
theorem dX6_write_70 : decode cX6_write 70 = .ok (.invokevirtual 95, 3) := by decide +kernel
theorem dX6_write_73 : decode cX6_write 73 = .ok (.aload_n 0, 1) := by decide +kernel
theorem dX6_write_74 : decode cX6_write 74 = .ok (.getfield 33, 3) := by decide +kernel
theorem dX6_write_77 : decode cX6_write 77 = .ok (.iload_n 1, 1) := by decide +kernel
theorem dX6_write_78 : decode cX6_write 78 = .ok (.iload_n 2, 1) := by decide +kernel
theorem dX6_write_79 : decode cX6_write 79 = .ok (.lload_n 3, 1) := by decide +kernel
theorem dX6_write_80 : decode cX6_write 80 = .ok (.invokevirtual 99, 3) := by decide +kernel
theorem dX6_write_83 : decode cX6_write 83 = .ok (.aload_n 0, 1) := by decide +kernel
theorem dX6_write_84 : decode cX6_write 84 = .ok (.getfield 33, 3) := by decide +kernel
theorem dX6_write_87 : decode cX6_write 87 = .ok (.iload_n 1, 1) := by decide +kernel
theorem dX6_write_88 : decode cX6_write 88 = .ok (.invokevirtual 68, 3) := by decide +kernel
theorem dX6_write_91 : decode cX6_write 91 = .ok (.ireturn, 1) := by decide +kernel
theorem dX6_cut_0 : decode cX6_cut 0 = .ok (.iload_n 1, 1) := by decide +kernel
theorem dX6_cut_1 : decode cX6_cut 1 = .ok (.invokestatic 64, 3) := by decide +kernel
theorem dX6_cut_4 : decode cX6_cut 4 = .ok (.ifCond .eq 19, 3) := by decide +kernel
theorem dX6_cut_7 : decode cX6_cut 7 = .ok (.iload_n 2, 1) := by decide +kernel
theorem dX6_cut_8 : decode cX6_cut 8 = .ok (.ifCond .lt 15, 3) := by decide +kernel
theorem dX6_cut_11 : decode cX6_cut 11 = .ok (.iload_n 2, 1) := by decide +kernel
theorem dX6_cut_12 : decode cX6_cut 12 = .ok (.aload_n 0, 1) := by decide +kernel
theorem dX6_cut_13 : decode cX6_cut 13 = .ok (.getfield 33, 3) := by decide +kernel
theorem dX6_cut_16 : decode cX6_cut 16 = .ok (.iload_n 1, 1) := by decide +kernel
theorem dX6_cut_17 : decode cX6_cut 17 = .ok (.invokevirtual 68, 3) := by decide +kernel
theorem dX6_cut_20 : decode cX6_cut 20 = .ok (.if_icmp .le 13, 3) := by decide +kernel
theorem dX6_cut_23 : decode cX6_cut 23 = .ok (.new 78, 3) := by decide +kernel
theorem dX6_cut_26 : decode cX6_cut 26 = .ok (.dup, 1) := by decide +kernel
theorem dX6_cut_27 : decode cX6_cut 27 = .ok (.ldc 103, 2) := by decide +kernel
theorem dX6_cut_29 : decode cX6_cut 29 = .ok (.invokespecial 82, 3) := by decide +kernel
theorem dX6_cut_32 : decode cX6_cut 32 = .ok (.athrow, 1) := by decide +kernel
theorem dX6_cut_33 : decode cX6_cut 33 = .ok (.aload_n 0, 1) := by decide +kernel
theorem dX6_cut_34 : decode cX6_cut 34 = .ok (.invokevirtual 85, 3) := by decide +kernel
theorem dX6_cut_37 : decode cX6_cut 37 = .ok (.aload_n 0, 1) := by decide +kernel
theorem dX6_cut_38 : decode cX6_cut 38 = .ok (.getfield 40, 3) := by decide +kernel
theorem dX6_cut_41 : decode cX6_cut 41 = .ok (.invokevirtual 88, 3) := by decide +kernel
theorem dX6_cut_44 : decode cX6_cut 44 = .ok (.ifCond .eq 7, 3) := by decide +kernel
theorem dX6_cut_47 : decode cX6_cut 47 = .ok (.aload_n 0, 1) := by decide +kernel
theorem dX6_cut_48 : decode cX6_cut 48 = .ok (.invokevirtual 92, 3) := by decide +kernel
theorem dX6_cut_51 : decode cX6_cut 51 = .ok (.aload_n 0, 1) := by decide +kernel
theorem dX6_cut_52 : decode cX6_cut 52 = .ok (.getfield 40, 3) := by decide +kernel
theorem dX6_cut_55 : decode cX6_cut 55 = .ok (.iconst 1, 1) := by decide +kernel
theorem dX6_cut_56 : decode cX6_cut 56 = .ok (.iload_n 1, 1) := by decide +kernel
theorem dX6_cut_57 : decode cX6_cut 57 = .ok (.iload_n 2, 1) := by decide +kernel
theorem dX6_cut_58 : decode cX6_cut 58 = .ok (.lconst 0, 1) := by decide +kernel
theorem dX6_cut_59 : decode cX6_cut 59 = .ok (.invokevirtual 95, 3) := by decide +kernel
theorem dX6_cut_62 : decode cX6_cut 62 = .ok (.aload_n 0, 1) := by decide +kernel
theorem dX6_cut_63 : decode cX6_cut 63 = .ok (.getfield 33, 3) := by decide +kernel
theorem dX6_cut_66 : decode cX6_cut 66 = .ok (.iload_n 1, 1) := by decide +kernel
theorem dX6_cut_67 : decode cX6_cut 67 = .ok (.iload_n 2, 1) := by decide +kernel
theorem dX6_cut_68 : decode cX6_cut 68 = .ok (.invokevirtual 105, 3) := by decide +kernel
theorem dX6_cut_71 : decode cX6_cut 71 = .ok (.return_, 1) := by decide +kernel
theorem dX6_remove_0 : decode cX6_remove 0 = .ok (.iload_n 1, 1) := by decide +kernel
theorem dX6_remove_1 : decode cX6_remove 1 = .ok (.invokestatic 64, 3) := by decide +kernel
theorem dX6_remove_4 : decode cX6_remove 4 = .ok (.ifCond .eq 15, 3) := by decide +kernel
theorem dX6_remove_7 : decode cX6_remove 7 = .ok (.aload_n 0, 1) := by decide +kernel
theorem dX6_remove_8 : decode cX6_remove 8 = .ok (.getfield 33, 3) := by decide +kernel
theorem dX6_remove_11 : decode cX6_remove 11 = .ok (.iload_n 1, 1) := by decide +kernel
theorem dX6_remove_12 : decode cX6_remove 12 = .ok (.invokevirtual 68, 3) := by decide +kernel
theorem dX6_remove_15 : decode cX6_remove 15 = .ok (.iconst (-1), 1) := by decide +kernel
theorem dX6_remove_16 : decode cX6_remove 16 = .ok (.if_icmp .ne 13, 3) := by decide +kernel
theorem dX6_remove_19 : decode cX6_remove 19 = .ok (.new 78, 3) := by decide +kernel
theorem dX6_remove_22 : decode cX6_remove 22 = .ok (.dup, 1) := by decide +kernel
theorem dX6_remove_23 : decode cX6_remove 23 = .ok (.ldc 109, 2) := by decide +kernel
theorem dX6_remove_25 : decode cX6_remove 25 = .ok (.invokespecial 82, 3) := by decide +kernel
theorem dX6_remove_28 : decode cX6_remove 28 = .ok (.athrow, 1) := by decide +kernel
theorem dX6_remove_29 : decode cX6_remove 29 = .ok (.aload_n 0, 1) := by decide +kernel
theorem dX6_remove_30 : decode cX6_remove 30 = .ok (.invokevirtual 85, 3) := by decide +kernel
theorem dX6_remove_33 : decode cX6_remove 33 = .ok (.aload_n 0, 1) := by decide +kernel
theorem dX6_remove_34 : decode cX6_remove 34 = .ok (.getfield 40, 3) := by decide +kernel
theorem dX6_remove_37 : decode cX6_remove 37 = .ok (.invokevirtual 88, 3) := by decide +kernel
theorem dX6_remove_40 : decode cX6_remove 40 = .ok (.ifCond .eq 7, 3) := by decide +kernel
theorem dX6_remove_43 : decode cX6_remove 43 = .ok (.aload_n 0, 1) := by decide +kernel
