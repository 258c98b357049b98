/-! what each instruction is: BitSolver$Sets -/
theorem d_S_init_0 : decode b_S_init 0 = .ok (.aload_n 0, 1) := by decide +kernel
theorem d_S_init_1 : decode b_S_init 1 = .ok (.invokespecial 5, 3) := by decide +kernel
theorem d_S_init_4 : decode b_S_init 4 = .ok (.aload_n 0, 1) := by decide +kernel
theorem d_S_init_5 : decode b_S_init 5 = .ok (.iload_n 1, 1) := by decide +kernel
theorem d_S_init_6 : decode b_S_init 6 = .ok (.bipush 16, 2) := by decide +kernel
theorem d_S_init_8 : decode b_S_init 8 = .ok (.imul, 1) := by decide +kernel
theorem d_S_init_9 : decode b_S_init 9 = .ok (.newarray .long, 2) := by decide +kernel
theorem d_S_init_11 : decode b_S_init 11 = .ok (.putfield 11, 3) := by decide +kernel
theorem d_S_init_14 : decode b_S_init 14 = .ok (.return_, 1) := by decide +kernel
theorem d_S_fill_0 : decode b_S_fill 0 = .ok (.iconst 0, 1) := by decide +kernel
theorem d_S_fill_1 : decode b_S_fill 1 = .ok (.istore 4, 2) := by decide +kernel
theorem d_S_fill_3 : decode b_S_fill 3 = .ok (.iload 4, 2) := by decide +kernel
theorem d_S_fill_5 : decode b_S_fill 5 = .ok (.iload_n 2, 1) := by decide +kernel
theorem d_S_fill_6 : decode b_S_fill 6 = .ok (.bipush 16, 2) := by decide +kernel
theorem d_S_fill_8 : decode b_S_fill 8 = .ok (.imul, 1) := by decide +kernel
theorem d_S_fill_9 : decode b_S_fill 9 = .ok (.if_icmp .ge 32, 3) := by decide +kernel
theorem d_S_fill_12 : decode b_S_fill 12 = .ok (.aload_n 0, 1) := by decide +kernel
theorem d_S_fill_13 : decode b_S_fill 13 = .ok (.getfield 11, 3) := by decide +kernel
theorem d_S_fill_16 : decode b_S_fill 16 = .ok (.iload_n 1, 1) := by decide +kernel
theorem d_S_fill_17 : decode b_S_fill 17 = .ok (.bipush 16, 2) := by decide +kernel
theorem d_S_fill_19 : decode b_S_fill 19 = .ok (.imul, 1) := by decide +kernel
theorem d_S_fill_20 : decode b_S_fill 20 = .ok (.iload 4, 2) := by decide +kernel
theorem d_S_fill_22 : decode b_S_fill 22 = .ok (.iadd, 1) := by decide +kernel
theorem d_S_fill_23 : decode b_S_fill 23 = .ok (.iload_n 3, 1) := by decide +kernel
theorem d_S_fill_24 : decode b_S_fill 24 = .ok (.ifCond .eq 9, 3) := by decide +kernel
theorem d_S_fill_27 : decode b_S_fill 27 = .ok (.ldc2_w 15, 3) := by decide +kernel
theorem d_S_fill_30 : decode b_S_fill 30 = .ok (.goto 4, 3) := by decide +kernel
theorem d_S_fill_33 : decode b_S_fill 33 = .ok (.lconst 0, 1) := by decide +kernel
theorem d_S_fill_34 : decode b_S_fill 34 = .ok (.lastore, 1) := by decide +kernel
theorem d_S_fill_35 : decode b_S_fill 35 = .ok (.iinc 4 1, 3) := by decide +kernel
theorem d_S_fill_38 : decode b_S_fill 38 = .ok (.goto (-35), 3) := by decide +kernel
theorem d_S_fill_41 : decode b_S_fill 41 = .ok (.return_, 1) := by decide +kernel
theorem d_S_fillByPlace_0 : decode b_S_fillByPlace 0 = .ok (.iconst 0, 1) := by decide +kernel
theorem d_S_fillByPlace_1 : decode b_S_fillByPlace 1 = .ok (.istore_n 3, 1) := by decide +kernel
theorem d_S_fillByPlace_2 : decode b_S_fillByPlace 2 = .ok (.iload_n 3, 1) := by decide +kernel
theorem d_S_fillByPlace_3 : decode b_S_fillByPlace 3 = .ok (.bipush 16, 2) := by decide +kernel
theorem d_S_fillByPlace_5 : decode b_S_fillByPlace 5 = .ok (.if_icmp .ge 25, 3) := by decide +kernel
theorem d_S_fillByPlace_8 : decode b_S_fillByPlace 8 = .ok (.aload_n 0, 1) := by decide +kernel
theorem d_S_fillByPlace_9 : decode b_S_fillByPlace 9 = .ok (.getfield 11, 3) := by decide +kernel
theorem d_S_fillByPlace_12 : decode b_S_fillByPlace 12 = .ok (.iload_n 1, 1) := by decide +kernel
theorem d_S_fillByPlace_13 : decode b_S_fillByPlace 13 = .ok (.bipush 16, 2) := by decide +kernel
theorem d_S_fillByPlace_15 : decode b_S_fillByPlace 15 = .ok (.imul, 1) := by decide +kernel
theorem d_S_fillByPlace_16 : decode b_S_fillByPlace 16 = .ok (.iload_n 3, 1) := by decide +kernel
theorem d_S_fillByPlace_17 : decode b_S_fillByPlace 17 = .ok (.iadd, 1) := by decide +kernel
theorem d_S_fillByPlace_18 : decode b_S_fillByPlace 18 = .ok (.iload_n 3, 1) := by decide +kernel
theorem d_S_fillByPlace_19 : decode b_S_fillByPlace 19 = .ok (.iload_n 2, 1) := by decide +kernel
theorem d_S_fillByPlace_20 : decode b_S_fillByPlace 20 = .ok (.invokestatic 17, 3) := by decide +kernel
theorem d_S_fillByPlace_23 : decode b_S_fillByPlace 23 = .ok (.lastore, 1) := by decide +kernel
theorem d_S_fillByPlace_24 : decode b_S_fillByPlace 24 = .ok (.iinc 3 1, 3) := by decide +kernel
theorem d_S_fillByPlace_27 : decode b_S_fillByPlace 27 = .ok (.goto (-25), 3) := by decide +kernel
theorem d_S_fillByPlace_30 : decode b_S_fillByPlace 30 = .ok (.return_, 1) := by decide +kernel
theorem d_S_wordByPlace_0 : decode b_S_wordByPlace 0 = .ok (.iload_n 1, 1) := by decide +kernel
theorem d_S_wordByPlace_1 : decode b_S_wordByPlace 1 = .ok (.bipush 6, 2) := by decide +kernel
theorem d_S_wordByPlace_3 : decode b_S_wordByPlace 3 = .ok (.if_icmp .ge 9, 3) := by decide +kernel
theorem d_S_wordByPlace_6 : decode b_S_wordByPlace 6 = .ok (.getstatic 21, 3) := by decide +kernel
theorem d_S_wordByPlace_9 : decode b_S_wordByPlace 9 = .ok (.iload_n 1, 1) := by decide +kernel
theorem d_S_wordByPlace_10 : decode b_S_wordByPlace 10 = .ok (.laload, 1) := by decide +kernel
theorem d_S_wordByPlace_11 : decode b_S_wordByPlace 11 = .ok (.lreturn, 1) := by decide +kernel
theorem d_S_wordByPlace_12 : decode b_S_wordByPlace 12 = .ok (.iload_n 0, 1) := by decide +kernel
theorem d_S_wordByPlace_13 : decode b_S_wordByPlace 13 = .ok (.iload_n 1, 1) := by decide +kernel
theorem d_S_wordByPlace_14 : decode b_S_wordByPlace 14 = .ok (.bipush 6, 2) := by decide +kernel
theorem d_S_wordByPlace_16 : decode b_S_wordByPlace 16 = .ok (.isub, 1) := by decide +kernel
theorem d_S_wordByPlace_17 : decode b_S_wordByPlace 17 = .ok (.ishr, 1) := by decide +kernel
theorem d_S_wordByPlace_18 : decode b_S_wordByPlace 18 = .ok (.iconst 1, 1) := by decide +kernel
theorem d_S_wordByPlace_19 : decode b_S_wordByPlace 19 = .ok (.iand, 1) := by decide +kernel
theorem d_S_wordByPlace_20 : decode b_S_wordByPlace 20 = .ok (.iconst 1, 1) := by decide +kernel
theorem d_S_wordByPlace_21 : decode b_S_wordByPlace 21 = .ok (.if_icmp .ne 9, 3) := by decide +kernel
theorem d_S_wordByPlace_24 : decode b_S_wordByPlace 24 = .ok (.ldc2_w 15, 3) := by decide +kernel
theorem d_S_wordByPlace_27 : decode b_S_wordByPlace 27 = .ok (.goto 4, 3) := by decide +kernel
theorem d_S_wordByPlace_30 : decode b_S_wordByPlace 30 = .ok (.lconst 0, 1) := by decide +kernel
theorem d_S_wordByPlace_31 : decode b_S_wordByPlace 31 = .ok (.lreturn, 1) := by decide +kernel
theorem d_S_copy_0 : decode b_S_copy 0 = .ok (.iconst 0, 1) := by decide +kernel
theorem d_S_copy_1 : decode b_S_copy 1 = .ok (.istore 4, 2) := by decide +kernel
theorem d_S_copy_3 : decode b_S_copy 3 = .ok (.iload 4, 2) := by decide +kernel
theorem d_S_copy_5 : decode b_S_copy 5 = .ok (.iload_n 3, 1) := by decide +kernel
theorem d_S_copy_6 : decode b_S_copy 6 = .ok (.bipush 16, 2) := by decide +kernel
theorem d_S_copy_8 : decode b_S_copy 8 = .ok (.imul, 1) := by decide +kernel
theorem d_S_copy_9 : decode b_S_copy 9 = .ok (.if_icmp .ge 33, 3) := by decide +kernel
theorem d_S_copy_12 : decode b_S_copy 12 = .ok (.aload_n 0, 1) := by decide +kernel
theorem d_S_copy_13 : decode b_S_copy 13 = .ok (.getfield 11, 3) := by decide +kernel
theorem d_S_copy_16 : decode b_S_copy 16 = .ok (.iload_n 1, 1) := by decide +kernel
theorem d_S_copy_17 : decode b_S_copy 17 = .ok (.bipush 16, 2) := by decide +kernel
theorem d_S_copy_19 : decode b_S_copy 19 = .ok (.imul, 1) := by decide +kernel
theorem d_S_copy_20 : decode b_S_copy 20 = .ok (.iload 4, 2) := by decide +kernel
theorem d_S_copy_22 : decode b_S_copy 22 = .ok (.iadd, 1) := by decide +kernel
theorem d_S_copy_23 : decode b_S_copy 23 = .ok (.aload_n 0, 1) := by decide +kernel
theorem d_S_copy_24 : decode b_S_copy 24 = .ok (.getfield 11, 3) := by decide +kernel
theorem d_S_copy_27 : decode b_S_copy 27 = .ok (.iload_n 2, 1) := by decide +kernel
theorem d_S_copy_28 : decode b_S_copy 28 = .ok (.bipush 16, 2) := by decide +kernel
theorem d_S_copy_30 : decode b_S_copy 30 = .ok (.imul, 1) := by decide +kernel
theorem d_S_copy_31 : decode b_S_copy 31 = .ok (.iload 4, 2) := by decide +kernel
theorem d_S_copy_33 : decode b_S_copy 33 = .ok (.iadd, 1) := by decide +kernel
theorem d_S_copy_34 : decode b_S_copy 34 = .ok (.laload, 1) := by decide +kernel
theorem d_S_copy_35 : decode b_S_copy 35 = .ok (.lastore, 1) := by decide +kernel
theorem d_S_copy_36 : decode b_S_copy 36 = .ok (.iinc 4 1, 3) := by decide +kernel
theorem d_S_copy_39 : decode b_S_copy 39 = .ok (.goto (-36), 3) := by decide +kernel
theorem d_S_copy_42 : decode b_S_copy 42 = .ok (.return_, 1) := by decide +kernel
theorem d_S_turn_0 : decode b_S_turn 0 = .ok (.iconst 0, 1) := by decide +kernel
theorem d_S_turn_1 : decode b_S_turn 1 = .ok (.istore 4, 2) := by decide +kernel
theorem d_S_turn_3 : decode b_S_turn 3 = .ok (.iload 4, 2) := by decide +kernel
theorem d_S_turn_5 : decode b_S_turn 5 = .ok (.iload_n 3, 1) := by decide +kernel
theorem d_S_turn_6 : decode b_S_turn 6 = .ok (.bipush 16, 2) := by decide +kernel
theorem d_S_turn_8 : decode b_S_turn 8 = .ok (.imul, 1) := by decide +kernel
theorem d_S_turn_9 : decode b_S_turn 9 = .ok (.if_icmp .ge 37, 3) := by decide +kernel
theorem d_S_turn_12 : decode b_S_turn 12 = .ok (.aload_n 0, 1) := by decide +kernel
theorem d_S_turn_13 : decode b_S_turn 13 = .ok (.getfield 11, 3) := by decide +kernel
theorem d_S_turn_16 : decode b_S_turn 16 = .ok (.iload_n 1, 1) := by decide +kernel
theorem d_S_turn_17 : decode b_S_turn 17 = .ok (.bipush 16, 2) := by decide +kernel
theorem d_S_turn_19 : decode b_S_turn 19 = .ok (.imul, 1) := by decide +kernel
theorem d_S_turn_20 : decode b_S_turn 20 = .ok (.iload 4, 2) := by decide +kernel
theorem d_S_turn_22 : decode b_S_turn 22 = .ok (.iadd, 1) := by decide +kernel
theorem d_S_turn_23 : decode b_S_turn 23 = .ok (.aload_n 0, 1) := by decide +kernel
theorem d_S_turn_24 : decode b_S_turn 24 = .ok (.getfield 11, 3) := by decide +kernel
theorem d_S_turn_27 : decode b_S_turn 27 = .ok (.iload_n 2, 1) := by decide +kernel
theorem d_S_turn_28 : decode b_S_turn 28 = .ok (.bipush 16, 2) := by decide +kernel
theorem d_S_turn_30 : decode b_S_turn 30 = .ok (.imul, 1) := by decide +kernel
theorem d_S_turn_31 : decode b_S_turn 31 = .ok (.iload 4, 2) := by decide +kernel
theorem d_S_turn_33 : decode b_S_turn 33 = .ok (.iadd, 1) := by decide +kernel
theorem d_S_turn_34 : decode b_S_turn 34 = .ok (.laload, 1) := by decide +kernel
theorem d_S_turn_35 : decode b_S_turn 35 = .ok (.ldc2_w 15, 3) := by decide +kernel
theorem d_S_turn_38 : decode b_S_turn 38 = .ok (.lxor, 1) := by decide +kernel
theorem d_S_turn_39 : decode b_S_turn 39 = .ok (.lastore, 1) := by decide +kernel
theorem d_S_turn_40 : decode b_S_turn 40 = .ok (.iinc 4 1, 3) := by decide +kernel
theorem d_S_turn_43 : decode b_S_turn 43 = .ok (.goto (-40), 3) := by decide +kernel
theorem d_S_turn_46 : decode b_S_turn 46 = .ok (.return_, 1) := by decide +kernel
theorem d_S_and_0 : decode b_S_and 0 = .ok (.iconst 0, 1) := by decide +kernel
theorem d_S_and_1 : decode b_S_and 1 = .ok (.istore 5, 2) := by decide +kernel
theorem d_S_and_3 : decode b_S_and 3 = .ok (.iload 5, 2) := by decide +kernel
theorem d_S_and_5 : decode b_S_and 5 = .ok (.iload 4, 2) := by decide +kernel
theorem d_S_and_7 : decode b_S_and 7 = .ok (.bipush 16, 2) := by decide +kernel
theorem d_S_and_9 : decode b_S_and 9 = .ok (.imul, 1) := by decide +kernel
theorem d_S_and_10 : decode b_S_and 10 = .ok (.if_icmp .ge 46, 3) := by decide +kernel
theorem d_S_and_13 : decode b_S_and 13 = .ok (.aload_n 0, 1) := by decide +kernel
theorem d_S_and_14 : decode b_S_and 14 = .ok (.getfield 11, 3) := by decide +kernel
theorem d_S_and_17 : decode b_S_and 17 = .ok (.iload_n 1, 1) := by decide +kernel
theorem d_S_and_18 : decode b_S_and 18 = .ok (.bipush 16, 2) := by decide +kernel
theorem d_S_and_20 : decode b_S_and 20 = .ok (.imul, 1) := by decide +kernel
theorem d_S_and_21 : decode b_S_and 21 = .ok (.iload 5, 2) := by decide +kernel
theorem d_S_and_23 : decode b_S_and 23 = .ok (.iadd, 1) := by decide +kernel
theorem d_S_and_24 : decode b_S_and 24 = .ok (.aload_n 0, 1) := by decide +kernel
theorem d_S_and_25 : decode b_S_and 25 = .ok (.getfield 11, 3) := by decide +kernel
theorem d_S_and_28 : decode b_S_and 28 = .ok (.iload_n 2, 1) := by decide +kernel
theorem d_S_and_29 : decode b_S_and 29 = .ok (.bipush 16, 2) := by decide +kernel
theorem d_S_and_31 : decode b_S_and 31 = .ok (.imul, 1) := by decide +kernel
theorem d_S_and_32 : decode b_S_and 32 = .ok (.iload 5, 2) := by decide +kernel
theorem d_S_and_34 : decode b_S_and 34 = .ok (.iadd, 1) := by decide +kernel
theorem d_S_and_35 : decode b_S_and 35 = .ok (.laload, 1) := by decide +kernel
theorem d_S_and_36 : decode b_S_and 36 = .ok (.aload_n 0, 1) := by decide +kernel
theorem d_S_and_37 : decode b_S_and 37 = .ok (.getfield 11, 3) := by decide +kernel
theorem d_S_and_40 : decode b_S_and 40 = .ok (.iload_n 3, 1) := by decide +kernel
theorem d_S_and_41 : decode b_S_and 41 = .ok (.bipush 16, 2) := by decide +kernel
theorem d_S_and_43 : decode b_S_and 43 = .ok (.imul, 1) := by decide +kernel
theorem d_S_and_44 : decode b_S_and 44 = .ok (.iload 5, 2) := by decide +kernel
theorem d_S_and_46 : decode b_S_and 46 = .ok (.iadd, 1) := by decide +kernel
theorem d_S_and_47 : decode b_S_and 47 = .ok (.laload, 1) := by decide +kernel
theorem d_S_and_48 : decode b_S_and 48 = .ok (.land, 1) := by decide +kernel
theorem d_S_and_49 : decode b_S_and 49 = .ok (.lastore, 1) := by decide +kernel
theorem d_S_and_50 : decode b_S_and 50 = .ok (.iinc 5 1, 3) := by decide +kernel
theorem d_S_and_53 : decode b_S_and 53 = .ok (.goto (-50), 3) := by decide +kernel
theorem d_S_and_56 : decode b_S_and 56 = .ok (.return_, 1) := by decide +kernel
theorem d_S_or_0 : decode b_S_or 0 = .ok (.iconst 0, 1) := by decide +kernel
theorem d_S_or_1 : decode b_S_or 1 = .ok (.istore 5, 2) := by decide +kernel
theorem d_S_or_3 : decode b_S_or 3 = .ok (.iload 5, 2) := by decide +kernel
theorem d_S_or_5 : decode b_S_or 5 = .ok (.iload 4, 2) := by decide +kernel
theorem d_S_or_7 : decode b_S_or 7 = .ok (.bipush 16, 2) := by decide +kernel
theorem d_S_or_9 : decode b_S_or 9 = .ok (.imul, 1) := by decide +kernel
theorem d_S_or_10 : decode b_S_or 10 = .ok (.if_icmp .ge 46, 3) := by decide +kernel
theorem d_S_or_13 : decode b_S_or 13 = .ok (.aload_n 0, 1) := by decide +kernel
theorem d_S_or_14 : decode b_S_or 14 = .ok (.getfield 11, 3) := by decide +kernel
theorem d_S_or_17 : decode b_S_or 17 = .ok (.iload_n 1, 1) := by decide +kernel
theorem d_S_or_18 : decode b_S_or 18 = .ok (.bipush 16, 2) := by decide +kernel
theorem d_S_or_20 : decode b_S_or 20 = .ok (.imul, 1) := by decide +kernel
theorem d_S_or_21 : decode b_S_or 21 = .ok (.iload 5, 2) := by decide +kernel
theorem d_S_or_23 : decode b_S_or 23 = .ok (.iadd, 1) := by decide +kernel
theorem d_S_or_24 : decode b_S_or 24 = .ok (.aload_n 0, 1) := by decide +kernel
theorem d_S_or_25 : decode b_S_or 25 = .ok (.getfield 11, 3) := by decide +kernel
theorem d_S_or_28 : decode b_S_or 28 = .ok (.iload_n 2, 1) := by decide +kernel
theorem d_S_or_29 : decode b_S_or 29 = .ok (.bipush 16, 2) := by decide +kernel
theorem d_S_or_31 : decode b_S_or 31 = .ok (.imul, 1) := by decide +kernel
theorem d_S_or_32 : decode b_S_or 32 = .ok (.iload 5, 2) := by decide +kernel
theorem d_S_or_34 : decode b_S_or 34 = .ok (.iadd, 1) := by decide +kernel
theorem d_S_or_35 : decode b_S_or 35 = .ok (.laload, 1) := by decide +kernel
theorem d_S_or_36 : decode b_S_or 36 = .ok (.aload_n 0, 1) := by decide +kernel
theorem d_S_or_37 : decode b_S_or 37 = .ok (.getfield 11, 3) := by decide +kernel
theorem d_S_or_40 : decode b_S_or 40 = .ok (.iload_n 3, 1) := by decide +kernel
theorem d_S_or_41 : decode b_S_or 41 = .ok (.bipush 16, 2) := by decide +kernel
theorem d_S_or_43 : decode b_S_or 43 = .ok (.imul, 1) := by decide +kernel
theorem d_S_or_44 : decode b_S_or 44 = .ok (.iload 5, 2) := by decide +kernel
theorem d_S_or_46 : decode b_S_or 46 = .ok (.iadd, 1) := by decide +kernel
theorem d_S_or_47 : decode b_S_or 47 = .ok (.laload, 1) := by decide +kernel
theorem d_S_or_48 : decode b_S_or 48 = .ok (.lor, 1) := by decide +kernel
theorem d_S_or_49 : decode b_S_or 49 = .ok (.lastore, 1) := by decide +kernel
theorem d_S_or_50 : decode b_S_or 50 = .ok (.iinc 5 1, 3) := by decide +kernel
theorem d_S_or_53 : decode b_S_or 53 = .ok (.goto (-50), 3) := by decide +kernel
theorem d_S_or_56 : decode b_S_or 56 = .ok (.return_, 1) := by decide +kernel
theorem d_S_exclusive_0 : decode b_S_exclusive 0 = .ok (.iconst 0, 1) := by decide +kernel
theorem d_S_exclusive_1 : decode b_S_exclusive 1 = .ok (.istore 5, 2) := by decide +kernel
theorem d_S_exclusive_3 : decode b_S_exclusive 3 = .ok (.iload 5, 2) := by decide +kernel
theorem d_S_exclusive_5 : decode b_S_exclusive 5 = .ok (.iload 4, 2) := by decide +kernel
theorem d_S_exclusive_7 : decode b_S_exclusive 7 = .ok (.bipush 16, 2) := by decide +kernel
theorem d_S_exclusive_9 : decode b_S_exclusive 9 = .ok (.imul, 1) := by decide +kernel
theorem d_S_exclusive_10 : decode b_S_exclusive 10 = .ok (.if_icmp .ge 46, 3) := by decide +kernel
theorem d_S_exclusive_13 : decode b_S_exclusive 13 = .ok (.aload_n 0, 1) := by decide +kernel
theorem d_S_exclusive_14 : decode b_S_exclusive 14 = .ok (.getfield 11, 3) := by decide +kernel
theorem d_S_exclusive_17 : decode b_S_exclusive 17 = .ok (.iload_n 1, 1) := by decide +kernel
theorem d_S_exclusive_18 : decode b_S_exclusive 18 = .ok (.bipush 16, 2) := by decide +kernel
theorem d_S_exclusive_20 : decode b_S_exclusive 20 = .ok (.imul, 1) := by decide +kernel
theorem d_S_exclusive_21 : decode b_S_exclusive 21 = .ok (.iload 5, 2) := by decide +kernel
theorem d_S_exclusive_23 : decode b_S_exclusive 23 = .ok (.iadd, 1) := by decide +kernel
theorem d_S_exclusive_24 : decode b_S_exclusive 24 = .ok (.aload_n 0, 1) := by decide +kernel
theorem d_S_exclusive_25 : decode b_S_exclusive 25 = .ok (.getfield 11, 3) := by decide +kernel
theorem d_S_exclusive_28 : decode b_S_exclusive 28 = .ok (.iload_n 2, 1) := by decide +kernel
theorem d_S_exclusive_29 : decode b_S_exclusive 29 = .ok (.bipush 16, 2) := by decide +kernel
theorem d_S_exclusive_31 : decode b_S_exclusive 31 = .ok (.imul, 1) := by decide +kernel
theorem d_S_exclusive_32 : decode b_S_exclusive 32 = .ok (.iload 5, 2) := by decide +kernel
theorem d_S_exclusive_34 : decode b_S_exclusive 34 = .ok (.iadd, 1) := by decide +kernel
theorem d_S_exclusive_35 : decode b_S_exclusive 35 = .ok (.laload, 1) := by decide +kernel
theorem d_S_exclusive_36 : decode b_S_exclusive 36 = .ok (.aload_n 0, 1) := by decide +kernel
theorem d_S_exclusive_37 : decode b_S_exclusive 37 = .ok (.getfield 11, 3) := by decide +kernel
theorem d_S_exclusive_40 : decode b_S_exclusive 40 = .ok (.iload_n 3, 1) := by decide +kernel
theorem d_S_exclusive_41 : decode b_S_exclusive 41 = .ok (.bipush 16, 2) := by decide +kernel
theorem d_S_exclusive_43 : decode b_S_exclusive 43 = .ok (.imul, 1) := by decide +kernel
theorem d_S_exclusive_44 : decode b_S_exclusive 44 = .ok (.iload 5, 2) := by decide +kernel
theorem d_S_exclusive_46 : decode b_S_exclusive 46 = .ok (.iadd, 1) := by decide +kernel
theorem d_S_exclusive_47 : decode b_S_exclusive 47 = .ok (.laload, 1) := by decide +kernel
theorem d_S_exclusive_48 : decode b_S_exclusive 48 = .ok (.lxor, 1) := by decide +kernel
theorem d_S_exclusive_49 : decode b_S_exclusive 49 = .ok (.lastore, 1) := by decide +kernel
theorem d_S_exclusive_50 : decode b_S_exclusive 50 = .ok (.iinc 5 1, 3) := by decide +kernel
theorem d_S_exclusive_53 : decode b_S_exclusive 53 = .ok (.goto (-50), 3) := by decide +kernel
theorem d_S_exclusive_56 : decode b_S_exclusive 56 = .ok (.return_, 1) := by decide +kernel
theorem d_S_choose_0 : decode b_S_choose 0 = .ok (.iconst 0, 1) := by decide +kernel
theorem d_S_choose_1 : decode b_S_choose 1 = .ok (.istore 5, 2) := by decide +kernel
theorem d_S_choose_3 : decode b_S_choose 3 = .ok (.iload 5, 2) := by decide +kernel
theorem d_S_choose_5 : decode b_S_choose 5 = .ok (.bipush 16, 2) := by decide +kernel
theorem d_S_choose_7 : decode b_S_choose 7 = .ok (.if_icmp .ge 71, 3) := by decide +kernel
theorem d_S_choose_10 : decode b_S_choose 10 = .ok (.aload_n 0, 1) := by decide +kernel
theorem d_S_choose_11 : decode b_S_choose 11 = .ok (.getfield 11, 3) := by decide +kernel
theorem d_S_choose_14 : decode b_S_choose 14 = .ok (.iload_n 2, 1) := by decide +kernel
theorem d_S_choose_15 : decode b_S_choose 15 = .ok (.bipush 16, 2) := by decide +kernel
theorem d_S_choose_17 : decode b_S_choose 17 = .ok (.imul, 1) := by decide +kernel
theorem d_S_choose_18 : decode b_S_choose 18 = .ok (.iload 5, 2) := by decide +kernel
theorem d_S_choose_20 : decode b_S_choose 20 = .ok (.iadd, 1) := by decide +kernel
theorem d_S_choose_21 : decode b_S_choose 21 = .ok (.laload, 1) := by decide +kernel
theorem d_S_choose_22 : decode b_S_choose 22 = .ok (.lstore 6, 2) := by decide +kernel
theorem d_S_choose_24 : decode b_S_choose 24 = .ok (.aload_n 0, 1) := by decide +kernel
theorem d_S_choose_25 : decode b_S_choose 25 = .ok (.getfield 11, 3) := by decide +kernel
theorem d_S_choose_28 : decode b_S_choose 28 = .ok (.iload_n 1, 1) := by decide +kernel
theorem d_S_choose_29 : decode b_S_choose 29 = .ok (.bipush 16, 2) := by decide +kernel
theorem d_S_choose_31 : decode b_S_choose 31 = .ok (.imul, 1) := by decide +kernel
theorem d_S_choose_32 : decode b_S_choose 32 = .ok (.iload 5, 2) := by decide +kernel
theorem d_S_choose_34 : decode b_S_choose 34 = .ok (.iadd, 1) := by decide +kernel
theorem d_S_choose_35 : decode b_S_choose 35 = .ok (.lload 6, 2) := by decide +kernel
theorem d_S_choose_37 : decode b_S_choose 37 = .ok (.aload_n 0, 1) := by decide +kernel
theorem d_S_choose_38 : decode b_S_choose 38 = .ok (.getfield 11, 3) := by decide +kernel
theorem d_S_choose_41 : decode b_S_choose 41 = .ok (.iload_n 3, 1) := by decide +kernel
theorem d_S_choose_42 : decode b_S_choose 42 = .ok (.bipush 16, 2) := by decide +kernel
theorem d_S_choose_44 : decode b_S_choose 44 = .ok (.imul, 1) := by decide +kernel
theorem d_S_choose_45 : decode b_S_choose 45 = .ok (.iload 5, 2) := by decide +kernel
theorem d_S_choose_47 : decode b_S_choose 47 = .ok (.iadd, 1) := by decide +kernel
theorem d_S_choose_48 : decode b_S_choose 48 = .ok (.laload, 1) := by decide +kernel
theorem d_S_choose_49 : decode b_S_choose 49 = .ok (.land, 1) := by decide +kernel
theorem d_S_choose_50 : decode b_S_choose 50 = .ok (.lload 6, 2) := by decide +kernel
theorem d_S_choose_52 : decode b_S_choose 52 = .ok (.ldc2_w 15, 3) := by decide +kernel
theorem d_S_choose_55 : decode b_S_choose 55 = .ok (.lxor, 1) := by decide +kernel
theorem d_S_choose_56 : decode b_S_choose 56 = .ok (.aload_n 0, 1) := by decide +kernel
theorem d_S_choose_57 : decode b_S_choose 57 = .ok (.getfield 11, 3) := by decide +kernel
theorem d_S_choose_60 : decode b_S_choose 60 = .ok (.iload 4, 2) := by decide +kernel
theorem d_S_choose_62 : decode b_S_choose 62 = .ok (.bipush 16, 2) := by decide +kernel
theorem d_S_choose_64 : decode b_S_choose 64 = .ok (.imul, 1) := by decide +kernel
theorem d_S_choose_65 : decode b_S_choose 65 = .ok (.iload 5, 2) := by decide +kernel
theorem d_S_choose_67 : decode b_S_choose 67 = .ok (.iadd, 1) := by decide +kernel
theorem d_S_choose_68 : decode b_S_choose 68 = .ok (.laload, 1) := by decide +kernel
theorem d_S_choose_69 : decode b_S_choose 69 = .ok (.land, 1) := by decide +kernel
theorem d_S_choose_70 : decode b_S_choose 70 = .ok (.lor, 1) := by decide +kernel
theorem d_S_choose_71 : decode b_S_choose 71 = .ok (.lastore, 1) := by decide +kernel
theorem d_S_choose_72 : decode b_S_choose 72 = .ok (.iinc 5 1, 3) := by decide +kernel
theorem d_S_choose_75 : decode b_S_choose 75 = .ok (.goto (-72), 3) := by decide +kernel
theorem d_S_choose_78 : decode b_S_choose 78 = .ok (.return_, 1) := by decide +kernel
theorem d_S_remove_0 : decode b_S_remove 0 = .ok (.iconst 0, 1) := by decide +kernel
theorem d_S_remove_1 : decode b_S_remove 1 = .ok (.istore_n 3, 1) := by decide +kernel
theorem d_S_remove_2 : decode b_S_remove 2 = .ok (.iload_n 3, 1) := by decide +kernel
theorem d_S_remove_3 : decode b_S_remove 3 = .ok (.bipush 16, 2) := by decide +kernel
theorem d_S_remove_5 : decode b_S_remove 5 = .ok (.if_icmp .ge 47, 3) := by decide +kernel
theorem d_S_remove_8 : decode b_S_remove 8 = .ok (.aload_n 0, 1) := by decide +kernel
theorem d_S_remove_9 : decode b_S_remove 9 = .ok (.getfield 11, 3) := by decide +kernel
theorem d_S_remove_12 : decode b_S_remove 12 = .ok (.iload_n 1, 1) := by decide +kernel
theorem d_S_remove_13 : decode b_S_remove 13 = .ok (.bipush 16, 2) := by decide +kernel
theorem d_S_remove_15 : decode b_S_remove 15 = .ok (.imul, 1) := by decide +kernel
theorem d_S_remove_16 : decode b_S_remove 16 = .ok (.iload_n 3, 1) := by decide +kernel
theorem d_S_remove_17 : decode b_S_remove 17 = .ok (.iadd, 1) := by decide +kernel
theorem d_S_remove_18 : decode b_S_remove 18 = .ok (.aload_n 0, 1) := by decide +kernel
theorem d_S_remove_19 : decode b_S_remove 19 = .ok (.getfield 11, 3) := by decide +kernel
theorem d_S_remove_22 : decode b_S_remove 22 = .ok (.iload_n 1, 1) := by decide +kernel
theorem d_S_remove_23 : decode b_S_remove 23 = .ok (.bipush 16, 2) := by decide +kernel
theorem d_S_remove_25 : decode b_S_remove 25 = .ok (.imul, 1) := by decide +kernel
theorem d_S_remove_26 : decode b_S_remove 26 = .ok (.iload_n 3, 1) := by decide +kernel
theorem d_S_remove_27 : decode b_S_remove 27 = .ok (.iadd, 1) := by decide +kernel
theorem d_S_remove_28 : decode b_S_remove 28 = .ok (.laload, 1) := by decide +kernel
theorem d_S_remove_29 : decode b_S_remove 29 = .ok (.aload_n 0, 1) := by decide +kernel
theorem d_S_remove_30 : decode b_S_remove 30 = .ok (.getfield 11, 3) := by decide +kernel
theorem d_S_remove_33 : decode b_S_remove 33 = .ok (.iload_n 2, 1) := by decide +kernel
theorem d_S_remove_34 : decode b_S_remove 34 = .ok (.bipush 16, 2) := by decide +kernel
theorem d_S_remove_36 : decode b_S_remove 36 = .ok (.imul, 1) := by decide +kernel
theorem d_S_remove_37 : decode b_S_remove 37 = .ok (.iload_n 3, 1) := by decide +kernel
theorem d_S_remove_38 : decode b_S_remove 38 = .ok (.iadd, 1) := by decide +kernel
theorem d_S_remove_39 : decode b_S_remove 39 = .ok (.laload, 1) := by decide +kernel
theorem d_S_remove_40 : decode b_S_remove 40 = .ok (.ldc2_w 15, 3) := by decide +kernel
theorem d_S_remove_43 : decode b_S_remove 43 = .ok (.lxor, 1) := by decide +kernel
theorem d_S_remove_44 : decode b_S_remove 44 = .ok (.land, 1) := by decide +kernel
theorem d_S_remove_45 : decode b_S_remove 45 = .ok (.lastore, 1) := by decide +kernel
theorem d_S_remove_46 : decode b_S_remove 46 = .ok (.iinc 3 1, 3) := by decide +kernel
theorem d_S_remove_49 : decode b_S_remove 49 = .ok (.goto (-47), 3) := by decide +kernel
theorem d_S_remove_52 : decode b_S_remove 52 = .ok (.return_, 1) := by decide +kernel
theorem d_S_isEmpty_0 : decode b_S_isEmpty 0 = .ok (.aload_n 0, 1) := by decide +kernel
theorem d_S_isEmpty_1 : decode b_S_isEmpty 1 = .ok (.iload_n 1, 1) := by decide +kernel
theorem d_S_isEmpty_2 : decode b_S_isEmpty 2 = .ok (.iload_n 1, 1) := by decide +kernel
theorem d_S_isEmpty_3 : decode b_S_isEmpty 3 = .ok (.invokevirtual 24, 3) := by decide +kernel
theorem d_S_isEmpty_6 : decode b_S_isEmpty 6 = .ok (.ireturn, 1) := by decide +kernel
theorem d_S_meets_0 : decode b_S_meets 0 = .ok (.aload_n 0, 1) := by decide +kernel
theorem d_S_meets_1 : decode b_S_meets 1 = .ok (.iload_n 1, 1) := by decide +kernel
theorem d_S_meets_2 : decode b_S_meets 2 = .ok (.iload_n 2, 1) := by decide +kernel
theorem d_S_meets_3 : decode b_S_meets 3 = .ok (.invokevirtual 24, 3) := by decide +kernel
theorem d_S_meets_6 : decode b_S_meets 6 = .ok (.ifCond .ne 7, 3) := by decide +kernel
theorem d_S_meets_9 : decode b_S_meets 9 = .ok (.iconst 1, 1) := by decide +kernel
theorem d_S_meets_10 : decode b_S_meets 10 = .ok (.goto 4, 3) := by decide +kernel
theorem d_S_meets_13 : decode b_S_meets 13 = .ok (.iconst 0, 1) := by decide +kernel
theorem d_S_meets_14 : decode b_S_meets 14 = .ok (.ireturn, 1) := by decide +kernel
theorem d_S_isWithout_0 : decode b_S_isWithout 0 = .ok (.iconst 0, 1) := by decide +kernel
theorem d_S_isWithout_1 : decode b_S_isWithout 1 = .ok (.istore_n 3, 1) := by decide +kernel
theorem d_S_isWithout_2 : decode b_S_isWithout 2 = .ok (.iload_n 3, 1) := by decide +kernel
theorem d_S_isWithout_3 : decode b_S_isWithout 3 = .ok (.bipush 16, 2) := by decide +kernel
theorem d_S_isWithout_5 : decode b_S_isWithout 5 = .ok (.if_icmp .ge 39, 3) := by decide +kernel
theorem d_S_isWithout_8 : decode b_S_isWithout 8 = .ok (.aload_n 0, 1) := by decide +kernel
theorem d_S_isWithout_9 : decode b_S_isWithout 9 = .ok (.getfield 11, 3) := by decide +kernel
theorem d_S_isWithout_12 : decode b_S_isWithout 12 = .ok (.iload_n 1, 1) := by decide +kernel
theorem d_S_isWithout_13 : decode b_S_isWithout 13 = .ok (.bipush 16, 2) := by decide +kernel
theorem d_S_isWithout_15 : decode b_S_isWithout 15 = .ok (.imul, 1) := by decide +kernel
theorem d_S_isWithout_16 : decode b_S_isWithout 16 = .ok (.iload_n 3, 1) := by decide +kernel
theorem d_S_isWithout_17 : decode b_S_isWithout 17 = .ok (.iadd, 1) := by decide +kernel
theorem d_S_isWithout_18 : decode b_S_isWithout 18 = .ok (.laload, 1) := by decide +kernel
theorem d_S_isWithout_19 : decode b_S_isWithout 19 = .ok (.aload_n 0, 1) := by decide +kernel
theorem d_S_isWithout_20 : decode b_S_isWithout 20 = .ok (.getfield 11, 3) := by decide +kernel
theorem d_S_isWithout_23 : decode b_S_isWithout 23 = .ok (.iload_n 2, 1) := by decide +kernel
theorem d_S_isWithout_24 : decode b_S_isWithout 24 = .ok (.bipush 16, 2) := by decide +kernel
theorem d_S_isWithout_26 : decode b_S_isWithout 26 = .ok (.imul, 1) := by decide +kernel
theorem d_S_isWithout_27 : decode b_S_isWithout 27 = .ok (.iload_n 3, 1) := by decide +kernel
theorem d_S_isWithout_28 : decode b_S_isWithout 28 = .ok (.iadd, 1) := by decide +kernel
theorem d_S_isWithout_29 : decode b_S_isWithout 29 = .ok (.laload, 1) := by decide +kernel
theorem d_S_isWithout_30 : decode b_S_isWithout 30 = .ok (.land, 1) := by decide +kernel
theorem d_S_isWithout_31 : decode b_S_isWithout 31 = .ok (.lconst 0, 1) := by decide +kernel
theorem d_S_isWithout_32 : decode b_S_isWithout 32 = .ok (.lcmp, 1) := by decide +kernel
theorem d_S_isWithout_33 : decode b_S_isWithout 33 = .ok (.ifCond .eq 5, 3) := by decide +kernel
theorem d_S_isWithout_36 : decode b_S_isWithout 36 = .ok (.iconst 0, 1) := by decide +kernel
theorem d_S_isWithout_37 : decode b_S_isWithout 37 = .ok (.ireturn, 1) := by decide +kernel
theorem d_S_isWithout_38 : decode b_S_isWithout 38 = .ok (.iinc 3 1, 3) := by decide +kernel
theorem d_S_isWithout_41 : decode b_S_isWithout 41 = .ok (.goto (-39), 3) := by decide +kernel
theorem d_S_isWithout_44 : decode b_S_isWithout 44 = .ok (.iconst 1, 1) := by decide +kernel
theorem d_S_isWithout_45 : decode b_S_isWithout 45 = .ok (.ireturn, 1) := by decide +kernel
theorem d_S_isWithin_0 : decode b_S_isWithin 0 = .ok (.iconst 0, 1) := by decide +kernel
theorem d_S_isWithin_1 : decode b_S_isWithin 1 = .ok (.istore_n 3, 1) := by decide +kernel
theorem d_S_isWithin_2 : decode b_S_isWithin 2 = .ok (.iload_n 3, 1) := by decide +kernel
theorem d_S_isWithin_3 : decode b_S_isWithin 3 = .ok (.bipush 16, 2) := by decide +kernel
theorem d_S_isWithin_5 : decode b_S_isWithin 5 = .ok (.if_icmp .ge 43, 3) := by decide +kernel
theorem d_S_isWithin_8 : decode b_S_isWithin 8 = .ok (.aload_n 0, 1) := by decide +kernel
theorem d_S_isWithin_9 : decode b_S_isWithin 9 = .ok (.getfield 11, 3) := by decide +kernel
theorem d_S_isWithin_12 : decode b_S_isWithin 12 = .ok (.iload_n 1, 1) := by decide +kernel
theorem d_S_isWithin_13 : decode b_S_isWithin 13 = .ok (.bipush 16, 2) := by decide +kernel
theorem d_S_isWithin_15 : decode b_S_isWithin 15 = .ok (.imul, 1) := by decide +kernel
theorem d_S_isWithin_16 : decode b_S_isWithin 16 = .ok (.iload_n 3, 1) := by decide +kernel
theorem d_S_isWithin_17 : decode b_S_isWithin 17 = .ok (.iadd, 1) := by decide +kernel
theorem d_S_isWithin_18 : decode b_S_isWithin 18 = .ok (.laload, 1) := by decide +kernel
theorem d_S_isWithin_19 : decode b_S_isWithin 19 = .ok (.aload_n 0, 1) := by decide +kernel
theorem d_S_isWithin_20 : decode b_S_isWithin 20 = .ok (.getfield 11, 3) := by decide +kernel
theorem d_S_isWithin_23 : decode b_S_isWithin 23 = .ok (.iload_n 2, 1) := by decide +kernel
theorem d_S_isWithin_24 : decode b_S_isWithin 24 = .ok (.bipush 16, 2) := by decide +kernel
theorem d_S_isWithin_26 : decode b_S_isWithin 26 = .ok (.imul, 1) := by decide +kernel
theorem d_S_isWithin_27 : decode b_S_isWithin 27 = .ok (.iload_n 3, 1) := by decide +kernel
theorem d_S_isWithin_28 : decode b_S_isWithin 28 = .ok (.iadd, 1) := by decide +kernel
theorem d_S_isWithin_29 : decode b_S_isWithin 29 = .ok (.laload, 1) := by decide +kernel
theorem d_S_isWithin_30 : decode b_S_isWithin 30 = .ok (.ldc2_w 15, 3) := by decide +kernel
theorem d_S_isWithin_33 : decode b_S_isWithin 33 = .ok (.lxor, 1) := by decide +kernel
theorem d_S_isWithin_34 : decode b_S_isWithin 34 = .ok (.land, 1) := by decide +kernel
theorem d_S_isWithin_35 : decode b_S_isWithin 35 = .ok (.lconst 0, 1) := by decide +kernel
theorem d_S_isWithin_36 : decode b_S_isWithin 36 = .ok (.lcmp, 1) := by decide +kernel
theorem d_S_isWithin_37 : decode b_S_isWithin 37 = .ok (.ifCond .eq 5, 3) := by decide +kernel
theorem d_S_isWithin_40 : decode b_S_isWithin 40 = .ok (.iconst 0, 1) := by decide +kernel
theorem d_S_isWithin_41 : decode b_S_isWithin 41 = .ok (.ireturn, 1) := by decide +kernel
theorem d_S_isWithin_42 : decode b_S_isWithin 42 = .ok (.iinc 3 1, 3) := by decide +kernel
theorem d_S_isWithin_45 : decode b_S_isWithin 45 = .ok (.goto (-43), 3) := by decide +kernel
theorem d_S_isWithin_48 : decode b_S_isWithin 48 = .ok (.iconst 1, 1) := by decide +kernel
theorem d_S_isWithin_49 : decode b_S_isWithin 49 = .ok (.ireturn, 1) := by decide +kernel
theorem d_S_contains_0 : decode b_S_contains 0 = .ok (.aload_n 0, 1) := by decide +kernel
theorem d_S_contains_1 : decode b_S_contains 1 = .ok (.getfield 11, 3) := by decide +kernel
theorem d_S_contains_4 : decode b_S_contains 4 = .ok (.iload_n 1, 1) := by decide +kernel
theorem d_S_contains_5 : decode b_S_contains 5 = .ok (.bipush 16, 2) := by decide +kernel
theorem d_S_contains_7 : decode b_S_contains 7 = .ok (.imul, 1) := by decide +kernel
theorem d_S_contains_8 : decode b_S_contains 8 = .ok (.iload_n 2, 1) := by decide +kernel
theorem d_S_contains_9 : decode b_S_contains 9 = .ok (.bipush 64, 2) := by decide +kernel
theorem d_S_contains_11 : decode b_S_contains 11 = .ok (.idiv, 1) := by decide +kernel
theorem d_S_contains_12 : decode b_S_contains 12 = .ok (.iadd, 1) := by decide +kernel
theorem d_S_contains_13 : decode b_S_contains 13 = .ok (.laload, 1) := by decide +kernel
theorem d_S_contains_14 : decode b_S_contains 14 = .ok (.lstore_n 3, 1) := by decide +kernel
theorem d_S_contains_15 : decode b_S_contains 15 = .ok (.lload_n 3, 1) := by decide +kernel
theorem d_S_contains_16 : decode b_S_contains 16 = .ok (.iload_n 2, 1) := by decide +kernel
theorem d_S_contains_17 : decode b_S_contains 17 = .ok (.bipush 64, 2) := by decide +kernel
theorem d_S_contains_19 : decode b_S_contains 19 = .ok (.irem, 1) := by decide +kernel
theorem d_S_contains_20 : decode b_S_contains 20 = .ok (.lushr, 1) := by decide +kernel
theorem d_S_contains_21 : decode b_S_contains 21 = .ok (.lconst 1, 1) := by decide +kernel
theorem d_S_contains_22 : decode b_S_contains 22 = .ok (.land, 1) := by decide +kernel
theorem d_S_contains_23 : decode b_S_contains 23 = .ok (.lconst 1, 1) := by decide +kernel
theorem d_S_contains_24 : decode b_S_contains 24 = .ok (.lcmp, 1) := by decide +kernel
theorem d_S_contains_25 : decode b_S_contains 25 = .ok (.ifCond .ne 7, 3) := by decide +kernel
theorem d_S_contains_28 : decode b_S_contains 28 = .ok (.iconst 1, 1) := by decide +kernel
theorem d_S_contains_29 : decode b_S_contains 29 = .ok (.goto 4, 3) := by decide +kernel
theorem d_S_contains_32 : decode b_S_contains 32 = .ok (.iconst 0, 1) := by decide +kernel
theorem d_S_contains_33 : decode b_S_contains 33 = .ok (.ireturn, 1) := by decide +kernel
theorem d_S_lowest_0 : decode b_S_lowest 0 = .ok (.iconst 0, 1) := by decide +kernel
theorem d_S_lowest_1 : decode b_S_lowest 1 = .ok (.istore_n 2, 1) := by decide +kernel
theorem d_S_lowest_2 : decode b_S_lowest 2 = .ok (.iload_n 2, 1) := by decide +kernel
theorem d_S_lowest_3 : decode b_S_lowest 3 = .ok (.bipush 16, 2) := by decide +kernel
theorem d_S_lowest_5 : decode b_S_lowest 5 = .ok (.if_icmp .ge 37, 3) := by decide +kernel
theorem d_S_lowest_8 : decode b_S_lowest 8 = .ok (.aload_n 0, 1) := by decide +kernel
theorem d_S_lowest_9 : decode b_S_lowest 9 = .ok (.getfield 11, 3) := by decide +kernel
theorem d_S_lowest_12 : decode b_S_lowest 12 = .ok (.iload_n 1, 1) := by decide +kernel
theorem d_S_lowest_13 : decode b_S_lowest 13 = .ok (.bipush 16, 2) := by decide +kernel
theorem d_S_lowest_15 : decode b_S_lowest 15 = .ok (.imul, 1) := by decide +kernel
theorem d_S_lowest_16 : decode b_S_lowest 16 = .ok (.iload_n 2, 1) := by decide +kernel
theorem d_S_lowest_17 : decode b_S_lowest 17 = .ok (.iadd, 1) := by decide +kernel
theorem d_S_lowest_18 : decode b_S_lowest 18 = .ok (.laload, 1) := by decide +kernel
theorem d_S_lowest_19 : decode b_S_lowest 19 = .ok (.lstore_n 3, 1) := by decide +kernel
theorem d_S_lowest_20 : decode b_S_lowest 20 = .ok (.lload_n 3, 1) := by decide +kernel
theorem d_S_lowest_21 : decode b_S_lowest 21 = .ok (.lconst 0, 1) := by decide +kernel
theorem d_S_lowest_22 : decode b_S_lowest 22 = .ok (.lcmp, 1) := by decide +kernel
theorem d_S_lowest_23 : decode b_S_lowest 23 = .ok (.ifCond .eq 13, 3) := by decide +kernel
theorem d_S_lowest_26 : decode b_S_lowest 26 = .ok (.iload_n 2, 1) := by decide +kernel
theorem d_S_lowest_27 : decode b_S_lowest 27 = .ok (.bipush 64, 2) := by decide +kernel
theorem d_S_lowest_29 : decode b_S_lowest 29 = .ok (.imul, 1) := by decide +kernel
theorem d_S_lowest_30 : decode b_S_lowest 30 = .ok (.lload_n 3, 1) := by decide +kernel
theorem d_S_lowest_31 : decode b_S_lowest 31 = .ok (.invokestatic 28, 3) := by decide +kernel
theorem d_S_lowest_34 : decode b_S_lowest 34 = .ok (.iadd, 1) := by decide +kernel
theorem d_S_lowest_35 : decode b_S_lowest 35 = .ok (.ireturn, 1) := by decide +kernel
theorem d_S_lowest_36 : decode b_S_lowest 36 = .ok (.iinc 2 1, 3) := by decide +kernel
theorem d_S_lowest_39 : decode b_S_lowest 39 = .ok (.goto (-37), 3) := by decide +kernel
theorem d_S_lowest_42 : decode b_S_lowest 42 = .ok (.iconst 0, 1) := by decide +kernel
theorem d_S_lowest_43 : decode b_S_lowest 43 = .ok (.ireturn, 1) := by decide +kernel
theorem d_S_lowestOne_0 : decode b_S_lowestOne 0 = .ok (.iconst 0, 1) := by decide +kernel
theorem d_S_lowestOne_1 : decode b_S_lowestOne 1 = .ok (.istore_n 2, 1) := by decide +kernel
theorem d_S_lowestOne_2 : decode b_S_lowestOne 2 = .ok (.iload_n 2, 1) := by decide +kernel
theorem d_S_lowestOne_3 : decode b_S_lowestOne 3 = .ok (.bipush 63, 2) := by decide +kernel
theorem d_S_lowestOne_5 : decode b_S_lowestOne 5 = .ok (.if_icmp .ge 19, 3) := by decide +kernel
theorem d_S_lowestOne_8 : decode b_S_lowestOne 8 = .ok (.lload_n 0, 1) := by decide +kernel
theorem d_S_lowestOne_9 : decode b_S_lowestOne 9 = .ok (.iload_n 2, 1) := by decide +kernel
theorem d_S_lowestOne_10 : decode b_S_lowestOne 10 = .ok (.lushr, 1) := by decide +kernel
theorem d_S_lowestOne_11 : decode b_S_lowestOne 11 = .ok (.lconst 1, 1) := by decide +kernel
theorem d_S_lowestOne_12 : decode b_S_lowestOne 12 = .ok (.land, 1) := by decide +kernel
theorem d_S_lowestOne_13 : decode b_S_lowestOne 13 = .ok (.lconst 0, 1) := by decide +kernel
theorem d_S_lowestOne_14 : decode b_S_lowestOne 14 = .ok (.lcmp, 1) := by decide +kernel
theorem d_S_lowestOne_15 : decode b_S_lowestOne 15 = .ok (.ifCond .ne 9, 3) := by decide +kernel
theorem d_S_lowestOne_18 : decode b_S_lowestOne 18 = .ok (.iinc 2 1, 3) := by decide +kernel
theorem d_S_lowestOne_21 : decode b_S_lowestOne 21 = .ok (.goto (-19), 3) := by decide +kernel
theorem d_S_lowestOne_24 : decode b_S_lowestOne 24 = .ok (.iload_n 2, 1) := by decide +kernel
theorem d_S_lowestOne_25 : decode b_S_lowestOne 25 = .ok (.ireturn, 1) := by decide +kernel
/-! what each instruction is: BitSolver$Circuits -/
theorem d_C_init_0 : decode b_C_init 0 = .ok (.aload_n 0, 1) := by decide +kernel
theorem d_C_init_1 : decode b_C_init 1 = .ok (.invokespecial 3, 3) := by decide +kernel
theorem d_C_init_4 : decode b_C_init 4 = .ok (.aload_n 0, 1) := by decide +kernel
theorem d_C_init_5 : decode b_C_init 5 = .ok (.new 9, 3) := by decide +kernel
theorem d_C_init_8 : decode b_C_init 8 = .ok (.dup, 1) := by decide +kernel
theorem d_C_init_9 : decode b_C_init 9 = .ok (.sipush 260, 3) := by decide +kernel
theorem d_C_init_12 : decode b_C_init 12 = .ok (.invokespecial 11, 3) := by decide +kernel
theorem d_C_init_15 : decode b_C_init 15 = .ok (.putfield 14, 3) := by decide +kernel
theorem d_C_init_18 : decode b_C_init 18 = .ok (.return_, 1) := by decide +kernel
theorem d_C_sum_0 : decode b_C_sum 0 = .ok (.aload_n 0, 1) := by decide +kernel
theorem d_C_sum_1 : decode b_C_sum 1 = .ok (.getfield 14, 3) := by decide +kernel
theorem d_C_sum_4 : decode b_C_sum 4 = .ok (.sipush 257, 3) := by decide +kernel
theorem d_C_sum_7 : decode b_C_sum 7 = .ok (.iconst 1, 1) := by decide +kernel
theorem d_C_sum_8 : decode b_C_sum 8 = .ok (.iconst 0, 1) := by decide +kernel
theorem d_C_sum_9 : decode b_C_sum 9 = .ok (.invokevirtual 20, 3) := by decide +kernel
theorem d_C_sum_12 : decode b_C_sum 12 = .ok (.iconst 0, 1) := by decide +kernel
theorem d_C_sum_13 : decode b_C_sum 13 = .ok (.istore 5, 2) := by decide +kernel
theorem d_C_sum_15 : decode b_C_sum 15 = .ok (.iload 5, 2) := by decide +kernel
theorem d_C_sum_17 : decode b_C_sum 17 = .ok (.iload 4, 2) := by decide +kernel
theorem d_C_sum_19 : decode b_C_sum 19 = .ok (.if_icmp .ge 25, 3) := by decide +kernel
theorem d_C_sum_22 : decode b_C_sum 22 = .ok (.aload_n 0, 1) := by decide +kernel
theorem d_C_sum_23 : decode b_C_sum 23 = .ok (.iload_n 1, 1) := by decide +kernel
theorem d_C_sum_24 : decode b_C_sum 24 = .ok (.iload 5, 2) := by decide +kernel
theorem d_C_sum_26 : decode b_C_sum 26 = .ok (.iadd, 1) := by decide +kernel
theorem d_C_sum_27 : decode b_C_sum 27 = .ok (.iload_n 2, 1) := by decide +kernel
theorem d_C_sum_28 : decode b_C_sum 28 = .ok (.iload 5, 2) := by decide +kernel
theorem d_C_sum_30 : decode b_C_sum 30 = .ok (.iadd, 1) := by decide +kernel
theorem d_C_sum_31 : decode b_C_sum 31 = .ok (.iload_n 3, 1) := by decide +kernel
theorem d_C_sum_32 : decode b_C_sum 32 = .ok (.iload 5, 2) := by decide +kernel
theorem d_C_sum_34 : decode b_C_sum 34 = .ok (.iadd, 1) := by decide +kernel
theorem d_C_sum_35 : decode b_C_sum 35 = .ok (.invokevirtual 24, 3) := by decide +kernel
theorem d_C_sum_38 : decode b_C_sum 38 = .ok (.iinc 5 1, 3) := by decide +kernel
theorem d_C_sum_41 : decode b_C_sum 41 = .ok (.goto (-26), 3) := by decide +kernel
theorem d_C_sum_44 : decode b_C_sum 44 = .ok (.return_, 1) := by decide +kernel
theorem d_C_difference_0 : decode b_C_difference 0 = .ok (.aload_n 0, 1) := by decide +kernel
theorem d_C_difference_1 : decode b_C_difference 1 = .ok (.getfield 14, 3) := by decide +kernel
theorem d_C_difference_4 : decode b_C_difference 4 = .ok (.sipush 257, 3) := by decide +kernel
theorem d_C_difference_7 : decode b_C_difference 7 = .ok (.iconst 1, 1) := by decide +kernel
theorem d_C_difference_8 : decode b_C_difference 8 = .ok (.iconst 1, 1) := by decide +kernel
theorem d_C_difference_9 : decode b_C_difference 9 = .ok (.invokevirtual 20, 3) := by decide +kernel
theorem d_C_difference_12 : decode b_C_difference 12 = .ok (.iconst 0, 1) := by decide +kernel
theorem d_C_difference_13 : decode b_C_difference 13 = .ok (.istore 5, 2) := by decide +kernel
theorem d_C_difference_15 : decode b_C_difference 15 = .ok (.iload 5, 2) := by decide +kernel
theorem d_C_difference_17 : decode b_C_difference 17 = .ok (.iload 4, 2) := by decide +kernel
theorem d_C_difference_19 : decode b_C_difference 19 = .ok (.if_icmp .ge 39, 3) := by decide +kernel
theorem d_C_difference_22 : decode b_C_difference 22 = .ok (.aload_n 0, 1) := by decide +kernel
theorem d_C_difference_23 : decode b_C_difference 23 = .ok (.getfield 14, 3) := by decide +kernel
theorem d_C_difference_26 : decode b_C_difference 26 = .ok (.sipush 256, 3) := by decide +kernel
theorem d_C_difference_29 : decode b_C_difference 29 = .ok (.iload_n 3, 1) := by decide +kernel
theorem d_C_difference_30 : decode b_C_difference 30 = .ok (.iload 5, 2) := by decide +kernel
theorem d_C_difference_32 : decode b_C_difference 32 = .ok (.iadd, 1) := by decide +kernel
theorem d_C_difference_33 : decode b_C_difference 33 = .ok (.iconst 1, 1) := by decide +kernel
theorem d_C_difference_34 : decode b_C_difference 34 = .ok (.invokevirtual 28, 3) := by decide +kernel
theorem d_C_difference_37 : decode b_C_difference 37 = .ok (.aload_n 0, 1) := by decide +kernel
theorem d_C_difference_38 : decode b_C_difference 38 = .ok (.iload_n 1, 1) := by decide +kernel
theorem d_C_difference_39 : decode b_C_difference 39 = .ok (.iload 5, 2) := by decide +kernel
theorem d_C_difference_41 : decode b_C_difference 41 = .ok (.iadd, 1) := by decide +kernel
theorem d_C_difference_42 : decode b_C_difference 42 = .ok (.iload_n 2, 1) := by decide +kernel
theorem d_C_difference_43 : decode b_C_difference 43 = .ok (.iload 5, 2) := by decide +kernel
theorem d_C_difference_45 : decode b_C_difference 45 = .ok (.iadd, 1) := by decide +kernel
theorem d_C_difference_46 : decode b_C_difference 46 = .ok (.sipush 256, 3) := by decide +kernel
theorem d_C_difference_49 : decode b_C_difference 49 = .ok (.invokevirtual 24, 3) := by decide +kernel
theorem d_C_difference_52 : decode b_C_difference 52 = .ok (.iinc 5 1, 3) := by decide +kernel
theorem d_C_difference_55 : decode b_C_difference 55 = .ok (.goto (-40), 3) := by decide +kernel
theorem d_C_difference_58 : decode b_C_difference 58 = .ok (.return_, 1) := by decide +kernel
theorem d_C_product_0 : decode b_C_product 0 = .ok (.aload_n 0, 1) := by decide +kernel
theorem d_C_product_1 : decode b_C_product 1 = .ok (.getfield 14, 3) := by decide +kernel
theorem d_C_product_4 : decode b_C_product 4 = .ok (.iload_n 1, 1) := by decide +kernel
theorem d_C_product_5 : decode b_C_product 5 = .ok (.iload 4, 2) := by decide +kernel
theorem d_C_product_7 : decode b_C_product 7 = .ok (.iconst 0, 1) := by decide +kernel
theorem d_C_product_8 : decode b_C_product 8 = .ok (.invokevirtual 20, 3) := by decide +kernel
theorem d_C_product_11 : decode b_C_product 11 = .ok (.iconst 0, 1) := by decide +kernel
theorem d_C_product_12 : decode b_C_product 12 = .ok (.istore 5, 2) := by decide +kernel
theorem d_C_product_14 : decode b_C_product 14 = .ok (.iload 5, 2) := by decide +kernel
theorem d_C_product_16 : decode b_C_product 16 = .ok (.iload 4, 2) := by decide +kernel
theorem d_C_product_18 : decode b_C_product 18 = .ok (.if_icmp .ge 75, 3) := by decide +kernel
theorem d_C_product_21 : decode b_C_product 21 = .ok (.aload_n 0, 1) := by decide +kernel
theorem d_C_product_22 : decode b_C_product 22 = .ok (.getfield 14, 3) := by decide +kernel
theorem d_C_product_25 : decode b_C_product 25 = .ok (.sipush 257, 3) := by decide +kernel
theorem d_C_product_28 : decode b_C_product 28 = .ok (.iconst 1, 1) := by decide +kernel
theorem d_C_product_29 : decode b_C_product 29 = .ok (.iconst 0, 1) := by decide +kernel
theorem d_C_product_30 : decode b_C_product 30 = .ok (.invokevirtual 20, 3) := by decide +kernel
theorem d_C_product_33 : decode b_C_product 33 = .ok (.iload 5, 2) := by decide +kernel
theorem d_C_product_35 : decode b_C_product 35 = .ok (.istore 6, 2) := by decide +kernel
theorem d_C_product_37 : decode b_C_product 37 = .ok (.iload 6, 2) := by decide +kernel
theorem d_C_product_39 : decode b_C_product 39 = .ok (.iload 4, 2) := by decide +kernel
theorem d_C_product_41 : decode b_C_product 41 = .ok (.if_icmp .ge 46, 3) := by decide +kernel
theorem d_C_product_44 : decode b_C_product 44 = .ok (.aload_n 0, 1) := by decide +kernel
theorem d_C_product_45 : decode b_C_product 45 = .ok (.getfield 14, 3) := by decide +kernel
theorem d_C_product_48 : decode b_C_product 48 = .ok (.sipush 256, 3) := by decide +kernel
theorem d_C_product_51 : decode b_C_product 51 = .ok (.iload_n 2, 1) := by decide +kernel
theorem d_C_product_52 : decode b_C_product 52 = .ok (.iload 6, 2) := by decide +kernel
theorem d_C_product_54 : decode b_C_product 54 = .ok (.iadd, 1) := by decide +kernel
theorem d_C_product_55 : decode b_C_product 55 = .ok (.iload 5, 2) := by decide +kernel
theorem d_C_product_57 : decode b_C_product 57 = .ok (.isub, 1) := by decide +kernel
theorem d_C_product_58 : decode b_C_product 58 = .ok (.iload_n 3, 1) := by decide +kernel
theorem d_C_product_59 : decode b_C_product 59 = .ok (.iload 5, 2) := by decide +kernel
theorem d_C_product_61 : decode b_C_product 61 = .ok (.iadd, 1) := by decide +kernel
theorem d_C_product_62 : decode b_C_product 62 = .ok (.iconst 1, 1) := by decide +kernel
theorem d_C_product_63 : decode b_C_product 63 = .ok (.invokevirtual 31, 3) := by decide +kernel
theorem d_C_product_66 : decode b_C_product 66 = .ok (.aload_n 0, 1) := by decide +kernel
theorem d_C_product_67 : decode b_C_product 67 = .ok (.iload_n 1, 1) := by decide +kernel
theorem d_C_product_68 : decode b_C_product 68 = .ok (.iload 6, 2) := by decide +kernel
theorem d_C_product_70 : decode b_C_product 70 = .ok (.iadd, 1) := by decide +kernel
theorem d_C_product_71 : decode b_C_product 71 = .ok (.iload_n 1, 1) := by decide +kernel
theorem d_C_product_72 : decode b_C_product 72 = .ok (.iload 6, 2) := by decide +kernel
theorem d_C_product_74 : decode b_C_product 74 = .ok (.iadd, 1) := by decide +kernel
theorem d_C_product_75 : decode b_C_product 75 = .ok (.sipush 256, 3) := by decide +kernel
theorem d_C_product_78 : decode b_C_product 78 = .ok (.invokevirtual 24, 3) := by decide +kernel
theorem d_C_product_81 : decode b_C_product 81 = .ok (.iinc 6 1, 3) := by decide +kernel
theorem d_C_product_84 : decode b_C_product 84 = .ok (.goto (-47), 3) := by decide +kernel
theorem d_C_product_87 : decode b_C_product 87 = .ok (.iinc 5 1, 3) := by decide +kernel
theorem d_C_product_90 : decode b_C_product 90 = .ok (.goto (-76), 3) := by decide +kernel
theorem d_C_product_93 : decode b_C_product 93 = .ok (.return_, 1) := by decide +kernel
theorem d_C_addBit_0 : decode b_C_addBit 0 = .ok (.aload_n 0, 1) := by decide +kernel
theorem d_C_addBit_1 : decode b_C_addBit 1 = .ok (.getfield 14, 3) := by decide +kernel
theorem d_C_addBit_4 : decode b_C_addBit 4 = .ok (.sipush 258, 3) := by decide +kernel
theorem d_C_addBit_7 : decode b_C_addBit 7 = .ok (.iload_n 2, 1) := by decide +kernel
theorem d_C_addBit_8 : decode b_C_addBit 8 = .ok (.iload_n 3, 1) := by decide +kernel
theorem d_C_addBit_9 : decode b_C_addBit 9 = .ok (.iconst 1, 1) := by decide +kernel
theorem d_C_addBit_10 : decode b_C_addBit 10 = .ok (.invokevirtual 35, 3) := by decide +kernel
theorem d_C_addBit_13 : decode b_C_addBit 13 = .ok (.aload_n 0, 1) := by decide +kernel
theorem d_C_addBit_14 : decode b_C_addBit 14 = .ok (.getfield 14, 3) := by decide +kernel
theorem d_C_addBit_17 : decode b_C_addBit 17 = .ok (.sipush 259, 3) := by decide +kernel
theorem d_C_addBit_20 : decode b_C_addBit 20 = .ok (.iload_n 2, 1) := by decide +kernel
theorem d_C_addBit_21 : decode b_C_addBit 21 = .ok (.iload_n 3, 1) := by decide +kernel
theorem d_C_addBit_22 : decode b_C_addBit 22 = .ok (.iconst 1, 1) := by decide +kernel
theorem d_C_addBit_23 : decode b_C_addBit 23 = .ok (.invokevirtual 31, 3) := by decide +kernel
theorem d_C_addBit_26 : decode b_C_addBit 26 = .ok (.aload_n 0, 1) := by decide +kernel
theorem d_C_addBit_27 : decode b_C_addBit 27 = .ok (.getfield 14, 3) := by decide +kernel
theorem d_C_addBit_30 : decode b_C_addBit 30 = .ok (.iload_n 1, 1) := by decide +kernel
theorem d_C_addBit_31 : decode b_C_addBit 31 = .ok (.sipush 258, 3) := by decide +kernel
theorem d_C_addBit_34 : decode b_C_addBit 34 = .ok (.sipush 257, 3) := by decide +kernel
theorem d_C_addBit_37 : decode b_C_addBit 37 = .ok (.iconst 1, 1) := by decide +kernel
theorem d_C_addBit_38 : decode b_C_addBit 38 = .ok (.invokevirtual 35, 3) := by decide +kernel
theorem d_C_addBit_41 : decode b_C_addBit 41 = .ok (.aload_n 0, 1) := by decide +kernel
theorem d_C_addBit_42 : decode b_C_addBit 42 = .ok (.getfield 14, 3) := by decide +kernel
theorem d_C_addBit_45 : decode b_C_addBit 45 = .ok (.sipush 257, 3) := by decide +kernel
theorem d_C_addBit_48 : decode b_C_addBit 48 = .ok (.sipush 257, 3) := by decide +kernel
theorem d_C_addBit_51 : decode b_C_addBit 51 = .ok (.sipush 258, 3) := by decide +kernel
theorem d_C_addBit_54 : decode b_C_addBit 54 = .ok (.iconst 1, 1) := by decide +kernel
theorem d_C_addBit_55 : decode b_C_addBit 55 = .ok (.invokevirtual 31, 3) := by decide +kernel
theorem d_C_addBit_58 : decode b_C_addBit 58 = .ok (.aload_n 0, 1) := by decide +kernel
theorem d_C_addBit_59 : decode b_C_addBit 59 = .ok (.getfield 14, 3) := by decide +kernel
theorem d_C_addBit_62 : decode b_C_addBit 62 = .ok (.sipush 257, 3) := by decide +kernel
theorem d_C_addBit_65 : decode b_C_addBit 65 = .ok (.sipush 257, 3) := by decide +kernel
theorem d_C_addBit_68 : decode b_C_addBit 68 = .ok (.sipush 259, 3) := by decide +kernel
theorem d_C_addBit_71 : decode b_C_addBit 71 = .ok (.iconst 1, 1) := by decide +kernel
theorem d_C_addBit_72 : decode b_C_addBit 72 = .ok (.invokevirtual 38, 3) := by decide +kernel
theorem d_C_addBit_75 : decode b_C_addBit 75 = .ok (.return_, 1) := by decide +kernel
theorem d_C_moveUp_0 : decode b_C_moveUp 0 = .ok (.iconst 0, 1) := by decide +kernel
theorem d_C_moveUp_1 : decode b_C_moveUp 1 = .ok (.istore 5, 2) := by decide +kernel
theorem d_C_moveUp_3 : decode b_C_moveUp 3 = .ok (.iload 5, 2) := by decide +kernel
theorem d_C_moveUp_5 : decode b_C_moveUp 5 = .ok (.iload_n 3, 1) := by decide +kernel
theorem d_C_moveUp_6 : decode b_C_moveUp 6 = .ok (.if_icmp .ge 51, 3) := by decide +kernel
theorem d_C_moveUp_9 : decode b_C_moveUp 9 = .ok (.iload 5, 2) := by decide +kernel
theorem d_C_moveUp_11 : decode b_C_moveUp 11 = .ok (.iload 4, 2) := by decide +kernel
theorem d_C_moveUp_13 : decode b_C_moveUp 13 = .ok (.if_icmp .ge 19, 3) := by decide +kernel
theorem d_C_moveUp_16 : decode b_C_moveUp 16 = .ok (.aload_n 0, 1) := by decide +kernel
theorem d_C_moveUp_17 : decode b_C_moveUp 17 = .ok (.getfield 14, 3) := by decide +kernel
theorem d_C_moveUp_20 : decode b_C_moveUp 20 = .ok (.iload_n 1, 1) := by decide +kernel
theorem d_C_moveUp_21 : decode b_C_moveUp 21 = .ok (.iload 5, 2) := by decide +kernel
theorem d_C_moveUp_23 : decode b_C_moveUp 23 = .ok (.iadd, 1) := by decide +kernel
theorem d_C_moveUp_24 : decode b_C_moveUp 24 = .ok (.iconst 1, 1) := by decide +kernel
theorem d_C_moveUp_25 : decode b_C_moveUp 25 = .ok (.iconst 0, 1) := by decide +kernel
theorem d_C_moveUp_26 : decode b_C_moveUp 26 = .ok (.invokevirtual 20, 3) := by decide +kernel
theorem d_C_moveUp_29 : decode b_C_moveUp 29 = .ok (.goto 22, 3) := by decide +kernel
theorem d_C_moveUp_32 : decode b_C_moveUp 32 = .ok (.aload_n 0, 1) := by decide +kernel
theorem d_C_moveUp_33 : decode b_C_moveUp 33 = .ok (.getfield 14, 3) := by decide +kernel
theorem d_C_moveUp_36 : decode b_C_moveUp 36 = .ok (.iload_n 1, 1) := by decide +kernel
theorem d_C_moveUp_37 : decode b_C_moveUp 37 = .ok (.iload 5, 2) := by decide +kernel
theorem d_C_moveUp_39 : decode b_C_moveUp 39 = .ok (.iadd, 1) := by decide +kernel
theorem d_C_moveUp_40 : decode b_C_moveUp 40 = .ok (.iload_n 2, 1) := by decide +kernel
theorem d_C_moveUp_41 : decode b_C_moveUp 41 = .ok (.iload 5, 2) := by decide +kernel
theorem d_C_moveUp_43 : decode b_C_moveUp 43 = .ok (.iadd, 1) := by decide +kernel
theorem d_C_moveUp_44 : decode b_C_moveUp 44 = .ok (.iload 4, 2) := by decide +kernel
theorem d_C_moveUp_46 : decode b_C_moveUp 46 = .ok (.isub, 1) := by decide +kernel
theorem d_C_moveUp_47 : decode b_C_moveUp 47 = .ok (.iconst 1, 1) := by decide +kernel
theorem d_C_moveUp_48 : decode b_C_moveUp 48 = .ok (.invokevirtual 41, 3) := by decide +kernel
theorem d_C_moveUp_51 : decode b_C_moveUp 51 = .ok (.iinc 5 1, 3) := by decide +kernel
theorem d_C_moveUp_54 : decode b_C_moveUp 54 = .ok (.goto (-51), 3) := by decide +kernel
theorem d_C_moveUp_57 : decode b_C_moveUp 57 = .ok (.return_, 1) := by decide +kernel
theorem d_C_moveDown_0 : decode b_C_moveDown 0 = .ok (.iconst 0, 1) := by decide +kernel
theorem d_C_moveDown_1 : decode b_C_moveDown 1 = .ok (.istore 6, 2) := by decide +kernel
theorem d_C_moveDown_3 : decode b_C_moveDown 3 = .ok (.iload 6, 2) := by decide +kernel
theorem d_C_moveDown_5 : decode b_C_moveDown 5 = .ok (.iload_n 3, 1) := by decide +kernel
theorem d_C_moveDown_6 : decode b_C_moveDown 6 = .ok (.if_icmp .ge 78, 3) := by decide +kernel
theorem d_C_moveDown_9 : decode b_C_moveDown 9 = .ok (.iload 6, 2) := by decide +kernel
theorem d_C_moveDown_11 : decode b_C_moveDown 11 = .ok (.iload 4, 2) := by decide +kernel
theorem d_C_moveDown_13 : decode b_C_moveDown 13 = .ok (.iadd, 1) := by decide +kernel
theorem d_C_moveDown_14 : decode b_C_moveDown 14 = .ok (.iload_n 3, 1) := by decide +kernel
theorem d_C_moveDown_15 : decode b_C_moveDown 15 = .ok (.if_icmp .ge 25, 3) := by decide +kernel
theorem d_C_moveDown_18 : decode b_C_moveDown 18 = .ok (.aload_n 0, 1) := by decide +kernel
theorem d_C_moveDown_19 : decode b_C_moveDown 19 = .ok (.getfield 14, 3) := by decide +kernel
theorem d_C_moveDown_22 : decode b_C_moveDown 22 = .ok (.iload_n 1, 1) := by decide +kernel
theorem d_C_moveDown_23 : decode b_C_moveDown 23 = .ok (.iload 6, 2) := by decide +kernel
theorem d_C_moveDown_25 : decode b_C_moveDown 25 = .ok (.iadd, 1) := by decide +kernel
theorem d_C_moveDown_26 : decode b_C_moveDown 26 = .ok (.iload_n 2, 1) := by decide +kernel
theorem d_C_moveDown_27 : decode b_C_moveDown 27 = .ok (.iload 6, 2) := by decide +kernel
theorem d_C_moveDown_29 : decode b_C_moveDown 29 = .ok (.iadd, 1) := by decide +kernel
theorem d_C_moveDown_30 : decode b_C_moveDown 30 = .ok (.iload 4, 2) := by decide +kernel
theorem d_C_moveDown_32 : decode b_C_moveDown 32 = .ok (.iadd, 1) := by decide +kernel
theorem d_C_moveDown_33 : decode b_C_moveDown 33 = .ok (.iconst 1, 1) := by decide +kernel
theorem d_C_moveDown_34 : decode b_C_moveDown 34 = .ok (.invokevirtual 41, 3) := by decide +kernel
theorem d_C_moveDown_37 : decode b_C_moveDown 37 = .ok (.goto 41, 3) := by decide +kernel
theorem d_C_moveDown_40 : decode b_C_moveDown 40 = .ok (.iload 5, 2) := by decide +kernel
theorem d_C_moveDown_42 : decode b_C_moveDown 42 = .ok (.ifCond .eq 23, 3) := by decide +kernel
theorem d_C_moveDown_45 : decode b_C_moveDown 45 = .ok (.aload_n 0, 1) := by decide +kernel
theorem d_C_moveDown_46 : decode b_C_moveDown 46 = .ok (.getfield 14, 3) := by decide +kernel
theorem d_C_moveDown_49 : decode b_C_moveDown 49 = .ok (.iload_n 1, 1) := by decide +kernel
theorem d_C_moveDown_50 : decode b_C_moveDown 50 = .ok (.iload 6, 2) := by decide +kernel
theorem d_C_moveDown_52 : decode b_C_moveDown 52 = .ok (.iadd, 1) := by decide +kernel
theorem d_C_moveDown_53 : decode b_C_moveDown 53 = .ok (.iload_n 2, 1) := by decide +kernel
theorem d_C_moveDown_54 : decode b_C_moveDown 54 = .ok (.iload_n 3, 1) := by decide +kernel
theorem d_C_moveDown_55 : decode b_C_moveDown 55 = .ok (.iadd, 1) := by decide +kernel
theorem d_C_moveDown_56 : decode b_C_moveDown 56 = .ok (.iconst 1, 1) := by decide +kernel
theorem d_C_moveDown_57 : decode b_C_moveDown 57 = .ok (.isub, 1) := by decide +kernel
theorem d_C_moveDown_58 : decode b_C_moveDown 58 = .ok (.iconst 1, 1) := by decide +kernel
theorem d_C_moveDown_59 : decode b_C_moveDown 59 = .ok (.invokevirtual 41, 3) := by decide +kernel
theorem d_C_moveDown_62 : decode b_C_moveDown 62 = .ok (.goto 16, 3) := by decide +kernel
theorem d_C_moveDown_65 : decode b_C_moveDown 65 = .ok (.aload_n 0, 1) := by decide +kernel
theorem d_C_moveDown_66 : decode b_C_moveDown 66 = .ok (.getfield 14, 3) := by decide +kernel
theorem d_C_moveDown_69 : decode b_C_moveDown 69 = .ok (.iload_n 1, 1) := by decide +kernel
theorem d_C_moveDown_70 : decode b_C_moveDown 70 = .ok (.iload 6, 2) := by decide +kernel
theorem d_C_moveDown_72 : decode b_C_moveDown 72 = .ok (.iadd, 1) := by decide +kernel
theorem d_C_moveDown_73 : decode b_C_moveDown 73 = .ok (.iconst 1, 1) := by decide +kernel
theorem d_C_moveDown_74 : decode b_C_moveDown 74 = .ok (.iconst 0, 1) := by decide +kernel
theorem d_C_moveDown_75 : decode b_C_moveDown 75 = .ok (.invokevirtual 20, 3) := by decide +kernel
theorem d_C_moveDown_78 : decode b_C_moveDown 78 = .ok (.iinc 6 1, 3) := by decide +kernel
theorem d_C_moveDown_81 : decode b_C_moveDown 81 = .ok (.goto (-78), 3) := by decide +kernel
theorem d_C_moveDown_84 : decode b_C_moveDown 84 = .ok (.return_, 1) := by decide +kernel
theorem d_C_choice_0 : decode b_C_choice 0 = .ok (.iconst 0, 1) := by decide +kernel
theorem d_C_choice_1 : decode b_C_choice 1 = .ok (.istore 6, 2) := by decide +kernel
theorem d_C_choice_3 : decode b_C_choice 3 = .ok (.iload 6, 2) := by decide +kernel
theorem d_C_choice_5 : decode b_C_choice 5 = .ok (.iload 5, 2) := by decide +kernel
theorem d_C_choice_7 : decode b_C_choice 7 = .ok (.if_icmp .ge 30, 3) := by decide +kernel
theorem d_C_choice_10 : decode b_C_choice 10 = .ok (.aload_n 0, 1) := by decide +kernel
theorem d_C_choice_11 : decode b_C_choice 11 = .ok (.getfield 14, 3) := by decide +kernel
theorem d_C_choice_14 : decode b_C_choice 14 = .ok (.iload_n 1, 1) := by decide +kernel
theorem d_C_choice_15 : decode b_C_choice 15 = .ok (.iload 6, 2) := by decide +kernel
theorem d_C_choice_17 : decode b_C_choice 17 = .ok (.iadd, 1) := by decide +kernel
theorem d_C_choice_18 : decode b_C_choice 18 = .ok (.iload_n 2, 1) := by decide +kernel
theorem d_C_choice_19 : decode b_C_choice 19 = .ok (.iload_n 3, 1) := by decide +kernel
theorem d_C_choice_20 : decode b_C_choice 20 = .ok (.iload 6, 2) := by decide +kernel
theorem d_C_choice_22 : decode b_C_choice 22 = .ok (.iadd, 1) := by decide +kernel
theorem d_C_choice_23 : decode b_C_choice 23 = .ok (.iload 4, 2) := by decide +kernel
theorem d_C_choice_25 : decode b_C_choice 25 = .ok (.iload 6, 2) := by decide +kernel
theorem d_C_choice_27 : decode b_C_choice 27 = .ok (.iadd, 1) := by decide +kernel
theorem d_C_choice_28 : decode b_C_choice 28 = .ok (.invokevirtual 44, 3) := by decide +kernel
theorem d_C_choice_31 : decode b_C_choice 31 = .ok (.iinc 6 1, 3) := by decide +kernel
theorem d_C_choice_34 : decode b_C_choice 34 = .ok (.goto (-31), 3) := by decide +kernel
theorem d_C_choice_37 : decode b_C_choice 37 = .ok (.return_, 1) := by decide +kernel
theorem d_C_equal_0 : decode b_C_equal 0 = .ok (.aload_n 0, 1) := by decide +kernel
theorem d_C_equal_1 : decode b_C_equal 1 = .ok (.getfield 14, 3) := by decide +kernel
theorem d_C_equal_4 : decode b_C_equal 4 = .ok (.iload_n 1, 1) := by decide +kernel
theorem d_C_equal_5 : decode b_C_equal 5 = .ok (.iconst 1, 1) := by decide +kernel
theorem d_C_equal_6 : decode b_C_equal 6 = .ok (.iconst 1, 1) := by decide +kernel
theorem d_C_equal_7 : decode b_C_equal 7 = .ok (.invokevirtual 20, 3) := by decide +kernel
theorem d_C_equal_10 : decode b_C_equal 10 = .ok (.iconst 0, 1) := by decide +kernel
theorem d_C_equal_11 : decode b_C_equal 11 = .ok (.istore 5, 2) := by decide +kernel
theorem d_C_equal_13 : decode b_C_equal 13 = .ok (.iload 5, 2) := by decide +kernel
theorem d_C_equal_15 : decode b_C_equal 15 = .ok (.iload 4, 2) := by decide +kernel
theorem d_C_equal_17 : decode b_C_equal 17 = .ok (.if_icmp .ge 39, 3) := by decide +kernel
theorem d_C_equal_20 : decode b_C_equal 20 = .ok (.aload_n 0, 1) := by decide +kernel
theorem d_C_equal_21 : decode b_C_equal 21 = .ok (.getfield 14, 3) := by decide +kernel
theorem d_C_equal_24 : decode b_C_equal 24 = .ok (.sipush 256, 3) := by decide +kernel
theorem d_C_equal_27 : decode b_C_equal 27 = .ok (.iload_n 2, 1) := by decide +kernel
theorem d_C_equal_28 : decode b_C_equal 28 = .ok (.iload 5, 2) := by decide +kernel
theorem d_C_equal_30 : decode b_C_equal 30 = .ok (.iadd, 1) := by decide +kernel
theorem d_C_equal_31 : decode b_C_equal 31 = .ok (.iload_n 3, 1) := by decide +kernel
theorem d_C_equal_32 : decode b_C_equal 32 = .ok (.iload 5, 2) := by decide +kernel
theorem d_C_equal_34 : decode b_C_equal 34 = .ok (.iadd, 1) := by decide +kernel
theorem d_C_equal_35 : decode b_C_equal 35 = .ok (.iconst 1, 1) := by decide +kernel
theorem d_C_equal_36 : decode b_C_equal 36 = .ok (.invokevirtual 35, 3) := by decide +kernel
theorem d_C_equal_39 : decode b_C_equal 39 = .ok (.aload_n 0, 1) := by decide +kernel
theorem d_C_equal_40 : decode b_C_equal 40 = .ok (.getfield 14, 3) := by decide +kernel
theorem d_C_equal_43 : decode b_C_equal 43 = .ok (.iload_n 1, 1) := by decide +kernel
theorem d_C_equal_44 : decode b_C_equal 44 = .ok (.sipush 256, 3) := by decide +kernel
theorem d_C_equal_47 : decode b_C_equal 47 = .ok (.invokevirtual 47, 3) := by decide +kernel
theorem d_C_equal_50 : decode b_C_equal 50 = .ok (.iinc 5 1, 3) := by decide +kernel
theorem d_C_equal_53 : decode b_C_equal 53 = .ok (.goto (-40), 3) := by decide +kernel
theorem d_C_equal_56 : decode b_C_equal 56 = .ok (.return_, 1) := by decide +kernel
theorem d_C_less_0 : decode b_C_less 0 = .ok (.aload_n 0, 1) := by decide +kernel
theorem d_C_less_1 : decode b_C_less 1 = .ok (.getfield 14, 3) := by decide +kernel
theorem d_C_less_4 : decode b_C_less 4 = .ok (.iload_n 1, 1) := by decide +kernel
theorem d_C_less_5 : decode b_C_less 5 = .ok (.iconst 1, 1) := by decide +kernel
theorem d_C_less_6 : decode b_C_less 6 = .ok (.iconst 0, 1) := by decide +kernel
theorem d_C_less_7 : decode b_C_less 7 = .ok (.invokevirtual 20, 3) := by decide +kernel
theorem d_C_less_10 : decode b_C_less 10 = .ok (.iconst 0, 1) := by decide +kernel
theorem d_C_less_11 : decode b_C_less 11 = .ok (.istore 6, 2) := by decide +kernel
theorem d_C_less_13 : decode b_C_less 13 = .ok (.iload 6, 2) := by decide +kernel
theorem d_C_less_15 : decode b_C_less 15 = .ok (.iload 4, 2) := by decide +kernel
theorem d_C_less_17 : decode b_C_less 17 = .ok (.if_icmp .ge 77, 3) := by decide +kernel
theorem d_C_less_20 : decode b_C_less 20 = .ok (.aload_n 0, 1) := by decide +kernel
theorem d_C_less_21 : decode b_C_less 21 = .ok (.getfield 14, 3) := by decide +kernel
theorem d_C_less_24 : decode b_C_less 24 = .ok (.sipush 256, 3) := by decide +kernel
theorem d_C_less_27 : decode b_C_less 27 = .ok (.iload_n 2, 1) := by decide +kernel
theorem d_C_less_28 : decode b_C_less 28 = .ok (.iload 6, 2) := by decide +kernel
theorem d_C_less_30 : decode b_C_less 30 = .ok (.iadd, 1) := by decide +kernel
theorem d_C_less_31 : decode b_C_less 31 = .ok (.iload_n 3, 1) := by decide +kernel
theorem d_C_less_32 : decode b_C_less 32 = .ok (.iload 6, 2) := by decide +kernel
theorem d_C_less_34 : decode b_C_less 34 = .ok (.iadd, 1) := by decide +kernel
theorem d_C_less_35 : decode b_C_less 35 = .ok (.iconst 1, 1) := by decide +kernel
theorem d_C_less_36 : decode b_C_less 36 = .ok (.invokevirtual 35, 3) := by decide +kernel
theorem d_C_less_39 : decode b_C_less 39 = .ok (.iload 5, 2) := by decide +kernel
theorem d_C_less_41 : decode b_C_less 41 = .ok (.ifCond .eq 16, 3) := by decide +kernel
theorem d_C_less_44 : decode b_C_less 44 = .ok (.iload 6, 2) := by decide +kernel
theorem d_C_less_46 : decode b_C_less 46 = .ok (.iload 4, 2) := by decide +kernel
theorem d_C_less_48 : decode b_C_less 48 = .ok (.iconst 1, 1) := by decide +kernel
theorem d_C_less_49 : decode b_C_less 49 = .ok (.isub, 1) := by decide +kernel
theorem d_C_less_50 : decode b_C_less 50 = .ok (.if_icmp .ne 7, 3) := by decide +kernel
theorem d_C_less_53 : decode b_C_less 53 = .ok (.iconst 1, 1) := by decide +kernel
theorem d_C_less_54 : decode b_C_less 54 = .ok (.goto 4, 3) := by decide +kernel
theorem d_C_less_57 : decode b_C_less 57 = .ok (.iconst 0, 1) := by decide +kernel
theorem d_C_less_58 : decode b_C_less 58 = .ok (.istore 7, 2) := by decide +kernel
theorem d_C_less_60 : decode b_C_less 60 = .ok (.aload_n 0, 1) := by decide +kernel
theorem d_C_less_61 : decode b_C_less 61 = .ok (.getfield 14, 3) := by decide +kernel
theorem d_C_less_64 : decode b_C_less 64 = .ok (.iload_n 1, 1) := by decide +kernel
theorem d_C_less_65 : decode b_C_less 65 = .ok (.sipush 256, 3) := by decide +kernel
theorem d_C_less_68 : decode b_C_less 68 = .ok (.iload 7, 2) := by decide +kernel
theorem d_C_less_70 : decode b_C_less 70 = .ok (.ifCond .eq 10, 3) := by decide +kernel
theorem d_C_less_73 : decode b_C_less 73 = .ok (.iload_n 2, 1) := by decide +kernel
theorem d_C_less_74 : decode b_C_less 74 = .ok (.iload 6, 2) := by decide +kernel
theorem d_C_less_76 : decode b_C_less 76 = .ok (.iadd, 1) := by decide +kernel
theorem d_C_less_77 : decode b_C_less 77 = .ok (.goto 7, 3) := by decide +kernel
theorem d_C_less_80 : decode b_C_less 80 = .ok (.iload_n 3, 1) := by decide +kernel
theorem d_C_less_81 : decode b_C_less 81 = .ok (.iload 6, 2) := by decide +kernel
theorem d_C_less_83 : decode b_C_less 83 = .ok (.iadd, 1) := by decide +kernel
theorem d_C_less_84 : decode b_C_less 84 = .ok (.iload_n 1, 1) := by decide +kernel
theorem d_C_less_85 : decode b_C_less 85 = .ok (.invokevirtual 44, 3) := by decide +kernel
theorem d_C_less_88 : decode b_C_less 88 = .ok (.iinc 6 1, 3) := by decide +kernel
theorem d_C_less_91 : decode b_C_less 91 = .ok (.goto (-78), 3) := by decide +kernel
theorem d_C_less_94 : decode b_C_less 94 = .ok (.return_, 1) := by decide +kernel
theorem d_C_atMost_0 : decode b_C_atMost 0 = .ok (.aload_n 0, 1) := by decide +kernel
theorem d_C_atMost_1 : decode b_C_atMost 1 = .ok (.iload_n 1, 1) := by decide +kernel
theorem d_C_atMost_2 : decode b_C_atMost 2 = .ok (.iload_n 3, 1) := by decide +kernel
theorem d_C_atMost_3 : decode b_C_atMost 3 = .ok (.iload_n 2, 1) := by decide +kernel
theorem d_C_atMost_4 : decode b_C_atMost 4 = .ok (.iload 4, 2) := by decide +kernel
theorem d_C_atMost_6 : decode b_C_atMost 6 = .ok (.iload 5, 2) := by decide +kernel
theorem d_C_atMost_8 : decode b_C_atMost 8 = .ok (.invokevirtual 51, 3) := by decide +kernel
theorem d_C_atMost_11 : decode b_C_atMost 11 = .ok (.aload_n 0, 1) := by decide +kernel
theorem d_C_atMost_12 : decode b_C_atMost 12 = .ok (.getfield 14, 3) := by decide +kernel
theorem d_C_atMost_15 : decode b_C_atMost 15 = .ok (.iload_n 1, 1) := by decide +kernel
theorem d_C_atMost_16 : decode b_C_atMost 16 = .ok (.iload_n 1, 1) := by decide +kernel
theorem d_C_atMost_17 : decode b_C_atMost 17 = .ok (.iconst 1, 1) := by decide +kernel
theorem d_C_atMost_18 : decode b_C_atMost 18 = .ok (.invokevirtual 28, 3) := by decide +kernel
theorem d_C_atMost_21 : decode b_C_atMost 21 = .ok (.return_, 1) := by decide +kernel
