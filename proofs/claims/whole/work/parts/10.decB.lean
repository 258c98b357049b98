/-! what each instruction is: BitSolver -/
theorem d_B_init_0 : decode b_B_init 0 = .ok (.aload_n 0, 1) := by decide +kernel
theorem d_B_init_1 : decode b_B_init 1 = .ok (.invokespecial 3, 3) := by decide +kernel
theorem d_B_init_4 : decode b_B_init 4 = .ok (.aload_n 0, 1) := by decide +kernel
theorem d_B_init_5 : decode b_B_init 5 = .ok (.new 9, 3) := by decide +kernel
theorem d_B_init_8 : decode b_B_init 8 = .ok (.dup, 1) := by decide +kernel
theorem d_B_init_9 : decode b_B_init 9 = .ok (.invokespecial 11, 3) := by decide +kernel
theorem d_B_init_12 : decode b_B_init 12 = .ok (.putfield 12, 3) := by decide +kernel
theorem d_B_init_15 : decode b_B_init 15 = .ok (.aload_n 0, 1) := by decide +kernel
theorem d_B_init_16 : decode b_B_init 16 = .ok (.aload_n 0, 1) := by decide +kernel
theorem d_B_init_17 : decode b_B_init 17 = .ok (.getfield 12, 3) := by decide +kernel
theorem d_B_init_20 : decode b_B_init 20 = .ok (.getfield 16, 3) := by decide +kernel
theorem d_B_init_23 : decode b_B_init 23 = .ok (.putfield 20, 3) := by decide +kernel
theorem d_B_init_26 : decode b_B_init 26 = .ok (.aload_n 0, 1) := by decide +kernel
theorem d_B_init_27 : decode b_B_init 27 = .ok (.bipush 6, 2) := by decide +kernel
theorem d_B_init_29 : decode b_B_init 29 = .ok (.newarray .int, 2) := by decide +kernel
theorem d_B_init_31 : decode b_B_init 31 = .ok (.putfield 21, 3) := by decide +kernel
theorem d_B_init_34 : decode b_B_init 34 = .ok (.aload_n 0, 1) := by decide +kernel
theorem d_B_init_35 : decode b_B_init 35 = .ok (.bipush 6, 2) := by decide +kernel
theorem d_B_init_37 : decode b_B_init 37 = .ok (.newarray .int, 2) := by decide +kernel
theorem d_B_init_39 : decode b_B_init 39 = .ok (.putfield 25, 3) := by decide +kernel
theorem d_B_init_42 : decode b_B_init 42 = .ok (.aload_n 0, 1) := by decide +kernel
theorem d_B_init_43 : decode b_B_init 43 = .ok (.bipush 50, 2) := by decide +kernel
theorem d_B_init_45 : decode b_B_init 45 = .ok (.newarray .int, 2) := by decide +kernel
theorem d_B_init_47 : decode b_B_init 47 = .ok (.putfield 28, 3) := by decide +kernel
theorem d_B_init_50 : decode b_B_init 50 = .ok (.aload_n 0, 1) := by decide +kernel
theorem d_B_init_51 : decode b_B_init 51 = .ok (.bipush 6, 2) := by decide +kernel
theorem d_B_init_53 : decode b_B_init 53 = .ok (.newarray .int, 2) := by decide +kernel
theorem d_B_init_55 : decode b_B_init 55 = .ok (.putfield 31, 3) := by decide +kernel
theorem d_B_init_58 : decode b_B_init 58 = .ok (.aload_n 0, 1) := by decide +kernel
theorem d_B_init_59 : decode b_B_init 59 = .ok (.bipush 8, 2) := by decide +kernel
theorem d_B_init_61 : decode b_B_init 61 = .ok (.newarray .int, 2) := by decide +kernel
theorem d_B_init_63 : decode b_B_init 63 = .ok (.putfield 34, 3) := by decide +kernel
theorem d_B_init_66 : decode b_B_init 66 = .ok (.aload_n 0, 1) := by decide +kernel
theorem d_B_init_67 : decode b_B_init 67 = .ok (.getfield 20, 3) := by decide +kernel
theorem d_B_init_70 : decode b_B_init 70 = .ok (.sipush 250, 3) := by decide +kernel
theorem d_B_init_73 : decode b_B_init 73 = .ok (.iconst 1, 1) := by decide +kernel
theorem d_B_init_74 : decode b_B_init 74 = .ok (.iconst 1, 1) := by decide +kernel
theorem d_B_init_75 : decode b_B_init 75 = .ok (.invokevirtual 37, 3) := by decide +kernel
theorem d_B_init_78 : decode b_B_init 78 = .ok (.return_, 1) := by decide +kernel
theorem d_B_variable_0 : decode b_B_variable 0 = .ok (.iload_n 1, 1) := by decide +kernel
theorem d_B_variable_1 : decode b_B_variable 1 = .ok (.invokestatic 43, 3) := by decide +kernel
theorem d_B_variable_4 : decode b_B_variable 4 = .ok (.ifCond .ne 11, 3) := by decide +kernel
theorem d_B_variable_7 : decode b_B_variable 7 = .ok (.new 47, 3) := by decide +kernel
theorem d_B_variable_10 : decode b_B_variable 10 = .ok (.dup, 1) := by decide +kernel
theorem d_B_variable_11 : decode b_B_variable 11 = .ok (.invokespecial 49, 3) := by decide +kernel
theorem d_B_variable_14 : decode b_B_variable 14 = .ok (.athrow, 1) := by decide +kernel
theorem d_B_variable_15 : decode b_B_variable 15 = .ok (.aload_n 0, 1) := by decide +kernel
theorem d_B_variable_16 : decode b_B_variable 16 = .ok (.getfield 50, 3) := by decide +kernel
theorem d_B_variable_19 : decode b_B_variable 19 = .ok (.bipush 6, 2) := by decide +kernel
theorem d_B_variable_21 : decode b_B_variable 21 = .ok (.if_icmp .ge 14, 3) := by decide +kernel
theorem d_B_variable_24 : decode b_B_variable 24 = .ok (.aload_n 0, 1) := by decide +kernel
theorem d_B_variable_25 : decode b_B_variable 25 = .ok (.getfield 54, 3) := by decide +kernel
theorem d_B_variable_28 : decode b_B_variable 28 = .ok (.iload_n 1, 1) := by decide +kernel
theorem d_B_variable_29 : decode b_B_variable 29 = .ok (.iadd, 1) := by decide +kernel
theorem d_B_variable_30 : decode b_B_variable 30 = .ok (.bipush 10, 2) := by decide +kernel
theorem d_B_variable_32 : decode b_B_variable 32 = .ok (.if_icmp .le 11, 3) := by decide +kernel
theorem d_B_variable_35 : decode b_B_variable 35 = .ok (.new 57, 3) := by decide +kernel
theorem d_B_variable_38 : decode b_B_variable 38 = .ok (.dup, 1) := by decide +kernel
theorem d_B_variable_39 : decode b_B_variable 39 = .ok (.invokespecial 59, 3) := by decide +kernel
theorem d_B_variable_42 : decode b_B_variable 42 = .ok (.athrow, 1) := by decide +kernel
theorem d_B_variable_43 : decode b_B_variable 43 = .ok (.aload_n 0, 1) := by decide +kernel
theorem d_B_variable_44 : decode b_B_variable 44 = .ok (.dup, 1) := by decide +kernel
theorem d_B_variable_45 : decode b_B_variable 45 = .ok (.getfield 54, 3) := by decide +kernel
theorem d_B_variable_48 : decode b_B_variable 48 = .ok (.iload_n 1, 1) := by decide +kernel
theorem d_B_variable_49 : decode b_B_variable 49 = .ok (.iadd, 1) := by decide +kernel
theorem d_B_variable_50 : decode b_B_variable 50 = .ok (.putfield 54, 3) := by decide +kernel
theorem d_B_variable_53 : decode b_B_variable 53 = .ok (.aload_n 0, 1) := by decide +kernel
theorem d_B_variable_54 : decode b_B_variable 54 = .ok (.getfield 21, 3) := by decide +kernel
theorem d_B_variable_57 : decode b_B_variable 57 = .ok (.aload_n 0, 1) := by decide +kernel
theorem d_B_variable_58 : decode b_B_variable 58 = .ok (.getfield 50, 3) := by decide +kernel
theorem d_B_variable_61 : decode b_B_variable 61 = .ok (.iload_n 1, 1) := by decide +kernel
theorem d_B_variable_62 : decode b_B_variable 62 = .ok (.iastore, 1) := by decide +kernel
theorem d_B_variable_63 : decode b_B_variable 63 = .ok (.aload_n 0, 1) := by decide +kernel
theorem d_B_variable_64 : decode b_B_variable 64 = .ok (.getfield 25, 3) := by decide +kernel
theorem d_B_variable_67 : decode b_B_variable 67 = .ok (.aload_n 0, 1) := by decide +kernel
theorem d_B_variable_68 : decode b_B_variable 68 = .ok (.getfield 50, 3) := by decide +kernel
theorem d_B_variable_71 : decode b_B_variable 71 = .ok (.bipush 10, 2) := by decide +kernel
theorem d_B_variable_73 : decode b_B_variable 73 = .ok (.aload_n 0, 1) := by decide +kernel
theorem d_B_variable_74 : decode b_B_variable 74 = .ok (.getfield 54, 3) := by decide +kernel
theorem d_B_variable_77 : decode b_B_variable 77 = .ok (.isub, 1) := by decide +kernel
theorem d_B_variable_78 : decode b_B_variable 78 = .ok (.iastore, 1) := by decide +kernel
theorem d_B_variable_79 : decode b_B_variable 79 = .ok (.aload_n 0, 1) := by decide +kernel
theorem d_B_variable_80 : decode b_B_variable 80 = .ok (.dup, 1) := by decide +kernel
theorem d_B_variable_81 : decode b_B_variable 81 = .ok (.getfield 50, 3) := by decide +kernel
theorem d_B_variable_84 : decode b_B_variable 84 = .ok (.iconst 1, 1) := by decide +kernel
theorem d_B_variable_85 : decode b_B_variable 85 = .ok (.iadd, 1) := by decide +kernel
theorem d_B_variable_86 : decode b_B_variable 86 = .ok (.putfield 50, 3) := by decide +kernel
theorem d_B_variable_89 : decode b_B_variable 89 = .ok (.aload_n 0, 1) := by decide +kernel
theorem d_B_variable_90 : decode b_B_variable 90 = .ok (.getfield 50, 3) := by decide +kernel
theorem d_B_variable_93 : decode b_B_variable 93 = .ok (.iconst 1, 1) := by decide +kernel
theorem d_B_variable_94 : decode b_B_variable 94 = .ok (.isub, 1) := by decide +kernel
theorem d_B_variable_95 : decode b_B_variable 95 = .ok (.ireturn, 1) := by decide +kernel
theorem d_B_term_0 : decode b_B_term 0 = .ok (.aload_n 0, 1) := by decide +kernel
theorem d_B_term_1 : decode b_B_term 1 = .ok (.iload_n 1, 1) := by decide +kernel
theorem d_B_term_2 : decode b_B_term 2 = .ok (.iload_n 2, 1) := by decide +kernel
theorem d_B_term_3 : decode b_B_term 3 = .ok (.iload_n 3, 1) := by decide +kernel
theorem d_B_term_4 : decode b_B_term 4 = .ok (.iload 4, 2) := by decide +kernel
theorem d_B_term_6 : decode b_B_term 6 = .ok (.invokevirtual 60, 3) := by decide +kernel
theorem d_B_term_9 : decode b_B_term 9 = .ok (.istore 5, 2) := by decide +kernel
theorem d_B_term_11 : decode b_B_term 11 = .ok (.iload 5, 2) := by decide +kernel
theorem d_B_term_13 : decode b_B_term 13 = .ok (.ifCond .ne 11, 3) := by decide +kernel
theorem d_B_term_16 : decode b_B_term 16 = .ok (.new 47, 3) := by decide +kernel
theorem d_B_term_19 : decode b_B_term 19 = .ok (.dup, 1) := by decide +kernel
theorem d_B_term_20 : decode b_B_term 20 = .ok (.invokespecial 49, 3) := by decide +kernel
theorem d_B_term_23 : decode b_B_term 23 = .ok (.athrow, 1) := by decide +kernel
theorem d_B_term_24 : decode b_B_term 24 = .ok (.aload_n 0, 1) := by decide +kernel
theorem d_B_term_25 : decode b_B_term 25 = .ok (.getfield 64, 3) := by decide +kernel
theorem d_B_term_28 : decode b_B_term 28 = .ok (.bipush 50, 2) := by decide +kernel
theorem d_B_term_30 : decode b_B_term 30 = .ok (.if_icmp .lt 11, 3) := by decide +kernel
theorem d_B_term_33 : decode b_B_term 33 = .ok (.new 57, 3) := by decide +kernel
theorem d_B_term_36 : decode b_B_term 36 = .ok (.dup, 1) := by decide +kernel
theorem d_B_term_37 : decode b_B_term 37 = .ok (.invokespecial 59, 3) := by decide +kernel
theorem d_B_term_40 : decode b_B_term 40 = .ok (.athrow, 1) := by decide +kernel
theorem d_B_term_41 : decode b_B_term 41 = .ok (.aload_n 0, 1) := by decide +kernel
theorem d_B_term_42 : decode b_B_term 42 = .ok (.getfield 28, 3) := by decide +kernel
theorem d_B_term_45 : decode b_B_term 45 = .ok (.aload_n 0, 1) := by decide +kernel
theorem d_B_term_46 : decode b_B_term 46 = .ok (.getfield 64, 3) := by decide +kernel
theorem d_B_term_49 : decode b_B_term 49 = .ok (.iload 5, 2) := by decide +kernel
theorem d_B_term_51 : decode b_B_term 51 = .ok (.iastore, 1) := by decide +kernel
theorem d_B_term_52 : decode b_B_term 52 = .ok (.iload_n 1, 1) := by decide +kernel
theorem d_B_term_53 : decode b_B_term 53 = .ok (.iconst 4, 1) := by decide +kernel
theorem d_B_term_54 : decode b_B_term 54 = .ok (.if_icmp .gt 13, 3) := by decide +kernel
theorem d_B_term_57 : decode b_B_term 57 = .ok (.aload_n 0, 1) := by decide +kernel
theorem d_B_term_58 : decode b_B_term 58 = .ok (.iload_n 1, 1) := by decide +kernel
theorem d_B_term_59 : decode b_B_term 59 = .ok (.iload_n 2, 1) := by decide +kernel
theorem d_B_term_60 : decode b_B_term 60 = .ok (.iload_n 3, 1) := by decide +kernel
theorem d_B_term_61 : decode b_B_term 61 = .ok (.invokevirtual 67, 3) := by decide +kernel
theorem d_B_term_64 : decode b_B_term 64 = .ok (.goto 28, 3) := by decide +kernel
theorem d_B_term_67 : decode b_B_term 67 = .ok (.iload_n 1, 1) := by decide +kernel
theorem d_B_term_68 : decode b_B_term 68 = .ok (.bipush 8, 2) := by decide +kernel
theorem d_B_term_70 : decode b_B_term 70 = .ok (.if_icmp .gt 13, 3) := by decide +kernel
theorem d_B_term_73 : decode b_B_term 73 = .ok (.aload_n 0, 1) := by decide +kernel
theorem d_B_term_74 : decode b_B_term 74 = .ok (.iload_n 1, 1) := by decide +kernel
theorem d_B_term_75 : decode b_B_term 75 = .ok (.iload_n 2, 1) := by decide +kernel
theorem d_B_term_76 : decode b_B_term 76 = .ok (.iload_n 3, 1) := by decide +kernel
theorem d_B_term_77 : decode b_B_term 77 = .ok (.invokevirtual 71, 3) := by decide +kernel
theorem d_B_term_80 : decode b_B_term 80 = .ok (.goto 12, 3) := by decide +kernel
theorem d_B_term_83 : decode b_B_term 83 = .ok (.aload_n 0, 1) := by decide +kernel
theorem d_B_term_84 : decode b_B_term 84 = .ok (.iload_n 1, 1) := by decide +kernel
theorem d_B_term_85 : decode b_B_term 85 = .ok (.iload_n 2, 1) := by decide +kernel
theorem d_B_term_86 : decode b_B_term 86 = .ok (.iload_n 3, 1) := by decide +kernel
theorem d_B_term_87 : decode b_B_term 87 = .ok (.iload 4, 2) := by decide +kernel
theorem d_B_term_89 : decode b_B_term 89 = .ok (.invokevirtual 74, 3) := by decide +kernel
theorem d_B_term_92 : decode b_B_term 92 = .ok (.aload_n 0, 1) := by decide +kernel
theorem d_B_term_93 : decode b_B_term 93 = .ok (.dup, 1) := by decide +kernel
theorem d_B_term_94 : decode b_B_term 94 = .ok (.getfield 64, 3) := by decide +kernel
theorem d_B_term_97 : decode b_B_term 97 = .ok (.iconst 1, 1) := by decide +kernel
theorem d_B_term_98 : decode b_B_term 98 = .ok (.iadd, 1) := by decide +kernel
theorem d_B_term_99 : decode b_B_term 99 = .ok (.putfield 64, 3) := by decide +kernel
theorem d_B_term_102 : decode b_B_term 102 = .ok (.aload_n 0, 1) := by decide +kernel
theorem d_B_term_103 : decode b_B_term 103 = .ok (.getfield 64, 3) := by decide +kernel
theorem d_B_term_106 : decode b_B_term 106 = .ok (.iconst 1, 1) := by decide +kernel
theorem d_B_term_107 : decode b_B_term 107 = .ok (.isub, 1) := by decide +kernel
theorem d_B_term_108 : decode b_B_term 108 = .ok (.ireturn, 1) := by decide +kernel
theorem d_B_formula_0 : decode b_B_formula 0 = .ok (.aload_n 0, 1) := by decide +kernel
theorem d_B_formula_1 : decode b_B_formula 1 = .ok (.iload_n 1, 1) := by decide +kernel
theorem d_B_formula_2 : decode b_B_formula 2 = .ok (.iload_n 2, 1) := by decide +kernel
theorem d_B_formula_3 : decode b_B_formula 3 = .ok (.iload_n 3, 1) := by decide +kernel
theorem d_B_formula_4 : decode b_B_formula 4 = .ok (.invokevirtual 78, 3) := by decide +kernel
theorem d_B_formula_7 : decode b_B_formula 7 = .ok (.ifCond .ne 11, 3) := by decide +kernel
theorem d_B_formula_10 : decode b_B_formula 10 = .ok (.new 47, 3) := by decide +kernel
theorem d_B_formula_13 : decode b_B_formula 13 = .ok (.dup, 1) := by decide +kernel
theorem d_B_formula_14 : decode b_B_formula 14 = .ok (.invokespecial 49, 3) := by decide +kernel
theorem d_B_formula_17 : decode b_B_formula 17 = .ok (.athrow, 1) := by decide +kernel
theorem d_B_formula_18 : decode b_B_formula 18 = .ok (.aload_n 0, 1) := by decide +kernel
theorem d_B_formula_19 : decode b_B_formula 19 = .ok (.getfield 82, 3) := by decide +kernel
theorem d_B_formula_22 : decode b_B_formula 22 = .ok (.bipush 50, 2) := by decide +kernel
theorem d_B_formula_24 : decode b_B_formula 24 = .ok (.if_icmp .lt 11, 3) := by decide +kernel
theorem d_B_formula_27 : decode b_B_formula 27 = .ok (.new 57, 3) := by decide +kernel
theorem d_B_formula_30 : decode b_B_formula 30 = .ok (.dup, 1) := by decide +kernel
theorem d_B_formula_31 : decode b_B_formula 31 = .ok (.invokespecial 59, 3) := by decide +kernel
theorem d_B_formula_34 : decode b_B_formula 34 = .ok (.athrow, 1) := by decide +kernel
theorem d_B_formula_35 : decode b_B_formula 35 = .ok (.iload_n 1, 1) := by decide +kernel
theorem d_B_formula_36 : decode b_B_formula 36 = .ok (.iconst 5, 1) := by decide +kernel
theorem d_B_formula_37 : decode b_B_formula 37 = .ok (.if_icmp .gt 13, 3) := by decide +kernel
theorem d_B_formula_40 : decode b_B_formula 40 = .ok (.aload_n 0, 1) := by decide +kernel
theorem d_B_formula_41 : decode b_B_formula 41 = .ok (.iload_n 1, 1) := by decide +kernel
theorem d_B_formula_42 : decode b_B_formula 42 = .ok (.iload_n 2, 1) := by decide +kernel
theorem d_B_formula_43 : decode b_B_formula 43 = .ok (.iload_n 3, 1) := by decide +kernel
theorem d_B_formula_44 : decode b_B_formula 44 = .ok (.invokevirtual 85, 3) := by decide +kernel
theorem d_B_formula_47 : decode b_B_formula 47 = .ok (.goto 10, 3) := by decide +kernel
theorem d_B_formula_50 : decode b_B_formula 50 = .ok (.aload_n 0, 1) := by decide +kernel
theorem d_B_formula_51 : decode b_B_formula 51 = .ok (.iload_n 1, 1) := by decide +kernel
theorem d_B_formula_52 : decode b_B_formula 52 = .ok (.iload_n 2, 1) := by decide +kernel
theorem d_B_formula_53 : decode b_B_formula 53 = .ok (.iload_n 3, 1) := by decide +kernel
theorem d_B_formula_54 : decode b_B_formula 54 = .ok (.invokevirtual 88, 3) := by decide +kernel
theorem d_B_formula_57 : decode b_B_formula 57 = .ok (.aload_n 0, 1) := by decide +kernel
theorem d_B_formula_58 : decode b_B_formula 58 = .ok (.dup, 1) := by decide +kernel
theorem d_B_formula_59 : decode b_B_formula 59 = .ok (.getfield 82, 3) := by decide +kernel
theorem d_B_formula_62 : decode b_B_formula 62 = .ok (.iconst 1, 1) := by decide +kernel
theorem d_B_formula_63 : decode b_B_formula 63 = .ok (.iadd, 1) := by decide +kernel
theorem d_B_formula_64 : decode b_B_formula 64 = .ok (.putfield 82, 3) := by decide +kernel
theorem d_B_formula_67 : decode b_B_formula 67 = .ok (.aload_n 0, 1) := by decide +kernel
theorem d_B_formula_68 : decode b_B_formula 68 = .ok (.getfield 82, 3) := by decide +kernel
theorem d_B_formula_71 : decode b_B_formula 71 = .ok (.iconst 1, 1) := by decide +kernel
theorem d_B_formula_72 : decode b_B_formula 72 = .ok (.isub, 1) := by decide +kernel
theorem d_B_formula_73 : decode b_B_formula 73 = .ok (.ireturn, 1) := by decide +kernel
theorem d_B_assertion_0 : decode b_B_assertion 0 = .ok (.aload_n 0, 1) := by decide +kernel
theorem d_B_assertion_1 : decode b_B_assertion 1 = .ok (.iload_n 1, 1) := by decide +kernel
theorem d_B_assertion_2 : decode b_B_assertion 2 = .ok (.invokevirtual 91, 3) := by decide +kernel
theorem d_B_assertion_5 : decode b_B_assertion 5 = .ok (.ifCond .ne 11, 3) := by decide +kernel
theorem d_B_assertion_8 : decode b_B_assertion 8 = .ok (.new 94, 3) := by decide +kernel
theorem d_B_assertion_11 : decode b_B_assertion 11 = .ok (.dup, 1) := by decide +kernel
theorem d_B_assertion_12 : decode b_B_assertion 12 = .ok (.invokespecial 96, 3) := by decide +kernel
theorem d_B_assertion_15 : decode b_B_assertion 15 = .ok (.athrow, 1) := by decide +kernel
theorem d_B_assertion_16 : decode b_B_assertion 16 = .ok (.aload_n 0, 1) := by decide +kernel
theorem d_B_assertion_17 : decode b_B_assertion 17 = .ok (.getfield 97, 3) := by decide +kernel
theorem d_B_assertion_20 : decode b_B_assertion 20 = .ok (.bipush 30, 2) := by decide +kernel
theorem d_B_assertion_22 : decode b_B_assertion 22 = .ok (.if_icmp .lt 11, 3) := by decide +kernel
theorem d_B_assertion_25 : decode b_B_assertion 25 = .ok (.new 57, 3) := by decide +kernel
theorem d_B_assertion_28 : decode b_B_assertion 28 = .ok (.dup, 1) := by decide +kernel
theorem d_B_assertion_29 : decode b_B_assertion 29 = .ok (.invokespecial 59, 3) := by decide +kernel
theorem d_B_assertion_32 : decode b_B_assertion 32 = .ok (.athrow, 1) := by decide +kernel
theorem d_B_assertion_33 : decode b_B_assertion 33 = .ok (.aload_n 0, 1) := by decide +kernel
theorem d_B_assertion_34 : decode b_B_assertion 34 = .ok (.getfield 20, 3) := by decide +kernel
theorem d_B_assertion_37 : decode b_B_assertion 37 = .ok (.aload_n 0, 1) := by decide +kernel
theorem d_B_assertion_38 : decode b_B_assertion 38 = .ok (.invokevirtual 100, 3) := by decide +kernel
theorem d_B_assertion_41 : decode b_B_assertion 41 = .ok (.aload_n 0, 1) := by decide +kernel
theorem d_B_assertion_42 : decode b_B_assertion 42 = .ok (.invokevirtual 100, 3) := by decide +kernel
theorem d_B_assertion_45 : decode b_B_assertion 45 = .ok (.iload_n 1, 1) := by decide +kernel
theorem d_B_assertion_46 : decode b_B_assertion 46 = .ok (.iconst 1, 1) := by decide +kernel
theorem d_B_assertion_47 : decode b_B_assertion 47 = .ok (.invokevirtual 104, 3) := by decide +kernel
theorem d_B_assertion_50 : decode b_B_assertion 50 = .ok (.aload_n 0, 1) := by decide +kernel
theorem d_B_assertion_51 : decode b_B_assertion 51 = .ok (.dup, 1) := by decide +kernel
theorem d_B_assertion_52 : decode b_B_assertion 52 = .ok (.getfield 97, 3) := by decide +kernel
theorem d_B_assertion_55 : decode b_B_assertion 55 = .ok (.iconst 1, 1) := by decide +kernel
theorem d_B_assertion_56 : decode b_B_assertion 56 = .ok (.iadd, 1) := by decide +kernel
theorem d_B_assertion_57 : decode b_B_assertion 57 = .ok (.putfield 97, 3) := by decide +kernel
theorem d_B_assertion_60 : decode b_B_assertion 60 = .ok (.aload_n 0, 1) := by decide +kernel
theorem d_B_assertion_61 : decode b_B_assertion 61 = .ok (.getfield 97, 3) := by decide +kernel
theorem d_B_assertion_64 : decode b_B_assertion 64 = .ok (.ireturn, 1) := by decide +kernel
theorem d_B_push_0 : decode b_B_push 0 = .ok (.aload_n 0, 1) := by decide +kernel
theorem d_B_push_1 : decode b_B_push 1 = .ok (.getfield 107, 3) := by decide +kernel
theorem d_B_push_4 : decode b_B_push 4 = .ok (.iconst 5, 1) := by decide +kernel
theorem d_B_push_5 : decode b_B_push 5 = .ok (.if_icmp .lt 11, 3) := by decide +kernel
theorem d_B_push_8 : decode b_B_push 8 = .ok (.new 57, 3) := by decide +kernel
theorem d_B_push_11 : decode b_B_push 11 = .ok (.dup, 1) := by decide +kernel
theorem d_B_push_12 : decode b_B_push 12 = .ok (.invokespecial 59, 3) := by decide +kernel
theorem d_B_push_15 : decode b_B_push 15 = .ok (.athrow, 1) := by decide +kernel
theorem d_B_push_16 : decode b_B_push 16 = .ok (.aload_n 0, 1) := by decide +kernel
theorem d_B_push_17 : decode b_B_push 17 = .ok (.getfield 20, 3) := by decide +kernel
theorem d_B_push_20 : decode b_B_push 20 = .ok (.aload_n 0, 1) := by decide +kernel
theorem d_B_push_21 : decode b_B_push 21 = .ok (.invokevirtual 100, 3) := by decide +kernel
theorem d_B_push_24 : decode b_B_push 24 = .ok (.iconst 1, 1) := by decide +kernel
theorem d_B_push_25 : decode b_B_push 25 = .ok (.iadd, 1) := by decide +kernel
theorem d_B_push_26 : decode b_B_push 26 = .ok (.aload_n 0, 1) := by decide +kernel
theorem d_B_push_27 : decode b_B_push 27 = .ok (.invokevirtual 100, 3) := by decide +kernel
theorem d_B_push_30 : decode b_B_push 30 = .ok (.iconst 1, 1) := by decide +kernel
theorem d_B_push_31 : decode b_B_push 31 = .ok (.invokevirtual 110, 3) := by decide +kernel
theorem d_B_push_34 : decode b_B_push 34 = .ok (.aload_n 0, 1) := by decide +kernel
theorem d_B_push_35 : decode b_B_push 35 = .ok (.dup, 1) := by decide +kernel
theorem d_B_push_36 : decode b_B_push 36 = .ok (.getfield 107, 3) := by decide +kernel
theorem d_B_push_39 : decode b_B_push 39 = .ok (.iconst 1, 1) := by decide +kernel
theorem d_B_push_40 : decode b_B_push 40 = .ok (.iadd, 1) := by decide +kernel
theorem d_B_push_41 : decode b_B_push 41 = .ok (.putfield 107, 3) := by decide +kernel
theorem d_B_push_44 : decode b_B_push 44 = .ok (.aload_n 0, 1) := by decide +kernel
theorem d_B_push_45 : decode b_B_push 45 = .ok (.getfield 31, 3) := by decide +kernel
theorem d_B_push_48 : decode b_B_push 48 = .ok (.aload_n 0, 1) := by decide +kernel
theorem d_B_push_49 : decode b_B_push 49 = .ok (.getfield 107, 3) := by decide +kernel
theorem d_B_push_52 : decode b_B_push 52 = .ok (.aload_n 0, 1) := by decide +kernel
theorem d_B_push_53 : decode b_B_push 53 = .ok (.getfield 97, 3) := by decide +kernel
theorem d_B_push_56 : decode b_B_push 56 = .ok (.iastore, 1) := by decide +kernel
theorem d_B_push_57 : decode b_B_push 57 = .ok (.aload_n 0, 1) := by decide +kernel
theorem d_B_push_58 : decode b_B_push 58 = .ok (.getfield 107, 3) := by decide +kernel
theorem d_B_push_61 : decode b_B_push 61 = .ok (.ireturn, 1) := by decide +kernel
theorem d_B_pop_0 : decode b_B_pop 0 = .ok (.aload_n 0, 1) := by decide +kernel
theorem d_B_pop_1 : decode b_B_pop 1 = .ok (.getfield 107, 3) := by decide +kernel
theorem d_B_pop_4 : decode b_B_pop 4 = .ok (.ifCond .ne 11, 3) := by decide +kernel
theorem d_B_pop_7 : decode b_B_pop 7 = .ok (.new 57, 3) := by decide +kernel
theorem d_B_pop_10 : decode b_B_pop 10 = .ok (.dup, 1) := by decide +kernel
theorem d_B_pop_11 : decode b_B_pop 11 = .ok (.invokespecial 59, 3) := by decide +kernel
theorem d_B_pop_14 : decode b_B_pop 14 = .ok (.athrow, 1) := by decide +kernel
theorem d_B_pop_15 : decode b_B_pop 15 = .ok (.aload_n 0, 1) := by decide +kernel
theorem d_B_pop_16 : decode b_B_pop 16 = .ok (.getfield 97, 3) := by decide +kernel
theorem d_B_pop_19 : decode b_B_pop 19 = .ok (.aload_n 0, 1) := by decide +kernel
theorem d_B_pop_20 : decode b_B_pop 20 = .ok (.getfield 31, 3) := by decide +kernel
theorem d_B_pop_23 : decode b_B_pop 23 = .ok (.aload_n 0, 1) := by decide +kernel
theorem d_B_pop_24 : decode b_B_pop 24 = .ok (.getfield 107, 3) := by decide +kernel
theorem d_B_pop_27 : decode b_B_pop 27 = .ok (.iaload, 1) := by decide +kernel
theorem d_B_pop_28 : decode b_B_pop 28 = .ok (.isub, 1) := by decide +kernel
theorem d_B_pop_29 : decode b_B_pop 29 = .ok (.istore_n 1, 1) := by decide +kernel
theorem d_B_pop_30 : decode b_B_pop 30 = .ok (.aload_n 0, 1) := by decide +kernel
theorem d_B_pop_31 : decode b_B_pop 31 = .ok (.aload_n 0, 1) := by decide +kernel
theorem d_B_pop_32 : decode b_B_pop 32 = .ok (.getfield 31, 3) := by decide +kernel
theorem d_B_pop_35 : decode b_B_pop 35 = .ok (.aload_n 0, 1) := by decide +kernel
theorem d_B_pop_36 : decode b_B_pop 36 = .ok (.getfield 107, 3) := by decide +kernel
theorem d_B_pop_39 : decode b_B_pop 39 = .ok (.iaload, 1) := by decide +kernel
theorem d_B_pop_40 : decode b_B_pop 40 = .ok (.putfield 97, 3) := by decide +kernel
theorem d_B_pop_43 : decode b_B_pop 43 = .ok (.aload_n 0, 1) := by decide +kernel
theorem d_B_pop_44 : decode b_B_pop 44 = .ok (.dup, 1) := by decide +kernel
theorem d_B_pop_45 : decode b_B_pop 45 = .ok (.getfield 107, 3) := by decide +kernel
theorem d_B_pop_48 : decode b_B_pop 48 = .ok (.iconst 1, 1) := by decide +kernel
theorem d_B_pop_49 : decode b_B_pop 49 = .ok (.isub, 1) := by decide +kernel
theorem d_B_pop_50 : decode b_B_pop 50 = .ok (.putfield 107, 3) := by decide +kernel
theorem d_B_pop_53 : decode b_B_pop 53 = .ok (.iload_n 1, 1) := by decide +kernel
theorem d_B_pop_54 : decode b_B_pop 54 = .ok (.ireturn, 1) := by decide +kernel
theorem d_B_check_0 : decode b_B_check 0 = .ok (.aload_n 0, 1) := by decide +kernel
theorem d_B_check_1 : decode b_B_check 1 = .ok (.invokevirtual 113, 3) := by decide +kernel
theorem d_B_check_4 : decode b_B_check 4 = .ok (.ifCond .eq 7, 3) := by decide +kernel
theorem d_B_check_7 : decode b_B_check 7 = .ok (.iconst 1, 1) := by decide +kernel
theorem d_B_check_8 : decode b_B_check 8 = .ok (.goto 4, 3) := by decide +kernel
theorem d_B_check_11 : decode b_B_check 11 = .ok (.iconst 0, 1) := by decide +kernel
theorem d_B_check_12 : decode b_B_check 12 = .ok (.ireturn, 1) := by decide +kernel
theorem d_B_value_0 : decode b_B_value 0 = .ok (.aload_n 0, 1) := by decide +kernel
theorem d_B_value_1 : decode b_B_value 1 = .ok (.iload_n 1, 1) := by decide +kernel
theorem d_B_value_2 : decode b_B_value 2 = .ok (.invokevirtual 117, 3) := by decide +kernel
theorem d_B_value_5 : decode b_B_value 5 = .ok (.ifCond .ne 11, 3) := by decide +kernel
theorem d_B_value_8 : decode b_B_value 8 = .ok (.new 94, 3) := by decide +kernel
theorem d_B_value_11 : decode b_B_value 11 = .ok (.dup, 1) := by decide +kernel
theorem d_B_value_12 : decode b_B_value 12 = .ok (.invokespecial 96, 3) := by decide +kernel
theorem d_B_value_15 : decode b_B_value 15 = .ok (.athrow, 1) := by decide +kernel
theorem d_B_value_16 : decode b_B_value 16 = .ok (.aload_n 0, 1) := by decide +kernel
theorem d_B_value_17 : decode b_B_value 17 = .ok (.invokevirtual 113, 3) := by decide +kernel
theorem d_B_value_20 : decode b_B_value 20 = .ok (.ifCond .ne 11, 3) := by decide +kernel
theorem d_B_value_23 : decode b_B_value 23 = .ok (.new 120, 3) := by decide +kernel
theorem d_B_value_26 : decode b_B_value 26 = .ok (.dup, 1) := by decide +kernel
theorem d_B_value_27 : decode b_B_value 27 = .ok (.invokespecial 122, 3) := by decide +kernel
theorem d_B_value_30 : decode b_B_value 30 = .ok (.athrow, 1) := by decide +kernel
theorem d_B_value_31 : decode b_B_value 31 = .ok (.iconst 1, 1) := by decide +kernel
theorem d_B_value_32 : decode b_B_value 32 = .ok (.aload_n 0, 1) := by decide +kernel
theorem d_B_value_33 : decode b_B_value 33 = .ok (.getfield 21, 3) := by decide +kernel
theorem d_B_value_36 : decode b_B_value 36 = .ok (.iload_n 1, 1) := by decide +kernel
theorem d_B_value_37 : decode b_B_value 37 = .ok (.iaload, 1) := by decide +kernel
theorem d_B_value_38 : decode b_B_value 38 = .ok (.ishl, 1) := by decide +kernel
theorem d_B_value_39 : decode b_B_value 39 = .ok (.iconst 1, 1) := by decide +kernel
theorem d_B_value_40 : decode b_B_value 40 = .ok (.isub, 1) := by decide +kernel
theorem d_B_value_41 : decode b_B_value 41 = .ok (.istore_n 2, 1) := by decide +kernel
theorem d_B_value_42 : decode b_B_value 42 = .ok (.aload_n 0, 1) := by decide +kernel
theorem d_B_value_43 : decode b_B_value 43 = .ok (.getfield 20, 3) := by decide +kernel
theorem d_B_value_46 : decode b_B_value 46 = .ok (.aload_n 0, 1) := by decide +kernel
theorem d_B_value_47 : decode b_B_value 47 = .ok (.invokevirtual 100, 3) := by decide +kernel
theorem d_B_value_50 : decode b_B_value 50 = .ok (.invokevirtual 123, 3) := by decide +kernel
theorem d_B_value_53 : decode b_B_value 53 = .ok (.aload_n 0, 1) := by decide +kernel
theorem d_B_value_54 : decode b_B_value 54 = .ok (.getfield 25, 3) := by decide +kernel
theorem d_B_value_57 : decode b_B_value 57 = .ok (.iload_n 1, 1) := by decide +kernel
theorem d_B_value_58 : decode b_B_value 58 = .ok (.iaload, 1) := by decide +kernel
theorem d_B_value_59 : decode b_B_value 59 = .ok (.ishr, 1) := by decide +kernel
theorem d_B_value_60 : decode b_B_value 60 = .ok (.iload_n 2, 1) := by decide +kernel
theorem d_B_value_61 : decode b_B_value 61 = .ok (.iand, 1) := by decide +kernel
theorem d_B_value_62 : decode b_B_value 62 = .ok (.ireturn, 1) := by decide +kernel
theorem d_B_valueOf_0 : decode b_B_valueOf 0 = .ok (.aload_n 0, 1) := by decide +kernel
theorem d_B_valueOf_1 : decode b_B_valueOf 1 = .ok (.iload_n 1, 1) := by decide +kernel
theorem d_B_valueOf_2 : decode b_B_valueOf 2 = .ok (.invokevirtual 127, 3) := by decide +kernel
theorem d_B_valueOf_5 : decode b_B_valueOf 5 = .ok (.ifCond .ne 11, 3) := by decide +kernel
theorem d_B_valueOf_8 : decode b_B_valueOf 8 = .ok (.new 94, 3) := by decide +kernel
theorem d_B_valueOf_11 : decode b_B_valueOf 11 = .ok (.dup, 1) := by decide +kernel
theorem d_B_valueOf_12 : decode b_B_valueOf 12 = .ok (.invokespecial 96, 3) := by decide +kernel
theorem d_B_valueOf_15 : decode b_B_valueOf 15 = .ok (.athrow, 1) := by decide +kernel
theorem d_B_valueOf_16 : decode b_B_valueOf 16 = .ok (.aload_n 0, 1) := by decide +kernel
theorem d_B_valueOf_17 : decode b_B_valueOf 17 = .ok (.invokevirtual 113, 3) := by decide +kernel
theorem d_B_valueOf_20 : decode b_B_valueOf 20 = .ok (.ifCond .ne 11, 3) := by decide +kernel
theorem d_B_valueOf_23 : decode b_B_valueOf 23 = .ok (.new 120, 3) := by decide +kernel
theorem d_B_valueOf_26 : decode b_B_valueOf 26 = .ok (.dup, 1) := by decide +kernel
theorem d_B_valueOf_27 : decode b_B_valueOf 27 = .ok (.invokespecial 122, 3) := by decide +kernel
theorem d_B_valueOf_30 : decode b_B_valueOf 30 = .ok (.athrow, 1) := by decide +kernel
theorem d_B_valueOf_31 : decode b_B_valueOf 31 = .ok (.aload_n 0, 1) := by decide +kernel
theorem d_B_valueOf_32 : decode b_B_valueOf 32 = .ok (.getfield 20, 3) := by decide +kernel
theorem d_B_valueOf_35 : decode b_B_valueOf 35 = .ok (.aload_n 0, 1) := by decide +kernel
theorem d_B_valueOf_36 : decode b_B_valueOf 36 = .ok (.invokevirtual 100, 3) := by decide +kernel
theorem d_B_valueOf_39 : decode b_B_valueOf 39 = .ok (.invokevirtual 123, 3) := by decide +kernel
theorem d_B_valueOf_42 : decode b_B_valueOf 42 = .ok (.istore_n 2, 1) := by decide +kernel
theorem d_B_valueOf_43 : decode b_B_valueOf 43 = .ok (.iconst 0, 1) := by decide +kernel
theorem d_B_valueOf_44 : decode b_B_valueOf 44 = .ok (.istore_n 3, 1) := by decide +kernel
theorem d_B_valueOf_45 : decode b_B_valueOf 45 = .ok (.iconst 0, 1) := by decide +kernel
theorem d_B_valueOf_46 : decode b_B_valueOf 46 = .ok (.istore 4, 2) := by decide +kernel
theorem d_B_valueOf_48 : decode b_B_valueOf 48 = .ok (.iload 4, 2) := by decide +kernel
theorem d_B_valueOf_50 : decode b_B_valueOf 50 = .ok (.aload_n 0, 1) := by decide +kernel
theorem d_B_valueOf_51 : decode b_B_valueOf 51 = .ok (.getfield 28, 3) := by decide +kernel
theorem d_B_valueOf_54 : decode b_B_valueOf 54 = .ok (.iload_n 1, 1) := by decide +kernel
theorem d_B_valueOf_55 : decode b_B_valueOf 55 = .ok (.iaload, 1) := by decide +kernel
theorem d_B_valueOf_56 : decode b_B_valueOf 56 = .ok (.if_icmp .ge 34, 3) := by decide +kernel
theorem d_B_valueOf_59 : decode b_B_valueOf 59 = .ok (.aload_n 0, 1) := by decide +kernel
theorem d_B_valueOf_60 : decode b_B_valueOf 60 = .ok (.getfield 20, 3) := by decide +kernel
theorem d_B_valueOf_63 : decode b_B_valueOf 63 = .ok (.iload_n 1, 1) := by decide +kernel
theorem d_B_valueOf_64 : decode b_B_valueOf 64 = .ok (.invokestatic 130, 3) := by decide +kernel
theorem d_B_valueOf_67 : decode b_B_valueOf 67 = .ok (.iload 4, 2) := by decide +kernel
theorem d_B_valueOf_69 : decode b_B_valueOf 69 = .ok (.iadd, 1) := by decide +kernel
theorem d_B_valueOf_70 : decode b_B_valueOf 70 = .ok (.iload_n 2, 1) := by decide +kernel
theorem d_B_valueOf_71 : decode b_B_valueOf 71 = .ok (.invokevirtual 133, 3) := by decide +kernel
theorem d_B_valueOf_74 : decode b_B_valueOf 74 = .ok (.ifCond .eq 10, 3) := by decide +kernel
theorem d_B_valueOf_77 : decode b_B_valueOf 77 = .ok (.iload_n 3, 1) := by decide +kernel
theorem d_B_valueOf_78 : decode b_B_valueOf 78 = .ok (.iconst 1, 1) := by decide +kernel
theorem d_B_valueOf_79 : decode b_B_valueOf 79 = .ok (.iload 4, 2) := by decide +kernel
theorem d_B_valueOf_81 : decode b_B_valueOf 81 = .ok (.ishl, 1) := by decide +kernel
theorem d_B_valueOf_82 : decode b_B_valueOf 82 = .ok (.ior, 1) := by decide +kernel
theorem d_B_valueOf_83 : decode b_B_valueOf 83 = .ok (.istore_n 3, 1) := by decide +kernel
theorem d_B_valueOf_84 : decode b_B_valueOf 84 = .ok (.iinc 4 1, 3) := by decide +kernel
theorem d_B_valueOf_87 : decode b_B_valueOf 87 = .ok (.goto (-39), 3) := by decide +kernel
theorem d_B_valueOf_90 : decode b_B_valueOf 90 = .ok (.iload_n 3, 1) := by decide +kernel
theorem d_B_valueOf_91 : decode b_B_valueOf 91 = .ok (.ireturn, 1) := by decide +kernel
theorem d_B_entailed_0 : decode b_B_entailed 0 = .ok (.aload_n 0, 1) := by decide +kernel
theorem d_B_entailed_1 : decode b_B_entailed 1 = .ok (.iload_n 1, 1) := by decide +kernel
theorem d_B_entailed_2 : decode b_B_entailed 2 = .ok (.invokevirtual 91, 3) := by decide +kernel
theorem d_B_entailed_5 : decode b_B_entailed 5 = .ok (.ifCond .ne 11, 3) := by decide +kernel
theorem d_B_entailed_8 : decode b_B_entailed 8 = .ok (.new 94, 3) := by decide +kernel
theorem d_B_entailed_11 : decode b_B_entailed 11 = .ok (.dup, 1) := by decide +kernel
theorem d_B_entailed_12 : decode b_B_entailed 12 = .ok (.invokespecial 96, 3) := by decide +kernel
theorem d_B_entailed_15 : decode b_B_entailed 15 = .ok (.athrow, 1) := by decide +kernel
theorem d_B_entailed_16 : decode b_B_entailed 16 = .ok (.aload_n 0, 1) := by decide +kernel
theorem d_B_entailed_17 : decode b_B_entailed 17 = .ok (.invokevirtual 113, 3) := by decide +kernel
theorem d_B_entailed_20 : decode b_B_entailed 20 = .ok (.ifCond .ne 11, 3) := by decide +kernel
theorem d_B_entailed_23 : decode b_B_entailed 23 = .ok (.new 120, 3) := by decide +kernel
theorem d_B_entailed_26 : decode b_B_entailed 26 = .ok (.dup, 1) := by decide +kernel
theorem d_B_entailed_27 : decode b_B_entailed 27 = .ok (.invokespecial 122, 3) := by decide +kernel
theorem d_B_entailed_30 : decode b_B_entailed 30 = .ok (.athrow, 1) := by decide +kernel
theorem d_B_entailed_31 : decode b_B_entailed 31 = .ok (.aload_n 0, 1) := by decide +kernel
theorem d_B_entailed_32 : decode b_B_entailed 32 = .ok (.getfield 20, 3) := by decide +kernel
theorem d_B_entailed_35 : decode b_B_entailed 35 = .ok (.aload_n 0, 1) := by decide +kernel
theorem d_B_entailed_36 : decode b_B_entailed 36 = .ok (.invokevirtual 100, 3) := by decide +kernel
theorem d_B_entailed_39 : decode b_B_entailed 39 = .ok (.iload_n 1, 1) := by decide +kernel
theorem d_B_entailed_40 : decode b_B_entailed 40 = .ok (.invokevirtual 137, 3) := by decide +kernel
theorem d_B_entailed_43 : decode b_B_entailed 43 = .ok (.ifCond .eq 5, 3) := by decide +kernel
theorem d_B_entailed_46 : decode b_B_entailed 46 = .ok (.iconst 1, 1) := by decide +kernel
theorem d_B_entailed_47 : decode b_B_entailed 47 = .ok (.ireturn, 1) := by decide +kernel
theorem d_B_entailed_48 : decode b_B_entailed 48 = .ok (.aload_n 0, 1) := by decide +kernel
theorem d_B_entailed_49 : decode b_B_entailed 49 = .ok (.getfield 20, 3) := by decide +kernel
theorem d_B_entailed_52 : decode b_B_entailed 52 = .ok (.aload_n 0, 1) := by decide +kernel
theorem d_B_entailed_53 : decode b_B_entailed 53 = .ok (.invokevirtual 100, 3) := by decide +kernel
theorem d_B_entailed_56 : decode b_B_entailed 56 = .ok (.iload_n 1, 1) := by decide +kernel
theorem d_B_entailed_57 : decode b_B_entailed 57 = .ok (.invokevirtual 140, 3) := by decide +kernel
theorem d_B_entailed_60 : decode b_B_entailed 60 = .ok (.ifCond .eq 7, 3) := by decide +kernel
theorem d_B_entailed_63 : decode b_B_entailed 63 = .ok (.iconst 2, 1) := by decide +kernel
theorem d_B_entailed_64 : decode b_B_entailed 64 = .ok (.goto 4, 3) := by decide +kernel
theorem d_B_entailed_67 : decode b_B_entailed 67 = .ok (.iconst 0, 1) := by decide +kernel
theorem d_B_entailed_68 : decode b_B_entailed 68 = .ok (.ireturn, 1) := by decide +kernel
theorem d_B_fixed_0 : decode b_B_fixed 0 = .ok (.aload_n 0, 1) := by decide +kernel
theorem d_B_fixed_1 : decode b_B_fixed 1 = .ok (.iload_n 1, 1) := by decide +kernel
theorem d_B_fixed_2 : decode b_B_fixed 2 = .ok (.invokevirtual 117, 3) := by decide +kernel
theorem d_B_fixed_5 : decode b_B_fixed 5 = .ok (.ifCond .ne 11, 3) := by decide +kernel
theorem d_B_fixed_8 : decode b_B_fixed 8 = .ok (.new 94, 3) := by decide +kernel
theorem d_B_fixed_11 : decode b_B_fixed 11 = .ok (.dup, 1) := by decide +kernel
theorem d_B_fixed_12 : decode b_B_fixed 12 = .ok (.invokespecial 96, 3) := by decide +kernel
theorem d_B_fixed_15 : decode b_B_fixed 15 = .ok (.athrow, 1) := by decide +kernel
theorem d_B_fixed_16 : decode b_B_fixed 16 = .ok (.aload_n 0, 1) := by decide +kernel
theorem d_B_fixed_17 : decode b_B_fixed 17 = .ok (.invokevirtual 113, 3) := by decide +kernel
theorem d_B_fixed_20 : decode b_B_fixed 20 = .ok (.ifCond .ne 11, 3) := by decide +kernel
theorem d_B_fixed_23 : decode b_B_fixed 23 = .ok (.new 120, 3) := by decide +kernel
theorem d_B_fixed_26 : decode b_B_fixed 26 = .ok (.dup, 1) := by decide +kernel
theorem d_B_fixed_27 : decode b_B_fixed 27 = .ok (.invokespecial 122, 3) := by decide +kernel
theorem d_B_fixed_30 : decode b_B_fixed 30 = .ok (.athrow, 1) := by decide +kernel
theorem d_B_fixed_31 : decode b_B_fixed 31 = .ok (.iconst 0, 1) := by decide +kernel
theorem d_B_fixed_32 : decode b_B_fixed 32 = .ok (.istore_n 2, 1) := by decide +kernel
theorem d_B_fixed_33 : decode b_B_fixed 33 = .ok (.iconst 0, 1) := by decide +kernel
theorem d_B_fixed_34 : decode b_B_fixed 34 = .ok (.istore_n 3, 1) := by decide +kernel
theorem d_B_fixed_35 : decode b_B_fixed 35 = .ok (.iload_n 3, 1) := by decide +kernel
theorem d_B_fixed_36 : decode b_B_fixed 36 = .ok (.aload_n 0, 1) := by decide +kernel
theorem d_B_fixed_37 : decode b_B_fixed 37 = .ok (.getfield 21, 3) := by decide +kernel
theorem d_B_fixed_40 : decode b_B_fixed 40 = .ok (.iload_n 1, 1) := by decide +kernel
theorem d_B_fixed_41 : decode b_B_fixed 41 = .ok (.iaload, 1) := by decide +kernel
theorem d_B_fixed_42 : decode b_B_fixed 42 = .ok (.if_icmp .ge 67, 3) := by decide +kernel
theorem d_B_fixed_45 : decode b_B_fixed 45 = .ok (.aload_n 0, 1) := by decide +kernel
theorem d_B_fixed_46 : decode b_B_fixed 46 = .ok (.getfield 20, 3) := by decide +kernel
theorem d_B_fixed_49 : decode b_B_fixed 49 = .ok (.sipush 256, 3) := by decide +kernel
theorem d_B_fixed_52 : decode b_B_fixed 52 = .ok (.aload_n 0, 1) := by decide +kernel
theorem d_B_fixed_53 : decode b_B_fixed 53 = .ok (.getfield 25, 3) := by decide +kernel
theorem d_B_fixed_56 : decode b_B_fixed 56 = .ok (.iload_n 1, 1) := by decide +kernel
theorem d_B_fixed_57 : decode b_B_fixed 57 = .ok (.iaload, 1) := by decide +kernel
theorem d_B_fixed_58 : decode b_B_fixed 58 = .ok (.iload_n 3, 1) := by decide +kernel
theorem d_B_fixed_59 : decode b_B_fixed 59 = .ok (.iadd, 1) := by decide +kernel
theorem d_B_fixed_60 : decode b_B_fixed 60 = .ok (.invokevirtual 143, 3) := by decide +kernel
theorem d_B_fixed_63 : decode b_B_fixed 63 = .ok (.aload_n 0, 1) := by decide +kernel
theorem d_B_fixed_64 : decode b_B_fixed 64 = .ok (.getfield 20, 3) := by decide +kernel
theorem d_B_fixed_67 : decode b_B_fixed 67 = .ok (.aload_n 0, 1) := by decide +kernel
theorem d_B_fixed_68 : decode b_B_fixed 68 = .ok (.invokevirtual 100, 3) := by decide +kernel
theorem d_B_fixed_71 : decode b_B_fixed 71 = .ok (.sipush 256, 3) := by decide +kernel
theorem d_B_fixed_74 : decode b_B_fixed 74 = .ok (.invokevirtual 137, 3) := by decide +kernel
theorem d_B_fixed_77 : decode b_B_fixed 77 = .ok (.ifCond .ne 20, 3) := by decide +kernel
theorem d_B_fixed_80 : decode b_B_fixed 80 = .ok (.aload_n 0, 1) := by decide +kernel
theorem d_B_fixed_81 : decode b_B_fixed 81 = .ok (.getfield 20, 3) := by decide +kernel
theorem d_B_fixed_84 : decode b_B_fixed 84 = .ok (.aload_n 0, 1) := by decide +kernel
theorem d_B_fixed_85 : decode b_B_fixed 85 = .ok (.invokevirtual 100, 3) := by decide +kernel
theorem d_B_fixed_88 : decode b_B_fixed 88 = .ok (.sipush 256, 3) := by decide +kernel
theorem d_B_fixed_91 : decode b_B_fixed 91 = .ok (.invokevirtual 140, 3) := by decide +kernel
theorem d_B_fixed_94 : decode b_B_fixed 94 = .ok (.ifCond .ne 9, 3) := by decide +kernel
theorem d_B_fixed_97 : decode b_B_fixed 97 = .ok (.iload_n 2, 1) := by decide +kernel
theorem d_B_fixed_98 : decode b_B_fixed 98 = .ok (.iconst 1, 1) := by decide +kernel
theorem d_B_fixed_99 : decode b_B_fixed 99 = .ok (.iload_n 3, 1) := by decide +kernel
theorem d_B_fixed_100 : decode b_B_fixed 100 = .ok (.ishl, 1) := by decide +kernel
theorem d_B_fixed_101 : decode b_B_fixed 101 = .ok (.ior, 1) := by decide +kernel
theorem d_B_fixed_102 : decode b_B_fixed 102 = .ok (.istore_n 2, 1) := by decide +kernel
theorem d_B_fixed_103 : decode b_B_fixed 103 = .ok (.iinc 3 1, 3) := by decide +kernel
theorem d_B_fixed_106 : decode b_B_fixed 106 = .ok (.goto (-71), 3) := by decide +kernel
theorem d_B_fixed_109 : decode b_B_fixed 109 = .ok (.iload_n 2, 1) := by decide +kernel
theorem d_B_fixed_110 : decode b_B_fixed 110 = .ok (.ireturn, 1) := by decide +kernel
theorem d_B_least_0 : decode b_B_least 0 = .ok (.aload_n 0, 1) := by decide +kernel
theorem d_B_least_1 : decode b_B_least 1 = .ok (.iload_n 1, 1) := by decide +kernel
theorem d_B_least_2 : decode b_B_least 2 = .ok (.invokevirtual 127, 3) := by decide +kernel
theorem d_B_least_5 : decode b_B_least 5 = .ok (.ifCond .ne 11, 3) := by decide +kernel
theorem d_B_least_8 : decode b_B_least 8 = .ok (.new 94, 3) := by decide +kernel
theorem d_B_least_11 : decode b_B_least 11 = .ok (.dup, 1) := by decide +kernel
theorem d_B_least_12 : decode b_B_least 12 = .ok (.invokespecial 96, 3) := by decide +kernel
theorem d_B_least_15 : decode b_B_least 15 = .ok (.athrow, 1) := by decide +kernel
theorem d_B_least_16 : decode b_B_least 16 = .ok (.aload_n 0, 1) := by decide +kernel
theorem d_B_least_17 : decode b_B_least 17 = .ok (.invokevirtual 113, 3) := by decide +kernel
theorem d_B_least_20 : decode b_B_least 20 = .ok (.ifCond .ne 11, 3) := by decide +kernel
theorem d_B_least_23 : decode b_B_least 23 = .ok (.new 120, 3) := by decide +kernel
theorem d_B_least_26 : decode b_B_least 26 = .ok (.dup, 1) := by decide +kernel
theorem d_B_least_27 : decode b_B_least 27 = .ok (.invokespecial 122, 3) := by decide +kernel
theorem d_B_least_30 : decode b_B_least 30 = .ok (.athrow, 1) := by decide +kernel
theorem d_B_least_31 : decode b_B_least 31 = .ok (.aload_n 0, 1) := by decide +kernel
theorem d_B_least_32 : decode b_B_least 32 = .ok (.getfield 20, 3) := by decide +kernel
theorem d_B_least_35 : decode b_B_least 35 = .ok (.sipush 256, 3) := by decide +kernel
theorem d_B_least_38 : decode b_B_least 38 = .ok (.aload_n 0, 1) := by decide +kernel
theorem d_B_least_39 : decode b_B_least 39 = .ok (.invokevirtual 100, 3) := by decide +kernel
theorem d_B_least_42 : decode b_B_least 42 = .ok (.iconst 1, 1) := by decide +kernel
theorem d_B_least_43 : decode b_B_least 43 = .ok (.invokevirtual 110, 3) := by decide +kernel
theorem d_B_least_46 : decode b_B_least 46 = .ok (.iconst 0, 1) := by decide +kernel
theorem d_B_least_47 : decode b_B_least 47 = .ok (.istore_n 2, 1) := by decide +kernel
theorem d_B_least_48 : decode b_B_least 48 = .ok (.aload_n 0, 1) := by decide +kernel
theorem d_B_least_49 : decode b_B_least 49 = .ok (.getfield 28, 3) := by decide +kernel
theorem d_B_least_52 : decode b_B_least 52 = .ok (.iload_n 1, 1) := by decide +kernel
theorem d_B_least_53 : decode b_B_least 53 = .ok (.iaload, 1) := by decide +kernel
theorem d_B_least_54 : decode b_B_least 54 = .ok (.iconst 1, 1) := by decide +kernel
theorem d_B_least_55 : decode b_B_least 55 = .ok (.isub, 1) := by decide +kernel
theorem d_B_least_56 : decode b_B_least 56 = .ok (.istore_n 3, 1) := by decide +kernel
theorem d_B_least_57 : decode b_B_least 57 = .ok (.iload_n 3, 1) := by decide +kernel
theorem d_B_least_58 : decode b_B_least 58 = .ok (.ifCond .lt 53, 3) := by decide +kernel
theorem d_B_least_61 : decode b_B_least 61 = .ok (.aload_n 0, 1) := by decide +kernel
theorem d_B_least_62 : decode b_B_least 62 = .ok (.getfield 20, 3) := by decide +kernel
theorem d_B_least_65 : decode b_B_least 65 = .ok (.sipush 256, 3) := by decide +kernel
theorem d_B_least_68 : decode b_B_least 68 = .ok (.iload_n 1, 1) := by decide +kernel
theorem d_B_least_69 : decode b_B_least 69 = .ok (.invokestatic 130, 3) := by decide +kernel
theorem d_B_least_72 : decode b_B_least 72 = .ok (.iload_n 3, 1) := by decide +kernel
theorem d_B_least_73 : decode b_B_least 73 = .ok (.iadd, 1) := by decide +kernel
theorem d_B_least_74 : decode b_B_least 74 = .ok (.invokevirtual 137, 3) := by decide +kernel
theorem d_B_least_77 : decode b_B_least 77 = .ok (.ifCond .eq 12, 3) := by decide +kernel
theorem d_B_least_80 : decode b_B_least 80 = .ok (.iload_n 2, 1) := by decide +kernel
theorem d_B_least_81 : decode b_B_least 81 = .ok (.iconst 1, 1) := by decide +kernel
theorem d_B_least_82 : decode b_B_least 82 = .ok (.iload_n 3, 1) := by decide +kernel
theorem d_B_least_83 : decode b_B_least 83 = .ok (.ishl, 1) := by decide +kernel
theorem d_B_least_84 : decode b_B_least 84 = .ok (.ior, 1) := by decide +kernel
theorem d_B_least_85 : decode b_B_least 85 = .ok (.istore_n 2, 1) := by decide +kernel
theorem d_B_least_86 : decode b_B_least 86 = .ok (.goto 19, 3) := by decide +kernel
theorem d_B_least_89 : decode b_B_least 89 = .ok (.aload_n 0, 1) := by decide +kernel
theorem d_B_least_90 : decode b_B_least 90 = .ok (.getfield 20, 3) := by decide +kernel
theorem d_B_least_93 : decode b_B_least 93 = .ok (.sipush 256, 3) := by decide +kernel
theorem d_B_least_96 : decode b_B_least 96 = .ok (.iload_n 1, 1) := by decide +kernel
theorem d_B_least_97 : decode b_B_least 97 = .ok (.invokestatic 130, 3) := by decide +kernel
theorem d_B_least_100 : decode b_B_least 100 = .ok (.iload_n 3, 1) := by decide +kernel
theorem d_B_least_101 : decode b_B_least 101 = .ok (.iadd, 1) := by decide +kernel
theorem d_B_least_102 : decode b_B_least 102 = .ok (.invokevirtual 147, 3) := by decide +kernel
theorem d_B_least_105 : decode b_B_least 105 = .ok (.iinc 3 (-1), 3) := by decide +kernel
theorem d_B_least_108 : decode b_B_least 108 = .ok (.goto (-51), 3) := by decide +kernel
theorem d_B_least_111 : decode b_B_least 111 = .ok (.iload_n 2, 1) := by decide +kernel
theorem d_B_least_112 : decode b_B_least 112 = .ok (.ireturn, 1) := by decide +kernel
theorem d_B_assume_0 : decode b_B_assume 0 = .ok (.aload_n 0, 1) := by decide +kernel
theorem d_B_assume_1 : decode b_B_assume 1 = .ok (.iload_n 1, 1) := by decide +kernel
theorem d_B_assume_2 : decode b_B_assume 2 = .ok (.invokevirtual 91, 3) := by decide +kernel
theorem d_B_assume_5 : decode b_B_assume 5 = .ok (.ifCond .ne 11, 3) := by decide +kernel
theorem d_B_assume_8 : decode b_B_assume 8 = .ok (.new 94, 3) := by decide +kernel
theorem d_B_assume_11 : decode b_B_assume 11 = .ok (.dup, 1) := by decide +kernel
theorem d_B_assume_12 : decode b_B_assume 12 = .ok (.invokespecial 96, 3) := by decide +kernel
theorem d_B_assume_15 : decode b_B_assume 15 = .ok (.athrow, 1) := by decide +kernel
theorem d_B_assume_16 : decode b_B_assume 16 = .ok (.aload_n 0, 1) := by decide +kernel
theorem d_B_assume_17 : decode b_B_assume 17 = .ok (.getfield 150, 3) := by decide +kernel
theorem d_B_assume_20 : decode b_B_assume 20 = .ok (.bipush 8, 2) := by decide +kernel
theorem d_B_assume_22 : decode b_B_assume 22 = .ok (.if_icmp .lt 11, 3) := by decide +kernel
theorem d_B_assume_25 : decode b_B_assume 25 = .ok (.new 57, 3) := by decide +kernel
theorem d_B_assume_28 : decode b_B_assume 28 = .ok (.dup, 1) := by decide +kernel
theorem d_B_assume_29 : decode b_B_assume 29 = .ok (.invokespecial 59, 3) := by decide +kernel
theorem d_B_assume_32 : decode b_B_assume 32 = .ok (.athrow, 1) := by decide +kernel
theorem d_B_assume_33 : decode b_B_assume 33 = .ok (.aload_n 0, 1) := by decide +kernel
theorem d_B_assume_34 : decode b_B_assume 34 = .ok (.getfield 34, 3) := by decide +kernel
theorem d_B_assume_37 : decode b_B_assume 37 = .ok (.aload_n 0, 1) := by decide +kernel
theorem d_B_assume_38 : decode b_B_assume 38 = .ok (.getfield 150, 3) := by decide +kernel
theorem d_B_assume_41 : decode b_B_assume 41 = .ok (.iload_n 1, 1) := by decide +kernel
theorem d_B_assume_42 : decode b_B_assume 42 = .ok (.iastore, 1) := by decide +kernel
theorem d_B_assume_43 : decode b_B_assume 43 = .ok (.aload_n 0, 1) := by decide +kernel
theorem d_B_assume_44 : decode b_B_assume 44 = .ok (.dup, 1) := by decide +kernel
theorem d_B_assume_45 : decode b_B_assume 45 = .ok (.getfield 150, 3) := by decide +kernel
theorem d_B_assume_48 : decode b_B_assume 48 = .ok (.iconst 1, 1) := by decide +kernel
theorem d_B_assume_49 : decode b_B_assume 49 = .ok (.iadd, 1) := by decide +kernel
theorem d_B_assume_50 : decode b_B_assume 50 = .ok (.putfield 150, 3) := by decide +kernel
theorem d_B_assume_53 : decode b_B_assume 53 = .ok (.aload_n 0, 1) := by decide +kernel
theorem d_B_assume_54 : decode b_B_assume 54 = .ok (.getfield 150, 3) := by decide +kernel
theorem d_B_assume_57 : decode b_B_assume 57 = .ok (.ireturn, 1) := by decide +kernel
theorem d_B_clear_0 : decode b_B_clear 0 = .ok (.aload_n 0, 1) := by decide +kernel
theorem d_B_clear_1 : decode b_B_clear 1 = .ok (.getfield 150, 3) := by decide +kernel
theorem d_B_clear_4 : decode b_B_clear 4 = .ok (.istore_n 1, 1) := by decide +kernel
theorem d_B_clear_5 : decode b_B_clear 5 = .ok (.aload_n 0, 1) := by decide +kernel
theorem d_B_clear_6 : decode b_B_clear 6 = .ok (.iconst 0, 1) := by decide +kernel
theorem d_B_clear_7 : decode b_B_clear 7 = .ok (.putfield 150, 3) := by decide +kernel
theorem d_B_clear_10 : decode b_B_clear 10 = .ok (.iload_n 1, 1) := by decide +kernel
theorem d_B_clear_11 : decode b_B_clear 11 = .ok (.ireturn, 1) := by decide +kernel
theorem d_B_attempt_0 : decode b_B_attempt 0 = .ok (.aload_n 0, 1) := by decide +kernel
theorem d_B_attempt_1 : decode b_B_attempt 1 = .ok (.aload_n 0, 1) := by decide +kernel
theorem d_B_attempt_2 : decode b_B_attempt 2 = .ok (.invokevirtual 153, 3) := by decide +kernel
theorem d_B_attempt_5 : decode b_B_attempt 5 = .ok (.invokevirtual 156, 3) := by decide +kernel
theorem d_B_attempt_8 : decode b_B_attempt 8 = .ok (.ifCond .eq 7, 3) := by decide +kernel
theorem d_B_attempt_11 : decode b_B_attempt 11 = .ok (.iconst 1, 1) := by decide +kernel
theorem d_B_attempt_12 : decode b_B_attempt 12 = .ok (.goto 4, 3) := by decide +kernel
theorem d_B_attempt_15 : decode b_B_attempt 15 = .ok (.iconst 0, 1) := by decide +kernel
theorem d_B_attempt_16 : decode b_B_attempt 16 = .ok (.ireturn, 1) := by decide +kernel
theorem d_B_blame_0 : decode b_B_blame 0 = .ok (.aload_n 0, 1) := by decide +kernel
theorem d_B_blame_1 : decode b_B_blame 1 = .ok (.invokevirtual 153, 3) := by decide +kernel
theorem d_B_blame_4 : decode b_B_blame 4 = .ok (.istore_n 1, 1) := by decide +kernel
theorem d_B_blame_5 : decode b_B_blame 5 = .ok (.aload_n 0, 1) := by decide +kernel
theorem d_B_blame_6 : decode b_B_blame 6 = .ok (.iload_n 1, 1) := by decide +kernel
theorem d_B_blame_7 : decode b_B_blame 7 = .ok (.invokevirtual 156, 3) := by decide +kernel
theorem d_B_blame_10 : decode b_B_blame 10 = .ok (.ifCond .eq 11, 3) := by decide +kernel
theorem d_B_blame_13 : decode b_B_blame 13 = .ok (.new 57, 3) := by decide +kernel
theorem d_B_blame_16 : decode b_B_blame 16 = .ok (.dup, 1) := by decide +kernel
theorem d_B_blame_17 : decode b_B_blame 17 = .ok (.invokespecial 59, 3) := by decide +kernel
theorem d_B_blame_20 : decode b_B_blame 20 = .ok (.athrow, 1) := by decide +kernel
theorem d_B_blame_21 : decode b_B_blame 21 = .ok (.iconst 0, 1) := by decide +kernel
theorem d_B_blame_22 : decode b_B_blame 22 = .ok (.istore_n 2, 1) := by decide +kernel
theorem d_B_blame_23 : decode b_B_blame 23 = .ok (.iload_n 2, 1) := by decide +kernel
theorem d_B_blame_24 : decode b_B_blame 24 = .ok (.aload_n 0, 1) := by decide +kernel
theorem d_B_blame_25 : decode b_B_blame 25 = .ok (.getfield 150, 3) := by decide +kernel
theorem d_B_blame_28 : decode b_B_blame 28 = .ok (.if_icmp .ge 27, 3) := by decide +kernel
theorem d_B_blame_31 : decode b_B_blame 31 = .ok (.iload_n 1, 1) := by decide +kernel
theorem d_B_blame_32 : decode b_B_blame 32 = .ok (.iconst 1, 1) := by decide +kernel
theorem d_B_blame_33 : decode b_B_blame 33 = .ok (.iload_n 2, 1) := by decide +kernel
theorem d_B_blame_34 : decode b_B_blame 34 = .ok (.ishl, 1) := by decide +kernel
theorem d_B_blame_35 : decode b_B_blame 35 = .ok (.iconst (-1), 1) := by decide +kernel
theorem d_B_blame_36 : decode b_B_blame 36 = .ok (.ixor, 1) := by decide +kernel
theorem d_B_blame_37 : decode b_B_blame 37 = .ok (.iand, 1) := by decide +kernel
theorem d_B_blame_38 : decode b_B_blame 38 = .ok (.istore_n 3, 1) := by decide +kernel
theorem d_B_blame_39 : decode b_B_blame 39 = .ok (.aload_n 0, 1) := by decide +kernel
theorem d_B_blame_40 : decode b_B_blame 40 = .ok (.iload_n 3, 1) := by decide +kernel
theorem d_B_blame_41 : decode b_B_blame 41 = .ok (.invokevirtual 156, 3) := by decide +kernel
theorem d_B_blame_44 : decode b_B_blame 44 = .ok (.ifCond .ne 5, 3) := by decide +kernel
theorem d_B_blame_47 : decode b_B_blame 47 = .ok (.iload_n 3, 1) := by decide +kernel
theorem d_B_blame_48 : decode b_B_blame 48 = .ok (.istore_n 1, 1) := by decide +kernel
theorem d_B_blame_49 : decode b_B_blame 49 = .ok (.iinc 2 1, 3) := by decide +kernel
theorem d_B_blame_52 : decode b_B_blame 52 = .ok (.goto (-29), 3) := by decide +kernel
theorem d_B_blame_55 : decode b_B_blame 55 = .ok (.iload_n 1, 1) := by decide +kernel
theorem d_B_blame_56 : decode b_B_blame 56 = .ok (.ireturn, 1) := by decide +kernel
theorem d_B_count_0 : decode b_B_count 0 = .ok (.iload_n 1, 1) := by decide +kernel
theorem d_B_count_1 : decode b_B_count 1 = .ok (.tableswitch 78 0 6 #[43, 48, 53, 58, 63, 68, 73], 43) := by decide +kernel
theorem d_B_count_44 : decode b_B_count 44 = .ok (.aload_n 0, 1) := by decide +kernel
theorem d_B_count_45 : decode b_B_count 45 = .ok (.getfield 50, 3) := by decide +kernel
theorem d_B_count_48 : decode b_B_count 48 = .ok (.ireturn, 1) := by decide +kernel
theorem d_B_count_49 : decode b_B_count 49 = .ok (.aload_n 0, 1) := by decide +kernel
theorem d_B_count_50 : decode b_B_count 50 = .ok (.getfield 64, 3) := by decide +kernel
theorem d_B_count_53 : decode b_B_count 53 = .ok (.ireturn, 1) := by decide +kernel
theorem d_B_count_54 : decode b_B_count 54 = .ok (.aload_n 0, 1) := by decide +kernel
theorem d_B_count_55 : decode b_B_count 55 = .ok (.getfield 82, 3) := by decide +kernel
theorem d_B_count_58 : decode b_B_count 58 = .ok (.ireturn, 1) := by decide +kernel
theorem d_B_count_59 : decode b_B_count 59 = .ok (.aload_n 0, 1) := by decide +kernel
theorem d_B_count_60 : decode b_B_count 60 = .ok (.getfield 97, 3) := by decide +kernel
theorem d_B_count_63 : decode b_B_count 63 = .ok (.ireturn, 1) := by decide +kernel
theorem d_B_count_64 : decode b_B_count 64 = .ok (.aload_n 0, 1) := by decide +kernel
theorem d_B_count_65 : decode b_B_count 65 = .ok (.getfield 107, 3) := by decide +kernel
theorem d_B_count_68 : decode b_B_count 68 = .ok (.ireturn, 1) := by decide +kernel
theorem d_B_count_69 : decode b_B_count 69 = .ok (.aload_n 0, 1) := by decide +kernel
theorem d_B_count_70 : decode b_B_count 70 = .ok (.getfield 150, 3) := by decide +kernel
theorem d_B_count_73 : decode b_B_count 73 = .ok (.ireturn, 1) := by decide +kernel
theorem d_B_count_74 : decode b_B_count 74 = .ok (.aload_n 0, 1) := by decide +kernel
theorem d_B_count_75 : decode b_B_count 75 = .ok (.getfield 54, 3) := by decide +kernel
theorem d_B_count_78 : decode b_B_count 78 = .ok (.ireturn, 1) := by decide +kernel
theorem d_B_count_79 : decode b_B_count 79 = .ok (.new 47, 3) := by decide +kernel
theorem d_B_count_82 : decode b_B_count 82 = .ok (.dup, 1) := by decide +kernel
theorem d_B_count_83 : decode b_B_count 83 = .ok (.invokespecial 49, 3) := by decide +kernel
theorem d_B_count_86 : decode b_B_count 86 = .ok (.athrow, 1) := by decide +kernel
theorem d_B_isWidth_0 : decode b_B_isWidth 0 = .ok (.iload_n 0, 1) := by decide +kernel
theorem d_B_isWidth_1 : decode b_B_isWidth 1 = .ok (.iconst 1, 1) := by decide +kernel
theorem d_B_isWidth_2 : decode b_B_isWidth 2 = .ok (.if_icmp .lt 12, 3) := by decide +kernel
theorem d_B_isWidth_5 : decode b_B_isWidth 5 = .ok (.iload_n 0, 1) := by decide +kernel
theorem d_B_isWidth_6 : decode b_B_isWidth 6 = .ok (.iconst 4, 1) := by decide +kernel
theorem d_B_isWidth_7 : decode b_B_isWidth 7 = .ok (.if_icmp .gt 7, 3) := by decide +kernel
theorem d_B_isWidth_10 : decode b_B_isWidth 10 = .ok (.iconst 1, 1) := by decide +kernel
theorem d_B_isWidth_11 : decode b_B_isWidth 11 = .ok (.goto 4, 3) := by decide +kernel
theorem d_B_isWidth_14 : decode b_B_isWidth 14 = .ok (.iconst 0, 1) := by decide +kernel
theorem d_B_isWidth_15 : decode b_B_isWidth 15 = .ok (.ireturn, 1) := by decide +kernel
theorem d_B_hasVariable_0 : decode b_B_hasVariable 0 = .ok (.iload_n 1, 1) := by decide +kernel
theorem d_B_hasVariable_1 : decode b_B_hasVariable 1 = .ok (.ifCond .lt 15, 3) := by decide +kernel
theorem d_B_hasVariable_4 : decode b_B_hasVariable 4 = .ok (.iload_n 1, 1) := by decide +kernel
theorem d_B_hasVariable_5 : decode b_B_hasVariable 5 = .ok (.aload_n 0, 1) := by decide +kernel
theorem d_B_hasVariable_6 : decode b_B_hasVariable 6 = .ok (.getfield 50, 3) := by decide +kernel
theorem d_B_hasVariable_9 : decode b_B_hasVariable 9 = .ok (.if_icmp .ge 7, 3) := by decide +kernel
theorem d_B_hasVariable_12 : decode b_B_hasVariable 12 = .ok (.iconst 1, 1) := by decide +kernel
theorem d_B_hasVariable_13 : decode b_B_hasVariable 13 = .ok (.goto 4, 3) := by decide +kernel
theorem d_B_hasVariable_16 : decode b_B_hasVariable 16 = .ok (.iconst 0, 1) := by decide +kernel
theorem d_B_hasVariable_17 : decode b_B_hasVariable 17 = .ok (.ireturn, 1) := by decide +kernel
theorem d_B_hasTerm_0 : decode b_B_hasTerm 0 = .ok (.iload_n 1, 1) := by decide +kernel
theorem d_B_hasTerm_1 : decode b_B_hasTerm 1 = .ok (.ifCond .lt 15, 3) := by decide +kernel
theorem d_B_hasTerm_4 : decode b_B_hasTerm 4 = .ok (.iload_n 1, 1) := by decide +kernel
theorem d_B_hasTerm_5 : decode b_B_hasTerm 5 = .ok (.aload_n 0, 1) := by decide +kernel
theorem d_B_hasTerm_6 : decode b_B_hasTerm 6 = .ok (.getfield 64, 3) := by decide +kernel
theorem d_B_hasTerm_9 : decode b_B_hasTerm 9 = .ok (.if_icmp .ge 7, 3) := by decide +kernel
theorem d_B_hasTerm_12 : decode b_B_hasTerm 12 = .ok (.iconst 1, 1) := by decide +kernel
theorem d_B_hasTerm_13 : decode b_B_hasTerm 13 = .ok (.goto 4, 3) := by decide +kernel
theorem d_B_hasTerm_16 : decode b_B_hasTerm 16 = .ok (.iconst 0, 1) := by decide +kernel
theorem d_B_hasTerm_17 : decode b_B_hasTerm 17 = .ok (.ireturn, 1) := by decide +kernel
theorem d_B_hasFormula_0 : decode b_B_hasFormula 0 = .ok (.iload_n 1, 1) := by decide +kernel
theorem d_B_hasFormula_1 : decode b_B_hasFormula 1 = .ok (.ifCond .lt 15, 3) := by decide +kernel
theorem d_B_hasFormula_4 : decode b_B_hasFormula 4 = .ok (.iload_n 1, 1) := by decide +kernel
theorem d_B_hasFormula_5 : decode b_B_hasFormula 5 = .ok (.aload_n 0, 1) := by decide +kernel
theorem d_B_hasFormula_6 : decode b_B_hasFormula 6 = .ok (.getfield 82, 3) := by decide +kernel
theorem d_B_hasFormula_9 : decode b_B_hasFormula 9 = .ok (.if_icmp .ge 7, 3) := by decide +kernel
theorem d_B_hasFormula_12 : decode b_B_hasFormula 12 = .ok (.iconst 1, 1) := by decide +kernel
theorem d_B_hasFormula_13 : decode b_B_hasFormula 13 = .ok (.goto 4, 3) := by decide +kernel
theorem d_B_hasFormula_16 : decode b_B_hasFormula 16 = .ok (.iconst 0, 1) := by decide +kernel
theorem d_B_hasFormula_17 : decode b_B_hasFormula 17 = .ok (.ireturn, 1) := by decide +kernel
theorem d_B_hasModel_0 : decode b_B_hasModel 0 = .ok (.aload_n 0, 1) := by decide +kernel
theorem d_B_hasModel_1 : decode b_B_hasModel 1 = .ok (.getfield 20, 3) := by decide +kernel
theorem d_B_hasModel_4 : decode b_B_hasModel 4 = .ok (.aload_n 0, 1) := by decide +kernel
theorem d_B_hasModel_5 : decode b_B_hasModel 5 = .ok (.invokevirtual 100, 3) := by decide +kernel
theorem d_B_hasModel_8 : decode b_B_hasModel 8 = .ok (.invokevirtual 159, 3) := by decide +kernel
theorem d_B_hasModel_11 : decode b_B_hasModel 11 = .ok (.ifCond .ne 7, 3) := by decide +kernel
theorem d_B_hasModel_14 : decode b_B_hasModel 14 = .ok (.iconst 1, 1) := by decide +kernel
theorem d_B_hasModel_15 : decode b_B_hasModel 15 = .ok (.goto 4, 3) := by decide +kernel
theorem d_B_hasModel_18 : decode b_B_hasModel 18 = .ok (.iconst 0, 1) := by decide +kernel
theorem d_B_hasModel_19 : decode b_B_hasModel 19 = .ok (.ireturn, 1) := by decide +kernel
theorem d_B_modelRow_0 : decode b_B_modelRow 0 = .ok (.sipush 250, 3) := by decide +kernel
theorem d_B_modelRow_3 : decode b_B_modelRow 3 = .ok (.aload_n 0, 1) := by decide +kernel
theorem d_B_modelRow_4 : decode b_B_modelRow 4 = .ok (.getfield 107, 3) := by decide +kernel
theorem d_B_modelRow_7 : decode b_B_modelRow 7 = .ok (.iadd, 1) := by decide +kernel
theorem d_B_modelRow_8 : decode b_B_modelRow 8 = .ok (.ireturn, 1) := by decide +kernel
theorem d_B_termRow_0 : decode b_B_termRow 0 = .ok (.bipush 50, 2) := by decide +kernel
theorem d_B_termRow_2 : decode b_B_termRow 2 = .ok (.iload_n 0, 1) := by decide +kernel
theorem d_B_termRow_3 : decode b_B_termRow 3 = .ok (.iconst 4, 1) := by decide +kernel
theorem d_B_termRow_4 : decode b_B_termRow 4 = .ok (.imul, 1) := by decide +kernel
theorem d_B_termRow_5 : decode b_B_termRow 5 = .ok (.iadd, 1) := by decide +kernel
theorem d_B_termRow_6 : decode b_B_termRow 6 = .ok (.ireturn, 1) := by decide +kernel
theorem d_B_allAssumptions_0 : decode b_B_allAssumptions 0 = .ok (.iconst 1, 1) := by decide +kernel
theorem d_B_allAssumptions_1 : decode b_B_allAssumptions 1 = .ok (.aload_n 0, 1) := by decide +kernel
theorem d_B_allAssumptions_2 : decode b_B_allAssumptions 2 = .ok (.getfield 150, 3) := by decide +kernel
theorem d_B_allAssumptions_5 : decode b_B_allAssumptions 5 = .ok (.ishl, 1) := by decide +kernel
theorem d_B_allAssumptions_6 : decode b_B_allAssumptions 6 = .ok (.iconst 1, 1) := by decide +kernel
theorem d_B_allAssumptions_7 : decode b_B_allAssumptions 7 = .ok (.isub, 1) := by decide +kernel
theorem d_B_allAssumptions_8 : decode b_B_allAssumptions 8 = .ok (.ireturn, 1) := by decide +kernel
theorem d_B_canAssume_0 : decode b_B_canAssume 0 = .ok (.aload_n 0, 1) := by decide +kernel
theorem d_B_canAssume_1 : decode b_B_canAssume 1 = .ok (.getfield 20, 3) := by decide +kernel
theorem d_B_canAssume_4 : decode b_B_canAssume 4 = .ok (.sipush 256, 3) := by decide +kernel
theorem d_B_canAssume_7 : decode b_B_canAssume 7 = .ok (.aload_n 0, 1) := by decide +kernel
theorem d_B_canAssume_8 : decode b_B_canAssume 8 = .ok (.invokevirtual 100, 3) := by decide +kernel
theorem d_B_canAssume_11 : decode b_B_canAssume 11 = .ok (.iconst 1, 1) := by decide +kernel
theorem d_B_canAssume_12 : decode b_B_canAssume 12 = .ok (.invokevirtual 110, 3) := by decide +kernel
theorem d_B_canAssume_15 : decode b_B_canAssume 15 = .ok (.iconst 0, 1) := by decide +kernel
theorem d_B_canAssume_16 : decode b_B_canAssume 16 = .ok (.istore_n 2, 1) := by decide +kernel
theorem d_B_canAssume_17 : decode b_B_canAssume 17 = .ok (.iload_n 2, 1) := by decide +kernel
theorem d_B_canAssume_18 : decode b_B_canAssume 18 = .ok (.aload_n 0, 1) := by decide +kernel
theorem d_B_canAssume_19 : decode b_B_canAssume 19 = .ok (.getfield 150, 3) := by decide +kernel
theorem d_B_canAssume_22 : decode b_B_canAssume 22 = .ok (.if_icmp .ge 38, 3) := by decide +kernel
theorem d_B_canAssume_25 : decode b_B_canAssume 25 = .ok (.iload_n 1, 1) := by decide +kernel
theorem d_B_canAssume_26 : decode b_B_canAssume 26 = .ok (.iload_n 2, 1) := by decide +kernel
theorem d_B_canAssume_27 : decode b_B_canAssume 27 = .ok (.ishr, 1) := by decide +kernel
theorem d_B_canAssume_28 : decode b_B_canAssume 28 = .ok (.iconst 1, 1) := by decide +kernel
theorem d_B_canAssume_29 : decode b_B_canAssume 29 = .ok (.iand, 1) := by decide +kernel
theorem d_B_canAssume_30 : decode b_B_canAssume 30 = .ok (.iconst 1, 1) := by decide +kernel
theorem d_B_canAssume_31 : decode b_B_canAssume 31 = .ok (.if_icmp .ne 23, 3) := by decide +kernel
theorem d_B_canAssume_34 : decode b_B_canAssume 34 = .ok (.aload_n 0, 1) := by decide +kernel
theorem d_B_canAssume_35 : decode b_B_canAssume 35 = .ok (.getfield 20, 3) := by decide +kernel
theorem d_B_canAssume_38 : decode b_B_canAssume 38 = .ok (.sipush 256, 3) := by decide +kernel
theorem d_B_canAssume_41 : decode b_B_canAssume 41 = .ok (.sipush 256, 3) := by decide +kernel
theorem d_B_canAssume_44 : decode b_B_canAssume 44 = .ok (.aload_n 0, 1) := by decide +kernel
theorem d_B_canAssume_45 : decode b_B_canAssume 45 = .ok (.getfield 34, 3) := by decide +kernel
theorem d_B_canAssume_48 : decode b_B_canAssume 48 = .ok (.iload_n 2, 1) := by decide +kernel
theorem d_B_canAssume_49 : decode b_B_canAssume 49 = .ok (.iaload, 1) := by decide +kernel
theorem d_B_canAssume_50 : decode b_B_canAssume 50 = .ok (.iconst 1, 1) := by decide +kernel
theorem d_B_canAssume_51 : decode b_B_canAssume 51 = .ok (.invokevirtual 104, 3) := by decide +kernel
theorem d_B_canAssume_54 : decode b_B_canAssume 54 = .ok (.iinc 2 1, 3) := by decide +kernel
theorem d_B_canAssume_57 : decode b_B_canAssume 57 = .ok (.goto (-40), 3) := by decide +kernel
theorem d_B_canAssume_60 : decode b_B_canAssume 60 = .ok (.aload_n 0, 1) := by decide +kernel
theorem d_B_canAssume_61 : decode b_B_canAssume 61 = .ok (.getfield 20, 3) := by decide +kernel
theorem d_B_canAssume_64 : decode b_B_canAssume 64 = .ok (.sipush 256, 3) := by decide +kernel
theorem d_B_canAssume_67 : decode b_B_canAssume 67 = .ok (.invokevirtual 159, 3) := by decide +kernel
theorem d_B_canAssume_70 : decode b_B_canAssume 70 = .ok (.ifCond .ne 7, 3) := by decide +kernel
theorem d_B_canAssume_73 : decode b_B_canAssume 73 = .ok (.iconst 1, 1) := by decide +kernel
theorem d_B_canAssume_74 : decode b_B_canAssume 74 = .ok (.goto 4, 3) := by decide +kernel
theorem d_B_canAssume_77 : decode b_B_canAssume 77 = .ok (.iconst 0, 1) := by decide +kernel
theorem d_B_canAssume_78 : decode b_B_canAssume 78 = .ok (.ireturn, 1) := by decide +kernel
theorem d_B_widthToBuild_0 : decode b_B_widthToBuild 0 = .ok (.iload_n 1, 1) := by decide +kernel
theorem d_B_widthToBuild_1 : decode b_B_widthToBuild 1 = .ok (.tableswitch 208 0 14 #[75, 99, 118, 118, 118, 118, 118, 118, 125, 131, 131, 131, 150, 170, 177], 75) := by decide +kernel
theorem d_B_widthToBuild_76 : decode b_B_widthToBuild 76 = .ok (.iload_n 3, 1) := by decide +kernel
theorem d_B_widthToBuild_77 : decode b_B_widthToBuild 77 = .ok (.invokestatic 43, 3) := by decide +kernel
theorem d_B_widthToBuild_80 : decode b_B_widthToBuild 80 = .ok (.ifCond .eq 18, 3) := by decide +kernel
theorem d_B_widthToBuild_83 : decode b_B_widthToBuild 83 = .ok (.iload_n 2, 1) := by decide +kernel
theorem d_B_widthToBuild_84 : decode b_B_widthToBuild 84 = .ok (.ifCond .lt 14, 3) := by decide +kernel
theorem d_B_widthToBuild_87 : decode b_B_widthToBuild 87 = .ok (.iload_n 2, 1) := by decide +kernel
theorem d_B_widthToBuild_88 : decode b_B_widthToBuild 88 = .ok (.iconst 1, 1) := by decide +kernel
theorem d_B_widthToBuild_89 : decode b_B_widthToBuild 89 = .ok (.iload_n 3, 1) := by decide +kernel
theorem d_B_widthToBuild_90 : decode b_B_widthToBuild 90 = .ok (.ishl, 1) := by decide +kernel
theorem d_B_widthToBuild_91 : decode b_B_widthToBuild 91 = .ok (.if_icmp .ge 7, 3) := by decide +kernel
theorem d_B_widthToBuild_94 : decode b_B_widthToBuild 94 = .ok (.iload_n 3, 1) := by decide +kernel
theorem d_B_widthToBuild_95 : decode b_B_widthToBuild 95 = .ok (.goto 4, 3) := by decide +kernel
theorem d_B_widthToBuild_98 : decode b_B_widthToBuild 98 = .ok (.iconst 0, 1) := by decide +kernel
theorem d_B_widthToBuild_99 : decode b_B_widthToBuild 99 = .ok (.ireturn, 1) := by decide +kernel
theorem d_B_widthToBuild_100 : decode b_B_widthToBuild 100 = .ok (.aload_n 0, 1) := by decide +kernel
theorem d_B_widthToBuild_101 : decode b_B_widthToBuild 101 = .ok (.iload_n 2, 1) := by decide +kernel
theorem d_B_widthToBuild_102 : decode b_B_widthToBuild 102 = .ok (.invokevirtual 117, 3) := by decide +kernel
theorem d_B_widthToBuild_105 : decode b_B_widthToBuild 105 = .ok (.ifCond .eq 12, 3) := by decide +kernel
theorem d_B_widthToBuild_108 : decode b_B_widthToBuild 108 = .ok (.aload_n 0, 1) := by decide +kernel
theorem d_B_widthToBuild_109 : decode b_B_widthToBuild 109 = .ok (.getfield 21, 3) := by decide +kernel
theorem d_B_widthToBuild_112 : decode b_B_widthToBuild 112 = .ok (.iload_n 2, 1) := by decide +kernel
theorem d_B_widthToBuild_113 : decode b_B_widthToBuild 113 = .ok (.iaload, 1) := by decide +kernel
theorem d_B_widthToBuild_114 : decode b_B_widthToBuild 114 = .ok (.goto 4, 3) := by decide +kernel
theorem d_B_widthToBuild_117 : decode b_B_widthToBuild 117 = .ok (.iconst 0, 1) := by decide +kernel
theorem d_B_widthToBuild_118 : decode b_B_widthToBuild 118 = .ok (.ireturn, 1) := by decide +kernel
theorem d_B_widthToBuild_119 : decode b_B_widthToBuild 119 = .ok (.aload_n 0, 1) := by decide +kernel
theorem d_B_widthToBuild_120 : decode b_B_widthToBuild 120 = .ok (.iload_n 2, 1) := by decide +kernel
theorem d_B_widthToBuild_121 : decode b_B_widthToBuild 121 = .ok (.iload_n 3, 1) := by decide +kernel
theorem d_B_widthToBuild_122 : decode b_B_widthToBuild 122 = .ok (.invokevirtual 162, 3) := by decide +kernel
theorem d_B_widthToBuild_125 : decode b_B_widthToBuild 125 = .ok (.ireturn, 1) := by decide +kernel
theorem d_B_widthToBuild_126 : decode b_B_widthToBuild 126 = .ok (.aload_n 0, 1) := by decide +kernel
theorem d_B_widthToBuild_127 : decode b_B_widthToBuild 127 = .ok (.iload_n 2, 1) := by decide +kernel
theorem d_B_widthToBuild_128 : decode b_B_widthToBuild 128 = .ok (.invokevirtual 166, 3) := by decide +kernel
theorem d_B_widthToBuild_131 : decode b_B_widthToBuild 131 = .ok (.ireturn, 1) := by decide +kernel
theorem d_B_widthToBuild_132 : decode b_B_widthToBuild 132 = .ok (.iload_n 3, 1) := by decide +kernel
theorem d_B_widthToBuild_133 : decode b_B_widthToBuild 133 = .ok (.ifCond .lt 16, 3) := by decide +kernel
theorem d_B_widthToBuild_136 : decode b_B_widthToBuild 136 = .ok (.iload_n 3, 1) := by decide +kernel
theorem d_B_widthToBuild_137 : decode b_B_widthToBuild 137 = .ok (.iconst 4, 1) := by decide +kernel
theorem d_B_widthToBuild_138 : decode b_B_widthToBuild 138 = .ok (.if_icmp .gt 11, 3) := by decide +kernel
theorem d_B_widthToBuild_141 : decode b_B_widthToBuild 141 = .ok (.aload_n 0, 1) := by decide +kernel
theorem d_B_widthToBuild_142 : decode b_B_widthToBuild 142 = .ok (.iload_n 2, 1) := by decide +kernel
theorem d_B_widthToBuild_143 : decode b_B_widthToBuild 143 = .ok (.invokevirtual 166, 3) := by decide +kernel
theorem d_B_widthToBuild_146 : decode b_B_widthToBuild 146 = .ok (.goto 4, 3) := by decide +kernel
theorem d_B_widthToBuild_149 : decode b_B_widthToBuild 149 = .ok (.iconst 0, 1) := by decide +kernel
theorem d_B_widthToBuild_150 : decode b_B_widthToBuild 150 = .ok (.ireturn, 1) := by decide +kernel
theorem d_B_widthToBuild_151 : decode b_B_widthToBuild 151 = .ok (.aload_n 0, 1) := by decide +kernel
theorem d_B_widthToBuild_152 : decode b_B_widthToBuild 152 = .ok (.iload_n 2, 1) := by decide +kernel
theorem d_B_widthToBuild_153 : decode b_B_widthToBuild 153 = .ok (.invokevirtual 91, 3) := by decide +kernel
theorem d_B_widthToBuild_156 : decode b_B_widthToBuild 156 = .ok (.ifCond .eq 13, 3) := by decide +kernel
theorem d_B_widthToBuild_159 : decode b_B_widthToBuild 159 = .ok (.aload_n 0, 1) := by decide +kernel
theorem d_B_widthToBuild_160 : decode b_B_widthToBuild 160 = .ok (.iload_n 3, 1) := by decide +kernel
theorem d_B_widthToBuild_161 : decode b_B_widthToBuild 161 = .ok (.iload 4, 2) := by decide +kernel
theorem d_B_widthToBuild_163 : decode b_B_widthToBuild 163 = .ok (.invokevirtual 162, 3) := by decide +kernel
theorem d_B_widthToBuild_166 : decode b_B_widthToBuild 166 = .ok (.goto 4, 3) := by decide +kernel
theorem d_B_widthToBuild_169 : decode b_B_widthToBuild 169 = .ok (.iconst 0, 1) := by decide +kernel
theorem d_B_widthToBuild_170 : decode b_B_widthToBuild 170 = .ok (.ireturn, 1) := by decide +kernel
theorem d_B_widthToBuild_171 : decode b_B_widthToBuild 171 = .ok (.aload_n 0, 1) := by decide +kernel
theorem d_B_widthToBuild_172 : decode b_B_widthToBuild 172 = .ok (.iload_n 2, 1) := by decide +kernel
theorem d_B_widthToBuild_173 : decode b_B_widthToBuild 173 = .ok (.iload_n 3, 1) := by decide +kernel
theorem d_B_widthToBuild_174 : decode b_B_widthToBuild 174 = .ok (.invokevirtual 169, 3) := by decide +kernel
theorem d_B_widthToBuild_177 : decode b_B_widthToBuild 177 = .ok (.ireturn, 1) := by decide +kernel
theorem d_B_widthToBuild_178 : decode b_B_widthToBuild 178 = .ok (.iload_n 3, 1) := by decide +kernel
theorem d_B_widthToBuild_179 : decode b_B_widthToBuild 179 = .ok (.ifCond .lt 28, 3) := by decide +kernel
theorem d_B_widthToBuild_182 : decode b_B_widthToBuild 182 = .ok (.iload_n 3, 1) := by decide +kernel
theorem d_B_widthToBuild_183 : decode b_B_widthToBuild 183 = .ok (.iload 4, 2) := by decide +kernel
theorem d_B_widthToBuild_185 : decode b_B_widthToBuild 185 = .ok (.if_icmp .gt 22, 3) := by decide +kernel
theorem d_B_widthToBuild_188 : decode b_B_widthToBuild 188 = .ok (.iload 4, 2) := by decide +kernel
theorem d_B_widthToBuild_190 : decode b_B_widthToBuild 190 = .ok (.aload_n 0, 1) := by decide +kernel
theorem d_B_widthToBuild_191 : decode b_B_widthToBuild 191 = .ok (.iload_n 2, 1) := by decide +kernel
theorem d_B_widthToBuild_192 : decode b_B_widthToBuild 192 = .ok (.invokevirtual 166, 3) := by decide +kernel
theorem d_B_widthToBuild_195 : decode b_B_widthToBuild 195 = .ok (.if_icmp .ge 12, 3) := by decide +kernel
theorem d_B_widthToBuild_198 : decode b_B_widthToBuild 198 = .ok (.iload 4, 2) := by decide +kernel
theorem d_B_widthToBuild_200 : decode b_B_widthToBuild 200 = .ok (.iload_n 3, 1) := by decide +kernel
theorem d_B_widthToBuild_201 : decode b_B_widthToBuild 201 = .ok (.isub, 1) := by decide +kernel
theorem d_B_widthToBuild_202 : decode b_B_widthToBuild 202 = .ok (.iconst 1, 1) := by decide +kernel
theorem d_B_widthToBuild_203 : decode b_B_widthToBuild 203 = .ok (.iadd, 1) := by decide +kernel
theorem d_B_widthToBuild_204 : decode b_B_widthToBuild 204 = .ok (.goto 4, 3) := by decide +kernel
theorem d_B_widthToBuild_207 : decode b_B_widthToBuild 207 = .ok (.iconst 0, 1) := by decide +kernel
theorem d_B_widthToBuild_208 : decode b_B_widthToBuild 208 = .ok (.ireturn, 1) := by decide +kernel
theorem d_B_widthToBuild_209 : decode b_B_widthToBuild 209 = .ok (.iconst 0, 1) := by decide +kernel
theorem d_B_widthToBuild_210 : decode b_B_widthToBuild 210 = .ok (.ireturn, 1) := by decide +kernel
theorem d_B_widthOrNone_0 : decode b_B_widthOrNone 0 = .ok (.aload_n 0, 1) := by decide +kernel
theorem d_B_widthOrNone_1 : decode b_B_widthOrNone 1 = .ok (.iload_n 1, 1) := by decide +kernel
theorem d_B_widthOrNone_2 : decode b_B_widthOrNone 2 = .ok (.invokevirtual 127, 3) := by decide +kernel
theorem d_B_widthOrNone_5 : decode b_B_widthOrNone 5 = .ok (.ifCond .eq 12, 3) := by decide +kernel
theorem d_B_widthOrNone_8 : decode b_B_widthOrNone 8 = .ok (.aload_n 0, 1) := by decide +kernel
theorem d_B_widthOrNone_9 : decode b_B_widthOrNone 9 = .ok (.getfield 28, 3) := by decide +kernel
theorem d_B_widthOrNone_12 : decode b_B_widthOrNone 12 = .ok (.iload_n 1, 1) := by decide +kernel
theorem d_B_widthOrNone_13 : decode b_B_widthOrNone 13 = .ok (.iaload, 1) := by decide +kernel
theorem d_B_widthOrNone_14 : decode b_B_widthOrNone 14 = .ok (.goto 4, 3) := by decide +kernel
theorem d_B_widthOrNone_17 : decode b_B_widthOrNone 17 = .ok (.iconst 0, 1) := by decide +kernel
theorem d_B_widthOrNone_18 : decode b_B_widthOrNone 18 = .ok (.ireturn, 1) := by decide +kernel
theorem d_B_commonWidth_0 : decode b_B_commonWidth 0 = .ok (.aload_n 0, 1) := by decide +kernel
theorem d_B_commonWidth_1 : decode b_B_commonWidth 1 = .ok (.iload_n 1, 1) := by decide +kernel
theorem d_B_commonWidth_2 : decode b_B_commonWidth 2 = .ok (.invokevirtual 166, 3) := by decide +kernel
theorem d_B_commonWidth_5 : decode b_B_commonWidth 5 = .ok (.aload_n 0, 1) := by decide +kernel
theorem d_B_commonWidth_6 : decode b_B_commonWidth 6 = .ok (.iload_n 2, 1) := by decide +kernel
theorem d_B_commonWidth_7 : decode b_B_commonWidth 7 = .ok (.invokevirtual 166, 3) := by decide +kernel
theorem d_B_commonWidth_10 : decode b_B_commonWidth 10 = .ok (.if_icmp .ne 11, 3) := by decide +kernel
theorem d_B_commonWidth_13 : decode b_B_commonWidth 13 = .ok (.aload_n 0, 1) := by decide +kernel
theorem d_B_commonWidth_14 : decode b_B_commonWidth 14 = .ok (.iload_n 1, 1) := by decide +kernel
theorem d_B_commonWidth_15 : decode b_B_commonWidth 15 = .ok (.invokevirtual 166, 3) := by decide +kernel
theorem d_B_commonWidth_18 : decode b_B_commonWidth 18 = .ok (.goto 4, 3) := by decide +kernel
theorem d_B_commonWidth_21 : decode b_B_commonWidth 21 = .ok (.iconst 0, 1) := by decide +kernel
theorem d_B_commonWidth_22 : decode b_B_commonWidth 22 = .ok (.ireturn, 1) := by decide +kernel
theorem d_B_joinedWidth_0 : decode b_B_joinedWidth 0 = .ok (.aload_n 0, 1) := by decide +kernel
theorem d_B_joinedWidth_1 : decode b_B_joinedWidth 1 = .ok (.iload_n 1, 1) := by decide +kernel
theorem d_B_joinedWidth_2 : decode b_B_joinedWidth 2 = .ok (.invokevirtual 127, 3) := by decide +kernel
theorem d_B_joinedWidth_5 : decode b_B_joinedWidth 5 = .ok (.ifCond .eq 11, 3) := by decide +kernel
theorem d_B_joinedWidth_8 : decode b_B_joinedWidth 8 = .ok (.aload_n 0, 1) := by decide +kernel
theorem d_B_joinedWidth_9 : decode b_B_joinedWidth 9 = .ok (.iload_n 2, 1) := by decide +kernel
theorem d_B_joinedWidth_10 : decode b_B_joinedWidth 10 = .ok (.invokevirtual 127, 3) := by decide +kernel
theorem d_B_joinedWidth_13 : decode b_B_joinedWidth 13 = .ok (.ifCond .ne 5, 3) := by decide +kernel
theorem d_B_joinedWidth_16 : decode b_B_joinedWidth 16 = .ok (.iconst 0, 1) := by decide +kernel
theorem d_B_joinedWidth_17 : decode b_B_joinedWidth 17 = .ok (.ireturn, 1) := by decide +kernel
theorem d_B_joinedWidth_18 : decode b_B_joinedWidth 18 = .ok (.aload_n 0, 1) := by decide +kernel
theorem d_B_joinedWidth_19 : decode b_B_joinedWidth 19 = .ok (.getfield 28, 3) := by decide +kernel
theorem d_B_joinedWidth_22 : decode b_B_joinedWidth 22 = .ok (.iload_n 1, 1) := by decide +kernel
theorem d_B_joinedWidth_23 : decode b_B_joinedWidth 23 = .ok (.iaload, 1) := by decide +kernel
theorem d_B_joinedWidth_24 : decode b_B_joinedWidth 24 = .ok (.aload_n 0, 1) := by decide +kernel
theorem d_B_joinedWidth_25 : decode b_B_joinedWidth 25 = .ok (.getfield 28, 3) := by decide +kernel
theorem d_B_joinedWidth_28 : decode b_B_joinedWidth 28 = .ok (.iload_n 2, 1) := by decide +kernel
theorem d_B_joinedWidth_29 : decode b_B_joinedWidth 29 = .ok (.iaload, 1) := by decide +kernel
theorem d_B_joinedWidth_30 : decode b_B_joinedWidth 30 = .ok (.iadd, 1) := by decide +kernel
theorem d_B_joinedWidth_31 : decode b_B_joinedWidth 31 = .ok (.istore_n 3, 1) := by decide +kernel
theorem d_B_joinedWidth_32 : decode b_B_joinedWidth 32 = .ok (.iload_n 3, 1) := by decide +kernel
theorem d_B_joinedWidth_33 : decode b_B_joinedWidth 33 = .ok (.invokestatic 43, 3) := by decide +kernel
theorem d_B_joinedWidth_36 : decode b_B_joinedWidth 36 = .ok (.ifCond .eq 7, 3) := by decide +kernel
theorem d_B_joinedWidth_39 : decode b_B_joinedWidth 39 = .ok (.iload_n 3, 1) := by decide +kernel
theorem d_B_joinedWidth_40 : decode b_B_joinedWidth 40 = .ok (.goto 4, 3) := by decide +kernel
theorem d_B_joinedWidth_43 : decode b_B_joinedWidth 43 = .ok (.iconst 0, 1) := by decide +kernel
theorem d_B_joinedWidth_44 : decode b_B_joinedWidth 44 = .ok (.ireturn, 1) := by decide +kernel
theorem d_B_buildNumeric_0 : decode b_B_buildNumeric 0 = .ok (.aload_n 0, 1) := by decide +kernel
theorem d_B_buildNumeric_1 : decode b_B_buildNumeric 1 = .ok (.getfield 64, 3) := by decide +kernel
theorem d_B_buildNumeric_4 : decode b_B_buildNumeric 4 = .ok (.invokestatic 130, 3) := by decide +kernel
theorem d_B_buildNumeric_7 : decode b_B_buildNumeric 7 = .ok (.istore 4, 2) := by decide +kernel
theorem d_B_buildNumeric_9 : decode b_B_buildNumeric 9 = .ok (.aload_n 0, 1) := by decide +kernel
theorem d_B_buildNumeric_10 : decode b_B_buildNumeric 10 = .ok (.getfield 28, 3) := by decide +kernel
theorem d_B_buildNumeric_13 : decode b_B_buildNumeric 13 = .ok (.aload_n 0, 1) := by decide +kernel
theorem d_B_buildNumeric_14 : decode b_B_buildNumeric 14 = .ok (.getfield 64, 3) := by decide +kernel
theorem d_B_buildNumeric_17 : decode b_B_buildNumeric 17 = .ok (.iaload, 1) := by decide +kernel
theorem d_B_buildNumeric_18 : decode b_B_buildNumeric 18 = .ok (.istore 5, 2) := by decide +kernel
theorem d_B_buildNumeric_20 : decode b_B_buildNumeric 20 = .ok (.iload_n 1, 1) := by decide +kernel
theorem d_B_buildNumeric_21 : decode b_B_buildNumeric 21 = .ok (.tableswitch 97 0 3 #[31, 43, 53, 75], 31) := by decide +kernel
theorem d_B_buildNumeric_52 : decode b_B_buildNumeric 52 = .ok (.aload_n 0, 1) := by decide +kernel
theorem d_B_buildNumeric_53 : decode b_B_buildNumeric 53 = .ok (.iload 4, 2) := by decide +kernel
theorem d_B_buildNumeric_55 : decode b_B_buildNumeric 55 = .ok (.iload_n 2, 1) := by decide +kernel
theorem d_B_buildNumeric_56 : decode b_B_buildNumeric 56 = .ok (.iload 5, 2) := by decide +kernel
theorem d_B_buildNumeric_58 : decode b_B_buildNumeric 58 = .ok (.invokevirtual 172, 3) := by decide +kernel
theorem d_B_buildNumeric_61 : decode b_B_buildNumeric 61 = .ok (.goto 76, 3) := by decide +kernel
theorem d_B_buildNumeric_64 : decode b_B_buildNumeric 64 = .ok (.aload_n 0, 1) := by decide +kernel
theorem d_B_buildNumeric_65 : decode b_B_buildNumeric 65 = .ok (.iload 4, 2) := by decide +kernel
theorem d_B_buildNumeric_67 : decode b_B_buildNumeric 67 = .ok (.iload_n 2, 1) := by decide +kernel
theorem d_B_buildNumeric_68 : decode b_B_buildNumeric 68 = .ok (.invokevirtual 175, 3) := by decide +kernel
theorem d_B_buildNumeric_71 : decode b_B_buildNumeric 71 = .ok (.goto 66, 3) := by decide +kernel
theorem d_B_buildNumeric_74 : decode b_B_buildNumeric 74 = .ok (.aload_n 0, 1) := by decide +kernel
theorem d_B_buildNumeric_75 : decode b_B_buildNumeric 75 = .ok (.getfield 12, 3) := by decide +kernel
theorem d_B_buildNumeric_78 : decode b_B_buildNumeric 78 = .ok (.iload 4, 2) := by decide +kernel
theorem d_B_buildNumeric_80 : decode b_B_buildNumeric 80 = .ok (.iload_n 2, 1) := by decide +kernel
theorem d_B_buildNumeric_81 : decode b_B_buildNumeric 81 = .ok (.invokestatic 130, 3) := by decide +kernel
theorem d_B_buildNumeric_84 : decode b_B_buildNumeric 84 = .ok (.iload_n 3, 1) := by decide +kernel
theorem d_B_buildNumeric_85 : decode b_B_buildNumeric 85 = .ok (.invokestatic 130, 3) := by decide +kernel
theorem d_B_buildNumeric_88 : decode b_B_buildNumeric 88 = .ok (.iload 5, 2) := by decide +kernel
theorem d_B_buildNumeric_90 : decode b_B_buildNumeric 90 = .ok (.invokevirtual 178, 3) := by decide +kernel
theorem d_B_buildNumeric_93 : decode b_B_buildNumeric 93 = .ok (.goto 44, 3) := by decide +kernel
theorem d_B_buildNumeric_96 : decode b_B_buildNumeric 96 = .ok (.aload_n 0, 1) := by decide +kernel
theorem d_B_buildNumeric_97 : decode b_B_buildNumeric 97 = .ok (.getfield 12, 3) := by decide +kernel
theorem d_B_buildNumeric_100 : decode b_B_buildNumeric 100 = .ok (.iload 4, 2) := by decide +kernel
theorem d_B_buildNumeric_102 : decode b_B_buildNumeric 102 = .ok (.iload_n 2, 1) := by decide +kernel
theorem d_B_buildNumeric_103 : decode b_B_buildNumeric 103 = .ok (.invokestatic 130, 3) := by decide +kernel
theorem d_B_buildNumeric_106 : decode b_B_buildNumeric 106 = .ok (.iload_n 3, 1) := by decide +kernel
theorem d_B_buildNumeric_107 : decode b_B_buildNumeric 107 = .ok (.invokestatic 130, 3) := by decide +kernel
theorem d_B_buildNumeric_110 : decode b_B_buildNumeric 110 = .ok (.iload 5, 2) := by decide +kernel
theorem d_B_buildNumeric_112 : decode b_B_buildNumeric 112 = .ok (.invokevirtual 181, 3) := by decide +kernel
theorem d_B_buildNumeric_115 : decode b_B_buildNumeric 115 = .ok (.goto 22, 3) := by decide +kernel
theorem d_B_buildNumeric_118 : decode b_B_buildNumeric 118 = .ok (.aload_n 0, 1) := by decide +kernel
theorem d_B_buildNumeric_119 : decode b_B_buildNumeric 119 = .ok (.getfield 12, 3) := by decide +kernel
theorem d_B_buildNumeric_122 : decode b_B_buildNumeric 122 = .ok (.iload 4, 2) := by decide +kernel
theorem d_B_buildNumeric_124 : decode b_B_buildNumeric 124 = .ok (.iload_n 2, 1) := by decide +kernel
theorem d_B_buildNumeric_125 : decode b_B_buildNumeric 125 = .ok (.invokestatic 130, 3) := by decide +kernel
theorem d_B_buildNumeric_128 : decode b_B_buildNumeric 128 = .ok (.iload_n 3, 1) := by decide +kernel
theorem d_B_buildNumeric_129 : decode b_B_buildNumeric 129 = .ok (.invokestatic 130, 3) := by decide +kernel
theorem d_B_buildNumeric_132 : decode b_B_buildNumeric 132 = .ok (.iload 5, 2) := by decide +kernel
theorem d_B_buildNumeric_134 : decode b_B_buildNumeric 134 = .ok (.invokevirtual 184, 3) := by decide +kernel
theorem d_B_buildNumeric_137 : decode b_B_buildNumeric 137 = .ok (.return_, 1) := by decide +kernel
theorem d_B_buildNumber_0 : decode b_B_buildNumber 0 = .ok (.iconst 0, 1) := by decide +kernel
theorem d_B_buildNumber_1 : decode b_B_buildNumber 1 = .ok (.istore 4, 2) := by decide +kernel
theorem d_B_buildNumber_3 : decode b_B_buildNumber 3 = .ok (.iload 4, 2) := by decide +kernel
theorem d_B_buildNumber_5 : decode b_B_buildNumber 5 = .ok (.iload_n 3, 1) := by decide +kernel
theorem d_B_buildNumber_6 : decode b_B_buildNumber 6 = .ok (.if_icmp .ge 36, 3) := by decide +kernel
theorem d_B_buildNumber_9 : decode b_B_buildNumber 9 = .ok (.aload_n 0, 1) := by decide +kernel
theorem d_B_buildNumber_10 : decode b_B_buildNumber 10 = .ok (.getfield 20, 3) := by decide +kernel
theorem d_B_buildNumber_13 : decode b_B_buildNumber 13 = .ok (.iload_n 1, 1) := by decide +kernel
theorem d_B_buildNumber_14 : decode b_B_buildNumber 14 = .ok (.iload 4, 2) := by decide +kernel
theorem d_B_buildNumber_16 : decode b_B_buildNumber 16 = .ok (.iadd, 1) := by decide +kernel
theorem d_B_buildNumber_17 : decode b_B_buildNumber 17 = .ok (.iconst 1, 1) := by decide +kernel
theorem d_B_buildNumber_18 : decode b_B_buildNumber 18 = .ok (.iload_n 2, 1) := by decide +kernel
theorem d_B_buildNumber_19 : decode b_B_buildNumber 19 = .ok (.iload 4, 2) := by decide +kernel
theorem d_B_buildNumber_21 : decode b_B_buildNumber 21 = .ok (.ishr, 1) := by decide +kernel
theorem d_B_buildNumber_22 : decode b_B_buildNumber 22 = .ok (.iconst 1, 1) := by decide +kernel
theorem d_B_buildNumber_23 : decode b_B_buildNumber 23 = .ok (.iand, 1) := by decide +kernel
theorem d_B_buildNumber_24 : decode b_B_buildNumber 24 = .ok (.iconst 1, 1) := by decide +kernel
theorem d_B_buildNumber_25 : decode b_B_buildNumber 25 = .ok (.if_icmp .ne 7, 3) := by decide +kernel
theorem d_B_buildNumber_28 : decode b_B_buildNumber 28 = .ok (.iconst 1, 1) := by decide +kernel
theorem d_B_buildNumber_29 : decode b_B_buildNumber 29 = .ok (.goto 4, 3) := by decide +kernel
theorem d_B_buildNumber_32 : decode b_B_buildNumber 32 = .ok (.iconst 0, 1) := by decide +kernel
theorem d_B_buildNumber_33 : decode b_B_buildNumber 33 = .ok (.invokevirtual 37, 3) := by decide +kernel
theorem d_B_buildNumber_36 : decode b_B_buildNumber 36 = .ok (.iinc 4 1, 3) := by decide +kernel
theorem d_B_buildNumber_39 : decode b_B_buildNumber 39 = .ok (.goto (-36), 3) := by decide +kernel
theorem d_B_buildNumber_42 : decode b_B_buildNumber 42 = .ok (.return_, 1) := by decide +kernel
theorem d_B_buildVariable_0 : decode b_B_buildVariable 0 = .ok (.iconst 0, 1) := by decide +kernel
theorem d_B_buildVariable_1 : decode b_B_buildVariable 1 = .ok (.istore_n 3, 1) := by decide +kernel
theorem d_B_buildVariable_2 : decode b_B_buildVariable 2 = .ok (.iload_n 3, 1) := by decide +kernel
theorem d_B_buildVariable_3 : decode b_B_buildVariable 3 = .ok (.aload_n 0, 1) := by decide +kernel
theorem d_B_buildVariable_4 : decode b_B_buildVariable 4 = .ok (.getfield 21, 3) := by decide +kernel
theorem d_B_buildVariable_7 : decode b_B_buildVariable 7 = .ok (.iload_n 2, 1) := by decide +kernel
theorem d_B_buildVariable_8 : decode b_B_buildVariable 8 = .ok (.iaload, 1) := by decide +kernel
theorem d_B_buildVariable_9 : decode b_B_buildVariable 9 = .ok (.if_icmp .ge 27, 3) := by decide +kernel
theorem d_B_buildVariable_12 : decode b_B_buildVariable 12 = .ok (.aload_n 0, 1) := by decide +kernel
theorem d_B_buildVariable_13 : decode b_B_buildVariable 13 = .ok (.getfield 20, 3) := by decide +kernel
theorem d_B_buildVariable_16 : decode b_B_buildVariable 16 = .ok (.iload_n 1, 1) := by decide +kernel
theorem d_B_buildVariable_17 : decode b_B_buildVariable 17 = .ok (.iload_n 3, 1) := by decide +kernel
theorem d_B_buildVariable_18 : decode b_B_buildVariable 18 = .ok (.iadd, 1) := by decide +kernel
theorem d_B_buildVariable_19 : decode b_B_buildVariable 19 = .ok (.aload_n 0, 1) := by decide +kernel
theorem d_B_buildVariable_20 : decode b_B_buildVariable 20 = .ok (.getfield 25, 3) := by decide +kernel
theorem d_B_buildVariable_23 : decode b_B_buildVariable 23 = .ok (.iload_n 2, 1) := by decide +kernel
theorem d_B_buildVariable_24 : decode b_B_buildVariable 24 = .ok (.iaload, 1) := by decide +kernel
theorem d_B_buildVariable_25 : decode b_B_buildVariable 25 = .ok (.iload_n 3, 1) := by decide +kernel
theorem d_B_buildVariable_26 : decode b_B_buildVariable 26 = .ok (.iadd, 1) := by decide +kernel
theorem d_B_buildVariable_27 : decode b_B_buildVariable 27 = .ok (.invokevirtual 143, 3) := by decide +kernel
theorem d_B_buildVariable_30 : decode b_B_buildVariable 30 = .ok (.iinc 3 1, 3) := by decide +kernel
theorem d_B_buildVariable_33 : decode b_B_buildVariable 33 = .ok (.goto (-31), 3) := by decide +kernel
theorem d_B_buildVariable_36 : decode b_B_buildVariable 36 = .ok (.return_, 1) := by decide +kernel
theorem d_B_buildBitwise_0 : decode b_B_buildBitwise 0 = .ok (.aload_n 0, 1) := by decide +kernel
theorem d_B_buildBitwise_1 : decode b_B_buildBitwise 1 = .ok (.getfield 64, 3) := by decide +kernel
theorem d_B_buildBitwise_4 : decode b_B_buildBitwise 4 = .ok (.invokestatic 130, 3) := by decide +kernel
theorem d_B_buildBitwise_7 : decode b_B_buildBitwise 7 = .ok (.istore 4, 2) := by decide +kernel
theorem d_B_buildBitwise_9 : decode b_B_buildBitwise 9 = .ok (.aload_n 0, 1) := by decide +kernel
theorem d_B_buildBitwise_10 : decode b_B_buildBitwise 10 = .ok (.getfield 28, 3) := by decide +kernel
theorem d_B_buildBitwise_13 : decode b_B_buildBitwise 13 = .ok (.aload_n 0, 1) := by decide +kernel
theorem d_B_buildBitwise_14 : decode b_B_buildBitwise 14 = .ok (.getfield 64, 3) := by decide +kernel
theorem d_B_buildBitwise_17 : decode b_B_buildBitwise 17 = .ok (.iaload, 1) := by decide +kernel
theorem d_B_buildBitwise_18 : decode b_B_buildBitwise 18 = .ok (.istore 5, 2) := by decide +kernel
theorem d_B_buildBitwise_20 : decode b_B_buildBitwise 20 = .ok (.iload_n 1, 1) := by decide +kernel
theorem d_B_buildBitwise_21 : decode b_B_buildBitwise 21 = .ok (.tableswitch 93 5 7 #[27, 49, 71], 27) := by decide +kernel
theorem d_B_buildBitwise_48 : decode b_B_buildBitwise 48 = .ok (.aload_n 0, 1) := by decide +kernel
theorem d_B_buildBitwise_49 : decode b_B_buildBitwise 49 = .ok (.getfield 20, 3) := by decide +kernel
theorem d_B_buildBitwise_52 : decode b_B_buildBitwise 52 = .ok (.iload 4, 2) := by decide +kernel
theorem d_B_buildBitwise_54 : decode b_B_buildBitwise 54 = .ok (.iload_n 2, 1) := by decide +kernel
theorem d_B_buildBitwise_55 : decode b_B_buildBitwise 55 = .ok (.invokestatic 130, 3) := by decide +kernel
theorem d_B_buildBitwise_58 : decode b_B_buildBitwise 58 = .ok (.iload_n 3, 1) := by decide +kernel
theorem d_B_buildBitwise_59 : decode b_B_buildBitwise 59 = .ok (.invokestatic 130, 3) := by decide +kernel
theorem d_B_buildBitwise_62 : decode b_B_buildBitwise 62 = .ok (.iload 5, 2) := by decide +kernel
theorem d_B_buildBitwise_64 : decode b_B_buildBitwise 64 = .ok (.invokevirtual 104, 3) := by decide +kernel
theorem d_B_buildBitwise_67 : decode b_B_buildBitwise 67 = .ok (.goto 62, 3) := by decide +kernel
theorem d_B_buildBitwise_70 : decode b_B_buildBitwise 70 = .ok (.aload_n 0, 1) := by decide +kernel
theorem d_B_buildBitwise_71 : decode b_B_buildBitwise 71 = .ok (.getfield 20, 3) := by decide +kernel
theorem d_B_buildBitwise_74 : decode b_B_buildBitwise 74 = .ok (.iload 4, 2) := by decide +kernel
theorem d_B_buildBitwise_76 : decode b_B_buildBitwise 76 = .ok (.iload_n 2, 1) := by decide +kernel
theorem d_B_buildBitwise_77 : decode b_B_buildBitwise 77 = .ok (.invokestatic 130, 3) := by decide +kernel
theorem d_B_buildBitwise_80 : decode b_B_buildBitwise 80 = .ok (.iload_n 3, 1) := by decide +kernel
theorem d_B_buildBitwise_81 : decode b_B_buildBitwise 81 = .ok (.invokestatic 130, 3) := by decide +kernel
theorem d_B_buildBitwise_84 : decode b_B_buildBitwise 84 = .ok (.iload 5, 2) := by decide +kernel
theorem d_B_buildBitwise_86 : decode b_B_buildBitwise 86 = .ok (.invokevirtual 187, 3) := by decide +kernel
theorem d_B_buildBitwise_89 : decode b_B_buildBitwise 89 = .ok (.goto 40, 3) := by decide +kernel
theorem d_B_buildBitwise_92 : decode b_B_buildBitwise 92 = .ok (.aload_n 0, 1) := by decide +kernel
theorem d_B_buildBitwise_93 : decode b_B_buildBitwise 93 = .ok (.getfield 20, 3) := by decide +kernel
theorem d_B_buildBitwise_96 : decode b_B_buildBitwise 96 = .ok (.iload 4, 2) := by decide +kernel
theorem d_B_buildBitwise_98 : decode b_B_buildBitwise 98 = .ok (.iload_n 2, 1) := by decide +kernel
theorem d_B_buildBitwise_99 : decode b_B_buildBitwise 99 = .ok (.invokestatic 130, 3) := by decide +kernel
theorem d_B_buildBitwise_102 : decode b_B_buildBitwise 102 = .ok (.iload_n 3, 1) := by decide +kernel
theorem d_B_buildBitwise_103 : decode b_B_buildBitwise 103 = .ok (.invokestatic 130, 3) := by decide +kernel
theorem d_B_buildBitwise_106 : decode b_B_buildBitwise 106 = .ok (.iload 5, 2) := by decide +kernel
theorem d_B_buildBitwise_108 : decode b_B_buildBitwise 108 = .ok (.invokevirtual 190, 3) := by decide +kernel
theorem d_B_buildBitwise_111 : decode b_B_buildBitwise 111 = .ok (.goto 18, 3) := by decide +kernel
theorem d_B_buildBitwise_114 : decode b_B_buildBitwise 114 = .ok (.aload_n 0, 1) := by decide +kernel
theorem d_B_buildBitwise_115 : decode b_B_buildBitwise 115 = .ok (.getfield 20, 3) := by decide +kernel
theorem d_B_buildBitwise_118 : decode b_B_buildBitwise 118 = .ok (.iload 4, 2) := by decide +kernel
theorem d_B_buildBitwise_120 : decode b_B_buildBitwise 120 = .ok (.iload_n 2, 1) := by decide +kernel
theorem d_B_buildBitwise_121 : decode b_B_buildBitwise 121 = .ok (.invokestatic 130, 3) := by decide +kernel
theorem d_B_buildBitwise_124 : decode b_B_buildBitwise 124 = .ok (.iload 5, 2) := by decide +kernel
theorem d_B_buildBitwise_126 : decode b_B_buildBitwise 126 = .ok (.invokevirtual 193, 3) := by decide +kernel
theorem d_B_buildBitwise_129 : decode b_B_buildBitwise 129 = .ok (.return_, 1) := by decide +kernel
theorem d_B_buildArranged_0 : decode b_B_buildArranged 0 = .ok (.aload_n 0, 1) := by decide +kernel
theorem d_B_buildArranged_1 : decode b_B_buildArranged 1 = .ok (.getfield 64, 3) := by decide +kernel
theorem d_B_buildArranged_4 : decode b_B_buildArranged 4 = .ok (.invokestatic 130, 3) := by decide +kernel
theorem d_B_buildArranged_7 : decode b_B_buildArranged 7 = .ok (.istore 5, 2) := by decide +kernel
theorem d_B_buildArranged_9 : decode b_B_buildArranged 9 = .ok (.aload_n 0, 1) := by decide +kernel
theorem d_B_buildArranged_10 : decode b_B_buildArranged 10 = .ok (.getfield 28, 3) := by decide +kernel
theorem d_B_buildArranged_13 : decode b_B_buildArranged 13 = .ok (.aload_n 0, 1) := by decide +kernel
theorem d_B_buildArranged_14 : decode b_B_buildArranged 14 = .ok (.getfield 64, 3) := by decide +kernel
theorem d_B_buildArranged_17 : decode b_B_buildArranged 17 = .ok (.iaload, 1) := by decide +kernel
theorem d_B_buildArranged_18 : decode b_B_buildArranged 18 = .ok (.istore 6, 2) := by decide +kernel
theorem d_B_buildArranged_20 : decode b_B_buildArranged 20 = .ok (.iload_n 1, 1) := by decide +kernel
theorem d_B_buildArranged_21 : decode b_B_buildArranged 21 = .ok (.tableswitch 166 9 13 #[35, 54, 74, 94, 118], 35) := by decide +kernel
theorem d_B_buildArranged_56 : decode b_B_buildArranged 56 = .ok (.aload_n 0, 1) := by decide +kernel
theorem d_B_buildArranged_57 : decode b_B_buildArranged 57 = .ok (.getfield 12, 3) := by decide +kernel
theorem d_B_buildArranged_60 : decode b_B_buildArranged 60 = .ok (.iload 5, 2) := by decide +kernel
theorem d_B_buildArranged_62 : decode b_B_buildArranged 62 = .ok (.iload_n 2, 1) := by decide +kernel
theorem d_B_buildArranged_63 : decode b_B_buildArranged 63 = .ok (.invokestatic 130, 3) := by decide +kernel
theorem d_B_buildArranged_66 : decode b_B_buildArranged 66 = .ok (.iload 6, 2) := by decide +kernel
theorem d_B_buildArranged_68 : decode b_B_buildArranged 68 = .ok (.iload_n 3, 1) := by decide +kernel
theorem d_B_buildArranged_69 : decode b_B_buildArranged 69 = .ok (.invokevirtual 196, 3) := by decide +kernel
theorem d_B_buildArranged_72 : decode b_B_buildArranged 72 = .ok (.goto 132, 3) := by decide +kernel
theorem d_B_buildArranged_75 : decode b_B_buildArranged 75 = .ok (.aload_n 0, 1) := by decide +kernel
theorem d_B_buildArranged_76 : decode b_B_buildArranged 76 = .ok (.getfield 12, 3) := by decide +kernel
theorem d_B_buildArranged_79 : decode b_B_buildArranged 79 = .ok (.iload 5, 2) := by decide +kernel
theorem d_B_buildArranged_81 : decode b_B_buildArranged 81 = .ok (.iload_n 2, 1) := by decide +kernel
theorem d_B_buildArranged_82 : decode b_B_buildArranged 82 = .ok (.invokestatic 130, 3) := by decide +kernel
theorem d_B_buildArranged_85 : decode b_B_buildArranged 85 = .ok (.iload 6, 2) := by decide +kernel
theorem d_B_buildArranged_87 : decode b_B_buildArranged 87 = .ok (.iload_n 3, 1) := by decide +kernel
theorem d_B_buildArranged_88 : decode b_B_buildArranged 88 = .ok (.iconst 0, 1) := by decide +kernel
theorem d_B_buildArranged_89 : decode b_B_buildArranged 89 = .ok (.invokevirtual 199, 3) := by decide +kernel
theorem d_B_buildArranged_92 : decode b_B_buildArranged 92 = .ok (.goto 112, 3) := by decide +kernel
theorem d_B_buildArranged_95 : decode b_B_buildArranged 95 = .ok (.aload_n 0, 1) := by decide +kernel
theorem d_B_buildArranged_96 : decode b_B_buildArranged 96 = .ok (.getfield 12, 3) := by decide +kernel
theorem d_B_buildArranged_99 : decode b_B_buildArranged 99 = .ok (.iload 5, 2) := by decide +kernel
theorem d_B_buildArranged_101 : decode b_B_buildArranged 101 = .ok (.iload_n 2, 1) := by decide +kernel
theorem d_B_buildArranged_102 : decode b_B_buildArranged 102 = .ok (.invokestatic 130, 3) := by decide +kernel
theorem d_B_buildArranged_105 : decode b_B_buildArranged 105 = .ok (.iload 6, 2) := by decide +kernel
theorem d_B_buildArranged_107 : decode b_B_buildArranged 107 = .ok (.iload_n 3, 1) := by decide +kernel
theorem d_B_buildArranged_108 : decode b_B_buildArranged 108 = .ok (.iconst 1, 1) := by decide +kernel
theorem d_B_buildArranged_109 : decode b_B_buildArranged 109 = .ok (.invokevirtual 199, 3) := by decide +kernel
theorem d_B_buildArranged_112 : decode b_B_buildArranged 112 = .ok (.goto 92, 3) := by decide +kernel
theorem d_B_buildArranged_115 : decode b_B_buildArranged 115 = .ok (.aload_n 0, 1) := by decide +kernel
theorem d_B_buildArranged_116 : decode b_B_buildArranged 116 = .ok (.getfield 12, 3) := by decide +kernel
theorem d_B_buildArranged_119 : decode b_B_buildArranged 119 = .ok (.iload 5, 2) := by decide +kernel
theorem d_B_buildArranged_121 : decode b_B_buildArranged 121 = .ok (.iload_n 2, 1) := by decide +kernel
theorem d_B_buildArranged_122 : decode b_B_buildArranged 122 = .ok (.iload_n 3, 1) := by decide +kernel
theorem d_B_buildArranged_123 : decode b_B_buildArranged 123 = .ok (.invokestatic 130, 3) := by decide +kernel
theorem d_B_buildArranged_126 : decode b_B_buildArranged 126 = .ok (.iload 4, 2) := by decide +kernel
theorem d_B_buildArranged_128 : decode b_B_buildArranged 128 = .ok (.invokestatic 130, 3) := by decide +kernel
theorem d_B_buildArranged_131 : decode b_B_buildArranged 131 = .ok (.iload 6, 2) := by decide +kernel
theorem d_B_buildArranged_133 : decode b_B_buildArranged 133 = .ok (.invokevirtual 203, 3) := by decide +kernel
theorem d_B_buildArranged_136 : decode b_B_buildArranged 136 = .ok (.goto 68, 3) := by decide +kernel
theorem d_B_buildArranged_139 : decode b_B_buildArranged 139 = .ok (.aload_n 0, 1) := by decide +kernel
theorem d_B_buildArranged_140 : decode b_B_buildArranged 140 = .ok (.getfield 20, 3) := by decide +kernel
theorem d_B_buildArranged_143 : decode b_B_buildArranged 143 = .ok (.iload 5, 2) := by decide +kernel
theorem d_B_buildArranged_145 : decode b_B_buildArranged 145 = .ok (.iload_n 2, 1) := by decide +kernel
theorem d_B_buildArranged_146 : decode b_B_buildArranged 146 = .ok (.invokestatic 130, 3) := by decide +kernel
theorem d_B_buildArranged_149 : decode b_B_buildArranged 149 = .ok (.aload_n 0, 1) := by decide +kernel
theorem d_B_buildArranged_150 : decode b_B_buildArranged 150 = .ok (.getfield 28, 3) := by decide +kernel
theorem d_B_buildArranged_153 : decode b_B_buildArranged 153 = .ok (.iload_n 2, 1) := by decide +kernel
theorem d_B_buildArranged_154 : decode b_B_buildArranged 154 = .ok (.iaload, 1) := by decide +kernel
theorem d_B_buildArranged_155 : decode b_B_buildArranged 155 = .ok (.invokevirtual 110, 3) := by decide +kernel
theorem d_B_buildArranged_158 : decode b_B_buildArranged 158 = .ok (.aload_n 0, 1) := by decide +kernel
theorem d_B_buildArranged_159 : decode b_B_buildArranged 159 = .ok (.getfield 20, 3) := by decide +kernel
theorem d_B_buildArranged_162 : decode b_B_buildArranged 162 = .ok (.iload 5, 2) := by decide +kernel
theorem d_B_buildArranged_164 : decode b_B_buildArranged 164 = .ok (.aload_n 0, 1) := by decide +kernel
theorem d_B_buildArranged_165 : decode b_B_buildArranged 165 = .ok (.getfield 28, 3) := by decide +kernel
theorem d_B_buildArranged_168 : decode b_B_buildArranged 168 = .ok (.iload_n 2, 1) := by decide +kernel
theorem d_B_buildArranged_169 : decode b_B_buildArranged 169 = .ok (.iaload, 1) := by decide +kernel
theorem d_B_buildArranged_170 : decode b_B_buildArranged 170 = .ok (.iadd, 1) := by decide +kernel
theorem d_B_buildArranged_171 : decode b_B_buildArranged 171 = .ok (.iload_n 3, 1) := by decide +kernel
theorem d_B_buildArranged_172 : decode b_B_buildArranged 172 = .ok (.invokestatic 130, 3) := by decide +kernel
theorem d_B_buildArranged_175 : decode b_B_buildArranged 175 = .ok (.aload_n 0, 1) := by decide +kernel
theorem d_B_buildArranged_176 : decode b_B_buildArranged 176 = .ok (.getfield 28, 3) := by decide +kernel
theorem d_B_buildArranged_179 : decode b_B_buildArranged 179 = .ok (.iload_n 3, 1) := by decide +kernel
theorem d_B_buildArranged_180 : decode b_B_buildArranged 180 = .ok (.iaload, 1) := by decide +kernel
theorem d_B_buildArranged_181 : decode b_B_buildArranged 181 = .ok (.invokevirtual 110, 3) := by decide +kernel
theorem d_B_buildArranged_184 : decode b_B_buildArranged 184 = .ok (.goto 20, 3) := by decide +kernel
theorem d_B_buildArranged_187 : decode b_B_buildArranged 187 = .ok (.aload_n 0, 1) := by decide +kernel
theorem d_B_buildArranged_188 : decode b_B_buildArranged 188 = .ok (.getfield 20, 3) := by decide +kernel
theorem d_B_buildArranged_191 : decode b_B_buildArranged 191 = .ok (.iload 5, 2) := by decide +kernel
theorem d_B_buildArranged_193 : decode b_B_buildArranged 193 = .ok (.iload_n 2, 1) := by decide +kernel
theorem d_B_buildArranged_194 : decode b_B_buildArranged 194 = .ok (.invokestatic 130, 3) := by decide +kernel
theorem d_B_buildArranged_197 : decode b_B_buildArranged 197 = .ok (.iload_n 3, 1) := by decide +kernel
theorem d_B_buildArranged_198 : decode b_B_buildArranged 198 = .ok (.iadd, 1) := by decide +kernel
theorem d_B_buildArranged_199 : decode b_B_buildArranged 199 = .ok (.iload 6, 2) := by decide +kernel
theorem d_B_buildArranged_201 : decode b_B_buildArranged 201 = .ok (.invokevirtual 110, 3) := by decide +kernel
theorem d_B_buildArranged_204 : decode b_B_buildArranged 204 = .ok (.return_, 1) := by decide +kernel
theorem d_B_canBuildFormula_0 : decode b_B_canBuildFormula 0 = .ok (.iload_n 1, 1) := by decide +kernel
theorem d_B_canBuildFormula_1 : decode b_B_canBuildFormula 1 = .ok (.tableswitch 121 0 10 #[59, 59, 59, 59, 59, 74, 93, 99, 99, 99, 99], 59) := by decide +kernel
theorem d_B_canBuildFormula_60 : decode b_B_canBuildFormula 60 = .ok (.aload_n 0, 1) := by decide +kernel
theorem d_B_canBuildFormula_61 : decode b_B_canBuildFormula 61 = .ok (.iload_n 2, 1) := by decide +kernel
theorem d_B_canBuildFormula_62 : decode b_B_canBuildFormula 62 = .ok (.iload_n 3, 1) := by decide +kernel
theorem d_B_canBuildFormula_63 : decode b_B_canBuildFormula 63 = .ok (.invokevirtual 162, 3) := by decide +kernel
theorem d_B_canBuildFormula_66 : decode b_B_canBuildFormula 66 = .ok (.ifCond .le 7, 3) := by decide +kernel
theorem d_B_canBuildFormula_69 : decode b_B_canBuildFormula 69 = .ok (.iconst 1, 1) := by decide +kernel
theorem d_B_canBuildFormula_70 : decode b_B_canBuildFormula 70 = .ok (.goto 4, 3) := by decide +kernel
theorem d_B_canBuildFormula_73 : decode b_B_canBuildFormula 73 = .ok (.iconst 0, 1) := by decide +kernel
theorem d_B_canBuildFormula_74 : decode b_B_canBuildFormula 74 = .ok (.ireturn, 1) := by decide +kernel
theorem d_B_canBuildFormula_75 : decode b_B_canBuildFormula 75 = .ok (.iload_n 3, 1) := by decide +kernel
theorem d_B_canBuildFormula_76 : decode b_B_canBuildFormula 76 = .ok (.ifCond .lt 16, 3) := by decide +kernel
theorem d_B_canBuildFormula_79 : decode b_B_canBuildFormula 79 = .ok (.iload_n 3, 1) := by decide +kernel
theorem d_B_canBuildFormula_80 : decode b_B_canBuildFormula 80 = .ok (.aload_n 0, 1) := by decide +kernel
theorem d_B_canBuildFormula_81 : decode b_B_canBuildFormula 81 = .ok (.iload_n 2, 1) := by decide +kernel
theorem d_B_canBuildFormula_82 : decode b_B_canBuildFormula 82 = .ok (.invokevirtual 166, 3) := by decide +kernel
theorem d_B_canBuildFormula_85 : decode b_B_canBuildFormula 85 = .ok (.if_icmp .ge 7, 3) := by decide +kernel
theorem d_B_canBuildFormula_88 : decode b_B_canBuildFormula 88 = .ok (.iconst 1, 1) := by decide +kernel
theorem d_B_canBuildFormula_89 : decode b_B_canBuildFormula 89 = .ok (.goto 4, 3) := by decide +kernel
theorem d_B_canBuildFormula_92 : decode b_B_canBuildFormula 92 = .ok (.iconst 0, 1) := by decide +kernel
theorem d_B_canBuildFormula_93 : decode b_B_canBuildFormula 93 = .ok (.ireturn, 1) := by decide +kernel
theorem d_B_canBuildFormula_94 : decode b_B_canBuildFormula 94 = .ok (.aload_n 0, 1) := by decide +kernel
theorem d_B_canBuildFormula_95 : decode b_B_canBuildFormula 95 = .ok (.iload_n 2, 1) := by decide +kernel
theorem d_B_canBuildFormula_96 : decode b_B_canBuildFormula 96 = .ok (.invokevirtual 91, 3) := by decide +kernel
theorem d_B_canBuildFormula_99 : decode b_B_canBuildFormula 99 = .ok (.ireturn, 1) := by decide +kernel
theorem d_B_canBuildFormula_100 : decode b_B_canBuildFormula 100 = .ok (.aload_n 0, 1) := by decide +kernel
theorem d_B_canBuildFormula_101 : decode b_B_canBuildFormula 101 = .ok (.iload_n 2, 1) := by decide +kernel
theorem d_B_canBuildFormula_102 : decode b_B_canBuildFormula 102 = .ok (.invokevirtual 91, 3) := by decide +kernel
theorem d_B_canBuildFormula_105 : decode b_B_canBuildFormula 105 = .ok (.ifCond .eq 15, 3) := by decide +kernel
theorem d_B_canBuildFormula_108 : decode b_B_canBuildFormula 108 = .ok (.aload_n 0, 1) := by decide +kernel
theorem d_B_canBuildFormula_109 : decode b_B_canBuildFormula 109 = .ok (.iload_n 3, 1) := by decide +kernel
theorem d_B_canBuildFormula_110 : decode b_B_canBuildFormula 110 = .ok (.invokevirtual 91, 3) := by decide +kernel
theorem d_B_canBuildFormula_113 : decode b_B_canBuildFormula 113 = .ok (.ifCond .eq 7, 3) := by decide +kernel
theorem d_B_canBuildFormula_116 : decode b_B_canBuildFormula 116 = .ok (.iconst 1, 1) := by decide +kernel
theorem d_B_canBuildFormula_117 : decode b_B_canBuildFormula 117 = .ok (.goto 4, 3) := by decide +kernel
theorem d_B_canBuildFormula_120 : decode b_B_canBuildFormula 120 = .ok (.iconst 0, 1) := by decide +kernel
theorem d_B_canBuildFormula_121 : decode b_B_canBuildFormula 121 = .ok (.ireturn, 1) := by decide +kernel
theorem d_B_canBuildFormula_122 : decode b_B_canBuildFormula 122 = .ok (.iconst 0, 1) := by decide +kernel
theorem d_B_canBuildFormula_123 : decode b_B_canBuildFormula 123 = .ok (.ireturn, 1) := by decide +kernel
theorem d_B_buildRelation_0 : decode b_B_buildRelation 0 = .ok (.aload_n 0, 1) := by decide +kernel
theorem d_B_buildRelation_1 : decode b_B_buildRelation 1 = .ok (.getfield 82, 3) := by decide +kernel
theorem d_B_buildRelation_4 : decode b_B_buildRelation 4 = .ok (.istore 4, 2) := by decide +kernel
theorem d_B_buildRelation_6 : decode b_B_buildRelation 6 = .ok (.aload_n 0, 1) := by decide +kernel
theorem d_B_buildRelation_7 : decode b_B_buildRelation 7 = .ok (.getfield 28, 3) := by decide +kernel
theorem d_B_buildRelation_10 : decode b_B_buildRelation 10 = .ok (.iload_n 2, 1) := by decide +kernel
theorem d_B_buildRelation_11 : decode b_B_buildRelation 11 = .ok (.iaload, 1) := by decide +kernel
theorem d_B_buildRelation_12 : decode b_B_buildRelation 12 = .ok (.istore 5, 2) := by decide +kernel
theorem d_B_buildRelation_14 : decode b_B_buildRelation 14 = .ok (.iload_n 1, 1) := by decide +kernel
theorem d_B_buildRelation_15 : decode b_B_buildRelation 15 = .ok (.tableswitch 147 0 4 #[33, 55, 78, 101, 124], 33) := by decide +kernel
theorem d_B_buildRelation_48 : decode b_B_buildRelation 48 = .ok (.aload_n 0, 1) := by decide +kernel
theorem d_B_buildRelation_49 : decode b_B_buildRelation 49 = .ok (.getfield 12, 3) := by decide +kernel
theorem d_B_buildRelation_52 : decode b_B_buildRelation 52 = .ok (.iload 4, 2) := by decide +kernel
theorem d_B_buildRelation_54 : decode b_B_buildRelation 54 = .ok (.iload_n 2, 1) := by decide +kernel
theorem d_B_buildRelation_55 : decode b_B_buildRelation 55 = .ok (.invokestatic 130, 3) := by decide +kernel
theorem d_B_buildRelation_58 : decode b_B_buildRelation 58 = .ok (.iload_n 3, 1) := by decide +kernel
theorem d_B_buildRelation_59 : decode b_B_buildRelation 59 = .ok (.invokestatic 130, 3) := by decide +kernel
theorem d_B_buildRelation_62 : decode b_B_buildRelation 62 = .ok (.iload 5, 2) := by decide +kernel
theorem d_B_buildRelation_64 : decode b_B_buildRelation 64 = .ok (.invokevirtual 207, 3) := by decide +kernel
theorem d_B_buildRelation_67 : decode b_B_buildRelation 67 = .ok (.goto 111, 3) := by decide +kernel
theorem d_B_buildRelation_70 : decode b_B_buildRelation 70 = .ok (.aload_n 0, 1) := by decide +kernel
theorem d_B_buildRelation_71 : decode b_B_buildRelation 71 = .ok (.getfield 12, 3) := by decide +kernel
theorem d_B_buildRelation_74 : decode b_B_buildRelation 74 = .ok (.iload 4, 2) := by decide +kernel
theorem d_B_buildRelation_76 : decode b_B_buildRelation 76 = .ok (.iload_n 2, 1) := by decide +kernel
theorem d_B_buildRelation_77 : decode b_B_buildRelation 77 = .ok (.invokestatic 130, 3) := by decide +kernel
theorem d_B_buildRelation_80 : decode b_B_buildRelation 80 = .ok (.iload_n 3, 1) := by decide +kernel
theorem d_B_buildRelation_81 : decode b_B_buildRelation 81 = .ok (.invokestatic 130, 3) := by decide +kernel
theorem d_B_buildRelation_84 : decode b_B_buildRelation 84 = .ok (.iload 5, 2) := by decide +kernel
theorem d_B_buildRelation_86 : decode b_B_buildRelation 86 = .ok (.iconst 0, 1) := by decide +kernel
theorem d_B_buildRelation_87 : decode b_B_buildRelation 87 = .ok (.invokevirtual 210, 3) := by decide +kernel
theorem d_B_buildRelation_90 : decode b_B_buildRelation 90 = .ok (.goto 88, 3) := by decide +kernel
theorem d_B_buildRelation_93 : decode b_B_buildRelation 93 = .ok (.aload_n 0, 1) := by decide +kernel
theorem d_B_buildRelation_94 : decode b_B_buildRelation 94 = .ok (.getfield 12, 3) := by decide +kernel
theorem d_B_buildRelation_97 : decode b_B_buildRelation 97 = .ok (.iload 4, 2) := by decide +kernel
theorem d_B_buildRelation_99 : decode b_B_buildRelation 99 = .ok (.iload_n 2, 1) := by decide +kernel
theorem d_B_buildRelation_100 : decode b_B_buildRelation 100 = .ok (.invokestatic 130, 3) := by decide +kernel
theorem d_B_buildRelation_103 : decode b_B_buildRelation 103 = .ok (.iload_n 3, 1) := by decide +kernel
theorem d_B_buildRelation_104 : decode b_B_buildRelation 104 = .ok (.invokestatic 130, 3) := by decide +kernel
theorem d_B_buildRelation_107 : decode b_B_buildRelation 107 = .ok (.iload 5, 2) := by decide +kernel
theorem d_B_buildRelation_109 : decode b_B_buildRelation 109 = .ok (.iconst 0, 1) := by decide +kernel
theorem d_B_buildRelation_110 : decode b_B_buildRelation 110 = .ok (.invokevirtual 213, 3) := by decide +kernel
theorem d_B_buildRelation_113 : decode b_B_buildRelation 113 = .ok (.goto 65, 3) := by decide +kernel
theorem d_B_buildRelation_116 : decode b_B_buildRelation 116 = .ok (.aload_n 0, 1) := by decide +kernel
theorem d_B_buildRelation_117 : decode b_B_buildRelation 117 = .ok (.getfield 12, 3) := by decide +kernel
theorem d_B_buildRelation_120 : decode b_B_buildRelation 120 = .ok (.iload 4, 2) := by decide +kernel
theorem d_B_buildRelation_122 : decode b_B_buildRelation 122 = .ok (.iload_n 2, 1) := by decide +kernel
theorem d_B_buildRelation_123 : decode b_B_buildRelation 123 = .ok (.invokestatic 130, 3) := by decide +kernel
theorem d_B_buildRelation_126 : decode b_B_buildRelation 126 = .ok (.iload_n 3, 1) := by decide +kernel
theorem d_B_buildRelation_127 : decode b_B_buildRelation 127 = .ok (.invokestatic 130, 3) := by decide +kernel
theorem d_B_buildRelation_130 : decode b_B_buildRelation 130 = .ok (.iload 5, 2) := by decide +kernel
theorem d_B_buildRelation_132 : decode b_B_buildRelation 132 = .ok (.iconst 1, 1) := by decide +kernel
theorem d_B_buildRelation_133 : decode b_B_buildRelation 133 = .ok (.invokevirtual 210, 3) := by decide +kernel
theorem d_B_buildRelation_136 : decode b_B_buildRelation 136 = .ok (.goto 42, 3) := by decide +kernel
theorem d_B_buildRelation_139 : decode b_B_buildRelation 139 = .ok (.aload_n 0, 1) := by decide +kernel
theorem d_B_buildRelation_140 : decode b_B_buildRelation 140 = .ok (.getfield 12, 3) := by decide +kernel
theorem d_B_buildRelation_143 : decode b_B_buildRelation 143 = .ok (.iload 4, 2) := by decide +kernel
theorem d_B_buildRelation_145 : decode b_B_buildRelation 145 = .ok (.iload_n 2, 1) := by decide +kernel
theorem d_B_buildRelation_146 : decode b_B_buildRelation 146 = .ok (.invokestatic 130, 3) := by decide +kernel
theorem d_B_buildRelation_149 : decode b_B_buildRelation 149 = .ok (.iload_n 3, 1) := by decide +kernel
theorem d_B_buildRelation_150 : decode b_B_buildRelation 150 = .ok (.invokestatic 130, 3) := by decide +kernel
theorem d_B_buildRelation_153 : decode b_B_buildRelation 153 = .ok (.iload 5, 2) := by decide +kernel
theorem d_B_buildRelation_155 : decode b_B_buildRelation 155 = .ok (.iconst 1, 1) := by decide +kernel
theorem d_B_buildRelation_156 : decode b_B_buildRelation 156 = .ok (.invokevirtual 213, 3) := by decide +kernel
theorem d_B_buildRelation_159 : decode b_B_buildRelation 159 = .ok (.goto 19, 3) := by decide +kernel
theorem d_B_buildRelation_162 : decode b_B_buildRelation 162 = .ok (.aload_n 0, 1) := by decide +kernel
theorem d_B_buildRelation_163 : decode b_B_buildRelation 163 = .ok (.getfield 20, 3) := by decide +kernel
theorem d_B_buildRelation_166 : decode b_B_buildRelation 166 = .ok (.iload 4, 2) := by decide +kernel
theorem d_B_buildRelation_168 : decode b_B_buildRelation 168 = .ok (.iload_n 2, 1) := by decide +kernel
theorem d_B_buildRelation_169 : decode b_B_buildRelation 169 = .ok (.invokestatic 130, 3) := by decide +kernel
theorem d_B_buildRelation_172 : decode b_B_buildRelation 172 = .ok (.iload_n 3, 1) := by decide +kernel
theorem d_B_buildRelation_173 : decode b_B_buildRelation 173 = .ok (.iadd, 1) := by decide +kernel
theorem d_B_buildRelation_174 : decode b_B_buildRelation 174 = .ok (.iconst 1, 1) := by decide +kernel
theorem d_B_buildRelation_175 : decode b_B_buildRelation 175 = .ok (.invokevirtual 110, 3) := by decide +kernel
theorem d_B_buildRelation_178 : decode b_B_buildRelation 178 = .ok (.return_, 1) := by decide +kernel
theorem d_B_buildConnective_0 : decode b_B_buildConnective 0 = .ok (.aload_n 0, 1) := by decide +kernel
theorem d_B_buildConnective_1 : decode b_B_buildConnective 1 = .ok (.getfield 82, 3) := by decide +kernel
theorem d_B_buildConnective_4 : decode b_B_buildConnective 4 = .ok (.istore 4, 2) := by decide +kernel
theorem d_B_buildConnective_6 : decode b_B_buildConnective 6 = .ok (.iload_n 1, 1) := by decide +kernel
theorem d_B_buildConnective_7 : decode b_B_buildConnective 7 = .ok (.tableswitch 88 6 9 #[29, 43, 58, 73], 29) := by decide +kernel
theorem d_B_buildConnective_36 : decode b_B_buildConnective 36 = .ok (.aload_n 0, 1) := by decide +kernel
theorem d_B_buildConnective_37 : decode b_B_buildConnective 37 = .ok (.getfield 20, 3) := by decide +kernel
theorem d_B_buildConnective_40 : decode b_B_buildConnective 40 = .ok (.iload 4, 2) := by decide +kernel
theorem d_B_buildConnective_42 : decode b_B_buildConnective 42 = .ok (.iload_n 2, 1) := by decide +kernel
theorem d_B_buildConnective_43 : decode b_B_buildConnective 43 = .ok (.iconst 1, 1) := by decide +kernel
theorem d_B_buildConnective_44 : decode b_B_buildConnective 44 = .ok (.invokevirtual 193, 3) := by decide +kernel
theorem d_B_buildConnective_47 : decode b_B_buildConnective 47 = .ok (.goto 72, 3) := by decide +kernel
theorem d_B_buildConnective_50 : decode b_B_buildConnective 50 = .ok (.aload_n 0, 1) := by decide +kernel
theorem d_B_buildConnective_51 : decode b_B_buildConnective 51 = .ok (.getfield 20, 3) := by decide +kernel
theorem d_B_buildConnective_54 : decode b_B_buildConnective 54 = .ok (.iload 4, 2) := by decide +kernel
theorem d_B_buildConnective_56 : decode b_B_buildConnective 56 = .ok (.iload_n 2, 1) := by decide +kernel
theorem d_B_buildConnective_57 : decode b_B_buildConnective 57 = .ok (.iload_n 3, 1) := by decide +kernel
theorem d_B_buildConnective_58 : decode b_B_buildConnective 58 = .ok (.iconst 1, 1) := by decide +kernel
theorem d_B_buildConnective_59 : decode b_B_buildConnective 59 = .ok (.invokevirtual 104, 3) := by decide +kernel
theorem d_B_buildConnective_62 : decode b_B_buildConnective 62 = .ok (.goto 57, 3) := by decide +kernel
theorem d_B_buildConnective_65 : decode b_B_buildConnective 65 = .ok (.aload_n 0, 1) := by decide +kernel
theorem d_B_buildConnective_66 : decode b_B_buildConnective 66 = .ok (.getfield 20, 3) := by decide +kernel
theorem d_B_buildConnective_69 : decode b_B_buildConnective 69 = .ok (.iload 4, 2) := by decide +kernel
theorem d_B_buildConnective_71 : decode b_B_buildConnective 71 = .ok (.iload_n 2, 1) := by decide +kernel
theorem d_B_buildConnective_72 : decode b_B_buildConnective 72 = .ok (.iload_n 3, 1) := by decide +kernel
theorem d_B_buildConnective_73 : decode b_B_buildConnective 73 = .ok (.iconst 1, 1) := by decide +kernel
theorem d_B_buildConnective_74 : decode b_B_buildConnective 74 = .ok (.invokevirtual 187, 3) := by decide +kernel
theorem d_B_buildConnective_77 : decode b_B_buildConnective 77 = .ok (.goto 42, 3) := by decide +kernel
theorem d_B_buildConnective_80 : decode b_B_buildConnective 80 = .ok (.aload_n 0, 1) := by decide +kernel
theorem d_B_buildConnective_81 : decode b_B_buildConnective 81 = .ok (.getfield 20, 3) := by decide +kernel
theorem d_B_buildConnective_84 : decode b_B_buildConnective 84 = .ok (.iload 4, 2) := by decide +kernel
theorem d_B_buildConnective_86 : decode b_B_buildConnective 86 = .ok (.iload_n 2, 1) := by decide +kernel
theorem d_B_buildConnective_87 : decode b_B_buildConnective 87 = .ok (.iload_n 3, 1) := by decide +kernel
theorem d_B_buildConnective_88 : decode b_B_buildConnective 88 = .ok (.iconst 1, 1) := by decide +kernel
theorem d_B_buildConnective_89 : decode b_B_buildConnective 89 = .ok (.invokevirtual 190, 3) := by decide +kernel
theorem d_B_buildConnective_92 : decode b_B_buildConnective 92 = .ok (.goto 27, 3) := by decide +kernel
theorem d_B_buildConnective_95 : decode b_B_buildConnective 95 = .ok (.aload_n 0, 1) := by decide +kernel
theorem d_B_buildConnective_96 : decode b_B_buildConnective 96 = .ok (.getfield 20, 3) := by decide +kernel
theorem d_B_buildConnective_99 : decode b_B_buildConnective 99 = .ok (.iload 4, 2) := by decide +kernel
theorem d_B_buildConnective_101 : decode b_B_buildConnective 101 = .ok (.iload_n 2, 1) := by decide +kernel
theorem d_B_buildConnective_102 : decode b_B_buildConnective 102 = .ok (.iconst 1, 1) := by decide +kernel
theorem d_B_buildConnective_103 : decode b_B_buildConnective 103 = .ok (.invokevirtual 193, 3) := by decide +kernel
theorem d_B_buildConnective_106 : decode b_B_buildConnective 106 = .ok (.aload_n 0, 1) := by decide +kernel
theorem d_B_buildConnective_107 : decode b_B_buildConnective 107 = .ok (.getfield 20, 3) := by decide +kernel
theorem d_B_buildConnective_110 : decode b_B_buildConnective 110 = .ok (.iload 4, 2) := by decide +kernel
theorem d_B_buildConnective_112 : decode b_B_buildConnective 112 = .ok (.iload 4, 2) := by decide +kernel
theorem d_B_buildConnective_114 : decode b_B_buildConnective 114 = .ok (.iload_n 3, 1) := by decide +kernel
theorem d_B_buildConnective_115 : decode b_B_buildConnective 115 = .ok (.iconst 1, 1) := by decide +kernel
theorem d_B_buildConnective_116 : decode b_B_buildConnective 116 = .ok (.invokevirtual 187, 3) := by decide +kernel
theorem d_B_buildConnective_119 : decode b_B_buildConnective 119 = .ok (.return_, 1) := by decide +kernel
