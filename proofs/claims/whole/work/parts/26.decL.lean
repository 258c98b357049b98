/-! what each instruction is: BitSolverLaw -/
theorem d_L_variable_0 : decode b_L_variable 0 = .ok (.aload_n 2, 1) := by decide +kernel
theorem d_L_variable_1 : decode b_L_variable 1 = .ok (.iconst 0, 1) := by decide +kernel
theorem d_L_variable_2 : decode b_L_variable 2 = .ok (.aload_n 0, 1) := by decide +kernel
theorem d_L_variable_3 : decode b_L_variable 3 = .ok (.iload_n 1, 1) := by decide +kernel
theorem d_L_variable_4 : decode b_L_variable 4 = .ok (.invokevirtual 7, 3) := by decide +kernel
theorem d_L_variable_7 : decode b_L_variable 7 = .ok (.i2l, 1) := by decide +kernel
theorem d_L_variable_8 : decode b_L_variable 8 = .ok (.lastore, 1) := by decide +kernel
theorem d_L_variable_9 : decode b_L_variable 9 = .ok (.goto 9, 3) := by decide +kernel
theorem d_L_variable_12 : decode b_L_variable 12 = .ok (.astore_n 3, 1) := by decide +kernel
theorem d_L_variable_13 : decode b_L_variable 13 = .ok (.iconst 1, 1) := by decide +kernel
theorem d_L_variable_14 : decode b_L_variable 14 = .ok (.ireturn, 1) := by decide +kernel
theorem d_L_variable_15 : decode b_L_variable 15 = .ok (.astore_n 3, 1) := by decide +kernel
theorem d_L_variable_16 : decode b_L_variable 16 = .ok (.iconst 2, 1) := by decide +kernel
theorem d_L_variable_17 : decode b_L_variable 17 = .ok (.ireturn, 1) := by decide +kernel
theorem d_L_variable_18 : decode b_L_variable 18 = .ok (.iconst 0, 1) := by decide +kernel
theorem d_L_variable_19 : decode b_L_variable 19 = .ok (.ireturn, 1) := by decide +kernel
theorem d_L_term_0 : decode b_L_term 0 = .ok (.aload 5, 2) := by decide +kernel
theorem d_L_term_2 : decode b_L_term 2 = .ok (.iconst 0, 1) := by decide +kernel
theorem d_L_term_3 : decode b_L_term 3 = .ok (.aload_n 0, 1) := by decide +kernel
theorem d_L_term_4 : decode b_L_term 4 = .ok (.iload_n 1, 1) := by decide +kernel
theorem d_L_term_5 : decode b_L_term 5 = .ok (.iload_n 2, 1) := by decide +kernel
theorem d_L_term_6 : decode b_L_term 6 = .ok (.iload_n 3, 1) := by decide +kernel
theorem d_L_term_7 : decode b_L_term 7 = .ok (.iload 4, 2) := by decide +kernel
theorem d_L_term_9 : decode b_L_term 9 = .ok (.invokevirtual 17, 3) := by decide +kernel
theorem d_L_term_12 : decode b_L_term 12 = .ok (.i2l, 1) := by decide +kernel
theorem d_L_term_13 : decode b_L_term 13 = .ok (.lastore, 1) := by decide +kernel
theorem d_L_term_14 : decode b_L_term 14 = .ok (.goto 11, 3) := by decide +kernel
theorem d_L_term_17 : decode b_L_term 17 = .ok (.astore 6, 2) := by decide +kernel
theorem d_L_term_19 : decode b_L_term 19 = .ok (.iconst 1, 1) := by decide +kernel
theorem d_L_term_20 : decode b_L_term 20 = .ok (.ireturn, 1) := by decide +kernel
theorem d_L_term_21 : decode b_L_term 21 = .ok (.astore 6, 2) := by decide +kernel
theorem d_L_term_23 : decode b_L_term 23 = .ok (.iconst 2, 1) := by decide +kernel
theorem d_L_term_24 : decode b_L_term 24 = .ok (.ireturn, 1) := by decide +kernel
theorem d_L_term_25 : decode b_L_term 25 = .ok (.iconst 0, 1) := by decide +kernel
theorem d_L_term_26 : decode b_L_term 26 = .ok (.ireturn, 1) := by decide +kernel
theorem d_L_formula_0 : decode b_L_formula 0 = .ok (.aload 4, 2) := by decide +kernel
theorem d_L_formula_2 : decode b_L_formula 2 = .ok (.iconst 0, 1) := by decide +kernel
theorem d_L_formula_3 : decode b_L_formula 3 = .ok (.aload_n 0, 1) := by decide +kernel
theorem d_L_formula_4 : decode b_L_formula 4 = .ok (.iload_n 1, 1) := by decide +kernel
theorem d_L_formula_5 : decode b_L_formula 5 = .ok (.iload_n 2, 1) := by decide +kernel
theorem d_L_formula_6 : decode b_L_formula 6 = .ok (.iload_n 3, 1) := by decide +kernel
theorem d_L_formula_7 : decode b_L_formula 7 = .ok (.invokevirtual 21, 3) := by decide +kernel
theorem d_L_formula_10 : decode b_L_formula 10 = .ok (.i2l, 1) := by decide +kernel
theorem d_L_formula_11 : decode b_L_formula 11 = .ok (.lastore, 1) := by decide +kernel
theorem d_L_formula_12 : decode b_L_formula 12 = .ok (.goto 11, 3) := by decide +kernel
theorem d_L_formula_15 : decode b_L_formula 15 = .ok (.astore 5, 2) := by decide +kernel
theorem d_L_formula_17 : decode b_L_formula 17 = .ok (.iconst 1, 1) := by decide +kernel
theorem d_L_formula_18 : decode b_L_formula 18 = .ok (.ireturn, 1) := by decide +kernel
theorem d_L_formula_19 : decode b_L_formula 19 = .ok (.astore 5, 2) := by decide +kernel
theorem d_L_formula_21 : decode b_L_formula 21 = .ok (.iconst 2, 1) := by decide +kernel
theorem d_L_formula_22 : decode b_L_formula 22 = .ok (.ireturn, 1) := by decide +kernel
theorem d_L_formula_23 : decode b_L_formula 23 = .ok (.iconst 0, 1) := by decide +kernel
theorem d_L_formula_24 : decode b_L_formula 24 = .ok (.ireturn, 1) := by decide +kernel
theorem d_L_assertion_0 : decode b_L_assertion 0 = .ok (.aload_n 2, 1) := by decide +kernel
theorem d_L_assertion_1 : decode b_L_assertion 1 = .ok (.iconst 0, 1) := by decide +kernel
theorem d_L_assertion_2 : decode b_L_assertion 2 = .ok (.aload_n 0, 1) := by decide +kernel
theorem d_L_assertion_3 : decode b_L_assertion 3 = .ok (.iload_n 1, 1) := by decide +kernel
theorem d_L_assertion_4 : decode b_L_assertion 4 = .ok (.invokevirtual 25, 3) := by decide +kernel
theorem d_L_assertion_7 : decode b_L_assertion 7 = .ok (.i2l, 1) := by decide +kernel
theorem d_L_assertion_8 : decode b_L_assertion 8 = .ok (.lastore, 1) := by decide +kernel
theorem d_L_assertion_9 : decode b_L_assertion 9 = .ok (.goto 9, 3) := by decide +kernel
theorem d_L_assertion_12 : decode b_L_assertion 12 = .ok (.astore_n 3, 1) := by decide +kernel
theorem d_L_assertion_13 : decode b_L_assertion 13 = .ok (.iconst 1, 1) := by decide +kernel
theorem d_L_assertion_14 : decode b_L_assertion 14 = .ok (.ireturn, 1) := by decide +kernel
theorem d_L_assertion_15 : decode b_L_assertion 15 = .ok (.astore_n 3, 1) := by decide +kernel
theorem d_L_assertion_16 : decode b_L_assertion 16 = .ok (.iconst 2, 1) := by decide +kernel
theorem d_L_assertion_17 : decode b_L_assertion 17 = .ok (.ireturn, 1) := by decide +kernel
theorem d_L_assertion_18 : decode b_L_assertion 18 = .ok (.iconst 0, 1) := by decide +kernel
theorem d_L_assertion_19 : decode b_L_assertion 19 = .ok (.ireturn, 1) := by decide +kernel
theorem d_L_push_0 : decode b_L_push 0 = .ok (.aload_n 1, 1) := by decide +kernel
theorem d_L_push_1 : decode b_L_push 1 = .ok (.iconst 0, 1) := by decide +kernel
theorem d_L_push_2 : decode b_L_push 2 = .ok (.aload_n 0, 1) := by decide +kernel
theorem d_L_push_3 : decode b_L_push 3 = .ok (.invokevirtual 30, 3) := by decide +kernel
theorem d_L_push_6 : decode b_L_push 6 = .ok (.i2l, 1) := by decide +kernel
theorem d_L_push_7 : decode b_L_push 7 = .ok (.lastore, 1) := by decide +kernel
theorem d_L_push_8 : decode b_L_push 8 = .ok (.goto 6, 3) := by decide +kernel
theorem d_L_push_11 : decode b_L_push 11 = .ok (.astore_n 2, 1) := by decide +kernel
theorem d_L_push_12 : decode b_L_push 12 = .ok (.iconst 1, 1) := by decide +kernel
theorem d_L_push_13 : decode b_L_push 13 = .ok (.ireturn, 1) := by decide +kernel
theorem d_L_push_14 : decode b_L_push 14 = .ok (.iconst 0, 1) := by decide +kernel
theorem d_L_push_15 : decode b_L_push 15 = .ok (.ireturn, 1) := by decide +kernel
theorem d_L_pop_0 : decode b_L_pop 0 = .ok (.aload_n 1, 1) := by decide +kernel
theorem d_L_pop_1 : decode b_L_pop 1 = .ok (.iconst 0, 1) := by decide +kernel
theorem d_L_pop_2 : decode b_L_pop 2 = .ok (.aload_n 0, 1) := by decide +kernel
theorem d_L_pop_3 : decode b_L_pop 3 = .ok (.invokevirtual 34, 3) := by decide +kernel
theorem d_L_pop_6 : decode b_L_pop 6 = .ok (.i2l, 1) := by decide +kernel
theorem d_L_pop_7 : decode b_L_pop 7 = .ok (.lastore, 1) := by decide +kernel
theorem d_L_pop_8 : decode b_L_pop 8 = .ok (.goto 6, 3) := by decide +kernel
theorem d_L_pop_11 : decode b_L_pop 11 = .ok (.astore_n 2, 1) := by decide +kernel
theorem d_L_pop_12 : decode b_L_pop 12 = .ok (.iconst 1, 1) := by decide +kernel
theorem d_L_pop_13 : decode b_L_pop 13 = .ok (.ireturn, 1) := by decide +kernel
theorem d_L_pop_14 : decode b_L_pop 14 = .ok (.iconst 0, 1) := by decide +kernel
theorem d_L_pop_15 : decode b_L_pop 15 = .ok (.ireturn, 1) := by decide +kernel
theorem d_L_value_0 : decode b_L_value 0 = .ok (.aload_n 2, 1) := by decide +kernel
theorem d_L_value_1 : decode b_L_value 1 = .ok (.iconst 0, 1) := by decide +kernel
theorem d_L_value_2 : decode b_L_value 2 = .ok (.aload_n 0, 1) := by decide +kernel
theorem d_L_value_3 : decode b_L_value 3 = .ok (.iload_n 1, 1) := by decide +kernel
theorem d_L_value_4 : decode b_L_value 4 = .ok (.invokevirtual 37, 3) := by decide +kernel
theorem d_L_value_7 : decode b_L_value 7 = .ok (.i2l, 1) := by decide +kernel
theorem d_L_value_8 : decode b_L_value 8 = .ok (.lastore, 1) := by decide +kernel
theorem d_L_value_9 : decode b_L_value 9 = .ok (.goto 9, 3) := by decide +kernel
theorem d_L_value_12 : decode b_L_value 12 = .ok (.astore_n 3, 1) := by decide +kernel
theorem d_L_value_13 : decode b_L_value 13 = .ok (.iconst 1, 1) := by decide +kernel
theorem d_L_value_14 : decode b_L_value 14 = .ok (.ireturn, 1) := by decide +kernel
theorem d_L_value_15 : decode b_L_value 15 = .ok (.astore_n 3, 1) := by decide +kernel
theorem d_L_value_16 : decode b_L_value 16 = .ok (.iconst 2, 1) := by decide +kernel
theorem d_L_value_17 : decode b_L_value 17 = .ok (.ireturn, 1) := by decide +kernel
theorem d_L_value_18 : decode b_L_value 18 = .ok (.iconst 0, 1) := by decide +kernel
theorem d_L_value_19 : decode b_L_value 19 = .ok (.ireturn, 1) := by decide +kernel
theorem d_L_valueOf_0 : decode b_L_valueOf 0 = .ok (.aload_n 2, 1) := by decide +kernel
theorem d_L_valueOf_1 : decode b_L_valueOf 1 = .ok (.iconst 0, 1) := by decide +kernel
theorem d_L_valueOf_2 : decode b_L_valueOf 2 = .ok (.aload_n 0, 1) := by decide +kernel
theorem d_L_valueOf_3 : decode b_L_valueOf 3 = .ok (.iload_n 1, 1) := by decide +kernel
theorem d_L_valueOf_4 : decode b_L_valueOf 4 = .ok (.invokevirtual 42, 3) := by decide +kernel
theorem d_L_valueOf_7 : decode b_L_valueOf 7 = .ok (.i2l, 1) := by decide +kernel
theorem d_L_valueOf_8 : decode b_L_valueOf 8 = .ok (.lastore, 1) := by decide +kernel
theorem d_L_valueOf_9 : decode b_L_valueOf 9 = .ok (.goto 9, 3) := by decide +kernel
theorem d_L_valueOf_12 : decode b_L_valueOf 12 = .ok (.astore_n 3, 1) := by decide +kernel
theorem d_L_valueOf_13 : decode b_L_valueOf 13 = .ok (.iconst 1, 1) := by decide +kernel
theorem d_L_valueOf_14 : decode b_L_valueOf 14 = .ok (.ireturn, 1) := by decide +kernel
theorem d_L_valueOf_15 : decode b_L_valueOf 15 = .ok (.astore_n 3, 1) := by decide +kernel
theorem d_L_valueOf_16 : decode b_L_valueOf 16 = .ok (.iconst 2, 1) := by decide +kernel
theorem d_L_valueOf_17 : decode b_L_valueOf 17 = .ok (.ireturn, 1) := by decide +kernel
theorem d_L_valueOf_18 : decode b_L_valueOf 18 = .ok (.iconst 0, 1) := by decide +kernel
theorem d_L_valueOf_19 : decode b_L_valueOf 19 = .ok (.ireturn, 1) := by decide +kernel
theorem d_L_entailed_0 : decode b_L_entailed 0 = .ok (.aload_n 2, 1) := by decide +kernel
theorem d_L_entailed_1 : decode b_L_entailed 1 = .ok (.iconst 0, 1) := by decide +kernel
theorem d_L_entailed_2 : decode b_L_entailed 2 = .ok (.aload_n 0, 1) := by decide +kernel
theorem d_L_entailed_3 : decode b_L_entailed 3 = .ok (.iload_n 1, 1) := by decide +kernel
theorem d_L_entailed_4 : decode b_L_entailed 4 = .ok (.invokevirtual 45, 3) := by decide +kernel
theorem d_L_entailed_7 : decode b_L_entailed 7 = .ok (.i2l, 1) := by decide +kernel
theorem d_L_entailed_8 : decode b_L_entailed 8 = .ok (.lastore, 1) := by decide +kernel
theorem d_L_entailed_9 : decode b_L_entailed 9 = .ok (.goto 9, 3) := by decide +kernel
theorem d_L_entailed_12 : decode b_L_entailed 12 = .ok (.astore_n 3, 1) := by decide +kernel
theorem d_L_entailed_13 : decode b_L_entailed 13 = .ok (.iconst 1, 1) := by decide +kernel
theorem d_L_entailed_14 : decode b_L_entailed 14 = .ok (.ireturn, 1) := by decide +kernel
theorem d_L_entailed_15 : decode b_L_entailed 15 = .ok (.astore_n 3, 1) := by decide +kernel
theorem d_L_entailed_16 : decode b_L_entailed 16 = .ok (.iconst 2, 1) := by decide +kernel
theorem d_L_entailed_17 : decode b_L_entailed 17 = .ok (.ireturn, 1) := by decide +kernel
theorem d_L_entailed_18 : decode b_L_entailed 18 = .ok (.iconst 0, 1) := by decide +kernel
theorem d_L_entailed_19 : decode b_L_entailed 19 = .ok (.ireturn, 1) := by decide +kernel
theorem d_L_fixed_0 : decode b_L_fixed 0 = .ok (.aload_n 2, 1) := by decide +kernel
theorem d_L_fixed_1 : decode b_L_fixed 1 = .ok (.iconst 0, 1) := by decide +kernel
theorem d_L_fixed_2 : decode b_L_fixed 2 = .ok (.aload_n 0, 1) := by decide +kernel
theorem d_L_fixed_3 : decode b_L_fixed 3 = .ok (.iload_n 1, 1) := by decide +kernel
theorem d_L_fixed_4 : decode b_L_fixed 4 = .ok (.invokevirtual 48, 3) := by decide +kernel
theorem d_L_fixed_7 : decode b_L_fixed 7 = .ok (.i2l, 1) := by decide +kernel
theorem d_L_fixed_8 : decode b_L_fixed 8 = .ok (.lastore, 1) := by decide +kernel
theorem d_L_fixed_9 : decode b_L_fixed 9 = .ok (.goto 9, 3) := by decide +kernel
theorem d_L_fixed_12 : decode b_L_fixed 12 = .ok (.astore_n 3, 1) := by decide +kernel
theorem d_L_fixed_13 : decode b_L_fixed 13 = .ok (.iconst 1, 1) := by decide +kernel
theorem d_L_fixed_14 : decode b_L_fixed 14 = .ok (.ireturn, 1) := by decide +kernel
theorem d_L_fixed_15 : decode b_L_fixed 15 = .ok (.astore_n 3, 1) := by decide +kernel
theorem d_L_fixed_16 : decode b_L_fixed 16 = .ok (.iconst 2, 1) := by decide +kernel
theorem d_L_fixed_17 : decode b_L_fixed 17 = .ok (.ireturn, 1) := by decide +kernel
theorem d_L_fixed_18 : decode b_L_fixed 18 = .ok (.iconst 0, 1) := by decide +kernel
theorem d_L_fixed_19 : decode b_L_fixed 19 = .ok (.ireturn, 1) := by decide +kernel
theorem d_L_least_0 : decode b_L_least 0 = .ok (.aload_n 2, 1) := by decide +kernel
theorem d_L_least_1 : decode b_L_least 1 = .ok (.iconst 0, 1) := by decide +kernel
theorem d_L_least_2 : decode b_L_least 2 = .ok (.aload_n 0, 1) := by decide +kernel
theorem d_L_least_3 : decode b_L_least 3 = .ok (.iload_n 1, 1) := by decide +kernel
theorem d_L_least_4 : decode b_L_least 4 = .ok (.invokevirtual 51, 3) := by decide +kernel
theorem d_L_least_7 : decode b_L_least 7 = .ok (.i2l, 1) := by decide +kernel
theorem d_L_least_8 : decode b_L_least 8 = .ok (.lastore, 1) := by decide +kernel
theorem d_L_least_9 : decode b_L_least 9 = .ok (.goto 9, 3) := by decide +kernel
theorem d_L_least_12 : decode b_L_least 12 = .ok (.astore_n 3, 1) := by decide +kernel
theorem d_L_least_13 : decode b_L_least 13 = .ok (.iconst 1, 1) := by decide +kernel
theorem d_L_least_14 : decode b_L_least 14 = .ok (.ireturn, 1) := by decide +kernel
theorem d_L_least_15 : decode b_L_least 15 = .ok (.astore_n 3, 1) := by decide +kernel
theorem d_L_least_16 : decode b_L_least 16 = .ok (.iconst 2, 1) := by decide +kernel
theorem d_L_least_17 : decode b_L_least 17 = .ok (.ireturn, 1) := by decide +kernel
theorem d_L_least_18 : decode b_L_least 18 = .ok (.iconst 0, 1) := by decide +kernel
theorem d_L_least_19 : decode b_L_least 19 = .ok (.ireturn, 1) := by decide +kernel
theorem d_L_assume_0 : decode b_L_assume 0 = .ok (.aload_n 2, 1) := by decide +kernel
theorem d_L_assume_1 : decode b_L_assume 1 = .ok (.iconst 0, 1) := by decide +kernel
theorem d_L_assume_2 : decode b_L_assume 2 = .ok (.aload_n 0, 1) := by decide +kernel
theorem d_L_assume_3 : decode b_L_assume 3 = .ok (.iload_n 1, 1) := by decide +kernel
theorem d_L_assume_4 : decode b_L_assume 4 = .ok (.invokevirtual 54, 3) := by decide +kernel
theorem d_L_assume_7 : decode b_L_assume 7 = .ok (.i2l, 1) := by decide +kernel
theorem d_L_assume_8 : decode b_L_assume 8 = .ok (.lastore, 1) := by decide +kernel
theorem d_L_assume_9 : decode b_L_assume 9 = .ok (.goto 9, 3) := by decide +kernel
theorem d_L_assume_12 : decode b_L_assume 12 = .ok (.astore_n 3, 1) := by decide +kernel
theorem d_L_assume_13 : decode b_L_assume 13 = .ok (.iconst 1, 1) := by decide +kernel
theorem d_L_assume_14 : decode b_L_assume 14 = .ok (.ireturn, 1) := by decide +kernel
theorem d_L_assume_15 : decode b_L_assume 15 = .ok (.astore_n 3, 1) := by decide +kernel
theorem d_L_assume_16 : decode b_L_assume 16 = .ok (.iconst 2, 1) := by decide +kernel
theorem d_L_assume_17 : decode b_L_assume 17 = .ok (.ireturn, 1) := by decide +kernel
theorem d_L_assume_18 : decode b_L_assume 18 = .ok (.iconst 0, 1) := by decide +kernel
theorem d_L_assume_19 : decode b_L_assume 19 = .ok (.ireturn, 1) := by decide +kernel
theorem d_L_blame_0 : decode b_L_blame 0 = .ok (.aload_n 1, 1) := by decide +kernel
theorem d_L_blame_1 : decode b_L_blame 1 = .ok (.iconst 0, 1) := by decide +kernel
theorem d_L_blame_2 : decode b_L_blame 2 = .ok (.aload_n 0, 1) := by decide +kernel
theorem d_L_blame_3 : decode b_L_blame 3 = .ok (.invokevirtual 57, 3) := by decide +kernel
theorem d_L_blame_6 : decode b_L_blame 6 = .ok (.i2l, 1) := by decide +kernel
theorem d_L_blame_7 : decode b_L_blame 7 = .ok (.lastore, 1) := by decide +kernel
theorem d_L_blame_8 : decode b_L_blame 8 = .ok (.goto 6, 3) := by decide +kernel
theorem d_L_blame_11 : decode b_L_blame 11 = .ok (.astore_n 2, 1) := by decide +kernel
theorem d_L_blame_12 : decode b_L_blame 12 = .ok (.iconst 1, 1) := by decide +kernel
theorem d_L_blame_13 : decode b_L_blame 13 = .ok (.ireturn, 1) := by decide +kernel
theorem d_L_blame_14 : decode b_L_blame 14 = .ok (.iconst 0, 1) := by decide +kernel
theorem d_L_blame_15 : decode b_L_blame 15 = .ok (.ireturn, 1) := by decide +kernel
theorem d_L_count_0 : decode b_L_count 0 = .ok (.aload_n 2, 1) := by decide +kernel
theorem d_L_count_1 : decode b_L_count 1 = .ok (.iconst 0, 1) := by decide +kernel
theorem d_L_count_2 : decode b_L_count 2 = .ok (.aload_n 0, 1) := by decide +kernel
theorem d_L_count_3 : decode b_L_count 3 = .ok (.iload_n 1, 1) := by decide +kernel
theorem d_L_count_4 : decode b_L_count 4 = .ok (.invokevirtual 60, 3) := by decide +kernel
theorem d_L_count_7 : decode b_L_count 7 = .ok (.i2l, 1) := by decide +kernel
theorem d_L_count_8 : decode b_L_count 8 = .ok (.lastore, 1) := by decide +kernel
theorem d_L_count_9 : decode b_L_count 9 = .ok (.goto 6, 3) := by decide +kernel
theorem d_L_count_12 : decode b_L_count 12 = .ok (.astore_n 3, 1) := by decide +kernel
theorem d_L_count_13 : decode b_L_count 13 = .ok (.iconst 1, 1) := by decide +kernel
theorem d_L_count_14 : decode b_L_count 14 = .ok (.ireturn, 1) := by decide +kernel
theorem d_L_count_15 : decode b_L_count 15 = .ok (.iconst 0, 1) := by decide +kernel
theorem d_L_count_16 : decode b_L_count 16 = .ok (.ireturn, 1) := by decide +kernel
theorem d_L_law_0 : decode b_L_law 0 = .ok (.new 8, 3) := by decide +kernel
theorem d_L_law_3 : decode b_L_law 3 = .ok (.dup, 1) := by decide +kernel
theorem d_L_law_4 : decode b_L_law 4 = .ok (.invokespecial 63, 3) := by decide +kernel
theorem d_L_law_7 : decode b_L_law 7 = .ok (.astore_n 1, 1) := by decide +kernel
theorem d_L_law_8 : decode b_L_law 8 = .ok (.new 64, 3) := by decide +kernel
theorem d_L_law_11 : decode b_L_law 11 = .ok (.dup, 1) := by decide +kernel
theorem d_L_law_12 : decode b_L_law 12 = .ok (.invokespecial 66, 3) := by decide +kernel
theorem d_L_law_15 : decode b_L_law 15 = .ok (.astore_n 2, 1) := by decide +kernel
theorem d_L_law_16 : decode b_L_law 16 = .ok (.iconst 1, 1) := by decide +kernel
theorem d_L_law_17 : decode b_L_law 17 = .ok (.newarray .long, 2) := by decide +kernel
theorem d_L_law_19 : decode b_L_law 19 = .ok (.astore_n 3, 1) := by decide +kernel
theorem d_L_law_20 : decode b_L_law 20 = .ok (.iconst 0, 1) := by decide +kernel
theorem d_L_law_21 : decode b_L_law 21 = .ok (.istore 4, 2) := by decide +kernel
theorem d_L_law_23 : decode b_L_law 23 = .ok (.iload 4, 2) := by decide +kernel
theorem d_L_law_25 : decode b_L_law 25 = .ok (.aload_n 0, 1) := by decide +kernel
theorem d_L_law_26 : decode b_L_law 26 = .ok (.arraylength, 1) := by decide +kernel
theorem d_L_law_27 : decode b_L_law 27 = .ok (.iconst 5, 1) := by decide +kernel
theorem d_L_law_28 : decode b_L_law 28 = .ok (.isub, 1) := by decide +kernel
theorem d_L_law_29 : decode b_L_law 29 = .ok (.if_icmp .gt 944, 3) := by decide +kernel
theorem d_L_law_32 : decode b_L_law 32 = .ok (.aload_n 0, 1) := by decide +kernel
theorem d_L_law_33 : decode b_L_law 33 = .ok (.iload 4, 2) := by decide +kernel
theorem d_L_law_35 : decode b_L_law 35 = .ok (.iaload, 1) := by decide +kernel
theorem d_L_law_36 : decode b_L_law 36 = .ok (.bipush 31, 2) := by decide +kernel
theorem d_L_law_38 : decode b_L_law 38 = .ok (.iand, 1) := by decide +kernel
theorem d_L_law_39 : decode b_L_law 39 = .ok (.tableswitch 928 0 16 #[81, 137, 229, 309, 365, 409, 453, 466, 522, 578, 634, 690, 746, 802, 815, 828, 872], 81) := by decide +kernel
theorem d_L_law_120 : decode b_L_law 120 = .ok (.aload_n 1, 1) := by decide +kernel
theorem d_L_law_121 : decode b_L_law 121 = .ok (.aload_n 0, 1) := by decide +kernel
theorem d_L_law_122 : decode b_L_law 122 = .ok (.iload 4, 2) := by decide +kernel
theorem d_L_law_124 : decode b_L_law 124 = .ok (.iconst 1, 1) := by decide +kernel
theorem d_L_law_125 : decode b_L_law 125 = .ok (.iadd, 1) := by decide +kernel
theorem d_L_law_126 : decode b_L_law 126 = .ok (.iaload, 1) := by decide +kernel
theorem d_L_law_127 : decode b_L_law 127 = .ok (.aload_n 3, 1) := by decide +kernel
theorem d_L_law_128 : decode b_L_law 128 = .ok (.invokestatic 67, 3) := by decide +kernel
theorem d_L_law_131 : decode b_L_law 131 = .ok (.istore 5, 2) := by decide +kernel
theorem d_L_law_133 : decode b_L_law 133 = .ok (.aload_n 2, 1) := by decide +kernel
theorem d_L_law_134 : decode b_L_law 134 = .ok (.aload_n 0, 1) := by decide +kernel
theorem d_L_law_135 : decode b_L_law 135 = .ok (.iload 4, 2) := by decide +kernel
theorem d_L_law_137 : decode b_L_law 137 = .ok (.iconst 1, 1) := by decide +kernel
theorem d_L_law_138 : decode b_L_law 138 = .ok (.iadd, 1) := by decide +kernel
theorem d_L_law_139 : decode b_L_law 139 = .ok (.iaload, 1) := by decide +kernel
theorem d_L_law_140 : decode b_L_law 140 = .ok (.invokevirtual 72, 3) := by decide +kernel
theorem d_L_law_143 : decode b_L_law 143 = .ok (.istore 6, 2) := by decide +kernel
theorem d_L_law_145 : decode b_L_law 145 = .ok (.aload_n 2, 1) := by decide +kernel
theorem d_L_law_146 : decode b_L_law 146 = .ok (.invokevirtual 73, 3) := by decide +kernel
theorem d_L_law_149 : decode b_L_law 149 = .ok (.iload 5, 2) := by decide +kernel
theorem d_L_law_151 : decode b_L_law 151 = .ok (.if_icmp .eq 5, 3) := by decide +kernel
theorem d_L_law_154 : decode b_L_law 154 = .ok (.iconst 0, 1) := by decide +kernel
theorem d_L_law_155 : decode b_L_law 155 = .ok (.ireturn, 1) := by decide +kernel
theorem d_L_law_156 : decode b_L_law 156 = .ok (.iload 5, 2) := by decide +kernel
theorem d_L_law_158 : decode b_L_law 158 = .ok (.ifCond .ne 15, 3) := by decide +kernel
theorem d_L_law_161 : decode b_L_law 161 = .ok (.aload_n 3, 1) := by decide +kernel
theorem d_L_law_162 : decode b_L_law 162 = .ok (.iconst 0, 1) := by decide +kernel
theorem d_L_law_163 : decode b_L_law 163 = .ok (.laload, 1) := by decide +kernel
theorem d_L_law_164 : decode b_L_law 164 = .ok (.iload 6, 2) := by decide +kernel
theorem d_L_law_166 : decode b_L_law 166 = .ok (.i2l, 1) := by decide +kernel
theorem d_L_law_167 : decode b_L_law 167 = .ok (.lcmp, 1) := by decide +kernel
theorem d_L_law_168 : decode b_L_law 168 = .ok (.ifCond .eq 5, 3) := by decide +kernel
theorem d_L_law_171 : decode b_L_law 171 = .ok (.iconst 0, 1) := by decide +kernel
theorem d_L_law_172 : decode b_L_law 172 = .ok (.ireturn, 1) := by decide +kernel
theorem d_L_law_173 : decode b_L_law 173 = .ok (.goto 794, 3) := by decide +kernel
theorem d_L_law_176 : decode b_L_law 176 = .ok (.aload_n 1, 1) := by decide +kernel
theorem d_L_law_177 : decode b_L_law 177 = .ok (.aload_n 0, 1) := by decide +kernel
theorem d_L_law_178 : decode b_L_law 178 = .ok (.iload 4, 2) := by decide +kernel
theorem d_L_law_180 : decode b_L_law 180 = .ok (.iconst 1, 1) := by decide +kernel
theorem d_L_law_181 : decode b_L_law 181 = .ok (.iadd, 1) := by decide +kernel
theorem d_L_law_182 : decode b_L_law 182 = .ok (.iaload, 1) := by decide +kernel
theorem d_L_law_183 : decode b_L_law 183 = .ok (.aload_n 0, 1) := by decide +kernel
theorem d_L_law_184 : decode b_L_law 184 = .ok (.iload 4, 2) := by decide +kernel
theorem d_L_law_186 : decode b_L_law 186 = .ok (.iconst 2, 1) := by decide +kernel
theorem d_L_law_187 : decode b_L_law 187 = .ok (.iadd, 1) := by decide +kernel
theorem d_L_law_188 : decode b_L_law 188 = .ok (.iaload, 1) := by decide +kernel
theorem d_L_law_189 : decode b_L_law 189 = .ok (.aload_n 0, 1) := by decide +kernel
theorem d_L_law_190 : decode b_L_law 190 = .ok (.iload 4, 2) := by decide +kernel
theorem d_L_law_192 : decode b_L_law 192 = .ok (.iconst 3, 1) := by decide +kernel
theorem d_L_law_193 : decode b_L_law 193 = .ok (.iadd, 1) := by decide +kernel
theorem d_L_law_194 : decode b_L_law 194 = .ok (.iaload, 1) := by decide +kernel
theorem d_L_law_195 : decode b_L_law 195 = .ok (.aload_n 0, 1) := by decide +kernel
theorem d_L_law_196 : decode b_L_law 196 = .ok (.iload 4, 2) := by decide +kernel
theorem d_L_law_198 : decode b_L_law 198 = .ok (.iconst 4, 1) := by decide +kernel
theorem d_L_law_199 : decode b_L_law 199 = .ok (.iadd, 1) := by decide +kernel
theorem d_L_law_200 : decode b_L_law 200 = .ok (.iaload, 1) := by decide +kernel
theorem d_L_law_201 : decode b_L_law 201 = .ok (.aload_n 3, 1) := by decide +kernel
theorem d_L_law_202 : decode b_L_law 202 = .ok (.invokestatic 76, 3) := by decide +kernel
theorem d_L_law_205 : decode b_L_law 205 = .ok (.istore 5, 2) := by decide +kernel
theorem d_L_law_207 : decode b_L_law 207 = .ok (.aload_n 2, 1) := by decide +kernel
theorem d_L_law_208 : decode b_L_law 208 = .ok (.aload_n 0, 1) := by decide +kernel
theorem d_L_law_209 : decode b_L_law 209 = .ok (.iload 4, 2) := by decide +kernel
theorem d_L_law_211 : decode b_L_law 211 = .ok (.iconst 1, 1) := by decide +kernel
theorem d_L_law_212 : decode b_L_law 212 = .ok (.iadd, 1) := by decide +kernel
theorem d_L_law_213 : decode b_L_law 213 = .ok (.iaload, 1) := by decide +kernel
theorem d_L_law_214 : decode b_L_law 214 = .ok (.aload_n 0, 1) := by decide +kernel
theorem d_L_law_215 : decode b_L_law 215 = .ok (.iload 4, 2) := by decide +kernel
theorem d_L_law_217 : decode b_L_law 217 = .ok (.iconst 2, 1) := by decide +kernel
theorem d_L_law_218 : decode b_L_law 218 = .ok (.iadd, 1) := by decide +kernel
theorem d_L_law_219 : decode b_L_law 219 = .ok (.iaload, 1) := by decide +kernel
theorem d_L_law_220 : decode b_L_law 220 = .ok (.aload_n 0, 1) := by decide +kernel
theorem d_L_law_221 : decode b_L_law 221 = .ok (.iload 4, 2) := by decide +kernel
theorem d_L_law_223 : decode b_L_law 223 = .ok (.iconst 3, 1) := by decide +kernel
theorem d_L_law_224 : decode b_L_law 224 = .ok (.iadd, 1) := by decide +kernel
theorem d_L_law_225 : decode b_L_law 225 = .ok (.iaload, 1) := by decide +kernel
theorem d_L_law_226 : decode b_L_law 226 = .ok (.aload_n 0, 1) := by decide +kernel
theorem d_L_law_227 : decode b_L_law 227 = .ok (.iload 4, 2) := by decide +kernel
theorem d_L_law_229 : decode b_L_law 229 = .ok (.iconst 4, 1) := by decide +kernel
theorem d_L_law_230 : decode b_L_law 230 = .ok (.iadd, 1) := by decide +kernel
theorem d_L_law_231 : decode b_L_law 231 = .ok (.iaload, 1) := by decide +kernel
theorem d_L_law_232 : decode b_L_law 232 = .ok (.invokevirtual 79, 3) := by decide +kernel
theorem d_L_law_235 : decode b_L_law 235 = .ok (.istore 6, 2) := by decide +kernel
theorem d_L_law_237 : decode b_L_law 237 = .ok (.aload_n 2, 1) := by decide +kernel
theorem d_L_law_238 : decode b_L_law 238 = .ok (.invokevirtual 73, 3) := by decide +kernel
theorem d_L_law_241 : decode b_L_law 241 = .ok (.iload 5, 2) := by decide +kernel
theorem d_L_law_243 : decode b_L_law 243 = .ok (.if_icmp .eq 5, 3) := by decide +kernel
theorem d_L_law_246 : decode b_L_law 246 = .ok (.iconst 0, 1) := by decide +kernel
theorem d_L_law_247 : decode b_L_law 247 = .ok (.ireturn, 1) := by decide +kernel
theorem d_L_law_248 : decode b_L_law 248 = .ok (.iload 5, 2) := by decide +kernel
theorem d_L_law_250 : decode b_L_law 250 = .ok (.ifCond .ne 15, 3) := by decide +kernel
theorem d_L_law_253 : decode b_L_law 253 = .ok (.aload_n 3, 1) := by decide +kernel
theorem d_L_law_254 : decode b_L_law 254 = .ok (.iconst 0, 1) := by decide +kernel
theorem d_L_law_255 : decode b_L_law 255 = .ok (.laload, 1) := by decide +kernel
theorem d_L_law_256 : decode b_L_law 256 = .ok (.iload 6, 2) := by decide +kernel
theorem d_L_law_258 : decode b_L_law 258 = .ok (.i2l, 1) := by decide +kernel
theorem d_L_law_259 : decode b_L_law 259 = .ok (.lcmp, 1) := by decide +kernel
theorem d_L_law_260 : decode b_L_law 260 = .ok (.ifCond .eq 5, 3) := by decide +kernel
theorem d_L_law_263 : decode b_L_law 263 = .ok (.iconst 0, 1) := by decide +kernel
theorem d_L_law_264 : decode b_L_law 264 = .ok (.ireturn, 1) := by decide +kernel
theorem d_L_law_265 : decode b_L_law 265 = .ok (.goto 702, 3) := by decide +kernel
theorem d_L_law_268 : decode b_L_law 268 = .ok (.aload_n 1, 1) := by decide +kernel
theorem d_L_law_269 : decode b_L_law 269 = .ok (.aload_n 0, 1) := by decide +kernel
theorem d_L_law_270 : decode b_L_law 270 = .ok (.iload 4, 2) := by decide +kernel
theorem d_L_law_272 : decode b_L_law 272 = .ok (.iconst 1, 1) := by decide +kernel
theorem d_L_law_273 : decode b_L_law 273 = .ok (.iadd, 1) := by decide +kernel
theorem d_L_law_274 : decode b_L_law 274 = .ok (.iaload, 1) := by decide +kernel
theorem d_L_law_275 : decode b_L_law 275 = .ok (.aload_n 0, 1) := by decide +kernel
theorem d_L_law_276 : decode b_L_law 276 = .ok (.iload 4, 2) := by decide +kernel
theorem d_L_law_278 : decode b_L_law 278 = .ok (.iconst 2, 1) := by decide +kernel
theorem d_L_law_279 : decode b_L_law 279 = .ok (.iadd, 1) := by decide +kernel
theorem d_L_law_280 : decode b_L_law 280 = .ok (.iaload, 1) := by decide +kernel
theorem d_L_law_281 : decode b_L_law 281 = .ok (.aload_n 0, 1) := by decide +kernel
theorem d_L_law_282 : decode b_L_law 282 = .ok (.iload 4, 2) := by decide +kernel
theorem d_L_law_284 : decode b_L_law 284 = .ok (.iconst 3, 1) := by decide +kernel
theorem d_L_law_285 : decode b_L_law 285 = .ok (.iadd, 1) := by decide +kernel
theorem d_L_law_286 : decode b_L_law 286 = .ok (.iaload, 1) := by decide +kernel
theorem d_L_law_287 : decode b_L_law 287 = .ok (.aload_n 3, 1) := by decide +kernel
theorem d_L_law_288 : decode b_L_law 288 = .ok (.invokestatic 80, 3) := by decide +kernel
theorem d_L_law_291 : decode b_L_law 291 = .ok (.istore 5, 2) := by decide +kernel
theorem d_L_law_293 : decode b_L_law 293 = .ok (.aload_n 2, 1) := by decide +kernel
theorem d_L_law_294 : decode b_L_law 294 = .ok (.aload_n 0, 1) := by decide +kernel
theorem d_L_law_295 : decode b_L_law 295 = .ok (.iload 4, 2) := by decide +kernel
theorem d_L_law_297 : decode b_L_law 297 = .ok (.iconst 1, 1) := by decide +kernel
theorem d_L_law_298 : decode b_L_law 298 = .ok (.iadd, 1) := by decide +kernel
theorem d_L_law_299 : decode b_L_law 299 = .ok (.iaload, 1) := by decide +kernel
theorem d_L_law_300 : decode b_L_law 300 = .ok (.aload_n 0, 1) := by decide +kernel
theorem d_L_law_301 : decode b_L_law 301 = .ok (.iload 4, 2) := by decide +kernel
theorem d_L_law_303 : decode b_L_law 303 = .ok (.iconst 2, 1) := by decide +kernel
theorem d_L_law_304 : decode b_L_law 304 = .ok (.iadd, 1) := by decide +kernel
theorem d_L_law_305 : decode b_L_law 305 = .ok (.iaload, 1) := by decide +kernel
theorem d_L_law_306 : decode b_L_law 306 = .ok (.aload_n 0, 1) := by decide +kernel
theorem d_L_law_307 : decode b_L_law 307 = .ok (.iload 4, 2) := by decide +kernel
theorem d_L_law_309 : decode b_L_law 309 = .ok (.iconst 3, 1) := by decide +kernel
theorem d_L_law_310 : decode b_L_law 310 = .ok (.iadd, 1) := by decide +kernel
theorem d_L_law_311 : decode b_L_law 311 = .ok (.iaload, 1) := by decide +kernel
theorem d_L_law_312 : decode b_L_law 312 = .ok (.invokevirtual 83, 3) := by decide +kernel
theorem d_L_law_315 : decode b_L_law 315 = .ok (.istore 6, 2) := by decide +kernel
theorem d_L_law_317 : decode b_L_law 317 = .ok (.aload_n 2, 1) := by decide +kernel
theorem d_L_law_318 : decode b_L_law 318 = .ok (.invokevirtual 73, 3) := by decide +kernel
theorem d_L_law_321 : decode b_L_law 321 = .ok (.iload 5, 2) := by decide +kernel
theorem d_L_law_323 : decode b_L_law 323 = .ok (.if_icmp .eq 5, 3) := by decide +kernel
theorem d_L_law_326 : decode b_L_law 326 = .ok (.iconst 0, 1) := by decide +kernel
theorem d_L_law_327 : decode b_L_law 327 = .ok (.ireturn, 1) := by decide +kernel
theorem d_L_law_328 : decode b_L_law 328 = .ok (.iload 5, 2) := by decide +kernel
theorem d_L_law_330 : decode b_L_law 330 = .ok (.ifCond .ne 15, 3) := by decide +kernel
theorem d_L_law_333 : decode b_L_law 333 = .ok (.aload_n 3, 1) := by decide +kernel
theorem d_L_law_334 : decode b_L_law 334 = .ok (.iconst 0, 1) := by decide +kernel
theorem d_L_law_335 : decode b_L_law 335 = .ok (.laload, 1) := by decide +kernel
theorem d_L_law_336 : decode b_L_law 336 = .ok (.iload 6, 2) := by decide +kernel
theorem d_L_law_338 : decode b_L_law 338 = .ok (.i2l, 1) := by decide +kernel
theorem d_L_law_339 : decode b_L_law 339 = .ok (.lcmp, 1) := by decide +kernel
theorem d_L_law_340 : decode b_L_law 340 = .ok (.ifCond .eq 5, 3) := by decide +kernel
theorem d_L_law_343 : decode b_L_law 343 = .ok (.iconst 0, 1) := by decide +kernel
theorem d_L_law_344 : decode b_L_law 344 = .ok (.ireturn, 1) := by decide +kernel
theorem d_L_law_345 : decode b_L_law 345 = .ok (.goto 622, 3) := by decide +kernel
theorem d_L_law_348 : decode b_L_law 348 = .ok (.aload_n 1, 1) := by decide +kernel
theorem d_L_law_349 : decode b_L_law 349 = .ok (.aload_n 0, 1) := by decide +kernel
theorem d_L_law_350 : decode b_L_law 350 = .ok (.iload 4, 2) := by decide +kernel
theorem d_L_law_352 : decode b_L_law 352 = .ok (.iconst 1, 1) := by decide +kernel
theorem d_L_law_353 : decode b_L_law 353 = .ok (.iadd, 1) := by decide +kernel
theorem d_L_law_354 : decode b_L_law 354 = .ok (.iaload, 1) := by decide +kernel
theorem d_L_law_355 : decode b_L_law 355 = .ok (.aload_n 3, 1) := by decide +kernel
theorem d_L_law_356 : decode b_L_law 356 = .ok (.invokestatic 84, 3) := by decide +kernel
theorem d_L_law_359 : decode b_L_law 359 = .ok (.istore 5, 2) := by decide +kernel
theorem d_L_law_361 : decode b_L_law 361 = .ok (.aload_n 2, 1) := by decide +kernel
theorem d_L_law_362 : decode b_L_law 362 = .ok (.aload_n 0, 1) := by decide +kernel
theorem d_L_law_363 : decode b_L_law 363 = .ok (.iload 4, 2) := by decide +kernel
theorem d_L_law_365 : decode b_L_law 365 = .ok (.iconst 1, 1) := by decide +kernel
theorem d_L_law_366 : decode b_L_law 366 = .ok (.iadd, 1) := by decide +kernel
theorem d_L_law_367 : decode b_L_law 367 = .ok (.iaload, 1) := by decide +kernel
theorem d_L_law_368 : decode b_L_law 368 = .ok (.invokevirtual 86, 3) := by decide +kernel
theorem d_L_law_371 : decode b_L_law 371 = .ok (.istore 6, 2) := by decide +kernel
theorem d_L_law_373 : decode b_L_law 373 = .ok (.aload_n 2, 1) := by decide +kernel
theorem d_L_law_374 : decode b_L_law 374 = .ok (.invokevirtual 73, 3) := by decide +kernel
theorem d_L_law_377 : decode b_L_law 377 = .ok (.iload 5, 2) := by decide +kernel
theorem d_L_law_379 : decode b_L_law 379 = .ok (.if_icmp .eq 5, 3) := by decide +kernel
theorem d_L_law_382 : decode b_L_law 382 = .ok (.iconst 0, 1) := by decide +kernel
theorem d_L_law_383 : decode b_L_law 383 = .ok (.ireturn, 1) := by decide +kernel
theorem d_L_law_384 : decode b_L_law 384 = .ok (.iload 5, 2) := by decide +kernel
theorem d_L_law_386 : decode b_L_law 386 = .ok (.ifCond .ne 15, 3) := by decide +kernel
theorem d_L_law_389 : decode b_L_law 389 = .ok (.aload_n 3, 1) := by decide +kernel
theorem d_L_law_390 : decode b_L_law 390 = .ok (.iconst 0, 1) := by decide +kernel
theorem d_L_law_391 : decode b_L_law 391 = .ok (.laload, 1) := by decide +kernel
theorem d_L_law_392 : decode b_L_law 392 = .ok (.iload 6, 2) := by decide +kernel
theorem d_L_law_394 : decode b_L_law 394 = .ok (.i2l, 1) := by decide +kernel
theorem d_L_law_395 : decode b_L_law 395 = .ok (.lcmp, 1) := by decide +kernel
theorem d_L_law_396 : decode b_L_law 396 = .ok (.ifCond .eq 5, 3) := by decide +kernel
theorem d_L_law_399 : decode b_L_law 399 = .ok (.iconst 0, 1) := by decide +kernel
theorem d_L_law_400 : decode b_L_law 400 = .ok (.ireturn, 1) := by decide +kernel
theorem d_L_law_401 : decode b_L_law 401 = .ok (.goto 566, 3) := by decide +kernel
theorem d_L_law_404 : decode b_L_law 404 = .ok (.aload_n 1, 1) := by decide +kernel
theorem d_L_law_405 : decode b_L_law 405 = .ok (.aload_n 3, 1) := by decide +kernel
theorem d_L_law_406 : decode b_L_law 406 = .ok (.invokestatic 87, 3) := by decide +kernel
theorem d_L_law_409 : decode b_L_law 409 = .ok (.istore 5, 2) := by decide +kernel
theorem d_L_law_411 : decode b_L_law 411 = .ok (.aload_n 2, 1) := by decide +kernel
theorem d_L_law_412 : decode b_L_law 412 = .ok (.invokevirtual 90, 3) := by decide +kernel
theorem d_L_law_415 : decode b_L_law 415 = .ok (.istore 6, 2) := by decide +kernel
theorem d_L_law_417 : decode b_L_law 417 = .ok (.aload_n 2, 1) := by decide +kernel
theorem d_L_law_418 : decode b_L_law 418 = .ok (.invokevirtual 73, 3) := by decide +kernel
theorem d_L_law_421 : decode b_L_law 421 = .ok (.iload 5, 2) := by decide +kernel
theorem d_L_law_423 : decode b_L_law 423 = .ok (.if_icmp .eq 5, 3) := by decide +kernel
theorem d_L_law_426 : decode b_L_law 426 = .ok (.iconst 0, 1) := by decide +kernel
theorem d_L_law_427 : decode b_L_law 427 = .ok (.ireturn, 1) := by decide +kernel
theorem d_L_law_428 : decode b_L_law 428 = .ok (.iload 5, 2) := by decide +kernel
theorem d_L_law_430 : decode b_L_law 430 = .ok (.ifCond .ne 15, 3) := by decide +kernel
theorem d_L_law_433 : decode b_L_law 433 = .ok (.aload_n 3, 1) := by decide +kernel
theorem d_L_law_434 : decode b_L_law 434 = .ok (.iconst 0, 1) := by decide +kernel
theorem d_L_law_435 : decode b_L_law 435 = .ok (.laload, 1) := by decide +kernel
theorem d_L_law_436 : decode b_L_law 436 = .ok (.iload 6, 2) := by decide +kernel
theorem d_L_law_438 : decode b_L_law 438 = .ok (.i2l, 1) := by decide +kernel
theorem d_L_law_439 : decode b_L_law 439 = .ok (.lcmp, 1) := by decide +kernel
theorem d_L_law_440 : decode b_L_law 440 = .ok (.ifCond .eq 5, 3) := by decide +kernel
theorem d_L_law_443 : decode b_L_law 443 = .ok (.iconst 0, 1) := by decide +kernel
theorem d_L_law_444 : decode b_L_law 444 = .ok (.ireturn, 1) := by decide +kernel
theorem d_L_law_445 : decode b_L_law 445 = .ok (.goto 522, 3) := by decide +kernel
theorem d_L_law_448 : decode b_L_law 448 = .ok (.aload_n 1, 1) := by decide +kernel
theorem d_L_law_449 : decode b_L_law 449 = .ok (.aload_n 3, 1) := by decide +kernel
theorem d_L_law_450 : decode b_L_law 450 = .ok (.invokestatic 91, 3) := by decide +kernel
theorem d_L_law_453 : decode b_L_law 453 = .ok (.istore 5, 2) := by decide +kernel
theorem d_L_law_455 : decode b_L_law 455 = .ok (.aload_n 2, 1) := by decide +kernel
theorem d_L_law_456 : decode b_L_law 456 = .ok (.invokevirtual 93, 3) := by decide +kernel
theorem d_L_law_459 : decode b_L_law 459 = .ok (.istore 6, 2) := by decide +kernel
theorem d_L_law_461 : decode b_L_law 461 = .ok (.aload_n 2, 1) := by decide +kernel
theorem d_L_law_462 : decode b_L_law 462 = .ok (.invokevirtual 73, 3) := by decide +kernel
theorem d_L_law_465 : decode b_L_law 465 = .ok (.iload 5, 2) := by decide +kernel
theorem d_L_law_467 : decode b_L_law 467 = .ok (.if_icmp .eq 5, 3) := by decide +kernel
theorem d_L_law_470 : decode b_L_law 470 = .ok (.iconst 0, 1) := by decide +kernel
theorem d_L_law_471 : decode b_L_law 471 = .ok (.ireturn, 1) := by decide +kernel
theorem d_L_law_472 : decode b_L_law 472 = .ok (.iload 5, 2) := by decide +kernel
theorem d_L_law_474 : decode b_L_law 474 = .ok (.ifCond .ne 15, 3) := by decide +kernel
theorem d_L_law_477 : decode b_L_law 477 = .ok (.aload_n 3, 1) := by decide +kernel
theorem d_L_law_478 : decode b_L_law 478 = .ok (.iconst 0, 1) := by decide +kernel
theorem d_L_law_479 : decode b_L_law 479 = .ok (.laload, 1) := by decide +kernel
theorem d_L_law_480 : decode b_L_law 480 = .ok (.iload 6, 2) := by decide +kernel
theorem d_L_law_482 : decode b_L_law 482 = .ok (.i2l, 1) := by decide +kernel
theorem d_L_law_483 : decode b_L_law 483 = .ok (.lcmp, 1) := by decide +kernel
theorem d_L_law_484 : decode b_L_law 484 = .ok (.ifCond .eq 5, 3) := by decide +kernel
theorem d_L_law_487 : decode b_L_law 487 = .ok (.iconst 0, 1) := by decide +kernel
theorem d_L_law_488 : decode b_L_law 488 = .ok (.ireturn, 1) := by decide +kernel
theorem d_L_law_489 : decode b_L_law 489 = .ok (.goto 478, 3) := by decide +kernel
theorem d_L_law_492 : decode b_L_law 492 = .ok (.aload_n 1, 1) := by decide +kernel
theorem d_L_law_493 : decode b_L_law 493 = .ok (.invokevirtual 94, 3) := by decide +kernel
theorem d_L_law_496 : decode b_L_law 496 = .ok (.aload_n 2, 1) := by decide +kernel
theorem d_L_law_497 : decode b_L_law 497 = .ok (.invokevirtual 97, 3) := by decide +kernel
theorem d_L_law_500 : decode b_L_law 500 = .ok (.if_icmp .eq 467, 3) := by decide +kernel
theorem d_L_law_503 : decode b_L_law 503 = .ok (.iconst 0, 1) := by decide +kernel
theorem d_L_law_504 : decode b_L_law 504 = .ok (.ireturn, 1) := by decide +kernel
theorem d_L_law_505 : decode b_L_law 505 = .ok (.aload_n 1, 1) := by decide +kernel
theorem d_L_law_506 : decode b_L_law 506 = .ok (.aload_n 0, 1) := by decide +kernel
theorem d_L_law_507 : decode b_L_law 507 = .ok (.iload 4, 2) := by decide +kernel
theorem d_L_law_509 : decode b_L_law 509 = .ok (.iconst 1, 1) := by decide +kernel
theorem d_L_law_510 : decode b_L_law 510 = .ok (.iadd, 1) := by decide +kernel
theorem d_L_law_511 : decode b_L_law 511 = .ok (.iaload, 1) := by decide +kernel
theorem d_L_law_512 : decode b_L_law 512 = .ok (.aload_n 3, 1) := by decide +kernel
theorem d_L_law_513 : decode b_L_law 513 = .ok (.invokestatic 98, 3) := by decide +kernel
theorem d_L_law_516 : decode b_L_law 516 = .ok (.istore 5, 2) := by decide +kernel
theorem d_L_law_518 : decode b_L_law 518 = .ok (.aload_n 2, 1) := by decide +kernel
theorem d_L_law_519 : decode b_L_law 519 = .ok (.aload_n 0, 1) := by decide +kernel
theorem d_L_law_520 : decode b_L_law 520 = .ok (.iload 4, 2) := by decide +kernel
theorem d_L_law_522 : decode b_L_law 522 = .ok (.iconst 1, 1) := by decide +kernel
theorem d_L_law_523 : decode b_L_law 523 = .ok (.iadd, 1) := by decide +kernel
theorem d_L_law_524 : decode b_L_law 524 = .ok (.iaload, 1) := by decide +kernel
theorem d_L_law_525 : decode b_L_law 525 = .ok (.invokevirtual 100, 3) := by decide +kernel
theorem d_L_law_528 : decode b_L_law 528 = .ok (.istore 6, 2) := by decide +kernel
theorem d_L_law_530 : decode b_L_law 530 = .ok (.aload_n 2, 1) := by decide +kernel
theorem d_L_law_531 : decode b_L_law 531 = .ok (.invokevirtual 73, 3) := by decide +kernel
theorem d_L_law_534 : decode b_L_law 534 = .ok (.iload 5, 2) := by decide +kernel
theorem d_L_law_536 : decode b_L_law 536 = .ok (.if_icmp .eq 5, 3) := by decide +kernel
theorem d_L_law_539 : decode b_L_law 539 = .ok (.iconst 0, 1) := by decide +kernel
theorem d_L_law_540 : decode b_L_law 540 = .ok (.ireturn, 1) := by decide +kernel
theorem d_L_law_541 : decode b_L_law 541 = .ok (.iload 5, 2) := by decide +kernel
theorem d_L_law_543 : decode b_L_law 543 = .ok (.ifCond .ne 15, 3) := by decide +kernel
theorem d_L_law_546 : decode b_L_law 546 = .ok (.aload_n 3, 1) := by decide +kernel
theorem d_L_law_547 : decode b_L_law 547 = .ok (.iconst 0, 1) := by decide +kernel
theorem d_L_law_548 : decode b_L_law 548 = .ok (.laload, 1) := by decide +kernel
theorem d_L_law_549 : decode b_L_law 549 = .ok (.iload 6, 2) := by decide +kernel
theorem d_L_law_551 : decode b_L_law 551 = .ok (.i2l, 1) := by decide +kernel
theorem d_L_law_552 : decode b_L_law 552 = .ok (.lcmp, 1) := by decide +kernel
theorem d_L_law_553 : decode b_L_law 553 = .ok (.ifCond .eq 5, 3) := by decide +kernel
theorem d_L_law_556 : decode b_L_law 556 = .ok (.iconst 0, 1) := by decide +kernel
theorem d_L_law_557 : decode b_L_law 557 = .ok (.ireturn, 1) := by decide +kernel
theorem d_L_law_558 : decode b_L_law 558 = .ok (.goto 409, 3) := by decide +kernel
theorem d_L_law_561 : decode b_L_law 561 = .ok (.aload_n 1, 1) := by decide +kernel
theorem d_L_law_562 : decode b_L_law 562 = .ok (.aload_n 0, 1) := by decide +kernel
theorem d_L_law_563 : decode b_L_law 563 = .ok (.iload 4, 2) := by decide +kernel
theorem d_L_law_565 : decode b_L_law 565 = .ok (.iconst 1, 1) := by decide +kernel
theorem d_L_law_566 : decode b_L_law 566 = .ok (.iadd, 1) := by decide +kernel
theorem d_L_law_567 : decode b_L_law 567 = .ok (.iaload, 1) := by decide +kernel
theorem d_L_law_568 : decode b_L_law 568 = .ok (.aload_n 3, 1) := by decide +kernel
theorem d_L_law_569 : decode b_L_law 569 = .ok (.invokestatic 101, 3) := by decide +kernel
theorem d_L_law_572 : decode b_L_law 572 = .ok (.istore 5, 2) := by decide +kernel
theorem d_L_law_574 : decode b_L_law 574 = .ok (.aload_n 2, 1) := by decide +kernel
theorem d_L_law_575 : decode b_L_law 575 = .ok (.aload_n 0, 1) := by decide +kernel
theorem d_L_law_576 : decode b_L_law 576 = .ok (.iload 4, 2) := by decide +kernel
theorem d_L_law_578 : decode b_L_law 578 = .ok (.iconst 1, 1) := by decide +kernel
theorem d_L_law_579 : decode b_L_law 579 = .ok (.iadd, 1) := by decide +kernel
theorem d_L_law_580 : decode b_L_law 580 = .ok (.iaload, 1) := by decide +kernel
theorem d_L_law_581 : decode b_L_law 581 = .ok (.invokevirtual 103, 3) := by decide +kernel
theorem d_L_law_584 : decode b_L_law 584 = .ok (.istore 6, 2) := by decide +kernel
theorem d_L_law_586 : decode b_L_law 586 = .ok (.aload_n 2, 1) := by decide +kernel
theorem d_L_law_587 : decode b_L_law 587 = .ok (.invokevirtual 73, 3) := by decide +kernel
theorem d_L_law_590 : decode b_L_law 590 = .ok (.iload 5, 2) := by decide +kernel
theorem d_L_law_592 : decode b_L_law 592 = .ok (.if_icmp .eq 5, 3) := by decide +kernel
theorem d_L_law_595 : decode b_L_law 595 = .ok (.iconst 0, 1) := by decide +kernel
theorem d_L_law_596 : decode b_L_law 596 = .ok (.ireturn, 1) := by decide +kernel
theorem d_L_law_597 : decode b_L_law 597 = .ok (.iload 5, 2) := by decide +kernel
theorem d_L_law_599 : decode b_L_law 599 = .ok (.ifCond .ne 15, 3) := by decide +kernel
theorem d_L_law_602 : decode b_L_law 602 = .ok (.aload_n 3, 1) := by decide +kernel
theorem d_L_law_603 : decode b_L_law 603 = .ok (.iconst 0, 1) := by decide +kernel
theorem d_L_law_604 : decode b_L_law 604 = .ok (.laload, 1) := by decide +kernel
theorem d_L_law_605 : decode b_L_law 605 = .ok (.iload 6, 2) := by decide +kernel
theorem d_L_law_607 : decode b_L_law 607 = .ok (.i2l, 1) := by decide +kernel
theorem d_L_law_608 : decode b_L_law 608 = .ok (.lcmp, 1) := by decide +kernel
theorem d_L_law_609 : decode b_L_law 609 = .ok (.ifCond .eq 5, 3) := by decide +kernel
theorem d_L_law_612 : decode b_L_law 612 = .ok (.iconst 0, 1) := by decide +kernel
theorem d_L_law_613 : decode b_L_law 613 = .ok (.ireturn, 1) := by decide +kernel
theorem d_L_law_614 : decode b_L_law 614 = .ok (.goto 353, 3) := by decide +kernel
theorem d_L_law_617 : decode b_L_law 617 = .ok (.aload_n 1, 1) := by decide +kernel
theorem d_L_law_618 : decode b_L_law 618 = .ok (.aload_n 0, 1) := by decide +kernel
theorem d_L_law_619 : decode b_L_law 619 = .ok (.iload 4, 2) := by decide +kernel
theorem d_L_law_621 : decode b_L_law 621 = .ok (.iconst 1, 1) := by decide +kernel
theorem d_L_law_622 : decode b_L_law 622 = .ok (.iadd, 1) := by decide +kernel
theorem d_L_law_623 : decode b_L_law 623 = .ok (.iaload, 1) := by decide +kernel
theorem d_L_law_624 : decode b_L_law 624 = .ok (.aload_n 3, 1) := by decide +kernel
theorem d_L_law_625 : decode b_L_law 625 = .ok (.invokestatic 104, 3) := by decide +kernel
theorem d_L_law_628 : decode b_L_law 628 = .ok (.istore 5, 2) := by decide +kernel
theorem d_L_law_630 : decode b_L_law 630 = .ok (.aload_n 2, 1) := by decide +kernel
theorem d_L_law_631 : decode b_L_law 631 = .ok (.aload_n 0, 1) := by decide +kernel
theorem d_L_law_632 : decode b_L_law 632 = .ok (.iload 4, 2) := by decide +kernel
theorem d_L_law_634 : decode b_L_law 634 = .ok (.iconst 1, 1) := by decide +kernel
theorem d_L_law_635 : decode b_L_law 635 = .ok (.iadd, 1) := by decide +kernel
theorem d_L_law_636 : decode b_L_law 636 = .ok (.iaload, 1) := by decide +kernel
theorem d_L_law_637 : decode b_L_law 637 = .ok (.invokevirtual 106, 3) := by decide +kernel
theorem d_L_law_640 : decode b_L_law 640 = .ok (.istore 6, 2) := by decide +kernel
theorem d_L_law_642 : decode b_L_law 642 = .ok (.aload_n 2, 1) := by decide +kernel
theorem d_L_law_643 : decode b_L_law 643 = .ok (.invokevirtual 73, 3) := by decide +kernel
theorem d_L_law_646 : decode b_L_law 646 = .ok (.iload 5, 2) := by decide +kernel
theorem d_L_law_648 : decode b_L_law 648 = .ok (.if_icmp .eq 5, 3) := by decide +kernel
theorem d_L_law_651 : decode b_L_law 651 = .ok (.iconst 0, 1) := by decide +kernel
theorem d_L_law_652 : decode b_L_law 652 = .ok (.ireturn, 1) := by decide +kernel
theorem d_L_law_653 : decode b_L_law 653 = .ok (.iload 5, 2) := by decide +kernel
theorem d_L_law_655 : decode b_L_law 655 = .ok (.ifCond .ne 15, 3) := by decide +kernel
theorem d_L_law_658 : decode b_L_law 658 = .ok (.aload_n 3, 1) := by decide +kernel
theorem d_L_law_659 : decode b_L_law 659 = .ok (.iconst 0, 1) := by decide +kernel
theorem d_L_law_660 : decode b_L_law 660 = .ok (.laload, 1) := by decide +kernel
theorem d_L_law_661 : decode b_L_law 661 = .ok (.iload 6, 2) := by decide +kernel
theorem d_L_law_663 : decode b_L_law 663 = .ok (.i2l, 1) := by decide +kernel
theorem d_L_law_664 : decode b_L_law 664 = .ok (.lcmp, 1) := by decide +kernel
theorem d_L_law_665 : decode b_L_law 665 = .ok (.ifCond .eq 5, 3) := by decide +kernel
theorem d_L_law_668 : decode b_L_law 668 = .ok (.iconst 0, 1) := by decide +kernel
theorem d_L_law_669 : decode b_L_law 669 = .ok (.ireturn, 1) := by decide +kernel
theorem d_L_law_670 : decode b_L_law 670 = .ok (.goto 297, 3) := by decide +kernel
theorem d_L_law_673 : decode b_L_law 673 = .ok (.aload_n 1, 1) := by decide +kernel
theorem d_L_law_674 : decode b_L_law 674 = .ok (.aload_n 0, 1) := by decide +kernel
theorem d_L_law_675 : decode b_L_law 675 = .ok (.iload 4, 2) := by decide +kernel
theorem d_L_law_677 : decode b_L_law 677 = .ok (.iconst 1, 1) := by decide +kernel
theorem d_L_law_678 : decode b_L_law 678 = .ok (.iadd, 1) := by decide +kernel
theorem d_L_law_679 : decode b_L_law 679 = .ok (.iaload, 1) := by decide +kernel
theorem d_L_law_680 : decode b_L_law 680 = .ok (.aload_n 3, 1) := by decide +kernel
theorem d_L_law_681 : decode b_L_law 681 = .ok (.invokestatic 107, 3) := by decide +kernel
theorem d_L_law_684 : decode b_L_law 684 = .ok (.istore 5, 2) := by decide +kernel
theorem d_L_law_686 : decode b_L_law 686 = .ok (.aload_n 2, 1) := by decide +kernel
theorem d_L_law_687 : decode b_L_law 687 = .ok (.aload_n 0, 1) := by decide +kernel
theorem d_L_law_688 : decode b_L_law 688 = .ok (.iload 4, 2) := by decide +kernel
theorem d_L_law_690 : decode b_L_law 690 = .ok (.iconst 1, 1) := by decide +kernel
theorem d_L_law_691 : decode b_L_law 691 = .ok (.iadd, 1) := by decide +kernel
theorem d_L_law_692 : decode b_L_law 692 = .ok (.iaload, 1) := by decide +kernel
theorem d_L_law_693 : decode b_L_law 693 = .ok (.invokevirtual 109, 3) := by decide +kernel
theorem d_L_law_696 : decode b_L_law 696 = .ok (.istore 6, 2) := by decide +kernel
theorem d_L_law_698 : decode b_L_law 698 = .ok (.aload_n 2, 1) := by decide +kernel
theorem d_L_law_699 : decode b_L_law 699 = .ok (.invokevirtual 73, 3) := by decide +kernel
theorem d_L_law_702 : decode b_L_law 702 = .ok (.iload 5, 2) := by decide +kernel
theorem d_L_law_704 : decode b_L_law 704 = .ok (.if_icmp .eq 5, 3) := by decide +kernel
theorem d_L_law_707 : decode b_L_law 707 = .ok (.iconst 0, 1) := by decide +kernel
theorem d_L_law_708 : decode b_L_law 708 = .ok (.ireturn, 1) := by decide +kernel
theorem d_L_law_709 : decode b_L_law 709 = .ok (.iload 5, 2) := by decide +kernel
theorem d_L_law_711 : decode b_L_law 711 = .ok (.ifCond .ne 15, 3) := by decide +kernel
theorem d_L_law_714 : decode b_L_law 714 = .ok (.aload_n 3, 1) := by decide +kernel
theorem d_L_law_715 : decode b_L_law 715 = .ok (.iconst 0, 1) := by decide +kernel
theorem d_L_law_716 : decode b_L_law 716 = .ok (.laload, 1) := by decide +kernel
theorem d_L_law_717 : decode b_L_law 717 = .ok (.iload 6, 2) := by decide +kernel
theorem d_L_law_719 : decode b_L_law 719 = .ok (.i2l, 1) := by decide +kernel
theorem d_L_law_720 : decode b_L_law 720 = .ok (.lcmp, 1) := by decide +kernel
theorem d_L_law_721 : decode b_L_law 721 = .ok (.ifCond .eq 5, 3) := by decide +kernel
theorem d_L_law_724 : decode b_L_law 724 = .ok (.iconst 0, 1) := by decide +kernel
theorem d_L_law_725 : decode b_L_law 725 = .ok (.ireturn, 1) := by decide +kernel
theorem d_L_law_726 : decode b_L_law 726 = .ok (.goto 241, 3) := by decide +kernel
theorem d_L_law_729 : decode b_L_law 729 = .ok (.aload_n 1, 1) := by decide +kernel
theorem d_L_law_730 : decode b_L_law 730 = .ok (.aload_n 0, 1) := by decide +kernel
theorem d_L_law_731 : decode b_L_law 731 = .ok (.iload 4, 2) := by decide +kernel
theorem d_L_law_733 : decode b_L_law 733 = .ok (.iconst 1, 1) := by decide +kernel
theorem d_L_law_734 : decode b_L_law 734 = .ok (.iadd, 1) := by decide +kernel
theorem d_L_law_735 : decode b_L_law 735 = .ok (.iaload, 1) := by decide +kernel
theorem d_L_law_736 : decode b_L_law 736 = .ok (.aload_n 3, 1) := by decide +kernel
theorem d_L_law_737 : decode b_L_law 737 = .ok (.invokestatic 110, 3) := by decide +kernel
theorem d_L_law_740 : decode b_L_law 740 = .ok (.istore 5, 2) := by decide +kernel
theorem d_L_law_742 : decode b_L_law 742 = .ok (.aload_n 2, 1) := by decide +kernel
theorem d_L_law_743 : decode b_L_law 743 = .ok (.aload_n 0, 1) := by decide +kernel
theorem d_L_law_744 : decode b_L_law 744 = .ok (.iload 4, 2) := by decide +kernel
theorem d_L_law_746 : decode b_L_law 746 = .ok (.iconst 1, 1) := by decide +kernel
theorem d_L_law_747 : decode b_L_law 747 = .ok (.iadd, 1) := by decide +kernel
theorem d_L_law_748 : decode b_L_law 748 = .ok (.iaload, 1) := by decide +kernel
theorem d_L_law_749 : decode b_L_law 749 = .ok (.invokevirtual 112, 3) := by decide +kernel
theorem d_L_law_752 : decode b_L_law 752 = .ok (.istore 6, 2) := by decide +kernel
theorem d_L_law_754 : decode b_L_law 754 = .ok (.aload_n 2, 1) := by decide +kernel
theorem d_L_law_755 : decode b_L_law 755 = .ok (.invokevirtual 73, 3) := by decide +kernel
theorem d_L_law_758 : decode b_L_law 758 = .ok (.iload 5, 2) := by decide +kernel
theorem d_L_law_760 : decode b_L_law 760 = .ok (.if_icmp .eq 5, 3) := by decide +kernel
theorem d_L_law_763 : decode b_L_law 763 = .ok (.iconst 0, 1) := by decide +kernel
theorem d_L_law_764 : decode b_L_law 764 = .ok (.ireturn, 1) := by decide +kernel
theorem d_L_law_765 : decode b_L_law 765 = .ok (.iload 5, 2) := by decide +kernel
theorem d_L_law_767 : decode b_L_law 767 = .ok (.ifCond .ne 15, 3) := by decide +kernel
theorem d_L_law_770 : decode b_L_law 770 = .ok (.aload_n 3, 1) := by decide +kernel
theorem d_L_law_771 : decode b_L_law 771 = .ok (.iconst 0, 1) := by decide +kernel
theorem d_L_law_772 : decode b_L_law 772 = .ok (.laload, 1) := by decide +kernel
theorem d_L_law_773 : decode b_L_law 773 = .ok (.iload 6, 2) := by decide +kernel
theorem d_L_law_775 : decode b_L_law 775 = .ok (.i2l, 1) := by decide +kernel
theorem d_L_law_776 : decode b_L_law 776 = .ok (.lcmp, 1) := by decide +kernel
theorem d_L_law_777 : decode b_L_law 777 = .ok (.ifCond .eq 5, 3) := by decide +kernel
theorem d_L_law_780 : decode b_L_law 780 = .ok (.iconst 0, 1) := by decide +kernel
theorem d_L_law_781 : decode b_L_law 781 = .ok (.ireturn, 1) := by decide +kernel
theorem d_L_law_782 : decode b_L_law 782 = .ok (.goto 185, 3) := by decide +kernel
theorem d_L_law_785 : decode b_L_law 785 = .ok (.aload_n 1, 1) := by decide +kernel
theorem d_L_law_786 : decode b_L_law 786 = .ok (.aload_n 0, 1) := by decide +kernel
theorem d_L_law_787 : decode b_L_law 787 = .ok (.iload 4, 2) := by decide +kernel
theorem d_L_law_789 : decode b_L_law 789 = .ok (.iconst 1, 1) := by decide +kernel
theorem d_L_law_790 : decode b_L_law 790 = .ok (.iadd, 1) := by decide +kernel
theorem d_L_law_791 : decode b_L_law 791 = .ok (.iaload, 1) := by decide +kernel
theorem d_L_law_792 : decode b_L_law 792 = .ok (.aload_n 3, 1) := by decide +kernel
theorem d_L_law_793 : decode b_L_law 793 = .ok (.invokestatic 113, 3) := by decide +kernel
theorem d_L_law_796 : decode b_L_law 796 = .ok (.istore 5, 2) := by decide +kernel
theorem d_L_law_798 : decode b_L_law 798 = .ok (.aload_n 2, 1) := by decide +kernel
theorem d_L_law_799 : decode b_L_law 799 = .ok (.aload_n 0, 1) := by decide +kernel
theorem d_L_law_800 : decode b_L_law 800 = .ok (.iload 4, 2) := by decide +kernel
theorem d_L_law_802 : decode b_L_law 802 = .ok (.iconst 1, 1) := by decide +kernel
theorem d_L_law_803 : decode b_L_law 803 = .ok (.iadd, 1) := by decide +kernel
theorem d_L_law_804 : decode b_L_law 804 = .ok (.iaload, 1) := by decide +kernel
theorem d_L_law_805 : decode b_L_law 805 = .ok (.invokevirtual 115, 3) := by decide +kernel
theorem d_L_law_808 : decode b_L_law 808 = .ok (.istore 6, 2) := by decide +kernel
theorem d_L_law_810 : decode b_L_law 810 = .ok (.aload_n 2, 1) := by decide +kernel
theorem d_L_law_811 : decode b_L_law 811 = .ok (.invokevirtual 73, 3) := by decide +kernel
theorem d_L_law_814 : decode b_L_law 814 = .ok (.iload 5, 2) := by decide +kernel
theorem d_L_law_816 : decode b_L_law 816 = .ok (.if_icmp .eq 5, 3) := by decide +kernel
theorem d_L_law_819 : decode b_L_law 819 = .ok (.iconst 0, 1) := by decide +kernel
theorem d_L_law_820 : decode b_L_law 820 = .ok (.ireturn, 1) := by decide +kernel
theorem d_L_law_821 : decode b_L_law 821 = .ok (.iload 5, 2) := by decide +kernel
theorem d_L_law_823 : decode b_L_law 823 = .ok (.ifCond .ne 15, 3) := by decide +kernel
theorem d_L_law_826 : decode b_L_law 826 = .ok (.aload_n 3, 1) := by decide +kernel
theorem d_L_law_827 : decode b_L_law 827 = .ok (.iconst 0, 1) := by decide +kernel
theorem d_L_law_828 : decode b_L_law 828 = .ok (.laload, 1) := by decide +kernel
theorem d_L_law_829 : decode b_L_law 829 = .ok (.iload 6, 2) := by decide +kernel
theorem d_L_law_831 : decode b_L_law 831 = .ok (.i2l, 1) := by decide +kernel
theorem d_L_law_832 : decode b_L_law 832 = .ok (.lcmp, 1) := by decide +kernel
theorem d_L_law_833 : decode b_L_law 833 = .ok (.ifCond .eq 5, 3) := by decide +kernel
theorem d_L_law_836 : decode b_L_law 836 = .ok (.iconst 0, 1) := by decide +kernel
theorem d_L_law_837 : decode b_L_law 837 = .ok (.ireturn, 1) := by decide +kernel
theorem d_L_law_838 : decode b_L_law 838 = .ok (.goto 129, 3) := by decide +kernel
theorem d_L_law_841 : decode b_L_law 841 = .ok (.aload_n 1, 1) := by decide +kernel
theorem d_L_law_842 : decode b_L_law 842 = .ok (.invokevirtual 116, 3) := by decide +kernel
theorem d_L_law_845 : decode b_L_law 845 = .ok (.aload_n 2, 1) := by decide +kernel
theorem d_L_law_846 : decode b_L_law 846 = .ok (.invokevirtual 119, 3) := by decide +kernel
theorem d_L_law_849 : decode b_L_law 849 = .ok (.if_icmp .eq 118, 3) := by decide +kernel
theorem d_L_law_852 : decode b_L_law 852 = .ok (.iconst 0, 1) := by decide +kernel
theorem d_L_law_853 : decode b_L_law 853 = .ok (.ireturn, 1) := by decide +kernel
theorem d_L_law_854 : decode b_L_law 854 = .ok (.aload_n 1, 1) := by decide +kernel
theorem d_L_law_855 : decode b_L_law 855 = .ok (.invokevirtual 120, 3) := by decide +kernel
theorem d_L_law_858 : decode b_L_law 858 = .ok (.aload_n 2, 1) := by decide +kernel
theorem d_L_law_859 : decode b_L_law 859 = .ok (.invokevirtual 123, 3) := by decide +kernel
theorem d_L_law_862 : decode b_L_law 862 = .ok (.if_icmp .eq 105, 3) := by decide +kernel
theorem d_L_law_865 : decode b_L_law 865 = .ok (.iconst 0, 1) := by decide +kernel
theorem d_L_law_866 : decode b_L_law 866 = .ok (.ireturn, 1) := by decide +kernel
theorem d_L_law_867 : decode b_L_law 867 = .ok (.aload_n 1, 1) := by decide +kernel
theorem d_L_law_868 : decode b_L_law 868 = .ok (.aload_n 3, 1) := by decide +kernel
theorem d_L_law_869 : decode b_L_law 869 = .ok (.invokestatic 124, 3) := by decide +kernel
theorem d_L_law_872 : decode b_L_law 872 = .ok (.istore 5, 2) := by decide +kernel
theorem d_L_law_874 : decode b_L_law 874 = .ok (.aload_n 2, 1) := by decide +kernel
theorem d_L_law_875 : decode b_L_law 875 = .ok (.invokevirtual 126, 3) := by decide +kernel
theorem d_L_law_878 : decode b_L_law 878 = .ok (.istore 6, 2) := by decide +kernel
theorem d_L_law_880 : decode b_L_law 880 = .ok (.aload_n 2, 1) := by decide +kernel
theorem d_L_law_881 : decode b_L_law 881 = .ok (.invokevirtual 73, 3) := by decide +kernel
theorem d_L_law_884 : decode b_L_law 884 = .ok (.iload 5, 2) := by decide +kernel
theorem d_L_law_886 : decode b_L_law 886 = .ok (.if_icmp .eq 5, 3) := by decide +kernel
theorem d_L_law_889 : decode b_L_law 889 = .ok (.iconst 0, 1) := by decide +kernel
theorem d_L_law_890 : decode b_L_law 890 = .ok (.ireturn, 1) := by decide +kernel
theorem d_L_law_891 : decode b_L_law 891 = .ok (.iload 5, 2) := by decide +kernel
theorem d_L_law_893 : decode b_L_law 893 = .ok (.ifCond .ne 15, 3) := by decide +kernel
theorem d_L_law_896 : decode b_L_law 896 = .ok (.aload_n 3, 1) := by decide +kernel
theorem d_L_law_897 : decode b_L_law 897 = .ok (.iconst 0, 1) := by decide +kernel
theorem d_L_law_898 : decode b_L_law 898 = .ok (.laload, 1) := by decide +kernel
theorem d_L_law_899 : decode b_L_law 899 = .ok (.iload 6, 2) := by decide +kernel
theorem d_L_law_901 : decode b_L_law 901 = .ok (.i2l, 1) := by decide +kernel
theorem d_L_law_902 : decode b_L_law 902 = .ok (.lcmp, 1) := by decide +kernel
theorem d_L_law_903 : decode b_L_law 903 = .ok (.ifCond .eq 5, 3) := by decide +kernel
theorem d_L_law_906 : decode b_L_law 906 = .ok (.iconst 0, 1) := by decide +kernel
theorem d_L_law_907 : decode b_L_law 907 = .ok (.ireturn, 1) := by decide +kernel
theorem d_L_law_908 : decode b_L_law 908 = .ok (.goto 59, 3) := by decide +kernel
theorem d_L_law_911 : decode b_L_law 911 = .ok (.aload_n 1, 1) := by decide +kernel
theorem d_L_law_912 : decode b_L_law 912 = .ok (.aload_n 0, 1) := by decide +kernel
theorem d_L_law_913 : decode b_L_law 913 = .ok (.iload 4, 2) := by decide +kernel
theorem d_L_law_915 : decode b_L_law 915 = .ok (.iconst 1, 1) := by decide +kernel
theorem d_L_law_916 : decode b_L_law 916 = .ok (.iadd, 1) := by decide +kernel
theorem d_L_law_917 : decode b_L_law 917 = .ok (.iaload, 1) := by decide +kernel
theorem d_L_law_918 : decode b_L_law 918 = .ok (.aload_n 3, 1) := by decide +kernel
theorem d_L_law_919 : decode b_L_law 919 = .ok (.invokestatic 127, 3) := by decide +kernel
theorem d_L_law_922 : decode b_L_law 922 = .ok (.istore 5, 2) := by decide +kernel
theorem d_L_law_924 : decode b_L_law 924 = .ok (.aload_n 2, 1) := by decide +kernel
theorem d_L_law_925 : decode b_L_law 925 = .ok (.aload_n 0, 1) := by decide +kernel
theorem d_L_law_926 : decode b_L_law 926 = .ok (.iload 4, 2) := by decide +kernel
theorem d_L_law_928 : decode b_L_law 928 = .ok (.iconst 1, 1) := by decide +kernel
theorem d_L_law_929 : decode b_L_law 929 = .ok (.iadd, 1) := by decide +kernel
theorem d_L_law_930 : decode b_L_law 930 = .ok (.iaload, 1) := by decide +kernel
theorem d_L_law_931 : decode b_L_law 931 = .ok (.invokevirtual 129, 3) := by decide +kernel
theorem d_L_law_934 : decode b_L_law 934 = .ok (.istore 6, 2) := by decide +kernel
theorem d_L_law_936 : decode b_L_law 936 = .ok (.aload_n 2, 1) := by decide +kernel
theorem d_L_law_937 : decode b_L_law 937 = .ok (.invokevirtual 73, 3) := by decide +kernel
theorem d_L_law_940 : decode b_L_law 940 = .ok (.iload 5, 2) := by decide +kernel
theorem d_L_law_942 : decode b_L_law 942 = .ok (.if_icmp .eq 5, 3) := by decide +kernel
theorem d_L_law_945 : decode b_L_law 945 = .ok (.iconst 0, 1) := by decide +kernel
theorem d_L_law_946 : decode b_L_law 946 = .ok (.ireturn, 1) := by decide +kernel
theorem d_L_law_947 : decode b_L_law 947 = .ok (.iload 5, 2) := by decide +kernel
theorem d_L_law_949 : decode b_L_law 949 = .ok (.ifCond .ne 15, 3) := by decide +kernel
theorem d_L_law_952 : decode b_L_law 952 = .ok (.aload_n 3, 1) := by decide +kernel
theorem d_L_law_953 : decode b_L_law 953 = .ok (.iconst 0, 1) := by decide +kernel
theorem d_L_law_954 : decode b_L_law 954 = .ok (.laload, 1) := by decide +kernel
theorem d_L_law_955 : decode b_L_law 955 = .ok (.iload 6, 2) := by decide +kernel
theorem d_L_law_957 : decode b_L_law 957 = .ok (.i2l, 1) := by decide +kernel
theorem d_L_law_958 : decode b_L_law 958 = .ok (.lcmp, 1) := by decide +kernel
theorem d_L_law_959 : decode b_L_law 959 = .ok (.ifCond .eq 5, 3) := by decide +kernel
theorem d_L_law_962 : decode b_L_law 962 = .ok (.iconst 0, 1) := by decide +kernel
theorem d_L_law_963 : decode b_L_law 963 = .ok (.ireturn, 1) := by decide +kernel
theorem d_L_law_964 : decode b_L_law 964 = .ok (.goto 3, 3) := by decide +kernel
theorem d_L_law_967 : decode b_L_law 967 = .ok (.iinc 4 5, 3) := by decide +kernel
theorem d_L_law_970 : decode b_L_law 970 = .ok (.goto (-947), 3) := by decide +kernel
theorem d_L_law_973 : decode b_L_law 973 = .ok (.iconst 1, 1) := by decide +kernel
theorem d_L_law_974 : decode b_L_law 974 = .ok (.ireturn, 1) := by decide +kernel
