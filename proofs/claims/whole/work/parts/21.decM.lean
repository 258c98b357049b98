/-! what each instruction is: BitSolverModel -/
theorem d_M_init_0 : decode b_M_init 0 = .ok (.aload_n 0, 1) := by decide +kernel
theorem d_M_init_1 : decode b_M_init 1 = .ok (.invokespecial 1, 3) := by decide +kernel
theorem d_M_init_4 : decode b_M_init 4 = .ok (.aload_n 0, 1) := by decide +kernel
theorem d_M_init_5 : decode b_M_init 5 = .ok (.bipush 6, 2) := by decide +kernel
theorem d_M_init_7 : decode b_M_init 7 = .ok (.newarray .int, 2) := by decide +kernel
theorem d_M_init_9 : decode b_M_init 9 = .ok (.putfield 7, 3) := by decide +kernel
theorem d_M_init_12 : decode b_M_init 12 = .ok (.aload_n 0, 1) := by decide +kernel
theorem d_M_init_13 : decode b_M_init 13 = .ok (.bipush 50, 2) := by decide +kernel
theorem d_M_init_15 : decode b_M_init 15 = .ok (.newarray .int, 2) := by decide +kernel
theorem d_M_init_17 : decode b_M_init 17 = .ok (.putfield 13, 3) := by decide +kernel
theorem d_M_init_20 : decode b_M_init 20 = .ok (.aload_n 0, 1) := by decide +kernel
theorem d_M_init_21 : decode b_M_init 21 = .ok (.bipush 50, 2) := by decide +kernel
theorem d_M_init_23 : decode b_M_init 23 = .ok (.newarray .int, 2) := by decide +kernel
theorem d_M_init_25 : decode b_M_init 25 = .ok (.putfield 16, 3) := by decide +kernel
theorem d_M_init_28 : decode b_M_init 28 = .ok (.aload_n 0, 1) := by decide +kernel
theorem d_M_init_29 : decode b_M_init 29 = .ok (.bipush 50, 2) := by decide +kernel
theorem d_M_init_31 : decode b_M_init 31 = .ok (.newarray .int, 2) := by decide +kernel
theorem d_M_init_33 : decode b_M_init 33 = .ok (.putfield 19, 3) := by decide +kernel
theorem d_M_init_36 : decode b_M_init 36 = .ok (.aload_n 0, 1) := by decide +kernel
theorem d_M_init_37 : decode b_M_init 37 = .ok (.bipush 50, 2) := by decide +kernel
theorem d_M_init_39 : decode b_M_init 39 = .ok (.newarray .int, 2) := by decide +kernel
theorem d_M_init_41 : decode b_M_init 41 = .ok (.putfield 22, 3) := by decide +kernel
theorem d_M_init_44 : decode b_M_init 44 = .ok (.aload_n 0, 1) := by decide +kernel
theorem d_M_init_45 : decode b_M_init 45 = .ok (.bipush 50, 2) := by decide +kernel
theorem d_M_init_47 : decode b_M_init 47 = .ok (.newarray .int, 2) := by decide +kernel
theorem d_M_init_49 : decode b_M_init 49 = .ok (.putfield 25, 3) := by decide +kernel
theorem d_M_init_52 : decode b_M_init 52 = .ok (.aload_n 0, 1) := by decide +kernel
theorem d_M_init_53 : decode b_M_init 53 = .ok (.bipush 50, 2) := by decide +kernel
theorem d_M_init_55 : decode b_M_init 55 = .ok (.newarray .int, 2) := by decide +kernel
theorem d_M_init_57 : decode b_M_init 57 = .ok (.putfield 28, 3) := by decide +kernel
theorem d_M_init_60 : decode b_M_init 60 = .ok (.aload_n 0, 1) := by decide +kernel
theorem d_M_init_61 : decode b_M_init 61 = .ok (.bipush 50, 2) := by decide +kernel
theorem d_M_init_63 : decode b_M_init 63 = .ok (.newarray .int, 2) := by decide +kernel
theorem d_M_init_65 : decode b_M_init 65 = .ok (.putfield 31, 3) := by decide +kernel
theorem d_M_init_68 : decode b_M_init 68 = .ok (.aload_n 0, 1) := by decide +kernel
theorem d_M_init_69 : decode b_M_init 69 = .ok (.bipush 50, 2) := by decide +kernel
theorem d_M_init_71 : decode b_M_init 71 = .ok (.newarray .int, 2) := by decide +kernel
theorem d_M_init_73 : decode b_M_init 73 = .ok (.putfield 34, 3) := by decide +kernel
theorem d_M_init_76 : decode b_M_init 76 = .ok (.aload_n 0, 1) := by decide +kernel
theorem d_M_init_77 : decode b_M_init 77 = .ok (.bipush 100, 2) := by decide +kernel
theorem d_M_init_79 : decode b_M_init 79 = .ok (.newarray .int, 2) := by decide +kernel
theorem d_M_init_81 : decode b_M_init 81 = .ok (.putfield 37, 3) := by decide +kernel
theorem d_M_init_84 : decode b_M_init 84 = .ok (.aload_n 0, 1) := by decide +kernel
theorem d_M_init_85 : decode b_M_init 85 = .ok (.bipush 30, 2) := by decide +kernel
theorem d_M_init_87 : decode b_M_init 87 = .ok (.newarray .int, 2) := by decide +kernel
theorem d_M_init_89 : decode b_M_init 89 = .ok (.putfield 40, 3) := by decide +kernel
theorem d_M_init_92 : decode b_M_init 92 = .ok (.aload_n 0, 1) := by decide +kernel
theorem d_M_init_93 : decode b_M_init 93 = .ok (.bipush 30, 2) := by decide +kernel
theorem d_M_init_95 : decode b_M_init 95 = .ok (.newarray .int, 2) := by decide +kernel
theorem d_M_init_97 : decode b_M_init 97 = .ok (.putfield 43, 3) := by decide +kernel
theorem d_M_init_100 : decode b_M_init 100 = .ok (.aload_n 0, 1) := by decide +kernel
theorem d_M_init_101 : decode b_M_init 101 = .ok (.bipush 8, 2) := by decide +kernel
theorem d_M_init_103 : decode b_M_init 103 = .ok (.newarray .int, 2) := by decide +kernel
theorem d_M_init_105 : decode b_M_init 105 = .ok (.putfield 46, 3) := by decide +kernel
theorem d_M_init_108 : decode b_M_init 108 = .ok (.aload_n 0, 1) := by decide +kernel
theorem d_M_init_109 : decode b_M_init 109 = .ok (.bipush 50, 2) := by decide +kernel
theorem d_M_init_111 : decode b_M_init 111 = .ok (.newarray .int, 2) := by decide +kernel
theorem d_M_init_113 : decode b_M_init 113 = .ok (.putfield 49, 3) := by decide +kernel
theorem d_M_init_116 : decode b_M_init 116 = .ok (.aload_n 0, 1) := by decide +kernel
theorem d_M_init_117 : decode b_M_init 117 = .ok (.bipush 50, 2) := by decide +kernel
theorem d_M_init_119 : decode b_M_init 119 = .ok (.newarray .boolean, 2) := by decide +kernel
theorem d_M_init_121 : decode b_M_init 121 = .ok (.putfield 52, 3) := by decide +kernel
theorem d_M_init_124 : decode b_M_init 124 = .ok (.return_, 1) := by decide +kernel
theorem d_M_thrown_0 : decode b_M_thrown 0 = .ok (.aload_n 0, 1) := by decide +kernel
theorem d_M_thrown_1 : decode b_M_thrown 1 = .ok (.getfield 56, 3) := by decide +kernel
theorem d_M_thrown_4 : decode b_M_thrown 4 = .ok (.ireturn, 1) := by decide +kernel
theorem d_M_raise_0 : decode b_M_raise 0 = .ok (.aload_n 0, 1) := by decide +kernel
theorem d_M_raise_1 : decode b_M_raise 1 = .ok (.iload_n 1, 1) := by decide +kernel
theorem d_M_raise_2 : decode b_M_raise 2 = .ok (.putfield 56, 3) := by decide +kernel
theorem d_M_raise_5 : decode b_M_raise 5 = .ok (.iconst 0, 1) := by decide +kernel
theorem d_M_raise_6 : decode b_M_raise 6 = .ok (.ireturn, 1) := by decide +kernel
theorem d_M_in_0 : decode b_M_in 0 = .ok (.iload_n 0, 1) := by decide +kernel
theorem d_M_in_1 : decode b_M_in 1 = .ok (.iload_n 1, 1) := by decide +kernel
theorem d_M_in_2 : decode b_M_in 2 = .ok (.if_icmp .lt 12, 3) := by decide +kernel
theorem d_M_in_5 : decode b_M_in 5 = .ok (.iload_n 0, 1) := by decide +kernel
theorem d_M_in_6 : decode b_M_in 6 = .ok (.iload_n 2, 1) := by decide +kernel
theorem d_M_in_7 : decode b_M_in 7 = .ok (.if_icmp .gt 7, 3) := by decide +kernel
theorem d_M_in_10 : decode b_M_in 10 = .ok (.iconst 1, 1) := by decide +kernel
theorem d_M_in_11 : decode b_M_in 11 = .ok (.goto 4, 3) := by decide +kernel
theorem d_M_in_14 : decode b_M_in 14 = .ok (.iconst 0, 1) := by decide +kernel
theorem d_M_in_15 : decode b_M_in 15 = .ok (.ireturn, 1) := by decide +kernel
theorem d_M_variable_0 : decode b_M_variable 0 = .ok (.aload_n 0, 1) := by decide +kernel
theorem d_M_variable_1 : decode b_M_variable 1 = .ok (.iconst 0, 1) := by decide +kernel
theorem d_M_variable_2 : decode b_M_variable 2 = .ok (.putfield 56, 3) := by decide +kernel
theorem d_M_variable_5 : decode b_M_variable 5 = .ok (.iload_n 1, 1) := by decide +kernel
theorem d_M_variable_6 : decode b_M_variable 6 = .ok (.iconst 1, 1) := by decide +kernel
theorem d_M_variable_7 : decode b_M_variable 7 = .ok (.iconst 4, 1) := by decide +kernel
theorem d_M_variable_8 : decode b_M_variable 8 = .ok (.invokestatic 60, 3) := by decide +kernel
theorem d_M_variable_11 : decode b_M_variable 11 = .ok (.ifCond .ne 9, 3) := by decide +kernel
theorem d_M_variable_14 : decode b_M_variable 14 = .ok (.aload_n 0, 1) := by decide +kernel
theorem d_M_variable_15 : decode b_M_variable 15 = .ok (.iconst 1, 1) := by decide +kernel
theorem d_M_variable_16 : decode b_M_variable 16 = .ok (.invokevirtual 64, 3) := by decide +kernel
theorem d_M_variable_19 : decode b_M_variable 19 = .ok (.ireturn, 1) := by decide +kernel
theorem d_M_variable_20 : decode b_M_variable 20 = .ok (.aload_n 0, 1) := by decide +kernel
theorem d_M_variable_21 : decode b_M_variable 21 = .ok (.getfield 68, 3) := by decide +kernel
theorem d_M_variable_24 : decode b_M_variable 24 = .ok (.bipush 6, 2) := by decide +kernel
theorem d_M_variable_26 : decode b_M_variable 26 = .ok (.if_icmp .eq 14, 3) := by decide +kernel
theorem d_M_variable_29 : decode b_M_variable 29 = .ok (.aload_n 0, 1) := by decide +kernel
theorem d_M_variable_30 : decode b_M_variable 30 = .ok (.getfield 71, 3) := by decide +kernel
theorem d_M_variable_33 : decode b_M_variable 33 = .ok (.iload_n 1, 1) := by decide +kernel
theorem d_M_variable_34 : decode b_M_variable 34 = .ok (.iadd, 1) := by decide +kernel
theorem d_M_variable_35 : decode b_M_variable 35 = .ok (.bipush 10, 2) := by decide +kernel
theorem d_M_variable_37 : decode b_M_variable 37 = .ok (.if_icmp .le 9, 3) := by decide +kernel
theorem d_M_variable_40 : decode b_M_variable 40 = .ok (.aload_n 0, 1) := by decide +kernel
theorem d_M_variable_41 : decode b_M_variable 41 = .ok (.iconst 2, 1) := by decide +kernel
theorem d_M_variable_42 : decode b_M_variable 42 = .ok (.invokevirtual 64, 3) := by decide +kernel
theorem d_M_variable_45 : decode b_M_variable 45 = .ok (.ireturn, 1) := by decide +kernel
theorem d_M_variable_46 : decode b_M_variable 46 = .ok (.aload_n 0, 1) := by decide +kernel
theorem d_M_variable_47 : decode b_M_variable 47 = .ok (.getfield 7, 3) := by decide +kernel
theorem d_M_variable_50 : decode b_M_variable 50 = .ok (.aload_n 0, 1) := by decide +kernel
theorem d_M_variable_51 : decode b_M_variable 51 = .ok (.getfield 68, 3) := by decide +kernel
theorem d_M_variable_54 : decode b_M_variable 54 = .ok (.iload_n 1, 1) := by decide +kernel
theorem d_M_variable_55 : decode b_M_variable 55 = .ok (.iastore, 1) := by decide +kernel
theorem d_M_variable_56 : decode b_M_variable 56 = .ok (.aload_n 0, 1) := by decide +kernel
theorem d_M_variable_57 : decode b_M_variable 57 = .ok (.dup, 1) := by decide +kernel
theorem d_M_variable_58 : decode b_M_variable 58 = .ok (.getfield 68, 3) := by decide +kernel
theorem d_M_variable_61 : decode b_M_variable 61 = .ok (.iconst 1, 1) := by decide +kernel
theorem d_M_variable_62 : decode b_M_variable 62 = .ok (.iadd, 1) := by decide +kernel
theorem d_M_variable_63 : decode b_M_variable 63 = .ok (.putfield 68, 3) := by decide +kernel
theorem d_M_variable_66 : decode b_M_variable 66 = .ok (.aload_n 0, 1) := by decide +kernel
theorem d_M_variable_67 : decode b_M_variable 67 = .ok (.dup, 1) := by decide +kernel
theorem d_M_variable_68 : decode b_M_variable 68 = .ok (.getfield 71, 3) := by decide +kernel
theorem d_M_variable_71 : decode b_M_variable 71 = .ok (.iload_n 1, 1) := by decide +kernel
theorem d_M_variable_72 : decode b_M_variable 72 = .ok (.iadd, 1) := by decide +kernel
theorem d_M_variable_73 : decode b_M_variable 73 = .ok (.putfield 71, 3) := by decide +kernel
theorem d_M_variable_76 : decode b_M_variable 76 = .ok (.aload_n 0, 1) := by decide +kernel
theorem d_M_variable_77 : decode b_M_variable 77 = .ok (.getfield 68, 3) := by decide +kernel
theorem d_M_variable_80 : decode b_M_variable 80 = .ok (.iconst 1, 1) := by decide +kernel
theorem d_M_variable_81 : decode b_M_variable 81 = .ok (.isub, 1) := by decide +kernel
theorem d_M_variable_82 : decode b_M_variable 82 = .ok (.ireturn, 1) := by decide +kernel
theorem d_M_isTerm_0 : decode b_M_isTerm 0 = .ok (.iload_n 1, 1) := by decide +kernel
theorem d_M_isTerm_1 : decode b_M_isTerm 1 = .ok (.iconst 0, 1) := by decide +kernel
theorem d_M_isTerm_2 : decode b_M_isTerm 2 = .ok (.aload_n 0, 1) := by decide +kernel
theorem d_M_isTerm_3 : decode b_M_isTerm 3 = .ok (.getfield 74, 3) := by decide +kernel
theorem d_M_isTerm_6 : decode b_M_isTerm 6 = .ok (.iconst 1, 1) := by decide +kernel
theorem d_M_isTerm_7 : decode b_M_isTerm 7 = .ok (.isub, 1) := by decide +kernel
theorem d_M_isTerm_8 : decode b_M_isTerm 8 = .ok (.invokestatic 60, 3) := by decide +kernel
theorem d_M_isTerm_11 : decode b_M_isTerm 11 = .ok (.ireturn, 1) := by decide +kernel
theorem d_M_isFormula_0 : decode b_M_isFormula 0 = .ok (.iload_n 1, 1) := by decide +kernel
theorem d_M_isFormula_1 : decode b_M_isFormula 1 = .ok (.iconst 0, 1) := by decide +kernel
theorem d_M_isFormula_2 : decode b_M_isFormula 2 = .ok (.aload_n 0, 1) := by decide +kernel
theorem d_M_isFormula_3 : decode b_M_isFormula 3 = .ok (.getfield 77, 3) := by decide +kernel
theorem d_M_isFormula_6 : decode b_M_isFormula 6 = .ok (.iconst 1, 1) := by decide +kernel
theorem d_M_isFormula_7 : decode b_M_isFormula 7 = .ok (.isub, 1) := by decide +kernel
theorem d_M_isFormula_8 : decode b_M_isFormula 8 = .ok (.invokestatic 60, 3) := by decide +kernel
theorem d_M_isFormula_11 : decode b_M_isFormula 11 = .ok (.ireturn, 1) := by decide +kernel
theorem d_M_alike_0 : decode b_M_alike 0 = .ok (.aload_n 0, 1) := by decide +kernel
theorem d_M_alike_1 : decode b_M_alike 1 = .ok (.iload_n 1, 1) := by decide +kernel
theorem d_M_alike_2 : decode b_M_alike 2 = .ok (.invokevirtual 80, 3) := by decide +kernel
theorem d_M_alike_5 : decode b_M_alike 5 = .ok (.ifCond .eq 30, 3) := by decide +kernel
theorem d_M_alike_8 : decode b_M_alike 8 = .ok (.aload_n 0, 1) := by decide +kernel
theorem d_M_alike_9 : decode b_M_alike 9 = .ok (.iload_n 2, 1) := by decide +kernel
theorem d_M_alike_10 : decode b_M_alike 10 = .ok (.invokevirtual 80, 3) := by decide +kernel
theorem d_M_alike_13 : decode b_M_alike 13 = .ok (.ifCond .eq 22, 3) := by decide +kernel
theorem d_M_alike_16 : decode b_M_alike 16 = .ok (.aload_n 0, 1) := by decide +kernel
theorem d_M_alike_17 : decode b_M_alike 17 = .ok (.getfield 25, 3) := by decide +kernel
theorem d_M_alike_20 : decode b_M_alike 20 = .ok (.iload_n 1, 1) := by decide +kernel
theorem d_M_alike_21 : decode b_M_alike 21 = .ok (.iaload, 1) := by decide +kernel
theorem d_M_alike_22 : decode b_M_alike 22 = .ok (.aload_n 0, 1) := by decide +kernel
theorem d_M_alike_23 : decode b_M_alike 23 = .ok (.getfield 25, 3) := by decide +kernel
theorem d_M_alike_26 : decode b_M_alike 26 = .ok (.iload_n 2, 1) := by decide +kernel
theorem d_M_alike_27 : decode b_M_alike 27 = .ok (.iaload, 1) := by decide +kernel
theorem d_M_alike_28 : decode b_M_alike 28 = .ok (.if_icmp .ne 7, 3) := by decide +kernel
theorem d_M_alike_31 : decode b_M_alike 31 = .ok (.iconst 1, 1) := by decide +kernel
theorem d_M_alike_32 : decode b_M_alike 32 = .ok (.goto 4, 3) := by decide +kernel
theorem d_M_alike_35 : decode b_M_alike 35 = .ok (.iconst 0, 1) := by decide +kernel
theorem d_M_alike_36 : decode b_M_alike 36 = .ok (.ireturn, 1) := by decide +kernel
theorem d_M_widthOf_0 : decode b_M_widthOf 0 = .ok (.iload_n 1, 1) := by decide +kernel
theorem d_M_widthOf_1 : decode b_M_widthOf 1 = .ok (.tableswitch 313 0 14 #[75, 101, 126, 126, 126, 126, 126, 126, 146, 165, 165, 165, 193, 222, 273], 75) := by decide +kernel
theorem d_M_widthOf_76 : decode b_M_widthOf 76 = .ok (.iload_n 3, 1) := by decide +kernel
theorem d_M_widthOf_77 : decode b_M_widthOf 77 = .ok (.iconst 1, 1) := by decide +kernel
theorem d_M_widthOf_78 : decode b_M_widthOf 78 = .ok (.iconst 4, 1) := by decide +kernel
theorem d_M_widthOf_79 : decode b_M_widthOf 79 = .ok (.invokestatic 60, 3) := by decide +kernel
theorem d_M_widthOf_82 : decode b_M_widthOf 82 = .ok (.ifCond .eq 18, 3) := by decide +kernel
theorem d_M_widthOf_85 : decode b_M_widthOf 85 = .ok (.iload_n 2, 1) := by decide +kernel
theorem d_M_widthOf_86 : decode b_M_widthOf 86 = .ok (.ifCond .lt 14, 3) := by decide +kernel
theorem d_M_widthOf_89 : decode b_M_widthOf 89 = .ok (.iload_n 2, 1) := by decide +kernel
theorem d_M_widthOf_90 : decode b_M_widthOf 90 = .ok (.iconst 1, 1) := by decide +kernel
theorem d_M_widthOf_91 : decode b_M_widthOf 91 = .ok (.iload_n 3, 1) := by decide +kernel
theorem d_M_widthOf_92 : decode b_M_widthOf 92 = .ok (.ishl, 1) := by decide +kernel
theorem d_M_widthOf_93 : decode b_M_widthOf 93 = .ok (.if_icmp .ge 7, 3) := by decide +kernel
theorem d_M_widthOf_96 : decode b_M_widthOf 96 = .ok (.iload_n 3, 1) := by decide +kernel
theorem d_M_widthOf_97 : decode b_M_widthOf 97 = .ok (.goto 4, 3) := by decide +kernel
theorem d_M_widthOf_100 : decode b_M_widthOf 100 = .ok (.iconst 0, 1) := by decide +kernel
theorem d_M_widthOf_101 : decode b_M_widthOf 101 = .ok (.ireturn, 1) := by decide +kernel
theorem d_M_widthOf_102 : decode b_M_widthOf 102 = .ok (.iload_n 2, 1) := by decide +kernel
theorem d_M_widthOf_103 : decode b_M_widthOf 103 = .ok (.iconst 0, 1) := by decide +kernel
theorem d_M_widthOf_104 : decode b_M_widthOf 104 = .ok (.aload_n 0, 1) := by decide +kernel
theorem d_M_widthOf_105 : decode b_M_widthOf 105 = .ok (.getfield 68, 3) := by decide +kernel
theorem d_M_widthOf_108 : decode b_M_widthOf 108 = .ok (.iconst 1, 1) := by decide +kernel
theorem d_M_widthOf_109 : decode b_M_widthOf 109 = .ok (.isub, 1) := by decide +kernel
theorem d_M_widthOf_110 : decode b_M_widthOf 110 = .ok (.invokestatic 60, 3) := by decide +kernel
theorem d_M_widthOf_113 : decode b_M_widthOf 113 = .ok (.ifCond .eq 12, 3) := by decide +kernel
theorem d_M_widthOf_116 : decode b_M_widthOf 116 = .ok (.aload_n 0, 1) := by decide +kernel
theorem d_M_widthOf_117 : decode b_M_widthOf 117 = .ok (.getfield 7, 3) := by decide +kernel
theorem d_M_widthOf_120 : decode b_M_widthOf 120 = .ok (.iload_n 2, 1) := by decide +kernel
theorem d_M_widthOf_121 : decode b_M_widthOf 121 = .ok (.iaload, 1) := by decide +kernel
theorem d_M_widthOf_122 : decode b_M_widthOf 122 = .ok (.goto 4, 3) := by decide +kernel
theorem d_M_widthOf_125 : decode b_M_widthOf 125 = .ok (.iconst 0, 1) := by decide +kernel
theorem d_M_widthOf_126 : decode b_M_widthOf 126 = .ok (.ireturn, 1) := by decide +kernel
theorem d_M_widthOf_127 : decode b_M_widthOf 127 = .ok (.aload_n 0, 1) := by decide +kernel
theorem d_M_widthOf_128 : decode b_M_widthOf 128 = .ok (.iload_n 2, 1) := by decide +kernel
theorem d_M_widthOf_129 : decode b_M_widthOf 129 = .ok (.iload_n 3, 1) := by decide +kernel
theorem d_M_widthOf_130 : decode b_M_widthOf 130 = .ok (.invokevirtual 84, 3) := by decide +kernel
theorem d_M_widthOf_133 : decode b_M_widthOf 133 = .ok (.ifCond .eq 12, 3) := by decide +kernel
theorem d_M_widthOf_136 : decode b_M_widthOf 136 = .ok (.aload_n 0, 1) := by decide +kernel
theorem d_M_widthOf_137 : decode b_M_widthOf 137 = .ok (.getfield 25, 3) := by decide +kernel
theorem d_M_widthOf_140 : decode b_M_widthOf 140 = .ok (.iload_n 2, 1) := by decide +kernel
theorem d_M_widthOf_141 : decode b_M_widthOf 141 = .ok (.iaload, 1) := by decide +kernel
theorem d_M_widthOf_142 : decode b_M_widthOf 142 = .ok (.goto 4, 3) := by decide +kernel
theorem d_M_widthOf_145 : decode b_M_widthOf 145 = .ok (.iconst 0, 1) := by decide +kernel
theorem d_M_widthOf_146 : decode b_M_widthOf 146 = .ok (.ireturn, 1) := by decide +kernel
theorem d_M_widthOf_147 : decode b_M_widthOf 147 = .ok (.aload_n 0, 1) := by decide +kernel
theorem d_M_widthOf_148 : decode b_M_widthOf 148 = .ok (.iload_n 2, 1) := by decide +kernel
theorem d_M_widthOf_149 : decode b_M_widthOf 149 = .ok (.invokevirtual 80, 3) := by decide +kernel
theorem d_M_widthOf_152 : decode b_M_widthOf 152 = .ok (.ifCond .eq 12, 3) := by decide +kernel
theorem d_M_widthOf_155 : decode b_M_widthOf 155 = .ok (.aload_n 0, 1) := by decide +kernel
theorem d_M_widthOf_156 : decode b_M_widthOf 156 = .ok (.getfield 25, 3) := by decide +kernel
theorem d_M_widthOf_159 : decode b_M_widthOf 159 = .ok (.iload_n 2, 1) := by decide +kernel
theorem d_M_widthOf_160 : decode b_M_widthOf 160 = .ok (.iaload, 1) := by decide +kernel
theorem d_M_widthOf_161 : decode b_M_widthOf 161 = .ok (.goto 4, 3) := by decide +kernel
theorem d_M_widthOf_164 : decode b_M_widthOf 164 = .ok (.iconst 0, 1) := by decide +kernel
theorem d_M_widthOf_165 : decode b_M_widthOf 165 = .ok (.ireturn, 1) := by decide +kernel
theorem d_M_widthOf_166 : decode b_M_widthOf 166 = .ok (.aload_n 0, 1) := by decide +kernel
theorem d_M_widthOf_167 : decode b_M_widthOf 167 = .ok (.iload_n 2, 1) := by decide +kernel
theorem d_M_widthOf_168 : decode b_M_widthOf 168 = .ok (.invokevirtual 80, 3) := by decide +kernel
theorem d_M_widthOf_171 : decode b_M_widthOf 171 = .ok (.ifCond .eq 21, 3) := by decide +kernel
theorem d_M_widthOf_174 : decode b_M_widthOf 174 = .ok (.iload_n 3, 1) := by decide +kernel
theorem d_M_widthOf_175 : decode b_M_widthOf 175 = .ok (.iconst 0, 1) := by decide +kernel
theorem d_M_widthOf_176 : decode b_M_widthOf 176 = .ok (.iconst 4, 1) := by decide +kernel
theorem d_M_widthOf_177 : decode b_M_widthOf 177 = .ok (.invokestatic 60, 3) := by decide +kernel
theorem d_M_widthOf_180 : decode b_M_widthOf 180 = .ok (.ifCond .eq 12, 3) := by decide +kernel
theorem d_M_widthOf_183 : decode b_M_widthOf 183 = .ok (.aload_n 0, 1) := by decide +kernel
theorem d_M_widthOf_184 : decode b_M_widthOf 184 = .ok (.getfield 25, 3) := by decide +kernel
theorem d_M_widthOf_187 : decode b_M_widthOf 187 = .ok (.iload_n 2, 1) := by decide +kernel
theorem d_M_widthOf_188 : decode b_M_widthOf 188 = .ok (.iaload, 1) := by decide +kernel
theorem d_M_widthOf_189 : decode b_M_widthOf 189 = .ok (.goto 4, 3) := by decide +kernel
theorem d_M_widthOf_192 : decode b_M_widthOf 192 = .ok (.iconst 0, 1) := by decide +kernel
theorem d_M_widthOf_193 : decode b_M_widthOf 193 = .ok (.ireturn, 1) := by decide +kernel
theorem d_M_widthOf_194 : decode b_M_widthOf 194 = .ok (.aload_n 0, 1) := by decide +kernel
theorem d_M_widthOf_195 : decode b_M_widthOf 195 = .ok (.iload_n 2, 1) := by decide +kernel
theorem d_M_widthOf_196 : decode b_M_widthOf 196 = .ok (.invokevirtual 88, 3) := by decide +kernel
theorem d_M_widthOf_199 : decode b_M_widthOf 199 = .ok (.ifCond .eq 22, 3) := by decide +kernel
theorem d_M_widthOf_202 : decode b_M_widthOf 202 = .ok (.aload_n 0, 1) := by decide +kernel
theorem d_M_widthOf_203 : decode b_M_widthOf 203 = .ok (.iload_n 3, 1) := by decide +kernel
theorem d_M_widthOf_204 : decode b_M_widthOf 204 = .ok (.iload 4, 2) := by decide +kernel
theorem d_M_widthOf_206 : decode b_M_widthOf 206 = .ok (.invokevirtual 84, 3) := by decide +kernel
theorem d_M_widthOf_209 : decode b_M_widthOf 209 = .ok (.ifCond .eq 12, 3) := by decide +kernel
theorem d_M_widthOf_212 : decode b_M_widthOf 212 = .ok (.aload_n 0, 1) := by decide +kernel
theorem d_M_widthOf_213 : decode b_M_widthOf 213 = .ok (.getfield 25, 3) := by decide +kernel
theorem d_M_widthOf_216 : decode b_M_widthOf 216 = .ok (.iload_n 3, 1) := by decide +kernel
theorem d_M_widthOf_217 : decode b_M_widthOf 217 = .ok (.iaload, 1) := by decide +kernel
theorem d_M_widthOf_218 : decode b_M_widthOf 218 = .ok (.goto 4, 3) := by decide +kernel
theorem d_M_widthOf_221 : decode b_M_widthOf 221 = .ok (.iconst 0, 1) := by decide +kernel
theorem d_M_widthOf_222 : decode b_M_widthOf 222 = .ok (.ireturn, 1) := by decide +kernel
theorem d_M_widthOf_223 : decode b_M_widthOf 223 = .ok (.aload_n 0, 1) := by decide +kernel
theorem d_M_widthOf_224 : decode b_M_widthOf 224 = .ok (.iload_n 2, 1) := by decide +kernel
theorem d_M_widthOf_225 : decode b_M_widthOf 225 = .ok (.invokevirtual 80, 3) := by decide +kernel
theorem d_M_widthOf_228 : decode b_M_widthOf 228 = .ok (.ifCond .eq 44, 3) := by decide +kernel
theorem d_M_widthOf_231 : decode b_M_widthOf 231 = .ok (.aload_n 0, 1) := by decide +kernel
theorem d_M_widthOf_232 : decode b_M_widthOf 232 = .ok (.iload_n 3, 1) := by decide +kernel
theorem d_M_widthOf_233 : decode b_M_widthOf 233 = .ok (.invokevirtual 80, 3) := by decide +kernel
theorem d_M_widthOf_236 : decode b_M_widthOf 236 = .ok (.ifCond .eq 36, 3) := by decide +kernel
theorem d_M_widthOf_239 : decode b_M_widthOf 239 = .ok (.aload_n 0, 1) := by decide +kernel
theorem d_M_widthOf_240 : decode b_M_widthOf 240 = .ok (.getfield 25, 3) := by decide +kernel
theorem d_M_widthOf_243 : decode b_M_widthOf 243 = .ok (.iload_n 2, 1) := by decide +kernel
theorem d_M_widthOf_244 : decode b_M_widthOf 244 = .ok (.iaload, 1) := by decide +kernel
theorem d_M_widthOf_245 : decode b_M_widthOf 245 = .ok (.aload_n 0, 1) := by decide +kernel
theorem d_M_widthOf_246 : decode b_M_widthOf 246 = .ok (.getfield 25, 3) := by decide +kernel
theorem d_M_widthOf_249 : decode b_M_widthOf 249 = .ok (.iload_n 3, 1) := by decide +kernel
theorem d_M_widthOf_250 : decode b_M_widthOf 250 = .ok (.iaload, 1) := by decide +kernel
theorem d_M_widthOf_251 : decode b_M_widthOf 251 = .ok (.iadd, 1) := by decide +kernel
theorem d_M_widthOf_252 : decode b_M_widthOf 252 = .ok (.iconst 4, 1) := by decide +kernel
theorem d_M_widthOf_253 : decode b_M_widthOf 253 = .ok (.if_icmp .gt 19, 3) := by decide +kernel
theorem d_M_widthOf_256 : decode b_M_widthOf 256 = .ok (.aload_n 0, 1) := by decide +kernel
theorem d_M_widthOf_257 : decode b_M_widthOf 257 = .ok (.getfield 25, 3) := by decide +kernel
theorem d_M_widthOf_260 : decode b_M_widthOf 260 = .ok (.iload_n 2, 1) := by decide +kernel
theorem d_M_widthOf_261 : decode b_M_widthOf 261 = .ok (.iaload, 1) := by decide +kernel
theorem d_M_widthOf_262 : decode b_M_widthOf 262 = .ok (.aload_n 0, 1) := by decide +kernel
theorem d_M_widthOf_263 : decode b_M_widthOf 263 = .ok (.getfield 25, 3) := by decide +kernel
theorem d_M_widthOf_266 : decode b_M_widthOf 266 = .ok (.iload_n 3, 1) := by decide +kernel
theorem d_M_widthOf_267 : decode b_M_widthOf 267 = .ok (.iaload, 1) := by decide +kernel
theorem d_M_widthOf_268 : decode b_M_widthOf 268 = .ok (.iadd, 1) := by decide +kernel
theorem d_M_widthOf_269 : decode b_M_widthOf 269 = .ok (.goto 4, 3) := by decide +kernel
theorem d_M_widthOf_272 : decode b_M_widthOf 272 = .ok (.iconst 0, 1) := by decide +kernel
theorem d_M_widthOf_273 : decode b_M_widthOf 273 = .ok (.ireturn, 1) := by decide +kernel
theorem d_M_widthOf_274 : decode b_M_widthOf 274 = .ok (.aload_n 0, 1) := by decide +kernel
theorem d_M_widthOf_275 : decode b_M_widthOf 275 = .ok (.iload_n 2, 1) := by decide +kernel
theorem d_M_widthOf_276 : decode b_M_widthOf 276 = .ok (.invokevirtual 80, 3) := by decide +kernel
theorem d_M_widthOf_279 : decode b_M_widthOf 279 = .ok (.ifCond .eq 33, 3) := by decide +kernel
theorem d_M_widthOf_282 : decode b_M_widthOf 282 = .ok (.iload_n 3, 1) := by decide +kernel
theorem d_M_widthOf_283 : decode b_M_widthOf 283 = .ok (.ifCond .lt 29, 3) := by decide +kernel
theorem d_M_widthOf_286 : decode b_M_widthOf 286 = .ok (.iload_n 3, 1) := by decide +kernel
theorem d_M_widthOf_287 : decode b_M_widthOf 287 = .ok (.iload 4, 2) := by decide +kernel
theorem d_M_widthOf_289 : decode b_M_widthOf 289 = .ok (.if_icmp .gt 23, 3) := by decide +kernel
theorem d_M_widthOf_292 : decode b_M_widthOf 292 = .ok (.iload 4, 2) := by decide +kernel
theorem d_M_widthOf_294 : decode b_M_widthOf 294 = .ok (.aload_n 0, 1) := by decide +kernel
theorem d_M_widthOf_295 : decode b_M_widthOf 295 = .ok (.getfield 25, 3) := by decide +kernel
theorem d_M_widthOf_298 : decode b_M_widthOf 298 = .ok (.iload_n 2, 1) := by decide +kernel
theorem d_M_widthOf_299 : decode b_M_widthOf 299 = .ok (.iaload, 1) := by decide +kernel
theorem d_M_widthOf_300 : decode b_M_widthOf 300 = .ok (.if_icmp .ge 12, 3) := by decide +kernel
theorem d_M_widthOf_303 : decode b_M_widthOf 303 = .ok (.iload 4, 2) := by decide +kernel
theorem d_M_widthOf_305 : decode b_M_widthOf 305 = .ok (.iload_n 3, 1) := by decide +kernel
theorem d_M_widthOf_306 : decode b_M_widthOf 306 = .ok (.isub, 1) := by decide +kernel
theorem d_M_widthOf_307 : decode b_M_widthOf 307 = .ok (.iconst 1, 1) := by decide +kernel
theorem d_M_widthOf_308 : decode b_M_widthOf 308 = .ok (.iadd, 1) := by decide +kernel
theorem d_M_widthOf_309 : decode b_M_widthOf 309 = .ok (.goto 4, 3) := by decide +kernel
theorem d_M_widthOf_312 : decode b_M_widthOf 312 = .ok (.iconst 0, 1) := by decide +kernel
theorem d_M_widthOf_313 : decode b_M_widthOf 313 = .ok (.ireturn, 1) := by decide +kernel
theorem d_M_widthOf_314 : decode b_M_widthOf 314 = .ok (.iconst 0, 1) := by decide +kernel
theorem d_M_widthOf_315 : decode b_M_widthOf 315 = .ok (.ireturn, 1) := by decide +kernel
theorem d_M_term_0 : decode b_M_term 0 = .ok (.aload_n 0, 1) := by decide +kernel
theorem d_M_term_1 : decode b_M_term 1 = .ok (.iconst 0, 1) := by decide +kernel
theorem d_M_term_2 : decode b_M_term 2 = .ok (.putfield 56, 3) := by decide +kernel
theorem d_M_term_5 : decode b_M_term 5 = .ok (.aload_n 0, 1) := by decide +kernel
theorem d_M_term_6 : decode b_M_term 6 = .ok (.iload_n 1, 1) := by decide +kernel
theorem d_M_term_7 : decode b_M_term 7 = .ok (.iload_n 2, 1) := by decide +kernel
theorem d_M_term_8 : decode b_M_term 8 = .ok (.iload_n 3, 1) := by decide +kernel
theorem d_M_term_9 : decode b_M_term 9 = .ok (.iload 4, 2) := by decide +kernel
theorem d_M_term_11 : decode b_M_term 11 = .ok (.invokevirtual 91, 3) := by decide +kernel
theorem d_M_term_14 : decode b_M_term 14 = .ok (.istore 5, 2) := by decide +kernel
theorem d_M_term_16 : decode b_M_term 16 = .ok (.iload 5, 2) := by decide +kernel
theorem d_M_term_18 : decode b_M_term 18 = .ok (.ifCond .ne 9, 3) := by decide +kernel
theorem d_M_term_21 : decode b_M_term 21 = .ok (.aload_n 0, 1) := by decide +kernel
theorem d_M_term_22 : decode b_M_term 22 = .ok (.iconst 1, 1) := by decide +kernel
theorem d_M_term_23 : decode b_M_term 23 = .ok (.invokevirtual 64, 3) := by decide +kernel
theorem d_M_term_26 : decode b_M_term 26 = .ok (.ireturn, 1) := by decide +kernel
theorem d_M_term_27 : decode b_M_term 27 = .ok (.aload_n 0, 1) := by decide +kernel
theorem d_M_term_28 : decode b_M_term 28 = .ok (.getfield 74, 3) := by decide +kernel
theorem d_M_term_31 : decode b_M_term 31 = .ok (.bipush 50, 2) := by decide +kernel
theorem d_M_term_33 : decode b_M_term 33 = .ok (.if_icmp .ne 9, 3) := by decide +kernel
theorem d_M_term_36 : decode b_M_term 36 = .ok (.aload_n 0, 1) := by decide +kernel
theorem d_M_term_37 : decode b_M_term 37 = .ok (.iconst 2, 1) := by decide +kernel
theorem d_M_term_38 : decode b_M_term 38 = .ok (.invokevirtual 64, 3) := by decide +kernel
theorem d_M_term_41 : decode b_M_term 41 = .ok (.ireturn, 1) := by decide +kernel
theorem d_M_term_42 : decode b_M_term 42 = .ok (.aload_n 0, 1) := by decide +kernel
theorem d_M_term_43 : decode b_M_term 43 = .ok (.getfield 13, 3) := by decide +kernel
theorem d_M_term_46 : decode b_M_term 46 = .ok (.aload_n 0, 1) := by decide +kernel
theorem d_M_term_47 : decode b_M_term 47 = .ok (.getfield 74, 3) := by decide +kernel
theorem d_M_term_50 : decode b_M_term 50 = .ok (.iload_n 1, 1) := by decide +kernel
theorem d_M_term_51 : decode b_M_term 51 = .ok (.iastore, 1) := by decide +kernel
theorem d_M_term_52 : decode b_M_term 52 = .ok (.aload_n 0, 1) := by decide +kernel
theorem d_M_term_53 : decode b_M_term 53 = .ok (.getfield 16, 3) := by decide +kernel
theorem d_M_term_56 : decode b_M_term 56 = .ok (.aload_n 0, 1) := by decide +kernel
theorem d_M_term_57 : decode b_M_term 57 = .ok (.getfield 74, 3) := by decide +kernel
theorem d_M_term_60 : decode b_M_term 60 = .ok (.iload_n 2, 1) := by decide +kernel
theorem d_M_term_61 : decode b_M_term 61 = .ok (.iastore, 1) := by decide +kernel
theorem d_M_term_62 : decode b_M_term 62 = .ok (.aload_n 0, 1) := by decide +kernel
theorem d_M_term_63 : decode b_M_term 63 = .ok (.getfield 19, 3) := by decide +kernel
theorem d_M_term_66 : decode b_M_term 66 = .ok (.aload_n 0, 1) := by decide +kernel
theorem d_M_term_67 : decode b_M_term 67 = .ok (.getfield 74, 3) := by decide +kernel
theorem d_M_term_70 : decode b_M_term 70 = .ok (.iload_n 3, 1) := by decide +kernel
theorem d_M_term_71 : decode b_M_term 71 = .ok (.iastore, 1) := by decide +kernel
theorem d_M_term_72 : decode b_M_term 72 = .ok (.aload_n 0, 1) := by decide +kernel
theorem d_M_term_73 : decode b_M_term 73 = .ok (.getfield 22, 3) := by decide +kernel
theorem d_M_term_76 : decode b_M_term 76 = .ok (.aload_n 0, 1) := by decide +kernel
theorem d_M_term_77 : decode b_M_term 77 = .ok (.getfield 74, 3) := by decide +kernel
theorem d_M_term_80 : decode b_M_term 80 = .ok (.iload 4, 2) := by decide +kernel
theorem d_M_term_82 : decode b_M_term 82 = .ok (.iastore, 1) := by decide +kernel
theorem d_M_term_83 : decode b_M_term 83 = .ok (.aload_n 0, 1) := by decide +kernel
theorem d_M_term_84 : decode b_M_term 84 = .ok (.getfield 25, 3) := by decide +kernel
theorem d_M_term_87 : decode b_M_term 87 = .ok (.aload_n 0, 1) := by decide +kernel
theorem d_M_term_88 : decode b_M_term 88 = .ok (.getfield 74, 3) := by decide +kernel
theorem d_M_term_91 : decode b_M_term 91 = .ok (.iload 5, 2) := by decide +kernel
theorem d_M_term_93 : decode b_M_term 93 = .ok (.iastore, 1) := by decide +kernel
theorem d_M_term_94 : decode b_M_term 94 = .ok (.aload_n 0, 1) := by decide +kernel
theorem d_M_term_95 : decode b_M_term 95 = .ok (.getfield 37, 3) := by decide +kernel
theorem d_M_term_98 : decode b_M_term 98 = .ok (.aload_n 0, 1) := by decide +kernel
theorem d_M_term_99 : decode b_M_term 99 = .ok (.getfield 74, 3) := by decide +kernel
theorem d_M_term_102 : decode b_M_term 102 = .ok (.aload_n 0, 1) := by decide +kernel
theorem d_M_term_103 : decode b_M_term 103 = .ok (.getfield 77, 3) := by decide +kernel
theorem d_M_term_106 : decode b_M_term 106 = .ok (.iadd, 1) := by decide +kernel
theorem d_M_term_107 : decode b_M_term 107 = .ok (.aload_n 0, 1) := by decide +kernel
theorem d_M_term_108 : decode b_M_term 108 = .ok (.getfield 74, 3) := by decide +kernel
theorem d_M_term_111 : decode b_M_term 111 = .ok (.iastore, 1) := by decide +kernel
theorem d_M_term_112 : decode b_M_term 112 = .ok (.aload_n 0, 1) := by decide +kernel
theorem d_M_term_113 : decode b_M_term 113 = .ok (.dup, 1) := by decide +kernel
theorem d_M_term_114 : decode b_M_term 114 = .ok (.getfield 74, 3) := by decide +kernel
theorem d_M_term_117 : decode b_M_term 117 = .ok (.iconst 1, 1) := by decide +kernel
theorem d_M_term_118 : decode b_M_term 118 = .ok (.iadd, 1) := by decide +kernel
theorem d_M_term_119 : decode b_M_term 119 = .ok (.putfield 74, 3) := by decide +kernel
theorem d_M_term_122 : decode b_M_term 122 = .ok (.aload_n 0, 1) := by decide +kernel
theorem d_M_term_123 : decode b_M_term 123 = .ok (.getfield 74, 3) := by decide +kernel
theorem d_M_term_126 : decode b_M_term 126 = .ok (.iconst 1, 1) := by decide +kernel
theorem d_M_term_127 : decode b_M_term 127 = .ok (.isub, 1) := by decide +kernel
theorem d_M_term_128 : decode b_M_term 128 = .ok (.ireturn, 1) := by decide +kernel
theorem d_M_can_0 : decode b_M_can 0 = .ok (.iload_n 1, 1) := by decide +kernel
theorem d_M_can_1 : decode b_M_can 1 = .ok (.iconst 0, 1) := by decide +kernel
theorem d_M_can_2 : decode b_M_can 2 = .ok (.iconst 4, 1) := by decide +kernel
theorem d_M_can_3 : decode b_M_can 3 = .ok (.invokestatic 60, 3) := by decide +kernel
theorem d_M_can_6 : decode b_M_can 6 = .ok (.ifCond .eq 10, 3) := by decide +kernel
theorem d_M_can_9 : decode b_M_can 9 = .ok (.aload_n 0, 1) := by decide +kernel
theorem d_M_can_10 : decode b_M_can 10 = .ok (.iload_n 2, 1) := by decide +kernel
theorem d_M_can_11 : decode b_M_can 11 = .ok (.iload_n 3, 1) := by decide +kernel
theorem d_M_can_12 : decode b_M_can 12 = .ok (.invokevirtual 84, 3) := by decide +kernel
theorem d_M_can_15 : decode b_M_can 15 = .ok (.ireturn, 1) := by decide +kernel
theorem d_M_can_16 : decode b_M_can 16 = .ok (.iload_n 1, 1) := by decide +kernel
theorem d_M_can_17 : decode b_M_can 17 = .ok (.iconst 5, 1) := by decide +kernel
theorem d_M_can_18 : decode b_M_can 18 = .ok (.if_icmp .ne 33, 3) := by decide +kernel
theorem d_M_can_21 : decode b_M_can 21 = .ok (.aload_n 0, 1) := by decide +kernel
theorem d_M_can_22 : decode b_M_can 22 = .ok (.iload_n 2, 1) := by decide +kernel
theorem d_M_can_23 : decode b_M_can 23 = .ok (.invokevirtual 80, 3) := by decide +kernel
theorem d_M_can_26 : decode b_M_can 26 = .ok (.ifCond .eq 23, 3) := by decide +kernel
theorem d_M_can_29 : decode b_M_can 29 = .ok (.iload_n 3, 1) := by decide +kernel
theorem d_M_can_30 : decode b_M_can 30 = .ok (.iconst 0, 1) := by decide +kernel
theorem d_M_can_31 : decode b_M_can 31 = .ok (.aload_n 0, 1) := by decide +kernel
theorem d_M_can_32 : decode b_M_can 32 = .ok (.getfield 25, 3) := by decide +kernel
theorem d_M_can_35 : decode b_M_can 35 = .ok (.iload_n 2, 1) := by decide +kernel
theorem d_M_can_36 : decode b_M_can 36 = .ok (.iaload, 1) := by decide +kernel
theorem d_M_can_37 : decode b_M_can 37 = .ok (.iconst 1, 1) := by decide +kernel
theorem d_M_can_38 : decode b_M_can 38 = .ok (.isub, 1) := by decide +kernel
theorem d_M_can_39 : decode b_M_can 39 = .ok (.invokestatic 60, 3) := by decide +kernel
theorem d_M_can_42 : decode b_M_can 42 = .ok (.ifCond .eq 7, 3) := by decide +kernel
theorem d_M_can_45 : decode b_M_can 45 = .ok (.iconst 1, 1) := by decide +kernel
theorem d_M_can_46 : decode b_M_can 46 = .ok (.goto 4, 3) := by decide +kernel
theorem d_M_can_49 : decode b_M_can 49 = .ok (.iconst 0, 1) := by decide +kernel
theorem d_M_can_50 : decode b_M_can 50 = .ok (.ireturn, 1) := by decide +kernel
theorem d_M_can_51 : decode b_M_can 51 = .ok (.iload_n 1, 1) := by decide +kernel
theorem d_M_can_52 : decode b_M_can 52 = .ok (.bipush 6, 2) := by decide +kernel
theorem d_M_can_54 : decode b_M_can 54 = .ok (.if_icmp .ne 9, 3) := by decide +kernel
theorem d_M_can_57 : decode b_M_can 57 = .ok (.aload_n 0, 1) := by decide +kernel
theorem d_M_can_58 : decode b_M_can 58 = .ok (.iload_n 2, 1) := by decide +kernel
theorem d_M_can_59 : decode b_M_can 59 = .ok (.invokevirtual 88, 3) := by decide +kernel
theorem d_M_can_62 : decode b_M_can 62 = .ok (.ireturn, 1) := by decide +kernel
theorem d_M_can_63 : decode b_M_can 63 = .ok (.iload_n 1, 1) := by decide +kernel
theorem d_M_can_64 : decode b_M_can 64 = .ok (.bipush 7, 2) := by decide +kernel
theorem d_M_can_66 : decode b_M_can 66 = .ok (.bipush 10, 2) := by decide +kernel
theorem d_M_can_68 : decode b_M_can 68 = .ok (.invokestatic 60, 3) := by decide +kernel
theorem d_M_can_71 : decode b_M_can 71 = .ok (.ifCond .eq 23, 3) := by decide +kernel
theorem d_M_can_74 : decode b_M_can 74 = .ok (.aload_n 0, 1) := by decide +kernel
theorem d_M_can_75 : decode b_M_can 75 = .ok (.iload_n 2, 1) := by decide +kernel
theorem d_M_can_76 : decode b_M_can 76 = .ok (.invokevirtual 88, 3) := by decide +kernel
theorem d_M_can_79 : decode b_M_can 79 = .ok (.ifCond .eq 15, 3) := by decide +kernel
theorem d_M_can_82 : decode b_M_can 82 = .ok (.aload_n 0, 1) := by decide +kernel
theorem d_M_can_83 : decode b_M_can 83 = .ok (.iload_n 3, 1) := by decide +kernel
theorem d_M_can_84 : decode b_M_can 84 = .ok (.invokevirtual 88, 3) := by decide +kernel
theorem d_M_can_87 : decode b_M_can 87 = .ok (.ifCond .eq 7, 3) := by decide +kernel
theorem d_M_can_90 : decode b_M_can 90 = .ok (.iconst 1, 1) := by decide +kernel
theorem d_M_can_91 : decode b_M_can 91 = .ok (.goto 4, 3) := by decide +kernel
theorem d_M_can_94 : decode b_M_can 94 = .ok (.iconst 0, 1) := by decide +kernel
theorem d_M_can_95 : decode b_M_can 95 = .ok (.ireturn, 1) := by decide +kernel
theorem d_M_formula_0 : decode b_M_formula 0 = .ok (.aload_n 0, 1) := by decide +kernel
theorem d_M_formula_1 : decode b_M_formula 1 = .ok (.iconst 0, 1) := by decide +kernel
theorem d_M_formula_2 : decode b_M_formula 2 = .ok (.putfield 56, 3) := by decide +kernel
theorem d_M_formula_5 : decode b_M_formula 5 = .ok (.aload_n 0, 1) := by decide +kernel
theorem d_M_formula_6 : decode b_M_formula 6 = .ok (.iload_n 1, 1) := by decide +kernel
theorem d_M_formula_7 : decode b_M_formula 7 = .ok (.iload_n 2, 1) := by decide +kernel
theorem d_M_formula_8 : decode b_M_formula 8 = .ok (.iload_n 3, 1) := by decide +kernel
theorem d_M_formula_9 : decode b_M_formula 9 = .ok (.invokevirtual 95, 3) := by decide +kernel
theorem d_M_formula_12 : decode b_M_formula 12 = .ok (.ifCond .ne 9, 3) := by decide +kernel
theorem d_M_formula_15 : decode b_M_formula 15 = .ok (.aload_n 0, 1) := by decide +kernel
theorem d_M_formula_16 : decode b_M_formula 16 = .ok (.iconst 1, 1) := by decide +kernel
theorem d_M_formula_17 : decode b_M_formula 17 = .ok (.invokevirtual 64, 3) := by decide +kernel
theorem d_M_formula_20 : decode b_M_formula 20 = .ok (.ireturn, 1) := by decide +kernel
theorem d_M_formula_21 : decode b_M_formula 21 = .ok (.aload_n 0, 1) := by decide +kernel
theorem d_M_formula_22 : decode b_M_formula 22 = .ok (.getfield 77, 3) := by decide +kernel
theorem d_M_formula_25 : decode b_M_formula 25 = .ok (.bipush 50, 2) := by decide +kernel
theorem d_M_formula_27 : decode b_M_formula 27 = .ok (.if_icmp .ne 9, 3) := by decide +kernel
theorem d_M_formula_30 : decode b_M_formula 30 = .ok (.aload_n 0, 1) := by decide +kernel
theorem d_M_formula_31 : decode b_M_formula 31 = .ok (.iconst 2, 1) := by decide +kernel
theorem d_M_formula_32 : decode b_M_formula 32 = .ok (.invokevirtual 64, 3) := by decide +kernel
theorem d_M_formula_35 : decode b_M_formula 35 = .ok (.ireturn, 1) := by decide +kernel
theorem d_M_formula_36 : decode b_M_formula 36 = .ok (.aload_n 0, 1) := by decide +kernel
theorem d_M_formula_37 : decode b_M_formula 37 = .ok (.getfield 28, 3) := by decide +kernel
theorem d_M_formula_40 : decode b_M_formula 40 = .ok (.aload_n 0, 1) := by decide +kernel
theorem d_M_formula_41 : decode b_M_formula 41 = .ok (.getfield 77, 3) := by decide +kernel
theorem d_M_formula_44 : decode b_M_formula 44 = .ok (.iload_n 1, 1) := by decide +kernel
theorem d_M_formula_45 : decode b_M_formula 45 = .ok (.iastore, 1) := by decide +kernel
theorem d_M_formula_46 : decode b_M_formula 46 = .ok (.aload_n 0, 1) := by decide +kernel
theorem d_M_formula_47 : decode b_M_formula 47 = .ok (.getfield 31, 3) := by decide +kernel
theorem d_M_formula_50 : decode b_M_formula 50 = .ok (.aload_n 0, 1) := by decide +kernel
theorem d_M_formula_51 : decode b_M_formula 51 = .ok (.getfield 77, 3) := by decide +kernel
theorem d_M_formula_54 : decode b_M_formula 54 = .ok (.iload_n 2, 1) := by decide +kernel
theorem d_M_formula_55 : decode b_M_formula 55 = .ok (.iastore, 1) := by decide +kernel
theorem d_M_formula_56 : decode b_M_formula 56 = .ok (.aload_n 0, 1) := by decide +kernel
theorem d_M_formula_57 : decode b_M_formula 57 = .ok (.getfield 34, 3) := by decide +kernel
theorem d_M_formula_60 : decode b_M_formula 60 = .ok (.aload_n 0, 1) := by decide +kernel
theorem d_M_formula_61 : decode b_M_formula 61 = .ok (.getfield 77, 3) := by decide +kernel
theorem d_M_formula_64 : decode b_M_formula 64 = .ok (.iload_n 3, 1) := by decide +kernel
theorem d_M_formula_65 : decode b_M_formula 65 = .ok (.iastore, 1) := by decide +kernel
theorem d_M_formula_66 : decode b_M_formula 66 = .ok (.aload_n 0, 1) := by decide +kernel
theorem d_M_formula_67 : decode b_M_formula 67 = .ok (.getfield 37, 3) := by decide +kernel
theorem d_M_formula_70 : decode b_M_formula 70 = .ok (.aload_n 0, 1) := by decide +kernel
theorem d_M_formula_71 : decode b_M_formula 71 = .ok (.getfield 74, 3) := by decide +kernel
theorem d_M_formula_74 : decode b_M_formula 74 = .ok (.aload_n 0, 1) := by decide +kernel
theorem d_M_formula_75 : decode b_M_formula 75 = .ok (.getfield 77, 3) := by decide +kernel
theorem d_M_formula_78 : decode b_M_formula 78 = .ok (.iadd, 1) := by decide +kernel
theorem d_M_formula_79 : decode b_M_formula 79 = .ok (.bipush 100, 2) := by decide +kernel
theorem d_M_formula_81 : decode b_M_formula 81 = .ok (.aload_n 0, 1) := by decide +kernel
theorem d_M_formula_82 : decode b_M_formula 82 = .ok (.getfield 77, 3) := by decide +kernel
theorem d_M_formula_85 : decode b_M_formula 85 = .ok (.iadd, 1) := by decide +kernel
theorem d_M_formula_86 : decode b_M_formula 86 = .ok (.iastore, 1) := by decide +kernel
theorem d_M_formula_87 : decode b_M_formula 87 = .ok (.aload_n 0, 1) := by decide +kernel
theorem d_M_formula_88 : decode b_M_formula 88 = .ok (.dup, 1) := by decide +kernel
theorem d_M_formula_89 : decode b_M_formula 89 = .ok (.getfield 77, 3) := by decide +kernel
theorem d_M_formula_92 : decode b_M_formula 92 = .ok (.iconst 1, 1) := by decide +kernel
theorem d_M_formula_93 : decode b_M_formula 93 = .ok (.iadd, 1) := by decide +kernel
theorem d_M_formula_94 : decode b_M_formula 94 = .ok (.putfield 77, 3) := by decide +kernel
theorem d_M_formula_97 : decode b_M_formula 97 = .ok (.aload_n 0, 1) := by decide +kernel
theorem d_M_formula_98 : decode b_M_formula 98 = .ok (.getfield 77, 3) := by decide +kernel
theorem d_M_formula_101 : decode b_M_formula 101 = .ok (.iconst 1, 1) := by decide +kernel
theorem d_M_formula_102 : decode b_M_formula 102 = .ok (.isub, 1) := by decide +kernel
theorem d_M_formula_103 : decode b_M_formula 103 = .ok (.ireturn, 1) := by decide +kernel
theorem d_M_signed_0 : decode b_M_signed 0 = .ok (.iload_n 0, 1) := by decide +kernel
theorem d_M_signed_1 : decode b_M_signed 1 = .ok (.iconst 1, 1) := by decide +kernel
theorem d_M_signed_2 : decode b_M_signed 2 = .ok (.iload_n 1, 1) := by decide +kernel
theorem d_M_signed_3 : decode b_M_signed 3 = .ok (.iconst 1, 1) := by decide +kernel
theorem d_M_signed_4 : decode b_M_signed 4 = .ok (.isub, 1) := by decide +kernel
theorem d_M_signed_5 : decode b_M_signed 5 = .ok (.ishl, 1) := by decide +kernel
theorem d_M_signed_6 : decode b_M_signed 6 = .ok (.if_icmp .lt 11, 3) := by decide +kernel
theorem d_M_signed_9 : decode b_M_signed 9 = .ok (.iload_n 0, 1) := by decide +kernel
theorem d_M_signed_10 : decode b_M_signed 10 = .ok (.iconst 1, 1) := by decide +kernel
theorem d_M_signed_11 : decode b_M_signed 11 = .ok (.iload_n 1, 1) := by decide +kernel
theorem d_M_signed_12 : decode b_M_signed 12 = .ok (.ishl, 1) := by decide +kernel
theorem d_M_signed_13 : decode b_M_signed 13 = .ok (.isub, 1) := by decide +kernel
theorem d_M_signed_14 : decode b_M_signed 14 = .ok (.goto 4, 3) := by decide +kernel
theorem d_M_signed_17 : decode b_M_signed 17 = .ok (.iload_n 0, 1) := by decide +kernel
theorem d_M_signed_18 : decode b_M_signed 18 = .ok (.ireturn, 1) := by decide +kernel
theorem d_M_given_0 : decode b_M_given 0 = .ok (.iconst 0, 1) := by decide +kernel
theorem d_M_given_1 : decode b_M_given 1 = .ok (.istore_n 3, 1) := by decide +kernel
theorem d_M_given_2 : decode b_M_given 2 = .ok (.iload_n 2, 1) := by decide +kernel
theorem d_M_given_3 : decode b_M_given 3 = .ok (.iconst 1, 1) := by decide +kernel
theorem d_M_given_4 : decode b_M_given 4 = .ok (.iadd, 1) := by decide +kernel
theorem d_M_given_5 : decode b_M_given 5 = .ok (.istore 4, 2) := by decide +kernel
theorem d_M_given_7 : decode b_M_given 7 = .ok (.iload 4, 2) := by decide +kernel
theorem d_M_given_9 : decode b_M_given 9 = .ok (.aload_n 0, 1) := by decide +kernel
theorem d_M_given_10 : decode b_M_given 10 = .ok (.getfield 68, 3) := by decide +kernel
theorem d_M_given_13 : decode b_M_given 13 = .ok (.if_icmp .ge 19, 3) := by decide +kernel
theorem d_M_given_16 : decode b_M_given 16 = .ok (.iload_n 3, 1) := by decide +kernel
theorem d_M_given_17 : decode b_M_given 17 = .ok (.aload_n 0, 1) := by decide +kernel
theorem d_M_given_18 : decode b_M_given 18 = .ok (.getfield 7, 3) := by decide +kernel
theorem d_M_given_21 : decode b_M_given 21 = .ok (.iload 4, 2) := by decide +kernel
theorem d_M_given_23 : decode b_M_given 23 = .ok (.iaload, 1) := by decide +kernel
theorem d_M_given_24 : decode b_M_given 24 = .ok (.iadd, 1) := by decide +kernel
theorem d_M_given_25 : decode b_M_given 25 = .ok (.istore_n 3, 1) := by decide +kernel
theorem d_M_given_26 : decode b_M_given 26 = .ok (.iinc 4 1, 3) := by decide +kernel
theorem d_M_given_29 : decode b_M_given 29 = .ok (.goto (-22), 3) := by decide +kernel
theorem d_M_given_32 : decode b_M_given 32 = .ok (.iload_n 1, 1) := by decide +kernel
theorem d_M_given_33 : decode b_M_given 33 = .ok (.iload_n 3, 1) := by decide +kernel
theorem d_M_given_34 : decode b_M_given 34 = .ok (.ishr, 1) := by decide +kernel
theorem d_M_given_35 : decode b_M_given 35 = .ok (.iconst 1, 1) := by decide +kernel
theorem d_M_given_36 : decode b_M_given 36 = .ok (.aload_n 0, 1) := by decide +kernel
theorem d_M_given_37 : decode b_M_given 37 = .ok (.getfield 7, 3) := by decide +kernel
theorem d_M_given_40 : decode b_M_given 40 = .ok (.iload_n 2, 1) := by decide +kernel
theorem d_M_given_41 : decode b_M_given 41 = .ok (.iaload, 1) := by decide +kernel
theorem d_M_given_42 : decode b_M_given 42 = .ok (.ishl, 1) := by decide +kernel
theorem d_M_given_43 : decode b_M_given 43 = .ok (.iconst 1, 1) := by decide +kernel
theorem d_M_given_44 : decode b_M_given 44 = .ok (.isub, 1) := by decide +kernel
theorem d_M_given_45 : decode b_M_given 45 = .ok (.iand, 1) := by decide +kernel
theorem d_M_given_46 : decode b_M_given 46 = .ok (.ireturn, 1) := by decide +kernel
theorem d_M_raw_0 : decode b_M_raw 0 = .ok (.aload_n 0, 1) := by decide +kernel
theorem d_M_raw_1 : decode b_M_raw 1 = .ok (.getfield 16, 3) := by decide +kernel
theorem d_M_raw_4 : decode b_M_raw 4 = .ok (.iload_n 1, 1) := by decide +kernel
theorem d_M_raw_5 : decode b_M_raw 5 = .ok (.iaload, 1) := by decide +kernel
theorem d_M_raw_6 : decode b_M_raw 6 = .ok (.istore_n 3, 1) := by decide +kernel
theorem d_M_raw_7 : decode b_M_raw 7 = .ok (.aload_n 0, 1) := by decide +kernel
theorem d_M_raw_8 : decode b_M_raw 8 = .ok (.getfield 19, 3) := by decide +kernel
theorem d_M_raw_11 : decode b_M_raw 11 = .ok (.iload_n 1, 1) := by decide +kernel
theorem d_M_raw_12 : decode b_M_raw 12 = .ok (.iaload, 1) := by decide +kernel
theorem d_M_raw_13 : decode b_M_raw 13 = .ok (.istore 4, 2) := by decide +kernel
theorem d_M_raw_15 : decode b_M_raw 15 = .ok (.aload_n 0, 1) := by decide +kernel
theorem d_M_raw_16 : decode b_M_raw 16 = .ok (.getfield 13, 3) := by decide +kernel
theorem d_M_raw_19 : decode b_M_raw 19 = .ok (.iload_n 1, 1) := by decide +kernel
theorem d_M_raw_20 : decode b_M_raw 20 = .ok (.iaload, 1) := by decide +kernel
theorem d_M_raw_21 : decode b_M_raw 21 = .ok (.tableswitch 271 0 13 #[71, 73, 80, 95, 110, 125, 140, 155, 170, 179, 189, 199, 218, 249], 71) := by decide +kernel
theorem d_M_raw_92 : decode b_M_raw 92 = .ok (.iload_n 3, 1) := by decide +kernel
theorem d_M_raw_93 : decode b_M_raw 93 = .ok (.ireturn, 1) := by decide +kernel
theorem d_M_raw_94 : decode b_M_raw 94 = .ok (.aload_n 0, 1) := by decide +kernel
theorem d_M_raw_95 : decode b_M_raw 95 = .ok (.iload_n 2, 1) := by decide +kernel
theorem d_M_raw_96 : decode b_M_raw 96 = .ok (.iload_n 3, 1) := by decide +kernel
theorem d_M_raw_97 : decode b_M_raw 97 = .ok (.invokevirtual 98, 3) := by decide +kernel
theorem d_M_raw_100 : decode b_M_raw 100 = .ok (.ireturn, 1) := by decide +kernel
theorem d_M_raw_101 : decode b_M_raw 101 = .ok (.aload_n 0, 1) := by decide +kernel
theorem d_M_raw_102 : decode b_M_raw 102 = .ok (.getfield 49, 3) := by decide +kernel
theorem d_M_raw_105 : decode b_M_raw 105 = .ok (.iload_n 3, 1) := by decide +kernel
theorem d_M_raw_106 : decode b_M_raw 106 = .ok (.iaload, 1) := by decide +kernel
theorem d_M_raw_107 : decode b_M_raw 107 = .ok (.aload_n 0, 1) := by decide +kernel
theorem d_M_raw_108 : decode b_M_raw 108 = .ok (.getfield 49, 3) := by decide +kernel
theorem d_M_raw_111 : decode b_M_raw 111 = .ok (.iload 4, 2) := by decide +kernel
theorem d_M_raw_113 : decode b_M_raw 113 = .ok (.iaload, 1) := by decide +kernel
theorem d_M_raw_114 : decode b_M_raw 114 = .ok (.iadd, 1) := by decide +kernel
theorem d_M_raw_115 : decode b_M_raw 115 = .ok (.ireturn, 1) := by decide +kernel
theorem d_M_raw_116 : decode b_M_raw 116 = .ok (.aload_n 0, 1) := by decide +kernel
theorem d_M_raw_117 : decode b_M_raw 117 = .ok (.getfield 49, 3) := by decide +kernel
theorem d_M_raw_120 : decode b_M_raw 120 = .ok (.iload_n 3, 1) := by decide +kernel
theorem d_M_raw_121 : decode b_M_raw 121 = .ok (.iaload, 1) := by decide +kernel
theorem d_M_raw_122 : decode b_M_raw 122 = .ok (.aload_n 0, 1) := by decide +kernel
theorem d_M_raw_123 : decode b_M_raw 123 = .ok (.getfield 49, 3) := by decide +kernel
theorem d_M_raw_126 : decode b_M_raw 126 = .ok (.iload 4, 2) := by decide +kernel
theorem d_M_raw_128 : decode b_M_raw 128 = .ok (.iaload, 1) := by decide +kernel
theorem d_M_raw_129 : decode b_M_raw 129 = .ok (.isub, 1) := by decide +kernel
theorem d_M_raw_130 : decode b_M_raw 130 = .ok (.ireturn, 1) := by decide +kernel
theorem d_M_raw_131 : decode b_M_raw 131 = .ok (.aload_n 0, 1) := by decide +kernel
theorem d_M_raw_132 : decode b_M_raw 132 = .ok (.getfield 49, 3) := by decide +kernel
theorem d_M_raw_135 : decode b_M_raw 135 = .ok (.iload_n 3, 1) := by decide +kernel
theorem d_M_raw_136 : decode b_M_raw 136 = .ok (.iaload, 1) := by decide +kernel
theorem d_M_raw_137 : decode b_M_raw 137 = .ok (.aload_n 0, 1) := by decide +kernel
theorem d_M_raw_138 : decode b_M_raw 138 = .ok (.getfield 49, 3) := by decide +kernel
theorem d_M_raw_141 : decode b_M_raw 141 = .ok (.iload 4, 2) := by decide +kernel
theorem d_M_raw_143 : decode b_M_raw 143 = .ok (.iaload, 1) := by decide +kernel
theorem d_M_raw_144 : decode b_M_raw 144 = .ok (.imul, 1) := by decide +kernel
theorem d_M_raw_145 : decode b_M_raw 145 = .ok (.ireturn, 1) := by decide +kernel
theorem d_M_raw_146 : decode b_M_raw 146 = .ok (.aload_n 0, 1) := by decide +kernel
theorem d_M_raw_147 : decode b_M_raw 147 = .ok (.getfield 49, 3) := by decide +kernel
theorem d_M_raw_150 : decode b_M_raw 150 = .ok (.iload_n 3, 1) := by decide +kernel
theorem d_M_raw_151 : decode b_M_raw 151 = .ok (.iaload, 1) := by decide +kernel
theorem d_M_raw_152 : decode b_M_raw 152 = .ok (.aload_n 0, 1) := by decide +kernel
theorem d_M_raw_153 : decode b_M_raw 153 = .ok (.getfield 49, 3) := by decide +kernel
theorem d_M_raw_156 : decode b_M_raw 156 = .ok (.iload 4, 2) := by decide +kernel
theorem d_M_raw_158 : decode b_M_raw 158 = .ok (.iaload, 1) := by decide +kernel
theorem d_M_raw_159 : decode b_M_raw 159 = .ok (.iand, 1) := by decide +kernel
theorem d_M_raw_160 : decode b_M_raw 160 = .ok (.ireturn, 1) := by decide +kernel
theorem d_M_raw_161 : decode b_M_raw 161 = .ok (.aload_n 0, 1) := by decide +kernel
theorem d_M_raw_162 : decode b_M_raw 162 = .ok (.getfield 49, 3) := by decide +kernel
theorem d_M_raw_165 : decode b_M_raw 165 = .ok (.iload_n 3, 1) := by decide +kernel
theorem d_M_raw_166 : decode b_M_raw 166 = .ok (.iaload, 1) := by decide +kernel
theorem d_M_raw_167 : decode b_M_raw 167 = .ok (.aload_n 0, 1) := by decide +kernel
theorem d_M_raw_168 : decode b_M_raw 168 = .ok (.getfield 49, 3) := by decide +kernel
theorem d_M_raw_171 : decode b_M_raw 171 = .ok (.iload 4, 2) := by decide +kernel
theorem d_M_raw_173 : decode b_M_raw 173 = .ok (.iaload, 1) := by decide +kernel
theorem d_M_raw_174 : decode b_M_raw 174 = .ok (.ior, 1) := by decide +kernel
theorem d_M_raw_175 : decode b_M_raw 175 = .ok (.ireturn, 1) := by decide +kernel
theorem d_M_raw_176 : decode b_M_raw 176 = .ok (.aload_n 0, 1) := by decide +kernel
theorem d_M_raw_177 : decode b_M_raw 177 = .ok (.getfield 49, 3) := by decide +kernel
theorem d_M_raw_180 : decode b_M_raw 180 = .ok (.iload_n 3, 1) := by decide +kernel
theorem d_M_raw_181 : decode b_M_raw 181 = .ok (.iaload, 1) := by decide +kernel
theorem d_M_raw_182 : decode b_M_raw 182 = .ok (.aload_n 0, 1) := by decide +kernel
theorem d_M_raw_183 : decode b_M_raw 183 = .ok (.getfield 49, 3) := by decide +kernel
theorem d_M_raw_186 : decode b_M_raw 186 = .ok (.iload 4, 2) := by decide +kernel
theorem d_M_raw_188 : decode b_M_raw 188 = .ok (.iaload, 1) := by decide +kernel
theorem d_M_raw_189 : decode b_M_raw 189 = .ok (.ixor, 1) := by decide +kernel
theorem d_M_raw_190 : decode b_M_raw 190 = .ok (.ireturn, 1) := by decide +kernel
theorem d_M_raw_191 : decode b_M_raw 191 = .ok (.iconst (-1), 1) := by decide +kernel
theorem d_M_raw_192 : decode b_M_raw 192 = .ok (.aload_n 0, 1) := by decide +kernel
theorem d_M_raw_193 : decode b_M_raw 193 = .ok (.getfield 49, 3) := by decide +kernel
theorem d_M_raw_196 : decode b_M_raw 196 = .ok (.iload_n 3, 1) := by decide +kernel
theorem d_M_raw_197 : decode b_M_raw 197 = .ok (.iaload, 1) := by decide +kernel
theorem d_M_raw_198 : decode b_M_raw 198 = .ok (.isub, 1) := by decide +kernel
theorem d_M_raw_199 : decode b_M_raw 199 = .ok (.ireturn, 1) := by decide +kernel
theorem d_M_raw_200 : decode b_M_raw 200 = .ok (.aload_n 0, 1) := by decide +kernel
theorem d_M_raw_201 : decode b_M_raw 201 = .ok (.getfield 49, 3) := by decide +kernel
theorem d_M_raw_204 : decode b_M_raw 204 = .ok (.iload_n 3, 1) := by decide +kernel
theorem d_M_raw_205 : decode b_M_raw 205 = .ok (.iaload, 1) := by decide +kernel
theorem d_M_raw_206 : decode b_M_raw 206 = .ok (.iload 4, 2) := by decide +kernel
theorem d_M_raw_208 : decode b_M_raw 208 = .ok (.ishl, 1) := by decide +kernel
theorem d_M_raw_209 : decode b_M_raw 209 = .ok (.ireturn, 1) := by decide +kernel
theorem d_M_raw_210 : decode b_M_raw 210 = .ok (.aload_n 0, 1) := by decide +kernel
theorem d_M_raw_211 : decode b_M_raw 211 = .ok (.getfield 49, 3) := by decide +kernel
theorem d_M_raw_214 : decode b_M_raw 214 = .ok (.iload_n 3, 1) := by decide +kernel
theorem d_M_raw_215 : decode b_M_raw 215 = .ok (.iaload, 1) := by decide +kernel
theorem d_M_raw_216 : decode b_M_raw 216 = .ok (.iload 4, 2) := by decide +kernel
theorem d_M_raw_218 : decode b_M_raw 218 = .ok (.ishr, 1) := by decide +kernel
theorem d_M_raw_219 : decode b_M_raw 219 = .ok (.ireturn, 1) := by decide +kernel
theorem d_M_raw_220 : decode b_M_raw 220 = .ok (.aload_n 0, 1) := by decide +kernel
theorem d_M_raw_221 : decode b_M_raw 221 = .ok (.getfield 49, 3) := by decide +kernel
theorem d_M_raw_224 : decode b_M_raw 224 = .ok (.iload_n 3, 1) := by decide +kernel
theorem d_M_raw_225 : decode b_M_raw 225 = .ok (.iaload, 1) := by decide +kernel
theorem d_M_raw_226 : decode b_M_raw 226 = .ok (.aload_n 0, 1) := by decide +kernel
theorem d_M_raw_227 : decode b_M_raw 227 = .ok (.getfield 25, 3) := by decide +kernel
theorem d_M_raw_230 : decode b_M_raw 230 = .ok (.iload_n 3, 1) := by decide +kernel
theorem d_M_raw_231 : decode b_M_raw 231 = .ok (.iaload, 1) := by decide +kernel
theorem d_M_raw_232 : decode b_M_raw 232 = .ok (.invokestatic 102, 3) := by decide +kernel
theorem d_M_raw_235 : decode b_M_raw 235 = .ok (.iload 4, 2) := by decide +kernel
theorem d_M_raw_237 : decode b_M_raw 237 = .ok (.ishr, 1) := by decide +kernel
theorem d_M_raw_238 : decode b_M_raw 238 = .ok (.ireturn, 1) := by decide +kernel
theorem d_M_raw_239 : decode b_M_raw 239 = .ok (.aload_n 0, 1) := by decide +kernel
theorem d_M_raw_240 : decode b_M_raw 240 = .ok (.getfield 52, 3) := by decide +kernel
theorem d_M_raw_243 : decode b_M_raw 243 = .ok (.iload_n 3, 1) := by decide +kernel
theorem d_M_raw_244 : decode b_M_raw 244 = .ok (.baload, 1) := by decide +kernel
theorem d_M_raw_245 : decode b_M_raw 245 = .ok (.ifCond .eq 13, 3) := by decide +kernel
theorem d_M_raw_248 : decode b_M_raw 248 = .ok (.aload_n 0, 1) := by decide +kernel
theorem d_M_raw_249 : decode b_M_raw 249 = .ok (.getfield 49, 3) := by decide +kernel
theorem d_M_raw_252 : decode b_M_raw 252 = .ok (.iload 4, 2) := by decide +kernel
theorem d_M_raw_254 : decode b_M_raw 254 = .ok (.iaload, 1) := by decide +kernel
theorem d_M_raw_255 : decode b_M_raw 255 = .ok (.goto 14, 3) := by decide +kernel
theorem d_M_raw_258 : decode b_M_raw 258 = .ok (.aload_n 0, 1) := by decide +kernel
theorem d_M_raw_259 : decode b_M_raw 259 = .ok (.getfield 49, 3) := by decide +kernel
theorem d_M_raw_262 : decode b_M_raw 262 = .ok (.aload_n 0, 1) := by decide +kernel
theorem d_M_raw_263 : decode b_M_raw 263 = .ok (.getfield 22, 3) := by decide +kernel
theorem d_M_raw_266 : decode b_M_raw 266 = .ok (.iload_n 1, 1) := by decide +kernel
theorem d_M_raw_267 : decode b_M_raw 267 = .ok (.iaload, 1) := by decide +kernel
theorem d_M_raw_268 : decode b_M_raw 268 = .ok (.iaload, 1) := by decide +kernel
theorem d_M_raw_269 : decode b_M_raw 269 = .ok (.ireturn, 1) := by decide +kernel
theorem d_M_raw_270 : decode b_M_raw 270 = .ok (.aload_n 0, 1) := by decide +kernel
theorem d_M_raw_271 : decode b_M_raw 271 = .ok (.getfield 49, 3) := by decide +kernel
theorem d_M_raw_274 : decode b_M_raw 274 = .ok (.iload_n 3, 1) := by decide +kernel
theorem d_M_raw_275 : decode b_M_raw 275 = .ok (.iaload, 1) := by decide +kernel
theorem d_M_raw_276 : decode b_M_raw 276 = .ok (.aload_n 0, 1) := by decide +kernel
theorem d_M_raw_277 : decode b_M_raw 277 = .ok (.getfield 49, 3) := by decide +kernel
theorem d_M_raw_280 : decode b_M_raw 280 = .ok (.iload 4, 2) := by decide +kernel
theorem d_M_raw_282 : decode b_M_raw 282 = .ok (.iaload, 1) := by decide +kernel
theorem d_M_raw_283 : decode b_M_raw 283 = .ok (.aload_n 0, 1) := by decide +kernel
theorem d_M_raw_284 : decode b_M_raw 284 = .ok (.getfield 25, 3) := by decide +kernel
theorem d_M_raw_287 : decode b_M_raw 287 = .ok (.iload_n 3, 1) := by decide +kernel
theorem d_M_raw_288 : decode b_M_raw 288 = .ok (.iaload, 1) := by decide +kernel
theorem d_M_raw_289 : decode b_M_raw 289 = .ok (.ishl, 1) := by decide +kernel
theorem d_M_raw_290 : decode b_M_raw 290 = .ok (.iadd, 1) := by decide +kernel
theorem d_M_raw_291 : decode b_M_raw 291 = .ok (.ireturn, 1) := by decide +kernel
theorem d_M_raw_292 : decode b_M_raw 292 = .ok (.aload_n 0, 1) := by decide +kernel
theorem d_M_raw_293 : decode b_M_raw 293 = .ok (.getfield 49, 3) := by decide +kernel
theorem d_M_raw_296 : decode b_M_raw 296 = .ok (.iload_n 3, 1) := by decide +kernel
theorem d_M_raw_297 : decode b_M_raw 297 = .ok (.iaload, 1) := by decide +kernel
theorem d_M_raw_298 : decode b_M_raw 298 = .ok (.iload 4, 2) := by decide +kernel
theorem d_M_raw_300 : decode b_M_raw 300 = .ok (.ishr, 1) := by decide +kernel
theorem d_M_raw_301 : decode b_M_raw 301 = .ok (.ireturn, 1) := by decide +kernel
theorem d_M_truth_0 : decode b_M_truth 0 = .ok (.aload_n 0, 1) := by decide +kernel
theorem d_M_truth_1 : decode b_M_truth 1 = .ok (.getfield 31, 3) := by decide +kernel
theorem d_M_truth_4 : decode b_M_truth 4 = .ok (.iload_n 1, 1) := by decide +kernel
theorem d_M_truth_5 : decode b_M_truth 5 = .ok (.iaload, 1) := by decide +kernel
theorem d_M_truth_6 : decode b_M_truth 6 = .ok (.istore_n 2, 1) := by decide +kernel
theorem d_M_truth_7 : decode b_M_truth 7 = .ok (.aload_n 0, 1) := by decide +kernel
theorem d_M_truth_8 : decode b_M_truth 8 = .ok (.getfield 34, 3) := by decide +kernel
theorem d_M_truth_11 : decode b_M_truth 11 = .ok (.iload_n 1, 1) := by decide +kernel
theorem d_M_truth_12 : decode b_M_truth 12 = .ok (.iaload, 1) := by decide +kernel
theorem d_M_truth_13 : decode b_M_truth 13 = .ok (.istore_n 3, 1) := by decide +kernel
theorem d_M_truth_14 : decode b_M_truth 14 = .ok (.aload_n 0, 1) := by decide +kernel
theorem d_M_truth_15 : decode b_M_truth 15 = .ok (.getfield 28, 3) := by decide +kernel
theorem d_M_truth_18 : decode b_M_truth 18 = .ok (.iload_n 1, 1) := by decide +kernel
theorem d_M_truth_19 : decode b_M_truth 19 = .ok (.iaload, 1) := by decide +kernel
theorem d_M_truth_20 : decode b_M_truth 20 = .ok (.tableswitch 301 0 9 #[56, 77, 98, 119, 158, 197, 217, 232, 256, 280], 56) := by decide +kernel
theorem d_M_truth_76 : decode b_M_truth 76 = .ok (.aload_n 0, 1) := by decide +kernel
theorem d_M_truth_77 : decode b_M_truth 77 = .ok (.getfield 49, 3) := by decide +kernel
theorem d_M_truth_80 : decode b_M_truth 80 = .ok (.iload_n 2, 1) := by decide +kernel
theorem d_M_truth_81 : decode b_M_truth 81 = .ok (.iaload, 1) := by decide +kernel
theorem d_M_truth_82 : decode b_M_truth 82 = .ok (.aload_n 0, 1) := by decide +kernel
theorem d_M_truth_83 : decode b_M_truth 83 = .ok (.getfield 49, 3) := by decide +kernel
theorem d_M_truth_86 : decode b_M_truth 86 = .ok (.iload_n 3, 1) := by decide +kernel
theorem d_M_truth_87 : decode b_M_truth 87 = .ok (.iaload, 1) := by decide +kernel
theorem d_M_truth_88 : decode b_M_truth 88 = .ok (.if_icmp .ne 7, 3) := by decide +kernel
theorem d_M_truth_91 : decode b_M_truth 91 = .ok (.iconst 1, 1) := by decide +kernel
theorem d_M_truth_92 : decode b_M_truth 92 = .ok (.goto 4, 3) := by decide +kernel
theorem d_M_truth_95 : decode b_M_truth 95 = .ok (.iconst 0, 1) := by decide +kernel
theorem d_M_truth_96 : decode b_M_truth 96 = .ok (.ireturn, 1) := by decide +kernel
theorem d_M_truth_97 : decode b_M_truth 97 = .ok (.aload_n 0, 1) := by decide +kernel
theorem d_M_truth_98 : decode b_M_truth 98 = .ok (.getfield 49, 3) := by decide +kernel
theorem d_M_truth_101 : decode b_M_truth 101 = .ok (.iload_n 2, 1) := by decide +kernel
theorem d_M_truth_102 : decode b_M_truth 102 = .ok (.iaload, 1) := by decide +kernel
theorem d_M_truth_103 : decode b_M_truth 103 = .ok (.aload_n 0, 1) := by decide +kernel
theorem d_M_truth_104 : decode b_M_truth 104 = .ok (.getfield 49, 3) := by decide +kernel
theorem d_M_truth_107 : decode b_M_truth 107 = .ok (.iload_n 3, 1) := by decide +kernel
theorem d_M_truth_108 : decode b_M_truth 108 = .ok (.iaload, 1) := by decide +kernel
theorem d_M_truth_109 : decode b_M_truth 109 = .ok (.if_icmp .ge 7, 3) := by decide +kernel
theorem d_M_truth_112 : decode b_M_truth 112 = .ok (.iconst 1, 1) := by decide +kernel
theorem d_M_truth_113 : decode b_M_truth 113 = .ok (.goto 4, 3) := by decide +kernel
theorem d_M_truth_116 : decode b_M_truth 116 = .ok (.iconst 0, 1) := by decide +kernel
theorem d_M_truth_117 : decode b_M_truth 117 = .ok (.ireturn, 1) := by decide +kernel
theorem d_M_truth_118 : decode b_M_truth 118 = .ok (.aload_n 0, 1) := by decide +kernel
theorem d_M_truth_119 : decode b_M_truth 119 = .ok (.getfield 49, 3) := by decide +kernel
theorem d_M_truth_122 : decode b_M_truth 122 = .ok (.iload_n 2, 1) := by decide +kernel
theorem d_M_truth_123 : decode b_M_truth 123 = .ok (.iaload, 1) := by decide +kernel
theorem d_M_truth_124 : decode b_M_truth 124 = .ok (.aload_n 0, 1) := by decide +kernel
theorem d_M_truth_125 : decode b_M_truth 125 = .ok (.getfield 49, 3) := by decide +kernel
theorem d_M_truth_128 : decode b_M_truth 128 = .ok (.iload_n 3, 1) := by decide +kernel
theorem d_M_truth_129 : decode b_M_truth 129 = .ok (.iaload, 1) := by decide +kernel
theorem d_M_truth_130 : decode b_M_truth 130 = .ok (.if_icmp .gt 7, 3) := by decide +kernel
theorem d_M_truth_133 : decode b_M_truth 133 = .ok (.iconst 1, 1) := by decide +kernel
theorem d_M_truth_134 : decode b_M_truth 134 = .ok (.goto 4, 3) := by decide +kernel
theorem d_M_truth_137 : decode b_M_truth 137 = .ok (.iconst 0, 1) := by decide +kernel
theorem d_M_truth_138 : decode b_M_truth 138 = .ok (.ireturn, 1) := by decide +kernel
theorem d_M_truth_139 : decode b_M_truth 139 = .ok (.aload_n 0, 1) := by decide +kernel
theorem d_M_truth_140 : decode b_M_truth 140 = .ok (.getfield 49, 3) := by decide +kernel
theorem d_M_truth_143 : decode b_M_truth 143 = .ok (.iload_n 2, 1) := by decide +kernel
theorem d_M_truth_144 : decode b_M_truth 144 = .ok (.iaload, 1) := by decide +kernel
theorem d_M_truth_145 : decode b_M_truth 145 = .ok (.aload_n 0, 1) := by decide +kernel
theorem d_M_truth_146 : decode b_M_truth 146 = .ok (.getfield 25, 3) := by decide +kernel
theorem d_M_truth_149 : decode b_M_truth 149 = .ok (.iload_n 2, 1) := by decide +kernel
theorem d_M_truth_150 : decode b_M_truth 150 = .ok (.iaload, 1) := by decide +kernel
theorem d_M_truth_151 : decode b_M_truth 151 = .ok (.invokestatic 102, 3) := by decide +kernel
theorem d_M_truth_154 : decode b_M_truth 154 = .ok (.aload_n 0, 1) := by decide +kernel
theorem d_M_truth_155 : decode b_M_truth 155 = .ok (.getfield 49, 3) := by decide +kernel
theorem d_M_truth_158 : decode b_M_truth 158 = .ok (.iload_n 3, 1) := by decide +kernel
theorem d_M_truth_159 : decode b_M_truth 159 = .ok (.iaload, 1) := by decide +kernel
theorem d_M_truth_160 : decode b_M_truth 160 = .ok (.aload_n 0, 1) := by decide +kernel
theorem d_M_truth_161 : decode b_M_truth 161 = .ok (.getfield 25, 3) := by decide +kernel
theorem d_M_truth_164 : decode b_M_truth 164 = .ok (.iload_n 3, 1) := by decide +kernel
theorem d_M_truth_165 : decode b_M_truth 165 = .ok (.iaload, 1) := by decide +kernel
theorem d_M_truth_166 : decode b_M_truth 166 = .ok (.invokestatic 102, 3) := by decide +kernel
theorem d_M_truth_169 : decode b_M_truth 169 = .ok (.if_icmp .ge 7, 3) := by decide +kernel
theorem d_M_truth_172 : decode b_M_truth 172 = .ok (.iconst 1, 1) := by decide +kernel
theorem d_M_truth_173 : decode b_M_truth 173 = .ok (.goto 4, 3) := by decide +kernel
theorem d_M_truth_176 : decode b_M_truth 176 = .ok (.iconst 0, 1) := by decide +kernel
theorem d_M_truth_177 : decode b_M_truth 177 = .ok (.ireturn, 1) := by decide +kernel
theorem d_M_truth_178 : decode b_M_truth 178 = .ok (.aload_n 0, 1) := by decide +kernel
theorem d_M_truth_179 : decode b_M_truth 179 = .ok (.getfield 49, 3) := by decide +kernel
theorem d_M_truth_182 : decode b_M_truth 182 = .ok (.iload_n 2, 1) := by decide +kernel
theorem d_M_truth_183 : decode b_M_truth 183 = .ok (.iaload, 1) := by decide +kernel
theorem d_M_truth_184 : decode b_M_truth 184 = .ok (.aload_n 0, 1) := by decide +kernel
theorem d_M_truth_185 : decode b_M_truth 185 = .ok (.getfield 25, 3) := by decide +kernel
theorem d_M_truth_188 : decode b_M_truth 188 = .ok (.iload_n 2, 1) := by decide +kernel
theorem d_M_truth_189 : decode b_M_truth 189 = .ok (.iaload, 1) := by decide +kernel
theorem d_M_truth_190 : decode b_M_truth 190 = .ok (.invokestatic 102, 3) := by decide +kernel
theorem d_M_truth_193 : decode b_M_truth 193 = .ok (.aload_n 0, 1) := by decide +kernel
theorem d_M_truth_194 : decode b_M_truth 194 = .ok (.getfield 49, 3) := by decide +kernel
theorem d_M_truth_197 : decode b_M_truth 197 = .ok (.iload_n 3, 1) := by decide +kernel
theorem d_M_truth_198 : decode b_M_truth 198 = .ok (.iaload, 1) := by decide +kernel
theorem d_M_truth_199 : decode b_M_truth 199 = .ok (.aload_n 0, 1) := by decide +kernel
theorem d_M_truth_200 : decode b_M_truth 200 = .ok (.getfield 25, 3) := by decide +kernel
theorem d_M_truth_203 : decode b_M_truth 203 = .ok (.iload_n 3, 1) := by decide +kernel
theorem d_M_truth_204 : decode b_M_truth 204 = .ok (.iaload, 1) := by decide +kernel
theorem d_M_truth_205 : decode b_M_truth 205 = .ok (.invokestatic 102, 3) := by decide +kernel
theorem d_M_truth_208 : decode b_M_truth 208 = .ok (.if_icmp .gt 7, 3) := by decide +kernel
theorem d_M_truth_211 : decode b_M_truth 211 = .ok (.iconst 1, 1) := by decide +kernel
theorem d_M_truth_212 : decode b_M_truth 212 = .ok (.goto 4, 3) := by decide +kernel
theorem d_M_truth_215 : decode b_M_truth 215 = .ok (.iconst 0, 1) := by decide +kernel
theorem d_M_truth_216 : decode b_M_truth 216 = .ok (.ireturn, 1) := by decide +kernel
theorem d_M_truth_217 : decode b_M_truth 217 = .ok (.aload_n 0, 1) := by decide +kernel
theorem d_M_truth_218 : decode b_M_truth 218 = .ok (.getfield 49, 3) := by decide +kernel
theorem d_M_truth_221 : decode b_M_truth 221 = .ok (.iload_n 2, 1) := by decide +kernel
theorem d_M_truth_222 : decode b_M_truth 222 = .ok (.iaload, 1) := by decide +kernel
theorem d_M_truth_223 : decode b_M_truth 223 = .ok (.iload_n 3, 1) := by decide +kernel
theorem d_M_truth_224 : decode b_M_truth 224 = .ok (.ishr, 1) := by decide +kernel
theorem d_M_truth_225 : decode b_M_truth 225 = .ok (.iconst 1, 1) := by decide +kernel
theorem d_M_truth_226 : decode b_M_truth 226 = .ok (.iand, 1) := by decide +kernel
theorem d_M_truth_227 : decode b_M_truth 227 = .ok (.iconst 1, 1) := by decide +kernel
theorem d_M_truth_228 : decode b_M_truth 228 = .ok (.if_icmp .ne 7, 3) := by decide +kernel
theorem d_M_truth_231 : decode b_M_truth 231 = .ok (.iconst 1, 1) := by decide +kernel
theorem d_M_truth_232 : decode b_M_truth 232 = .ok (.goto 4, 3) := by decide +kernel
theorem d_M_truth_235 : decode b_M_truth 235 = .ok (.iconst 0, 1) := by decide +kernel
theorem d_M_truth_236 : decode b_M_truth 236 = .ok (.ireturn, 1) := by decide +kernel
theorem d_M_truth_237 : decode b_M_truth 237 = .ok (.aload_n 0, 1) := by decide +kernel
theorem d_M_truth_238 : decode b_M_truth 238 = .ok (.getfield 52, 3) := by decide +kernel
theorem d_M_truth_241 : decode b_M_truth 241 = .ok (.iload_n 2, 1) := by decide +kernel
theorem d_M_truth_242 : decode b_M_truth 242 = .ok (.baload, 1) := by decide +kernel
theorem d_M_truth_243 : decode b_M_truth 243 = .ok (.ifCond .ne 7, 3) := by decide +kernel
theorem d_M_truth_246 : decode b_M_truth 246 = .ok (.iconst 1, 1) := by decide +kernel
theorem d_M_truth_247 : decode b_M_truth 247 = .ok (.goto 4, 3) := by decide +kernel
theorem d_M_truth_250 : decode b_M_truth 250 = .ok (.iconst 0, 1) := by decide +kernel
theorem d_M_truth_251 : decode b_M_truth 251 = .ok (.ireturn, 1) := by decide +kernel
theorem d_M_truth_252 : decode b_M_truth 252 = .ok (.aload_n 0, 1) := by decide +kernel
theorem d_M_truth_253 : decode b_M_truth 253 = .ok (.getfield 52, 3) := by decide +kernel
theorem d_M_truth_256 : decode b_M_truth 256 = .ok (.iload_n 2, 1) := by decide +kernel
theorem d_M_truth_257 : decode b_M_truth 257 = .ok (.baload, 1) := by decide +kernel
theorem d_M_truth_258 : decode b_M_truth 258 = .ok (.ifCond .eq 16, 3) := by decide +kernel
theorem d_M_truth_261 : decode b_M_truth 261 = .ok (.aload_n 0, 1) := by decide +kernel
theorem d_M_truth_262 : decode b_M_truth 262 = .ok (.getfield 52, 3) := by decide +kernel
theorem d_M_truth_265 : decode b_M_truth 265 = .ok (.iload_n 3, 1) := by decide +kernel
theorem d_M_truth_266 : decode b_M_truth 266 = .ok (.baload, 1) := by decide +kernel
theorem d_M_truth_267 : decode b_M_truth 267 = .ok (.ifCond .eq 7, 3) := by decide +kernel
theorem d_M_truth_270 : decode b_M_truth 270 = .ok (.iconst 1, 1) := by decide +kernel
theorem d_M_truth_271 : decode b_M_truth 271 = .ok (.goto 4, 3) := by decide +kernel
theorem d_M_truth_274 : decode b_M_truth 274 = .ok (.iconst 0, 1) := by decide +kernel
theorem d_M_truth_275 : decode b_M_truth 275 = .ok (.ireturn, 1) := by decide +kernel
theorem d_M_truth_276 : decode b_M_truth 276 = .ok (.aload_n 0, 1) := by decide +kernel
theorem d_M_truth_277 : decode b_M_truth 277 = .ok (.getfield 52, 3) := by decide +kernel
theorem d_M_truth_280 : decode b_M_truth 280 = .ok (.iload_n 2, 1) := by decide +kernel
theorem d_M_truth_281 : decode b_M_truth 281 = .ok (.baload, 1) := by decide +kernel
theorem d_M_truth_282 : decode b_M_truth 282 = .ok (.ifCond .ne 12, 3) := by decide +kernel
theorem d_M_truth_285 : decode b_M_truth 285 = .ok (.aload_n 0, 1) := by decide +kernel
theorem d_M_truth_286 : decode b_M_truth 286 = .ok (.getfield 52, 3) := by decide +kernel
theorem d_M_truth_289 : decode b_M_truth 289 = .ok (.iload_n 3, 1) := by decide +kernel
theorem d_M_truth_290 : decode b_M_truth 290 = .ok (.baload, 1) := by decide +kernel
theorem d_M_truth_291 : decode b_M_truth 291 = .ok (.ifCond .eq 7, 3) := by decide +kernel
theorem d_M_truth_294 : decode b_M_truth 294 = .ok (.iconst 1, 1) := by decide +kernel
theorem d_M_truth_295 : decode b_M_truth 295 = .ok (.goto 4, 3) := by decide +kernel
theorem d_M_truth_298 : decode b_M_truth 298 = .ok (.iconst 0, 1) := by decide +kernel
theorem d_M_truth_299 : decode b_M_truth 299 = .ok (.ireturn, 1) := by decide +kernel
theorem d_M_truth_300 : decode b_M_truth 300 = .ok (.aload_n 0, 1) := by decide +kernel
theorem d_M_truth_301 : decode b_M_truth 301 = .ok (.getfield 52, 3) := by decide +kernel
theorem d_M_truth_304 : decode b_M_truth 304 = .ok (.iload_n 2, 1) := by decide +kernel
theorem d_M_truth_305 : decode b_M_truth 305 = .ok (.baload, 1) := by decide +kernel
theorem d_M_truth_306 : decode b_M_truth 306 = .ok (.aload_n 0, 1) := by decide +kernel
theorem d_M_truth_307 : decode b_M_truth 307 = .ok (.getfield 52, 3) := by decide +kernel
theorem d_M_truth_310 : decode b_M_truth 310 = .ok (.iload_n 3, 1) := by decide +kernel
theorem d_M_truth_311 : decode b_M_truth 311 = .ok (.baload, 1) := by decide +kernel
theorem d_M_truth_312 : decode b_M_truth 312 = .ok (.if_icmp .eq 7, 3) := by decide +kernel
theorem d_M_truth_315 : decode b_M_truth 315 = .ok (.iconst 1, 1) := by decide +kernel
theorem d_M_truth_316 : decode b_M_truth 316 = .ok (.goto 4, 3) := by decide +kernel
theorem d_M_truth_319 : decode b_M_truth 319 = .ok (.iconst 0, 1) := by decide +kernel
theorem d_M_truth_320 : decode b_M_truth 320 = .ok (.ireturn, 1) := by decide +kernel
theorem d_M_truth_321 : decode b_M_truth 321 = .ok (.aload_n 0, 1) := by decide +kernel
theorem d_M_truth_322 : decode b_M_truth 322 = .ok (.getfield 52, 3) := by decide +kernel
theorem d_M_truth_325 : decode b_M_truth 325 = .ok (.iload_n 2, 1) := by decide +kernel
theorem d_M_truth_326 : decode b_M_truth 326 = .ok (.baload, 1) := by decide +kernel
theorem d_M_truth_327 : decode b_M_truth 327 = .ok (.ifCond .eq 12, 3) := by decide +kernel
theorem d_M_truth_330 : decode b_M_truth 330 = .ok (.aload_n 0, 1) := by decide +kernel
theorem d_M_truth_331 : decode b_M_truth 331 = .ok (.getfield 52, 3) := by decide +kernel
theorem d_M_truth_334 : decode b_M_truth 334 = .ok (.iload_n 3, 1) := by decide +kernel
theorem d_M_truth_335 : decode b_M_truth 335 = .ok (.baload, 1) := by decide +kernel
theorem d_M_truth_336 : decode b_M_truth 336 = .ok (.ifCond .eq 7, 3) := by decide +kernel
theorem d_M_truth_339 : decode b_M_truth 339 = .ok (.iconst 1, 1) := by decide +kernel
theorem d_M_truth_340 : decode b_M_truth 340 = .ok (.goto 4, 3) := by decide +kernel
theorem d_M_truth_343 : decode b_M_truth 343 = .ok (.iconst 0, 1) := by decide +kernel
theorem d_M_truth_344 : decode b_M_truth 344 = .ok (.ireturn, 1) := by decide +kernel
theorem d_M_models_0 : decode b_M_models 0 = .ok (.iconst 0, 1) := by decide +kernel
theorem d_M_models_1 : decode b_M_models 1 = .ok (.istore_n 3, 1) := by decide +kernel
theorem d_M_models_2 : decode b_M_models 2 = .ok (.iload_n 3, 1) := by decide +kernel
theorem d_M_models_3 : decode b_M_models 3 = .ok (.aload_n 0, 1) := by decide +kernel
theorem d_M_models_4 : decode b_M_models 4 = .ok (.getfield 74, 3) := by decide +kernel
theorem d_M_models_7 : decode b_M_models 7 = .ok (.aload_n 0, 1) := by decide +kernel
theorem d_M_models_8 : decode b_M_models 8 = .ok (.getfield 77, 3) := by decide +kernel
theorem d_M_models_11 : decode b_M_models 11 = .ok (.iadd, 1) := by decide +kernel
theorem d_M_models_12 : decode b_M_models 12 = .ok (.if_icmp .ge 72, 3) := by decide +kernel
theorem d_M_models_15 : decode b_M_models 15 = .ok (.aload_n 0, 1) := by decide +kernel
theorem d_M_models_16 : decode b_M_models 16 = .ok (.getfield 37, 3) := by decide +kernel
theorem d_M_models_19 : decode b_M_models 19 = .ok (.iload_n 3, 1) := by decide +kernel
theorem d_M_models_20 : decode b_M_models 20 = .ok (.iaload, 1) := by decide +kernel
theorem d_M_models_21 : decode b_M_models 21 = .ok (.istore 4, 2) := by decide +kernel
theorem d_M_models_23 : decode b_M_models 23 = .ok (.iload 4, 2) := by decide +kernel
theorem d_M_models_25 : decode b_M_models 25 = .ok (.bipush 100, 2) := by decide +kernel
theorem d_M_models_27 : decode b_M_models 27 = .ok (.if_icmp .ge 32, 3) := by decide +kernel
theorem d_M_models_30 : decode b_M_models 30 = .ok (.aload_n 0, 1) := by decide +kernel
theorem d_M_models_31 : decode b_M_models 31 = .ok (.getfield 49, 3) := by decide +kernel
theorem d_M_models_34 : decode b_M_models 34 = .ok (.iload 4, 2) := by decide +kernel
theorem d_M_models_36 : decode b_M_models 36 = .ok (.aload_n 0, 1) := by decide +kernel
theorem d_M_models_37 : decode b_M_models 37 = .ok (.iload 4, 2) := by decide +kernel
theorem d_M_models_39 : decode b_M_models 39 = .ok (.iload_n 1, 1) := by decide +kernel
theorem d_M_models_40 : decode b_M_models 40 = .ok (.invokevirtual 105, 3) := by decide +kernel
theorem d_M_models_43 : decode b_M_models 43 = .ok (.iconst 1, 1) := by decide +kernel
theorem d_M_models_44 : decode b_M_models 44 = .ok (.aload_n 0, 1) := by decide +kernel
theorem d_M_models_45 : decode b_M_models 45 = .ok (.getfield 25, 3) := by decide +kernel
theorem d_M_models_48 : decode b_M_models 48 = .ok (.iload 4, 2) := by decide +kernel
theorem d_M_models_50 : decode b_M_models 50 = .ok (.iaload, 1) := by decide +kernel
theorem d_M_models_51 : decode b_M_models 51 = .ok (.ishl, 1) := by decide +kernel
theorem d_M_models_52 : decode b_M_models 52 = .ok (.iconst 1, 1) := by decide +kernel
theorem d_M_models_53 : decode b_M_models 53 = .ok (.isub, 1) := by decide +kernel
theorem d_M_models_54 : decode b_M_models 54 = .ok (.iand, 1) := by decide +kernel
theorem d_M_models_55 : decode b_M_models 55 = .ok (.iastore, 1) := by decide +kernel
theorem d_M_models_56 : decode b_M_models 56 = .ok (.goto 22, 3) := by decide +kernel
theorem d_M_models_59 : decode b_M_models 59 = .ok (.aload_n 0, 1) := by decide +kernel
theorem d_M_models_60 : decode b_M_models 60 = .ok (.getfield 52, 3) := by decide +kernel
theorem d_M_models_63 : decode b_M_models 63 = .ok (.iload 4, 2) := by decide +kernel
theorem d_M_models_65 : decode b_M_models 65 = .ok (.bipush 100, 2) := by decide +kernel
theorem d_M_models_67 : decode b_M_models 67 = .ok (.isub, 1) := by decide +kernel
theorem d_M_models_68 : decode b_M_models 68 = .ok (.aload_n 0, 1) := by decide +kernel
theorem d_M_models_69 : decode b_M_models 69 = .ok (.iload 4, 2) := by decide +kernel
theorem d_M_models_71 : decode b_M_models 71 = .ok (.bipush 100, 2) := by decide +kernel
theorem d_M_models_73 : decode b_M_models 73 = .ok (.isub, 1) := by decide +kernel
theorem d_M_models_74 : decode b_M_models 74 = .ok (.invokevirtual 108, 3) := by decide +kernel
theorem d_M_models_77 : decode b_M_models 77 = .ok (.bastore, 1) := by decide +kernel
theorem d_M_models_78 : decode b_M_models 78 = .ok (.iinc 3 1, 3) := by decide +kernel
theorem d_M_models_81 : decode b_M_models 81 = .ok (.goto (-79), 3) := by decide +kernel
theorem d_M_models_84 : decode b_M_models 84 = .ok (.iconst 0, 1) := by decide +kernel
theorem d_M_models_85 : decode b_M_models 85 = .ok (.istore_n 3, 1) := by decide +kernel
theorem d_M_models_86 : decode b_M_models 86 = .ok (.iload_n 3, 1) := by decide +kernel
theorem d_M_models_87 : decode b_M_models 87 = .ok (.aload_n 0, 1) := by decide +kernel
theorem d_M_models_88 : decode b_M_models 88 = .ok (.getfield 111, 3) := by decide +kernel
theorem d_M_models_91 : decode b_M_models 91 = .ok (.if_icmp .ge 25, 3) := by decide +kernel
theorem d_M_models_94 : decode b_M_models 94 = .ok (.aload_n 0, 1) := by decide +kernel
theorem d_M_models_95 : decode b_M_models 95 = .ok (.getfield 52, 3) := by decide +kernel
theorem d_M_models_98 : decode b_M_models 98 = .ok (.aload_n 0, 1) := by decide +kernel
theorem d_M_models_99 : decode b_M_models 99 = .ok (.getfield 40, 3) := by decide +kernel
theorem d_M_models_102 : decode b_M_models 102 = .ok (.iload_n 3, 1) := by decide +kernel
theorem d_M_models_103 : decode b_M_models 103 = .ok (.iaload, 1) := by decide +kernel
theorem d_M_models_104 : decode b_M_models 104 = .ok (.baload, 1) := by decide +kernel
theorem d_M_models_105 : decode b_M_models 105 = .ok (.ifCond .ne 5, 3) := by decide +kernel
theorem d_M_models_108 : decode b_M_models 108 = .ok (.iconst 0, 1) := by decide +kernel
theorem d_M_models_109 : decode b_M_models 109 = .ok (.ireturn, 1) := by decide +kernel
theorem d_M_models_110 : decode b_M_models 110 = .ok (.iinc 3 1, 3) := by decide +kernel
theorem d_M_models_113 : decode b_M_models 113 = .ok (.goto (-27), 3) := by decide +kernel
theorem d_M_models_116 : decode b_M_models 116 = .ok (.iconst 0, 1) := by decide +kernel
theorem d_M_models_117 : decode b_M_models 117 = .ok (.istore_n 3, 1) := by decide +kernel
theorem d_M_models_118 : decode b_M_models 118 = .ok (.iload_n 3, 1) := by decide +kernel
theorem d_M_models_119 : decode b_M_models 119 = .ok (.aload_n 0, 1) := by decide +kernel
theorem d_M_models_120 : decode b_M_models 120 = .ok (.getfield 114, 3) := by decide +kernel
theorem d_M_models_123 : decode b_M_models 123 = .ok (.if_icmp .ge 33, 3) := by decide +kernel
theorem d_M_models_126 : decode b_M_models 126 = .ok (.iload_n 2, 1) := by decide +kernel
theorem d_M_models_127 : decode b_M_models 127 = .ok (.iload_n 3, 1) := by decide +kernel
theorem d_M_models_128 : decode b_M_models 128 = .ok (.ishr, 1) := by decide +kernel
theorem d_M_models_129 : decode b_M_models 129 = .ok (.iconst 1, 1) := by decide +kernel
theorem d_M_models_130 : decode b_M_models 130 = .ok (.iand, 1) := by decide +kernel
theorem d_M_models_131 : decode b_M_models 131 = .ok (.ifCond .eq 19, 3) := by decide +kernel
theorem d_M_models_134 : decode b_M_models 134 = .ok (.aload_n 0, 1) := by decide +kernel
theorem d_M_models_135 : decode b_M_models 135 = .ok (.getfield 52, 3) := by decide +kernel
theorem d_M_models_138 : decode b_M_models 138 = .ok (.aload_n 0, 1) := by decide +kernel
theorem d_M_models_139 : decode b_M_models 139 = .ok (.getfield 46, 3) := by decide +kernel
theorem d_M_models_142 : decode b_M_models 142 = .ok (.iload_n 3, 1) := by decide +kernel
theorem d_M_models_143 : decode b_M_models 143 = .ok (.iaload, 1) := by decide +kernel
theorem d_M_models_144 : decode b_M_models 144 = .ok (.baload, 1) := by decide +kernel
theorem d_M_models_145 : decode b_M_models 145 = .ok (.ifCond .ne 5, 3) := by decide +kernel
theorem d_M_models_148 : decode b_M_models 148 = .ok (.iconst 0, 1) := by decide +kernel
theorem d_M_models_149 : decode b_M_models 149 = .ok (.ireturn, 1) := by decide +kernel
theorem d_M_models_150 : decode b_M_models 150 = .ok (.iinc 3 1, 3) := by decide +kernel
theorem d_M_models_153 : decode b_M_models 153 = .ok (.goto (-35), 3) := by decide +kernel
theorem d_M_models_156 : decode b_M_models 156 = .ok (.iconst 1, 1) := by decide +kernel
theorem d_M_models_157 : decode b_M_models 157 = .ok (.ireturn, 1) := by decide +kernel
theorem d_M_next_0 : decode b_M_next 0 = .ok (.iload_n 1, 1) := by decide +kernel
theorem d_M_next_1 : decode b_M_next 1 = .ok (.istore_n 3, 1) := by decide +kernel
theorem d_M_next_2 : decode b_M_next 2 = .ok (.iload_n 3, 1) := by decide +kernel
theorem d_M_next_3 : decode b_M_next 3 = .ok (.iconst 1, 1) := by decide +kernel
theorem d_M_next_4 : decode b_M_next 4 = .ok (.aload_n 0, 1) := by decide +kernel
theorem d_M_next_5 : decode b_M_next 5 = .ok (.getfield 71, 3) := by decide +kernel
theorem d_M_next_8 : decode b_M_next 8 = .ok (.ishl, 1) := by decide +kernel
theorem d_M_next_9 : decode b_M_next 9 = .ok (.if_icmp .ge 20, 3) := by decide +kernel
theorem d_M_next_12 : decode b_M_next 12 = .ok (.aload_n 0, 1) := by decide +kernel
theorem d_M_next_13 : decode b_M_next 13 = .ok (.iload_n 3, 1) := by decide +kernel
theorem d_M_next_14 : decode b_M_next 14 = .ok (.iload_n 2, 1) := by decide +kernel
theorem d_M_next_15 : decode b_M_next 15 = .ok (.invokevirtual 117, 3) := by decide +kernel
theorem d_M_next_18 : decode b_M_next 18 = .ok (.ifCond .eq 5, 3) := by decide +kernel
theorem d_M_next_21 : decode b_M_next 21 = .ok (.iload_n 3, 1) := by decide +kernel
theorem d_M_next_22 : decode b_M_next 22 = .ok (.ireturn, 1) := by decide +kernel
theorem d_M_next_23 : decode b_M_next 23 = .ok (.iinc 3 1, 3) := by decide +kernel
theorem d_M_next_26 : decode b_M_next 26 = .ok (.goto (-24), 3) := by decide +kernel
theorem d_M_next_29 : decode b_M_next 29 = .ok (.iconst (-1), 1) := by decide +kernel
theorem d_M_next_30 : decode b_M_next 30 = .ok (.ireturn, 1) := by decide +kernel
theorem d_M_assertion_0 : decode b_M_assertion 0 = .ok (.aload_n 0, 1) := by decide +kernel
theorem d_M_assertion_1 : decode b_M_assertion 1 = .ok (.iconst 0, 1) := by decide +kernel
theorem d_M_assertion_2 : decode b_M_assertion 2 = .ok (.putfield 56, 3) := by decide +kernel
theorem d_M_assertion_5 : decode b_M_assertion 5 = .ok (.aload_n 0, 1) := by decide +kernel
theorem d_M_assertion_6 : decode b_M_assertion 6 = .ok (.iload_n 1, 1) := by decide +kernel
theorem d_M_assertion_7 : decode b_M_assertion 7 = .ok (.invokevirtual 88, 3) := by decide +kernel
theorem d_M_assertion_10 : decode b_M_assertion 10 = .ok (.ifCond .ne 9, 3) := by decide +kernel
theorem d_M_assertion_13 : decode b_M_assertion 13 = .ok (.aload_n 0, 1) := by decide +kernel
theorem d_M_assertion_14 : decode b_M_assertion 14 = .ok (.iconst 1, 1) := by decide +kernel
theorem d_M_assertion_15 : decode b_M_assertion 15 = .ok (.invokevirtual 64, 3) := by decide +kernel
theorem d_M_assertion_18 : decode b_M_assertion 18 = .ok (.ireturn, 1) := by decide +kernel
theorem d_M_assertion_19 : decode b_M_assertion 19 = .ok (.aload_n 0, 1) := by decide +kernel
theorem d_M_assertion_20 : decode b_M_assertion 20 = .ok (.getfield 111, 3) := by decide +kernel
theorem d_M_assertion_23 : decode b_M_assertion 23 = .ok (.bipush 30, 2) := by decide +kernel
theorem d_M_assertion_25 : decode b_M_assertion 25 = .ok (.if_icmp .ne 9, 3) := by decide +kernel
theorem d_M_assertion_28 : decode b_M_assertion 28 = .ok (.aload_n 0, 1) := by decide +kernel
theorem d_M_assertion_29 : decode b_M_assertion 29 = .ok (.iconst 2, 1) := by decide +kernel
theorem d_M_assertion_30 : decode b_M_assertion 30 = .ok (.invokevirtual 64, 3) := by decide +kernel
theorem d_M_assertion_33 : decode b_M_assertion 33 = .ok (.ireturn, 1) := by decide +kernel
theorem d_M_assertion_34 : decode b_M_assertion 34 = .ok (.aload_n 0, 1) := by decide +kernel
theorem d_M_assertion_35 : decode b_M_assertion 35 = .ok (.getfield 40, 3) := by decide +kernel
theorem d_M_assertion_38 : decode b_M_assertion 38 = .ok (.aload_n 0, 1) := by decide +kernel
theorem d_M_assertion_39 : decode b_M_assertion 39 = .ok (.getfield 111, 3) := by decide +kernel
theorem d_M_assertion_42 : decode b_M_assertion 42 = .ok (.iload_n 1, 1) := by decide +kernel
theorem d_M_assertion_43 : decode b_M_assertion 43 = .ok (.iastore, 1) := by decide +kernel
theorem d_M_assertion_44 : decode b_M_assertion 44 = .ok (.aload_n 0, 1) := by decide +kernel
theorem d_M_assertion_45 : decode b_M_assertion 45 = .ok (.getfield 43, 3) := by decide +kernel
theorem d_M_assertion_48 : decode b_M_assertion 48 = .ok (.aload_n 0, 1) := by decide +kernel
theorem d_M_assertion_49 : decode b_M_assertion 49 = .ok (.getfield 111, 3) := by decide +kernel
theorem d_M_assertion_52 : decode b_M_assertion 52 = .ok (.aload_n 0, 1) := by decide +kernel
theorem d_M_assertion_53 : decode b_M_assertion 53 = .ok (.getfield 120, 3) := by decide +kernel
theorem d_M_assertion_56 : decode b_M_assertion 56 = .ok (.iastore, 1) := by decide +kernel
theorem d_M_assertion_57 : decode b_M_assertion 57 = .ok (.aload_n 0, 1) := by decide +kernel
theorem d_M_assertion_58 : decode b_M_assertion 58 = .ok (.dup, 1) := by decide +kernel
theorem d_M_assertion_59 : decode b_M_assertion 59 = .ok (.getfield 111, 3) := by decide +kernel
theorem d_M_assertion_62 : decode b_M_assertion 62 = .ok (.iconst 1, 1) := by decide +kernel
theorem d_M_assertion_63 : decode b_M_assertion 63 = .ok (.iadd, 1) := by decide +kernel
theorem d_M_assertion_64 : decode b_M_assertion 64 = .ok (.putfield 111, 3) := by decide +kernel
theorem d_M_assertion_67 : decode b_M_assertion 67 = .ok (.aload_n 0, 1) := by decide +kernel
theorem d_M_assertion_68 : decode b_M_assertion 68 = .ok (.getfield 111, 3) := by decide +kernel
theorem d_M_assertion_71 : decode b_M_assertion 71 = .ok (.ireturn, 1) := by decide +kernel
theorem d_M_push_0 : decode b_M_push 0 = .ok (.aload_n 0, 1) := by decide +kernel
theorem d_M_push_1 : decode b_M_push 1 = .ok (.iconst 0, 1) := by decide +kernel
theorem d_M_push_2 : decode b_M_push 2 = .ok (.putfield 56, 3) := by decide +kernel
theorem d_M_push_5 : decode b_M_push 5 = .ok (.aload_n 0, 1) := by decide +kernel
theorem d_M_push_6 : decode b_M_push 6 = .ok (.getfield 120, 3) := by decide +kernel
theorem d_M_push_9 : decode b_M_push 9 = .ok (.iconst 5, 1) := by decide +kernel
theorem d_M_push_10 : decode b_M_push 10 = .ok (.if_icmp .ne 9, 3) := by decide +kernel
theorem d_M_push_13 : decode b_M_push 13 = .ok (.aload_n 0, 1) := by decide +kernel
theorem d_M_push_14 : decode b_M_push 14 = .ok (.iconst 1, 1) := by decide +kernel
theorem d_M_push_15 : decode b_M_push 15 = .ok (.invokevirtual 64, 3) := by decide +kernel
theorem d_M_push_18 : decode b_M_push 18 = .ok (.ireturn, 1) := by decide +kernel
theorem d_M_push_19 : decode b_M_push 19 = .ok (.aload_n 0, 1) := by decide +kernel
theorem d_M_push_20 : decode b_M_push 20 = .ok (.dup, 1) := by decide +kernel
theorem d_M_push_21 : decode b_M_push 21 = .ok (.getfield 120, 3) := by decide +kernel
theorem d_M_push_24 : decode b_M_push 24 = .ok (.iconst 1, 1) := by decide +kernel
theorem d_M_push_25 : decode b_M_push 25 = .ok (.iadd, 1) := by decide +kernel
theorem d_M_push_26 : decode b_M_push 26 = .ok (.putfield 120, 3) := by decide +kernel
theorem d_M_push_29 : decode b_M_push 29 = .ok (.aload_n 0, 1) := by decide +kernel
theorem d_M_push_30 : decode b_M_push 30 = .ok (.getfield 120, 3) := by decide +kernel
theorem d_M_push_33 : decode b_M_push 33 = .ok (.ireturn, 1) := by decide +kernel
theorem d_M_pop_0 : decode b_M_pop 0 = .ok (.aload_n 0, 1) := by decide +kernel
theorem d_M_pop_1 : decode b_M_pop 1 = .ok (.iconst 0, 1) := by decide +kernel
theorem d_M_pop_2 : decode b_M_pop 2 = .ok (.putfield 56, 3) := by decide +kernel
theorem d_M_pop_5 : decode b_M_pop 5 = .ok (.aload_n 0, 1) := by decide +kernel
theorem d_M_pop_6 : decode b_M_pop 6 = .ok (.getfield 120, 3) := by decide +kernel
theorem d_M_pop_9 : decode b_M_pop 9 = .ok (.ifCond .ne 9, 3) := by decide +kernel
theorem d_M_pop_12 : decode b_M_pop 12 = .ok (.aload_n 0, 1) := by decide +kernel
theorem d_M_pop_13 : decode b_M_pop 13 = .ok (.iconst 1, 1) := by decide +kernel
theorem d_M_pop_14 : decode b_M_pop 14 = .ok (.invokevirtual 64, 3) := by decide +kernel
theorem d_M_pop_17 : decode b_M_pop 17 = .ok (.ireturn, 1) := by decide +kernel
theorem d_M_pop_18 : decode b_M_pop 18 = .ok (.aload_n 0, 1) := by decide +kernel
theorem d_M_pop_19 : decode b_M_pop 19 = .ok (.getfield 111, 3) := by decide +kernel
theorem d_M_pop_22 : decode b_M_pop 22 = .ok (.istore_n 1, 1) := by decide +kernel
theorem d_M_pop_23 : decode b_M_pop 23 = .ok (.aload_n 0, 1) := by decide +kernel
theorem d_M_pop_24 : decode b_M_pop 24 = .ok (.getfield 111, 3) := by decide +kernel
theorem d_M_pop_27 : decode b_M_pop 27 = .ok (.ifCond .le 34, 3) := by decide +kernel
theorem d_M_pop_30 : decode b_M_pop 30 = .ok (.aload_n 0, 1) := by decide +kernel
theorem d_M_pop_31 : decode b_M_pop 31 = .ok (.getfield 43, 3) := by decide +kernel
theorem d_M_pop_34 : decode b_M_pop 34 = .ok (.aload_n 0, 1) := by decide +kernel
theorem d_M_pop_35 : decode b_M_pop 35 = .ok (.getfield 111, 3) := by decide +kernel
theorem d_M_pop_38 : decode b_M_pop 38 = .ok (.iconst 1, 1) := by decide +kernel
theorem d_M_pop_39 : decode b_M_pop 39 = .ok (.isub, 1) := by decide +kernel
theorem d_M_pop_40 : decode b_M_pop 40 = .ok (.iaload, 1) := by decide +kernel
theorem d_M_pop_41 : decode b_M_pop 41 = .ok (.aload_n 0, 1) := by decide +kernel
theorem d_M_pop_42 : decode b_M_pop 42 = .ok (.getfield 120, 3) := by decide +kernel
theorem d_M_pop_45 : decode b_M_pop 45 = .ok (.if_icmp .ne 16, 3) := by decide +kernel
theorem d_M_pop_48 : decode b_M_pop 48 = .ok (.aload_n 0, 1) := by decide +kernel
theorem d_M_pop_49 : decode b_M_pop 49 = .ok (.dup, 1) := by decide +kernel
theorem d_M_pop_50 : decode b_M_pop 50 = .ok (.getfield 111, 3) := by decide +kernel
theorem d_M_pop_53 : decode b_M_pop 53 = .ok (.iconst 1, 1) := by decide +kernel
theorem d_M_pop_54 : decode b_M_pop 54 = .ok (.isub, 1) := by decide +kernel
theorem d_M_pop_55 : decode b_M_pop 55 = .ok (.putfield 111, 3) := by decide +kernel
theorem d_M_pop_58 : decode b_M_pop 58 = .ok (.goto (-35), 3) := by decide +kernel
theorem d_M_pop_61 : decode b_M_pop 61 = .ok (.aload_n 0, 1) := by decide +kernel
theorem d_M_pop_62 : decode b_M_pop 62 = .ok (.dup, 1) := by decide +kernel
theorem d_M_pop_63 : decode b_M_pop 63 = .ok (.getfield 120, 3) := by decide +kernel
theorem d_M_pop_66 : decode b_M_pop 66 = .ok (.iconst 1, 1) := by decide +kernel
theorem d_M_pop_67 : decode b_M_pop 67 = .ok (.isub, 1) := by decide +kernel
theorem d_M_pop_68 : decode b_M_pop 68 = .ok (.putfield 120, 3) := by decide +kernel
theorem d_M_pop_71 : decode b_M_pop 71 = .ok (.iload_n 1, 1) := by decide +kernel
theorem d_M_pop_72 : decode b_M_pop 72 = .ok (.aload_n 0, 1) := by decide +kernel
theorem d_M_pop_73 : decode b_M_pop 73 = .ok (.getfield 111, 3) := by decide +kernel
theorem d_M_pop_76 : decode b_M_pop 76 = .ok (.isub, 1) := by decide +kernel
theorem d_M_pop_77 : decode b_M_pop 77 = .ok (.ireturn, 1) := by decide +kernel
theorem d_M_check_0 : decode b_M_check 0 = .ok (.aload_n 0, 1) := by decide +kernel
theorem d_M_check_1 : decode b_M_check 1 = .ok (.iconst 0, 1) := by decide +kernel
theorem d_M_check_2 : decode b_M_check 2 = .ok (.putfield 56, 3) := by decide +kernel
theorem d_M_check_5 : decode b_M_check 5 = .ok (.aload_n 0, 1) := by decide +kernel
theorem d_M_check_6 : decode b_M_check 6 = .ok (.iconst 0, 1) := by decide +kernel
theorem d_M_check_7 : decode b_M_check 7 = .ok (.iconst 0, 1) := by decide +kernel
theorem d_M_check_8 : decode b_M_check 8 = .ok (.invokevirtual 123, 3) := by decide +kernel
theorem d_M_check_11 : decode b_M_check 11 = .ok (.ifCond .lt 7, 3) := by decide +kernel
theorem d_M_check_14 : decode b_M_check 14 = .ok (.iconst 1, 1) := by decide +kernel
theorem d_M_check_15 : decode b_M_check 15 = .ok (.goto 4, 3) := by decide +kernel
theorem d_M_check_18 : decode b_M_check 18 = .ok (.iconst 0, 1) := by decide +kernel
theorem d_M_check_19 : decode b_M_check 19 = .ok (.ireturn, 1) := by decide +kernel
theorem d_M_value_0 : decode b_M_value 0 = .ok (.aload_n 0, 1) := by decide +kernel
theorem d_M_value_1 : decode b_M_value 1 = .ok (.iconst 0, 1) := by decide +kernel
theorem d_M_value_2 : decode b_M_value 2 = .ok (.putfield 56, 3) := by decide +kernel
theorem d_M_value_5 : decode b_M_value 5 = .ok (.iload_n 1, 1) := by decide +kernel
theorem d_M_value_6 : decode b_M_value 6 = .ok (.iconst 0, 1) := by decide +kernel
theorem d_M_value_7 : decode b_M_value 7 = .ok (.aload_n 0, 1) := by decide +kernel
theorem d_M_value_8 : decode b_M_value 8 = .ok (.getfield 68, 3) := by decide +kernel
theorem d_M_value_11 : decode b_M_value 11 = .ok (.iconst 1, 1) := by decide +kernel
theorem d_M_value_12 : decode b_M_value 12 = .ok (.isub, 1) := by decide +kernel
theorem d_M_value_13 : decode b_M_value 13 = .ok (.invokestatic 60, 3) := by decide +kernel
theorem d_M_value_16 : decode b_M_value 16 = .ok (.ifCond .ne 9, 3) := by decide +kernel
theorem d_M_value_19 : decode b_M_value 19 = .ok (.aload_n 0, 1) := by decide +kernel
theorem d_M_value_20 : decode b_M_value 20 = .ok (.iconst 1, 1) := by decide +kernel
theorem d_M_value_21 : decode b_M_value 21 = .ok (.invokevirtual 64, 3) := by decide +kernel
theorem d_M_value_24 : decode b_M_value 24 = .ok (.ireturn, 1) := by decide +kernel
theorem d_M_value_25 : decode b_M_value 25 = .ok (.aload_n 0, 1) := by decide +kernel
theorem d_M_value_26 : decode b_M_value 26 = .ok (.iconst 0, 1) := by decide +kernel
theorem d_M_value_27 : decode b_M_value 27 = .ok (.iconst 0, 1) := by decide +kernel
theorem d_M_value_28 : decode b_M_value 28 = .ok (.invokevirtual 123, 3) := by decide +kernel
theorem d_M_value_31 : decode b_M_value 31 = .ok (.istore_n 2, 1) := by decide +kernel
theorem d_M_value_32 : decode b_M_value 32 = .ok (.iload_n 2, 1) := by decide +kernel
theorem d_M_value_33 : decode b_M_value 33 = .ok (.ifCond .ge 11, 3) := by decide +kernel
theorem d_M_value_36 : decode b_M_value 36 = .ok (.aload_n 0, 1) := by decide +kernel
theorem d_M_value_37 : decode b_M_value 37 = .ok (.iconst 2, 1) := by decide +kernel
theorem d_M_value_38 : decode b_M_value 38 = .ok (.invokevirtual 64, 3) := by decide +kernel
theorem d_M_value_41 : decode b_M_value 41 = .ok (.goto 9, 3) := by decide +kernel
theorem d_M_value_44 : decode b_M_value 44 = .ok (.aload_n 0, 1) := by decide +kernel
theorem d_M_value_45 : decode b_M_value 45 = .ok (.iload_n 2, 1) := by decide +kernel
theorem d_M_value_46 : decode b_M_value 46 = .ok (.iload_n 1, 1) := by decide +kernel
theorem d_M_value_47 : decode b_M_value 47 = .ok (.invokevirtual 98, 3) := by decide +kernel
theorem d_M_value_50 : decode b_M_value 50 = .ok (.ireturn, 1) := by decide +kernel
theorem d_M_valueOf_0 : decode b_M_valueOf 0 = .ok (.aload_n 0, 1) := by decide +kernel
theorem d_M_valueOf_1 : decode b_M_valueOf 1 = .ok (.iconst 0, 1) := by decide +kernel
theorem d_M_valueOf_2 : decode b_M_valueOf 2 = .ok (.putfield 56, 3) := by decide +kernel
theorem d_M_valueOf_5 : decode b_M_valueOf 5 = .ok (.aload_n 0, 1) := by decide +kernel
theorem d_M_valueOf_6 : decode b_M_valueOf 6 = .ok (.iload_n 1, 1) := by decide +kernel
theorem d_M_valueOf_7 : decode b_M_valueOf 7 = .ok (.invokevirtual 80, 3) := by decide +kernel
theorem d_M_valueOf_10 : decode b_M_valueOf 10 = .ok (.ifCond .ne 9, 3) := by decide +kernel
theorem d_M_valueOf_13 : decode b_M_valueOf 13 = .ok (.aload_n 0, 1) := by decide +kernel
theorem d_M_valueOf_14 : decode b_M_valueOf 14 = .ok (.iconst 1, 1) := by decide +kernel
theorem d_M_valueOf_15 : decode b_M_valueOf 15 = .ok (.invokevirtual 64, 3) := by decide +kernel
theorem d_M_valueOf_18 : decode b_M_valueOf 18 = .ok (.ireturn, 1) := by decide +kernel
theorem d_M_valueOf_19 : decode b_M_valueOf 19 = .ok (.aload_n 0, 1) := by decide +kernel
theorem d_M_valueOf_20 : decode b_M_valueOf 20 = .ok (.iconst 0, 1) := by decide +kernel
theorem d_M_valueOf_21 : decode b_M_valueOf 21 = .ok (.iconst 0, 1) := by decide +kernel
theorem d_M_valueOf_22 : decode b_M_valueOf 22 = .ok (.invokevirtual 123, 3) := by decide +kernel
theorem d_M_valueOf_25 : decode b_M_valueOf 25 = .ok (.ifCond .ge 11, 3) := by decide +kernel
theorem d_M_valueOf_28 : decode b_M_valueOf 28 = .ok (.aload_n 0, 1) := by decide +kernel
theorem d_M_valueOf_29 : decode b_M_valueOf 29 = .ok (.iconst 2, 1) := by decide +kernel
theorem d_M_valueOf_30 : decode b_M_valueOf 30 = .ok (.invokevirtual 64, 3) := by decide +kernel
theorem d_M_valueOf_33 : decode b_M_valueOf 33 = .ok (.goto 9, 3) := by decide +kernel
theorem d_M_valueOf_36 : decode b_M_valueOf 36 = .ok (.aload_n 0, 1) := by decide +kernel
theorem d_M_valueOf_37 : decode b_M_valueOf 37 = .ok (.getfield 49, 3) := by decide +kernel
theorem d_M_valueOf_40 : decode b_M_valueOf 40 = .ok (.iload_n 1, 1) := by decide +kernel
theorem d_M_valueOf_41 : decode b_M_valueOf 41 = .ok (.iaload, 1) := by decide +kernel
theorem d_M_valueOf_42 : decode b_M_valueOf 42 = .ok (.ireturn, 1) := by decide +kernel
theorem d_M_entailed_0 : decode b_M_entailed 0 = .ok (.aload_n 0, 1) := by decide +kernel
theorem d_M_entailed_1 : decode b_M_entailed 1 = .ok (.iconst 0, 1) := by decide +kernel
theorem d_M_entailed_2 : decode b_M_entailed 2 = .ok (.putfield 56, 3) := by decide +kernel
theorem d_M_entailed_5 : decode b_M_entailed 5 = .ok (.aload_n 0, 1) := by decide +kernel
theorem d_M_entailed_6 : decode b_M_entailed 6 = .ok (.iload_n 1, 1) := by decide +kernel
theorem d_M_entailed_7 : decode b_M_entailed 7 = .ok (.invokevirtual 88, 3) := by decide +kernel
theorem d_M_entailed_10 : decode b_M_entailed 10 = .ok (.ifCond .ne 9, 3) := by decide +kernel
theorem d_M_entailed_13 : decode b_M_entailed 13 = .ok (.aload_n 0, 1) := by decide +kernel
theorem d_M_entailed_14 : decode b_M_entailed 14 = .ok (.iconst 1, 1) := by decide +kernel
theorem d_M_entailed_15 : decode b_M_entailed 15 = .ok (.invokevirtual 64, 3) := by decide +kernel
theorem d_M_entailed_18 : decode b_M_entailed 18 = .ok (.ireturn, 1) := by decide +kernel
theorem d_M_entailed_19 : decode b_M_entailed 19 = .ok (.iconst 0, 1) := by decide +kernel
theorem d_M_entailed_20 : decode b_M_entailed 20 = .ok (.istore_n 2, 1) := by decide +kernel
theorem d_M_entailed_21 : decode b_M_entailed 21 = .ok (.iconst 0, 1) := by decide +kernel
theorem d_M_entailed_22 : decode b_M_entailed 22 = .ok (.istore_n 3, 1) := by decide +kernel
theorem d_M_entailed_23 : decode b_M_entailed 23 = .ok (.aload_n 0, 1) := by decide +kernel
theorem d_M_entailed_24 : decode b_M_entailed 24 = .ok (.iconst 0, 1) := by decide +kernel
theorem d_M_entailed_25 : decode b_M_entailed 25 = .ok (.iconst 0, 1) := by decide +kernel
theorem d_M_entailed_26 : decode b_M_entailed 26 = .ok (.invokevirtual 123, 3) := by decide +kernel
theorem d_M_entailed_29 : decode b_M_entailed 29 = .ok (.istore 4, 2) := by decide +kernel
theorem d_M_entailed_31 : decode b_M_entailed 31 = .ok (.iload 4, 2) := by decide +kernel
theorem d_M_entailed_33 : decode b_M_entailed 33 = .ok (.ifCond .lt 43, 3) := by decide +kernel
theorem d_M_entailed_36 : decode b_M_entailed 36 = .ok (.iload_n 2, 1) := by decide +kernel
theorem d_M_entailed_37 : decode b_M_entailed 37 = .ok (.aload_n 0, 1) := by decide +kernel
theorem d_M_entailed_38 : decode b_M_entailed 38 = .ok (.getfield 52, 3) := by decide +kernel
theorem d_M_entailed_41 : decode b_M_entailed 41 = .ok (.iload_n 1, 1) := by decide +kernel
theorem d_M_entailed_42 : decode b_M_entailed 42 = .ok (.baload, 1) := by decide +kernel
theorem d_M_entailed_43 : decode b_M_entailed 43 = .ok (.ior, 1) := by decide +kernel
theorem d_M_entailed_44 : decode b_M_entailed 44 = .ok (.istore_n 2, 1) := by decide +kernel
theorem d_M_entailed_45 : decode b_M_entailed 45 = .ok (.iload_n 3, 1) := by decide +kernel
theorem d_M_entailed_46 : decode b_M_entailed 46 = .ok (.aload_n 0, 1) := by decide +kernel
theorem d_M_entailed_47 : decode b_M_entailed 47 = .ok (.getfield 52, 3) := by decide +kernel
theorem d_M_entailed_50 : decode b_M_entailed 50 = .ok (.iload_n 1, 1) := by decide +kernel
theorem d_M_entailed_51 : decode b_M_entailed 51 = .ok (.baload, 1) := by decide +kernel
theorem d_M_entailed_52 : decode b_M_entailed 52 = .ok (.ifCond .ne 7, 3) := by decide +kernel
theorem d_M_entailed_55 : decode b_M_entailed 55 = .ok (.iconst 1, 1) := by decide +kernel
theorem d_M_entailed_56 : decode b_M_entailed 56 = .ok (.goto 4, 3) := by decide +kernel
theorem d_M_entailed_59 : decode b_M_entailed 59 = .ok (.iconst 0, 1) := by decide +kernel
theorem d_M_entailed_60 : decode b_M_entailed 60 = .ok (.ior, 1) := by decide +kernel
theorem d_M_entailed_61 : decode b_M_entailed 61 = .ok (.istore_n 3, 1) := by decide +kernel
theorem d_M_entailed_62 : decode b_M_entailed 62 = .ok (.aload_n 0, 1) := by decide +kernel
theorem d_M_entailed_63 : decode b_M_entailed 63 = .ok (.iload 4, 2) := by decide +kernel
theorem d_M_entailed_65 : decode b_M_entailed 65 = .ok (.iconst 1, 1) := by decide +kernel
theorem d_M_entailed_66 : decode b_M_entailed 66 = .ok (.iadd, 1) := by decide +kernel
theorem d_M_entailed_67 : decode b_M_entailed 67 = .ok (.iconst 0, 1) := by decide +kernel
theorem d_M_entailed_68 : decode b_M_entailed 68 = .ok (.invokevirtual 123, 3) := by decide +kernel
theorem d_M_entailed_71 : decode b_M_entailed 71 = .ok (.istore 4, 2) := by decide +kernel
theorem d_M_entailed_73 : decode b_M_entailed 73 = .ok (.goto (-42), 3) := by decide +kernel
theorem d_M_entailed_76 : decode b_M_entailed 76 = .ok (.iload_n 2, 1) := by decide +kernel
theorem d_M_entailed_77 : decode b_M_entailed 77 = .ok (.ifCond .ne 15, 3) := by decide +kernel
theorem d_M_entailed_80 : decode b_M_entailed 80 = .ok (.iload_n 3, 1) := by decide +kernel
theorem d_M_entailed_81 : decode b_M_entailed 81 = .ok (.ifCond .ne 11, 3) := by decide +kernel
theorem d_M_entailed_84 : decode b_M_entailed 84 = .ok (.aload_n 0, 1) := by decide +kernel
theorem d_M_entailed_85 : decode b_M_entailed 85 = .ok (.iconst 2, 1) := by decide +kernel
theorem d_M_entailed_86 : decode b_M_entailed 86 = .ok (.invokevirtual 64, 3) := by decide +kernel
theorem d_M_entailed_89 : decode b_M_entailed 89 = .ok (.goto 24, 3) := by decide +kernel
theorem d_M_entailed_92 : decode b_M_entailed 92 = .ok (.iload_n 2, 1) := by decide +kernel
theorem d_M_entailed_93 : decode b_M_entailed 93 = .ok (.ifCond .eq 11, 3) := by decide +kernel
theorem d_M_entailed_96 : decode b_M_entailed 96 = .ok (.iload_n 3, 1) := by decide +kernel
theorem d_M_entailed_97 : decode b_M_entailed 97 = .ok (.ifCond .eq 7, 3) := by decide +kernel
theorem d_M_entailed_100 : decode b_M_entailed 100 = .ok (.iconst 2, 1) := by decide +kernel
theorem d_M_entailed_101 : decode b_M_entailed 101 = .ok (.goto 12, 3) := by decide +kernel
theorem d_M_entailed_104 : decode b_M_entailed 104 = .ok (.iload_n 2, 1) := by decide +kernel
theorem d_M_entailed_105 : decode b_M_entailed 105 = .ok (.ifCond .eq 7, 3) := by decide +kernel
theorem d_M_entailed_108 : decode b_M_entailed 108 = .ok (.iconst 1, 1) := by decide +kernel
theorem d_M_entailed_109 : decode b_M_entailed 109 = .ok (.goto 4, 3) := by decide +kernel
theorem d_M_entailed_112 : decode b_M_entailed 112 = .ok (.iconst 0, 1) := by decide +kernel
theorem d_M_entailed_113 : decode b_M_entailed 113 = .ok (.ireturn, 1) := by decide +kernel
theorem d_M_fixed_0 : decode b_M_fixed 0 = .ok (.aload_n 0, 1) := by decide +kernel
theorem d_M_fixed_1 : decode b_M_fixed 1 = .ok (.iconst 0, 1) := by decide +kernel
theorem d_M_fixed_2 : decode b_M_fixed 2 = .ok (.putfield 56, 3) := by decide +kernel
theorem d_M_fixed_5 : decode b_M_fixed 5 = .ok (.iload_n 1, 1) := by decide +kernel
theorem d_M_fixed_6 : decode b_M_fixed 6 = .ok (.iconst 0, 1) := by decide +kernel
theorem d_M_fixed_7 : decode b_M_fixed 7 = .ok (.aload_n 0, 1) := by decide +kernel
theorem d_M_fixed_8 : decode b_M_fixed 8 = .ok (.getfield 68, 3) := by decide +kernel
theorem d_M_fixed_11 : decode b_M_fixed 11 = .ok (.iconst 1, 1) := by decide +kernel
theorem d_M_fixed_12 : decode b_M_fixed 12 = .ok (.isub, 1) := by decide +kernel
theorem d_M_fixed_13 : decode b_M_fixed 13 = .ok (.invokestatic 60, 3) := by decide +kernel
theorem d_M_fixed_16 : decode b_M_fixed 16 = .ok (.ifCond .ne 9, 3) := by decide +kernel
theorem d_M_fixed_19 : decode b_M_fixed 19 = .ok (.aload_n 0, 1) := by decide +kernel
theorem d_M_fixed_20 : decode b_M_fixed 20 = .ok (.iconst 1, 1) := by decide +kernel
theorem d_M_fixed_21 : decode b_M_fixed 21 = .ok (.invokevirtual 64, 3) := by decide +kernel
theorem d_M_fixed_24 : decode b_M_fixed 24 = .ok (.ireturn, 1) := by decide +kernel
theorem d_M_fixed_25 : decode b_M_fixed 25 = .ok (.bipush 15, 2) := by decide +kernel
theorem d_M_fixed_27 : decode b_M_fixed 27 = .ok (.istore_n 2, 1) := by decide +kernel
theorem d_M_fixed_28 : decode b_M_fixed 28 = .ok (.bipush 15, 2) := by decide +kernel
theorem d_M_fixed_30 : decode b_M_fixed 30 = .ok (.istore_n 3, 1) := by decide +kernel
theorem d_M_fixed_31 : decode b_M_fixed 31 = .ok (.aload_n 0, 1) := by decide +kernel
theorem d_M_fixed_32 : decode b_M_fixed 32 = .ok (.iconst 0, 1) := by decide +kernel
theorem d_M_fixed_33 : decode b_M_fixed 33 = .ok (.iconst 0, 1) := by decide +kernel
theorem d_M_fixed_34 : decode b_M_fixed 34 = .ok (.invokevirtual 123, 3) := by decide +kernel
theorem d_M_fixed_37 : decode b_M_fixed 37 = .ok (.istore 4, 2) := by decide +kernel
theorem d_M_fixed_39 : decode b_M_fixed 39 = .ok (.iload 4, 2) := by decide +kernel
theorem d_M_fixed_41 : decode b_M_fixed 41 = .ok (.ifCond .ge 9, 3) := by decide +kernel
theorem d_M_fixed_44 : decode b_M_fixed 44 = .ok (.aload_n 0, 1) := by decide +kernel
theorem d_M_fixed_45 : decode b_M_fixed 45 = .ok (.iconst 2, 1) := by decide +kernel
theorem d_M_fixed_46 : decode b_M_fixed 46 = .ok (.invokevirtual 64, 3) := by decide +kernel
theorem d_M_fixed_49 : decode b_M_fixed 49 = .ok (.ireturn, 1) := by decide +kernel
theorem d_M_fixed_50 : decode b_M_fixed 50 = .ok (.iload 4, 2) := by decide +kernel
theorem d_M_fixed_52 : decode b_M_fixed 52 = .ok (.istore 5, 2) := by decide +kernel
theorem d_M_fixed_54 : decode b_M_fixed 54 = .ok (.iload 5, 2) := by decide +kernel
theorem d_M_fixed_56 : decode b_M_fixed 56 = .ok (.ifCond .lt 39, 3) := by decide +kernel
theorem d_M_fixed_59 : decode b_M_fixed 59 = .ok (.iload_n 2, 1) := by decide +kernel
theorem d_M_fixed_60 : decode b_M_fixed 60 = .ok (.aload_n 0, 1) := by decide +kernel
theorem d_M_fixed_61 : decode b_M_fixed 61 = .ok (.iload 5, 2) := by decide +kernel
theorem d_M_fixed_63 : decode b_M_fixed 63 = .ok (.iload_n 1, 1) := by decide +kernel
theorem d_M_fixed_64 : decode b_M_fixed 64 = .ok (.invokevirtual 98, 3) := by decide +kernel
theorem d_M_fixed_67 : decode b_M_fixed 67 = .ok (.iand, 1) := by decide +kernel
theorem d_M_fixed_68 : decode b_M_fixed 68 = .ok (.istore_n 2, 1) := by decide +kernel
theorem d_M_fixed_69 : decode b_M_fixed 69 = .ok (.iload_n 3, 1) := by decide +kernel
theorem d_M_fixed_70 : decode b_M_fixed 70 = .ok (.iconst (-1), 1) := by decide +kernel
theorem d_M_fixed_71 : decode b_M_fixed 71 = .ok (.aload_n 0, 1) := by decide +kernel
theorem d_M_fixed_72 : decode b_M_fixed 72 = .ok (.iload 5, 2) := by decide +kernel
theorem d_M_fixed_74 : decode b_M_fixed 74 = .ok (.iload_n 1, 1) := by decide +kernel
theorem d_M_fixed_75 : decode b_M_fixed 75 = .ok (.invokevirtual 98, 3) := by decide +kernel
theorem d_M_fixed_78 : decode b_M_fixed 78 = .ok (.isub, 1) := by decide +kernel
theorem d_M_fixed_79 : decode b_M_fixed 79 = .ok (.iand, 1) := by decide +kernel
theorem d_M_fixed_80 : decode b_M_fixed 80 = .ok (.istore_n 3, 1) := by decide +kernel
theorem d_M_fixed_81 : decode b_M_fixed 81 = .ok (.aload_n 0, 1) := by decide +kernel
theorem d_M_fixed_82 : decode b_M_fixed 82 = .ok (.iload 5, 2) := by decide +kernel
theorem d_M_fixed_84 : decode b_M_fixed 84 = .ok (.iconst 1, 1) := by decide +kernel
theorem d_M_fixed_85 : decode b_M_fixed 85 = .ok (.iadd, 1) := by decide +kernel
theorem d_M_fixed_86 : decode b_M_fixed 86 = .ok (.iconst 0, 1) := by decide +kernel
theorem d_M_fixed_87 : decode b_M_fixed 87 = .ok (.invokevirtual 123, 3) := by decide +kernel
theorem d_M_fixed_90 : decode b_M_fixed 90 = .ok (.istore 5, 2) := by decide +kernel
theorem d_M_fixed_92 : decode b_M_fixed 92 = .ok (.goto (-38), 3) := by decide +kernel
theorem d_M_fixed_95 : decode b_M_fixed 95 = .ok (.iload_n 2, 1) := by decide +kernel
theorem d_M_fixed_96 : decode b_M_fixed 96 = .ok (.iload_n 3, 1) := by decide +kernel
theorem d_M_fixed_97 : decode b_M_fixed 97 = .ok (.ior, 1) := by decide +kernel
theorem d_M_fixed_98 : decode b_M_fixed 98 = .ok (.iconst 1, 1) := by decide +kernel
theorem d_M_fixed_99 : decode b_M_fixed 99 = .ok (.aload_n 0, 1) := by decide +kernel
theorem d_M_fixed_100 : decode b_M_fixed 100 = .ok (.getfield 7, 3) := by decide +kernel
theorem d_M_fixed_103 : decode b_M_fixed 103 = .ok (.iload_n 1, 1) := by decide +kernel
theorem d_M_fixed_104 : decode b_M_fixed 104 = .ok (.iaload, 1) := by decide +kernel
theorem d_M_fixed_105 : decode b_M_fixed 105 = .ok (.ishl, 1) := by decide +kernel
theorem d_M_fixed_106 : decode b_M_fixed 106 = .ok (.iconst 1, 1) := by decide +kernel
theorem d_M_fixed_107 : decode b_M_fixed 107 = .ok (.isub, 1) := by decide +kernel
theorem d_M_fixed_108 : decode b_M_fixed 108 = .ok (.iand, 1) := by decide +kernel
theorem d_M_fixed_109 : decode b_M_fixed 109 = .ok (.ireturn, 1) := by decide +kernel
theorem d_M_least_0 : decode b_M_least 0 = .ok (.aload_n 0, 1) := by decide +kernel
theorem d_M_least_1 : decode b_M_least 1 = .ok (.iconst 0, 1) := by decide +kernel
theorem d_M_least_2 : decode b_M_least 2 = .ok (.putfield 56, 3) := by decide +kernel
theorem d_M_least_5 : decode b_M_least 5 = .ok (.aload_n 0, 1) := by decide +kernel
theorem d_M_least_6 : decode b_M_least 6 = .ok (.iload_n 1, 1) := by decide +kernel
theorem d_M_least_7 : decode b_M_least 7 = .ok (.invokevirtual 80, 3) := by decide +kernel
theorem d_M_least_10 : decode b_M_least 10 = .ok (.ifCond .ne 9, 3) := by decide +kernel
theorem d_M_least_13 : decode b_M_least 13 = .ok (.aload_n 0, 1) := by decide +kernel
theorem d_M_least_14 : decode b_M_least 14 = .ok (.iconst 1, 1) := by decide +kernel
theorem d_M_least_15 : decode b_M_least 15 = .ok (.invokevirtual 64, 3) := by decide +kernel
theorem d_M_least_18 : decode b_M_least 18 = .ok (.ireturn, 1) := by decide +kernel
theorem d_M_least_19 : decode b_M_least 19 = .ok (.bipush 16, 2) := by decide +kernel
theorem d_M_least_21 : decode b_M_least 21 = .ok (.istore_n 2, 1) := by decide +kernel
theorem d_M_least_22 : decode b_M_least 22 = .ok (.aload_n 0, 1) := by decide +kernel
theorem d_M_least_23 : decode b_M_least 23 = .ok (.iconst 0, 1) := by decide +kernel
theorem d_M_least_24 : decode b_M_least 24 = .ok (.iconst 0, 1) := by decide +kernel
theorem d_M_least_25 : decode b_M_least 25 = .ok (.invokevirtual 123, 3) := by decide +kernel
theorem d_M_least_28 : decode b_M_least 28 = .ok (.istore_n 3, 1) := by decide +kernel
theorem d_M_least_29 : decode b_M_least 29 = .ok (.iload_n 3, 1) := by decide +kernel
theorem d_M_least_30 : decode b_M_least 30 = .ok (.ifCond .lt 32, 3) := by decide +kernel
theorem d_M_least_33 : decode b_M_least 33 = .ok (.aload_n 0, 1) := by decide +kernel
theorem d_M_least_34 : decode b_M_least 34 = .ok (.getfield 49, 3) := by decide +kernel
theorem d_M_least_37 : decode b_M_least 37 = .ok (.iload_n 1, 1) := by decide +kernel
theorem d_M_least_38 : decode b_M_least 38 = .ok (.iaload, 1) := by decide +kernel
theorem d_M_least_39 : decode b_M_least 39 = .ok (.iload_n 2, 1) := by decide +kernel
theorem d_M_least_40 : decode b_M_least 40 = .ok (.if_icmp .ge 10, 3) := by decide +kernel
theorem d_M_least_43 : decode b_M_least 43 = .ok (.aload_n 0, 1) := by decide +kernel
theorem d_M_least_44 : decode b_M_least 44 = .ok (.getfield 49, 3) := by decide +kernel
theorem d_M_least_47 : decode b_M_least 47 = .ok (.iload_n 1, 1) := by decide +kernel
theorem d_M_least_48 : decode b_M_least 48 = .ok (.iaload, 1) := by decide +kernel
theorem d_M_least_49 : decode b_M_least 49 = .ok (.istore_n 2, 1) := by decide +kernel
theorem d_M_least_50 : decode b_M_least 50 = .ok (.aload_n 0, 1) := by decide +kernel
theorem d_M_least_51 : decode b_M_least 51 = .ok (.iload_n 3, 1) := by decide +kernel
theorem d_M_least_52 : decode b_M_least 52 = .ok (.iconst 1, 1) := by decide +kernel
theorem d_M_least_53 : decode b_M_least 53 = .ok (.iadd, 1) := by decide +kernel
theorem d_M_least_54 : decode b_M_least 54 = .ok (.iconst 0, 1) := by decide +kernel
theorem d_M_least_55 : decode b_M_least 55 = .ok (.invokevirtual 123, 3) := by decide +kernel
theorem d_M_least_58 : decode b_M_least 58 = .ok (.istore_n 3, 1) := by decide +kernel
theorem d_M_least_59 : decode b_M_least 59 = .ok (.goto (-30), 3) := by decide +kernel
theorem d_M_least_62 : decode b_M_least 62 = .ok (.iload_n 2, 1) := by decide +kernel
theorem d_M_least_63 : decode b_M_least 63 = .ok (.bipush 16, 2) := by decide +kernel
theorem d_M_least_65 : decode b_M_least 65 = .ok (.if_icmp .ne 11, 3) := by decide +kernel
theorem d_M_least_68 : decode b_M_least 68 = .ok (.aload_n 0, 1) := by decide +kernel
theorem d_M_least_69 : decode b_M_least 69 = .ok (.iconst 2, 1) := by decide +kernel
theorem d_M_least_70 : decode b_M_least 70 = .ok (.invokevirtual 64, 3) := by decide +kernel
theorem d_M_least_73 : decode b_M_least 73 = .ok (.goto 4, 3) := by decide +kernel
theorem d_M_least_76 : decode b_M_least 76 = .ok (.iload_n 2, 1) := by decide +kernel
theorem d_M_least_77 : decode b_M_least 77 = .ok (.ireturn, 1) := by decide +kernel
theorem d_M_assume_0 : decode b_M_assume 0 = .ok (.aload_n 0, 1) := by decide +kernel
theorem d_M_assume_1 : decode b_M_assume 1 = .ok (.iconst 0, 1) := by decide +kernel
theorem d_M_assume_2 : decode b_M_assume 2 = .ok (.putfield 56, 3) := by decide +kernel
theorem d_M_assume_5 : decode b_M_assume 5 = .ok (.aload_n 0, 1) := by decide +kernel
theorem d_M_assume_6 : decode b_M_assume 6 = .ok (.iload_n 1, 1) := by decide +kernel
theorem d_M_assume_7 : decode b_M_assume 7 = .ok (.invokevirtual 88, 3) := by decide +kernel
theorem d_M_assume_10 : decode b_M_assume 10 = .ok (.ifCond .ne 9, 3) := by decide +kernel
theorem d_M_assume_13 : decode b_M_assume 13 = .ok (.aload_n 0, 1) := by decide +kernel
theorem d_M_assume_14 : decode b_M_assume 14 = .ok (.iconst 1, 1) := by decide +kernel
theorem d_M_assume_15 : decode b_M_assume 15 = .ok (.invokevirtual 64, 3) := by decide +kernel
theorem d_M_assume_18 : decode b_M_assume 18 = .ok (.ireturn, 1) := by decide +kernel
theorem d_M_assume_19 : decode b_M_assume 19 = .ok (.aload_n 0, 1) := by decide +kernel
theorem d_M_assume_20 : decode b_M_assume 20 = .ok (.getfield 114, 3) := by decide +kernel
theorem d_M_assume_23 : decode b_M_assume 23 = .ok (.bipush 8, 2) := by decide +kernel
theorem d_M_assume_25 : decode b_M_assume 25 = .ok (.if_icmp .ne 9, 3) := by decide +kernel
theorem d_M_assume_28 : decode b_M_assume 28 = .ok (.aload_n 0, 1) := by decide +kernel
theorem d_M_assume_29 : decode b_M_assume 29 = .ok (.iconst 2, 1) := by decide +kernel
theorem d_M_assume_30 : decode b_M_assume 30 = .ok (.invokevirtual 64, 3) := by decide +kernel
theorem d_M_assume_33 : decode b_M_assume 33 = .ok (.ireturn, 1) := by decide +kernel
theorem d_M_assume_34 : decode b_M_assume 34 = .ok (.aload_n 0, 1) := by decide +kernel
theorem d_M_assume_35 : decode b_M_assume 35 = .ok (.getfield 46, 3) := by decide +kernel
theorem d_M_assume_38 : decode b_M_assume 38 = .ok (.aload_n 0, 1) := by decide +kernel
theorem d_M_assume_39 : decode b_M_assume 39 = .ok (.getfield 114, 3) := by decide +kernel
theorem d_M_assume_42 : decode b_M_assume 42 = .ok (.iload_n 1, 1) := by decide +kernel
theorem d_M_assume_43 : decode b_M_assume 43 = .ok (.iastore, 1) := by decide +kernel
theorem d_M_assume_44 : decode b_M_assume 44 = .ok (.aload_n 0, 1) := by decide +kernel
theorem d_M_assume_45 : decode b_M_assume 45 = .ok (.dup, 1) := by decide +kernel
theorem d_M_assume_46 : decode b_M_assume 46 = .ok (.getfield 114, 3) := by decide +kernel
theorem d_M_assume_49 : decode b_M_assume 49 = .ok (.iconst 1, 1) := by decide +kernel
theorem d_M_assume_50 : decode b_M_assume 50 = .ok (.iadd, 1) := by decide +kernel
theorem d_M_assume_51 : decode b_M_assume 51 = .ok (.putfield 114, 3) := by decide +kernel
theorem d_M_assume_54 : decode b_M_assume 54 = .ok (.aload_n 0, 1) := by decide +kernel
theorem d_M_assume_55 : decode b_M_assume 55 = .ok (.getfield 114, 3) := by decide +kernel
theorem d_M_assume_58 : decode b_M_assume 58 = .ok (.ireturn, 1) := by decide +kernel
theorem d_M_clear_0 : decode b_M_clear 0 = .ok (.aload_n 0, 1) := by decide +kernel
theorem d_M_clear_1 : decode b_M_clear 1 = .ok (.iconst 0, 1) := by decide +kernel
theorem d_M_clear_2 : decode b_M_clear 2 = .ok (.putfield 56, 3) := by decide +kernel
theorem d_M_clear_5 : decode b_M_clear 5 = .ok (.aload_n 0, 1) := by decide +kernel
theorem d_M_clear_6 : decode b_M_clear 6 = .ok (.getfield 114, 3) := by decide +kernel
theorem d_M_clear_9 : decode b_M_clear 9 = .ok (.istore_n 1, 1) := by decide +kernel
theorem d_M_clear_10 : decode b_M_clear 10 = .ok (.aload_n 0, 1) := by decide +kernel
theorem d_M_clear_11 : decode b_M_clear 11 = .ok (.iconst 0, 1) := by decide +kernel
theorem d_M_clear_12 : decode b_M_clear 12 = .ok (.putfield 114, 3) := by decide +kernel
theorem d_M_clear_15 : decode b_M_clear 15 = .ok (.iload_n 1, 1) := by decide +kernel
theorem d_M_clear_16 : decode b_M_clear 16 = .ok (.ireturn, 1) := by decide +kernel
theorem d_M_attempt_0 : decode b_M_attempt 0 = .ok (.aload_n 0, 1) := by decide +kernel
theorem d_M_attempt_1 : decode b_M_attempt 1 = .ok (.iconst 0, 1) := by decide +kernel
theorem d_M_attempt_2 : decode b_M_attempt 2 = .ok (.putfield 56, 3) := by decide +kernel
theorem d_M_attempt_5 : decode b_M_attempt 5 = .ok (.aload_n 0, 1) := by decide +kernel
theorem d_M_attempt_6 : decode b_M_attempt 6 = .ok (.iconst 0, 1) := by decide +kernel
theorem d_M_attempt_7 : decode b_M_attempt 7 = .ok (.sipush 255, 3) := by decide +kernel
theorem d_M_attempt_10 : decode b_M_attempt 10 = .ok (.invokevirtual 123, 3) := by decide +kernel
theorem d_M_attempt_13 : decode b_M_attempt 13 = .ok (.ifCond .lt 7, 3) := by decide +kernel
theorem d_M_attempt_16 : decode b_M_attempt 16 = .ok (.iconst 1, 1) := by decide +kernel
theorem d_M_attempt_17 : decode b_M_attempt 17 = .ok (.goto 4, 3) := by decide +kernel
theorem d_M_attempt_20 : decode b_M_attempt 20 = .ok (.iconst 0, 1) := by decide +kernel
theorem d_M_attempt_21 : decode b_M_attempt 21 = .ok (.ireturn, 1) := by decide +kernel
theorem d_M_blame_0 : decode b_M_blame 0 = .ok (.aload_n 0, 1) := by decide +kernel
theorem d_M_blame_1 : decode b_M_blame 1 = .ok (.iconst 0, 1) := by decide +kernel
theorem d_M_blame_2 : decode b_M_blame 2 = .ok (.putfield 56, 3) := by decide +kernel
theorem d_M_blame_5 : decode b_M_blame 5 = .ok (.aload_n 0, 1) := by decide +kernel
theorem d_M_blame_6 : decode b_M_blame 6 = .ok (.iconst 0, 1) := by decide +kernel
theorem d_M_blame_7 : decode b_M_blame 7 = .ok (.sipush 255, 3) := by decide +kernel
theorem d_M_blame_10 : decode b_M_blame 10 = .ok (.invokevirtual 123, 3) := by decide +kernel
theorem d_M_blame_13 : decode b_M_blame 13 = .ok (.ifCond .lt 9, 3) := by decide +kernel
theorem d_M_blame_16 : decode b_M_blame 16 = .ok (.aload_n 0, 1) := by decide +kernel
theorem d_M_blame_17 : decode b_M_blame 17 = .ok (.iconst 1, 1) := by decide +kernel
theorem d_M_blame_18 : decode b_M_blame 18 = .ok (.invokevirtual 64, 3) := by decide +kernel
theorem d_M_blame_21 : decode b_M_blame 21 = .ok (.ireturn, 1) := by decide +kernel
theorem d_M_blame_22 : decode b_M_blame 22 = .ok (.iconst 1, 1) := by decide +kernel
theorem d_M_blame_23 : decode b_M_blame 23 = .ok (.aload_n 0, 1) := by decide +kernel
theorem d_M_blame_24 : decode b_M_blame 24 = .ok (.getfield 114, 3) := by decide +kernel
theorem d_M_blame_27 : decode b_M_blame 27 = .ok (.ishl, 1) := by decide +kernel
theorem d_M_blame_28 : decode b_M_blame 28 = .ok (.iconst 1, 1) := by decide +kernel
theorem d_M_blame_29 : decode b_M_blame 29 = .ok (.isub, 1) := by decide +kernel
theorem d_M_blame_30 : decode b_M_blame 30 = .ok (.istore_n 1, 1) := by decide +kernel
theorem d_M_blame_31 : decode b_M_blame 31 = .ok (.iconst 0, 1) := by decide +kernel
theorem d_M_blame_32 : decode b_M_blame 32 = .ok (.istore_n 2, 1) := by decide +kernel
theorem d_M_blame_33 : decode b_M_blame 33 = .ok (.iload_n 2, 1) := by decide +kernel
theorem d_M_blame_34 : decode b_M_blame 34 = .ok (.aload_n 0, 1) := by decide +kernel
theorem d_M_blame_35 : decode b_M_blame 35 = .ok (.getfield 114, 3) := by decide +kernel
theorem d_M_blame_38 : decode b_M_blame 38 = .ok (.if_icmp .ge 32, 3) := by decide +kernel
theorem d_M_blame_41 : decode b_M_blame 41 = .ok (.aload_n 0, 1) := by decide +kernel
theorem d_M_blame_42 : decode b_M_blame 42 = .ok (.iconst 0, 1) := by decide +kernel
theorem d_M_blame_43 : decode b_M_blame 43 = .ok (.iload_n 1, 1) := by decide +kernel
theorem d_M_blame_44 : decode b_M_blame 44 = .ok (.iconst 1, 1) := by decide +kernel
theorem d_M_blame_45 : decode b_M_blame 45 = .ok (.iload_n 2, 1) := by decide +kernel
theorem d_M_blame_46 : decode b_M_blame 46 = .ok (.ishl, 1) := by decide +kernel
theorem d_M_blame_47 : decode b_M_blame 47 = .ok (.iconst (-1), 1) := by decide +kernel
theorem d_M_blame_48 : decode b_M_blame 48 = .ok (.ixor, 1) := by decide +kernel
theorem d_M_blame_49 : decode b_M_blame 49 = .ok (.iand, 1) := by decide +kernel
theorem d_M_blame_50 : decode b_M_blame 50 = .ok (.invokevirtual 123, 3) := by decide +kernel
theorem d_M_blame_53 : decode b_M_blame 53 = .ok (.ifCond .ge 11, 3) := by decide +kernel
theorem d_M_blame_56 : decode b_M_blame 56 = .ok (.iload_n 1, 1) := by decide +kernel
theorem d_M_blame_57 : decode b_M_blame 57 = .ok (.iconst 1, 1) := by decide +kernel
theorem d_M_blame_58 : decode b_M_blame 58 = .ok (.iload_n 2, 1) := by decide +kernel
theorem d_M_blame_59 : decode b_M_blame 59 = .ok (.ishl, 1) := by decide +kernel
theorem d_M_blame_60 : decode b_M_blame 60 = .ok (.iconst (-1), 1) := by decide +kernel
theorem d_M_blame_61 : decode b_M_blame 61 = .ok (.ixor, 1) := by decide +kernel
theorem d_M_blame_62 : decode b_M_blame 62 = .ok (.iand, 1) := by decide +kernel
theorem d_M_blame_63 : decode b_M_blame 63 = .ok (.istore_n 1, 1) := by decide +kernel
theorem d_M_blame_64 : decode b_M_blame 64 = .ok (.iinc 2 1, 3) := by decide +kernel
theorem d_M_blame_67 : decode b_M_blame 67 = .ok (.goto (-34), 3) := by decide +kernel
theorem d_M_blame_70 : decode b_M_blame 70 = .ok (.iload_n 1, 1) := by decide +kernel
theorem d_M_blame_71 : decode b_M_blame 71 = .ok (.ireturn, 1) := by decide +kernel
theorem d_M_count_0 : decode b_M_count 0 = .ok (.aload_n 0, 1) := by decide +kernel
theorem d_M_count_1 : decode b_M_count 1 = .ok (.iconst 0, 1) := by decide +kernel
theorem d_M_count_2 : decode b_M_count 2 = .ok (.putfield 56, 3) := by decide +kernel
theorem d_M_count_5 : decode b_M_count 5 = .ok (.iload_n 1, 1) := by decide +kernel
theorem d_M_count_6 : decode b_M_count 6 = .ok (.tableswitch 77 0 6 #[42, 47, 52, 57, 62, 67, 72], 42) := by decide +kernel
theorem d_M_count_48 : decode b_M_count 48 = .ok (.aload_n 0, 1) := by decide +kernel
theorem d_M_count_49 : decode b_M_count 49 = .ok (.getfield 68, 3) := by decide +kernel
theorem d_M_count_52 : decode b_M_count 52 = .ok (.ireturn, 1) := by decide +kernel
theorem d_M_count_53 : decode b_M_count 53 = .ok (.aload_n 0, 1) := by decide +kernel
theorem d_M_count_54 : decode b_M_count 54 = .ok (.getfield 74, 3) := by decide +kernel
theorem d_M_count_57 : decode b_M_count 57 = .ok (.ireturn, 1) := by decide +kernel
theorem d_M_count_58 : decode b_M_count 58 = .ok (.aload_n 0, 1) := by decide +kernel
theorem d_M_count_59 : decode b_M_count 59 = .ok (.getfield 77, 3) := by decide +kernel
theorem d_M_count_62 : decode b_M_count 62 = .ok (.ireturn, 1) := by decide +kernel
theorem d_M_count_63 : decode b_M_count 63 = .ok (.aload_n 0, 1) := by decide +kernel
theorem d_M_count_64 : decode b_M_count 64 = .ok (.getfield 111, 3) := by decide +kernel
theorem d_M_count_67 : decode b_M_count 67 = .ok (.ireturn, 1) := by decide +kernel
theorem d_M_count_68 : decode b_M_count 68 = .ok (.aload_n 0, 1) := by decide +kernel
theorem d_M_count_69 : decode b_M_count 69 = .ok (.getfield 120, 3) := by decide +kernel
theorem d_M_count_72 : decode b_M_count 72 = .ok (.ireturn, 1) := by decide +kernel
theorem d_M_count_73 : decode b_M_count 73 = .ok (.aload_n 0, 1) := by decide +kernel
theorem d_M_count_74 : decode b_M_count 74 = .ok (.getfield 114, 3) := by decide +kernel
theorem d_M_count_77 : decode b_M_count 77 = .ok (.ireturn, 1) := by decide +kernel
theorem d_M_count_78 : decode b_M_count 78 = .ok (.aload_n 0, 1) := by decide +kernel
theorem d_M_count_79 : decode b_M_count 79 = .ok (.getfield 71, 3) := by decide +kernel
theorem d_M_count_82 : decode b_M_count 82 = .ok (.ireturn, 1) := by decide +kernel
theorem d_M_count_83 : decode b_M_count 83 = .ok (.aload_n 0, 1) := by decide +kernel
theorem d_M_count_84 : decode b_M_count 84 = .ok (.iconst 1, 1) := by decide +kernel
theorem d_M_count_85 : decode b_M_count 85 = .ok (.invokevirtual 64, 3) := by decide +kernel
theorem d_M_count_88 : decode b_M_count 88 = .ok (.ireturn, 1) := by decide +kernel
