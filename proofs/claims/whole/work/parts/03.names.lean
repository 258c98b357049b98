/-! names: classes, fields, methods, rooms, the one list of words -/
def R_B : String := "BitSolver"
def F_B : u_T := fun k => match k with
  | 0 => ("BitSolver", "sets", "LBitSolver$Sets;", true)
  | 1 => ("BitSolver", "circuits", "LBitSolver$Circuits;", true)
  | 2 => ("BitSolver", "variableWidths", "[I", true)
  | 3 => ("BitSolver", "variablePlaces", "[I", true)
  | 4 => ("BitSolver", "variableCount", "I", false)
  | 5 => ("BitSolver", "bitCount", "I", false)
  | 6 => ("BitSolver", "termWidths", "[I", true)
  | 7 => ("BitSolver", "termCount", "I", false)
  | 8 => ("BitSolver", "formulaCount", "I", false)
  | 9 => ("BitSolver", "assertedBefore", "[I", true)
  | 10 => ("BitSolver", "assertedCount", "I", false)
  | 11 => ("BitSolver", "level", "I", false)
  | 12 => ("BitSolver", "assumptions", "[I", true)
  | _ => ("BitSolver", "assumptionCount", "I", false)
def t_B : Nat → FieldType := fun k => match k with
  | 0 => .object "BitSolver$Sets"
  | 1 => .object "BitSolver$Circuits"
  | 2 => .array .int
  | 3 => .array .int
  | 4 => .int
  | 5 => .int
  | 6 => .array .int
  | 7 => .int
  | 8 => .int
  | 9 => .array .int
  | 10 => .int
  | 11 => .int
  | 12 => .array .int
  | _ => .int
theorem nm_B : ∀ a, a < 14 → ∀ b, b < 14 → a ≠ b → (F_B a).2.1 ≠ (F_B b).2.1 := by decide +kernel
theorem tok_B : ∀ k, k < 14 → parseFieldDescriptor (F_B k).2.2.1 = some (t_B k) := by decide +kernel
def R_S : String := "BitSolver$Sets"
def F_S : u_T := fun k => match k with
  | _ => ("BitSolver$Sets", "words", "[J", true)
def t_S : Nat → FieldType := fun k => match k with
  | _ => .array .long
theorem nm_S : ∀ a, a < 1 → ∀ b, b < 1 → a ≠ b → (F_S a).2.1 ≠ (F_S b).2.1 := by decide +kernel
theorem tok_S : ∀ k, k < 1 → parseFieldDescriptor (F_S k).2.2.1 = some (t_S k) := by decide +kernel
def R_C : String := "BitSolver$Circuits"
def F_C : u_T := fun k => match k with
  | _ => ("BitSolver$Circuits", "sets", "LBitSolver$Sets;", true)
def t_C : Nat → FieldType := fun k => match k with
  | _ => .object "BitSolver$Sets"
theorem nm_C : ∀ a, a < 1 → ∀ b, b < 1 → a ≠ b → (F_C a).2.1 ≠ (F_C b).2.1 := by decide +kernel
theorem tok_C : ∀ k, k < 1 → parseFieldDescriptor (F_C k).2.2.1 = some (t_C k) := by decide +kernel
def R_M : String := "BitSolverModel"
def F_M : u_T := fun k => match k with
  | 0 => ("BitSolverModel", "thrown", "I", false)
  | 1 => ("BitSolverModel", "widths", "[I", true)
  | 2 => ("BitSolverModel", "variables", "I", false)
  | 3 => ("BitSolverModel", "bits", "I", false)
  | 4 => ("BitSolverModel", "tKind", "[I", true)
  | 5 => ("BitSolverModel", "tA", "[I", true)
  | 6 => ("BitSolverModel", "tB", "[I", true)
  | 7 => ("BitSolverModel", "tC", "[I", true)
  | 8 => ("BitSolverModel", "tWidth", "[I", true)
  | 9 => ("BitSolverModel", "terms", "I", false)
  | 10 => ("BitSolverModel", "fKind", "[I", true)
  | 11 => ("BitSolverModel", "fA", "[I", true)
  | 12 => ("BitSolverModel", "fB", "[I", true)
  | 13 => ("BitSolverModel", "formulas", "I", false)
  | 14 => ("BitSolverModel", "order", "[I", true)
  | 15 => ("BitSolverModel", "asserted", "[I", true)
  | 16 => ("BitSolverModel", "assertedAt", "[I", true)
  | 17 => ("BitSolverModel", "assertions", "I", false)
  | 18 => ("BitSolverModel", "level", "I", false)
  | 19 => ("BitSolverModel", "assumed", "[I", true)
  | 20 => ("BitSolverModel", "assumptions", "I", false)
  | 21 => ("BitSolverModel", "value", "[I", true)
  | _ => ("BitSolverModel", "holds", "[Z", true)
def t_M : Nat → FieldType := fun k => match k with
  | 0 => .int
  | 1 => .array .int
  | 2 => .int
  | 3 => .int
  | 4 => .array .int
  | 5 => .array .int
  | 6 => .array .int
  | 7 => .array .int
  | 8 => .array .int
  | 9 => .int
  | 10 => .array .int
  | 11 => .array .int
  | 12 => .array .int
  | 13 => .int
  | 14 => .array .int
  | 15 => .array .int
  | 16 => .array .int
  | 17 => .int
  | 18 => .int
  | 19 => .array .int
  | 20 => .int
  | 21 => .array .int
  | _ => .array .boolean
theorem nm_M : ∀ a, a < 23 → ∀ b, b < 23 → a ≠ b → (F_M a).2.1 ≠ (F_M b).2.1 := by decide +kernel
theorem tok_M : ∀ k, k < 23 → parseFieldDescriptor (F_M k).2.2.1 = some (t_M k) := by decide +kernel
def R_L : String := "BitSolverLaw"
abbrev cls : List vw_C := [(R_B, F_B, 14), (R_S, F_S, 1), (R_C, F_C, 1), (R_M, F_M, 23)]
abbrev b_B_init : ByteArray := prog_1_method_1_code
def y_B_init : MethodName := ⟨R_B, "<init>", "()V"⟩
theorem hd_B_init : y_B_init.cls ≠ "java/lang/invoke/MethodHandle" ∧ y_B_init.cls ≠ "java/lang/invoke/VarHandle" ∧ (parseMethodDescriptor y_B_init.desc).map (fun d => d.parameters.length) = some 0 := by decide +kernel
abbrev rm_B_init : Room := { frames := 3, cells := 0, slots := 0, locals := 65 }
abbrev b_B_variable : ByteArray := prog_1_method_2_code
def y_B_variable : MethodName := ⟨R_B, "variable", "(I)I"⟩
theorem hd_B_variable : y_B_variable.cls ≠ "java/lang/invoke/MethodHandle" ∧ y_B_variable.cls ≠ "java/lang/invoke/VarHandle" ∧ (parseMethodDescriptor y_B_variable.desc).map (fun d => d.parameters.length) = some 1 := by decide +kernel
abbrev rm_B_variable : Room := { frames := 1, cells := 0, slots := 0, locals := 20 }
abbrev b_B_term : ByteArray := prog_1_method_3_code
def y_B_term : MethodName := ⟨R_B, "term", "(IIII)I"⟩
theorem hd_B_term : y_B_term.cls ≠ "java/lang/invoke/MethodHandle" ∧ y_B_term.cls ≠ "java/lang/invoke/VarHandle" ∧ (parseMethodDescriptor y_B_term.desc).map (fun d => d.parameters.length) = some 4 := by decide +kernel
abbrev rm_B_term : Room := { frames := 4, cells := 0, slots := 0, locals := 99 }
abbrev b_B_formula : ByteArray := prog_1_method_4_code
def y_B_formula : MethodName := ⟨R_B, "formula", "(III)I"⟩
theorem hd_B_formula : y_B_formula.cls ≠ "java/lang/invoke/MethodHandle" ∧ y_B_formula.cls ≠ "java/lang/invoke/VarHandle" ∧ (parseMethodDescriptor y_B_formula.desc).map (fun d => d.parameters.length) = some 3 := by decide +kernel
abbrev rm_B_formula : Room := { frames := 4, cells := 0, slots := 0, locals := 104 }
abbrev b_B_assertion : ByteArray := prog_1_method_5_code
def y_B_assertion : MethodName := ⟨R_B, "assertion", "(I)I"⟩
theorem hd_B_assertion : y_B_assertion.cls ≠ "java/lang/invoke/MethodHandle" ∧ y_B_assertion.cls ≠ "java/lang/invoke/VarHandle" ∧ (parseMethodDescriptor y_B_assertion.desc).map (fun d => d.parameters.length) = some 1 := by decide +kernel
abbrev rm_B_assertion : Room := { frames := 1, cells := 0, slots := 0, locals := 25 }
abbrev b_B_push : ByteArray := prog_1_method_6_code
def y_B_push : MethodName := ⟨R_B, "push", "()I"⟩
theorem hd_B_push : y_B_push.cls ≠ "java/lang/invoke/MethodHandle" ∧ y_B_push.cls ≠ "java/lang/invoke/VarHandle" ∧ (parseMethodDescriptor y_B_push.desc).map (fun d => d.parameters.length) = some 0 := by decide +kernel
abbrev rm_B_push : Room := { frames := 1, cells := 0, slots := 0, locals := 24 }
abbrev b_B_pop : ByteArray := prog_1_method_7_code
def y_B_pop : MethodName := ⟨R_B, "pop", "()I"⟩
theorem hd_B_pop : y_B_pop.cls ≠ "java/lang/invoke/MethodHandle" ∧ y_B_pop.cls ≠ "java/lang/invoke/VarHandle" ∧ (parseMethodDescriptor y_B_pop.desc).map (fun d => d.parameters.length) = some 0 := by decide +kernel
abbrev rm_B_pop : Room := { frames := 0, cells := 0, slots := 0, locals := 0 }
abbrev b_B_check : ByteArray := prog_1_method_8_code
def y_B_check : MethodName := ⟨R_B, "check", "()I"⟩
theorem hd_B_check : y_B_check.cls ≠ "java/lang/invoke/MethodHandle" ∧ y_B_check.cls ≠ "java/lang/invoke/VarHandle" ∧ (parseMethodDescriptor y_B_check.desc).map (fun d => d.parameters.length) = some 0 := by decide +kernel
abbrev rm_B_check : Room := { frames := 3, cells := 0, slots := 0, locals := 64 }
abbrev b_B_value : ByteArray := prog_1_method_9_code
def y_B_value : MethodName := ⟨R_B, "value", "(I)I"⟩
theorem hd_B_value : y_B_value.cls ≠ "java/lang/invoke/MethodHandle" ∧ y_B_value.cls ≠ "java/lang/invoke/VarHandle" ∧ (parseMethodDescriptor y_B_value.desc).map (fun d => d.parameters.length) = some 1 := by decide +kernel
abbrev rm_B_value : Room := { frames := 3, cells := 0, slots := 0, locals := 64 }
abbrev b_B_valueOf : ByteArray := prog_1_method_10_code
def y_B_valueOf : MethodName := ⟨R_B, "valueOf", "(I)I"⟩
theorem hd_B_valueOf : y_B_valueOf.cls ≠ "java/lang/invoke/MethodHandle" ∧ y_B_valueOf.cls ≠ "java/lang/invoke/VarHandle" ∧ (parseMethodDescriptor y_B_valueOf.desc).map (fun d => d.parameters.length) = some 1 := by decide +kernel
abbrev rm_B_valueOf : Room := { frames := 3, cells := 0, slots := 0, locals := 64 }
abbrev b_B_entailed : ByteArray := prog_1_method_11_code
def y_B_entailed : MethodName := ⟨R_B, "entailed", "(I)I"⟩
theorem hd_B_entailed : y_B_entailed.cls ≠ "java/lang/invoke/MethodHandle" ∧ y_B_entailed.cls ≠ "java/lang/invoke/VarHandle" ∧ (parseMethodDescriptor y_B_entailed.desc).map (fun d => d.parameters.length) = some 1 := by decide +kernel
abbrev rm_B_entailed : Room := { frames := 3, cells := 0, slots := 0, locals := 64 }
abbrev b_B_fixed : ByteArray := prog_1_method_12_code
def y_B_fixed : MethodName := ⟨R_B, "fixed", "(I)I"⟩
theorem hd_B_fixed : y_B_fixed.cls ≠ "java/lang/invoke/MethodHandle" ∧ y_B_fixed.cls ≠ "java/lang/invoke/VarHandle" ∧ (parseMethodDescriptor y_B_fixed.desc).map (fun d => d.parameters.length) = some 1 := by decide +kernel
abbrev rm_B_fixed : Room := { frames := 3, cells := 0, slots := 0, locals := 64 }
abbrev b_B_least : ByteArray := prog_1_method_13_code
def y_B_least : MethodName := ⟨R_B, "least", "(I)I"⟩
theorem hd_B_least : y_B_least.cls ≠ "java/lang/invoke/MethodHandle" ∧ y_B_least.cls ≠ "java/lang/invoke/VarHandle" ∧ (parseMethodDescriptor y_B_least.desc).map (fun d => d.parameters.length) = some 1 := by decide +kernel
abbrev rm_B_least : Room := { frames := 3, cells := 0, slots := 0, locals := 64 }
abbrev b_B_assume : ByteArray := prog_1_method_14_code
def y_B_assume : MethodName := ⟨R_B, "assume", "(I)I"⟩
theorem hd_B_assume : y_B_assume.cls ≠ "java/lang/invoke/MethodHandle" ∧ y_B_assume.cls ≠ "java/lang/invoke/VarHandle" ∧ (parseMethodDescriptor y_B_assume.desc).map (fun d => d.parameters.length) = some 1 := by decide +kernel
abbrev rm_B_assume : Room := { frames := 1, cells := 0, slots := 0, locals := 21 }
abbrev b_B_clear : ByteArray := prog_1_method_15_code
def y_B_clear : MethodName := ⟨R_B, "clear", "()I"⟩
theorem hd_B_clear : y_B_clear.cls ≠ "java/lang/invoke/MethodHandle" ∧ y_B_clear.cls ≠ "java/lang/invoke/VarHandle" ∧ (parseMethodDescriptor y_B_clear.desc).map (fun d => d.parameters.length) = some 0 := by decide +kernel
abbrev rm_B_clear : Room := { frames := 0, cells := 0, slots := 0, locals := 0 }
abbrev b_B_attempt : ByteArray := prog_1_method_16_code
def y_B_attempt : MethodName := ⟨R_B, "attempt", "()I"⟩
theorem hd_B_attempt : y_B_attempt.cls ≠ "java/lang/invoke/MethodHandle" ∧ y_B_attempt.cls ≠ "java/lang/invoke/VarHandle" ∧ (parseMethodDescriptor y_B_attempt.desc).map (fun d => d.parameters.length) = some 0 := by decide +kernel
abbrev rm_B_attempt : Room := { frames := 3, cells := 0, slots := 0, locals := 66 }
abbrev b_B_blame : ByteArray := prog_1_method_17_code
def y_B_blame : MethodName := ⟨R_B, "blame", "()I"⟩
theorem hd_B_blame : y_B_blame.cls ≠ "java/lang/invoke/MethodHandle" ∧ y_B_blame.cls ≠ "java/lang/invoke/VarHandle" ∧ (parseMethodDescriptor y_B_blame.desc).map (fun d => d.parameters.length) = some 0 := by decide +kernel
abbrev rm_B_blame : Room := { frames := 3, cells := 0, slots := 0, locals := 66 }
abbrev b_B_count : ByteArray := prog_1_method_18_code
def y_B_count : MethodName := ⟨R_B, "count", "(I)I"⟩
theorem hd_B_count : y_B_count.cls ≠ "java/lang/invoke/MethodHandle" ∧ y_B_count.cls ≠ "java/lang/invoke/VarHandle" ∧ (parseMethodDescriptor y_B_count.desc).map (fun d => d.parameters.length) = some 1 := by decide +kernel
abbrev rm_B_count : Room := { frames := 0, cells := 0, slots := 0, locals := 0 }
abbrev b_B_isWidth : ByteArray := prog_1_method_19_code
def y_B_isWidth : MethodName := ⟨R_B, "isWidth", "(I)Z"⟩
theorem hd_B_isWidth : y_B_isWidth.cls ≠ "java/lang/invoke/MethodHandle" ∧ y_B_isWidth.cls ≠ "java/lang/invoke/VarHandle" ∧ (parseMethodDescriptor y_B_isWidth.desc).map (fun d => d.parameters.length) = some 1 := by decide +kernel
abbrev rm_B_isWidth : Room := { frames := 0, cells := 0, slots := 0, locals := 0 }
abbrev b_B_hasVariable : ByteArray := prog_1_method_20_code
def y_B_hasVariable : MethodName := ⟨R_B, "hasVariable", "(I)Z"⟩
theorem hd_B_hasVariable : y_B_hasVariable.cls ≠ "java/lang/invoke/MethodHandle" ∧ y_B_hasVariable.cls ≠ "java/lang/invoke/VarHandle" ∧ (parseMethodDescriptor y_B_hasVariable.desc).map (fun d => d.parameters.length) = some 1 := by decide +kernel
abbrev rm_B_hasVariable : Room := { frames := 0, cells := 0, slots := 0, locals := 0 }
abbrev b_B_hasTerm : ByteArray := prog_1_method_21_code
def y_B_hasTerm : MethodName := ⟨R_B, "hasTerm", "(I)Z"⟩
theorem hd_B_hasTerm : y_B_hasTerm.cls ≠ "java/lang/invoke/MethodHandle" ∧ y_B_hasTerm.cls ≠ "java/lang/invoke/VarHandle" ∧ (parseMethodDescriptor y_B_hasTerm.desc).map (fun d => d.parameters.length) = some 1 := by decide +kernel
abbrev rm_B_hasTerm : Room := { frames := 0, cells := 0, slots := 0, locals := 0 }
abbrev b_B_hasFormula : ByteArray := prog_1_method_22_code
def y_B_hasFormula : MethodName := ⟨R_B, "hasFormula", "(I)Z"⟩
theorem hd_B_hasFormula : y_B_hasFormula.cls ≠ "java/lang/invoke/MethodHandle" ∧ y_B_hasFormula.cls ≠ "java/lang/invoke/VarHandle" ∧ (parseMethodDescriptor y_B_hasFormula.desc).map (fun d => d.parameters.length) = some 1 := by decide +kernel
abbrev rm_B_hasFormula : Room := { frames := 0, cells := 0, slots := 0, locals := 0 }
abbrev b_B_hasModel : ByteArray := prog_1_method_23_code
def y_B_hasModel : MethodName := ⟨R_B, "hasModel", "()Z"⟩
theorem hd_B_hasModel : y_B_hasModel.cls ≠ "java/lang/invoke/MethodHandle" ∧ y_B_hasModel.cls ≠ "java/lang/invoke/VarHandle" ∧ (parseMethodDescriptor y_B_hasModel.desc).map (fun d => d.parameters.length) = some 0 := by decide +kernel
abbrev rm_B_hasModel : Room := { frames := 2, cells := 0, slots := 0, locals := 44 }
abbrev b_B_modelRow : ByteArray := prog_1_method_24_code
def y_B_modelRow : MethodName := ⟨R_B, "modelRow", "()I"⟩
theorem hd_B_modelRow : y_B_modelRow.cls ≠ "java/lang/invoke/MethodHandle" ∧ y_B_modelRow.cls ≠ "java/lang/invoke/VarHandle" ∧ (parseMethodDescriptor y_B_modelRow.desc).map (fun d => d.parameters.length) = some 0 := by decide +kernel
abbrev rm_B_modelRow : Room := { frames := 0, cells := 0, slots := 0, locals := 0 }
abbrev b_B_termRow : ByteArray := prog_1_method_25_code
def y_B_termRow : MethodName := ⟨R_B, "termRow", "(I)I"⟩
theorem hd_B_termRow : y_B_termRow.cls ≠ "java/lang/invoke/MethodHandle" ∧ y_B_termRow.cls ≠ "java/lang/invoke/VarHandle" ∧ (parseMethodDescriptor y_B_termRow.desc).map (fun d => d.parameters.length) = some 1 := by decide +kernel
abbrev rm_B_termRow : Room := { frames := 0, cells := 0, slots := 0, locals := 0 }
abbrev b_B_allAssumptions : ByteArray := prog_1_method_26_code
def y_B_allAssumptions : MethodName := ⟨R_B, "allAssumptions", "()I"⟩
theorem hd_B_allAssumptions : y_B_allAssumptions.cls ≠ "java/lang/invoke/MethodHandle" ∧ y_B_allAssumptions.cls ≠ "java/lang/invoke/VarHandle" ∧ (parseMethodDescriptor y_B_allAssumptions.desc).map (fun d => d.parameters.length) = some 0 := by decide +kernel
abbrev rm_B_allAssumptions : Room := { frames := 0, cells := 0, slots := 0, locals := 0 }
abbrev b_B_canAssume : ByteArray := prog_1_method_27_code
def y_B_canAssume : MethodName := ⟨R_B, "canAssume", "(I)Z"⟩
theorem hd_B_canAssume : y_B_canAssume.cls ≠ "java/lang/invoke/MethodHandle" ∧ y_B_canAssume.cls ≠ "java/lang/invoke/VarHandle" ∧ (parseMethodDescriptor y_B_canAssume.desc).map (fun d => d.parameters.length) = some 1 := by decide +kernel
abbrev rm_B_canAssume : Room := { frames := 2, cells := 0, slots := 0, locals := 44 }
abbrev b_B_widthToBuild : ByteArray := prog_1_method_28_code
def y_B_widthToBuild : MethodName := ⟨R_B, "widthToBuild", "(IIII)I"⟩
theorem hd_B_widthToBuild : y_B_widthToBuild.cls ≠ "java/lang/invoke/MethodHandle" ∧ y_B_widthToBuild.cls ≠ "java/lang/invoke/VarHandle" ∧ (parseMethodDescriptor y_B_widthToBuild.desc).map (fun d => d.parameters.length) = some 4 := by decide +kernel
abbrev rm_B_widthToBuild : Room := { frames := 3, cells := 0, slots := 0, locals := 64 }
abbrev b_B_widthOrNone : ByteArray := prog_1_method_29_code
def y_B_widthOrNone : MethodName := ⟨R_B, "widthOrNone", "(I)I"⟩
theorem hd_B_widthOrNone : y_B_widthOrNone.cls ≠ "java/lang/invoke/MethodHandle" ∧ y_B_widthOrNone.cls ≠ "java/lang/invoke/VarHandle" ∧ (parseMethodDescriptor y_B_widthOrNone.desc).map (fun d => d.parameters.length) = some 1 := by decide +kernel
abbrev rm_B_widthOrNone : Room := { frames := 1, cells := 0, slots := 0, locals := 21 }
abbrev b_B_commonWidth : ByteArray := prog_1_method_30_code
def y_B_commonWidth : MethodName := ⟨R_B, "commonWidth", "(II)I"⟩
theorem hd_B_commonWidth : y_B_commonWidth.cls ≠ "java/lang/invoke/MethodHandle" ∧ y_B_commonWidth.cls ≠ "java/lang/invoke/VarHandle" ∧ (parseMethodDescriptor y_B_commonWidth.desc).map (fun d => d.parameters.length) = some 2 := by decide +kernel
abbrev rm_B_commonWidth : Room := { frames := 2, cells := 0, slots := 0, locals := 42 }
abbrev b_B_joinedWidth : ByteArray := prog_1_method_31_code
def y_B_joinedWidth : MethodName := ⟨R_B, "joinedWidth", "(II)I"⟩
theorem hd_B_joinedWidth : y_B_joinedWidth.cls ≠ "java/lang/invoke/MethodHandle" ∧ y_B_joinedWidth.cls ≠ "java/lang/invoke/VarHandle" ∧ (parseMethodDescriptor y_B_joinedWidth.desc).map (fun d => d.parameters.length) = some 2 := by decide +kernel
abbrev rm_B_joinedWidth : Room := { frames := 1, cells := 0, slots := 0, locals := 21 }
abbrev b_B_buildNumeric : ByteArray := prog_1_method_32_code
def y_B_buildNumeric : MethodName := ⟨R_B, "buildNumeric", "(III)V"⟩
theorem hd_B_buildNumeric : y_B_buildNumeric.cls ≠ "java/lang/invoke/MethodHandle" ∧ y_B_buildNumeric.cls ≠ "java/lang/invoke/VarHandle" ∧ (parseMethodDescriptor y_B_buildNumeric.desc).map (fun d => d.parameters.length) = some 3 := by decide +kernel
abbrev rm_B_buildNumeric : Room := { frames := 3, cells := 0, slots := 0, locals := 74 }
abbrev b_B_buildNumber : ByteArray := prog_1_method_33_code
def y_B_buildNumber : MethodName := ⟨R_B, "buildNumber", "(III)V"⟩
theorem hd_B_buildNumber : y_B_buildNumber.cls ≠ "java/lang/invoke/MethodHandle" ∧ y_B_buildNumber.cls ≠ "java/lang/invoke/VarHandle" ∧ (parseMethodDescriptor y_B_buildNumber.desc).map (fun d => d.parameters.length) = some 3 := by decide +kernel
abbrev rm_B_buildNumber : Room := { frames := 1, cells := 0, slots := 0, locals := 24 }
abbrev b_B_buildVariable : ByteArray := prog_1_method_34_code
def y_B_buildVariable : MethodName := ⟨R_B, "buildVariable", "(II)V"⟩
theorem hd_B_buildVariable : y_B_buildVariable.cls ≠ "java/lang/invoke/MethodHandle" ∧ y_B_buildVariable.cls ≠ "java/lang/invoke/VarHandle" ∧ (parseMethodDescriptor y_B_buildVariable.desc).map (fun d => d.parameters.length) = some 2 := by decide +kernel
abbrev rm_B_buildVariable : Room := { frames := 2, cells := 0, slots := 0, locals := 44 }
abbrev b_B_buildBitwise : ByteArray := prog_1_method_35_code
def y_B_buildBitwise : MethodName := ⟨R_B, "buildBitwise", "(III)V"⟩
theorem hd_B_buildBitwise : y_B_buildBitwise.cls ≠ "java/lang/invoke/MethodHandle" ∧ y_B_buildBitwise.cls ≠ "java/lang/invoke/VarHandle" ∧ (parseMethodDescriptor y_B_buildBitwise.desc).map (fun d => d.parameters.length) = some 3 := by decide +kernel
abbrev rm_B_buildBitwise : Room := { frames := 1, cells := 0, slots := 0, locals := 25 }
abbrev b_B_buildArranged : ByteArray := prog_1_method_36_code
def y_B_buildArranged : MethodName := ⟨R_B, "buildArranged", "(IIII)V"⟩
theorem hd_B_buildArranged : y_B_buildArranged.cls ≠ "java/lang/invoke/MethodHandle" ∧ y_B_buildArranged.cls ≠ "java/lang/invoke/VarHandle" ∧ (parseMethodDescriptor y_B_buildArranged.desc).map (fun d => d.parameters.length) = some 4 := by decide +kernel
abbrev rm_B_buildArranged : Room := { frames := 2, cells := 0, slots := 0, locals := 53 }
abbrev b_B_canBuildFormula : ByteArray := prog_1_method_37_code
def y_B_canBuildFormula : MethodName := ⟨R_B, "canBuildFormula", "(III)Z"⟩
theorem hd_B_canBuildFormula : y_B_canBuildFormula.cls ≠ "java/lang/invoke/MethodHandle" ∧ y_B_canBuildFormula.cls ≠ "java/lang/invoke/VarHandle" ∧ (parseMethodDescriptor y_B_canBuildFormula.desc).map (fun d => d.parameters.length) = some 3 := by decide +kernel
abbrev rm_B_canBuildFormula : Room := { frames := 3, cells := 0, slots := 0, locals := 64 }
abbrev b_B_buildRelation : ByteArray := prog_1_method_38_code
def y_B_buildRelation : MethodName := ⟨R_B, "buildRelation", "(III)V"⟩
theorem hd_B_buildRelation : y_B_buildRelation.cls ≠ "java/lang/invoke/MethodHandle" ∧ y_B_buildRelation.cls ≠ "java/lang/invoke/VarHandle" ∧ (parseMethodDescriptor y_B_buildRelation.desc).map (fun d => d.parameters.length) = some 3 := by decide +kernel
abbrev rm_B_buildRelation : Room := { frames := 3, cells := 0, slots := 0, locals := 79 }
abbrev b_B_buildConnective : ByteArray := prog_1_method_39_code
def y_B_buildConnective : MethodName := ⟨R_B, "buildConnective", "(III)V"⟩
theorem hd_B_buildConnective : y_B_buildConnective.cls ≠ "java/lang/invoke/MethodHandle" ∧ y_B_buildConnective.cls ≠ "java/lang/invoke/VarHandle" ∧ (parseMethodDescriptor y_B_buildConnective.desc).map (fun d => d.parameters.length) = some 3 := by decide +kernel
abbrev rm_B_buildConnective : Room := { frames := 1, cells := 0, slots := 0, locals := 25 }
abbrev b_M_init : ByteArray := prog_5_method_1_code
def y_M_init : MethodName := ⟨R_M, "<init>", "()V"⟩
theorem hd_M_init : y_M_init.cls ≠ "java/lang/invoke/MethodHandle" ∧ y_M_init.cls ≠ "java/lang/invoke/VarHandle" ∧ (parseMethodDescriptor y_M_init.desc).map (fun d => d.parameters.length) = some 0 := by decide +kernel
abbrev rm_M_init : Room := { frames := 1, cells := 0, slots := 0, locals := 24 }
abbrev b_M_thrown : ByteArray := prog_5_method_2_code
def y_M_thrown : MethodName := ⟨R_M, "thrown", "()I"⟩
theorem hd_M_thrown : y_M_thrown.cls ≠ "java/lang/invoke/MethodHandle" ∧ y_M_thrown.cls ≠ "java/lang/invoke/VarHandle" ∧ (parseMethodDescriptor y_M_thrown.desc).map (fun d => d.parameters.length) = some 0 := by decide +kernel
abbrev rm_M_thrown : Room := { frames := 0, cells := 0, slots := 0, locals := 0 }
abbrev b_M_raise : ByteArray := prog_5_method_3_code
def y_M_raise : MethodName := ⟨R_M, "raise", "(I)I"⟩
theorem hd_M_raise : y_M_raise.cls ≠ "java/lang/invoke/MethodHandle" ∧ y_M_raise.cls ≠ "java/lang/invoke/VarHandle" ∧ (parseMethodDescriptor y_M_raise.desc).map (fun d => d.parameters.length) = some 1 := by decide +kernel
abbrev rm_M_raise : Room := { frames := 0, cells := 0, slots := 0, locals := 0 }
abbrev b_M_in : ByteArray := prog_5_method_4_code
def y_M_in : MethodName := ⟨R_M, "in", "(III)Z"⟩
theorem hd_M_in : y_M_in.cls ≠ "java/lang/invoke/MethodHandle" ∧ y_M_in.cls ≠ "java/lang/invoke/VarHandle" ∧ (parseMethodDescriptor y_M_in.desc).map (fun d => d.parameters.length) = some 3 := by decide +kernel
abbrev rm_M_in : Room := { frames := 0, cells := 0, slots := 0, locals := 0 }
abbrev b_M_variable : ByteArray := prog_5_method_5_code
def y_M_variable : MethodName := ⟨R_M, "variable", "(I)I"⟩
theorem hd_M_variable : y_M_variable.cls ≠ "java/lang/invoke/MethodHandle" ∧ y_M_variable.cls ≠ "java/lang/invoke/VarHandle" ∧ (parseMethodDescriptor y_M_variable.desc).map (fun d => d.parameters.length) = some 1 := by decide +kernel
abbrev rm_M_variable : Room := { frames := 1, cells := 0, slots := 0, locals := 22 }
abbrev b_M_isTerm : ByteArray := prog_5_method_6_code
def y_M_isTerm : MethodName := ⟨R_M, "isTerm", "(I)Z"⟩
theorem hd_M_isTerm : y_M_isTerm.cls ≠ "java/lang/invoke/MethodHandle" ∧ y_M_isTerm.cls ≠ "java/lang/invoke/VarHandle" ∧ (parseMethodDescriptor y_M_isTerm.desc).map (fun d => d.parameters.length) = some 1 := by decide +kernel
abbrev rm_M_isTerm : Room := { frames := 1, cells := 0, slots := 0, locals := 22 }
abbrev b_M_isFormula : ByteArray := prog_5_method_7_code
def y_M_isFormula : MethodName := ⟨R_M, "isFormula", "(I)Z"⟩
theorem hd_M_isFormula : y_M_isFormula.cls ≠ "java/lang/invoke/MethodHandle" ∧ y_M_isFormula.cls ≠ "java/lang/invoke/VarHandle" ∧ (parseMethodDescriptor y_M_isFormula.desc).map (fun d => d.parameters.length) = some 1 := by decide +kernel
abbrev rm_M_isFormula : Room := { frames := 1, cells := 0, slots := 0, locals := 22 }
abbrev b_M_alike : ByteArray := prog_5_method_8_code
def y_M_alike : MethodName := ⟨R_M, "alike", "(II)Z"⟩
theorem hd_M_alike : y_M_alike.cls ≠ "java/lang/invoke/MethodHandle" ∧ y_M_alike.cls ≠ "java/lang/invoke/VarHandle" ∧ (parseMethodDescriptor y_M_alike.desc).map (fun d => d.parameters.length) = some 2 := by decide +kernel
abbrev rm_M_alike : Room := { frames := 2, cells := 0, slots := 0, locals := 43 }
abbrev b_M_widthOf : ByteArray := prog_5_method_9_code
def y_M_widthOf : MethodName := ⟨R_M, "widthOf", "(IIII)I"⟩
theorem hd_M_widthOf : y_M_widthOf.cls ≠ "java/lang/invoke/MethodHandle" ∧ y_M_widthOf.cls ≠ "java/lang/invoke/VarHandle" ∧ (parseMethodDescriptor y_M_widthOf.desc).map (fun d => d.parameters.length) = some 4 := by decide +kernel
abbrev rm_M_widthOf : Room := { frames := 3, cells := 0, slots := 0, locals := 65 }
abbrev b_M_term : ByteArray := prog_5_method_10_code
def y_M_term : MethodName := ⟨R_M, "term", "(IIII)I"⟩
theorem hd_M_term : y_M_term.cls ≠ "java/lang/invoke/MethodHandle" ∧ y_M_term.cls ≠ "java/lang/invoke/VarHandle" ∧ (parseMethodDescriptor y_M_term.desc).map (fun d => d.parameters.length) = some 4 := by decide +kernel
abbrev rm_M_term : Room := { frames := 4, cells := 0, slots := 0, locals := 89 }
abbrev b_M_can : ByteArray := prog_5_method_11_code
def y_M_can : MethodName := ⟨R_M, "can", "(III)Z"⟩
theorem hd_M_can : y_M_can.cls ≠ "java/lang/invoke/MethodHandle" ∧ y_M_can.cls ≠ "java/lang/invoke/VarHandle" ∧ (parseMethodDescriptor y_M_can.desc).map (fun d => d.parameters.length) = some 3 := by decide +kernel
abbrev rm_M_can : Room := { frames := 3, cells := 0, slots := 0, locals := 65 }
abbrev b_M_formula : ByteArray := prog_5_method_12_code
def y_M_formula : MethodName := ⟨R_M, "formula", "(III)I"⟩
theorem hd_M_formula : y_M_formula.cls ≠ "java/lang/invoke/MethodHandle" ∧ y_M_formula.cls ≠ "java/lang/invoke/VarHandle" ∧ (parseMethodDescriptor y_M_formula.desc).map (fun d => d.parameters.length) = some 3 := by decide +kernel
abbrev rm_M_formula : Room := { frames := 4, cells := 0, slots := 0, locals := 88 }
abbrev b_M_signed : ByteArray := prog_5_method_13_code
def y_M_signed : MethodName := ⟨R_M, "signed", "(II)I"⟩
theorem hd_M_signed : y_M_signed.cls ≠ "java/lang/invoke/MethodHandle" ∧ y_M_signed.cls ≠ "java/lang/invoke/VarHandle" ∧ (parseMethodDescriptor y_M_signed.desc).map (fun d => d.parameters.length) = some 2 := by decide +kernel
abbrev rm_M_signed : Room := { frames := 0, cells := 0, slots := 0, locals := 0 }
abbrev b_M_given : ByteArray := prog_5_method_14_code
def y_M_given : MethodName := ⟨R_M, "given", "(II)I"⟩
theorem hd_M_given : y_M_given.cls ≠ "java/lang/invoke/MethodHandle" ∧ y_M_given.cls ≠ "java/lang/invoke/VarHandle" ∧ (parseMethodDescriptor y_M_given.desc).map (fun d => d.parameters.length) = some 2 := by decide +kernel
abbrev rm_M_given : Room := { frames := 0, cells := 0, slots := 0, locals := 0 }
abbrev b_M_raw : ByteArray := prog_5_method_15_code
def y_M_raw : MethodName := ⟨R_M, "raw", "(II)I"⟩
theorem hd_M_raw : y_M_raw.cls ≠ "java/lang/invoke/MethodHandle" ∧ y_M_raw.cls ≠ "java/lang/invoke/VarHandle" ∧ (parseMethodDescriptor y_M_raw.desc).map (fun d => d.parameters.length) = some 2 := by decide +kernel
abbrev rm_M_raw : Room := { frames := 1, cells := 0, slots := 0, locals := 24 }
abbrev b_M_truth : ByteArray := prog_5_method_16_code
def y_M_truth : MethodName := ⟨R_M, "truth", "(I)Z"⟩
theorem hd_M_truth : y_M_truth.cls ≠ "java/lang/invoke/MethodHandle" ∧ y_M_truth.cls ≠ "java/lang/invoke/VarHandle" ∧ (parseMethodDescriptor y_M_truth.desc).map (fun d => d.parameters.length) = some 1 := by decide +kernel
abbrev rm_M_truth : Room := { frames := 1, cells := 0, slots := 0, locals := 21 }
abbrev b_M_models : ByteArray := prog_5_method_17_code
def y_M_models : MethodName := ⟨R_M, "models", "(II)Z"⟩
theorem hd_M_models : y_M_models.cls ≠ "java/lang/invoke/MethodHandle" ∧ y_M_models.cls ≠ "java/lang/invoke/VarHandle" ∧ (parseMethodDescriptor y_M_models.desc).map (fun d => d.parameters.length) = some 2 := by decide +kernel
abbrev rm_M_models : Room := { frames := 2, cells := 0, slots := 0, locals := 48 }
abbrev b_M_next : ByteArray := prog_5_method_18_code
def y_M_next : MethodName := ⟨R_M, "next", "(II)I"⟩
theorem hd_M_next : y_M_next.cls ≠ "java/lang/invoke/MethodHandle" ∧ y_M_next.cls ≠ "java/lang/invoke/VarHandle" ∧ (parseMethodDescriptor y_M_next.desc).map (fun d => d.parameters.length) = some 2 := by decide +kernel
abbrev rm_M_next : Room := { frames := 3, cells := 0, slots := 0, locals := 72 }
abbrev b_M_assertion : ByteArray := prog_5_method_19_code
def y_M_assertion : MethodName := ⟨R_M, "assertion", "(I)I"⟩
theorem hd_M_assertion : y_M_assertion.cls ≠ "java/lang/invoke/MethodHandle" ∧ y_M_assertion.cls ≠ "java/lang/invoke/VarHandle" ∧ (parseMethodDescriptor y_M_assertion.desc).map (fun d => d.parameters.length) = some 1 := by decide +kernel
abbrev rm_M_assertion : Room := { frames := 2, cells := 0, slots := 0, locals := 43 }
abbrev b_M_push : ByteArray := prog_5_method_20_code
def y_M_push : MethodName := ⟨R_M, "push", "()I"⟩
theorem hd_M_push : y_M_push.cls ≠ "java/lang/invoke/MethodHandle" ∧ y_M_push.cls ≠ "java/lang/invoke/VarHandle" ∧ (parseMethodDescriptor y_M_push.desc).map (fun d => d.parameters.length) = some 0 := by decide +kernel
abbrev rm_M_push : Room := { frames := 1, cells := 0, slots := 0, locals := 21 }
abbrev b_M_pop : ByteArray := prog_5_method_21_code
def y_M_pop : MethodName := ⟨R_M, "pop", "()I"⟩
theorem hd_M_pop : y_M_pop.cls ≠ "java/lang/invoke/MethodHandle" ∧ y_M_pop.cls ≠ "java/lang/invoke/VarHandle" ∧ (parseMethodDescriptor y_M_pop.desc).map (fun d => d.parameters.length) = some 0 := by decide +kernel
abbrev rm_M_pop : Room := { frames := 1, cells := 0, slots := 0, locals := 21 }
abbrev b_M_check : ByteArray := prog_5_method_22_code
def y_M_check : MethodName := ⟨R_M, "check", "()I"⟩
theorem hd_M_check : y_M_check.cls ≠ "java/lang/invoke/MethodHandle" ∧ y_M_check.cls ≠ "java/lang/invoke/VarHandle" ∧ (parseMethodDescriptor y_M_check.desc).map (fun d => d.parameters.length) = some 0 := by decide +kernel
abbrev rm_M_check : Room := { frames := 4, cells := 0, slots := 0, locals := 95 }
abbrev b_M_value : ByteArray := prog_5_method_23_code
def y_M_value : MethodName := ⟨R_M, "value", "(I)I"⟩
theorem hd_M_value : y_M_value.cls ≠ "java/lang/invoke/MethodHandle" ∧ y_M_value.cls ≠ "java/lang/invoke/VarHandle" ∧ (parseMethodDescriptor y_M_value.desc).map (fun d => d.parameters.length) = some 1 := by decide +kernel
abbrev rm_M_value : Room := { frames := 4, cells := 0, slots := 0, locals := 95 }
abbrev b_M_valueOf : ByteArray := prog_5_method_24_code
def y_M_valueOf : MethodName := ⟨R_M, "valueOf", "(I)I"⟩
theorem hd_M_valueOf : y_M_valueOf.cls ≠ "java/lang/invoke/MethodHandle" ∧ y_M_valueOf.cls ≠ "java/lang/invoke/VarHandle" ∧ (parseMethodDescriptor y_M_valueOf.desc).map (fun d => d.parameters.length) = some 1 := by decide +kernel
abbrev rm_M_valueOf : Room := { frames := 4, cells := 0, slots := 0, locals := 95 }
abbrev b_M_entailed : ByteArray := prog_5_method_25_code
def y_M_entailed : MethodName := ⟨R_M, "entailed", "(I)I"⟩
theorem hd_M_entailed : y_M_entailed.cls ≠ "java/lang/invoke/MethodHandle" ∧ y_M_entailed.cls ≠ "java/lang/invoke/VarHandle" ∧ (parseMethodDescriptor y_M_entailed.desc).map (fun d => d.parameters.length) = some 1 := by decide +kernel
abbrev rm_M_entailed : Room := { frames := 4, cells := 0, slots := 0, locals := 95 }
abbrev b_M_fixed : ByteArray := prog_5_method_26_code
def y_M_fixed : MethodName := ⟨R_M, "fixed", "(I)I"⟩
theorem hd_M_fixed : y_M_fixed.cls ≠ "java/lang/invoke/MethodHandle" ∧ y_M_fixed.cls ≠ "java/lang/invoke/VarHandle" ∧ (parseMethodDescriptor y_M_fixed.desc).map (fun d => d.parameters.length) = some 1 := by decide +kernel
abbrev rm_M_fixed : Room := { frames := 4, cells := 0, slots := 0, locals := 95 }
abbrev b_M_least : ByteArray := prog_5_method_27_code
def y_M_least : MethodName := ⟨R_M, "least", "(I)I"⟩
theorem hd_M_least : y_M_least.cls ≠ "java/lang/invoke/MethodHandle" ∧ y_M_least.cls ≠ "java/lang/invoke/VarHandle" ∧ (parseMethodDescriptor y_M_least.desc).map (fun d => d.parameters.length) = some 1 := by decide +kernel
abbrev rm_M_least : Room := { frames := 4, cells := 0, slots := 0, locals := 95 }
abbrev b_M_assume : ByteArray := prog_5_method_28_code
def y_M_assume : MethodName := ⟨R_M, "assume", "(I)I"⟩
theorem hd_M_assume : y_M_assume.cls ≠ "java/lang/invoke/MethodHandle" ∧ y_M_assume.cls ≠ "java/lang/invoke/VarHandle" ∧ (parseMethodDescriptor y_M_assume.desc).map (fun d => d.parameters.length) = some 1 := by decide +kernel
abbrev rm_M_assume : Room := { frames := 2, cells := 0, slots := 0, locals := 43 }
abbrev b_M_clear : ByteArray := prog_5_method_29_code
def y_M_clear : MethodName := ⟨R_M, "clear", "()I"⟩
theorem hd_M_clear : y_M_clear.cls ≠ "java/lang/invoke/MethodHandle" ∧ y_M_clear.cls ≠ "java/lang/invoke/VarHandle" ∧ (parseMethodDescriptor y_M_clear.desc).map (fun d => d.parameters.length) = some 0 := by decide +kernel
abbrev rm_M_clear : Room := { frames := 0, cells := 0, slots := 0, locals := 0 }
abbrev b_M_attempt : ByteArray := prog_5_method_30_code
def y_M_attempt : MethodName := ⟨R_M, "attempt", "()I"⟩
theorem hd_M_attempt : y_M_attempt.cls ≠ "java/lang/invoke/MethodHandle" ∧ y_M_attempt.cls ≠ "java/lang/invoke/VarHandle" ∧ (parseMethodDescriptor y_M_attempt.desc).map (fun d => d.parameters.length) = some 0 := by decide +kernel
abbrev rm_M_attempt : Room := { frames := 4, cells := 0, slots := 0, locals := 95 }
abbrev b_M_blame : ByteArray := prog_5_method_31_code
def y_M_blame : MethodName := ⟨R_M, "blame", "()I"⟩
theorem hd_M_blame : y_M_blame.cls ≠ "java/lang/invoke/MethodHandle" ∧ y_M_blame.cls ≠ "java/lang/invoke/VarHandle" ∧ (parseMethodDescriptor y_M_blame.desc).map (fun d => d.parameters.length) = some 0 := by decide +kernel
abbrev rm_M_blame : Room := { frames := 4, cells := 0, slots := 0, locals := 95 }
abbrev b_M_count : ByteArray := prog_5_method_32_code
def y_M_count : MethodName := ⟨R_M, "count", "(I)I"⟩
theorem hd_M_count : y_M_count.cls ≠ "java/lang/invoke/MethodHandle" ∧ y_M_count.cls ≠ "java/lang/invoke/VarHandle" ∧ (parseMethodDescriptor y_M_count.desc).map (fun d => d.parameters.length) = some 1 := by decide +kernel
abbrev rm_M_count : Room := { frames := 1, cells := 0, slots := 0, locals := 21 }
abbrev b_C_init : ByteArray := prog_2_method_1_code
def y_C_init : MethodName := ⟨R_C, "<init>", "()V"⟩
theorem hd_C_init : y_C_init.cls ≠ "java/lang/invoke/MethodHandle" ∧ y_C_init.cls ≠ "java/lang/invoke/VarHandle" ∧ (parseMethodDescriptor y_C_init.desc).map (fun d => d.parameters.length) = some 0 := by decide +kernel
abbrev rm_C_init : Room := { frames := 2, cells := 0, slots := 0, locals := 45 }
abbrev b_C_sum : ByteArray := prog_2_method_2_code
def y_C_sum : MethodName := ⟨R_C, "sum", "(IIII)V"⟩
theorem hd_C_sum : y_C_sum.cls ≠ "java/lang/invoke/MethodHandle" ∧ y_C_sum.cls ≠ "java/lang/invoke/VarHandle" ∧ (parseMethodDescriptor y_C_sum.desc).map (fun d => d.parameters.length) = some 4 := by decide +kernel
abbrev rm_C_sum : Room := { frames := 2, cells := 0, slots := 0, locals := 48 }
abbrev b_C_difference : ByteArray := prog_2_method_3_code
def y_C_difference : MethodName := ⟨R_C, "difference", "(IIII)V"⟩
theorem hd_C_difference : y_C_difference.cls ≠ "java/lang/invoke/MethodHandle" ∧ y_C_difference.cls ≠ "java/lang/invoke/VarHandle" ∧ (parseMethodDescriptor y_C_difference.desc).map (fun d => d.parameters.length) = some 4 := by decide +kernel
abbrev rm_C_difference : Room := { frames := 2, cells := 0, slots := 0, locals := 48 }
abbrev b_C_product : ByteArray := prog_2_method_4_code
def y_C_product : MethodName := ⟨R_C, "product", "(IIII)V"⟩
theorem hd_C_product : y_C_product.cls ≠ "java/lang/invoke/MethodHandle" ∧ y_C_product.cls ≠ "java/lang/invoke/VarHandle" ∧ (parseMethodDescriptor y_C_product.desc).map (fun d => d.parameters.length) = some 4 := by decide +kernel
abbrev rm_C_product : Room := { frames := 2, cells := 0, slots := 0, locals := 48 }
abbrev b_C_addBit : ByteArray := prog_2_method_5_code
def y_C_addBit : MethodName := ⟨R_C, "addBit", "(III)V"⟩
theorem hd_C_addBit : y_C_addBit.cls ≠ "java/lang/invoke/MethodHandle" ∧ y_C_addBit.cls ≠ "java/lang/invoke/VarHandle" ∧ (parseMethodDescriptor y_C_addBit.desc).map (fun d => d.parameters.length) = some 3 := by decide +kernel
abbrev rm_C_addBit : Room := { frames := 1, cells := 0, slots := 0, locals := 25 }
abbrev b_C_moveUp : ByteArray := prog_2_method_6_code
def y_C_moveUp : MethodName := ⟨R_C, "moveUp", "(IIII)V"⟩
theorem hd_C_moveUp : y_C_moveUp.cls ≠ "java/lang/invoke/MethodHandle" ∧ y_C_moveUp.cls ≠ "java/lang/invoke/VarHandle" ∧ (parseMethodDescriptor y_C_moveUp.desc).map (fun d => d.parameters.length) = some 4 := by decide +kernel
abbrev rm_C_moveUp : Room := { frames := 1, cells := 0, slots := 0, locals := 24 }
abbrev b_C_moveDown : ByteArray := prog_2_method_7_code
def y_C_moveDown : MethodName := ⟨R_C, "moveDown", "(IIIIZ)V"⟩
theorem hd_C_moveDown : y_C_moveDown.cls ≠ "java/lang/invoke/MethodHandle" ∧ y_C_moveDown.cls ≠ "java/lang/invoke/VarHandle" ∧ (parseMethodDescriptor y_C_moveDown.desc).map (fun d => d.parameters.length) = some 5 := by decide +kernel
abbrev rm_C_moveDown : Room := { frames := 1, cells := 0, slots := 0, locals := 24 }
abbrev b_C_choice : ByteArray := prog_2_method_8_code
def y_C_choice : MethodName := ⟨R_C, "choice", "(IIIII)V"⟩
theorem hd_C_choice : y_C_choice.cls ≠ "java/lang/invoke/MethodHandle" ∧ y_C_choice.cls ≠ "java/lang/invoke/VarHandle" ∧ (parseMethodDescriptor y_C_choice.desc).map (fun d => d.parameters.length) = some 5 := by decide +kernel
abbrev rm_C_choice : Room := { frames := 1, cells := 0, slots := 0, locals := 27 }
abbrev b_C_equal : ByteArray := prog_2_method_9_code
def y_C_equal : MethodName := ⟨R_C, "equal", "(IIII)V"⟩
theorem hd_C_equal : y_C_equal.cls ≠ "java/lang/invoke/MethodHandle" ∧ y_C_equal.cls ≠ "java/lang/invoke/VarHandle" ∧ (parseMethodDescriptor y_C_equal.desc).map (fun d => d.parameters.length) = some 4 := by decide +kernel
abbrev rm_C_equal : Room := { frames := 1, cells := 0, slots := 0, locals := 25 }
abbrev b_C_less : ByteArray := prog_2_method_10_code
def y_C_less : MethodName := ⟨R_C, "less", "(IIIIZ)V"⟩
theorem hd_C_less : y_C_less.cls ≠ "java/lang/invoke/MethodHandle" ∧ y_C_less.cls ≠ "java/lang/invoke/VarHandle" ∧ (parseMethodDescriptor y_C_less.desc).map (fun d => d.parameters.length) = some 5 := by decide +kernel
abbrev rm_C_less : Room := { frames := 1, cells := 0, slots := 0, locals := 27 }
abbrev b_C_atMost : ByteArray := prog_2_method_11_code
def y_C_atMost : MethodName := ⟨R_C, "atMost", "(IIIIZ)V"⟩
theorem hd_C_atMost : y_C_atMost.cls ≠ "java/lang/invoke/MethodHandle" ∧ y_C_atMost.cls ≠ "java/lang/invoke/VarHandle" ∧ (parseMethodDescriptor y_C_atMost.desc).map (fun d => d.parameters.length) = some 5 := by decide +kernel
abbrev rm_C_atMost : Room := { frames := 2, cells := 0, slots := 0, locals := 54 }
abbrev b_S_init : ByteArray := prog_3_method_1_code
def y_S_init : MethodName := ⟨R_S, "<init>", "(I)V"⟩
theorem hd_S_init : y_S_init.cls ≠ "java/lang/invoke/MethodHandle" ∧ y_S_init.cls ≠ "java/lang/invoke/VarHandle" ∧ (parseMethodDescriptor y_S_init.desc).map (fun d => d.parameters.length) = some 1 := by decide +kernel
abbrev rm_S_init : Room := { frames := 1, cells := 0, slots := 0, locals := 24 }
abbrev b_S_fill : ByteArray := prog_3_method_2_code
def y_S_fill : MethodName := ⟨R_S, "fill", "(IIZ)V"⟩
theorem hd_S_fill : y_S_fill.cls ≠ "java/lang/invoke/MethodHandle" ∧ y_S_fill.cls ≠ "java/lang/invoke/VarHandle" ∧ (parseMethodDescriptor y_S_fill.desc).map (fun d => d.parameters.length) = some 3 := by decide +kernel
abbrev rm_S_fill : Room := { frames := 0, cells := 0, slots := 0, locals := 0 }
abbrev b_S_fillByPlace : ByteArray := prog_3_method_3_code
def y_S_fillByPlace : MethodName := ⟨R_S, "fillByPlace", "(II)V"⟩
theorem hd_S_fillByPlace : y_S_fillByPlace.cls ≠ "java/lang/invoke/MethodHandle" ∧ y_S_fillByPlace.cls ≠ "java/lang/invoke/VarHandle" ∧ (parseMethodDescriptor y_S_fillByPlace.desc).map (fun d => d.parameters.length) = some 2 := by decide +kernel
abbrev rm_S_fillByPlace : Room := { frames := 1, cells := 0, slots := 0, locals := 21 }
abbrev b_S_wordByPlace : ByteArray := prog_3_method_4_code
def y_S_wordByPlace : MethodName := ⟨R_S, "wordByPlace", "(II)J"⟩
theorem hd_S_wordByPlace : y_S_wordByPlace.cls ≠ "java/lang/invoke/MethodHandle" ∧ y_S_wordByPlace.cls ≠ "java/lang/invoke/VarHandle" ∧ (parseMethodDescriptor y_S_wordByPlace.desc).map (fun d => d.parameters.length) = some 2 := by decide +kernel
abbrev rm_S_wordByPlace : Room := { frames := 0, cells := 0, slots := 0, locals := 0 }
abbrev b_S_copy : ByteArray := prog_3_method_5_code
def y_S_copy : MethodName := ⟨R_S, "copy", "(III)V"⟩
theorem hd_S_copy : y_S_copy.cls ≠ "java/lang/invoke/MethodHandle" ∧ y_S_copy.cls ≠ "java/lang/invoke/VarHandle" ∧ (parseMethodDescriptor y_S_copy.desc).map (fun d => d.parameters.length) = some 3 := by decide +kernel
abbrev rm_S_copy : Room := { frames := 0, cells := 0, slots := 0, locals := 0 }
abbrev b_S_turn : ByteArray := prog_3_method_6_code
def y_S_turn : MethodName := ⟨R_S, "turn", "(III)V"⟩
theorem hd_S_turn : y_S_turn.cls ≠ "java/lang/invoke/MethodHandle" ∧ y_S_turn.cls ≠ "java/lang/invoke/VarHandle" ∧ (parseMethodDescriptor y_S_turn.desc).map (fun d => d.parameters.length) = some 3 := by decide +kernel
abbrev rm_S_turn : Room := { frames := 0, cells := 0, slots := 0, locals := 0 }
abbrev b_S_and : ByteArray := prog_3_method_7_code
def y_S_and : MethodName := ⟨R_S, "and", "(IIII)V"⟩
theorem hd_S_and : y_S_and.cls ≠ "java/lang/invoke/MethodHandle" ∧ y_S_and.cls ≠ "java/lang/invoke/VarHandle" ∧ (parseMethodDescriptor y_S_and.desc).map (fun d => d.parameters.length) = some 4 := by decide +kernel
abbrev rm_S_and : Room := { frames := 0, cells := 0, slots := 0, locals := 0 }
abbrev b_S_or : ByteArray := prog_3_method_8_code
def y_S_or : MethodName := ⟨R_S, "or", "(IIII)V"⟩
theorem hd_S_or : y_S_or.cls ≠ "java/lang/invoke/MethodHandle" ∧ y_S_or.cls ≠ "java/lang/invoke/VarHandle" ∧ (parseMethodDescriptor y_S_or.desc).map (fun d => d.parameters.length) = some 4 := by decide +kernel
abbrev rm_S_or : Room := { frames := 0, cells := 0, slots := 0, locals := 0 }
abbrev b_S_exclusive : ByteArray := prog_3_method_9_code
def y_S_exclusive : MethodName := ⟨R_S, "exclusive", "(IIII)V"⟩
theorem hd_S_exclusive : y_S_exclusive.cls ≠ "java/lang/invoke/MethodHandle" ∧ y_S_exclusive.cls ≠ "java/lang/invoke/VarHandle" ∧ (parseMethodDescriptor y_S_exclusive.desc).map (fun d => d.parameters.length) = some 4 := by decide +kernel
abbrev rm_S_exclusive : Room := { frames := 0, cells := 0, slots := 0, locals := 0 }
abbrev b_S_choose : ByteArray := prog_3_method_10_code
def y_S_choose : MethodName := ⟨R_S, "choose", "(IIII)V"⟩
theorem hd_S_choose : y_S_choose.cls ≠ "java/lang/invoke/MethodHandle" ∧ y_S_choose.cls ≠ "java/lang/invoke/VarHandle" ∧ (parseMethodDescriptor y_S_choose.desc).map (fun d => d.parameters.length) = some 4 := by decide +kernel
abbrev rm_S_choose : Room := { frames := 0, cells := 0, slots := 0, locals := 0 }
abbrev b_S_remove : ByteArray := prog_3_method_11_code
def y_S_remove : MethodName := ⟨R_S, "remove", "(II)V"⟩
theorem hd_S_remove : y_S_remove.cls ≠ "java/lang/invoke/MethodHandle" ∧ y_S_remove.cls ≠ "java/lang/invoke/VarHandle" ∧ (parseMethodDescriptor y_S_remove.desc).map (fun d => d.parameters.length) = some 2 := by decide +kernel
abbrev rm_S_remove : Room := { frames := 0, cells := 0, slots := 0, locals := 0 }
abbrev b_S_isEmpty : ByteArray := prog_3_method_12_code
def y_S_isEmpty : MethodName := ⟨R_S, "isEmpty", "(I)Z"⟩
theorem hd_S_isEmpty : y_S_isEmpty.cls ≠ "java/lang/invoke/MethodHandle" ∧ y_S_isEmpty.cls ≠ "java/lang/invoke/VarHandle" ∧ (parseMethodDescriptor y_S_isEmpty.desc).map (fun d => d.parameters.length) = some 1 := by decide +kernel
abbrev rm_S_isEmpty : Room := { frames := 1, cells := 0, slots := 0, locals := 23 }
abbrev b_S_meets : ByteArray := prog_3_method_13_code
def y_S_meets : MethodName := ⟨R_S, "meets", "(II)Z"⟩
theorem hd_S_meets : y_S_meets.cls ≠ "java/lang/invoke/MethodHandle" ∧ y_S_meets.cls ≠ "java/lang/invoke/VarHandle" ∧ (parseMethodDescriptor y_S_meets.desc).map (fun d => d.parameters.length) = some 2 := by decide +kernel
abbrev rm_S_meets : Room := { frames := 1, cells := 0, slots := 0, locals := 23 }
abbrev b_S_isWithout : ByteArray := prog_3_method_14_code
def y_S_isWithout : MethodName := ⟨R_S, "isWithout", "(II)Z"⟩
theorem hd_S_isWithout : y_S_isWithout.cls ≠ "java/lang/invoke/MethodHandle" ∧ y_S_isWithout.cls ≠ "java/lang/invoke/VarHandle" ∧ (parseMethodDescriptor y_S_isWithout.desc).map (fun d => d.parameters.length) = some 2 := by decide +kernel
abbrev rm_S_isWithout : Room := { frames := 0, cells := 0, slots := 0, locals := 0 }
abbrev b_S_isWithin : ByteArray := prog_3_method_15_code
def y_S_isWithin : MethodName := ⟨R_S, "isWithin", "(II)Z"⟩
theorem hd_S_isWithin : y_S_isWithin.cls ≠ "java/lang/invoke/MethodHandle" ∧ y_S_isWithin.cls ≠ "java/lang/invoke/VarHandle" ∧ (parseMethodDescriptor y_S_isWithin.desc).map (fun d => d.parameters.length) = some 2 := by decide +kernel
abbrev rm_S_isWithin : Room := { frames := 0, cells := 0, slots := 0, locals := 0 }
abbrev b_S_contains : ByteArray := prog_3_method_16_code
def y_S_contains : MethodName := ⟨R_S, "contains", "(II)Z"⟩
theorem hd_S_contains : y_S_contains.cls ≠ "java/lang/invoke/MethodHandle" ∧ y_S_contains.cls ≠ "java/lang/invoke/VarHandle" ∧ (parseMethodDescriptor y_S_contains.desc).map (fun d => d.parameters.length) = some 2 := by decide +kernel
abbrev rm_S_contains : Room := { frames := 0, cells := 0, slots := 0, locals := 0 }
abbrev b_S_lowest : ByteArray := prog_3_method_17_code
def y_S_lowest : MethodName := ⟨R_S, "lowest", "(I)I"⟩
theorem hd_S_lowest : y_S_lowest.cls ≠ "java/lang/invoke/MethodHandle" ∧ y_S_lowest.cls ≠ "java/lang/invoke/VarHandle" ∧ (parseMethodDescriptor y_S_lowest.desc).map (fun d => d.parameters.length) = some 1 := by decide +kernel
abbrev rm_S_lowest : Room := { frames := 1, cells := 0, slots := 0, locals := 22 }
abbrev b_S_lowestOne : ByteArray := prog_3_method_18_code
def y_S_lowestOne : MethodName := ⟨R_S, "lowestOne", "(J)I"⟩
theorem hd_S_lowestOne : y_S_lowestOne.cls ≠ "java/lang/invoke/MethodHandle" ∧ y_S_lowestOne.cls ≠ "java/lang/invoke/VarHandle" ∧ (parseMethodDescriptor y_S_lowestOne.desc).map (fun d => d.parameters.length) = some 1 := by decide +kernel
abbrev rm_S_lowestOne : Room := { frames := 0, cells := 0, slots := 0, locals := 0 }
abbrev b_L_variable : ByteArray := method_3_code
def y_L_variable : MethodName := ⟨R_L, "variable", "(LBitSolver;I[J)I"⟩
theorem hd_L_variable : y_L_variable.cls ≠ "java/lang/invoke/MethodHandle" ∧ y_L_variable.cls ≠ "java/lang/invoke/VarHandle" ∧ (parseMethodDescriptor y_L_variable.desc).map (fun d => d.parameters.length) = some 3 := by decide +kernel
abbrev rm_L_variable : Room := { frames := 2, cells := 0, slots := 0, locals := 41 }
abbrev b_L_term : ByteArray := method_4_code
def y_L_term : MethodName := ⟨R_L, "term", "(LBitSolver;IIII[J)I"⟩
theorem hd_L_term : y_L_term.cls ≠ "java/lang/invoke/MethodHandle" ∧ y_L_term.cls ≠ "java/lang/invoke/VarHandle" ∧ (parseMethodDescriptor y_L_term.desc).map (fun d => d.parameters.length) = some 6 := by decide +kernel
abbrev rm_L_term : Room := { frames := 5, cells := 0, slots := 0, locals := 124 }
abbrev b_L_formula : ByteArray := method_5_code
def y_L_formula : MethodName := ⟨R_L, "formula", "(LBitSolver;III[J)I"⟩
theorem hd_L_formula : y_L_formula.cls ≠ "java/lang/invoke/MethodHandle" ∧ y_L_formula.cls ≠ "java/lang/invoke/VarHandle" ∧ (parseMethodDescriptor y_L_formula.desc).map (fun d => d.parameters.length) = some 5 := by decide +kernel
abbrev rm_L_formula : Room := { frames := 5, cells := 0, slots := 0, locals := 127 }
abbrev b_L_assertion : ByteArray := method_6_code
def y_L_assertion : MethodName := ⟨R_L, "assertion", "(LBitSolver;I[J)I"⟩
theorem hd_L_assertion : y_L_assertion.cls ≠ "java/lang/invoke/MethodHandle" ∧ y_L_assertion.cls ≠ "java/lang/invoke/VarHandle" ∧ (parseMethodDescriptor y_L_assertion.desc).map (fun d => d.parameters.length) = some 3 := by decide +kernel
abbrev rm_L_assertion : Room := { frames := 2, cells := 0, slots := 0, locals := 46 }
abbrev b_L_push : ByteArray := method_7_code
def y_L_push : MethodName := ⟨R_L, "push", "(LBitSolver;[J)I"⟩
theorem hd_L_push : y_L_push.cls ≠ "java/lang/invoke/MethodHandle" ∧ y_L_push.cls ≠ "java/lang/invoke/VarHandle" ∧ (parseMethodDescriptor y_L_push.desc).map (fun d => d.parameters.length) = some 2 := by decide +kernel
abbrev rm_L_push : Room := { frames := 2, cells := 0, slots := 0, locals := 44 }
abbrev b_L_pop : ByteArray := method_8_code
def y_L_pop : MethodName := ⟨R_L, "pop", "(LBitSolver;[J)I"⟩
theorem hd_L_pop : y_L_pop.cls ≠ "java/lang/invoke/MethodHandle" ∧ y_L_pop.cls ≠ "java/lang/invoke/VarHandle" ∧ (parseMethodDescriptor y_L_pop.desc).map (fun d => d.parameters.length) = some 2 := by decide +kernel
abbrev rm_L_pop : Room := { frames := 1, cells := 0, slots := 0, locals := 21 }
abbrev b_L_value : ByteArray := method_9_code
def y_L_value : MethodName := ⟨R_L, "value", "(LBitSolver;I[J)I"⟩
theorem hd_L_value : y_L_value.cls ≠ "java/lang/invoke/MethodHandle" ∧ y_L_value.cls ≠ "java/lang/invoke/VarHandle" ∧ (parseMethodDescriptor y_L_value.desc).map (fun d => d.parameters.length) = some 3 := by decide +kernel
abbrev rm_L_value : Room := { frames := 4, cells := 0, slots := 0, locals := 86 }
abbrev b_L_valueOf : ByteArray := method_10_code
def y_L_valueOf : MethodName := ⟨R_L, "valueOf", "(LBitSolver;I[J)I"⟩
theorem hd_L_valueOf : y_L_valueOf.cls ≠ "java/lang/invoke/MethodHandle" ∧ y_L_valueOf.cls ≠ "java/lang/invoke/VarHandle" ∧ (parseMethodDescriptor y_L_valueOf.desc).map (fun d => d.parameters.length) = some 3 := by decide +kernel
abbrev rm_L_valueOf : Room := { frames := 4, cells := 0, slots := 0, locals := 88 }
abbrev b_L_entailed : ByteArray := method_11_code
def y_L_entailed : MethodName := ⟨R_L, "entailed", "(LBitSolver;I[J)I"⟩
theorem hd_L_entailed : y_L_entailed.cls ≠ "java/lang/invoke/MethodHandle" ∧ y_L_entailed.cls ≠ "java/lang/invoke/VarHandle" ∧ (parseMethodDescriptor y_L_entailed.desc).map (fun d => d.parameters.length) = some 3 := by decide +kernel
abbrev rm_L_entailed : Room := { frames := 4, cells := 0, slots := 0, locals := 85 }
abbrev b_L_fixed : ByteArray := method_12_code
def y_L_fixed : MethodName := ⟨R_L, "fixed", "(LBitSolver;I[J)I"⟩
theorem hd_L_fixed : y_L_fixed.cls ≠ "java/lang/invoke/MethodHandle" ∧ y_L_fixed.cls ≠ "java/lang/invoke/VarHandle" ∧ (parseMethodDescriptor y_L_fixed.desc).map (fun d => d.parameters.length) = some 3 := by decide +kernel
abbrev rm_L_fixed : Room := { frames := 4, cells := 0, slots := 0, locals := 87 }
abbrev b_L_least : ByteArray := method_13_code
def y_L_least : MethodName := ⟨R_L, "least", "(LBitSolver;I[J)I"⟩
theorem hd_L_least : y_L_least.cls ≠ "java/lang/invoke/MethodHandle" ∧ y_L_least.cls ≠ "java/lang/invoke/VarHandle" ∧ (parseMethodDescriptor y_L_least.desc).map (fun d => d.parameters.length) = some 3 := by decide +kernel
abbrev rm_L_least : Room := { frames := 4, cells := 0, slots := 0, locals := 87 }
abbrev b_L_assume : ByteArray := method_14_code
def y_L_assume : MethodName := ⟨R_L, "assume", "(LBitSolver;I[J)I"⟩
theorem hd_L_assume : y_L_assume.cls ≠ "java/lang/invoke/MethodHandle" ∧ y_L_assume.cls ≠ "java/lang/invoke/VarHandle" ∧ (parseMethodDescriptor y_L_assume.desc).map (fun d => d.parameters.length) = some 3 := by decide +kernel
abbrev rm_L_assume : Room := { frames := 2, cells := 0, slots := 0, locals := 42 }
abbrev b_L_blame : ByteArray := method_15_code
def y_L_blame : MethodName := ⟨R_L, "blame", "(LBitSolver;[J)I"⟩
theorem hd_L_blame : y_L_blame.cls ≠ "java/lang/invoke/MethodHandle" ∧ y_L_blame.cls ≠ "java/lang/invoke/VarHandle" ∧ (parseMethodDescriptor y_L_blame.desc).map (fun d => d.parameters.length) = some 2 := by decide +kernel
abbrev rm_L_blame : Room := { frames := 4, cells := 0, slots := 0, locals := 89 }
abbrev b_L_count : ByteArray := method_16_code
def y_L_count : MethodName := ⟨R_L, "count", "(LBitSolver;I[J)I"⟩
theorem hd_L_count : y_L_count.cls ≠ "java/lang/invoke/MethodHandle" ∧ y_L_count.cls ≠ "java/lang/invoke/VarHandle" ∧ (parseMethodDescriptor y_L_count.desc).map (fun d => d.parameters.length) = some 3 := by decide +kernel
abbrev rm_L_count : Room := { frames := 1, cells := 0, slots := 0, locals := 21 }
abbrev b_L_law : ByteArray := code
def lw_ok : List Cond := lw_tbl.filter goodWord
abbrev wk (y : MethodName) (b : ByteArray) (n : Nat) (r : Option FieldType) : List Cond := Cond.code y b n r :: lw_ok
theorem lw_good : ∀ w ∈ lw_ok, w ∈ lw_ok ∧ ((w.onTables && w.keeps) = true ∨ ∃ ty, w = .arrayClass ty) := fun w h => ⟨h, good_of_word (List.mem_filter.mp h).2⟩
theorem gW {y : MethodName} {b : ByteArray} {n : Nat} {r : Option FieldType} (h : Cond.code y b n r ∈ lw_ok) : GoodIn lw_ok (wk y b n r) := fun w hw => (List.mem_cons.mp hw).elim (fun e => by rw [e]; exact lw_good _ h) (fun h => lw_good w h)
theorem wd_t {w : Cond} (i : Nat) (h : tables_1[i]? = some w) (hg : goodWord w = true) : w ∈ lw_ok := List.mem_filter.mpr ⟨List.mem_append_right _ (List.mem_of_getElem? h), hg⟩
theorem wd_s {w : Cond} (i : Nat) (h : (k2_sels lw_privs)[i]? = some w) (hg : goodWord w = true) : w ∈ lw_ok := List.mem_filter.mpr ⟨List.mem_append_left _ (List.mem_of_getElem? h), hg⟩
