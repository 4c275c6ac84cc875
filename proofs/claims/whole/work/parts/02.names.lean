def R_X : String := "TamedClassSet"
def F_X : u_T := fun k => match k with
  | 0 => ("TamedClassSet", "plan", "LTamedClassSet$Plan;", true)
  | 1 => ("TamedClassSet", "fitting", "LTamedClassSet$Fitting;", true)
  | 2 => ("TamedClassSet", "rules", "LTamedClassSet$Rules;", true)
  | 3 => ("TamedClassSet", "heap", "LTamedClassSet$Heap;", true)
  | 4 => ("TamedClassSet", "machine", "LTamedClassSet$Machine;", true)
  | 5 => ("TamedClassSet", "sealed", "Z", false)
  | 6 => ("TamedClassSet", "runCount", "I", false)
  | _ => ("TamedClassSet", "latestSteps", "I", false)
def t_X : Nat → FieldType := fun k => match k with
  | 0 => .object "TamedClassSet$Plan"
  | 1 => .object "TamedClassSet$Fitting"
  | 2 => .object "TamedClassSet$Rules"
  | 3 => .object "TamedClassSet$Heap"
  | 4 => .object "TamedClassSet$Machine"
  | 5 => .boolean
  | 6 => .int
  | _ => .int
theorem n_X : ∀ a, a < 8 → ∀ b, b < 8 → a ≠ b → (F_X a).2.1 ≠ (F_X b).2.1 := by decide +kernel
theorem k_X : ∀ k, k < 8 → parseFieldDescriptor (F_X k).2.2.1 = some (t_X k) := by decide +kernel
def R_Plan : String := "TamedClassSet$Plan"
def F_Plan : u_T := fun k => match k with
  | 0 => ("TamedClassSet$Plan", "classCount", "I", false)
  | 1 => ("TamedClassSet$Plan", "fieldCount", "I", false)
  | 2 => ("TamedClassSet$Plan", "methodCount", "I", false)
  | 3 => ("TamedClassSet$Plan", "lines", "[I", true)
  | 4 => ("TamedClassSet$Plan", "lineMarks", "[I", true)
  | 5 => ("TamedClassSet$Plan", "fieldClass", "[I", true)
  | 6 => ("TamedClassSet$Plan", "fieldHow", "[I", true)
  | 7 => ("TamedClassSet$Plan", "fieldType", "[I", true)
  | 8 => ("TamedClassSet$Plan", "methodClass", "[I", true)
  | 9 => ("TamedClassSet$Plan", "methodHow", "[I", true)
  | 10 => ("TamedClassSet$Plan", "methodName", "[I", true)
  | 11 => ("TamedClassSet$Plan", "methodParam", "[I", true)
  | 12 => ("TamedClassSet$Plan", "methodResult", "[I", true)
  | 13 => ("TamedClassSet$Plan", "codeLength", "[I", true)
  | 14 => ("TamedClassSet$Plan", "ops", "[I", true)
  | _ => ("TamedClassSet$Plan", "operands", "[I", true)
def t_Plan : Nat → FieldType := fun k => match k with
  | 0 => .int
  | 1 => .int
  | 2 => .int
  | 3 => .array .int
  | 4 => .array .int
  | 5 => .array .int
  | 6 => .array .int
  | 7 => .array .int
  | 8 => .array .int
  | 9 => .array .int
  | 10 => .array .int
  | 11 => .array .int
  | 12 => .array .int
  | 13 => .array .int
  | 14 => .array .int
  | _ => .array .int
theorem n_Plan : ∀ a, a < 16 → ∀ b, b < 16 → a ≠ b → (F_Plan a).2.1 ≠ (F_Plan b).2.1 := by decide +kernel
theorem k_Plan : ∀ k, k < 16 → parseFieldDescriptor (F_Plan k).2.2.1 = some (t_Plan k) := by decide +kernel
def R_Fitting : String := "TamedClassSet$Fitting"
def F_Fitting : u_T := fun k => match k with
  | 0 => ("TamedClassSet$Fitting", "before", "[I", true)
  | 1 => ("TamedClassSet$Fitting", "plan", "LTamedClassSet$Plan;", true)
  | 2 => ("TamedClassSet$Fitting", "stack", "[I", true)
  | 3 => ("TamedClassSet$Fitting", "locals", "[I", true)
  | 4 => ("TamedClassSet$Fitting", "reached", "[I", true)
  | 5 => ("TamedClassSet$Fitting", "reachedCount", "I", false)
  | 6 => ("TamedClassSet$Fitting", "depth", "I", false)
  | 7 => ("TamedClassSet$Fitting", "method", "I", false)
  | _ => ("TamedClassSet$Fitting", "good", "Z", false)
def t_Fitting : Nat → FieldType := fun k => match k with
  | 0 => .array .int
  | 1 => .object "TamedClassSet$Plan"
  | 2 => .array .int
  | 3 => .array .int
  | 4 => .array .int
  | 5 => .int
  | 6 => .int
  | 7 => .int
  | _ => .boolean
theorem n_Fitting : ∀ a, a < 9 → ∀ b, b < 9 → a ≠ b → (F_Fitting a).2.1 ≠ (F_Fitting b).2.1 := by decide +kernel
theorem k_Fitting : ∀ k, k < 9 → parseFieldDescriptor (F_Fitting k).2.2.1 = some (t_Fitting k) := by decide +kernel
def R_Rules : String := "TamedClassSet$Rules"
def F_Rules : u_T := fun k => match k with
  | 0 => ("TamedClassSet$Rules", "plan", "LTamedClassSet$Plan;", true)
  | _ => ("TamedClassSet$Rules", "fitting", "LTamedClassSet$Fitting;", true)
def t_Rules : Nat → FieldType := fun k => match k with
  | 0 => .object "TamedClassSet$Plan"
  | _ => .object "TamedClassSet$Fitting"
theorem n_Rules : ∀ a, a < 2 → ∀ b, b < 2 → a ≠ b → (F_Rules a).2.1 ≠ (F_Rules b).2.1 := by decide +kernel
theorem k_Rules : ∀ k, k < 2 → parseFieldDescriptor (F_Rules k).2.2.1 = some (t_Rules k) := by decide +kernel
def R_Heap : String := "TamedClassSet$Heap"
def F_Heap : u_T := fun k => match k with
  | 0 => ("TamedClassSet$Heap", "types", "[I", true)
  | 1 => ("TamedClassSet$Heap", "slots", "[I", true)
  | 2 => ("TamedClassSet$Heap", "handles", "[I", true)
  | 3 => ("TamedClassSet$Heap", "made", "I", false)
  | _ => ("TamedClassSet$Heap", "handleCount", "I", false)
def t_Heap : Nat → FieldType := fun k => match k with
  | 0 => .array .int
  | 1 => .array .int
  | 2 => .array .int
  | 3 => .int
  | _ => .int
theorem n_Heap : ∀ a, a < 5 → ∀ b, b < 5 → a ≠ b → (F_Heap a).2.1 ≠ (F_Heap b).2.1 := by decide +kernel
theorem k_Heap : ∀ k, k < 5 → parseFieldDescriptor (F_Heap k).2.2.1 = some (t_Heap k) := by decide +kernel
def R_Machine : String := "TamedClassSet$Machine"
def F_Machine : u_T := fun k => match k with
  | 0 => ("TamedClassSet$Machine", "stepCount", "I", false)
  | 1 => ("TamedClassSet$Machine", "outcome", "I", false)
  | 2 => ("TamedClassSet$Machine", "plan", "LTamedClassSet$Plan;", true)
  | 3 => ("TamedClassSet$Machine", "heap", "LTamedClassSet$Heap;", true)
  | 4 => ("TamedClassSet$Machine", "frames", "[LTamedClassSet$Frame;", true)
  | 5 => ("TamedClassSet$Machine", "underWay", "I", false)
  | _ => ("TamedClassSet$Machine", "madeCount", "I", false)
def t_Machine : Nat → FieldType := fun k => match k with
  | 0 => .int
  | 1 => .int
  | 2 => .object "TamedClassSet$Plan"
  | 3 => .object "TamedClassSet$Heap"
  | 4 => .array (.object "TamedClassSet$Frame")
  | 5 => .int
  | _ => .int
theorem n_Machine : ∀ a, a < 7 → ∀ b, b < 7 → a ≠ b → (F_Machine a).2.1 ≠ (F_Machine b).2.1 := by decide +kernel
theorem k_Machine : ∀ k, k < 7 → parseFieldDescriptor (F_Machine k).2.2.1 = some (t_Machine k) := by decide +kernel
def R_Frame : String := "TamedClassSet$Frame"
def F_Frame : u_T := fun k => match k with
  | 0 => ("TamedClassSet$Frame", "method", "I", false)
  | 1 => ("TamedClassSet$Frame", "next", "I", false)
  | 2 => ("TamedClassSet$Frame", "locals", "[I", true)
  | 3 => ("TamedClassSet$Frame", "stack", "[I", true)
  | _ => ("TamedClassSet$Frame", "depth", "I", false)
def t_Frame : Nat → FieldType := fun k => match k with
  | 0 => .int
  | 1 => .int
  | 2 => .array .int
  | 3 => .array .int
  | _ => .int
theorem n_Frame : ∀ a, a < 5 → ∀ b, b < 5 → a ≠ b → (F_Frame a).2.1 ≠ (F_Frame b).2.1 := by decide +kernel
theorem k_Frame : ∀ k, k < 5 → parseFieldDescriptor (F_Frame k).2.2.1 = some (t_Frame k) := by decide +kernel
def R_Mo : String := "TamedClassSetModel"
def F_Mo : u_T := fun k => match k with
  | 0 => ("TamedClassSetModel", "classes", "I", false)
  | 1 => ("TamedClassSetModel", "parent", "[I", true)
  | 2 => ("TamedClassSetModel", "marks", "[I", true)
  | 3 => ("TamedClassSetModel", "fields", "I", false)
  | 4 => ("TamedClassSetModel", "fieldClass", "[I", true)
  | 5 => ("TamedClassSetModel", "fieldHow", "[I", true)
  | 6 => ("TamedClassSetModel", "fieldType", "[I", true)
  | 7 => ("TamedClassSetModel", "methods", "I", false)
  | 8 => ("TamedClassSetModel", "methodClass", "[I", true)
  | 9 => ("TamedClassSetModel", "methodHow", "[I", true)
  | 10 => ("TamedClassSetModel", "methodName", "[I", true)
  | 11 => ("TamedClassSetModel", "methodParam", "[I", true)
  | 12 => ("TamedClassSetModel", "methodResult", "[I", true)
  | 13 => ("TamedClassSetModel", "length", "[I", true)
  | 14 => ("TamedClassSetModel", "code", "[I", true)
  | 15 => ("TamedClassSetModel", "number", "[I", true)
  | 16 => ("TamedClassSetModel", "sealed", "Z", false)
  | 17 => ("TamedClassSetModel", "state", "[I", true)
  | 18 => ("TamedClassSetModel", "reached", "[Z", true)
  | 19 => ("TamedClassSetModel", "more", "Z", false)
  | 20 => ("TamedClassSetModel", "objects", "I", false)
  | 21 => ("TamedClassSetModel", "kind", "[I", true)
  | 22 => ("TamedClassSetModel", "slot", "[I", true)
  | 23 => ("TamedClassSetModel", "handles", "I", false)
  | 24 => ("TamedClassSetModel", "handle", "[I", true)
  | 25 => ("TamedClassSetModel", "runs", "I", false)
  | 26 => ("TamedClassSetModel", "steps", "I", false)
  | 27 => ("TamedClassSetModel", "made", "I", false)
  | 28 => ("TamedClassSetModel", "under", "I", false)
  | 29 => ("TamedClassSetModel", "doing", "[I", true)
  | 30 => ("TamedClassSetModel", "at", "[I", true)
  | 31 => ("TamedClassSetModel", "height", "[I", true)
  | 32 => ("TamedClassSetModel", "stack", "[I", true)
  | 33 => ("TamedClassSetModel", "local", "[I", true)
  | _ => ("TamedClassSetModel", "result", "I", false)
def t_Mo : Nat → FieldType := fun k => match k with
  | 0 => .int
  | 1 => .array .int
  | 2 => .array .int
  | 3 => .int
  | 4 => .array .int
  | 5 => .array .int
  | 6 => .array .int
  | 7 => .int
  | 8 => .array .int
  | 9 => .array .int
  | 10 => .array .int
  | 11 => .array .int
  | 12 => .array .int
  | 13 => .array .int
  | 14 => .array .int
  | 15 => .array .int
  | 16 => .boolean
  | 17 => .array .int
  | 18 => .array .boolean
  | 19 => .boolean
  | 20 => .int
  | 21 => .array .int
  | 22 => .array .int
  | 23 => .int
  | 24 => .array .int
  | 25 => .int
  | 26 => .int
  | 27 => .int
  | 28 => .int
  | 29 => .array .int
  | 30 => .array .int
  | 31 => .array .int
  | 32 => .array .int
  | 33 => .array .int
  | _ => .int
theorem n_Mo : ∀ a, a < 35 → ∀ b, b < 35 → a ≠ b → (F_Mo a).2.1 ≠ (F_Mo b).2.1 := by decide +kernel
theorem k_Mo : ∀ k, k < 35 → parseFieldDescriptor (F_Mo k).2.2.1 = some (t_Mo k) := by decide +kernel
def tx_cl : List vw_C := [(R_X, F_X, 8), (R_Plan, F_Plan, 16), (R_Fitting, F_Fitting, 9), (R_Rules, F_Rules, 2), (R_Heap, F_Heap, 5), (R_Machine, F_Machine, 7), (R_Frame, F_Frame, 5), (R_Mo, F_Mo, 35)]
abbrev tx_Fr : String := R_Frame
abbrev tx_cFr : Nat := 6
def tx_shl : List (Nat × Nat × List (Option Nat)) := [
  (3, 8, [some 1, some 15, some 20, some 21, some 25, none, none, none]),
  (4, 16, [none, none, none, some 2, some 3, some 4, some 5, some 6, some 7, some 8, some 9, some 10, some 11, some 12, some 13, some 14]),
  (0, 8, []),
  (0, 8, []),
  (0, 12, []),
  (0, 12, []),
  (0, 12, []),
  (0, 8, []),
  (0, 8, []),
  (0, 8, []),
  (0, 8, []),
  (0, 8, []),
  (0, 8, []),
  (0, 96, []),
  (0, 96, []),
  (5, 9, [some 16, some 1, some 17, some 18, some 19, none, none, none, none]),
  (0, 96, []),
  (0, 4, []),
  (0, 3, []),
  (0, 12, []),
  (6, 2, [some 1, some 15]),
  (7, 5, [some 22, some 23, some 24, none, none]),
  (0, 321, []),
  (0, 1284, []),
  (0, 16, []),
  (8, 7, [none, none, some 1, some 21, some 26, none, none]),
  (2, 6, [some 27, some 30, some 33, some 36, some 39, some 42]),
  (9, 5, [none, none, some 28, some 29, none]),
  (0, 3, []),
  (0, 4, []),
  (9, 5, [none, none, some 31, some 32, none]),
  (0, 3, []),
  (0, 4, []),
  (9, 5, [none, none, some 34, some 35, none]),
  (0, 3, []),
  (0, 4, []),
  (9, 5, [none, none, some 37, some 38, none]),
  (0, 3, []),
  (0, 4, []),
  (9, 5, [none, none, some 40, some 41, none]),
  (0, 3, []),
  (0, 4, []),
  (9, 5, [none, none, some 43, some 44, none]),
  (0, 3, []),
  (0, 4, []),
  (10, 35, [none, some 46, some 47, none, some 48, some 49, some 50, none, some 51, some 52, some 53, some 54, some 55, some 56, some 57, some 58, none, some 59, some 60, none, none, some 61, some 62, none, some 63, none, none, none, none, some 64, some 65, some 66, some 67, some 68, none]),
  (0, 8, []),
  (0, 8, []),
  (0, 12, []),
  (0, 12, []),
  (0, 12, []),
  (0, 8, []),
  (0, 8, []),
  (0, 8, []),
  (0, 8, []),
  (0, 8, []),
  (0, 8, []),
  (0, 96, []),
  (0, 96, []),
  (0, 96, []),
  (1, 96, []),
  (0, 320, []),
  (0, 3840, []),
  (0, 16, []),
  (0, 6, []),
  (0, 6, []),
  (0, 6, []),
  (0, 24, []),
  (0, 18, [])]
def tx_ws : List Cond := lw_tbl.filter goodWord
def y_Plan_isClass : MethodName := ⟨"TamedClassSet$Plan", "isClass", "(I)Z"⟩
abbrev c_Plan_isClass : ByteArray := prog_6_method_7_code
abbrev mi_Plan_isClass : String × ByteArray × Nat × Option FieldType × Room := ("TamedClassSet$Plan", c_Plan_isClass, 2, some .boolean, { frames := 0, cells := 0, slots := 0, locals := 0 })
def y_Plan_newClass : MethodName := ⟨"TamedClassSet$Plan", "newClass", "(II)I"⟩
abbrev c_Plan_newClass : ByteArray := prog_6_method_2_code
abbrev mi_Plan_newClass : String × ByteArray × Nat × Option FieldType × Room := ("TamedClassSet$Plan", c_Plan_newClass, 6, some .int, { frames := 0, cells := 0, slots := 0, locals := 0 })
def y_X_addClass : MethodName := ⟨"TamedClassSet", "addClass", "(II)I"⟩
abbrev c_X_addClass : ByteArray := prog_1_method_2_code
abbrev mi_X_addClass : String × ByteArray × Nat × Option FieldType × Room := ("TamedClassSet", c_X_addClass, 4, some .int, { frames := 1, cells := 0, slots := 0, locals := 25 })
def y_Plan_isType : MethodName := ⟨"TamedClassSet$Plan", "isType", "(I)Z"⟩
abbrev c_Plan_isType : ByteArray := prog_6_method_8_code
abbrev mi_Plan_isType : String × ByteArray × Nat × Option FieldType × Room := ("TamedClassSet$Plan", c_Plan_isType, 2, some .boolean, { frames := 0, cells := 0, slots := 0, locals := 0 })
def y_Plan_newField : MethodName := ⟨"TamedClassSet$Plan", "newField", "(III)I"⟩
abbrev c_Plan_newField : ByteArray := prog_6_method_3_code
abbrev mi_Plan_newField : String × ByteArray × Nat × Option FieldType × Room := ("TamedClassSet$Plan", c_Plan_newField, 5, some .int, { frames := 0, cells := 0, slots := 0, locals := 0 })
def y_X_addField : MethodName := ⟨"TamedClassSet", "addField", "(III)I"⟩
abbrev c_X_addField : ByteArray := prog_1_method_3_code
abbrev mi_X_addField : String × ByteArray × Nat × Option FieldType × Room := ("TamedClassSet", c_X_addField, 4, some .int, { frames := 1, cells := 0, slots := 0, locals := 24 })
def y_Plan_methodNamed : MethodName := ⟨"TamedClassSet$Plan", "methodNamed", "(II)I"⟩
abbrev c_Plan_methodNamed : ByteArray := prog_6_method_21_code
abbrev mi_Plan_methodNamed : String × ByteArray × Nat × Option FieldType × Room := ("TamedClassSet$Plan", c_Plan_methodNamed, 4, some .int, { frames := 0, cells := 0, slots := 0, locals := 0 })
def y_Plan_newMethod : MethodName := ⟨"TamedClassSet$Plan", "newMethod", "(IIIII)I"⟩
abbrev c_Plan_newMethod : ByteArray := prog_6_method_4_code
abbrev mi_Plan_newMethod : String × ByteArray × Nat × Option FieldType × Room := ("TamedClassSet$Plan", c_Plan_newMethod, 7, some .int, { frames := 0, cells := 0, slots := 0, locals := 0 })
def y_X_addMethod : MethodName := ⟨"TamedClassSet", "addMethod", "(IIIII)I"⟩
abbrev c_X_addMethod : ByteArray := prog_1_method_4_code
abbrev mi_X_addMethod : String × ByteArray × Nat × Option FieldType × Room := ("TamedClassSet", c_X_addMethod, 7, some .int, { frames := 1, cells := 0, slots := 0, locals := 26 })
def y_Plan_isMethod : MethodName := ⟨"TamedClassSet$Plan", "isMethod", "(I)Z"⟩
abbrev c_Plan_isMethod : ByteArray := prog_6_method_10_code
abbrev mi_Plan_isMethod : String × ByteArray × Nat × Option FieldType × Room := ("TamedClassSet$Plan", c_Plan_isMethod, 2, some .boolean, { frames := 0, cells := 0, slots := 0, locals := 0 })
def y_Plan_newInstruction : MethodName := ⟨"TamedClassSet$Plan", "newInstruction", "(III)I"⟩
abbrev c_Plan_newInstruction : ByteArray := prog_6_method_5_code
abbrev mi_Plan_newInstruction : String × ByteArray × Nat × Option FieldType × Room := ("TamedClassSet$Plan", c_Plan_newInstruction, 5, some .int, { frames := 0, cells := 0, slots := 0, locals := 0 })
def y_X_emit : MethodName := ⟨"TamedClassSet", "emit", "(III)I"⟩
abbrev c_X_emit : ByteArray := prog_1_method_5_code
abbrev mi_X_emit : String × ByteArray × Nat × Option FieldType × Room := ("TamedClassSet", c_X_emit, 4, some .int, { frames := 1, cells := 0, slots := 0, locals := 24 })
def y_Plan_isStaticField : MethodName := ⟨"TamedClassSet$Plan", "isStaticField", "(I)Z"⟩
abbrev c_Plan_isStaticField : ByteArray := prog_6_method_12_code
abbrev mi_Plan_isStaticField : String × ByteArray × Nat × Option FieldType × Room := ("TamedClassSet$Plan", c_Plan_isStaticField, 2, some .boolean, { frames := 0, cells := 0, slots := 0, locals := 0 })
def y_Plan_isFinalField : MethodName := ⟨"TamedClassSet$Plan", "isFinalField", "(I)Z"⟩
abbrev c_Plan_isFinalField : ByteArray := prog_6_method_13_code
abbrev mi_Plan_isFinalField : String × ByteArray × Nat × Option FieldType × Room := ("TamedClassSet$Plan", c_Plan_isFinalField, 2, some .boolean, { frames := 0, cells := 0, slots := 0, locals := 0 })
def y_Plan_isPowerless : MethodName := ⟨"TamedClassSet$Plan", "isPowerless", "(I)Z"⟩
abbrev c_Plan_isPowerless : ByteArray := prog_6_method_18_code
abbrev mi_Plan_isPowerless : String × ByteArray × Nat × Option FieldType × Room := ("TamedClassSet$Plan", c_Plan_isPowerless, 2, some .boolean, { frames := 0, cells := 0, slots := 0, locals := 0 })
def y_Rules_changesForAll : MethodName := ⟨"TamedClassSet$Rules", "changesForAll", "(I)Z"⟩
abbrev c_Rules_changesForAll : ByteArray := prog_7_method_3_code
abbrev mi_Rules_changesForAll : String × ByteArray × Nat × Option FieldType × Room := ("TamedClassSet$Rules", c_Rules_changesForAll, 2, some .boolean, { frames := 1, cells := 0, slots := 0, locals := 21 })
def y_Plan_isImmutable : MethodName := ⟨"TamedClassSet$Plan", "isImmutable", "(I)Z"⟩
abbrev c_Plan_isImmutable : ByteArray := prog_6_method_17_code
abbrev mi_Plan_isImmutable : String × ByteArray × Nat × Option FieldType × Room := ("TamedClassSet$Plan", c_Plan_isImmutable, 2, some .boolean, { frames := 0, cells := 0, slots := 0, locals := 0 })
def y_Plan_isUnder : MethodName := ⟨"TamedClassSet$Plan", "isUnder", "(II)Z"⟩
abbrev c_Plan_isUnder : ByteArray := prog_6_method_15_code
abbrev mi_Plan_isUnder : String × ByteArray × Nat × Option FieldType × Room := ("TamedClassSet$Plan", c_Plan_isUnder, 3, some .boolean, { frames := 0, cells := 0, slots := 0, locals := 0 })
def y_Plan_owns : MethodName := ⟨"TamedClassSet$Plan", "owns", "(II)Z"⟩
abbrev c_Plan_owns : ByteArray := prog_6_method_19_code
abbrev mi_Plan_owns : String × ByteArray × Nat × Option FieldType × Room := ("TamedClassSet$Plan", c_Plan_owns, 3, some .boolean, { frames := 1, cells := 0, slots := 0, locals := 22 })
def y_Rules_changesImmutable : MethodName := ⟨"TamedClassSet$Rules", "changesImmutable", "(I)Z"⟩
abbrev c_Rules_changesImmutable : ByteArray := prog_7_method_4_code
abbrev mi_Rules_changesImmutable : String × ByteArray × Nat × Option FieldType × Room := ("TamedClassSet$Rules", c_Rules_changesImmutable, 6, some .boolean, { frames := 2, cells := 0, slots := 0, locals := 44 })
def y_Plan_isStaticMethod : MethodName := ⟨"TamedClassSet$Plan", "isStaticMethod", "(I)Z"⟩
abbrev c_Plan_isStaticMethod : ByteArray := prog_6_method_14_code
abbrev mi_Plan_isStaticMethod : String × ByteArray × Nat × Option FieldType × Room := ("TamedClassSet$Plan", c_Plan_isStaticMethod, 2, some .boolean, { frames := 0, cells := 0, slots := 0, locals := 0 })
def y_Rules_agree : MethodName := ⟨"TamedClassSet$Rules", "agree", "(II)Z"⟩
abbrev c_Rules_agree : ByteArray := prog_7_method_6_code
abbrev mi_Rules_agree : String × ByteArray × Nat × Option FieldType × Room := ("TamedClassSet$Rules", c_Rules_agree, 3, some .boolean, { frames := 1, cells := 0, slots := 0, locals := 21 })
def y_Rules_overridesBadly : MethodName := ⟨"TamedClassSet$Rules", "overridesBadly", "(I)Z"⟩
abbrev c_Rules_overridesBadly : ByteArray := prog_7_method_5_code
abbrev mi_Rules_overridesBadly : String × ByteArray × Nat × Option FieldType × Room := ("TamedClassSet$Rules", c_Rules_overridesBadly, 6, some .boolean, { frames := 2, cells := 0, slots := 0, locals := 43 })
def y_Arr_rangeCheck : MethodName := ⟨"java/util/Arrays", "rangeCheck", "(III)V"⟩
abbrev c_Arr_rangeCheck : ByteArray := prog_12_method_30_code
abbrev mi_Arr_rangeCheck : String × ByteArray × Nat × Option FieldType × Room := ("java/util/Arrays", c_Arr_rangeCheck, 3, none, { frames := 0, cells := 0, slots := 0, locals := 0 })
def y_Arr_fill4 : MethodName := ⟨"java/util/Arrays", "fill", "([IIII)V"⟩
abbrev c_Arr_fill4 : ByteArray := prog_12_method_104_code
abbrev mi_Arr_fill4 : String × ByteArray × Nat × Option FieldType × Room := ("java/util/Arrays", c_Arr_fill4, 5, none, { frames := 1, cells := 0, slots := 0, locals := 22 })
def y_Arr_fill2 : MethodName := ⟨"java/util/Arrays", "fill", "([II)V"⟩
abbrev c_Arr_fill2 : ByteArray := prog_12_method_103_code
abbrev mi_Arr_fill2 : String × ByteArray × Nat × Option FieldType × Room := ("java/util/Arrays", c_Arr_fill2, 4, none, { frames := 0, cells := 0, slots := 0, locals := 0 })
def y_Fitting_begin : MethodName := ⟨"TamedClassSet$Fitting", "begin", "(I)V"⟩
abbrev c_Fitting_begin : ByteArray := prog_2_method_4_code
abbrev mi_Fitting_begin : String × ByteArray × Nat × Option FieldType × Room := ("TamedClassSet$Fitting", c_Fitting_begin, 3, none, { frames := 2, cells := 0, slots := 0, locals := 46 })
def y_Plan_isInstruction : MethodName := ⟨"TamedClassSet$Plan", "isInstruction", "(II)Z"⟩
abbrev c_Plan_isInstruction : ByteArray := prog_6_method_11_code
abbrev mi_Plan_isInstruction : String × ByteArray × Nat × Option FieldType × Room := ("TamedClassSet$Plan", c_Plan_isInstruction, 3, some .boolean, { frames := 0, cells := 0, slots := 0, locals := 0 })
def y_Fitting_packed : MethodName := ⟨"TamedClassSet$Fitting", "packed", "()I"⟩
abbrev c_Fitting_packed : ByteArray := prog_2_method_5_code
abbrev mi_Fitting_packed : String × ByteArray × Nat × Option FieldType × Room := ("TamedClassSet$Fitting", c_Fitting_packed, 3, some .int, { frames := 0, cells := 0, slots := 0, locals := 0 })
def y_Fitting_arriveAt : MethodName := ⟨"TamedClassSet$Fitting", "arriveAt", "(I)V"⟩
abbrev c_Fitting_arriveAt : ByteArray := prog_2_method_7_code
abbrev mi_Fitting_arriveAt : String × ByteArray × Nat × Option FieldType × Room := ("TamedClassSet$Fitting", c_Fitting_arriveAt, 4, none, { frames := 1, cells := 0, slots := 0, locals := 22 })
def y_Fitting_unpack : MethodName := ⟨"TamedClassSet$Fitting", "unpack", "(I)V"⟩
abbrev c_Fitting_unpack : ByteArray := prog_2_method_6_code
abbrev mi_Fitting_unpack : String × ByteArray × Nat × Option FieldType × Room := ("TamedClassSet$Fitting", c_Fitting_unpack, 3, none, { frames := 0, cells := 0, slots := 0, locals := 0 })
def y_Fitting_put : MethodName := ⟨"TamedClassSet$Fitting", "put", "(I)V"⟩
abbrev c_Fitting_put : ByteArray := prog_2_method_11_code
abbrev mi_Fitting_put : String × ByteArray × Nat × Option FieldType × Room := ("TamedClassSet$Fitting", c_Fitting_put, 2, none, { frames := 0, cells := 0, slots := 0, locals := 0 })
def y_Fitting_demand : MethodName := ⟨"TamedClassSet$Fitting", "demand", "(Z)V"⟩
abbrev c_Fitting_demand : ByteArray := prog_2_method_10_code
abbrev mi_Fitting_demand : String × ByteArray × Nat × Option FieldType × Room := ("TamedClassSet$Fitting", c_Fitting_demand, 2, none, { frames := 0, cells := 0, slots := 0, locals := 0 })
def y_Fitting_load : MethodName := ⟨"TamedClassSet$Fitting", "load", "(I)V"⟩
abbrev c_Fitting_load : ByteArray := prog_2_method_16_code
abbrev mi_Fitting_load : String × ByteArray × Nat × Option FieldType × Room := ("TamedClassSet$Fitting", c_Fitting_load, 2, none, { frames := 1, cells := 0, slots := 0, locals := 21 })
def y_Fitting_takeAny : MethodName := ⟨"TamedClassSet$Fitting", "takeAny", "()I"⟩
abbrev c_Fitting_takeAny : ByteArray := prog_2_method_13_code
abbrev mi_Fitting_takeAny : String × ByteArray × Nat × Option FieldType × Room := ("TamedClassSet$Fitting", c_Fitting_takeAny, 1, some .int, { frames := 0, cells := 0, slots := 0, locals := 0 })
def y_Fitting_store : MethodName := ⟨"TamedClassSet$Fitting", "store", "(I)V"⟩
abbrev c_Fitting_store : ByteArray := prog_2_method_17_code
abbrev mi_Fitting_store : String × ByteArray × Nat × Option FieldType × Room := ("TamedClassSet$Fitting", c_Fitting_store, 3, none, { frames := 1, cells := 0, slots := 0, locals := 21 })
def y_Plan_fits : MethodName := ⟨"TamedClassSet$Plan", "fits", "(II)Z"⟩
abbrev c_Plan_fits : ByteArray := prog_6_method_16_code
abbrev mi_Plan_fits : String × ByteArray × Nat × Option FieldType × Room := ("TamedClassSet$Plan", c_Plan_fits, 4, some .boolean, { frames := 0, cells := 0, slots := 0, locals := 0 })
def y_Fitting_take : MethodName := ⟨"TamedClassSet$Fitting", "take", "(I)V"⟩
abbrev c_Fitting_take : ByteArray := prog_2_method_14_code
abbrev mi_Fitting_take : String × ByteArray × Nat × Option FieldType × Room := ("TamedClassSet$Fitting", c_Fitting_take, 2, none, { frames := 1, cells := 0, slots := 0, locals := 23 })
def y_Fitting_make : MethodName := ⟨"TamedClassSet$Fitting", "make", "(I)V"⟩
abbrev c_Fitting_make : ByteArray := prog_2_method_18_code
abbrev mi_Fitting_make : String × ByteArray × Nat × Option FieldType × Room := ("TamedClassSet$Fitting", c_Fitting_make, 3, none, { frames := 2, cells := 0, slots := 0, locals := 44 })
def y_Plan_isField : MethodName := ⟨"TamedClassSet$Plan", "isField", "(I)Z"⟩
abbrev c_Plan_isField : ByteArray := prog_6_method_9_code
abbrev mi_Plan_isField : String × ByteArray × Nat × Option FieldType × Room := ("TamedClassSet$Plan", c_Plan_isField, 2, some .boolean, { frames := 0, cells := 0, slots := 0, locals := 0 })
def y_Fitting_useField : MethodName := ⟨"TamedClassSet$Fitting", "useField", "(II)V"⟩
abbrev c_Fitting_useField : ByteArray := prog_2_method_19_code
abbrev mi_Fitting_useField : String × ByteArray × Nat × Option FieldType × Room := ("TamedClassSet$Fitting", c_Fitting_useField, 3, none, { frames := 2, cells := 0, slots := 0, locals := 44 })
def y_Fitting_useStaticField : MethodName := ⟨"TamedClassSet$Fitting", "useStaticField", "(II)V"⟩
abbrev c_Fitting_useStaticField : ByteArray := prog_2_method_20_code
abbrev mi_Fitting_useStaticField : String × ByteArray × Nat × Option FieldType × Room := ("TamedClassSet$Fitting", c_Fitting_useStaticField, 3, none, { frames := 2, cells := 0, slots := 0, locals := 44 })
def y_Fitting_callMethod : MethodName := ⟨"TamedClassSet$Fitting", "callMethod", "(I)V"⟩
abbrev c_Fitting_callMethod : ByteArray := prog_2_method_21_code
abbrev mi_Fitting_callMethod : String × ByteArray × Nat × Option FieldType × Room := ("TamedClassSet$Fitting", c_Fitting_callMethod, 2, none, { frames := 2, cells := 0, slots := 0, locals := 44 })
def y_Fitting_takeReference : MethodName := ⟨"TamedClassSet$Fitting", "takeReference", "()V"⟩
abbrev c_Fitting_takeReference : ByteArray := prog_2_method_15_code
abbrev mi_Fitting_takeReference : String × ByteArray × Nat × Option FieldType × Room := ("TamedClassSet$Fitting", c_Fitting_takeReference, 1, none, { frames := 1, cells := 0, slots := 0, locals := 21 })
def y_Fitting_putClass : MethodName := ⟨"TamedClassSet$Fitting", "putClass", "(I)V"⟩
abbrev c_Fitting_putClass : ByteArray := prog_2_method_12_code
abbrev mi_Fitting_putClass : String × ByteArray × Nat × Option FieldType × Room := ("TamedClassSet$Fitting", c_Fitting_putClass, 2, none, { frames := 1, cells := 0, slots := 0, locals := 21 })
def y_Fitting_apply : MethodName := ⟨"TamedClassSet$Fitting", "apply", "(II)V"⟩
abbrev c_Fitting_apply : ByteArray := prog_2_method_9_code
abbrev mi_Fitting_apply : String × ByteArray × Nat × Option FieldType × Room := ("TamedClassSet$Fitting", c_Fitting_apply, 3, none, { frames := 3, cells := 0, slots := 0, locals := 66 })
def y_Fitting_leave : MethodName := ⟨"TamedClassSet$Fitting", "leave", "(III)V"⟩
abbrev c_Fitting_leave : ByteArray := prog_2_method_8_code
abbrev mi_Fitting_leave : String × ByteArray × Nat × Option FieldType × Room := ("TamedClassSet$Fitting", c_Fitting_leave, 4, none, { frames := 2, cells := 0, slots := 0, locals := 45 })
def y_Fitting_codeFits : MethodName := ⟨"TamedClassSet$Fitting", "codeFits", "(I)Z"⟩
abbrev c_Fitting_codeFits : ByteArray := prog_2_method_2_code
abbrev mi_Fitting_codeFits : String × ByteArray × Nat × Option FieldType × Room := ("TamedClassSet$Fitting", c_Fitting_codeFits, 5, some .boolean, { frames := 4, cells := 0, slots := 0, locals := 88 })
def y_Fitting_comparesImmutable : MethodName := ⟨"TamedClassSet$Fitting", "comparesImmutable", "(II)Z"⟩
abbrev c_Fitting_comparesImmutable : ByteArray := prog_2_method_3_code
abbrev mi_Fitting_comparesImmutable : String × ByteArray × Nat × Option FieldType × Room := ("TamedClassSet$Fitting", c_Fitting_comparesImmutable, 3, some .boolean, { frames := 1, cells := 0, slots := 0, locals := 22 })
def y_Rules_breaks : MethodName := ⟨"TamedClassSet$Rules", "breaks", "(III)Z"⟩
abbrev c_Rules_breaks : ByteArray := prog_7_method_7_code
abbrev mi_Rules_breaks : String × ByteArray × Nat × Option FieldType × Room := ("TamedClassSet$Rules", c_Rules_breaks, 6, some .boolean, { frames := 2, cells := 0, slots := 0, locals := 44 })
def y_Rules_firstBreach : MethodName := ⟨"TamedClassSet$Rules", "firstBreach", "(I)I"⟩
abbrev c_Rules_firstBreach : ByteArray := prog_7_method_2_code
abbrev mi_Rules_firstBreach : String × ByteArray × Nat × Option FieldType × Room := ("TamedClassSet$Rules", c_Rules_firstBreach, 4, some .int, { frames := 5, cells := 0, slots := 0, locals := 112 })
def y_X_check : MethodName := ⟨"TamedClassSet", "check", "()I"⟩
abbrev c_X_check : ByteArray := prog_1_method_6_code
abbrev mi_X_check : String × ByteArray × Nat × Option FieldType × Room := ("TamedClassSet", c_X_check, 3, some .int, { frames := 6, cells := 0, slots := 0, locals := 135 })
def y_Plan_forgetAll : MethodName := ⟨"TamedClassSet$Plan", "forgetAll", "()V"⟩
abbrev c_Plan_forgetAll : ByteArray := prog_6_method_6_code
abbrev mi_Plan_forgetAll : String × ByteArray × Nat × Option FieldType × Room := ("TamedClassSet$Plan", c_Plan_forgetAll, 1, none, { frames := 0, cells := 0, slots := 0, locals := 0 })
def y_Heap_forgetAll : MethodName := ⟨"TamedClassSet$Heap", "forgetAll", "()V"⟩
abbrev c_Heap_forgetAll : ByteArray := prog_4_method_2_code
abbrev mi_Heap_forgetAll : String × ByteArray × Nat × Option FieldType × Room := ("TamedClassSet$Heap", c_Heap_forgetAll, 1, none, { frames := 0, cells := 0, slots := 0, locals := 0 })
def y_X_clear : MethodName := ⟨"TamedClassSet", "clear", "()V"⟩
abbrev c_X_clear : ByteArray := prog_1_method_7_code
abbrev mi_X_clear : String × ByteArray × Nat × Option FieldType × Room := ("TamedClassSet", c_X_clear, 1, none, { frames := 1, cells := 0, slots := 0, locals := 20 })
def y_X_typesAt : MethodName := ⟨"TamedClassSet", "typesAt", "(II)I"⟩
abbrev c_X_typesAt : ByteArray := prog_1_method_8_code
abbrev mi_X_typesAt : String × ByteArray × Nat × Option FieldType × Room := ("TamedClassSet", c_X_typesAt, 3, some .int, { frames := 1, cells := 0, slots := 0, locals := 22 })
def y_Heap_inHandle : MethodName := ⟨"TamedClassSet$Heap", "inHandle", "(I)I"⟩
abbrev c_Heap_inHandle : ByteArray := prog_4_method_6_code
abbrev mi_Heap_inHandle : String × ByteArray × Nat × Option FieldType × Room := ("TamedClassSet$Heap", c_Heap_inHandle, 2, some .int, { frames := 0, cells := 0, slots := 0, locals := 0 })
def y_X_receiverFits : MethodName := ⟨"TamedClassSet", "receiverFits", "(II)Z"⟩
abbrev c_X_receiverFits : ByteArray := prog_1_method_14_code
abbrev mi_X_receiverFits : String × ByteArray × Nat × Option FieldType × Room := ("TamedClassSet", c_X_receiverFits, 4, some .boolean, { frames := 1, cells := 0, slots := 0, locals := 23 })
def y_X_argumentFits : MethodName := ⟨"TamedClassSet", "argumentFits", "(II)Z"⟩
abbrev c_X_argumentFits : ByteArray := prog_1_method_15_code
abbrev mi_X_argumentFits : String × ByteArray × Nat × Option FieldType × Room := ("TamedClassSet", c_X_argumentFits, 4, some .boolean, { frames := 1, cells := 0, slots := 0, locals := 23 })
def y_Frame_begin : MethodName := ⟨"TamedClassSet$Frame", "begin", "(I)V"⟩
abbrev c_Frame_begin : ByteArray := prog_3_method_2_code
abbrev mi_Frame_begin : String × ByteArray × Nat × Option FieldType × Room := ("TamedClassSet$Frame", c_Frame_begin, 2, none, { frames := 0, cells := 0, slots := 0, locals := 0 })
def y_Plan_chosenMethod : MethodName := ⟨"TamedClassSet$Plan", "chosenMethod", "(II)I"⟩
abbrev c_Plan_chosenMethod : ByteArray := prog_6_method_22_code
abbrev mi_Plan_chosenMethod : String × ByteArray × Nat × Option FieldType × Room := ("TamedClassSet$Plan", c_Plan_chosenMethod, 5, some .int, { frames := 1, cells := 0, slots := 0, locals := 23 })
def y_Machine_enter : MethodName := ⟨"TamedClassSet$Machine", "enter", "(III)V"⟩
abbrev c_Machine_enter : ByteArray := prog_5_method_3_code
abbrev mi_Machine_enter : String × ByteArray × Nat × Option FieldType × Room := ("TamedClassSet$Machine", c_Machine_enter, 6, none, { frames := 2, cells := 0, slots := 0, locals := 47 })
def y_Frame_push : MethodName := ⟨"TamedClassSet$Frame", "push", "(I)V"⟩
abbrev c_Frame_push : ByteArray := prog_3_method_3_code
abbrev mi_Frame_push : String × ByteArray × Nat × Option FieldType × Room := ("TamedClassSet$Frame", c_Frame_push, 2, none, { frames := 0, cells := 0, slots := 0, locals := 0 })
def y_Frame_pop : MethodName := ⟨"TamedClassSet$Frame", "pop", "()I"⟩
abbrev c_Frame_pop : ByteArray := prog_3_method_4_code
abbrev mi_Frame_pop : String × ByteArray × Nat × Option FieldType × Room := ("TamedClassSet$Frame", c_Frame_pop, 1, some .int, { frames := 0, cells := 0, slots := 0, locals := 0 })
def y_Machine_combine : MethodName := ⟨"TamedClassSet$Machine", "combine", "(LTamedClassSet$Frame;I)I"⟩
abbrev c_Machine_combine : ByteArray := prog_5_method_5_code
abbrev mi_Machine_combine : String × ByteArray × Nat × Option FieldType × Room := ("TamedClassSet$Machine", c_Machine_combine, 5, some .int, { frames := 1, cells := 0, slots := 0, locals := 21 })
def y_Heap_newThing : MethodName := ⟨"TamedClassSet$Heap", "newThing", "(I)I"⟩
abbrev c_Heap_newThing : ByteArray := prog_4_method_3_code
abbrev mi_Heap_newThing : String × ByteArray × Nat × Option FieldType × Room := ("TamedClassSet$Heap", c_Heap_newThing, 2, some .int, { frames := 0, cells := 0, slots := 0, locals := 0 })
def y_Plan_slotOf : MethodName := ⟨"TamedClassSet$Plan", "slotOf", "(II)I"⟩
abbrev c_Plan_slotOf : ByteArray := prog_6_method_20_code
abbrev mi_Plan_slotOf : String × ByteArray × Nat × Option FieldType × Room := ("TamedClassSet$Plan", c_Plan_slotOf, 5, some .int, { frames := 2, cells := 0, slots := 0, locals := 44 })
def y_Heap_setSlot : MethodName := ⟨"TamedClassSet$Heap", "setSlot", "(III)V"⟩
abbrev c_Heap_setSlot : ByteArray := prog_4_method_5_code
abbrev mi_Heap_setSlot : String × ByteArray × Nat × Option FieldType × Room := ("TamedClassSet$Heap", c_Heap_setSlot, 4, none, { frames := 0, cells := 0, slots := 0, locals := 0 })
def y_Machine_make : MethodName := ⟨"TamedClassSet$Machine", "make", "(LTamedClassSet$Frame;I)I"⟩
abbrev c_Machine_make : ByteArray := prog_5_method_6_code
abbrev mi_Machine_make : String × ByteArray × Nat × Option FieldType × Room := ("TamedClassSet$Machine", c_Machine_make, 6, some .int, { frames := 3, cells := 0, slots := 0, locals := 68 })
def y_Heap_slotValue : MethodName := ⟨"TamedClassSet$Heap", "slotValue", "(II)I"⟩
abbrev c_Heap_slotValue : ByteArray := prog_4_method_4_code
abbrev mi_Heap_slotValue : String × ByteArray × Nat × Option FieldType × Room := ("TamedClassSet$Heap", c_Heap_slotValue, 3, some .int, { frames := 0, cells := 0, slots := 0, locals := 0 })
def y_Machine_useField : MethodName := ⟨"TamedClassSet$Machine", "useField", "(LTamedClassSet$Frame;II)I"⟩
abbrev c_Machine_useField : ByteArray := prog_5_method_8_code
abbrev mi_Machine_useField : String × ByteArray × Nat × Option FieldType × Room := ("TamedClassSet$Machine", c_Machine_useField, 7, some .int, { frames := 3, cells := 0, slots := 0, locals := 68 })
def y_Machine_callMethod : MethodName := ⟨"TamedClassSet$Machine", "callMethod", "(LTamedClassSet$Frame;I)I"⟩
abbrev c_Machine_callMethod : ByteArray := prog_5_method_10_code
abbrev mi_Machine_callMethod : String × ByteArray × Nat × Option FieldType × Room := ("TamedClassSet$Machine", c_Machine_callMethod, 6, some .int, { frames := 3, cells := 0, slots := 0, locals := 72 })
def y_Machine_makeCell : MethodName := ⟨"TamedClassSet$Machine", "makeCell", "(LTamedClassSet$Frame;)I"⟩
abbrev c_Machine_makeCell : ByteArray := prog_5_method_7_code
abbrev mi_Machine_makeCell : String × ByteArray × Nat × Option FieldType × Room := ("TamedClassSet$Machine", c_Machine_makeCell, 3, some .int, { frames := 1, cells := 0, slots := 0, locals := 23 })
def y_Machine_useCell : MethodName := ⟨"TamedClassSet$Machine", "useCell", "(LTamedClassSet$Frame;I)I"⟩
abbrev c_Machine_useCell : ByteArray := prog_5_method_9_code
abbrev mi_Machine_useCell : String × ByteArray × Nat × Option FieldType × Room := ("TamedClassSet$Machine", c_Machine_useCell, 5, some .int, { frames := 1, cells := 0, slots := 0, locals := 23 })
def y_Math_abs : MethodName := ⟨"java/lang/Math", "abs", "(I)I"⟩
abbrev c_Math_abs : ByteArray := prog_11_method_59_code
abbrev mi_Math_abs : String × ByteArray × Nat × Option FieldType × Room := ("java/lang/Math", c_Math_abs, 1, some .int, { frames := 0, cells := 0, slots := 0, locals := 0 })
def y_Int_bitCount : MethodName := ⟨"java/lang/Integer", "bitCount", "(I)I"⟩
abbrev c_Int_bitCount : ByteArray := prog_10_method_49_code
abbrev mi_Int_bitCount : String × ByteArray × Nat × Option FieldType × Room := ("java/lang/Integer", c_Int_bitCount, 1, some .int, { frames := 0, cells := 0, slots := 0, locals := 0 })
def y_Machine_library : MethodName := ⟨"TamedClassSet$Machine", "library", "(LTamedClassSet$Frame;I)I"⟩
abbrev c_Machine_library : ByteArray := prog_5_method_11_code
abbrev mi_Machine_library : String × ByteArray × Nat × Option FieldType × Room := ("TamedClassSet$Machine", c_Machine_library, 4, some .int, { frames := 1, cells := 0, slots := 0, locals := 21 })
def y_Machine_leave : MethodName := ⟨"TamedClassSet$Machine", "leave", "(LTamedClassSet$Frame;)I"⟩
abbrev c_Machine_leave : ByteArray := prog_5_method_12_code
abbrev mi_Machine_leave : String × ByteArray × Nat × Option FieldType × Room := ("TamedClassSet$Machine", c_Machine_leave, 2, some .int, { frames := 1, cells := 0, slots := 0, locals := 21 })
def y_Machine_step : MethodName := ⟨"TamedClassSet$Machine", "step", "(LTamedClassSet$Frame;)I"⟩
abbrev c_Machine_step : ByteArray := prog_5_method_4_code
abbrev mi_Machine_step : String × ByteArray × Nat × Option FieldType × Room := ("TamedClassSet$Machine", c_Machine_step, 5, some .int, { frames := 4, cells := 0, slots := 0, locals := 97 })
def y_Machine_execute : MethodName := ⟨"TamedClassSet$Machine", "execute", "(III)I"⟩
abbrev c_Machine_execute : ByteArray := prog_5_method_2_code
abbrev mi_Machine_execute : String × ByteArray × Nat × Option FieldType × Room := ("TamedClassSet$Machine", c_Machine_execute, 5, some .int, { frames := 5, cells := 0, slots := 0, locals := 121 })
def y_Heap_handleOf : MethodName := ⟨"TamedClassSet$Heap", "handleOf", "(I)I"⟩
abbrev c_Heap_handleOf : ByteArray := prog_4_method_7_code
abbrev mi_Heap_handleOf : String × ByteArray × Nat × Option FieldType × Room := ("TamedClassSet$Heap", c_Heap_handleOf, 3, some .int, { frames := 0, cells := 0, slots := 0, locals := 0 })
def y_Heap_hold : MethodName := ⟨"TamedClassSet$Heap", "hold", "(I)V"⟩
abbrev c_Heap_hold : ByteArray := prog_4_method_8_code
abbrev mi_Heap_hold : String × ByteArray × Nat × Option FieldType × Room := ("TamedClassSet$Heap", c_Heap_hold, 3, none, { frames := 1, cells := 0, slots := 0, locals := 22 })
def y_X_answerOf : MethodName := ⟨"TamedClassSet", "answerOf", "(II)J"⟩
abbrev c_X_answerOf : ByteArray := prog_1_method_16_code
abbrev mi_X_answerOf : String × ByteArray × Nat × Option FieldType × Room := ("TamedClassSet", c_X_answerOf, 4, some .long, { frames := 1, cells := 0, slots := 0, locals := 22 })
def y_X_run : MethodName := ⟨"TamedClassSet", "run", "(III)J"⟩
abbrev c_X_run : ByteArray := prog_1_method_9_code
abbrev mi_X_run : String × ByteArray × Nat × Option FieldType × Room := ("TamedClassSet", c_X_run, 8, some .long, { frames := 6, cells := 0, slots := 0, locals := 145 })
def y_X_look : MethodName := ⟨"TamedClassSet", "look", "(II)J"⟩
abbrev c_X_look : ByteArray := prog_1_method_10_code
abbrev mi_X_look : String × ByteArray × Nat × Option FieldType × Room := ("TamedClassSet", c_X_look, 6, some .long, { frames := 3, cells := 0, slots := 0, locals := 68 })
def y_X_held : MethodName := ⟨"TamedClassSet", "held", "(I)I"⟩
abbrev c_X_held : ByteArray := prog_1_method_11_code
abbrev mi_X_held : String × ByteArray × Nat × Option FieldType × Room := ("TamedClassSet", c_X_held, 3, some .int, { frames := 1, cells := 0, slots := 0, locals := 21 })
def y_X_runs : MethodName := ⟨"TamedClassSet", "runs", "()I"⟩
abbrev c_X_runs : ByteArray := prog_1_method_12_code
abbrev mi_X_runs : String × ByteArray × Nat × Option FieldType × Room := ("TamedClassSet", c_X_runs, 1, some .int, { frames := 0, cells := 0, slots := 0, locals := 0 })
def y_X_steps : MethodName := ⟨"TamedClassSet", "steps", "()I"⟩
abbrev c_X_steps : ByteArray := prog_1_method_13_code
abbrev mi_X_steps : String × ByteArray × Nat × Option FieldType × Room := ("TamedClassSet", c_X_steps, 1, some .int, { frames := 0, cells := 0, slots := 0, locals := 0 })
def y_Mo_isClass : MethodName := ⟨"TamedClassSetModel", "isClass", "(I)Z"⟩
abbrev c_Mo_isClass : ByteArray := prog_9_method_2_code
abbrev mi_Mo_isClass : String × ByteArray × Nat × Option FieldType × Room := ("TamedClassSetModel", c_Mo_isClass, 2, some .boolean, { frames := 0, cells := 0, slots := 0, locals := 0 })
def y_Mo_addClass : MethodName := ⟨"TamedClassSetModel", "addClass", "(II)I"⟩
abbrev c_Mo_addClass : ByteArray := prog_9_method_5_code
abbrev mi_Mo_addClass : String × ByteArray × Nat × Option FieldType × Room := ("TamedClassSetModel", c_Mo_addClass, 3, some .int, { frames := 1, cells := 0, slots := 0, locals := 21 })
def y_Mo_isType : MethodName := ⟨"TamedClassSetModel", "isType", "(I)Z"⟩
abbrev c_Mo_isType : ByteArray := prog_9_method_3_code
abbrev mi_Mo_isType : String × ByteArray × Nat × Option FieldType × Room := ("TamedClassSetModel", c_Mo_isType, 2, some .boolean, { frames := 1, cells := 0, slots := 0, locals := 21 })
def y_Mo_addField : MethodName := ⟨"TamedClassSetModel", "addField", "(III)I"⟩
abbrev c_Mo_addField : ByteArray := prog_9_method_6_code
abbrev mi_Mo_addField : String × ByteArray × Nat × Option FieldType × Room := ("TamedClassSetModel", c_Mo_addField, 4, some .int, { frames := 2, cells := 0, slots := 0, locals := 42 })
def y_Mo_methodOf : MethodName := ⟨"TamedClassSetModel", "methodOf", "(II)I"⟩
abbrev c_Mo_methodOf : ByteArray := prog_9_method_8_code
abbrev mi_Mo_methodOf : String × ByteArray × Nat × Option FieldType × Room := ("TamedClassSetModel", c_Mo_methodOf, 4, some .int, { frames := 0, cells := 0, slots := 0, locals := 0 })
def y_Mo_addMethod : MethodName := ⟨"TamedClassSetModel", "addMethod", "(IIIII)I"⟩
abbrev c_Mo_addMethod : ByteArray := prog_9_method_7_code
abbrev mi_Mo_addMethod : String × ByteArray × Nat × Option FieldType × Room := ("TamedClassSetModel", c_Mo_addMethod, 6, some .int, { frames := 2, cells := 0, slots := 0, locals := 42 })
def y_Mo_isMethod : MethodName := ⟨"TamedClassSetModel", "isMethod", "(I)Z"⟩
abbrev c_Mo_isMethod : ByteArray := prog_9_method_4_code
abbrev mi_Mo_isMethod : String × ByteArray × Nat × Option FieldType × Room := ("TamedClassSetModel", c_Mo_isMethod, 2, some .boolean, { frames := 0, cells := 0, slots := 0, locals := 0 })
def y_Mo_emit : MethodName := ⟨"TamedClassSetModel", "emit", "(III)I"⟩
abbrev c_Mo_emit : ByteArray := prog_9_method_9_code
abbrev mi_Mo_emit : String × ByteArray × Nat × Option FieldType × Room := ("TamedClassSetModel", c_Mo_emit, 5, some .int, { frames := 1, cells := 0, slots := 0, locals := 21 })
def y_Mo_clear : MethodName := ⟨"TamedClassSetModel", "clear", "()V"⟩
abbrev c_Mo_clear : ByteArray := prog_9_method_10_code
abbrev mi_Mo_clear : String × ByteArray × Nat × Option FieldType × Room := ("TamedClassSetModel", c_Mo_clear, 1, none, { frames := 0, cells := 0, slots := 0, locals := 0 })
def y_Mo_isStatic : MethodName := ⟨"TamedClassSetModel", "isStatic", "(I)Z"⟩
abbrev c_Mo_isStatic : ByteArray := prog_9_method_16_code
abbrev mi_Mo_isStatic : String × ByteArray × Nat × Option FieldType × Room := ("TamedClassSetModel", c_Mo_isStatic, 2, some .boolean, { frames := 0, cells := 0, slots := 0, locals := 0 })
def y_Mo_isFinal : MethodName := ⟨"TamedClassSetModel", "isFinal", "(I)Z"⟩
abbrev c_Mo_isFinal : ByteArray := prog_9_method_17_code
abbrev mi_Mo_isFinal : String × ByteArray × Nat × Option FieldType × Room := ("TamedClassSetModel", c_Mo_isFinal, 2, some .boolean, { frames := 0, cells := 0, slots := 0, locals := 0 })
def y_Mo_inLine : MethodName := ⟨"TamedClassSetModel", "inLine", "(II)Z"⟩
abbrev c_Mo_inLine : ByteArray := prog_9_method_11_code
abbrev mi_Mo_inLine : String × ByteArray × Nat × Option FieldType × Room := ("TamedClassSetModel", c_Mo_inLine, 5, some .boolean, { frames := 0, cells := 0, slots := 0, locals := 0 })
def y_Mo_marked : MethodName := ⟨"TamedClassSetModel", "marked", "(II)Z"⟩
abbrev c_Mo_marked : ByteArray := prog_9_method_12_code
abbrev mi_Mo_marked : String × ByteArray × Nat × Option FieldType × Room := ("TamedClassSetModel", c_Mo_marked, 5, some .boolean, { frames := 1, cells := 0, slots := 0, locals := 24 })
def y_Mo_powerless : MethodName := ⟨"TamedClassSetModel", "powerless", "(I)Z"⟩
abbrev c_Mo_powerless : ByteArray := prog_9_method_14_code
abbrev mi_Mo_powerless : String × ByteArray × Nat × Option FieldType × Room := ("TamedClassSetModel", c_Mo_powerless, 2, some .boolean, { frames := 2, cells := 0, slots := 0, locals := 48 })
def y_Mo_looseStatic : MethodName := ⟨"TamedClassSetModel", "looseStatic", "(I)Z"⟩
abbrev c_Mo_looseStatic : ByteArray := prog_9_method_35_code
abbrev mi_Mo_looseStatic : String × ByteArray × Nat × Option FieldType × Room := ("TamedClassSetModel", c_Mo_looseStatic, 2, some .boolean, { frames := 3, cells := 0, slots := 0, locals := 69 })
def y_Mo_owns : MethodName := ⟨"TamedClassSetModel", "owns", "(II)Z"⟩
abbrev c_Mo_owns : ByteArray := prog_9_method_18_code
abbrev mi_Mo_owns : String × ByteArray × Nat × Option FieldType × Room := ("TamedClassSetModel", c_Mo_owns, 3, some .boolean, { frames := 1, cells := 0, slots := 0, locals := 24 })
def y_Mo_immutable : MethodName := ⟨"TamedClassSetModel", "immutable", "(I)Z"⟩
abbrev c_Mo_immutable : ByteArray := prog_9_method_13_code
abbrev mi_Mo_immutable : String × ByteArray × Nat × Option FieldType × Room := ("TamedClassSetModel", c_Mo_immutable, 2, some .boolean, { frames := 2, cells := 0, slots := 0, locals := 48 })
def y_Mo_looseField : MethodName := ⟨"TamedClassSetModel", "looseField", "(I)Z"⟩
abbrev c_Mo_looseField : ByteArray := prog_9_method_36_code
abbrev mi_Mo_looseField : String × ByteArray × Nat × Option FieldType × Room := ("TamedClassSetModel", c_Mo_looseField, 4, some .boolean, { frames := 3, cells := 0, slots := 0, locals := 69 })
def y_Mo_unlike : MethodName := ⟨"TamedClassSetModel", "unlike", "(I)Z"⟩
abbrev c_Mo_unlike : ByteArray := prog_9_method_37_code
abbrev mi_Mo_unlike : String × ByteArray × Nat × Option FieldType × Room := ("TamedClassSetModel", c_Mo_unlike, 6, some .boolean, { frames := 1, cells := 0, slots := 0, locals := 24 })
def y_Mo_led : MethodName := ⟨"TamedClassSetModel", "led", "(III)Z"⟩
abbrev c_Mo_led : ByteArray := prog_9_method_32_code
abbrev mi_Mo_led : String × ByteArray × Nat × Option FieldType × Room := ("TamedClassSetModel", c_Mo_led, 5, some .boolean, { frames := 0, cells := 0, slots := 0, locals := 0 })
def y_Mo_depth : MethodName := ⟨"TamedClassSetModel", "depth", "(I)I"⟩
abbrev c_Mo_depth : ByteArray := prog_9_method_20_code
abbrev mi_Mo_depth : String × ByteArray × Nat × Option FieldType × Room := ("TamedClassSetModel", c_Mo_depth, 2, some .int, { frames := 0, cells := 0, slots := 0, locals := 0 })
def y_Mo_give : MethodName := ⟨"TamedClassSetModel", "give", "(II)I"⟩
abbrev c_Mo_give : ByteArray := prog_9_method_25_code
abbrev mi_Mo_give : String × ByteArray × Nat × Option FieldType × Room := ("TamedClassSetModel", c_Mo_give, 3, some .int, { frames := 1, cells := 0, slots := 0, locals := 21 })
def y_Mo_loaded : MethodName := ⟨"TamedClassSetModel", "loaded", "(II)I"⟩
abbrev c_Mo_loaded : ByteArray := prog_9_method_26_code
abbrev mi_Mo_loaded : String × ByteArray × Nat × Option FieldType × Room := ("TamedClassSetModel", c_Mo_loaded, 4, some .int, { frames := 2, cells := 0, slots := 0, locals := 43 })
def y_Mo_typeAt : MethodName := ⟨"TamedClassSetModel", "typeAt", "(II)I"⟩
abbrev c_Mo_typeAt : ByteArray := prog_9_method_21_code
abbrev mi_Mo_typeAt : String × ByteArray × Nat × Option FieldType × Room := ("TamedClassSetModel", c_Mo_typeAt, 3, some .int, { frames := 1, cells := 0, slots := 0, locals := 21 })
def y_Mo_drop : MethodName := ⟨"TamedClassSetModel", "drop", "(I)I"⟩
abbrev c_Mo_drop : ByteArray := prog_9_method_22_code
abbrev mi_Mo_drop : String × ByteArray × Nat × Option FieldType × Room := ("TamedClassSetModel", c_Mo_drop, 2, some .int, { frames := 1, cells := 0, slots := 0, locals := 21 })
def y_Mo_stored : MethodName := ⟨"TamedClassSetModel", "stored", "(II)I"⟩
abbrev c_Mo_stored : ByteArray := prog_9_method_27_code
abbrev mi_Mo_stored : String × ByteArray × Nat × Option FieldType × Room := ("TamedClassSetModel", c_Mo_stored, 5, some .int, { frames := 2, cells := 0, slots := 0, locals := 43 })
def y_Mo_fits : MethodName := ⟨"TamedClassSetModel", "fits", "(II)Z"⟩
abbrev c_Mo_fits : ByteArray := prog_9_method_15_code
abbrev mi_Mo_fits : String × ByteArray × Nat × Option FieldType × Room := ("TamedClassSetModel", c_Mo_fits, 3, some .boolean, { frames := 1, cells := 0, slots := 0, locals := 24 })
def y_Mo_take : MethodName := ⟨"TamedClassSetModel", "take", "(II)I"⟩
abbrev c_Mo_take : ByteArray := prog_9_method_23_code
abbrev mi_Mo_take : String × ByteArray × Nat × Option FieldType × Room := ("TamedClassSetModel", c_Mo_take, 4, some .int, { frames := 2, cells := 0, slots := 0, locals := 46 })
def y_Mo_makes : MethodName := ⟨"TamedClassSetModel", "makes", "(II)I"⟩
abbrev c_Mo_makes : ByteArray := prog_9_method_28_code
abbrev mi_Mo_makes : String × ByteArray × Nat × Option FieldType × Room := ("TamedClassSetModel", c_Mo_makes, 5, some .int, { frames := 3, cells := 0, slots := 0, locals := 69 })
def y_Mo_isField : MethodName := ⟨"TamedClassSetModel", "isField", "(IZ)Z"⟩
abbrev c_Mo_isField : ByteArray := prog_9_method_19_code
abbrev mi_Mo_isField : String × ByteArray × Nat × Option FieldType × Room := ("TamedClassSetModel", c_Mo_isField, 3, some .boolean, { frames := 1, cells := 0, slots := 0, locals := 21 })
def y_Mo_fielded : MethodName := ⟨"TamedClassSetModel", "fielded", "(III)I"⟩
abbrev c_Mo_fielded : ByteArray := prog_9_method_30_code
abbrev mi_Mo_fielded : String × ByteArray × Nat × Option FieldType × Room := ("TamedClassSetModel", c_Mo_fielded, 6, some .int, { frames := 3, cells := 0, slots := 0, locals := 69 })
def y_Mo_calls : MethodName := ⟨"TamedClassSetModel", "calls", "(II)I"⟩
abbrev c_Mo_calls : ByteArray := prog_9_method_29_code
abbrev mi_Mo_calls : String × ByteArray × Nat × Option FieldType × Room := ("TamedClassSetModel", c_Mo_calls, 4, some .int, { frames := 3, cells := 0, slots := 0, locals := 69 })
def y_Mo_takeThing : MethodName := ⟨"TamedClassSetModel", "takeThing", "(I)I"⟩
abbrev c_Mo_takeThing : ByteArray := prog_9_method_24_code
abbrev mi_Mo_takeThing : String × ByteArray × Nat × Option FieldType × Room := ("TamedClassSetModel", c_Mo_takeThing, 2, some .int, { frames := 2, cells := 0, slots := 0, locals := 43 })
def y_Mo_after : MethodName := ⟨"TamedClassSetModel", "after", "(II)I"⟩
abbrev c_Mo_after : ByteArray := prog_9_method_31_code
abbrev mi_Mo_after : String × ByteArray × Nat × Option FieldType × Room := ("TamedClassSetModel", c_Mo_after, 6, some .int, { frames := 4, cells := 0, slots := 0, locals := 94 })
def y_Mo_onward : MethodName := ⟨"TamedClassSetModel", "onward", "(II)Z"⟩
abbrev c_Mo_onward : ByteArray := prog_9_method_33_code
abbrev mi_Mo_onward : String × ByteArray × Nat × Option FieldType × Room := ("TamedClassSetModel", c_Mo_onward, 6, some .boolean, { frames := 5, cells := 0, slots := 0, locals := 119 })
def y_Mo_fitsTypes : MethodName := ⟨"TamedClassSetModel", "fitsTypes", "(I)Z"⟩
abbrev c_Mo_fitsTypes : ByteArray := prog_9_method_34_code
abbrev mi_Mo_fitsTypes : String × ByteArray × Nat × Option FieldType × Room := ("TamedClassSetModel", c_Mo_fitsTypes, 7, some .boolean, { frames := 6, cells := 0, slots := 0, locals := 144 })
def y_Mo_wild : MethodName := ⟨"TamedClassSetModel", "wild", "(II)Z"⟩
abbrev c_Mo_wild : ByteArray := prog_9_method_38_code
abbrev mi_Mo_wild : String × ByteArray × Nat × Option FieldType × Room := ("TamedClassSetModel", c_Mo_wild, 5, some .boolean, { frames := 3, cells := 0, slots := 0, locals := 69 })
def y_Mo_broken : MethodName := ⟨"TamedClassSetModel", "broken", "()I"⟩
abbrev c_Mo_broken : ByteArray := prog_9_method_39_code
abbrev mi_Mo_broken : String × ByteArray × Nat × Option FieldType × Room := ("TamedClassSetModel", c_Mo_broken, 4, some .int, { frames := 7, cells := 0, slots := 0, locals := 170 })
def y_Mo_check : MethodName := ⟨"TamedClassSetModel", "check", "()I"⟩
abbrev c_Mo_check : ByteArray := prog_9_method_40_code
abbrev mi_Mo_check : String × ByteArray × Nat × Option FieldType × Room := ("TamedClassSetModel", c_Mo_check, 2, some .int, { frames := 8, cells := 0, slots := 0, locals := 193 })
def y_Mo_typesAt : MethodName := ⟨"TamedClassSetModel", "typesAt", "(II)I"⟩
abbrev c_Mo_typesAt : ByteArray := prog_9_method_41_code
abbrev mi_Mo_typesAt : String × ByteArray × Nat × Option FieldType × Room := ("TamedClassSetModel", c_Mo_typesAt, 3, some .int, { frames := 1, cells := 0, slots := 0, locals := 21 })
def y_Mo_holds : MethodName := ⟨"TamedClassSetModel", "holds", "(I)Z"⟩
abbrev c_Mo_holds : ByteArray := prog_9_method_54_code
abbrev mi_Mo_holds : String × ByteArray × Nat × Option FieldType × Room := ("TamedClassSetModel", c_Mo_holds, 2, some .boolean, { frames := 0, cells := 0, slots := 0, locals := 0 })
def y_Mo_refuses : MethodName := ⟨"TamedClassSetModel", "refuses", "(III)Z"⟩
abbrev c_Mo_refuses : ByteArray := prog_9_method_56_code
abbrev mi_Mo_refuses : String × ByteArray × Nat × Option FieldType × Room := ("TamedClassSetModel", c_Mo_refuses, 5, some .boolean, { frames := 2, cells := 0, slots := 0, locals := 46 })
def y_Mo_chosen : MethodName := ⟨"TamedClassSetModel", "chosen", "(II)I"⟩
abbrev c_Mo_chosen : ByteArray := prog_9_method_44_code
abbrev mi_Mo_chosen : String × ByteArray × Nat × Option FieldType × Room := ("TamedClassSetModel", c_Mo_chosen, 6, some .int, { frames := 1, cells := 0, slots := 0, locals := 23 })
def y_Mo_enter : MethodName := ⟨"TamedClassSetModel", "enter", "(III)V"⟩
abbrev c_Mo_enter : ByteArray := prog_9_method_45_code
abbrev mi_Mo_enter : String × ByteArray × Nat × Option FieldType × Room := ("TamedClassSetModel", c_Mo_enter, 5, none, { frames := 0, cells := 0, slots := 0, locals := 0 })
def y_Mo_pop : MethodName := ⟨"TamedClassSetModel", "pop", "()I"⟩
abbrev c_Mo_pop : ByteArray := prog_9_method_43_code
abbrev mi_Mo_pop : String × ByteArray × Nat × Option FieldType × Room := ("TamedClassSetModel", c_Mo_pop, 2, some .int, { frames := 0, cells := 0, slots := 0, locals := 0 })
def y_Mo_push : MethodName := ⟨"TamedClassSetModel", "push", "(I)V"⟩
abbrev c_Mo_push : ByteArray := prog_9_method_42_code
abbrev mi_Mo_push : String × ByteArray × Nat × Option FieldType × Room := ("TamedClassSetModel", c_Mo_push, 3, none, { frames := 0, cells := 0, slots := 0, locals := 0 })
def y_Mo_make : MethodName := ⟨"TamedClassSetModel", "make", "(I)I"⟩
abbrev c_Mo_make : ByteArray := prog_9_method_47_code
abbrev mi_Mo_make : String × ByteArray × Nat × Option FieldType × Room := ("TamedClassSetModel", c_Mo_make, 3, some .int, { frames := 2, cells := 0, slots := 0, locals := 46 })
def y_Mo_slotted : MethodName := ⟨"TamedClassSetModel", "slotted", "(ZI)I"⟩
abbrev c_Mo_slotted : ByteArray := prog_9_method_48_code
abbrev mi_Mo_slotted : String × ByteArray × Nat × Option FieldType × Room := ("TamedClassSetModel", c_Mo_slotted, 6, some .int, { frames := 1, cells := 0, slots := 0, locals := 22 })
def y_Mo_call : MethodName := ⟨"TamedClassSetModel", "call", "(I)I"⟩
abbrev c_Mo_call : ByteArray := prog_9_method_46_code
abbrev mi_Mo_call : String × ByteArray × Nat × Option FieldType × Room := ("TamedClassSetModel", c_Mo_call, 4, some .int, { frames := 2, cells := 0, slots := 0, locals := 48 })
def y_Mo_sum : MethodName := ⟨"TamedClassSetModel", "sum", "(I)V"⟩
abbrev c_Mo_sum : ByteArray := prog_9_method_50_code
abbrev mi_Mo_sum : String × ByteArray × Nat × Option FieldType × Room := ("TamedClassSetModel", c_Mo_sum, 4, none, { frames := 1, cells := 0, slots := 0, locals := 22 })
def y_Mo_bits : MethodName := ⟨"TamedClassSetModel", "bits", "(I)I"⟩
abbrev c_Mo_bits : ByteArray := prog_9_method_49_code
abbrev mi_Mo_bits : String × ByteArray × Nat × Option FieldType × Room := ("TamedClassSetModel", c_Mo_bits, 3, some .int, { frames := 0, cells := 0, slots := 0, locals := 0 })
def y_Mo_library : MethodName := ⟨"TamedClassSetModel", "library", "(I)V"⟩
abbrev c_Mo_library : ByteArray := prog_9_method_51_code
abbrev mi_Mo_library : String × ByteArray × Nat × Option FieldType × Room := ("TamedClassSetModel", c_Mo_library, 3, none, { frames := 1, cells := 0, slots := 0, locals := 22 })
def y_Mo_back : MethodName := ⟨"TamedClassSetModel", "back", "()V"⟩
abbrev c_Mo_back : ByteArray := prog_9_method_52_code
abbrev mi_Mo_back : String × ByteArray × Nat × Option FieldType × Room := ("TamedClassSetModel", c_Mo_back, 2, none, { frames := 1, cells := 0, slots := 0, locals := 22 })
def y_Mo_once : MethodName := ⟨"TamedClassSetModel", "once", "()I"⟩
abbrev c_Mo_once : ByteArray := prog_9_method_53_code
abbrev mi_Mo_once : String × ByteArray × Nat × Option FieldType × Room := ("TamedClassSetModel", c_Mo_once, 6, some .int, { frames := 3, cells := 0, slots := 0, locals := 71 })
def y_Mo_shown : MethodName := ⟨"TamedClassSetModel", "shown", "(I)J"⟩
abbrev c_Mo_shown : ByteArray := prog_9_method_55_code
abbrev mi_Mo_shown : String × ByteArray × Nat × Option FieldType × Room := ("TamedClassSetModel", c_Mo_shown, 3, some .long, { frames := 0, cells := 0, slots := 0, locals := 0 })
def y_Mo_run : MethodName := ⟨"TamedClassSetModel", "run", "(III)J"⟩
abbrev c_Mo_run : ByteArray := prog_9_method_57_code
abbrev mi_Mo_run : String × ByteArray × Nat × Option FieldType × Room := ("TamedClassSetModel", c_Mo_run, 7, some .long, { frames := 4, cells := 0, slots := 0, locals := 96 })
def y_Mo_look : MethodName := ⟨"TamedClassSetModel", "look", "(II)J"⟩
abbrev c_Mo_look : ByteArray := prog_9_method_58_code
abbrev mi_Mo_look : String × ByteArray × Nat × Option FieldType × Room := ("TamedClassSetModel", c_Mo_look, 6, some .long, { frames := 2, cells := 0, slots := 0, locals := 46 })
def y_Mo_held : MethodName := ⟨"TamedClassSetModel", "held", "(I)I"⟩
abbrev c_Mo_held : ByteArray := prog_9_method_59_code
abbrev mi_Mo_held : String × ByteArray × Nat × Option FieldType × Room := ("TamedClassSetModel", c_Mo_held, 2, some .int, { frames := 1, cells := 0, slots := 0, locals := 21 })
def y_Mo_runs : MethodName := ⟨"TamedClassSetModel", "runs", "()I"⟩
abbrev c_Mo_runs : ByteArray := prog_9_method_60_code
abbrev mi_Mo_runs : String × ByteArray × Nat × Option FieldType × Room := ("TamedClassSetModel", c_Mo_runs, 1, some .int, { frames := 0, cells := 0, slots := 0, locals := 0 })
def y_Mo_steps : MethodName := ⟨"TamedClassSetModel", "steps", "()I"⟩
abbrev c_Mo_steps : ByteArray := prog_9_method_61_code
abbrev mi_Mo_steps : String × ByteArray × Nat × Option FieldType × Room := ("TamedClassSetModel", c_Mo_steps, 1, some .int, { frames := 0, cells := 0, slots := 0, locals := 0 })
