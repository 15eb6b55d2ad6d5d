/-! ===== BEGIN printed: names, fields, word lists, decode rows ===== -/
def RX0 : String := "KeyCommandInterpreter$Binding"
def TX0 : u_T := fun k => match k with
  | 0 => ("KeyCommandInterpreter$Binding", "sequence", "LKeyCommandInterpreter$Row;", true)
  | 1 => ("KeyCommandInterpreter$Binding", "conditionFlag", "I", true)
  | 2 => ("KeyCommandInterpreter$Binding", "conditionValue", "I", true)
  | 3 => ("KeyCommandInterpreter$Binding", "action", "I", true)
  | _ => ("KeyCommandInterpreter$Binding", "argument", "I", true)
def tyX0 : Nat → FieldType := fun k => match k with
  | 0 => .object "KeyCommandInterpreter$Row"
  | 1 => .int
  | 2 => .int
  | 3 => .int
  | _ => .int
abbrev wsX00 : List Cond := u_ws RX0 TX0 5
theorem nmX0 : ∀ a, a < 5 → ∀ b, b < 5 → a ≠ b → (TX0 a).2.1 ≠ (TX0 b).2.1 := by decide +kernel
theorem tyX0_ok : ∀ k, k < 5 → parseFieldDescriptor (TX0 k).2.2.1 = some (tyX0 k) := by decide +kernel
abbrev cX0_init : ByteArray := prog_2_method_1_code
def yX0_init : MethodName := ⟨RX0, "<init>", "(LKeyCommandInterpreter$Row;IIII)V"⟩
abbrev cX0_holds : ByteArray := prog_2_method_2_code
def yX0_holds : MethodName := ⟨RX0, "holds", "([I)Z"⟩
abbrev cX0_isFor : ByteArray := prog_2_method_3_code
def yX0_isFor : MethodName := ⟨RX0, "isFor", "(LKeyCommandInterpreter$Row;I)Z"⟩
abbrev cX0_isLongerThan : ByteArray := prog_2_method_4_code
def yX0_isLongerThan : MethodName := ⟨RX0, "isLongerThan", "(LKeyCommandInterpreter$Row;)Z"⟩
abbrev cX0_shadows : ByteArray := prog_2_method_5_code
def yX0_shadows : MethodName := ⟨RX0, "shadows", "(LKeyCommandInterpreter$Binding;)Z"⟩
def RX1 : String := "KeyCommandInterpreter$Context"
def TX1 : u_T := fun k => match k with
  | 0 => ("KeyCommandInterpreter$Context", "number", "I", true)
  | _ => ("KeyCommandInterpreter$Context", "bindings", "Ljava/util/ArrayList;", true)
def tyX1 : Nat → FieldType := fun k => match k with
  | 0 => .int
  | _ => .object "java/util/ArrayList"
abbrev wsX10 : List Cond := u_ws RX1 TX1 2
theorem nmX1 : ∀ a, a < 2 → ∀ b, b < 2 → a ≠ b → (TX1 a).2.1 ≠ (TX1 b).2.1 := by decide +kernel
theorem tyX1_ok : ∀ k, k < 2 → parseFieldDescriptor (TX1 k).2.2.1 = some (tyX1 k) := by decide +kernel
abbrev cX1_init : ByteArray := prog_3_method_1_code
def yX1_init : MethodName := ⟨RX1, "<init>", "(I)V"⟩
def RX2 : String := "KeyCommandInterpreter$ReportLog"
def TX2 : u_T := fun k => match k with
  | 0 => ("KeyCommandInterpreter$ReportLog", "kinds", "[I", true)
  | 1 => ("KeyCommandInterpreter$ReportLog", "arguments", "[I", true)
  | _ => ("KeyCommandInterpreter$ReportLog", "count", "I", false)
def tyX2 : Nat → FieldType := fun k => match k with
  | 0 => .array .int
  | 1 => .array .int
  | _ => .int
abbrev wsX20 : List Cond := u_ws RX2 TX2 3
theorem nmX2 : ∀ a, a < 3 → ∀ b, b < 3 → a ≠ b → (TX2 a).2.1 ≠ (TX2 b).2.1 := by decide +kernel
theorem tyX2_ok : ∀ k, k < 3 → parseFieldDescriptor (TX2 k).2.2.1 = some (tyX2 k) := by decide +kernel
abbrev cX2_init : ByteArray := prog_4_method_1_code
def yX2_init : MethodName := ⟨RX2, "<init>", "()V"⟩
abbrev cX2_add : ByteArray := prog_4_method_2_code
def yX2_add : MethodName := ⟨RX2, "add", "(II)V"⟩
abbrev cX2_kindOf : ByteArray := prog_4_method_3_code
def yX2_kindOf : MethodName := ⟨RX2, "kindOf", "(I)I"⟩
abbrev cX2_argumentOf : ByteArray := prog_4_method_4_code
def yX2_argumentOf : MethodName := ⟨RX2, "argumentOf", "(I)I"⟩
abbrev cX2_isReadable : ByteArray := prog_4_method_5_code
def yX2_isReadable : MethodName := ⟨RX2, "isReadable", "(I)Z"⟩
def RX3 : String := "KeyCommandInterpreter$Row"
def TX3 : u_T := fun k => match k with
  | 0 => ("KeyCommandInterpreter$Row", "items", "[I", true)
  | _ => ("KeyCommandInterpreter$Row", "size", "I", false)
def tyX3 : Nat → FieldType := fun k => match k with
  | 0 => .array .int
  | _ => .int
abbrev wsX30 : List Cond := u_ws RX3 TX3 2
theorem nmX3 : ∀ a, a < 2 → ∀ b, b < 2 → a ≠ b → (TX3 a).2.1 ≠ (TX3 b).2.1 := by decide +kernel
theorem tyX3_ok : ∀ k, k < 2 → parseFieldDescriptor (TX3 k).2.2.1 = some (tyX3 k) := by decide +kernel
abbrev cX3_init : ByteArray := prog_5_method_1_code
def yX3_init : MethodName := ⟨RX3, "<init>", "(I)V"⟩
abbrev cX3_size : ByteArray := prog_5_method_2_code
def yX3_size : MethodName := ⟨RX3, "size", "()I"⟩
abbrev cX3_isFull : ByteArray := prog_5_method_3_code
def yX3_isFull : MethodName := ⟨RX3, "isFull", "()Z"⟩
abbrev cX3_add : ByteArray := prog_5_method_4_code
def yX3_add : MethodName := ⟨RX3, "add", "(I)V"⟩
abbrev cX3_at : ByteArray := prog_5_method_5_code
def yX3_at : MethodName := ⟨RX3, "at", "(I)I"⟩
abbrev cX3_removeLast : ByteArray := prog_5_method_6_code
def yX3_removeLast : MethodName := ⟨RX3, "removeLast", "()I"⟩
abbrev cX3_clear : ByteArray := prog_5_method_7_code
def yX3_clear : MethodName := ⟨RX3, "clear", "()V"⟩
abbrev cX3_copy : ByteArray := prog_5_method_8_code
def yX3_copy : MethodName := ⟨RX3, "copy", "()LKeyCommandInterpreter$Row;"⟩
abbrev cX3_sharesBeginning : ByteArray := prog_5_method_9_code
def yX3_sharesBeginning : MethodName := ⟨RX3, "sharesBeginning", "(LKeyCommandInterpreter$Row;I)Z"⟩
def RX4 : String := "KeyCommandInterpreter"
def TX4 : u_T := fun k => match k with
  | 0 => ("KeyCommandInterpreter", "buffer", "LKeyCommandInterpreter$Row;", true)
  | 1 => ("KeyCommandInterpreter", "pending", "LKeyCommandInterpreter$Row;", true)
  | 2 => ("KeyCommandInterpreter", "waiting", "LKeyCommandInterpreter$Row;", true)
  | 3 => ("KeyCommandInterpreter", "macros", "Ljava/util/ArrayList;", true)
  | 4 => ("KeyCommandInterpreter", "contexts", "Ljava/util/ArrayList;", true)
  | 5 => ("KeyCommandInterpreter", "stack", "Ljava/util/ArrayList;", true)
  | 6 => ("KeyCommandInterpreter", "flags", "[I", true)
  | 7 => ("KeyCommandInterpreter", "reports", "LKeyCommandInterpreter$ReportLog;", true)
  | 8 => ("KeyCommandInterpreter", "timeout", "I", false)
  | 9 => ("KeyCommandInterpreter", "remaining", "I", false)
  | 10 => ("KeyCommandInterpreter", "recorded", "I", false)
  | 11 => ("KeyCommandInterpreter", "playing", "I", false)
  | _ => ("KeyCommandInterpreter", "played", "I", false)
def tyX4 : Nat → FieldType := fun k => match k with
  | 0 => .object "KeyCommandInterpreter$Row"
  | 1 => .object "KeyCommandInterpreter$Row"
  | 2 => .object "KeyCommandInterpreter$Row"
  | 3 => .object "java/util/ArrayList"
  | 4 => .object "java/util/ArrayList"
  | 5 => .object "java/util/ArrayList"
  | 6 => .array .int
  | 7 => .object "KeyCommandInterpreter$ReportLog"
  | 8 => .int
  | 9 => .int
  | 10 => .int
  | 11 => .int
  | _ => .int
abbrev wsX40 : List Cond := u_ws RX4 TX4 13
theorem nmX4 : ∀ a, a < 13 → ∀ b, b < 13 → a ≠ b → (TX4 a).2.1 ≠ (TX4 b).2.1 := by decide +kernel
theorem tyX4_ok : ∀ k, k < 13 → parseFieldDescriptor (TX4 k).2.2.1 = some (tyX4 k) := by decide +kernel
abbrev cX4_init : ByteArray := prog_1_method_1_code
def yX4_init : MethodName := ⟨RX4, "<init>", "()V"⟩
abbrev cX4_appendKey : ByteArray := prog_1_method_2_code
def yX4_appendKey : MethodName := ⟨RX4, "appendKey", "(I)I"⟩
abbrev cX4_clearKeys : ByteArray := prog_1_method_3_code
def yX4_clearKeys : MethodName := ⟨RX4, "clearKeys", "()I"⟩
abbrev cX4_bind : ByteArray := prog_1_method_4_code
def yX4_bind : MethodName := ⟨RX4, "bind", "(IIIII)I"⟩
abbrev cX4_unbind : ByteArray := prog_1_method_5_code
def yX4_unbind : MethodName := ⟨RX4, "unbind", "(II)I"⟩
abbrev cX4_bindingCount : ByteArray := prog_1_method_6_code
def yX4_bindingCount : MethodName := ⟨RX4, "bindingCount", "(I)I"⟩
abbrev cX4_shadowedBy : ByteArray := prog_1_method_7_code
def yX4_shadowedBy : MethodName := ⟨RX4, "shadowedBy", "(II)I"⟩
abbrev cX4_press : ByteArray := prog_1_method_8_code
def yX4_press : MethodName := ⟨RX4, "press", "(I)I"⟩
abbrev cX4_tick : ByteArray := prog_1_method_9_code
def yX4_tick : MethodName := ⟨RX4, "tick", "(I)I"⟩
abbrev cX4_setTimeout : ByteArray := prog_1_method_10_code
def yX4_setTimeout : MethodName := ⟨RX4, "setTimeout", "(I)I"⟩
abbrev cX4_setFlag : ByteArray := prog_1_method_11_code
def yX4_setFlag : MethodName := ⟨RX4, "setFlag", "(II)I"⟩
abbrev cX4_pendingLength : ByteArray := prog_1_method_12_code
def yX4_pendingLength : MethodName := ⟨RX4, "pendingLength", "()I"⟩
abbrev cX4_pendingKey : ByteArray := prog_1_method_13_code
def yX4_pendingKey : MethodName := ⟨RX4, "pendingKey", "(I)I"⟩
abbrev cX4_remainingTime : ByteArray := prog_1_method_14_code
def yX4_remainingTime : MethodName := ⟨RX4, "remainingTime", "()I"⟩
abbrev cX4_pendingBinding : ByteArray := prog_1_method_15_code
def yX4_pendingBinding : MethodName := ⟨RX4, "pendingBinding", "()I"⟩
abbrev cX4_flag : ByteArray := prog_1_method_16_code
def yX4_flag : MethodName := ⟨RX4, "flag", "(I)I"⟩
abbrev cX4_stackSize : ByteArray := prog_1_method_17_code
def yX4_stackSize : MethodName := ⟨RX4, "stackSize", "()I"⟩
abbrev cX4_stackContext : ByteArray := prog_1_method_18_code
def yX4_stackContext : MethodName := ⟨RX4, "stackContext", "(I)I"⟩
abbrev cX4_startRecording : ByteArray := prog_1_method_19_code
def yX4_startRecording : MethodName := ⟨RX4, "startRecording", "(I)I"⟩
abbrev cX4_stopRecording : ByteArray := prog_1_method_20_code
def yX4_stopRecording : MethodName := ⟨RX4, "stopRecording", "()I"⟩
abbrev cX4_macroKey : ByteArray := prog_1_method_21_code
def yX4_macroKey : MethodName := ⟨RX4, "macroKey", "(II)I"⟩
abbrev cX4_reportCount : ByteArray := prog_1_method_22_code
def yX4_reportCount : MethodName := ⟨RX4, "reportCount", "()I"⟩
abbrev cX4_reportKind : ByteArray := prog_1_method_23_code
def yX4_reportKind : MethodName := ⟨RX4, "reportKind", "(I)I"⟩
abbrev cX4_reportArgument : ByteArray := prog_1_method_24_code
def yX4_reportArgument : MethodName := ⟨RX4, "reportArgument", "(I)I"⟩
abbrev cX4_processWaitingKeys : ByteArray := prog_1_method_25_code
def yX4_processWaitingKeys : MethodName := ⟨RX4, "processWaitingKeys", "()V"⟩
abbrev cX4_isExtensible : ByteArray := prog_1_method_26_code
def yX4_isExtensible : MethodName := ⟨RX4, "isExtensible", "()Z"⟩
abbrev cX4_releasePending : ByteArray := prog_1_method_27_code
def yX4_releasePending : MethodName := ⟨RX4, "releasePending", "()V"⟩
abbrev cX4_findBinding : ByteArray := prog_1_method_28_code
def yX4_findBinding : MethodName := ⟨RX4, "findBinding", "(I)I"⟩
abbrev cX4_perform : ByteArray := prog_1_method_29_code
def yX4_perform : MethodName := ⟨RX4, "perform", "(II)V"⟩
abbrev cX4_isRefused : ByteArray := prog_1_method_30_code
def yX4_isRefused : MethodName := ⟨RX4, "isRefused", "(II)Z"⟩
abbrev cX4_play : ByteArray := prog_1_method_31_code
def yX4_play : MethodName := ⟨RX4, "play", "(I)V"⟩
abbrev cX4_pushContext : ByteArray := prog_1_method_32_code
def yX4_pushContext : MethodName := ⟨RX4, "pushContext", "(I)V"⟩
abbrev cX4_popContext : ByteArray := prog_1_method_33_code
def yX4_popContext : MethodName := ⟨RX4, "popContext", "()V"⟩
abbrev cX4_isBetween : ByteArray := prog_1_method_34_code
def yX4_isBetween : MethodName := ⟨RX4, "isBetween", "(III)Z"⟩
abbrev cX4_isKey : ByteArray := prog_1_method_35_code
def yX4_isKey : MethodName := ⟨RX4, "isKey", "(I)Z"⟩
abbrev cX4_isFlag : ByteArray := prog_1_method_36_code
def yX4_isFlag : MethodName := ⟨RX4, "isFlag", "(I)Z"⟩
abbrev cX4_isContext : ByteArray := prog_1_method_37_code
def yX4_isContext : MethodName := ⟨RX4, "isContext", "(I)Z"⟩
abbrev cX4_isMacro : ByteArray := prog_1_method_38_code
def yX4_isMacro : MethodName := ⟨RX4, "isMacro", "(I)Z"⟩
abbrev cX4_isBinding : ByteArray := prog_1_method_39_code
def yX4_isBinding : MethodName := ⟨RX4, "isBinding", "(II)Z"⟩
abbrev cX4_isCondition : ByteArray := prog_1_method_40_code
def yX4_isCondition : MethodName := ⟨RX4, "isCondition", "(II)Z"⟩
abbrev cX4_isAction : ByteArray := prog_1_method_41_code
def yX4_isAction : MethodName := ⟨RX4, "isAction", "(II)Z"⟩
def RX5 : String := "KeyCommandInterpreterModel"
def TX5 : u_T := fun k => match k with
  | 0 => ("KeyCommandInterpreterModel", "flags", "[I", true)
  | 1 => ("KeyCommandInterpreterModel", "depth", "I", false)
  | 2 => ("KeyCommandInterpreterModel", "contexts", "[I", true)
  | 3 => ("KeyCommandInterpreterModel", "many", "[I", true)
  | 4 => ("KeyCommandInterpreterModel", "size", "[I", true)
  | 5 => ("KeyCommandInterpreterModel", "keys", "[I", true)
  | 6 => ("KeyCommandInterpreterModel", "flagOf", "[I", true)
  | 7 => ("KeyCommandInterpreterModel", "valueOf", "[I", true)
  | 8 => ("KeyCommandInterpreterModel", "actionOf", "[I", true)
  | 9 => ("KeyCommandInterpreterModel", "argumentOf", "[I", true)
  | 10 => ("KeyCommandInterpreterModel", "typed", "I", false)
  | 11 => ("KeyCommandInterpreterModel", "buffer", "[I", true)
  | 12 => ("KeyCommandInterpreterModel", "pending", "I", false)
  | 13 => ("KeyCommandInterpreterModel", "pend", "[I", true)
  | 14 => ("KeyCommandInterpreterModel", "timeout", "I", false)
  | 15 => ("KeyCommandInterpreterModel", "left", "I", false)
  | 16 => ("KeyCommandInterpreterModel", "tasks", "I", false)
  | 17 => ("KeyCommandInterpreterModel", "task", "[I", true)
  | 18 => ("KeyCommandInterpreterModel", "playing", "I", false)
  | 19 => ("KeyCommandInterpreterModel", "played", "I", false)
  | 20 => ("KeyCommandInterpreterModel", "recording", "I", false)
  | 21 => ("KeyCommandInterpreterModel", "macroSize", "[I", true)
  | 22 => ("KeyCommandInterpreterModel", "macro", "[I", true)
  | 23 => ("KeyCommandInterpreterModel", "reports", "I", false)
  | 24 => ("KeyCommandInterpreterModel", "kinds", "[I", true)
  | _ => ("KeyCommandInterpreterModel", "arguments", "[I", true)
def tyX5 : Nat → FieldType := fun k => match k with
  | 0 => .array .int
  | 1 => .int
  | 2 => .array .int
  | 3 => .array .int
  | 4 => .array .int
  | 5 => .array .int
  | 6 => .array .int
  | 7 => .array .int
  | 8 => .array .int
  | 9 => .array .int
  | 10 => .int
  | 11 => .array .int
  | 12 => .int
  | 13 => .array .int
  | 14 => .int
  | 15 => .int
  | 16 => .int
  | 17 => .array .int
  | 18 => .int
  | 19 => .int
  | 20 => .int
  | 21 => .array .int
  | 22 => .array .int
  | 23 => .int
  | 24 => .array .int
  | _ => .array .int
abbrev wsX50 : List Cond := u_ws RX5 TX5 26
theorem nmX5 : ∀ a, a < 26 → ∀ b, b < 26 → a ≠ b → (TX5 a).2.1 ≠ (TX5 b).2.1 := by decide +kernel
theorem tyX5_ok : ∀ k, k < 26 → parseFieldDescriptor (TX5 k).2.2.1 = some (tyX5 k) := by decide +kernel
abbrev cX5_init : ByteArray := prog_7_method_1_code
def yX5_init : MethodName := ⟨RX5, "<init>", "()V"⟩
abbrev cX5_in : ByteArray := prog_7_method_2_code
def yX5_in : MethodName := ⟨RX5, "in", "(III)Z"⟩
abbrev cX5_appendKey : ByteArray := prog_7_method_3_code
def yX5_appendKey : MethodName := ⟨RX5, "appendKey", "(I)I"⟩
abbrev cX5_clearKeys : ByteArray := prog_7_method_4_code
def yX5_clearKeys : MethodName := ⟨RX5, "clearKeys", "()I"⟩
abbrev cX5_most : ByteArray := prog_7_method_5_code
def yX5_most : MethodName := ⟨RX5, "most", "(I)I"⟩
abbrev cX5_bind : ByteArray := prog_7_method_6_code
def yX5_bind : MethodName := ⟨RX5, "bind", "(IIIII)I"⟩
abbrev cX5_isBinding : ByteArray := prog_7_method_7_code
def yX5_isBinding : MethodName := ⟨RX5, "isBinding", "(II)Z"⟩
abbrev cX5_unbind : ByteArray := prog_7_method_8_code
def yX5_unbind : MethodName := ⟨RX5, "unbind", "(II)I"⟩
abbrev cX5_bindingCount : ByteArray := prog_7_method_9_code
def yX5_bindingCount : MethodName := ⟨RX5, "bindingCount", "(I)I"⟩
abbrev cX5_shadowedBy : ByteArray := prog_7_method_10_code
def yX5_shadowedBy : MethodName := ⟨RX5, "shadowedBy", "(II)I"⟩
abbrev cX5_fits : ByteArray := prog_7_method_11_code
def yX5_fits : MethodName := ⟨RX5, "fits", "(II)Z"⟩
abbrev cX5_bound : ByteArray := prog_7_method_12_code
def yX5_bound : MethodName := ⟨RX5, "bound", "(I)I"⟩
abbrev cX5_isExtensible : ByteArray := prog_7_method_13_code
def yX5_isExtensible : MethodName := ⟨RX5, "isExtensible", "()Z"⟩
abbrev cX5_says : ByteArray := prog_7_method_14_code
def yX5_says : MethodName := ⟨RX5, "says", "(II)V"⟩
abbrev cX5_adds : ByteArray := prog_7_method_15_code
def yX5_adds : MethodName := ⟨RX5, "adds", "(I)V"⟩
abbrev cX5_plays : ByteArray := prog_7_method_16_code
def yX5_plays : MethodName := ⟨RX5, "plays", "(I)V"⟩
abbrev cX5_performs : ByteArray := prog_7_method_17_code
def yX5_performs : MethodName := ⟨RX5, "performs", "(II)V"⟩
abbrev cX5_frees : ByteArray := prog_7_method_18_code
def yX5_frees : MethodName := ⟨RX5, "frees", "(I)V"⟩
abbrev cX5_ends : ByteArray := prog_7_method_19_code
def yX5_ends : MethodName := ⟨RX5, "ends", "()V"⟩
abbrev cX5_works : ByteArray := prog_7_method_20_code
def yX5_works : MethodName := ⟨RX5, "works", "()V"⟩
abbrev cX5_press : ByteArray := prog_7_method_21_code
def yX5_press : MethodName := ⟨RX5, "press", "(I)I"⟩
abbrev cX5_tick : ByteArray := prog_7_method_22_code
def yX5_tick : MethodName := ⟨RX5, "tick", "(I)I"⟩
abbrev cX5_setTimeout : ByteArray := prog_7_method_23_code
def yX5_setTimeout : MethodName := ⟨RX5, "setTimeout", "(I)I"⟩
abbrev cX5_setFlag : ByteArray := prog_7_method_24_code
def yX5_setFlag : MethodName := ⟨RX5, "setFlag", "(II)I"⟩
abbrev cX5_pendingLength : ByteArray := prog_7_method_25_code
def yX5_pendingLength : MethodName := ⟨RX5, "pendingLength", "()I"⟩
abbrev cX5_pendingKey : ByteArray := prog_7_method_26_code
def yX5_pendingKey : MethodName := ⟨RX5, "pendingKey", "(I)I"⟩
abbrev cX5_remainingTime : ByteArray := prog_7_method_27_code
def yX5_remainingTime : MethodName := ⟨RX5, "remainingTime", "()I"⟩
abbrev cX5_pendingBinding : ByteArray := prog_7_method_28_code
def yX5_pendingBinding : MethodName := ⟨RX5, "pendingBinding", "()I"⟩
abbrev cX5_flag : ByteArray := prog_7_method_29_code
def yX5_flag : MethodName := ⟨RX5, "flag", "(I)I"⟩
abbrev cX5_stackSize : ByteArray := prog_7_method_30_code
def yX5_stackSize : MethodName := ⟨RX5, "stackSize", "()I"⟩
abbrev cX5_stackContext : ByteArray := prog_7_method_31_code
def yX5_stackContext : MethodName := ⟨RX5, "stackContext", "(I)I"⟩
abbrev cX5_startRecording : ByteArray := prog_7_method_32_code
def yX5_startRecording : MethodName := ⟨RX5, "startRecording", "(I)I"⟩
abbrev cX5_stopRecording : ByteArray := prog_7_method_33_code
def yX5_stopRecording : MethodName := ⟨RX5, "stopRecording", "()I"⟩
abbrev cX5_macroKey : ByteArray := prog_7_method_34_code
def yX5_macroKey : MethodName := ⟨RX5, "macroKey", "(II)I"⟩
abbrev cX5_reportCount : ByteArray := prog_7_method_35_code
def yX5_reportCount : MethodName := ⟨RX5, "reportCount", "()I"⟩
abbrev cX5_errorOf : ByteArray := prog_7_method_36_code
def yX5_errorOf : MethodName := ⟨RX5, "errorOf", "(I)I"⟩
abbrev cX5_reportKind : ByteArray := prog_7_method_37_code
def yX5_reportKind : MethodName := ⟨RX5, "reportKind", "(I)I"⟩
abbrev cX5_reportArgument : ByteArray := prog_7_method_38_code
def yX5_reportArgument : MethodName := ⟨RX5, "reportArgument", "(I)I"⟩
def RJx145de : String := "java/io/Serializable"
def TJx145de : u_T := fun k => match k with
  | _ => ("", "", "", false)
def tyJx145de : Nat → FieldType := fun k => match k with
  | _ => .int
abbrev wsJx145de0 : List Cond := u_ws RJx145de TJx145de 0
theorem nmJx145de : ∀ a, a < 0 → ∀ b, b < 0 → a ≠ b → (TJx145de a).2.1 ≠ (TJx145de b).2.1 := by decide +kernel
theorem tyJx145de_ok : ∀ k, k < 0 → parseFieldDescriptor (TJx145de k).2.2.1 = some (tyJx145de k) := by decide +kernel
def RJx8e188 : String := "java/lang/Cloneable"
def TJx8e188 : u_T := fun k => match k with
  | _ => ("", "", "", false)
def tyJx8e188 : Nat → FieldType := fun k => match k with
  | _ => .int
abbrev wsJx8e1880 : List Cond := u_ws RJx8e188 TJx8e188 0
theorem nmJx8e188 : ∀ a, a < 0 → ∀ b, b < 0 → a ≠ b → (TJx8e188 a).2.1 ≠ (TJx8e188 b).2.1 := by decide +kernel
theorem tyJx8e188_ok : ∀ k, k < 0 → parseFieldDescriptor (TJx8e188 k).2.2.1 = some (tyJx8e188 k) := by decide +kernel
def RJxab1ab : String := "java/lang/Iterable"
def TJxab1ab : u_T := fun k => match k with
  | _ => ("", "", "", false)
def tyJxab1ab : Nat → FieldType := fun k => match k with
  | _ => .int
abbrev wsJxab1ab0 : List Cond := u_ws RJxab1ab TJxab1ab 0
theorem nmJxab1ab : ∀ a, a < 0 → ∀ b, b < 0 → a ≠ b → (TJxab1ab a).2.1 ≠ (TJxab1ab b).2.1 := by decide +kernel
theorem tyJxab1ab_ok : ∀ k, k < 0 → parseFieldDescriptor (TJxab1ab k).2.2.1 = some (tyJxab1ab k) := by decide +kernel
def RJ9 : String := "java/lang/Math"
def TJ9 : u_T := fun k => match k with
  | _ => ("", "", "", false)
def tyJ9 : Nat → FieldType := fun k => match k with
  | _ => .int
abbrev wsJ90 : List Cond := u_ws RJ9 TJ9 0
theorem nmJ9 : ∀ a, a < 0 → ∀ b, b < 0 → a ≠ b → (TJ9 a).2.1 ≠ (TJ9 b).2.1 := by decide +kernel
theorem tyJ9_ok : ∀ k, k < 0 → parseFieldDescriptor (TJ9 k).2.2.1 = some (tyJ9 k) := by decide +kernel
abbrev cJ9_floorMod_7cf53 : ByteArray := prog_11_method_50_code
def yJ9_floorMod_7cf53 : MethodName := ⟨RJ9, "floorMod", "(II)I"⟩
abbrev cJ9_max_7cf53 : ByteArray := prog_11_method_65_code
def yJ9_max_7cf53 : MethodName := ⟨RJ9, "max", "(II)I"⟩
abbrev cJ9_min_7cf53 : ByteArray := prog_11_method_69_code
def yJ9_min_7cf53 : MethodName := ⟨RJ9, "min", "(II)I"⟩
def RJ10 : String := "java/lang/System"
def TJ10 : u_T := fun k => match k with
  | _ => ("", "", "", false)
def tyJ10 : Nat → FieldType := fun k => match k with
  | _ => .int
abbrev wsJ100 : List Cond := u_ws RJ10 TJ10 0
theorem nmJ10 : ∀ a, a < 0 → ∀ b, b < 0 → a ≠ b → (TJ10 a).2.1 ≠ (TJ10 b).2.1 := by decide +kernel
theorem tyJ10_ok : ∀ k, k < 0 → parseFieldDescriptor (TJ10 k).2.2.1 = some (tyJ10 k) := by decide +kernel
def RJxa1e45 : String := "java/util/AbstractCollection"
def TJxa1e45 : u_T := fun k => match k with
  | _ => ("", "", "", false)
def tyJxa1e45 : Nat → FieldType := fun k => match k with
  | _ => .int
abbrev wsJxa1e450 : List Cond := u_ws RJxa1e45 TJxa1e45 0
theorem nmJxa1e45 : ∀ a, a < 0 → ∀ b, b < 0 → a ≠ b → (TJxa1e45 a).2.1 ≠ (TJxa1e45 b).2.1 := by decide +kernel
theorem tyJxa1e45_ok : ∀ k, k < 0 → parseFieldDescriptor (TJxa1e45 k).2.2.1 = some (tyJxa1e45 k) := by decide +kernel
abbrev cJxa1e45_init_da8c8 : ByteArray := prog_13_method_1_code
def yJxa1e45_init_da8c8 : MethodName := ⟨RJxa1e45, "<init>", "()V"⟩
def RJxc12de : String := "java/util/AbstractList"
def TJxc12de : u_T := fun k => match k with
  | _ => ("", "", "", false)
def tyJxc12de : Nat → FieldType := fun k => match k with
  | _ => .int
abbrev wsJxc12de0 : List Cond := u_ws RJxc12de TJxc12de 0
theorem nmJxc12de : ∀ a, a < 0 → ∀ b, b < 0 → a ≠ b → (TJxc12de a).2.1 ≠ (TJxc12de b).2.1 := by decide +kernel
theorem tyJxc12de_ok : ∀ k, k < 0 → parseFieldDescriptor (TJxc12de k).2.2.1 = some (tyJxc12de k) := by decide +kernel
abbrev cJxc12de_init_da8c8 : ByteArray := prog_14_method_1_code
def yJxc12de_init_da8c8 : MethodName := ⟨RJxc12de, "<init>", "()V"⟩
def RJx4a65c : String := "java/util/ArrayList"
def TJx4a65c : u_T := fun k => match k with
  | 0 => ("java/util/AbstractList", "modCount", "I", false)
  | 1 => ("java/util/ArrayList", "elementData", "[Ljava/lang/Object;", false)
  | _ => ("java/util/ArrayList", "size", "I", false)
def tyJx4a65c : Nat → FieldType := fun k => match k with
  | 0 => .int
  | 1 => .array (.object "java/lang/Object")
  | _ => .int
abbrev wsJx4a65c0 : List Cond := u_ws RJx4a65c TJx4a65c 3
theorem nmJx4a65c : ∀ a, a < 3 → ∀ b, b < 3 → a ≠ b → (TJx4a65c a).2.1 ≠ (TJx4a65c b).2.1 := by decide +kernel
theorem tyJx4a65c_ok : ∀ k, k < 3 → parseFieldDescriptor (TJx4a65c k).2.2.1 = some (tyJx4a65c k) := by decide +kernel
abbrev cJx4a65c_init_da8c8 : ByteArray := prog_15_method_2_code
def yJx4a65c_init_da8c8 : MethodName := ⟨RJx4a65c, "<init>", "()V"⟩
abbrev cJx4a65c_grow_92f84 : ByteArray := prog_15_method_6_code
def yJx4a65c_grow_92f84 : MethodName := ⟨RJx4a65c, "grow", "(I)[Ljava/lang/Object;"⟩
abbrev cJx4a65c_grow_d5877 : ByteArray := prog_15_method_7_code
def yJx4a65c_grow_d5877 : MethodName := ⟨RJx4a65c, "grow", "()[Ljava/lang/Object;"⟩
abbrev cJx4a65c_size_8abf5 : ByteArray := prog_15_method_8_code
def yJx4a65c_size_8abf5 : MethodName := ⟨RJx4a65c, "size", "()I"⟩
abbrev cJx4a65c_elementData_915e3 : ByteArray := prog_15_method_18_code
def yJx4a65c_elementData_915e3 : MethodName := ⟨RJx4a65c, "elementData", "(I)Ljava/lang/Object;"⟩
abbrev cJx4a65c_get_915e3 : ByteArray := prog_15_method_20_code
def yJx4a65c_get_915e3 : MethodName := ⟨RJx4a65c, "get", "(I)Ljava/lang/Object;"⟩
abbrev cJx4a65c_add_72be8 : ByteArray := prog_15_method_24_code
def yJx4a65c_add_72be8 : MethodName := ⟨RJx4a65c, "add", "(Ljava/lang/Object;[Ljava/lang/Object;I)V"⟩
abbrev cJx4a65c_add_9ea2d : ByteArray := prog_15_method_25_code
def yJx4a65c_add_9ea2d : MethodName := ⟨RJx4a65c, "add", "(Ljava/lang/Object;)Z"⟩
abbrev cJx4a65c_remove_915e3 : ByteArray := prog_15_method_29_code
def yJx4a65c_remove_915e3 : MethodName := ⟨RJx4a65c, "remove", "(I)Ljava/lang/Object;"⟩
abbrev cJx4a65c_fastRemove_b59b0 : ByteArray := prog_15_method_39_code
def yJx4a65c_fastRemove_b59b0 : MethodName := ⟨RJx4a65c, "fastRemove", "([Ljava/lang/Object;I)V"⟩
def RJ7 : String := "java/util/Arrays"
def TJ7 : u_T := fun k => match k with
  | _ => ("", "", "", false)
def tyJ7 : Nat → FieldType := fun k => match k with
  | _ => .int
abbrev wsJ70 : List Cond := u_ws RJ7 TJ7 0
theorem nmJ7 : ∀ a, a < 0 → ∀ b, b < 0 → a ≠ b → (TJ7 a).2.1 ≠ (TJ7 b).2.1 := by decide +kernel
theorem tyJ7_ok : ∀ k, k < 0 → parseFieldDescriptor (TJ7 k).2.2.1 = some (tyJ7 k) := by decide +kernel
abbrev cJ7_copyOf_1904c : ByteArray := prog_16_method_119_code
def yJ7_copyOf_1904c : MethodName := ⟨RJ7, "copyOf", "([Ljava/lang/Object;I)[Ljava/lang/Object;"⟩
abbrev cJ7_copyOf_6403c : ByteArray := prog_16_method_120_code
def yJ7_copyOf_6403c : MethodName := ⟨RJ7, "copyOf", "([Ljava/lang/Object;ILjava/lang/Class;)[Ljava/lang/Object;"⟩
def RJx5ef63 : String := "java/util/Collection"
def TJx5ef63 : u_T := fun k => match k with
  | _ => ("", "", "", false)
def tyJx5ef63 : Nat → FieldType := fun k => match k with
  | _ => .int
abbrev wsJx5ef630 : List Cond := u_ws RJx5ef63 TJx5ef63 0
theorem nmJx5ef63 : ∀ a, a < 0 → ∀ b, b < 0 → a ≠ b → (TJx5ef63 a).2.1 ≠ (TJx5ef63 b).2.1 := by decide +kernel
theorem tyJx5ef63_ok : ∀ k, k < 0 → parseFieldDescriptor (TJx5ef63 k).2.2.1 = some (tyJx5ef63 k) := by decide +kernel
def RJxbd725 : String := "java/util/List"
def TJxbd725 : u_T := fun k => match k with
  | _ => ("", "", "", false)
def tyJxbd725 : Nat → FieldType := fun k => match k with
  | _ => .int
abbrev wsJxbd7250 : List Cond := u_ws RJxbd725 TJxbd725 0
theorem nmJxbd725 : ∀ a, a < 0 → ∀ b, b < 0 → a ≠ b → (TJxbd725 a).2.1 ≠ (TJxbd725 b).2.1 := by decide +kernel
theorem tyJxbd725_ok : ∀ k, k < 0 → parseFieldDescriptor (TJxbd725 k).2.2.1 = some (tyJxbd725 k) := by decide +kernel
def RJ15 : String := "java/util/Objects"
def TJ15 : u_T := fun k => match k with
  | _ => ("", "", "", false)
def tyJ15 : Nat → FieldType := fun k => match k with
  | _ => .int
abbrev wsJ150 : List Cond := u_ws RJ15 TJ15 0
theorem nmJ15 : ∀ a, a < 0 → ∀ b, b < 0 → a ≠ b → (TJ15 a).2.1 ≠ (TJ15 b).2.1 := by decide +kernel
theorem tyJ15_ok : ∀ k, k < 0 → parseFieldDescriptor (TJ15 k).2.2.1 = some (tyJ15 k) := by decide +kernel
abbrev cJ15_checkIndex_7cf53 : ByteArray := prog_19_method_17_code
def yJ15_checkIndex_7cf53 : MethodName := ⟨RJ15, "checkIndex", "(II)I"⟩
def RJxf0a74 : String := "java/util/RandomAccess"
def TJxf0a74 : u_T := fun k => match k with
  | _ => ("", "", "", false)
def tyJxf0a74 : Nat → FieldType := fun k => match k with
  | _ => .int
abbrev wsJxf0a740 : List Cond := u_ws RJxf0a74 TJxf0a74 0
theorem nmJxf0a74 : ∀ a, a < 0 → ∀ b, b < 0 → a ≠ b → (TJxf0a74 a).2.1 ≠ (TJxf0a74 b).2.1 := by decide +kernel
theorem tyJxf0a74_ok : ∀ k, k < 0 → parseFieldDescriptor (TJxf0a74 k).2.2.1 = some (tyJxf0a74 k) := by decide +kernel
def RJxa66e6 : String := "java/util/SequencedCollection"
def TJxa66e6 : u_T := fun k => match k with
  | _ => ("", "", "", false)
def tyJxa66e6 : Nat → FieldType := fun k => match k with
  | _ => .int
abbrev wsJxa66e60 : List Cond := u_ws RJxa66e6 TJxa66e6 0
theorem nmJxa66e6 : ∀ a, a < 0 → ∀ b, b < 0 → a ≠ b → (TJxa66e6 a).2.1 ≠ (TJxa66e6 b).2.1 := by decide +kernel
theorem tyJxa66e6_ok : ∀ k, k < 0 → parseFieldDescriptor (TJxa66e6 k).2.2.1 = some (tyJxa66e6 k) := by decide +kernel
def RJ8 : String := "jdk/internal/util/ArraysSupport"
def TJ8 : u_T := fun k => match k with
  | _ => ("", "", "", false)
def tyJ8 : Nat → FieldType := fun k => match k with
  | _ => .int
abbrev wsJ80 : List Cond := u_ws RJ8 TJ8 0
theorem nmJ8 : ∀ a, a < 0 → ∀ b, b < 0 → a ≠ b → (TJ8 a).2.1 ≠ (TJ8 b).2.1 := by decide +kernel
theorem tyJ8_ok : ∀ k, k < 0 → parseFieldDescriptor (TJ8 k).2.2.1 = some (tyJ8 k) := by decide +kernel
abbrev cJ8_newLength_cabcc : ByteArray := prog_22_method_27_code
def yJ8_newLength_cabcc : MethodName := ⟨RJ8, "newLength", "(III)I"⟩
abbrev cJ8_hugeLength_7cf53 : ByteArray := prog_22_method_28_code
def yJ8_hugeLength_7cf53 : MethodName := ⟨RJ8, "hugeLength", "(II)I"⟩
def RJ3 : String := "jdk/internal/util/Preconditions"
def TJ3 : u_T := fun k => match k with
  | _ => ("", "", "", false)
def tyJ3 : Nat → FieldType := fun k => match k with
  | _ => .int
abbrev wsJ30 : List Cond := u_ws RJ3 TJ3 0
theorem nmJ3 : ∀ a, a < 0 → ∀ b, b < 0 → a ≠ b → (TJ3 a).2.1 ≠ (TJ3 b).2.1 := by decide +kernel
theorem tyJ3_ok : ∀ k, k < 0 → parseFieldDescriptor (TJ3 k).2.2.1 = some (tyJ3 k) := by decide +kernel
abbrev cJ3_checkIndex_8e157 : ByteArray := prog_23_method_11_code
def yJ3_checkIndex_8e157 : MethodName := ⟨RJ3, "checkIndex", "(IILjava/util/function/BiFunction;)I"⟩
def RL : String := "KeyCommandInterpreterLaw"
abbrev cL_law : ByteArray := code
def yL_law : MethodName := ⟨RL, "law", "([I)Z"⟩
