/-! the words of the tables that the walks use, by their places; classes; callees -/
theorem tw_1 : Cond.initialized "KeyCommandInterpreter" ∈ TBg := tb_in (List.mem_append_right _ (List.mem_of_getElem? (i := 1) (by decide +kernel))) rfl
theorem tw_2 : Cond.initialized "KeyCommandInterpreter$Row" ∈ TBg := tb_in (List.mem_append_right _ (List.mem_of_getElem? (i := 2) (by decide +kernel))) rfl
theorem tw_3 : Cond.initialized "java/lang/Math" ∈ TBg := tb_in (List.mem_append_right _ (List.mem_of_getElem? (i := 3) (by decide +kernel))) rfl
theorem tw_4 : Cond.initialized "java/util/AbstractCollection" ∈ TBg := tb_in (List.mem_append_right _ (List.mem_of_getElem? (i := 4) (by decide +kernel))) rfl
theorem tw_5 : Cond.initialized "java/util/AbstractList" ∈ TBg := tb_in (List.mem_append_right _ (List.mem_of_getElem? (i := 5) (by decide +kernel))) rfl
theorem tw_6 : Cond.initialized "java/util/ArrayList" ∈ TBg := tb_in (List.mem_append_right _ (List.mem_of_getElem? (i := 6) (by decide +kernel))) rfl
theorem tw_9 : Cond.initialized "java/lang/System" ∈ TBg := tb_in (List.mem_append_right _ (List.mem_of_getElem? (i := 9) (by decide +kernel))) rfl
theorem tw_10 : Cond.initialized "KeyCommandInterpreter$Context" ∈ TBg := tb_in (List.mem_append_right _ (List.mem_of_getElem? (i := 10) (by decide +kernel))) rfl
theorem tw_11 : Cond.initialized "KeyCommandInterpreter$ReportLog" ∈ TBg := tb_in (List.mem_append_right _ (List.mem_of_getElem? (i := 11) (by decide +kernel))) rfl
theorem tw_12 : Cond.initialized "java/util/Objects" ∈ TBg := tb_in (List.mem_append_right _ (List.mem_of_getElem? (i := 12) (by decide +kernel))) rfl
theorem tw_13 : Cond.initialized "jdk/internal/util/Preconditions" ∈ TBg := tb_in (List.mem_append_right _ (List.mem_of_getElem? (i := 13) (by decide +kernel))) rfl
theorem tw_14 : Cond.initialized "KeyCommandInterpreterModel" ∈ TBg := tb_in (List.mem_append_right _ (List.mem_of_getElem? (i := 14) (by decide +kernel))) rfl
theorem tw_15 : Cond.initialized "KeyCommandInterpreter$Binding" ∈ TBg := tb_in (List.mem_append_right _ (List.mem_of_getElem? (i := 15) (by decide +kernel))) rfl
theorem tw_16 : Cond.classLink "KeyCommandInterpreterLaw" (7) "KeyCommandInterpreter" ∈ TBg := tb_in (List.mem_append_right _ (List.mem_of_getElem? (i := 16) (by decide +kernel))) rfl
theorem tw_17 : Cond.instantiable "KeyCommandInterpreter" (13) ∈ TBg := tb_in (List.mem_append_right _ (List.mem_of_getElem? (i := 17) (by decide +kernel))) rfl
theorem tw_18 : Cond.methodLink "KeyCommandInterpreterLaw" (9) yX4_init ∈ TBg := tb_in (List.mem_append_right _ (List.mem_of_getElem? (i := 18) (by decide +kernel))) rfl
theorem tw_19 : Cond.instanceMethod yX4_init ∈ TBg := tb_in (List.mem_append_right _ (List.mem_of_getElem? (i := 19) (by decide +kernel))) rfl
theorem tw_20 : Cond.code yX4_init (prog_1_method_1_code) (2) (Option.none : Option Jvm.ClassFile.FieldType) ∈ TBg := tb_in (List.mem_append_right _ (List.mem_of_getElem? (i := 20) (by decide +kernel))) rfl
theorem tw_21 : Cond.methodLink "KeyCommandInterpreter" (3) ⟨"java/lang/Object", "<init>", "()V"⟩ ∈ TBg := tb_in (List.mem_append_right _ (List.mem_of_getElem? (i := 21) (by decide +kernel))) rfl
theorem tw_22 : Cond.instanceMethod ⟨"java/lang/Object", "<init>", "()V"⟩ ∈ TBg := tb_in (List.mem_append_right _ (List.mem_of_getElem? (i := 22) (by decide +kernel))) rfl
theorem tw_23 : Cond.code ⟨"java/lang/Object", "<init>", "()V"⟩ (object_method_1_code) (1) (Option.none : Option Jvm.ClassFile.FieldType) ∈ TBg := tb_in (List.mem_append_right _ (List.mem_of_getElem? (i := 23) (by decide +kernel))) rfl
theorem tw_24 : Cond.classLink "KeyCommandInterpreter" (9) "KeyCommandInterpreter$Row" ∈ TBg := tb_in (List.mem_append_right _ (List.mem_of_getElem? (i := 24) (by decide +kernel))) rfl
theorem tw_25 : Cond.instantiable "KeyCommandInterpreter$Row" (2) ∈ TBg := tb_in (List.mem_append_right _ (List.mem_of_getElem? (i := 25) (by decide +kernel))) rfl
theorem tw_26 : Cond.methodLinkNest "KeyCommandInterpreter" (11) yX3_init "KeyCommandInterpreter" ∈ lw_tbl := List.mem_append_right _ (List.mem_of_getElem? (i := 26) (by decide +kernel))
theorem tw_27 : Cond.instanceMethod yX3_init ∈ TBg := tb_in (List.mem_append_right _ (List.mem_of_getElem? (i := 27) (by decide +kernel))) rfl
theorem tw_28 : Cond.code yX3_init (prog_5_method_1_code) (2) (Option.none : Option Jvm.ClassFile.FieldType) ∈ TBg := tb_in (List.mem_append_right _ (List.mem_of_getElem? (i := 28) (by decide +kernel))) rfl
theorem tw_29 : Cond.methodLink "KeyCommandInterpreter$Row" (3) ⟨"java/lang/Object", "<init>", "()V"⟩ ∈ TBg := tb_in (List.mem_append_right _ (List.mem_of_getElem? (i := 29) (by decide +kernel))) rfl
theorem tw_30 : Cond.methodLink "KeyCommandInterpreter$Row" (9) yJ9_max_7cf53 ∈ TBg := tb_in (List.mem_append_right _ (List.mem_of_getElem? (i := 30) (by decide +kernel))) rfl
theorem tw_31 : Cond.static yJ9_max_7cf53 ∈ TBg := tb_in (List.mem_append_right _ (List.mem_of_getElem? (i := 31) (by decide +kernel))) rfl
theorem tw_32 : Cond.code yJ9_max_7cf53 (prog_11_method_65_code) (2) (Option.some Jvm.ClassFile.FieldType.int) ∈ TBg := tb_in (List.mem_append_right _ (List.mem_of_getElem? (i := 32) (by decide +kernel))) rfl
theorem tw_33 : Cond.fieldLink "KeyCommandInterpreter$Row" (15) "KeyCommandInterpreter$Row" "items" "[I" ∈ TBg := tb_in (List.mem_append_right _ (List.mem_of_getElem? (i := 33) (by decide +kernel))) rfl
theorem tw_34 : Cond.fieldLink "KeyCommandInterpreter$Row" (21) "KeyCommandInterpreter$Row" "size" "I" ∈ TBg := tb_in (List.mem_append_right _ (List.mem_of_getElem? (i := 34) (by decide +kernel))) rfl
theorem tw_35 : Cond.laysFinal "KeyCommandInterpreter$Row" "KeyCommandInterpreter$Row" "items" "[I" ∈ TBg := tb_in (List.mem_append_right _ (List.mem_of_getElem? (i := 35) (by decide +kernel))) rfl
theorem tw_37 : Cond.lays "KeyCommandInterpreter$Row" "KeyCommandInterpreter$Row" "size" "I" ∈ TBg := tb_in (List.mem_append_right _ (List.mem_of_getElem? (i := 37) (by decide +kernel))) rfl
theorem tw_40 : Cond.arrayClass (Jvm.ClassFile.FieldType.int) ∈ TBg := tb_in (List.mem_append_right _ (List.mem_of_getElem? (i := 40) (by decide +kernel))) rfl
theorem tw_41 : Cond.classLink "KeyCommandInterpreter" (24) "java/util/ArrayList" ∈ TBg := tb_in (List.mem_append_right _ (List.mem_of_getElem? (i := 41) (by decide +kernel))) rfl
theorem tw_42 : Cond.instantiable "java/util/ArrayList" (3) ∈ TBg := tb_in (List.mem_append_right _ (List.mem_of_getElem? (i := 42) (by decide +kernel))) rfl
theorem tw_43 : Cond.methodLink "KeyCommandInterpreter" (26) yJx4a65c_init_da8c8 ∈ TBg := tb_in (List.mem_append_right _ (List.mem_of_getElem? (i := 43) (by decide +kernel))) rfl
theorem tw_44 : Cond.instanceMethod yJx4a65c_init_da8c8 ∈ TBg := tb_in (List.mem_append_right _ (List.mem_of_getElem? (i := 44) (by decide +kernel))) rfl
theorem tw_45 : Cond.code yJx4a65c_init_da8c8 (prog_15_method_2_code) (1) (Option.none : Option Jvm.ClassFile.FieldType) ∈ TBg := tb_in (List.mem_append_right _ (List.mem_of_getElem? (i := 45) (by decide +kernel))) rfl
theorem tw_46 : Cond.methodLink "java/util/ArrayList" (1) yJxc12de_init_da8c8 ∈ TBg := tb_in (List.mem_append_right _ (List.mem_of_getElem? (i := 46) (by decide +kernel))) rfl
theorem tw_47 : Cond.instanceMethod yJxc12de_init_da8c8 ∈ TBg := tb_in (List.mem_append_right _ (List.mem_of_getElem? (i := 47) (by decide +kernel))) rfl
theorem tw_48 : Cond.code yJxc12de_init_da8c8 (prog_14_method_1_code) (1) (Option.none : Option Jvm.ClassFile.FieldType) ∈ TBg := tb_in (List.mem_append_right _ (List.mem_of_getElem? (i := 48) (by decide +kernel))) rfl
theorem tw_49 : Cond.methodLink "java/util/AbstractList" (1) yJxa1e45_init_da8c8 ∈ TBg := tb_in (List.mem_append_right _ (List.mem_of_getElem? (i := 49) (by decide +kernel))) rfl
theorem tw_50 : Cond.instanceMethod yJxa1e45_init_da8c8 ∈ TBg := tb_in (List.mem_append_right _ (List.mem_of_getElem? (i := 50) (by decide +kernel))) rfl
theorem tw_51 : Cond.code yJxa1e45_init_da8c8 (prog_13_method_1_code) (1) (Option.none : Option Jvm.ClassFile.FieldType) ∈ TBg := tb_in (List.mem_append_right _ (List.mem_of_getElem? (i := 51) (by decide +kernel))) rfl
theorem tw_52 : Cond.methodLink "java/util/AbstractCollection" (1) ⟨"java/lang/Object", "<init>", "()V"⟩ ∈ TBg := tb_in (List.mem_append_right _ (List.mem_of_getElem? (i := 52) (by decide +kernel))) rfl
theorem tw_53 : Cond.fieldLink "java/util/ArrayList" (39) "java/util/ArrayList" "DEFAULTCAPACITY_EMPTY_ELEMENTDATA" "[Ljava/lang/Object;" ∈ TBg := tb_in (List.mem_append_right _ (List.mem_of_getElem? (i := 53) (by decide +kernel))) rfl
theorem tw_54 : Cond.laysStatic "java/util/ArrayList" "DEFAULTCAPACITY_EMPTY_ELEMENTDATA" "[Ljava/lang/Object;" ∈ lw_tbl := List.mem_append_right _ (List.mem_of_getElem? (i := 54) (by decide +kernel))
theorem tw_55 : Cond.fieldLink "java/util/ArrayList" (9) "java/util/ArrayList" "elementData" "[Ljava/lang/Object;" ∈ TBg := tb_in (List.mem_append_right _ (List.mem_of_getElem? (i := 55) (by decide +kernel))) rfl
theorem tw_56 : Cond.fieldLink "java/util/ArrayList" (48) "java/util/ArrayList" "size" "I" ∈ TBg := tb_in (List.mem_append_right _ (List.mem_of_getElem? (i := 56) (by decide +kernel))) rfl
theorem tw_57 : Cond.fieldLink "java/util/AbstractList" (7) "java/util/AbstractList" "modCount" "I" ∈ TBg := tb_in (List.mem_append_right _ (List.mem_of_getElem? (i := 57) (by decide +kernel))) rfl
theorem tw_58 : Cond.fieldLink "java/util/ArrayList" (63) "java/util/ArrayList" "modCount" "I" ∈ TBg := tb_in (List.mem_append_right _ (List.mem_of_getElem? (i := 58) (by decide +kernel))) rfl
theorem tw_59 : Cond.sameField "java/util/ArrayList" "java/util/AbstractList" "modCount" "I" ∈ TBg := tb_in (List.mem_append_right _ (List.mem_of_getElem? (i := 59) (by decide +kernel))) rfl
theorem tw_60 : Cond.lays "java/util/ArrayList" "java/util/ArrayList" "elementData" "[Ljava/lang/Object;" ∈ TBg := tb_in (List.mem_append_right _ (List.mem_of_getElem? (i := 60) (by decide +kernel))) rfl
theorem tw_62 : Cond.lays "java/util/ArrayList" "java/util/ArrayList" "size" "I" ∈ TBg := tb_in (List.mem_append_right _ (List.mem_of_getElem? (i := 62) (by decide +kernel))) rfl
theorem tw_64 : Cond.lays "java/util/ArrayList" "java/util/AbstractList" "modCount" "I" ∈ TBg := tb_in (List.mem_append_right _ (List.mem_of_getElem? (i := 64) (by decide +kernel))) rfl
theorem tw_67 : Cond.methodLink "KeyCommandInterpreter" (31) yJx4a65c_add_9ea2d ∈ TBg := tb_in (List.mem_append_right _ (List.mem_of_getElem? (i := 67) (by decide +kernel))) rfl
theorem tw_68 : Cond.instanceMethod yJx4a65c_add_9ea2d ∈ TBg := tb_in (List.mem_append_right _ (List.mem_of_getElem? (i := 68) (by decide +kernel))) rfl
theorem tw_69 : Cond.selects "java/util/ArrayList" yJx4a65c_add_9ea2d yJx4a65c_add_9ea2d ∈ TBg := tb_in (List.mem_append_right _ (List.mem_of_getElem? (i := 69) (by decide +kernel))) rfl
theorem tw_70 : Cond.code yJx4a65c_add_9ea2d (prog_15_method_25_code) (2) (Option.some Jvm.ClassFile.FieldType.boolean) ∈ TBg := tb_in (List.mem_append_right _ (List.mem_of_getElem? (i := 70) (by decide +kernel))) rfl
theorem tw_71 : Cond.methodLink "java/util/ArrayList" (131) yJx4a65c_add_72be8 ∈ TBg := tb_in (List.mem_append_right _ (List.mem_of_getElem? (i := 71) (by decide +kernel))) rfl
theorem tw_73 : Cond.instanceMethod yJx4a65c_add_72be8 ∈ TBg := tb_in (List.mem_append_right _ (List.mem_of_getElem? (i := 73) (by decide +kernel))) rfl
theorem tw_74 : Cond.code yJx4a65c_add_72be8 (prog_15_method_24_code) (4) (Option.none : Option Jvm.ClassFile.FieldType) ∈ TBg := tb_in (List.mem_append_right _ (List.mem_of_getElem? (i := 74) (by decide +kernel))) rfl
theorem tw_75 : Cond.methodLink "java/util/ArrayList" (129) yJx4a65c_grow_d5877 ∈ TBg := tb_in (List.mem_append_right _ (List.mem_of_getElem? (i := 75) (by decide +kernel))) rfl
theorem tw_77 : Cond.instanceMethod yJx4a65c_grow_d5877 ∈ TBg := tb_in (List.mem_append_right _ (List.mem_of_getElem? (i := 77) (by decide +kernel))) rfl
theorem tw_78 : Cond.code yJx4a65c_grow_d5877 (prog_15_method_7_code) (1) (Option.some (Jvm.ClassFile.FieldType.array (Jvm.ClassFile.FieldType.object "java/lang/Object"))) ∈ TBg := tb_in (List.mem_append_right _ (List.mem_of_getElem? (i := 78) (by decide +kernel))) rfl
theorem tw_79 : Cond.methodLink "java/util/ArrayList" (69) yJx4a65c_grow_92f84 ∈ TBg := tb_in (List.mem_append_right _ (List.mem_of_getElem? (i := 79) (by decide +kernel))) rfl
theorem tw_81 : Cond.instanceMethod yJx4a65c_grow_92f84 ∈ TBg := tb_in (List.mem_append_right _ (List.mem_of_getElem? (i := 81) (by decide +kernel))) rfl
theorem tw_82 : Cond.code yJx4a65c_grow_92f84 (prog_15_method_6_code) (4) (Option.some (Jvm.ClassFile.FieldType.array (Jvm.ClassFile.FieldType.object "java/lang/Object"))) ∈ TBg := tb_in (List.mem_append_right _ (List.mem_of_getElem? (i := 82) (by decide +kernel))) rfl
theorem tw_109 : Cond.arrayOver (Jvm.ClassFile.FieldType.object "java/lang/Object") ∈ lw_tbl := List.mem_append_right _ (List.mem_of_getElem? (i := 109) (by decide +kernel))
theorem tw_115 : Cond.static ⟨"java/lang/System", "arraycopy", "(Ljava/lang/Object;ILjava/lang/Object;II)V"⟩ ∈ TBg := tb_in (List.mem_append_right _ (List.mem_of_getElem? (i := 115) (by decide +kernel))) rfl
theorem tw_116 : Cond.native ⟨"java/lang/System", "arraycopy", "(Ljava/lang/Object;ILjava/lang/Object;II)V"⟩ ∈ TBg := tb_in (List.mem_append_right _ (List.mem_of_getElem? (i := 116) (by decide +kernel))) rfl
theorem tw_117 : Cond.methodLink "java/util/ArrayList" (79) yJ9_max_7cf53 ∈ TBg := tb_in (List.mem_append_right _ (List.mem_of_getElem? (i := 117) (by decide +kernel))) rfl
theorem tw_118 : Cond.classLink "java/util/ArrayList" (7) "java/lang/Object" ∈ TBg := tb_in (List.mem_append_right _ (List.mem_of_getElem? (i := 118) (by decide +kernel))) rfl
theorem tw_119 : Cond.classLink "KeyCommandInterpreter" (38) "KeyCommandInterpreter$Context" ∈ TBg := tb_in (List.mem_append_right _ (List.mem_of_getElem? (i := 119) (by decide +kernel))) rfl
theorem tw_120 : Cond.instantiable "KeyCommandInterpreter$Context" (2) ∈ TBg := tb_in (List.mem_append_right _ (List.mem_of_getElem? (i := 120) (by decide +kernel))) rfl
theorem tw_121 : Cond.methodLinkNest "KeyCommandInterpreter" (40) yX1_init "KeyCommandInterpreter" ∈ lw_tbl := List.mem_append_right _ (List.mem_of_getElem? (i := 121) (by decide +kernel))
theorem tw_122 : Cond.instanceMethod yX1_init ∈ TBg := tb_in (List.mem_append_right _ (List.mem_of_getElem? (i := 122) (by decide +kernel))) rfl
theorem tw_123 : Cond.code yX1_init (prog_3_method_1_code) (2) (Option.none : Option Jvm.ClassFile.FieldType) ∈ TBg := tb_in (List.mem_append_right _ (List.mem_of_getElem? (i := 123) (by decide +kernel))) rfl
theorem tw_124 : Cond.methodLink "KeyCommandInterpreter$Context" (1) ⟨"java/lang/Object", "<init>", "()V"⟩ ∈ TBg := tb_in (List.mem_append_right _ (List.mem_of_getElem? (i := 124) (by decide +kernel))) rfl
theorem tw_125 : Cond.classLink "KeyCommandInterpreter$Context" (13) "java/util/ArrayList" ∈ TBg := tb_in (List.mem_append_right _ (List.mem_of_getElem? (i := 125) (by decide +kernel))) rfl
theorem tw_126 : Cond.methodLink "KeyCommandInterpreter$Context" (15) yJx4a65c_init_da8c8 ∈ TBg := tb_in (List.mem_append_right _ (List.mem_of_getElem? (i := 126) (by decide +kernel))) rfl
theorem tw_127 : Cond.fieldLink "KeyCommandInterpreter$Context" (7) "KeyCommandInterpreter$Context" "number" "I" ∈ TBg := tb_in (List.mem_append_right _ (List.mem_of_getElem? (i := 127) (by decide +kernel))) rfl
theorem tw_128 : Cond.fieldLinkNest "KeyCommandInterpreter" (154) "KeyCommandInterpreter$Context" "number" "I" "KeyCommandInterpreter" ∈ lw_tbl := List.mem_append_right _ (List.mem_of_getElem? (i := 128) (by decide +kernel))
theorem tw_129 : Cond.fieldLink "KeyCommandInterpreter$Context" (16) "KeyCommandInterpreter$Context" "bindings" "Ljava/util/ArrayList;" ∈ TBg := tb_in (List.mem_append_right _ (List.mem_of_getElem? (i := 129) (by decide +kernel))) rfl
theorem tw_130 : Cond.fieldLinkNest "KeyCommandInterpreter" (105) "KeyCommandInterpreter$Context" "bindings" "Ljava/util/ArrayList;" "KeyCommandInterpreter" ∈ lw_tbl := List.mem_append_right _ (List.mem_of_getElem? (i := 130) (by decide +kernel))
theorem tw_131 : Cond.laysFinal "KeyCommandInterpreter$Context" "KeyCommandInterpreter$Context" "number" "I" ∈ TBg := tb_in (List.mem_append_right _ (List.mem_of_getElem? (i := 131) (by decide +kernel))) rfl
theorem tw_133 : Cond.laysFinal "KeyCommandInterpreter$Context" "KeyCommandInterpreter$Context" "bindings" "Ljava/util/ArrayList;" ∈ TBg := tb_in (List.mem_append_right _ (List.mem_of_getElem? (i := 133) (by decide +kernel))) rfl
theorem tw_136 : Cond.classLink "KeyCommandInterpreter" (48) "KeyCommandInterpreter$ReportLog" ∈ TBg := tb_in (List.mem_append_right _ (List.mem_of_getElem? (i := 136) (by decide +kernel))) rfl
theorem tw_137 : Cond.instantiable "KeyCommandInterpreter$ReportLog" (3) ∈ TBg := tb_in (List.mem_append_right _ (List.mem_of_getElem? (i := 137) (by decide +kernel))) rfl
theorem tw_138 : Cond.methodLinkNest "KeyCommandInterpreter" (50) yX2_init "KeyCommandInterpreter" ∈ lw_tbl := List.mem_append_right _ (List.mem_of_getElem? (i := 138) (by decide +kernel))
theorem tw_139 : Cond.instanceMethod yX2_init ∈ TBg := tb_in (List.mem_append_right _ (List.mem_of_getElem? (i := 139) (by decide +kernel))) rfl
theorem tw_140 : Cond.code yX2_init (prog_4_method_1_code) (1) (Option.none : Option Jvm.ClassFile.FieldType) ∈ TBg := tb_in (List.mem_append_right _ (List.mem_of_getElem? (i := 140) (by decide +kernel))) rfl
theorem tw_141 : Cond.methodLink "KeyCommandInterpreter$ReportLog" (3) ⟨"java/lang/Object", "<init>", "()V"⟩ ∈ TBg := tb_in (List.mem_append_right _ (List.mem_of_getElem? (i := 141) (by decide +kernel))) rfl
theorem tw_142 : Cond.fieldLink "KeyCommandInterpreter$ReportLog" (9) "KeyCommandInterpreter$ReportLog" "kinds" "[I" ∈ TBg := tb_in (List.mem_append_right _ (List.mem_of_getElem? (i := 142) (by decide +kernel))) rfl
theorem tw_143 : Cond.fieldLink "KeyCommandInterpreter$ReportLog" (15) "KeyCommandInterpreter$ReportLog" "arguments" "[I" ∈ TBg := tb_in (List.mem_append_right _ (List.mem_of_getElem? (i := 143) (by decide +kernel))) rfl
theorem tw_144 : Cond.fieldLink "KeyCommandInterpreter$ReportLog" (18) "KeyCommandInterpreter$ReportLog" "count" "I" ∈ TBg := tb_in (List.mem_append_right _ (List.mem_of_getElem? (i := 144) (by decide +kernel))) rfl
theorem tw_145 : Cond.fieldLinkNest "KeyCommandInterpreter" (128) "KeyCommandInterpreter$ReportLog" "count" "I" "KeyCommandInterpreter" ∈ lw_tbl := List.mem_append_right _ (List.mem_of_getElem? (i := 145) (by decide +kernel))
theorem tw_146 : Cond.laysFinal "KeyCommandInterpreter$ReportLog" "KeyCommandInterpreter$ReportLog" "kinds" "[I" ∈ TBg := tb_in (List.mem_append_right _ (List.mem_of_getElem? (i := 146) (by decide +kernel))) rfl
theorem tw_148 : Cond.laysFinal "KeyCommandInterpreter$ReportLog" "KeyCommandInterpreter$ReportLog" "arguments" "[I" ∈ TBg := tb_in (List.mem_append_right _ (List.mem_of_getElem? (i := 148) (by decide +kernel))) rfl
theorem tw_150 : Cond.lays "KeyCommandInterpreter$ReportLog" "KeyCommandInterpreter$ReportLog" "count" "I" ∈ TBg := tb_in (List.mem_append_right _ (List.mem_of_getElem? (i := 150) (by decide +kernel))) rfl
theorem tw_153 : Cond.methodLink "KeyCommandInterpreter" (71) yX4_pushContext ∈ TBg := tb_in (List.mem_append_right _ (List.mem_of_getElem? (i := 153) (by decide +kernel))) rfl
theorem tw_155 : Cond.instanceMethod yX4_pushContext ∈ TBg := tb_in (List.mem_append_right _ (List.mem_of_getElem? (i := 155) (by decide +kernel))) rfl
theorem tw_156 : Cond.code yX4_pushContext (prog_1_method_32_code) (2) (Option.none : Option Jvm.ClassFile.FieldType) ∈ TBg := tb_in (List.mem_append_right _ (List.mem_of_getElem? (i := 156) (by decide +kernel))) rfl
theorem tw_157 : Cond.methodLink "KeyCommandInterpreter" (91) yX4_isContext ∈ TBg := tb_in (List.mem_append_right _ (List.mem_of_getElem? (i := 157) (by decide +kernel))) rfl
theorem tw_159 : Cond.instanceMethod yX4_isContext ∈ TBg := tb_in (List.mem_append_right _ (List.mem_of_getElem? (i := 159) (by decide +kernel))) rfl
theorem tw_160 : Cond.code yX4_isContext (prog_1_method_37_code) (2) (Option.some Jvm.ClassFile.FieldType.boolean) ∈ TBg := tb_in (List.mem_append_right _ (List.mem_of_getElem? (i := 160) (by decide +kernel))) rfl
theorem tw_161 : Cond.methodLink "KeyCommandInterpreter" (108) yJx4a65c_size_8abf5 ∈ TBg := tb_in (List.mem_append_right _ (List.mem_of_getElem? (i := 161) (by decide +kernel))) rfl
theorem tw_162 : Cond.instanceMethod yJx4a65c_size_8abf5 ∈ TBg := tb_in (List.mem_append_right _ (List.mem_of_getElem? (i := 162) (by decide +kernel))) rfl
theorem tw_163 : Cond.selects "java/util/ArrayList" yJx4a65c_size_8abf5 yJx4a65c_size_8abf5 ∈ TBg := tb_in (List.mem_append_right _ (List.mem_of_getElem? (i := 163) (by decide +kernel))) rfl
theorem tw_164 : Cond.code yJx4a65c_size_8abf5 (prog_15_method_8_code) (1) (Option.some Jvm.ClassFile.FieldType.int) ∈ TBg := tb_in (List.mem_append_right _ (List.mem_of_getElem? (i := 164) (by decide +kernel))) rfl
theorem tw_165 : Cond.methodLink "KeyCommandInterpreter" (101) yJx4a65c_get_915e3 ∈ TBg := tb_in (List.mem_append_right _ (List.mem_of_getElem? (i := 165) (by decide +kernel))) rfl
theorem tw_166 : Cond.instanceMethod yJx4a65c_get_915e3 ∈ TBg := tb_in (List.mem_append_right _ (List.mem_of_getElem? (i := 166) (by decide +kernel))) rfl
theorem tw_167 : Cond.selects "java/util/ArrayList" yJx4a65c_get_915e3 yJx4a65c_get_915e3 ∈ TBg := tb_in (List.mem_append_right _ (List.mem_of_getElem? (i := 167) (by decide +kernel))) rfl
theorem tw_168 : Cond.code yJx4a65c_get_915e3 (prog_15_method_20_code) (2) (Option.some (Jvm.ClassFile.FieldType.object "java/lang/Object")) ∈ TBg := tb_in (List.mem_append_right _ (List.mem_of_getElem? (i := 168) (by decide +kernel))) rfl
theorem tw_169 : Cond.methodLink "java/util/ArrayList" (118) yJ15_checkIndex_7cf53 ∈ TBg := tb_in (List.mem_append_right _ (List.mem_of_getElem? (i := 169) (by decide +kernel))) rfl
theorem tw_170 : Cond.static yJ15_checkIndex_7cf53 ∈ TBg := tb_in (List.mem_append_right _ (List.mem_of_getElem? (i := 170) (by decide +kernel))) rfl
theorem tw_171 : Cond.code yJ15_checkIndex_7cf53 (prog_19_method_17_code) (2) (Option.some Jvm.ClassFile.FieldType.int) ∈ TBg := tb_in (List.mem_append_right _ (List.mem_of_getElem? (i := 171) (by decide +kernel))) rfl
theorem tw_172 : Cond.methodLink "java/util/Objects" (105) yJ3_checkIndex_8e157 ∈ TBg := tb_in (List.mem_append_right _ (List.mem_of_getElem? (i := 172) (by decide +kernel))) rfl
theorem tw_173 : Cond.static yJ3_checkIndex_8e157 ∈ TBg := tb_in (List.mem_append_right _ (List.mem_of_getElem? (i := 173) (by decide +kernel))) rfl
theorem tw_174 : Cond.code yJ3_checkIndex_8e157 (prog_23_method_11_code) (3) (Option.some Jvm.ClassFile.FieldType.int) ∈ TBg := tb_in (List.mem_append_right _ (List.mem_of_getElem? (i := 174) (by decide +kernel))) rfl
theorem tw_175 : Cond.methodLink "java/util/ArrayList" (123) yJx4a65c_elementData_915e3 ∈ TBg := tb_in (List.mem_append_right _ (List.mem_of_getElem? (i := 175) (by decide +kernel))) rfl
theorem tw_176 : Cond.instanceMethod yJx4a65c_elementData_915e3 ∈ TBg := tb_in (List.mem_append_right _ (List.mem_of_getElem? (i := 176) (by decide +kernel))) rfl
theorem tw_177 : Cond.selects "java/util/ArrayList" yJx4a65c_elementData_915e3 yJx4a65c_elementData_915e3 ∈ TBg := tb_in (List.mem_append_right _ (List.mem_of_getElem? (i := 177) (by decide +kernel))) rfl
theorem tw_178 : Cond.code yJx4a65c_elementData_915e3 (prog_15_method_18_code) (2) (Option.some (Jvm.ClassFile.FieldType.object "java/lang/Object")) ∈ TBg := tb_in (List.mem_append_right _ (List.mem_of_getElem? (i := 178) (by decide +kernel))) rfl
theorem tw_179 : Cond.fieldLink "KeyCommandInterpreter" (14) "KeyCommandInterpreter" "buffer" "LKeyCommandInterpreter$Row;" ∈ TBg := tb_in (List.mem_append_right _ (List.mem_of_getElem? (i := 179) (by decide +kernel))) rfl
theorem tw_180 : Cond.fieldLink "KeyCommandInterpreter" (18) "KeyCommandInterpreter" "pending" "LKeyCommandInterpreter$Row;" ∈ TBg := tb_in (List.mem_append_right _ (List.mem_of_getElem? (i := 180) (by decide +kernel))) rfl
theorem tw_181 : Cond.fieldLink "KeyCommandInterpreter" (21) "KeyCommandInterpreter" "waiting" "LKeyCommandInterpreter$Row;" ∈ TBg := tb_in (List.mem_append_right _ (List.mem_of_getElem? (i := 181) (by decide +kernel))) rfl
theorem tw_182 : Cond.fieldLink "KeyCommandInterpreter" (27) "KeyCommandInterpreter" "macros" "Ljava/util/ArrayList;" ∈ TBg := tb_in (List.mem_append_right _ (List.mem_of_getElem? (i := 182) (by decide +kernel))) rfl
theorem tw_183 : Cond.fieldLink "KeyCommandInterpreter" (35) "KeyCommandInterpreter" "contexts" "Ljava/util/ArrayList;" ∈ TBg := tb_in (List.mem_append_right _ (List.mem_of_getElem? (i := 183) (by decide +kernel))) rfl
theorem tw_184 : Cond.fieldLink "KeyCommandInterpreter" (41) "KeyCommandInterpreter" "stack" "Ljava/util/ArrayList;" ∈ TBg := tb_in (List.mem_append_right _ (List.mem_of_getElem? (i := 184) (by decide +kernel))) rfl
theorem tw_185 : Cond.fieldLink "KeyCommandInterpreter" (44) "KeyCommandInterpreter" "flags" "[I" ∈ TBg := tb_in (List.mem_append_right _ (List.mem_of_getElem? (i := 185) (by decide +kernel))) rfl
theorem tw_186 : Cond.fieldLink "KeyCommandInterpreter" (51) "KeyCommandInterpreter" "reports" "LKeyCommandInterpreter$ReportLog;" ∈ TBg := tb_in (List.mem_append_right _ (List.mem_of_getElem? (i := 186) (by decide +kernel))) rfl
theorem tw_187 : Cond.fieldLink "KeyCommandInterpreter" (55) "KeyCommandInterpreter" "timeout" "I" ∈ TBg := tb_in (List.mem_append_right _ (List.mem_of_getElem? (i := 187) (by decide +kernel))) rfl
theorem tw_188 : Cond.fieldLink "KeyCommandInterpreter" (59) "KeyCommandInterpreter" "remaining" "I" ∈ TBg := tb_in (List.mem_append_right _ (List.mem_of_getElem? (i := 188) (by decide +kernel))) rfl
theorem tw_189 : Cond.fieldLink "KeyCommandInterpreter" (62) "KeyCommandInterpreter" "recorded" "I" ∈ TBg := tb_in (List.mem_append_right _ (List.mem_of_getElem? (i := 189) (by decide +kernel))) rfl
theorem tw_190 : Cond.fieldLink "KeyCommandInterpreter" (65) "KeyCommandInterpreter" "playing" "I" ∈ TBg := tb_in (List.mem_append_right _ (List.mem_of_getElem? (i := 190) (by decide +kernel))) rfl
theorem tw_191 : Cond.fieldLink "KeyCommandInterpreter" (68) "KeyCommandInterpreter" "played" "I" ∈ TBg := tb_in (List.mem_append_right _ (List.mem_of_getElem? (i := 191) (by decide +kernel))) rfl
theorem tw_192 : Cond.laysFinal "KeyCommandInterpreter" "KeyCommandInterpreter" "buffer" "LKeyCommandInterpreter$Row;" ∈ TBg := tb_in (List.mem_append_right _ (List.mem_of_getElem? (i := 192) (by decide +kernel))) rfl
theorem tw_194 : Cond.laysFinal "KeyCommandInterpreter" "KeyCommandInterpreter" "pending" "LKeyCommandInterpreter$Row;" ∈ TBg := tb_in (List.mem_append_right _ (List.mem_of_getElem? (i := 194) (by decide +kernel))) rfl
theorem tw_196 : Cond.laysFinal "KeyCommandInterpreter" "KeyCommandInterpreter" "waiting" "LKeyCommandInterpreter$Row;" ∈ TBg := tb_in (List.mem_append_right _ (List.mem_of_getElem? (i := 196) (by decide +kernel))) rfl
theorem tw_198 : Cond.laysFinal "KeyCommandInterpreter" "KeyCommandInterpreter" "macros" "Ljava/util/ArrayList;" ∈ TBg := tb_in (List.mem_append_right _ (List.mem_of_getElem? (i := 198) (by decide +kernel))) rfl
theorem tw_200 : Cond.laysFinal "KeyCommandInterpreter" "KeyCommandInterpreter" "contexts" "Ljava/util/ArrayList;" ∈ TBg := tb_in (List.mem_append_right _ (List.mem_of_getElem? (i := 200) (by decide +kernel))) rfl
theorem tw_202 : Cond.laysFinal "KeyCommandInterpreter" "KeyCommandInterpreter" "stack" "Ljava/util/ArrayList;" ∈ TBg := tb_in (List.mem_append_right _ (List.mem_of_getElem? (i := 202) (by decide +kernel))) rfl
theorem tw_204 : Cond.laysFinal "KeyCommandInterpreter" "KeyCommandInterpreter" "flags" "[I" ∈ TBg := tb_in (List.mem_append_right _ (List.mem_of_getElem? (i := 204) (by decide +kernel))) rfl
theorem tw_206 : Cond.laysFinal "KeyCommandInterpreter" "KeyCommandInterpreter" "reports" "LKeyCommandInterpreter$ReportLog;" ∈ TBg := tb_in (List.mem_append_right _ (List.mem_of_getElem? (i := 206) (by decide +kernel))) rfl
theorem tw_208 : Cond.lays "KeyCommandInterpreter" "KeyCommandInterpreter" "timeout" "I" ∈ TBg := tb_in (List.mem_append_right _ (List.mem_of_getElem? (i := 208) (by decide +kernel))) rfl
theorem tw_210 : Cond.lays "KeyCommandInterpreter" "KeyCommandInterpreter" "remaining" "I" ∈ TBg := tb_in (List.mem_append_right _ (List.mem_of_getElem? (i := 210) (by decide +kernel))) rfl
theorem tw_212 : Cond.lays "KeyCommandInterpreter" "KeyCommandInterpreter" "recorded" "I" ∈ TBg := tb_in (List.mem_append_right _ (List.mem_of_getElem? (i := 212) (by decide +kernel))) rfl
theorem tw_214 : Cond.lays "KeyCommandInterpreter" "KeyCommandInterpreter" "playing" "I" ∈ TBg := tb_in (List.mem_append_right _ (List.mem_of_getElem? (i := 214) (by decide +kernel))) rfl
theorem tw_216 : Cond.lays "KeyCommandInterpreter" "KeyCommandInterpreter" "played" "I" ∈ TBg := tb_in (List.mem_append_right _ (List.mem_of_getElem? (i := 216) (by decide +kernel))) rfl
theorem tw_219 : Cond.methodLink "KeyCommandInterpreterLaw" (13) yX4_appendKey ∈ TBg := tb_in (List.mem_append_right _ (List.mem_of_getElem? (i := 219) (by decide +kernel))) rfl
theorem tw_220 : Cond.instanceMethod yX4_appendKey ∈ TBg := tb_in (List.mem_append_right _ (List.mem_of_getElem? (i := 220) (by decide +kernel))) rfl
theorem tw_221 : Cond.selects "KeyCommandInterpreter" yX4_appendKey yX4_appendKey ∈ TBg := tb_in (List.mem_append_right _ (List.mem_of_getElem? (i := 221) (by decide +kernel))) rfl
theorem tw_222 : Cond.code yX4_appendKey (prog_1_method_2_code) (2) (Option.some Jvm.ClassFile.FieldType.int) ∈ TBg := tb_in (List.mem_append_right _ (List.mem_of_getElem? (i := 222) (by decide +kernel))) rfl
theorem tw_223 : Cond.methodLink "KeyCommandInterpreter" (74) yX4_isKey ∈ TBg := tb_in (List.mem_append_right _ (List.mem_of_getElem? (i := 223) (by decide +kernel))) rfl
theorem tw_224 : Cond.static yX4_isKey ∈ TBg := tb_in (List.mem_append_right _ (List.mem_of_getElem? (i := 224) (by decide +kernel))) rfl
theorem tw_225 : Cond.code yX4_isKey (prog_1_method_35_code) (1) (Option.some Jvm.ClassFile.FieldType.boolean) ∈ TBg := tb_in (List.mem_append_right _ (List.mem_of_getElem? (i := 225) (by decide +kernel))) rfl
theorem tw_226 : Cond.methodLinkNest "KeyCommandInterpreter" (78) yX3_isFull "KeyCommandInterpreter" ∈ lw_tbl := List.mem_append_right _ (List.mem_of_getElem? (i := 226) (by decide +kernel))
theorem tw_228 : Cond.instanceMethod yX3_isFull ∈ TBg := tb_in (List.mem_append_right _ (List.mem_of_getElem? (i := 228) (by decide +kernel))) rfl
theorem tw_229 : Cond.code yX3_isFull (prog_5_method_3_code) (1) (Option.some Jvm.ClassFile.FieldType.boolean) ∈ TBg := tb_in (List.mem_append_right _ (List.mem_of_getElem? (i := 229) (by decide +kernel))) rfl
theorem tw_230 : Cond.methodLinkNest "KeyCommandInterpreter" (82) yX3_add "KeyCommandInterpreter" ∈ lw_tbl := List.mem_append_right _ (List.mem_of_getElem? (i := 230) (by decide +kernel))
theorem tw_232 : Cond.instanceMethod yX3_add ∈ TBg := tb_in (List.mem_append_right _ (List.mem_of_getElem? (i := 232) (by decide +kernel))) rfl
theorem tw_233 : Cond.code yX3_add (prog_5_method_4_code) (2) (Option.none : Option Jvm.ClassFile.FieldType) ∈ TBg := tb_in (List.mem_append_right _ (List.mem_of_getElem? (i := 233) (by decide +kernel))) rfl
theorem tw_234 : Cond.methodLinkNest "KeyCommandInterpreter" (84) yX3_size "KeyCommandInterpreter" ∈ lw_tbl := List.mem_append_right _ (List.mem_of_getElem? (i := 234) (by decide +kernel))
theorem tw_236 : Cond.instanceMethod yX3_size ∈ TBg := tb_in (List.mem_append_right _ (List.mem_of_getElem? (i := 236) (by decide +kernel))) rfl
theorem tw_237 : Cond.code yX3_size (prog_5_method_2_code) (1) (Option.some Jvm.ClassFile.FieldType.int) ∈ TBg := tb_in (List.mem_append_right _ (List.mem_of_getElem? (i := 237) (by decide +kernel))) rfl
theorem tw_238 : Cond.methodLink "KeyCommandInterpreterLaw" (18) yX4_clearKeys ∈ TBg := tb_in (List.mem_append_right _ (List.mem_of_getElem? (i := 238) (by decide +kernel))) rfl
theorem tw_239 : Cond.instanceMethod yX4_clearKeys ∈ TBg := tb_in (List.mem_append_right _ (List.mem_of_getElem? (i := 239) (by decide +kernel))) rfl
theorem tw_240 : Cond.selects "KeyCommandInterpreter" yX4_clearKeys yX4_clearKeys ∈ TBg := tb_in (List.mem_append_right _ (List.mem_of_getElem? (i := 240) (by decide +kernel))) rfl
theorem tw_241 : Cond.code yX4_clearKeys (prog_1_method_3_code) (2) (Option.some Jvm.ClassFile.FieldType.int) ∈ TBg := tb_in (List.mem_append_right _ (List.mem_of_getElem? (i := 241) (by decide +kernel))) rfl
theorem tw_242 : Cond.methodLinkNest "KeyCommandInterpreter" (88) yX3_clear "KeyCommandInterpreter" ∈ lw_tbl := List.mem_append_right _ (List.mem_of_getElem? (i := 242) (by decide +kernel))
theorem tw_244 : Cond.instanceMethod yX3_clear ∈ TBg := tb_in (List.mem_append_right _ (List.mem_of_getElem? (i := 244) (by decide +kernel))) rfl
theorem tw_245 : Cond.code yX3_clear (prog_5_method_7_code) (1) (Option.none : Option Jvm.ClassFile.FieldType) ∈ TBg := tb_in (List.mem_append_right _ (List.mem_of_getElem? (i := 245) (by decide +kernel))) rfl
theorem tw_246 : Cond.methodLink "KeyCommandInterpreterLaw" (23) yX4_bind ∈ TBg := tb_in (List.mem_append_right _ (List.mem_of_getElem? (i := 246) (by decide +kernel))) rfl
theorem tw_247 : Cond.instanceMethod yX4_bind ∈ TBg := tb_in (List.mem_append_right _ (List.mem_of_getElem? (i := 247) (by decide +kernel))) rfl
theorem tw_248 : Cond.selects "KeyCommandInterpreter" yX4_bind yX4_bind ∈ TBg := tb_in (List.mem_append_right _ (List.mem_of_getElem? (i := 248) (by decide +kernel))) rfl
theorem tw_249 : Cond.code yX4_bind (prog_1_method_4_code) (7) (Option.some Jvm.ClassFile.FieldType.int) ∈ TBg := tb_in (List.mem_append_right _ (List.mem_of_getElem? (i := 249) (by decide +kernel))) rfl
theorem tw_250 : Cond.methodLink "KeyCommandInterpreter" (94) yX4_isCondition ∈ TBg := tb_in (List.mem_append_right _ (List.mem_of_getElem? (i := 250) (by decide +kernel))) rfl
theorem tw_252 : Cond.instanceMethod yX4_isCondition ∈ TBg := tb_in (List.mem_append_right _ (List.mem_of_getElem? (i := 252) (by decide +kernel))) rfl
theorem tw_253 : Cond.code yX4_isCondition (prog_1_method_40_code) (3) (Option.some Jvm.ClassFile.FieldType.boolean) ∈ TBg := tb_in (List.mem_append_right _ (List.mem_of_getElem? (i := 253) (by decide +kernel))) rfl
theorem tw_254 : Cond.methodLink "KeyCommandInterpreter" (144) yX4_isFlag ∈ TBg := tb_in (List.mem_append_right _ (List.mem_of_getElem? (i := 254) (by decide +kernel))) rfl
theorem tw_256 : Cond.instanceMethod yX4_isFlag ∈ TBg := tb_in (List.mem_append_right _ (List.mem_of_getElem? (i := 256) (by decide +kernel))) rfl
theorem tw_257 : Cond.code yX4_isFlag (prog_1_method_36_code) (2) (Option.some Jvm.ClassFile.FieldType.boolean) ∈ TBg := tb_in (List.mem_append_right _ (List.mem_of_getElem? (i := 257) (by decide +kernel))) rfl
theorem tw_258 : Cond.methodLink "KeyCommandInterpreter" (137) yX4_isBetween ∈ TBg := tb_in (List.mem_append_right _ (List.mem_of_getElem? (i := 258) (by decide +kernel))) rfl
theorem tw_259 : Cond.static yX4_isBetween ∈ TBg := tb_in (List.mem_append_right _ (List.mem_of_getElem? (i := 259) (by decide +kernel))) rfl
theorem tw_260 : Cond.code yX4_isBetween (prog_1_method_34_code) (3) (Option.some Jvm.ClassFile.FieldType.boolean) ∈ TBg := tb_in (List.mem_append_right _ (List.mem_of_getElem? (i := 260) (by decide +kernel))) rfl
theorem tw_261 : Cond.methodLink "KeyCommandInterpreter" (98) yX4_isAction ∈ TBg := tb_in (List.mem_append_right _ (List.mem_of_getElem? (i := 261) (by decide +kernel))) rfl
theorem tw_263 : Cond.instanceMethod yX4_isAction ∈ TBg := tb_in (List.mem_append_right _ (List.mem_of_getElem? (i := 263) (by decide +kernel))) rfl
theorem tw_264 : Cond.code yX4_isAction (prog_1_method_41_code) (3) (Option.some Jvm.ClassFile.FieldType.boolean) ∈ TBg := tb_in (List.mem_append_right _ (List.mem_of_getElem? (i := 264) (by decide +kernel))) rfl
theorem tw_265 : Cond.methodLink "KeyCommandInterpreter" (131) yX4_isMacro ∈ TBg := tb_in (List.mem_append_right _ (List.mem_of_getElem? (i := 265) (by decide +kernel))) rfl
theorem tw_267 : Cond.instanceMethod yX4_isMacro ∈ TBg := tb_in (List.mem_append_right _ (List.mem_of_getElem? (i := 267) (by decide +kernel))) rfl
theorem tw_268 : Cond.code yX4_isMacro (prog_1_method_38_code) (2) (Option.some Jvm.ClassFile.FieldType.boolean) ∈ TBg := tb_in (List.mem_append_right _ (List.mem_of_getElem? (i := 268) (by decide +kernel))) rfl
theorem tw_269 : Cond.classLink "KeyCommandInterpreter" (109) "KeyCommandInterpreter$Binding" ∈ TBg := tb_in (List.mem_append_right _ (List.mem_of_getElem? (i := 269) (by decide +kernel))) rfl
theorem tw_270 : Cond.instantiable "KeyCommandInterpreter$Binding" (5) ∈ TBg := tb_in (List.mem_append_right _ (List.mem_of_getElem? (i := 270) (by decide +kernel))) rfl
theorem tw_271 : Cond.methodLinkNest "KeyCommandInterpreter" (111) yX3_copy "KeyCommandInterpreter" ∈ lw_tbl := List.mem_append_right _ (List.mem_of_getElem? (i := 271) (by decide +kernel))
theorem tw_273 : Cond.instanceMethod yX3_copy ∈ TBg := tb_in (List.mem_append_right _ (List.mem_of_getElem? (i := 273) (by decide +kernel))) rfl
theorem tw_274 : Cond.code yX3_copy (prog_5_method_8_code) (3) (Option.some (Jvm.ClassFile.FieldType.object "KeyCommandInterpreter$Row")) ∈ TBg := tb_in (List.mem_append_right _ (List.mem_of_getElem? (i := 274) (by decide +kernel))) rfl
theorem tw_275 : Cond.classLink "KeyCommandInterpreter$Row" (16) "KeyCommandInterpreter$Row" ∈ TBg := tb_in (List.mem_append_right _ (List.mem_of_getElem? (i := 275) (by decide +kernel))) rfl
theorem tw_276 : Cond.methodLink "KeyCommandInterpreter$Row" (25) yX3_init ∈ TBg := tb_in (List.mem_append_right _ (List.mem_of_getElem? (i := 276) (by decide +kernel))) rfl
theorem tw_277 : Cond.methodLink "KeyCommandInterpreter$Row" (28) yX3_add ∈ TBg := tb_in (List.mem_append_right _ (List.mem_of_getElem? (i := 277) (by decide +kernel))) rfl
theorem tw_278 : Cond.methodLinkNest "KeyCommandInterpreter" (115) yX0_init "KeyCommandInterpreter" ∈ lw_tbl := List.mem_append_right _ (List.mem_of_getElem? (i := 278) (by decide +kernel))
theorem tw_279 : Cond.instanceMethod yX0_init ∈ TBg := tb_in (List.mem_append_right _ (List.mem_of_getElem? (i := 279) (by decide +kernel))) rfl
theorem tw_280 : Cond.code yX0_init (prog_2_method_1_code) (6) (Option.none : Option Jvm.ClassFile.FieldType) ∈ TBg := tb_in (List.mem_append_right _ (List.mem_of_getElem? (i := 280) (by decide +kernel))) rfl
theorem tw_281 : Cond.methodLink "KeyCommandInterpreter$Binding" (3) ⟨"java/lang/Object", "<init>", "()V"⟩ ∈ TBg := tb_in (List.mem_append_right _ (List.mem_of_getElem? (i := 281) (by decide +kernel))) rfl
theorem tw_282 : Cond.fieldLink "KeyCommandInterpreter$Binding" (9) "KeyCommandInterpreter$Binding" "sequence" "LKeyCommandInterpreter$Row;" ∈ TBg := tb_in (List.mem_append_right _ (List.mem_of_getElem? (i := 282) (by decide +kernel))) rfl
theorem tw_283 : Cond.fieldLink "KeyCommandInterpreter$Binding" (15) "KeyCommandInterpreter$Binding" "conditionFlag" "I" ∈ TBg := tb_in (List.mem_append_right _ (List.mem_of_getElem? (i := 283) (by decide +kernel))) rfl
theorem tw_284 : Cond.fieldLink "KeyCommandInterpreter$Binding" (19) "KeyCommandInterpreter$Binding" "conditionValue" "I" ∈ TBg := tb_in (List.mem_append_right _ (List.mem_of_getElem? (i := 284) (by decide +kernel))) rfl
theorem tw_285 : Cond.fieldLink "KeyCommandInterpreter$Binding" (22) "KeyCommandInterpreter$Binding" "action" "I" ∈ TBg := tb_in (List.mem_append_right _ (List.mem_of_getElem? (i := 285) (by decide +kernel))) rfl
theorem tw_286 : Cond.fieldLinkNest "KeyCommandInterpreter" (191) "KeyCommandInterpreter$Binding" "action" "I" "KeyCommandInterpreter" ∈ lw_tbl := List.mem_append_right _ (List.mem_of_getElem? (i := 286) (by decide +kernel))
theorem tw_287 : Cond.fieldLink "KeyCommandInterpreter$Binding" (25) "KeyCommandInterpreter$Binding" "argument" "I" ∈ TBg := tb_in (List.mem_append_right _ (List.mem_of_getElem? (i := 287) (by decide +kernel))) rfl
theorem tw_288 : Cond.fieldLinkNest "KeyCommandInterpreter" (188) "KeyCommandInterpreter$Binding" "argument" "I" "KeyCommandInterpreter" ∈ lw_tbl := List.mem_append_right _ (List.mem_of_getElem? (i := 288) (by decide +kernel))
theorem tw_289 : Cond.laysFinal "KeyCommandInterpreter$Binding" "KeyCommandInterpreter$Binding" "sequence" "LKeyCommandInterpreter$Row;" ∈ TBg := tb_in (List.mem_append_right _ (List.mem_of_getElem? (i := 289) (by decide +kernel))) rfl
theorem tw_291 : Cond.laysFinal "KeyCommandInterpreter$Binding" "KeyCommandInterpreter$Binding" "conditionFlag" "I" ∈ TBg := tb_in (List.mem_append_right _ (List.mem_of_getElem? (i := 291) (by decide +kernel))) rfl
theorem tw_293 : Cond.laysFinal "KeyCommandInterpreter$Binding" "KeyCommandInterpreter$Binding" "conditionValue" "I" ∈ TBg := tb_in (List.mem_append_right _ (List.mem_of_getElem? (i := 293) (by decide +kernel))) rfl
theorem tw_295 : Cond.laysFinal "KeyCommandInterpreter$Binding" "KeyCommandInterpreter$Binding" "action" "I" ∈ TBg := tb_in (List.mem_append_right _ (List.mem_of_getElem? (i := 295) (by decide +kernel))) rfl
theorem tw_297 : Cond.laysFinal "KeyCommandInterpreter$Binding" "KeyCommandInterpreter$Binding" "argument" "I" ∈ TBg := tb_in (List.mem_append_right _ (List.mem_of_getElem? (i := 297) (by decide +kernel))) rfl
theorem tw_300 : Cond.methodLink "KeyCommandInterpreterLaw" (28) yX4_unbind ∈ TBg := tb_in (List.mem_append_right _ (List.mem_of_getElem? (i := 300) (by decide +kernel))) rfl
theorem tw_301 : Cond.instanceMethod yX4_unbind ∈ TBg := tb_in (List.mem_append_right _ (List.mem_of_getElem? (i := 301) (by decide +kernel))) rfl
theorem tw_302 : Cond.selects "KeyCommandInterpreter" yX4_unbind yX4_unbind ∈ TBg := tb_in (List.mem_append_right _ (List.mem_of_getElem? (i := 302) (by decide +kernel))) rfl
theorem tw_303 : Cond.code yX4_unbind (prog_1_method_5_code) (4) (Option.some Jvm.ClassFile.FieldType.int) ∈ TBg := tb_in (List.mem_append_right _ (List.mem_of_getElem? (i := 303) (by decide +kernel))) rfl
theorem tw_304 : Cond.methodLink "KeyCommandInterpreter" (118) yX4_isBinding ∈ TBg := tb_in (List.mem_append_right _ (List.mem_of_getElem? (i := 304) (by decide +kernel))) rfl
theorem tw_306 : Cond.instanceMethod yX4_isBinding ∈ TBg := tb_in (List.mem_append_right _ (List.mem_of_getElem? (i := 306) (by decide +kernel))) rfl
theorem tw_307 : Cond.code yX4_isBinding (prog_1_method_39_code) (3) (Option.some Jvm.ClassFile.FieldType.boolean) ∈ TBg := tb_in (List.mem_append_right _ (List.mem_of_getElem? (i := 307) (by decide +kernel))) rfl
theorem tw_308 : Cond.methodLink "KeyCommandInterpreter" (121) yJx4a65c_remove_915e3 ∈ TBg := tb_in (List.mem_append_right _ (List.mem_of_getElem? (i := 308) (by decide +kernel))) rfl
theorem tw_309 : Cond.instanceMethod yJx4a65c_remove_915e3 ∈ TBg := tb_in (List.mem_append_right _ (List.mem_of_getElem? (i := 309) (by decide +kernel))) rfl
theorem tw_310 : Cond.selects "java/util/ArrayList" yJx4a65c_remove_915e3 yJx4a65c_remove_915e3 ∈ TBg := tb_in (List.mem_append_right _ (List.mem_of_getElem? (i := 310) (by decide +kernel))) rfl
theorem tw_311 : Cond.code yJx4a65c_remove_915e3 (prog_15_method_29_code) (4) (Option.some (Jvm.ClassFile.FieldType.object "java/lang/Object")) ∈ TBg := tb_in (List.mem_append_right _ (List.mem_of_getElem? (i := 311) (by decide +kernel))) rfl
theorem tw_312 : Cond.methodLink "java/util/ArrayList" (144) yJx4a65c_fastRemove_b59b0 ∈ TBg := tb_in (List.mem_append_right _ (List.mem_of_getElem? (i := 312) (by decide +kernel))) rfl
theorem tw_314 : Cond.instanceMethod yJx4a65c_fastRemove_b59b0 ∈ TBg := tb_in (List.mem_append_right _ (List.mem_of_getElem? (i := 314) (by decide +kernel))) rfl
theorem tw_315 : Cond.code yJx4a65c_fastRemove_b59b0 (prog_15_method_39_code) (4) (Option.none : Option Jvm.ClassFile.FieldType) ∈ TBg := tb_in (List.mem_append_right _ (List.mem_of_getElem? (i := 315) (by decide +kernel))) rfl
theorem tw_316 : Cond.methodLink "java/util/ArrayList" (112) ⟨"java/lang/System", "arraycopy", "(Ljava/lang/Object;ILjava/lang/Object;II)V"⟩ ∈ TBg := tb_in (List.mem_append_right _ (List.mem_of_getElem? (i := 316) (by decide +kernel))) rfl
theorem tw_317 : Cond.methodLink "KeyCommandInterpreterLaw" (33) yX4_bindingCount ∈ TBg := tb_in (List.mem_append_right _ (List.mem_of_getElem? (i := 317) (by decide +kernel))) rfl
theorem tw_318 : Cond.instanceMethod yX4_bindingCount ∈ TBg := tb_in (List.mem_append_right _ (List.mem_of_getElem? (i := 318) (by decide +kernel))) rfl
theorem tw_319 : Cond.selects "KeyCommandInterpreter" yX4_bindingCount yX4_bindingCount ∈ TBg := tb_in (List.mem_append_right _ (List.mem_of_getElem? (i := 319) (by decide +kernel))) rfl
theorem tw_320 : Cond.code yX4_bindingCount (prog_1_method_6_code) (2) (Option.some Jvm.ClassFile.FieldType.int) ∈ TBg := tb_in (List.mem_append_right _ (List.mem_of_getElem? (i := 320) (by decide +kernel))) rfl
theorem tw_321 : Cond.methodLink "KeyCommandInterpreterLaw" (37) yX4_shadowedBy ∈ TBg := tb_in (List.mem_append_right _ (List.mem_of_getElem? (i := 321) (by decide +kernel))) rfl
theorem tw_322 : Cond.instanceMethod yX4_shadowedBy ∈ TBg := tb_in (List.mem_append_right _ (List.mem_of_getElem? (i := 322) (by decide +kernel))) rfl
theorem tw_323 : Cond.selects "KeyCommandInterpreter" yX4_shadowedBy yX4_shadowedBy ∈ TBg := tb_in (List.mem_append_right _ (List.mem_of_getElem? (i := 323) (by decide +kernel))) rfl
theorem tw_324 : Cond.code yX4_shadowedBy (prog_1_method_7_code) (6) (Option.some Jvm.ClassFile.FieldType.int) ∈ TBg := tb_in (List.mem_append_right _ (List.mem_of_getElem? (i := 324) (by decide +kernel))) rfl
theorem tw_325 : Cond.methodLinkNest "KeyCommandInterpreter" (124) yX0_shadows "KeyCommandInterpreter" ∈ lw_tbl := List.mem_append_right _ (List.mem_of_getElem? (i := 325) (by decide +kernel))
theorem tw_327 : Cond.instanceMethod yX0_shadows ∈ TBg := tb_in (List.mem_append_right _ (List.mem_of_getElem? (i := 327) (by decide +kernel))) rfl
theorem tw_328 : Cond.code yX0_shadows (prog_2_method_5_code) (2) (Option.some Jvm.ClassFile.FieldType.boolean) ∈ TBg := tb_in (List.mem_append_right _ (List.mem_of_getElem? (i := 328) (by decide +kernel))) rfl
theorem tw_329 : Cond.methodLinkNest "KeyCommandInterpreter$Binding" (28) yX3_size "KeyCommandInterpreter" ∈ lw_tbl := List.mem_append_right _ (List.mem_of_getElem? (i := 329) (by decide +kernel))
theorem tw_330 : Cond.methodLink "KeyCommandInterpreter$Binding" (38) yX0_isFor ∈ TBg := tb_in (List.mem_append_right _ (List.mem_of_getElem? (i := 330) (by decide +kernel))) rfl
theorem tw_332 : Cond.instanceMethod yX0_isFor ∈ TBg := tb_in (List.mem_append_right _ (List.mem_of_getElem? (i := 332) (by decide +kernel))) rfl
theorem tw_333 : Cond.code yX0_isFor (prog_2_method_3_code) (3) (Option.some Jvm.ClassFile.FieldType.boolean) ∈ TBg := tb_in (List.mem_append_right _ (List.mem_of_getElem? (i := 333) (by decide +kernel))) rfl
theorem tw_334 : Cond.methodLinkNest "KeyCommandInterpreter$Binding" (34) yX3_sharesBeginning "KeyCommandInterpreter" ∈ lw_tbl := List.mem_append_right _ (List.mem_of_getElem? (i := 334) (by decide +kernel))
theorem tw_336 : Cond.instanceMethod yX3_sharesBeginning ∈ TBg := tb_in (List.mem_append_right _ (List.mem_of_getElem? (i := 336) (by decide +kernel))) rfl
theorem tw_337 : Cond.code yX3_sharesBeginning (prog_5_method_9_code) (4) (Option.some Jvm.ClassFile.FieldType.boolean) ∈ TBg := tb_in (List.mem_append_right _ (List.mem_of_getElem? (i := 337) (by decide +kernel))) rfl
theorem tw_338 : Cond.methodLink "KeyCommandInterpreterLaw" (41) yX4_press ∈ TBg := tb_in (List.mem_append_right _ (List.mem_of_getElem? (i := 338) (by decide +kernel))) rfl
theorem tw_339 : Cond.instanceMethod yX4_press ∈ TBg := tb_in (List.mem_append_right _ (List.mem_of_getElem? (i := 339) (by decide +kernel))) rfl
theorem tw_340 : Cond.selects "KeyCommandInterpreter" yX4_press yX4_press ∈ TBg := tb_in (List.mem_append_right _ (List.mem_of_getElem? (i := 340) (by decide +kernel))) rfl
theorem tw_341 : Cond.code yX4_press (prog_1_method_8_code) (3) (Option.some Jvm.ClassFile.FieldType.int) ∈ TBg := tb_in (List.mem_append_right _ (List.mem_of_getElem? (i := 341) (by decide +kernel))) rfl
theorem tw_342 : Cond.methodLink "KeyCommandInterpreter" (134) yX4_processWaitingKeys ∈ TBg := tb_in (List.mem_append_right _ (List.mem_of_getElem? (i := 342) (by decide +kernel))) rfl
theorem tw_344 : Cond.instanceMethod yX4_processWaitingKeys ∈ TBg := tb_in (List.mem_append_right _ (List.mem_of_getElem? (i := 344) (by decide +kernel))) rfl
theorem tw_345 : Cond.code yX4_processWaitingKeys (prog_1_method_25_code) (3) (Option.none : Option Jvm.ClassFile.FieldType) ∈ TBg := tb_in (List.mem_append_right _ (List.mem_of_getElem? (i := 345) (by decide +kernel))) rfl
theorem tw_346 : Cond.constant "KeyCommandInterpreter" (163) (100000) ∈ TBg := tb_in (List.mem_append_right _ (List.mem_of_getElem? (i := 346) (by decide +kernel))) rfl
theorem tw_347 : Cond.methodLinkNest "KeyCommandInterpreter" (164) yX3_removeLast "KeyCommandInterpreter" ∈ lw_tbl := List.mem_append_right _ (List.mem_of_getElem? (i := 347) (by decide +kernel))
theorem tw_349 : Cond.instanceMethod yX3_removeLast ∈ TBg := tb_in (List.mem_append_right _ (List.mem_of_getElem? (i := 349) (by decide +kernel))) rfl
theorem tw_350 : Cond.code yX3_removeLast (prog_5_method_6_code) (1) (Option.some Jvm.ClassFile.FieldType.int) ∈ TBg := tb_in (List.mem_append_right _ (List.mem_of_getElem? (i := 350) (by decide +kernel))) rfl
theorem tw_351 : Cond.methodLink "KeyCommandInterpreter" (167) yX4_isExtensible ∈ TBg := tb_in (List.mem_append_right _ (List.mem_of_getElem? (i := 351) (by decide +kernel))) rfl
theorem tw_353 : Cond.instanceMethod yX4_isExtensible ∈ TBg := tb_in (List.mem_append_right _ (List.mem_of_getElem? (i := 353) (by decide +kernel))) rfl
theorem tw_354 : Cond.code yX4_isExtensible (prog_1_method_26_code) (5) (Option.some Jvm.ClassFile.FieldType.boolean) ∈ TBg := tb_in (List.mem_append_right _ (List.mem_of_getElem? (i := 354) (by decide +kernel))) rfl
theorem tw_355 : Cond.methodLinkNest "KeyCommandInterpreter" (170) yX0_isLongerThan "KeyCommandInterpreter" ∈ lw_tbl := List.mem_append_right _ (List.mem_of_getElem? (i := 355) (by decide +kernel))
theorem tw_357 : Cond.instanceMethod yX0_isLongerThan ∈ TBg := tb_in (List.mem_append_right _ (List.mem_of_getElem? (i := 357) (by decide +kernel))) rfl
theorem tw_358 : Cond.code yX0_isLongerThan (prog_2_method_4_code) (2) (Option.some Jvm.ClassFile.FieldType.boolean) ∈ TBg := tb_in (List.mem_append_right _ (List.mem_of_getElem? (i := 358) (by decide +kernel))) rfl
theorem tw_359 : Cond.methodLinkNest "KeyCommandInterpreter" (174) yX0_holds "KeyCommandInterpreter" ∈ lw_tbl := List.mem_append_right _ (List.mem_of_getElem? (i := 359) (by decide +kernel))
theorem tw_361 : Cond.instanceMethod yX0_holds ∈ TBg := tb_in (List.mem_append_right _ (List.mem_of_getElem? (i := 361) (by decide +kernel))) rfl
theorem tw_362 : Cond.code yX0_holds (prog_2_method_2_code) (2) (Option.some Jvm.ClassFile.FieldType.boolean) ∈ TBg := tb_in (List.mem_append_right _ (List.mem_of_getElem? (i := 362) (by decide +kernel))) rfl
theorem tw_363 : Cond.methodLink "KeyCommandInterpreter" (141) yX4_releasePending ∈ TBg := tb_in (List.mem_append_right _ (List.mem_of_getElem? (i := 363) (by decide +kernel))) rfl
theorem tw_365 : Cond.instanceMethod yX4_releasePending ∈ TBg := tb_in (List.mem_append_right _ (List.mem_of_getElem? (i := 365) (by decide +kernel))) rfl
theorem tw_366 : Cond.code yX4_releasePending (prog_1_method_27_code) (5) (Option.none : Option Jvm.ClassFile.FieldType) ∈ TBg := tb_in (List.mem_append_right _ (List.mem_of_getElem? (i := 366) (by decide +kernel))) rfl
theorem tw_367 : Cond.methodLink "KeyCommandInterpreter" (151) yX4_findBinding ∈ TBg := tb_in (List.mem_append_right _ (List.mem_of_getElem? (i := 367) (by decide +kernel))) rfl
theorem tw_369 : Cond.instanceMethod yX4_findBinding ∈ TBg := tb_in (List.mem_append_right _ (List.mem_of_getElem? (i := 369) (by decide +kernel))) rfl
theorem tw_370 : Cond.code yX4_findBinding (prog_1_method_28_code) (6) (Option.some Jvm.ClassFile.FieldType.int) ∈ TBg := tb_in (List.mem_append_right _ (List.mem_of_getElem? (i := 370) (by decide +kernel))) rfl
theorem tw_371 : Cond.methodLinkNest "KeyCommandInterpreter" (184) yX0_isFor "KeyCommandInterpreter" ∈ lw_tbl := List.mem_append_right _ (List.mem_of_getElem? (i := 371) (by decide +kernel))
theorem tw_372 : Cond.methodLinkNest "KeyCommandInterpreter" (147) yX3_at "KeyCommandInterpreter" ∈ lw_tbl := List.mem_append_right _ (List.mem_of_getElem? (i := 372) (by decide +kernel))
theorem tw_374 : Cond.instanceMethod yX3_at ∈ TBg := tb_in (List.mem_append_right _ (List.mem_of_getElem? (i := 374) (by decide +kernel))) rfl
theorem tw_375 : Cond.code yX3_at (prog_5_method_5_code) (2) (Option.some Jvm.ClassFile.FieldType.int) ∈ TBg := tb_in (List.mem_append_right _ (List.mem_of_getElem? (i := 375) (by decide +kernel))) rfl
theorem tw_376 : Cond.methodLinkNest "KeyCommandInterpreter" (178) yX2_add "KeyCommandInterpreter" ∈ lw_tbl := List.mem_append_right _ (List.mem_of_getElem? (i := 376) (by decide +kernel))
theorem tw_378 : Cond.instanceMethod yX2_add ∈ TBg := tb_in (List.mem_append_right _ (List.mem_of_getElem? (i := 378) (by decide +kernel))) rfl
theorem tw_379 : Cond.code yX2_add (prog_4_method_2_code) (4) (Option.none : Option Jvm.ClassFile.FieldType) ∈ TBg := tb_in (List.mem_append_right _ (List.mem_of_getElem? (i := 379) (by decide +kernel))) rfl
theorem tw_380 : Cond.methodLink "KeyCommandInterpreter$ReportLog" (22) yJ9_floorMod_7cf53 ∈ TBg := tb_in (List.mem_append_right _ (List.mem_of_getElem? (i := 380) (by decide +kernel))) rfl
theorem tw_381 : Cond.static yJ9_floorMod_7cf53 ∈ TBg := tb_in (List.mem_append_right _ (List.mem_of_getElem? (i := 381) (by decide +kernel))) rfl
theorem tw_382 : Cond.code yJ9_floorMod_7cf53 (prog_11_method_50_code) (3) (Option.some Jvm.ClassFile.FieldType.int) ∈ TBg := tb_in (List.mem_append_right _ (List.mem_of_getElem? (i := 382) (by decide +kernel))) rfl
theorem tw_383 : Cond.methodLink "KeyCommandInterpreter" (181) yX4_perform ∈ TBg := tb_in (List.mem_append_right _ (List.mem_of_getElem? (i := 383) (by decide +kernel))) rfl
theorem tw_385 : Cond.instanceMethod yX4_perform ∈ TBg := tb_in (List.mem_append_right _ (List.mem_of_getElem? (i := 385) (by decide +kernel))) rfl
theorem tw_386 : Cond.code yX4_perform (prog_1_method_29_code) (5) (Option.none : Option Jvm.ClassFile.FieldType) ∈ TBg := tb_in (List.mem_append_right _ (List.mem_of_getElem? (i := 386) (by decide +kernel))) rfl
theorem tw_387 : Cond.methodLink "KeyCommandInterpreter" (194) yX4_isRefused ∈ TBg := tb_in (List.mem_append_right _ (List.mem_of_getElem? (i := 387) (by decide +kernel))) rfl
theorem tw_389 : Cond.instanceMethod yX4_isRefused ∈ TBg := tb_in (List.mem_append_right _ (List.mem_of_getElem? (i := 389) (by decide +kernel))) rfl
theorem tw_390 : Cond.code yX4_isRefused (prog_1_method_30_code) (3) (Option.some Jvm.ClassFile.FieldType.boolean) ∈ TBg := tb_in (List.mem_append_right _ (List.mem_of_getElem? (i := 390) (by decide +kernel))) rfl
theorem tw_391 : Cond.methodLink "KeyCommandInterpreter" (197) yX4_play ∈ TBg := tb_in (List.mem_append_right _ (List.mem_of_getElem? (i := 391) (by decide +kernel))) rfl
theorem tw_393 : Cond.instanceMethod yX4_play ∈ TBg := tb_in (List.mem_append_right _ (List.mem_of_getElem? (i := 393) (by decide +kernel))) rfl
theorem tw_394 : Cond.code yX4_play (prog_1_method_31_code) (4) (Option.none : Option Jvm.ClassFile.FieldType) ∈ TBg := tb_in (List.mem_append_right _ (List.mem_of_getElem? (i := 394) (by decide +kernel))) rfl
theorem tw_395 : Cond.methodLink "KeyCommandInterpreter" (200) yX4_popContext ∈ TBg := tb_in (List.mem_append_right _ (List.mem_of_getElem? (i := 395) (by decide +kernel))) rfl
theorem tw_397 : Cond.instanceMethod yX4_popContext ∈ TBg := tb_in (List.mem_append_right _ (List.mem_of_getElem? (i := 397) (by decide +kernel))) rfl
theorem tw_398 : Cond.code yX4_popContext (prog_1_method_33_code) (1) (Option.none : Option Jvm.ClassFile.FieldType) ∈ TBg := tb_in (List.mem_append_right _ (List.mem_of_getElem? (i := 398) (by decide +kernel))) rfl
theorem tw_399 : Cond.methodLink "KeyCommandInterpreter" (203) yX4_setFlag ∈ TBg := tb_in (List.mem_append_right _ (List.mem_of_getElem? (i := 399) (by decide +kernel))) rfl
theorem tw_400 : Cond.instanceMethod yX4_setFlag ∈ TBg := tb_in (List.mem_append_right _ (List.mem_of_getElem? (i := 400) (by decide +kernel))) rfl
theorem tw_401 : Cond.selects "KeyCommandInterpreter" yX4_setFlag yX4_setFlag ∈ TBg := tb_in (List.mem_append_right _ (List.mem_of_getElem? (i := 401) (by decide +kernel))) rfl
theorem tw_402 : Cond.code yX4_setFlag (prog_1_method_11_code) (4) (Option.some Jvm.ClassFile.FieldType.int) ∈ TBg := tb_in (List.mem_append_right _ (List.mem_of_getElem? (i := 402) (by decide +kernel))) rfl
theorem tw_403 : Cond.methodLink "KeyCommandInterpreterLaw" (45) yX4_tick ∈ TBg := tb_in (List.mem_append_right _ (List.mem_of_getElem? (i := 403) (by decide +kernel))) rfl
theorem tw_404 : Cond.instanceMethod yX4_tick ∈ TBg := tb_in (List.mem_append_right _ (List.mem_of_getElem? (i := 404) (by decide +kernel))) rfl
theorem tw_405 : Cond.selects "KeyCommandInterpreter" yX4_tick yX4_tick ∈ TBg := tb_in (List.mem_append_right _ (List.mem_of_getElem? (i := 405) (by decide +kernel))) rfl
theorem tw_406 : Cond.code yX4_tick (prog_1_method_9_code) (4) (Option.some Jvm.ClassFile.FieldType.int) ∈ TBg := tb_in (List.mem_append_right _ (List.mem_of_getElem? (i := 406) (by decide +kernel))) rfl
theorem tw_407 : Cond.methodLink "KeyCommandInterpreterLaw" (49) yX4_setTimeout ∈ TBg := tb_in (List.mem_append_right _ (List.mem_of_getElem? (i := 407) (by decide +kernel))) rfl
theorem tw_408 : Cond.instanceMethod yX4_setTimeout ∈ TBg := tb_in (List.mem_append_right _ (List.mem_of_getElem? (i := 408) (by decide +kernel))) rfl
theorem tw_409 : Cond.selects "KeyCommandInterpreter" yX4_setTimeout yX4_setTimeout ∈ TBg := tb_in (List.mem_append_right _ (List.mem_of_getElem? (i := 409) (by decide +kernel))) rfl
theorem tw_410 : Cond.code yX4_setTimeout (prog_1_method_10_code) (3) (Option.some Jvm.ClassFile.FieldType.int) ∈ TBg := tb_in (List.mem_append_right _ (List.mem_of_getElem? (i := 410) (by decide +kernel))) rfl
theorem tw_411 : Cond.methodLink "KeyCommandInterpreterLaw" (53) yX4_setFlag ∈ TBg := tb_in (List.mem_append_right _ (List.mem_of_getElem? (i := 411) (by decide +kernel))) rfl
theorem tw_412 : Cond.methodLink "KeyCommandInterpreterLaw" (57) yX4_pendingLength ∈ TBg := tb_in (List.mem_append_right _ (List.mem_of_getElem? (i := 412) (by decide +kernel))) rfl
theorem tw_413 : Cond.instanceMethod yX4_pendingLength ∈ TBg := tb_in (List.mem_append_right _ (List.mem_of_getElem? (i := 413) (by decide +kernel))) rfl
theorem tw_414 : Cond.selects "KeyCommandInterpreter" yX4_pendingLength yX4_pendingLength ∈ TBg := tb_in (List.mem_append_right _ (List.mem_of_getElem? (i := 414) (by decide +kernel))) rfl
theorem tw_415 : Cond.code yX4_pendingLength (prog_1_method_12_code) (1) (Option.some Jvm.ClassFile.FieldType.int) ∈ TBg := tb_in (List.mem_append_right _ (List.mem_of_getElem? (i := 415) (by decide +kernel))) rfl
theorem tw_416 : Cond.methodLink "KeyCommandInterpreterLaw" (61) yX4_pendingKey ∈ TBg := tb_in (List.mem_append_right _ (List.mem_of_getElem? (i := 416) (by decide +kernel))) rfl
theorem tw_417 : Cond.instanceMethod yX4_pendingKey ∈ TBg := tb_in (List.mem_append_right _ (List.mem_of_getElem? (i := 417) (by decide +kernel))) rfl
theorem tw_418 : Cond.selects "KeyCommandInterpreter" yX4_pendingKey yX4_pendingKey ∈ TBg := tb_in (List.mem_append_right _ (List.mem_of_getElem? (i := 418) (by decide +kernel))) rfl
theorem tw_419 : Cond.code yX4_pendingKey (prog_1_method_13_code) (2) (Option.some Jvm.ClassFile.FieldType.int) ∈ TBg := tb_in (List.mem_append_right _ (List.mem_of_getElem? (i := 419) (by decide +kernel))) rfl
theorem tw_420 : Cond.methodLink "KeyCommandInterpreterLaw" (65) yX4_remainingTime ∈ TBg := tb_in (List.mem_append_right _ (List.mem_of_getElem? (i := 420) (by decide +kernel))) rfl
theorem tw_421 : Cond.instanceMethod yX4_remainingTime ∈ TBg := tb_in (List.mem_append_right _ (List.mem_of_getElem? (i := 421) (by decide +kernel))) rfl
theorem tw_422 : Cond.selects "KeyCommandInterpreter" yX4_remainingTime yX4_remainingTime ∈ TBg := tb_in (List.mem_append_right _ (List.mem_of_getElem? (i := 422) (by decide +kernel))) rfl
theorem tw_423 : Cond.code yX4_remainingTime (prog_1_method_14_code) (1) (Option.some Jvm.ClassFile.FieldType.int) ∈ TBg := tb_in (List.mem_append_right _ (List.mem_of_getElem? (i := 423) (by decide +kernel))) rfl
theorem tw_424 : Cond.methodLink "KeyCommandInterpreterLaw" (69) yX4_pendingBinding ∈ TBg := tb_in (List.mem_append_right _ (List.mem_of_getElem? (i := 424) (by decide +kernel))) rfl
theorem tw_425 : Cond.instanceMethod yX4_pendingBinding ∈ TBg := tb_in (List.mem_append_right _ (List.mem_of_getElem? (i := 425) (by decide +kernel))) rfl
theorem tw_426 : Cond.selects "KeyCommandInterpreter" yX4_pendingBinding yX4_pendingBinding ∈ TBg := tb_in (List.mem_append_right _ (List.mem_of_getElem? (i := 426) (by decide +kernel))) rfl
theorem tw_427 : Cond.code yX4_pendingBinding (prog_1_method_15_code) (1) (Option.some Jvm.ClassFile.FieldType.int) ∈ TBg := tb_in (List.mem_append_right _ (List.mem_of_getElem? (i := 427) (by decide +kernel))) rfl
theorem tw_428 : Cond.methodLink "KeyCommandInterpreterLaw" (73) yX4_flag ∈ TBg := tb_in (List.mem_append_right _ (List.mem_of_getElem? (i := 428) (by decide +kernel))) rfl
theorem tw_429 : Cond.instanceMethod yX4_flag ∈ TBg := tb_in (List.mem_append_right _ (List.mem_of_getElem? (i := 429) (by decide +kernel))) rfl
theorem tw_430 : Cond.selects "KeyCommandInterpreter" yX4_flag yX4_flag ∈ TBg := tb_in (List.mem_append_right _ (List.mem_of_getElem? (i := 430) (by decide +kernel))) rfl
theorem tw_431 : Cond.code yX4_flag (prog_1_method_16_code) (2) (Option.some Jvm.ClassFile.FieldType.int) ∈ TBg := tb_in (List.mem_append_right _ (List.mem_of_getElem? (i := 431) (by decide +kernel))) rfl
theorem tw_432 : Cond.methodLink "KeyCommandInterpreterLaw" (77) yX4_stackSize ∈ TBg := tb_in (List.mem_append_right _ (List.mem_of_getElem? (i := 432) (by decide +kernel))) rfl
theorem tw_433 : Cond.instanceMethod yX4_stackSize ∈ TBg := tb_in (List.mem_append_right _ (List.mem_of_getElem? (i := 433) (by decide +kernel))) rfl
theorem tw_434 : Cond.selects "KeyCommandInterpreter" yX4_stackSize yX4_stackSize ∈ TBg := tb_in (List.mem_append_right _ (List.mem_of_getElem? (i := 434) (by decide +kernel))) rfl
theorem tw_435 : Cond.code yX4_stackSize (prog_1_method_17_code) (1) (Option.some Jvm.ClassFile.FieldType.int) ∈ TBg := tb_in (List.mem_append_right _ (List.mem_of_getElem? (i := 435) (by decide +kernel))) rfl
theorem tw_436 : Cond.methodLink "KeyCommandInterpreterLaw" (81) yX4_stackContext ∈ TBg := tb_in (List.mem_append_right _ (List.mem_of_getElem? (i := 436) (by decide +kernel))) rfl
theorem tw_437 : Cond.instanceMethod yX4_stackContext ∈ TBg := tb_in (List.mem_append_right _ (List.mem_of_getElem? (i := 437) (by decide +kernel))) rfl
theorem tw_438 : Cond.selects "KeyCommandInterpreter" yX4_stackContext yX4_stackContext ∈ TBg := tb_in (List.mem_append_right _ (List.mem_of_getElem? (i := 438) (by decide +kernel))) rfl
theorem tw_439 : Cond.code yX4_stackContext (prog_1_method_18_code) (2) (Option.some Jvm.ClassFile.FieldType.int) ∈ TBg := tb_in (List.mem_append_right _ (List.mem_of_getElem? (i := 439) (by decide +kernel))) rfl
theorem tw_440 : Cond.methodLink "KeyCommandInterpreterLaw" (85) yX4_startRecording ∈ TBg := tb_in (List.mem_append_right _ (List.mem_of_getElem? (i := 440) (by decide +kernel))) rfl
theorem tw_441 : Cond.instanceMethod yX4_startRecording ∈ TBg := tb_in (List.mem_append_right _ (List.mem_of_getElem? (i := 441) (by decide +kernel))) rfl
theorem tw_442 : Cond.selects "KeyCommandInterpreter" yX4_startRecording yX4_startRecording ∈ TBg := tb_in (List.mem_append_right _ (List.mem_of_getElem? (i := 442) (by decide +kernel))) rfl
theorem tw_443 : Cond.code yX4_startRecording (prog_1_method_19_code) (4) (Option.some Jvm.ClassFile.FieldType.int) ∈ TBg := tb_in (List.mem_append_right _ (List.mem_of_getElem? (i := 443) (by decide +kernel))) rfl
theorem tw_444 : Cond.methodLink "KeyCommandInterpreterLaw" (89) yX4_stopRecording ∈ TBg := tb_in (List.mem_append_right _ (List.mem_of_getElem? (i := 444) (by decide +kernel))) rfl
theorem tw_445 : Cond.instanceMethod yX4_stopRecording ∈ TBg := tb_in (List.mem_append_right _ (List.mem_of_getElem? (i := 445) (by decide +kernel))) rfl
theorem tw_446 : Cond.selects "KeyCommandInterpreter" yX4_stopRecording yX4_stopRecording ∈ TBg := tb_in (List.mem_append_right _ (List.mem_of_getElem? (i := 446) (by decide +kernel))) rfl
theorem tw_447 : Cond.code yX4_stopRecording (prog_1_method_20_code) (2) (Option.some Jvm.ClassFile.FieldType.int) ∈ TBg := tb_in (List.mem_append_right _ (List.mem_of_getElem? (i := 447) (by decide +kernel))) rfl
theorem tw_448 : Cond.methodLink "KeyCommandInterpreterLaw" (93) yX4_macroKey ∈ TBg := tb_in (List.mem_append_right _ (List.mem_of_getElem? (i := 448) (by decide +kernel))) rfl
theorem tw_449 : Cond.instanceMethod yX4_macroKey ∈ TBg := tb_in (List.mem_append_right _ (List.mem_of_getElem? (i := 449) (by decide +kernel))) rfl
theorem tw_450 : Cond.selects "KeyCommandInterpreter" yX4_macroKey yX4_macroKey ∈ TBg := tb_in (List.mem_append_right _ (List.mem_of_getElem? (i := 450) (by decide +kernel))) rfl
theorem tw_451 : Cond.code yX4_macroKey (prog_1_method_21_code) (3) (Option.some Jvm.ClassFile.FieldType.int) ∈ TBg := tb_in (List.mem_append_right _ (List.mem_of_getElem? (i := 451) (by decide +kernel))) rfl
theorem tw_452 : Cond.methodLink "KeyCommandInterpreterLaw" (97) yX4_reportCount ∈ TBg := tb_in (List.mem_append_right _ (List.mem_of_getElem? (i := 452) (by decide +kernel))) rfl
theorem tw_453 : Cond.instanceMethod yX4_reportCount ∈ TBg := tb_in (List.mem_append_right _ (List.mem_of_getElem? (i := 453) (by decide +kernel))) rfl
theorem tw_454 : Cond.selects "KeyCommandInterpreter" yX4_reportCount yX4_reportCount ∈ TBg := tb_in (List.mem_append_right _ (List.mem_of_getElem? (i := 454) (by decide +kernel))) rfl
theorem tw_455 : Cond.code yX4_reportCount (prog_1_method_22_code) (1) (Option.some Jvm.ClassFile.FieldType.int) ∈ TBg := tb_in (List.mem_append_right _ (List.mem_of_getElem? (i := 455) (by decide +kernel))) rfl
theorem tw_456 : Cond.methodLink "KeyCommandInterpreterLaw" (101) yX4_reportKind ∈ TBg := tb_in (List.mem_append_right _ (List.mem_of_getElem? (i := 456) (by decide +kernel))) rfl
theorem tw_457 : Cond.instanceMethod yX4_reportKind ∈ TBg := tb_in (List.mem_append_right _ (List.mem_of_getElem? (i := 457) (by decide +kernel))) rfl
theorem tw_458 : Cond.selects "KeyCommandInterpreter" yX4_reportKind yX4_reportKind ∈ TBg := tb_in (List.mem_append_right _ (List.mem_of_getElem? (i := 458) (by decide +kernel))) rfl
theorem tw_459 : Cond.code yX4_reportKind (prog_1_method_23_code) (2) (Option.some Jvm.ClassFile.FieldType.int) ∈ TBg := tb_in (List.mem_append_right _ (List.mem_of_getElem? (i := 459) (by decide +kernel))) rfl
theorem tw_460 : Cond.methodLinkNest "KeyCommandInterpreter" (157) yX2_kindOf "KeyCommandInterpreter" ∈ lw_tbl := List.mem_append_right _ (List.mem_of_getElem? (i := 460) (by decide +kernel))
theorem tw_462 : Cond.instanceMethod yX2_kindOf ∈ TBg := tb_in (List.mem_append_right _ (List.mem_of_getElem? (i := 462) (by decide +kernel))) rfl
theorem tw_463 : Cond.code yX2_kindOf (prog_4_method_3_code) (2) (Option.some Jvm.ClassFile.FieldType.int) ∈ TBg := tb_in (List.mem_append_right _ (List.mem_of_getElem? (i := 463) (by decide +kernel))) rfl
theorem tw_464 : Cond.methodLink "KeyCommandInterpreter$ReportLog" (28) yX2_isReadable ∈ TBg := tb_in (List.mem_append_right _ (List.mem_of_getElem? (i := 464) (by decide +kernel))) rfl
theorem tw_466 : Cond.instanceMethod yX2_isReadable ∈ TBg := tb_in (List.mem_append_right _ (List.mem_of_getElem? (i := 466) (by decide +kernel))) rfl
theorem tw_467 : Cond.code yX2_isReadable (prog_4_method_5_code) (2) (Option.some Jvm.ClassFile.FieldType.boolean) ∈ TBg := tb_in (List.mem_append_right _ (List.mem_of_getElem? (i := 467) (by decide +kernel))) rfl
theorem tw_468 : Cond.methodLink "KeyCommandInterpreterLaw" (105) yX4_reportArgument ∈ TBg := tb_in (List.mem_append_right _ (List.mem_of_getElem? (i := 468) (by decide +kernel))) rfl
theorem tw_469 : Cond.instanceMethod yX4_reportArgument ∈ TBg := tb_in (List.mem_append_right _ (List.mem_of_getElem? (i := 469) (by decide +kernel))) rfl
theorem tw_470 : Cond.selects "KeyCommandInterpreter" yX4_reportArgument yX4_reportArgument ∈ TBg := tb_in (List.mem_append_right _ (List.mem_of_getElem? (i := 470) (by decide +kernel))) rfl
theorem tw_471 : Cond.code yX4_reportArgument (prog_1_method_24_code) (2) (Option.some Jvm.ClassFile.FieldType.int) ∈ TBg := tb_in (List.mem_append_right _ (List.mem_of_getElem? (i := 471) (by decide +kernel))) rfl
theorem tw_472 : Cond.methodLinkNest "KeyCommandInterpreter" (160) yX2_argumentOf "KeyCommandInterpreter" ∈ lw_tbl := List.mem_append_right _ (List.mem_of_getElem? (i := 472) (by decide +kernel))
theorem tw_474 : Cond.instanceMethod yX2_argumentOf ∈ TBg := tb_in (List.mem_append_right _ (List.mem_of_getElem? (i := 474) (by decide +kernel))) rfl
theorem tw_475 : Cond.code yX2_argumentOf (prog_4_method_4_code) (2) (Option.some Jvm.ClassFile.FieldType.int) ∈ TBg := tb_in (List.mem_append_right _ (List.mem_of_getElem? (i := 475) (by decide +kernel))) rfl
theorem tw_476 : Cond.classLink "KeyCommandInterpreterLaw" (10) "KeyCommandInterpreterModel" ∈ TBg := tb_in (List.mem_append_right _ (List.mem_of_getElem? (i := 476) (by decide +kernel))) rfl
theorem tw_477 : Cond.instantiable "KeyCommandInterpreterModel" (26) ∈ TBg := tb_in (List.mem_append_right _ (List.mem_of_getElem? (i := 477) (by decide +kernel))) rfl
theorem tw_478 : Cond.methodLink "KeyCommandInterpreterLaw" (12) yX5_init ∈ TBg := tb_in (List.mem_append_right _ (List.mem_of_getElem? (i := 478) (by decide +kernel))) rfl
theorem tw_479 : Cond.instanceMethod yX5_init ∈ TBg := tb_in (List.mem_append_right _ (List.mem_of_getElem? (i := 479) (by decide +kernel))) rfl
theorem tw_480 : Cond.code yX5_init (prog_7_method_1_code) (1) (Option.none : Option Jvm.ClassFile.FieldType) ∈ TBg := tb_in (List.mem_append_right _ (List.mem_of_getElem? (i := 480) (by decide +kernel))) rfl
theorem tw_481 : Cond.methodLink "KeyCommandInterpreterModel" (1) ⟨"java/lang/Object", "<init>", "()V"⟩ ∈ TBg := tb_in (List.mem_append_right _ (List.mem_of_getElem? (i := 481) (by decide +kernel))) rfl
theorem tw_482 : Cond.fieldLink "KeyCommandInterpreterModel" (7) "KeyCommandInterpreterModel" "flags" "[I" ∈ TBg := tb_in (List.mem_append_right _ (List.mem_of_getElem? (i := 482) (by decide +kernel))) rfl
theorem tw_483 : Cond.fieldLink "KeyCommandInterpreterModel" (13) "KeyCommandInterpreterModel" "depth" "I" ∈ TBg := tb_in (List.mem_append_right _ (List.mem_of_getElem? (i := 483) (by decide +kernel))) rfl
theorem tw_484 : Cond.fieldLink "KeyCommandInterpreterModel" (17) "KeyCommandInterpreterModel" "contexts" "[I" ∈ TBg := tb_in (List.mem_append_right _ (List.mem_of_getElem? (i := 484) (by decide +kernel))) rfl
theorem tw_485 : Cond.fieldLink "KeyCommandInterpreterModel" (20) "KeyCommandInterpreterModel" "many" "[I" ∈ TBg := tb_in (List.mem_append_right _ (List.mem_of_getElem? (i := 485) (by decide +kernel))) rfl
theorem tw_486 : Cond.fieldLink "KeyCommandInterpreterModel" (23) "KeyCommandInterpreterModel" "size" "[I" ∈ TBg := tb_in (List.mem_append_right _ (List.mem_of_getElem? (i := 486) (by decide +kernel))) rfl
theorem tw_487 : Cond.fieldLink "KeyCommandInterpreterModel" (26) "KeyCommandInterpreterModel" "keys" "[I" ∈ TBg := tb_in (List.mem_append_right _ (List.mem_of_getElem? (i := 487) (by decide +kernel))) rfl
theorem tw_488 : Cond.fieldLink "KeyCommandInterpreterModel" (29) "KeyCommandInterpreterModel" "flagOf" "[I" ∈ TBg := tb_in (List.mem_append_right _ (List.mem_of_getElem? (i := 488) (by decide +kernel))) rfl
theorem tw_489 : Cond.fieldLink "KeyCommandInterpreterModel" (32) "KeyCommandInterpreterModel" "valueOf" "[I" ∈ TBg := tb_in (List.mem_append_right _ (List.mem_of_getElem? (i := 489) (by decide +kernel))) rfl
theorem tw_490 : Cond.fieldLink "KeyCommandInterpreterModel" (35) "KeyCommandInterpreterModel" "actionOf" "[I" ∈ TBg := tb_in (List.mem_append_right _ (List.mem_of_getElem? (i := 490) (by decide +kernel))) rfl
theorem tw_491 : Cond.fieldLink "KeyCommandInterpreterModel" (38) "KeyCommandInterpreterModel" "argumentOf" "[I" ∈ TBg := tb_in (List.mem_append_right _ (List.mem_of_getElem? (i := 491) (by decide +kernel))) rfl
theorem tw_492 : Cond.fieldLink "KeyCommandInterpreterModel" (72) "KeyCommandInterpreterModel" "typed" "I" ∈ TBg := tb_in (List.mem_append_right _ (List.mem_of_getElem? (i := 492) (by decide +kernel))) rfl
theorem tw_493 : Cond.fieldLink "KeyCommandInterpreterModel" (41) "KeyCommandInterpreterModel" "buffer" "[I" ∈ TBg := tb_in (List.mem_append_right _ (List.mem_of_getElem? (i := 493) (by decide +kernel))) rfl
theorem tw_494 : Cond.fieldLink "KeyCommandInterpreterModel" (86) "KeyCommandInterpreterModel" "pending" "I" ∈ TBg := tb_in (List.mem_append_right _ (List.mem_of_getElem? (i := 494) (by decide +kernel))) rfl
theorem tw_495 : Cond.fieldLink "KeyCommandInterpreterModel" (44) "KeyCommandInterpreterModel" "pend" "[I" ∈ TBg := tb_in (List.mem_append_right _ (List.mem_of_getElem? (i := 495) (by decide +kernel))) rfl
theorem tw_496 : Cond.fieldLink "KeyCommandInterpreterModel" (47) "KeyCommandInterpreterModel" "timeout" "I" ∈ TBg := tb_in (List.mem_append_right _ (List.mem_of_getElem? (i := 496) (by decide +kernel))) rfl
theorem tw_497 : Cond.fieldLink "KeyCommandInterpreterModel" (125) "KeyCommandInterpreterModel" "left" "I" ∈ TBg := tb_in (List.mem_append_right _ (List.mem_of_getElem? (i := 497) (by decide +kernel))) rfl
theorem tw_498 : Cond.fieldLink "KeyCommandInterpreterModel" (92) "KeyCommandInterpreterModel" "tasks" "I" ∈ TBg := tb_in (List.mem_append_right _ (List.mem_of_getElem? (i := 498) (by decide +kernel))) rfl
theorem tw_499 : Cond.fieldLink "KeyCommandInterpreterModel" (50) "KeyCommandInterpreterModel" "task" "[I" ∈ TBg := tb_in (List.mem_append_right _ (List.mem_of_getElem? (i := 499) (by decide +kernel))) rfl
theorem tw_500 : Cond.fieldLink "KeyCommandInterpreterModel" (95) "KeyCommandInterpreterModel" "playing" "I" ∈ TBg := tb_in (List.mem_append_right _ (List.mem_of_getElem? (i := 500) (by decide +kernel))) rfl
theorem tw_501 : Cond.fieldLink "KeyCommandInterpreterModel" (98) "KeyCommandInterpreterModel" "played" "I" ∈ TBg := tb_in (List.mem_append_right _ (List.mem_of_getElem? (i := 501) (by decide +kernel))) rfl
theorem tw_502 : Cond.fieldLink "KeyCommandInterpreterModel" (53) "KeyCommandInterpreterModel" "recording" "I" ∈ TBg := tb_in (List.mem_append_right _ (List.mem_of_getElem? (i := 502) (by decide +kernel))) rfl
theorem tw_503 : Cond.fieldLink "KeyCommandInterpreterModel" (56) "KeyCommandInterpreterModel" "macroSize" "[I" ∈ TBg := tb_in (List.mem_append_right _ (List.mem_of_getElem? (i := 503) (by decide +kernel))) rfl
theorem tw_504 : Cond.fieldLink "KeyCommandInterpreterModel" (59) "KeyCommandInterpreterModel" "macro" "[I" ∈ TBg := tb_in (List.mem_append_right _ (List.mem_of_getElem? (i := 504) (by decide +kernel))) rfl
theorem tw_505 : Cond.fieldLink "KeyCommandInterpreterModel" (89) "KeyCommandInterpreterModel" "reports" "I" ∈ TBg := tb_in (List.mem_append_right _ (List.mem_of_getElem? (i := 505) (by decide +kernel))) rfl
theorem tw_506 : Cond.fieldLink "KeyCommandInterpreterModel" (62) "KeyCommandInterpreterModel" "kinds" "[I" ∈ TBg := tb_in (List.mem_append_right _ (List.mem_of_getElem? (i := 506) (by decide +kernel))) rfl
theorem tw_507 : Cond.fieldLink "KeyCommandInterpreterModel" (65) "KeyCommandInterpreterModel" "arguments" "[I" ∈ TBg := tb_in (List.mem_append_right _ (List.mem_of_getElem? (i := 507) (by decide +kernel))) rfl
theorem tw_508 : Cond.laysFinal "KeyCommandInterpreterModel" "KeyCommandInterpreterModel" "flags" "[I" ∈ TBg := tb_in (List.mem_append_right _ (List.mem_of_getElem? (i := 508) (by decide +kernel))) rfl
theorem tw_510 : Cond.lays "KeyCommandInterpreterModel" "KeyCommandInterpreterModel" "depth" "I" ∈ TBg := tb_in (List.mem_append_right _ (List.mem_of_getElem? (i := 510) (by decide +kernel))) rfl
theorem tw_512 : Cond.laysFinal "KeyCommandInterpreterModel" "KeyCommandInterpreterModel" "contexts" "[I" ∈ TBg := tb_in (List.mem_append_right _ (List.mem_of_getElem? (i := 512) (by decide +kernel))) rfl
theorem tw_514 : Cond.laysFinal "KeyCommandInterpreterModel" "KeyCommandInterpreterModel" "many" "[I" ∈ TBg := tb_in (List.mem_append_right _ (List.mem_of_getElem? (i := 514) (by decide +kernel))) rfl
theorem tw_516 : Cond.laysFinal "KeyCommandInterpreterModel" "KeyCommandInterpreterModel" "size" "[I" ∈ TBg := tb_in (List.mem_append_right _ (List.mem_of_getElem? (i := 516) (by decide +kernel))) rfl
theorem tw_518 : Cond.laysFinal "KeyCommandInterpreterModel" "KeyCommandInterpreterModel" "keys" "[I" ∈ TBg := tb_in (List.mem_append_right _ (List.mem_of_getElem? (i := 518) (by decide +kernel))) rfl
theorem tw_520 : Cond.laysFinal "KeyCommandInterpreterModel" "KeyCommandInterpreterModel" "flagOf" "[I" ∈ TBg := tb_in (List.mem_append_right _ (List.mem_of_getElem? (i := 520) (by decide +kernel))) rfl
theorem tw_522 : Cond.laysFinal "KeyCommandInterpreterModel" "KeyCommandInterpreterModel" "valueOf" "[I" ∈ TBg := tb_in (List.mem_append_right _ (List.mem_of_getElem? (i := 522) (by decide +kernel))) rfl
theorem tw_524 : Cond.laysFinal "KeyCommandInterpreterModel" "KeyCommandInterpreterModel" "actionOf" "[I" ∈ TBg := tb_in (List.mem_append_right _ (List.mem_of_getElem? (i := 524) (by decide +kernel))) rfl
theorem tw_526 : Cond.laysFinal "KeyCommandInterpreterModel" "KeyCommandInterpreterModel" "argumentOf" "[I" ∈ TBg := tb_in (List.mem_append_right _ (List.mem_of_getElem? (i := 526) (by decide +kernel))) rfl
theorem tw_528 : Cond.lays "KeyCommandInterpreterModel" "KeyCommandInterpreterModel" "typed" "I" ∈ TBg := tb_in (List.mem_append_right _ (List.mem_of_getElem? (i := 528) (by decide +kernel))) rfl
theorem tw_530 : Cond.laysFinal "KeyCommandInterpreterModel" "KeyCommandInterpreterModel" "buffer" "[I" ∈ TBg := tb_in (List.mem_append_right _ (List.mem_of_getElem? (i := 530) (by decide +kernel))) rfl
theorem tw_532 : Cond.lays "KeyCommandInterpreterModel" "KeyCommandInterpreterModel" "pending" "I" ∈ TBg := tb_in (List.mem_append_right _ (List.mem_of_getElem? (i := 532) (by decide +kernel))) rfl
theorem tw_534 : Cond.laysFinal "KeyCommandInterpreterModel" "KeyCommandInterpreterModel" "pend" "[I" ∈ TBg := tb_in (List.mem_append_right _ (List.mem_of_getElem? (i := 534) (by decide +kernel))) rfl
theorem tw_536 : Cond.lays "KeyCommandInterpreterModel" "KeyCommandInterpreterModel" "timeout" "I" ∈ TBg := tb_in (List.mem_append_right _ (List.mem_of_getElem? (i := 536) (by decide +kernel))) rfl
theorem tw_538 : Cond.lays "KeyCommandInterpreterModel" "KeyCommandInterpreterModel" "left" "I" ∈ TBg := tb_in (List.mem_append_right _ (List.mem_of_getElem? (i := 538) (by decide +kernel))) rfl
theorem tw_540 : Cond.lays "KeyCommandInterpreterModel" "KeyCommandInterpreterModel" "tasks" "I" ∈ TBg := tb_in (List.mem_append_right _ (List.mem_of_getElem? (i := 540) (by decide +kernel))) rfl
theorem tw_542 : Cond.laysFinal "KeyCommandInterpreterModel" "KeyCommandInterpreterModel" "task" "[I" ∈ TBg := tb_in (List.mem_append_right _ (List.mem_of_getElem? (i := 542) (by decide +kernel))) rfl
theorem tw_544 : Cond.lays "KeyCommandInterpreterModel" "KeyCommandInterpreterModel" "playing" "I" ∈ TBg := tb_in (List.mem_append_right _ (List.mem_of_getElem? (i := 544) (by decide +kernel))) rfl
theorem tw_546 : Cond.lays "KeyCommandInterpreterModel" "KeyCommandInterpreterModel" "played" "I" ∈ TBg := tb_in (List.mem_append_right _ (List.mem_of_getElem? (i := 546) (by decide +kernel))) rfl
theorem tw_548 : Cond.lays "KeyCommandInterpreterModel" "KeyCommandInterpreterModel" "recording" "I" ∈ TBg := tb_in (List.mem_append_right _ (List.mem_of_getElem? (i := 548) (by decide +kernel))) rfl
theorem tw_550 : Cond.laysFinal "KeyCommandInterpreterModel" "KeyCommandInterpreterModel" "macroSize" "[I" ∈ TBg := tb_in (List.mem_append_right _ (List.mem_of_getElem? (i := 550) (by decide +kernel))) rfl
theorem tw_552 : Cond.laysFinal "KeyCommandInterpreterModel" "KeyCommandInterpreterModel" "macro" "[I" ∈ TBg := tb_in (List.mem_append_right _ (List.mem_of_getElem? (i := 552) (by decide +kernel))) rfl
theorem tw_554 : Cond.lays "KeyCommandInterpreterModel" "KeyCommandInterpreterModel" "reports" "I" ∈ TBg := tb_in (List.mem_append_right _ (List.mem_of_getElem? (i := 554) (by decide +kernel))) rfl
theorem tw_556 : Cond.laysFinal "KeyCommandInterpreterModel" "KeyCommandInterpreterModel" "kinds" "[I" ∈ TBg := tb_in (List.mem_append_right _ (List.mem_of_getElem? (i := 556) (by decide +kernel))) rfl
theorem tw_558 : Cond.laysFinal "KeyCommandInterpreterModel" "KeyCommandInterpreterModel" "arguments" "[I" ∈ TBg := tb_in (List.mem_append_right _ (List.mem_of_getElem? (i := 558) (by decide +kernel))) rfl
theorem tw_561 : Cond.methodLink "KeyCommandInterpreterLaw" (17) yX5_appendKey ∈ TBg := tb_in (List.mem_append_right _ (List.mem_of_getElem? (i := 561) (by decide +kernel))) rfl
theorem tw_562 : Cond.instanceMethod yX5_appendKey ∈ TBg := tb_in (List.mem_append_right _ (List.mem_of_getElem? (i := 562) (by decide +kernel))) rfl
theorem tw_563 : Cond.selects "KeyCommandInterpreterModel" yX5_appendKey yX5_appendKey ∈ TBg := tb_in (List.mem_append_right _ (List.mem_of_getElem? (i := 563) (by decide +kernel))) rfl
theorem tw_564 : Cond.code yX5_appendKey (prog_7_method_3_code) (2) (Option.some Jvm.ClassFile.FieldType.int) ∈ TBg := tb_in (List.mem_append_right _ (List.mem_of_getElem? (i := 564) (by decide +kernel))) rfl
theorem tw_565 : Cond.methodLink "KeyCommandInterpreterModel" (68) yX5_in ∈ TBg := tb_in (List.mem_append_right _ (List.mem_of_getElem? (i := 565) (by decide +kernel))) rfl
theorem tw_566 : Cond.static yX5_in ∈ TBg := tb_in (List.mem_append_right _ (List.mem_of_getElem? (i := 566) (by decide +kernel))) rfl
theorem tw_567 : Cond.code yX5_in (prog_7_method_2_code) (3) (Option.some Jvm.ClassFile.FieldType.boolean) ∈ TBg := tb_in (List.mem_append_right _ (List.mem_of_getElem? (i := 567) (by decide +kernel))) rfl
theorem tw_568 : Cond.methodLink "KeyCommandInterpreterLaw" (22) yX5_clearKeys ∈ TBg := tb_in (List.mem_append_right _ (List.mem_of_getElem? (i := 568) (by decide +kernel))) rfl
theorem tw_569 : Cond.instanceMethod yX5_clearKeys ∈ TBg := tb_in (List.mem_append_right _ (List.mem_of_getElem? (i := 569) (by decide +kernel))) rfl
theorem tw_570 : Cond.selects "KeyCommandInterpreterModel" yX5_clearKeys yX5_clearKeys ∈ TBg := tb_in (List.mem_append_right _ (List.mem_of_getElem? (i := 570) (by decide +kernel))) rfl
theorem tw_571 : Cond.code yX5_clearKeys (prog_7_method_4_code) (2) (Option.some Jvm.ClassFile.FieldType.int) ∈ TBg := tb_in (List.mem_append_right _ (List.mem_of_getElem? (i := 571) (by decide +kernel))) rfl
theorem tw_572 : Cond.methodLink "KeyCommandInterpreterLaw" (27) yX5_bind ∈ TBg := tb_in (List.mem_append_right _ (List.mem_of_getElem? (i := 572) (by decide +kernel))) rfl
theorem tw_573 : Cond.instanceMethod yX5_bind ∈ TBg := tb_in (List.mem_append_right _ (List.mem_of_getElem? (i := 573) (by decide +kernel))) rfl
theorem tw_574 : Cond.selects "KeyCommandInterpreterModel" yX5_bind yX5_bind ∈ TBg := tb_in (List.mem_append_right _ (List.mem_of_getElem? (i := 574) (by decide +kernel))) rfl
theorem tw_575 : Cond.code yX5_bind (prog_7_method_6_code) (9) (Option.some Jvm.ClassFile.FieldType.int) ∈ TBg := tb_in (List.mem_append_right _ (List.mem_of_getElem? (i := 575) (by decide +kernel))) rfl
theorem tw_576 : Cond.methodLink "KeyCommandInterpreterModel" (75) yX5_most ∈ TBg := tb_in (List.mem_append_right _ (List.mem_of_getElem? (i := 576) (by decide +kernel))) rfl
theorem tw_577 : Cond.static yX5_most ∈ TBg := tb_in (List.mem_append_right _ (List.mem_of_getElem? (i := 577) (by decide +kernel))) rfl
theorem tw_578 : Cond.code yX5_most (prog_7_method_5_code) (1) (Option.some Jvm.ClassFile.FieldType.int) ∈ TBg := tb_in (List.mem_append_right _ (List.mem_of_getElem? (i := 578) (by decide +kernel))) rfl
theorem tw_579 : Cond.methodLink "KeyCommandInterpreterLaw" (32) yX5_unbind ∈ TBg := tb_in (List.mem_append_right _ (List.mem_of_getElem? (i := 579) (by decide +kernel))) rfl
theorem tw_580 : Cond.instanceMethod yX5_unbind ∈ TBg := tb_in (List.mem_append_right _ (List.mem_of_getElem? (i := 580) (by decide +kernel))) rfl
theorem tw_581 : Cond.selects "KeyCommandInterpreterModel" yX5_unbind yX5_unbind ∈ TBg := tb_in (List.mem_append_right _ (List.mem_of_getElem? (i := 581) (by decide +kernel))) rfl
theorem tw_582 : Cond.code yX5_unbind (prog_7_method_8_code) (5) (Option.some Jvm.ClassFile.FieldType.int) ∈ TBg := tb_in (List.mem_append_right _ (List.mem_of_getElem? (i := 582) (by decide +kernel))) rfl
theorem tw_583 : Cond.methodLink "KeyCommandInterpreterModel" (79) yX5_isBinding ∈ TBg := tb_in (List.mem_append_right _ (List.mem_of_getElem? (i := 583) (by decide +kernel))) rfl
theorem tw_585 : Cond.instanceMethod yX5_isBinding ∈ TBg := tb_in (List.mem_append_right _ (List.mem_of_getElem? (i := 585) (by decide +kernel))) rfl
theorem tw_586 : Cond.code yX5_isBinding (prog_7_method_7_code) (3) (Option.some Jvm.ClassFile.FieldType.boolean) ∈ TBg := tb_in (List.mem_append_right _ (List.mem_of_getElem? (i := 586) (by decide +kernel))) rfl
theorem tw_587 : Cond.methodLink "KeyCommandInterpreterLaw" (36) yX5_bindingCount ∈ TBg := tb_in (List.mem_append_right _ (List.mem_of_getElem? (i := 587) (by decide +kernel))) rfl
theorem tw_588 : Cond.instanceMethod yX5_bindingCount ∈ TBg := tb_in (List.mem_append_right _ (List.mem_of_getElem? (i := 588) (by decide +kernel))) rfl
theorem tw_589 : Cond.selects "KeyCommandInterpreterModel" yX5_bindingCount yX5_bindingCount ∈ TBg := tb_in (List.mem_append_right _ (List.mem_of_getElem? (i := 589) (by decide +kernel))) rfl
theorem tw_590 : Cond.code yX5_bindingCount (prog_7_method_9_code) (2) (Option.some Jvm.ClassFile.FieldType.int) ∈ TBg := tb_in (List.mem_append_right _ (List.mem_of_getElem? (i := 590) (by decide +kernel))) rfl
theorem tw_591 : Cond.methodLink "KeyCommandInterpreterLaw" (40) yX5_shadowedBy ∈ TBg := tb_in (List.mem_append_right _ (List.mem_of_getElem? (i := 591) (by decide +kernel))) rfl
theorem tw_592 : Cond.instanceMethod yX5_shadowedBy ∈ TBg := tb_in (List.mem_append_right _ (List.mem_of_getElem? (i := 592) (by decide +kernel))) rfl
theorem tw_593 : Cond.selects "KeyCommandInterpreterModel" yX5_shadowedBy yX5_shadowedBy ∈ TBg := tb_in (List.mem_append_right _ (List.mem_of_getElem? (i := 593) (by decide +kernel))) rfl
theorem tw_594 : Cond.code yX5_shadowedBy (prog_7_method_10_code) (8) (Option.some Jvm.ClassFile.FieldType.int) ∈ TBg := tb_in (List.mem_append_right _ (List.mem_of_getElem? (i := 594) (by decide +kernel))) rfl
theorem tw_595 : Cond.methodLink "KeyCommandInterpreterLaw" (44) yX5_press ∈ TBg := tb_in (List.mem_append_right _ (List.mem_of_getElem? (i := 595) (by decide +kernel))) rfl
theorem tw_596 : Cond.instanceMethod yX5_press ∈ TBg := tb_in (List.mem_append_right _ (List.mem_of_getElem? (i := 596) (by decide +kernel))) rfl
theorem tw_597 : Cond.selects "KeyCommandInterpreterModel" yX5_press yX5_press ∈ TBg := tb_in (List.mem_append_right _ (List.mem_of_getElem? (i := 597) (by decide +kernel))) rfl
theorem tw_598 : Cond.code yX5_press (prog_7_method_21_code) (3) (Option.some Jvm.ClassFile.FieldType.int) ∈ TBg := tb_in (List.mem_append_right _ (List.mem_of_getElem? (i := 598) (by decide +kernel))) rfl
theorem tw_599 : Cond.methodLink "KeyCommandInterpreterModel" (105) yX5_adds ∈ TBg := tb_in (List.mem_append_right _ (List.mem_of_getElem? (i := 599) (by decide +kernel))) rfl
theorem tw_601 : Cond.instanceMethod yX5_adds ∈ TBg := tb_in (List.mem_append_right _ (List.mem_of_getElem? (i := 601) (by decide +kernel))) rfl
theorem tw_602 : Cond.code yX5_adds (prog_7_method_15_code) (2) (Option.none : Option Jvm.ClassFile.FieldType) ∈ TBg := tb_in (List.mem_append_right _ (List.mem_of_getElem? (i := 602) (by decide +kernel))) rfl
theorem tw_603 : Cond.methodLink "KeyCommandInterpreterModel" (131) yX5_works ∈ TBg := tb_in (List.mem_append_right _ (List.mem_of_getElem? (i := 603) (by decide +kernel))) rfl
theorem tw_605 : Cond.instanceMethod yX5_works ∈ TBg := tb_in (List.mem_append_right _ (List.mem_of_getElem? (i := 605) (by decide +kernel))) rfl
theorem tw_606 : Cond.code yX5_works (prog_7_method_20_code) (2) (Option.none : Option Jvm.ClassFile.FieldType) ∈ TBg := tb_in (List.mem_append_right _ (List.mem_of_getElem? (i := 606) (by decide +kernel))) rfl
theorem tw_607 : Cond.methodLink "KeyCommandInterpreterModel" (121) yX5_isExtensible ∈ TBg := tb_in (List.mem_append_right _ (List.mem_of_getElem? (i := 607) (by decide +kernel))) rfl
theorem tw_609 : Cond.instanceMethod yX5_isExtensible ∈ TBg := tb_in (List.mem_append_right _ (List.mem_of_getElem? (i := 609) (by decide +kernel))) rfl
theorem tw_610 : Cond.code yX5_isExtensible (prog_7_method_13_code) (4) (Option.some Jvm.ClassFile.FieldType.boolean) ∈ TBg := tb_in (List.mem_append_right _ (List.mem_of_getElem? (i := 610) (by decide +kernel))) rfl
theorem tw_611 : Cond.methodLink "KeyCommandInterpreterModel" (83) yX5_fits ∈ TBg := tb_in (List.mem_append_right _ (List.mem_of_getElem? (i := 611) (by decide +kernel))) rfl
theorem tw_613 : Cond.instanceMethod yX5_fits ∈ TBg := tb_in (List.mem_append_right _ (List.mem_of_getElem? (i := 613) (by decide +kernel))) rfl
theorem tw_614 : Cond.code yX5_fits (prog_7_method_11_code) (5) (Option.some Jvm.ClassFile.FieldType.boolean) ∈ TBg := tb_in (List.mem_append_right _ (List.mem_of_getElem? (i := 614) (by decide +kernel))) rfl
theorem tw_615 : Cond.methodLink "KeyCommandInterpreterModel" (128) yX5_ends ∈ TBg := tb_in (List.mem_append_right _ (List.mem_of_getElem? (i := 615) (by decide +kernel))) rfl
theorem tw_617 : Cond.instanceMethod yX5_ends ∈ TBg := tb_in (List.mem_append_right _ (List.mem_of_getElem? (i := 617) (by decide +kernel))) rfl
theorem tw_618 : Cond.code yX5_ends (prog_7_method_19_code) (5) (Option.none : Option Jvm.ClassFile.FieldType) ∈ TBg := tb_in (List.mem_append_right _ (List.mem_of_getElem? (i := 618) (by decide +kernel))) rfl
theorem tw_619 : Cond.methodLink "KeyCommandInterpreterModel" (112) yX5_bound ∈ TBg := tb_in (List.mem_append_right _ (List.mem_of_getElem? (i := 619) (by decide +kernel))) rfl
theorem tw_621 : Cond.instanceMethod yX5_bound ∈ TBg := tb_in (List.mem_append_right _ (List.mem_of_getElem? (i := 621) (by decide +kernel))) rfl
theorem tw_622 : Cond.code yX5_bound (prog_7_method_12_code) (5) (Option.some Jvm.ClassFile.FieldType.int) ∈ TBg := tb_in (List.mem_append_right _ (List.mem_of_getElem? (i := 622) (by decide +kernel))) rfl
theorem tw_623 : Cond.methodLink "KeyCommandInterpreterModel" (115) yX5_frees ∈ TBg := tb_in (List.mem_append_right _ (List.mem_of_getElem? (i := 623) (by decide +kernel))) rfl
theorem tw_625 : Cond.instanceMethod yX5_frees ∈ TBg := tb_in (List.mem_append_right _ (List.mem_of_getElem? (i := 625) (by decide +kernel))) rfl
theorem tw_626 : Cond.code yX5_frees (prog_7_method_18_code) (3) (Option.none : Option Jvm.ClassFile.FieldType) ∈ TBg := tb_in (List.mem_append_right _ (List.mem_of_getElem? (i := 626) (by decide +kernel))) rfl
theorem tw_627 : Cond.methodLink "KeyCommandInterpreterModel" (101) yX5_says ∈ TBg := tb_in (List.mem_append_right _ (List.mem_of_getElem? (i := 627) (by decide +kernel))) rfl
theorem tw_629 : Cond.instanceMethod yX5_says ∈ TBg := tb_in (List.mem_append_right _ (List.mem_of_getElem? (i := 629) (by decide +kernel))) rfl
theorem tw_630 : Cond.code yX5_says (prog_7_method_14_code) (3) (Option.none : Option Jvm.ClassFile.FieldType) ∈ TBg := tb_in (List.mem_append_right _ (List.mem_of_getElem? (i := 630) (by decide +kernel))) rfl
theorem tw_631 : Cond.methodLink "KeyCommandInterpreterModel" (118) yX5_performs ∈ TBg := tb_in (List.mem_append_right _ (List.mem_of_getElem? (i := 631) (by decide +kernel))) rfl
theorem tw_633 : Cond.instanceMethod yX5_performs ∈ TBg := tb_in (List.mem_append_right _ (List.mem_of_getElem? (i := 633) (by decide +kernel))) rfl
theorem tw_634 : Cond.code yX5_performs (prog_7_method_17_code) (3) (Option.none : Option Jvm.ClassFile.FieldType) ∈ TBg := tb_in (List.mem_append_right _ (List.mem_of_getElem? (i := 634) (by decide +kernel))) rfl
theorem tw_635 : Cond.methodLink "KeyCommandInterpreterModel" (109) yX5_plays ∈ TBg := tb_in (List.mem_append_right _ (List.mem_of_getElem? (i := 635) (by decide +kernel))) rfl
theorem tw_637 : Cond.instanceMethod yX5_plays ∈ TBg := tb_in (List.mem_append_right _ (List.mem_of_getElem? (i := 637) (by decide +kernel))) rfl
theorem tw_638 : Cond.code yX5_plays (prog_7_method_16_code) (3) (Option.none : Option Jvm.ClassFile.FieldType) ∈ TBg := tb_in (List.mem_append_right _ (List.mem_of_getElem? (i := 638) (by decide +kernel))) rfl
theorem tw_639 : Cond.methodLink "KeyCommandInterpreterLaw" (48) yX5_tick ∈ TBg := tb_in (List.mem_append_right _ (List.mem_of_getElem? (i := 639) (by decide +kernel))) rfl
theorem tw_640 : Cond.instanceMethod yX5_tick ∈ TBg := tb_in (List.mem_append_right _ (List.mem_of_getElem? (i := 640) (by decide +kernel))) rfl
theorem tw_641 : Cond.selects "KeyCommandInterpreterModel" yX5_tick yX5_tick ∈ TBg := tb_in (List.mem_append_right _ (List.mem_of_getElem? (i := 641) (by decide +kernel))) rfl
theorem tw_642 : Cond.code yX5_tick (prog_7_method_22_code) (4) (Option.some Jvm.ClassFile.FieldType.int) ∈ TBg := tb_in (List.mem_append_right _ (List.mem_of_getElem? (i := 642) (by decide +kernel))) rfl
theorem tw_643 : Cond.methodLink "KeyCommandInterpreterLaw" (52) yX5_setTimeout ∈ TBg := tb_in (List.mem_append_right _ (List.mem_of_getElem? (i := 643) (by decide +kernel))) rfl
theorem tw_644 : Cond.instanceMethod yX5_setTimeout ∈ TBg := tb_in (List.mem_append_right _ (List.mem_of_getElem? (i := 644) (by decide +kernel))) rfl
theorem tw_645 : Cond.selects "KeyCommandInterpreterModel" yX5_setTimeout yX5_setTimeout ∈ TBg := tb_in (List.mem_append_right _ (List.mem_of_getElem? (i := 645) (by decide +kernel))) rfl
theorem tw_646 : Cond.code yX5_setTimeout (prog_7_method_23_code) (3) (Option.some Jvm.ClassFile.FieldType.int) ∈ TBg := tb_in (List.mem_append_right _ (List.mem_of_getElem? (i := 646) (by decide +kernel))) rfl
theorem tw_647 : Cond.methodLink "KeyCommandInterpreterLaw" (56) yX5_setFlag ∈ TBg := tb_in (List.mem_append_right _ (List.mem_of_getElem? (i := 647) (by decide +kernel))) rfl
theorem tw_648 : Cond.instanceMethod yX5_setFlag ∈ TBg := tb_in (List.mem_append_right _ (List.mem_of_getElem? (i := 648) (by decide +kernel))) rfl
theorem tw_649 : Cond.selects "KeyCommandInterpreterModel" yX5_setFlag yX5_setFlag ∈ TBg := tb_in (List.mem_append_right _ (List.mem_of_getElem? (i := 649) (by decide +kernel))) rfl
theorem tw_650 : Cond.code yX5_setFlag (prog_7_method_24_code) (4) (Option.some Jvm.ClassFile.FieldType.int) ∈ TBg := tb_in (List.mem_append_right _ (List.mem_of_getElem? (i := 650) (by decide +kernel))) rfl
theorem tw_651 : Cond.methodLink "KeyCommandInterpreterLaw" (60) yX5_pendingLength ∈ TBg := tb_in (List.mem_append_right _ (List.mem_of_getElem? (i := 651) (by decide +kernel))) rfl
theorem tw_652 : Cond.instanceMethod yX5_pendingLength ∈ TBg := tb_in (List.mem_append_right _ (List.mem_of_getElem? (i := 652) (by decide +kernel))) rfl
theorem tw_653 : Cond.selects "KeyCommandInterpreterModel" yX5_pendingLength yX5_pendingLength ∈ TBg := tb_in (List.mem_append_right _ (List.mem_of_getElem? (i := 653) (by decide +kernel))) rfl
theorem tw_654 : Cond.code yX5_pendingLength (prog_7_method_25_code) (1) (Option.some Jvm.ClassFile.FieldType.int) ∈ TBg := tb_in (List.mem_append_right _ (List.mem_of_getElem? (i := 654) (by decide +kernel))) rfl
theorem tw_655 : Cond.methodLink "KeyCommandInterpreterLaw" (64) yX5_pendingKey ∈ TBg := tb_in (List.mem_append_right _ (List.mem_of_getElem? (i := 655) (by decide +kernel))) rfl
theorem tw_656 : Cond.instanceMethod yX5_pendingKey ∈ TBg := tb_in (List.mem_append_right _ (List.mem_of_getElem? (i := 656) (by decide +kernel))) rfl
theorem tw_657 : Cond.selects "KeyCommandInterpreterModel" yX5_pendingKey yX5_pendingKey ∈ TBg := tb_in (List.mem_append_right _ (List.mem_of_getElem? (i := 657) (by decide +kernel))) rfl
theorem tw_658 : Cond.code yX5_pendingKey (prog_7_method_26_code) (2) (Option.some Jvm.ClassFile.FieldType.int) ∈ TBg := tb_in (List.mem_append_right _ (List.mem_of_getElem? (i := 658) (by decide +kernel))) rfl
theorem tw_659 : Cond.methodLink "KeyCommandInterpreterLaw" (68) yX5_remainingTime ∈ TBg := tb_in (List.mem_append_right _ (List.mem_of_getElem? (i := 659) (by decide +kernel))) rfl
theorem tw_660 : Cond.instanceMethod yX5_remainingTime ∈ TBg := tb_in (List.mem_append_right _ (List.mem_of_getElem? (i := 660) (by decide +kernel))) rfl
theorem tw_661 : Cond.selects "KeyCommandInterpreterModel" yX5_remainingTime yX5_remainingTime ∈ TBg := tb_in (List.mem_append_right _ (List.mem_of_getElem? (i := 661) (by decide +kernel))) rfl
theorem tw_662 : Cond.code yX5_remainingTime (prog_7_method_27_code) (1) (Option.some Jvm.ClassFile.FieldType.int) ∈ TBg := tb_in (List.mem_append_right _ (List.mem_of_getElem? (i := 662) (by decide +kernel))) rfl
theorem tw_663 : Cond.methodLink "KeyCommandInterpreterLaw" (72) yX5_pendingBinding ∈ TBg := tb_in (List.mem_append_right _ (List.mem_of_getElem? (i := 663) (by decide +kernel))) rfl
theorem tw_664 : Cond.instanceMethod yX5_pendingBinding ∈ TBg := tb_in (List.mem_append_right _ (List.mem_of_getElem? (i := 664) (by decide +kernel))) rfl
theorem tw_665 : Cond.selects "KeyCommandInterpreterModel" yX5_pendingBinding yX5_pendingBinding ∈ TBg := tb_in (List.mem_append_right _ (List.mem_of_getElem? (i := 665) (by decide +kernel))) rfl
theorem tw_666 : Cond.code yX5_pendingBinding (prog_7_method_28_code) (2) (Option.some Jvm.ClassFile.FieldType.int) ∈ TBg := tb_in (List.mem_append_right _ (List.mem_of_getElem? (i := 666) (by decide +kernel))) rfl
theorem tw_667 : Cond.methodLink "KeyCommandInterpreterLaw" (76) yX5_flag ∈ TBg := tb_in (List.mem_append_right _ (List.mem_of_getElem? (i := 667) (by decide +kernel))) rfl
theorem tw_668 : Cond.instanceMethod yX5_flag ∈ TBg := tb_in (List.mem_append_right _ (List.mem_of_getElem? (i := 668) (by decide +kernel))) rfl
theorem tw_669 : Cond.selects "KeyCommandInterpreterModel" yX5_flag yX5_flag ∈ TBg := tb_in (List.mem_append_right _ (List.mem_of_getElem? (i := 669) (by decide +kernel))) rfl
theorem tw_670 : Cond.code yX5_flag (prog_7_method_29_code) (2) (Option.some Jvm.ClassFile.FieldType.int) ∈ TBg := tb_in (List.mem_append_right _ (List.mem_of_getElem? (i := 670) (by decide +kernel))) rfl
theorem tw_671 : Cond.methodLink "KeyCommandInterpreterLaw" (80) yX5_stackSize ∈ TBg := tb_in (List.mem_append_right _ (List.mem_of_getElem? (i := 671) (by decide +kernel))) rfl
theorem tw_672 : Cond.instanceMethod yX5_stackSize ∈ TBg := tb_in (List.mem_append_right _ (List.mem_of_getElem? (i := 672) (by decide +kernel))) rfl
theorem tw_673 : Cond.selects "KeyCommandInterpreterModel" yX5_stackSize yX5_stackSize ∈ TBg := tb_in (List.mem_append_right _ (List.mem_of_getElem? (i := 673) (by decide +kernel))) rfl
theorem tw_674 : Cond.code yX5_stackSize (prog_7_method_30_code) (1) (Option.some Jvm.ClassFile.FieldType.int) ∈ TBg := tb_in (List.mem_append_right _ (List.mem_of_getElem? (i := 674) (by decide +kernel))) rfl
theorem tw_675 : Cond.methodLink "KeyCommandInterpreterLaw" (84) yX5_stackContext ∈ TBg := tb_in (List.mem_append_right _ (List.mem_of_getElem? (i := 675) (by decide +kernel))) rfl
theorem tw_676 : Cond.instanceMethod yX5_stackContext ∈ TBg := tb_in (List.mem_append_right _ (List.mem_of_getElem? (i := 676) (by decide +kernel))) rfl
theorem tw_677 : Cond.selects "KeyCommandInterpreterModel" yX5_stackContext yX5_stackContext ∈ TBg := tb_in (List.mem_append_right _ (List.mem_of_getElem? (i := 677) (by decide +kernel))) rfl
theorem tw_678 : Cond.code yX5_stackContext (prog_7_method_31_code) (2) (Option.some Jvm.ClassFile.FieldType.int) ∈ TBg := tb_in (List.mem_append_right _ (List.mem_of_getElem? (i := 678) (by decide +kernel))) rfl
theorem tw_679 : Cond.methodLink "KeyCommandInterpreterLaw" (88) yX5_startRecording ∈ TBg := tb_in (List.mem_append_right _ (List.mem_of_getElem? (i := 679) (by decide +kernel))) rfl
theorem tw_680 : Cond.instanceMethod yX5_startRecording ∈ TBg := tb_in (List.mem_append_right _ (List.mem_of_getElem? (i := 680) (by decide +kernel))) rfl
theorem tw_681 : Cond.selects "KeyCommandInterpreterModel" yX5_startRecording yX5_startRecording ∈ TBg := tb_in (List.mem_append_right _ (List.mem_of_getElem? (i := 681) (by decide +kernel))) rfl
theorem tw_682 : Cond.code yX5_startRecording (prog_7_method_32_code) (3) (Option.some Jvm.ClassFile.FieldType.int) ∈ TBg := tb_in (List.mem_append_right _ (List.mem_of_getElem? (i := 682) (by decide +kernel))) rfl
theorem tw_683 : Cond.methodLink "KeyCommandInterpreterLaw" (92) yX5_stopRecording ∈ TBg := tb_in (List.mem_append_right _ (List.mem_of_getElem? (i := 683) (by decide +kernel))) rfl
theorem tw_684 : Cond.instanceMethod yX5_stopRecording ∈ TBg := tb_in (List.mem_append_right _ (List.mem_of_getElem? (i := 684) (by decide +kernel))) rfl
theorem tw_685 : Cond.selects "KeyCommandInterpreterModel" yX5_stopRecording yX5_stopRecording ∈ TBg := tb_in (List.mem_append_right _ (List.mem_of_getElem? (i := 685) (by decide +kernel))) rfl
theorem tw_686 : Cond.code yX5_stopRecording (prog_7_method_33_code) (2) (Option.some Jvm.ClassFile.FieldType.int) ∈ TBg := tb_in (List.mem_append_right _ (List.mem_of_getElem? (i := 686) (by decide +kernel))) rfl
theorem tw_687 : Cond.methodLink "KeyCommandInterpreterLaw" (96) yX5_macroKey ∈ TBg := tb_in (List.mem_append_right _ (List.mem_of_getElem? (i := 687) (by decide +kernel))) rfl
theorem tw_688 : Cond.instanceMethod yX5_macroKey ∈ TBg := tb_in (List.mem_append_right _ (List.mem_of_getElem? (i := 688) (by decide +kernel))) rfl
theorem tw_689 : Cond.selects "KeyCommandInterpreterModel" yX5_macroKey yX5_macroKey ∈ TBg := tb_in (List.mem_append_right _ (List.mem_of_getElem? (i := 689) (by decide +kernel))) rfl
theorem tw_690 : Cond.code yX5_macroKey (prog_7_method_34_code) (3) (Option.some Jvm.ClassFile.FieldType.int) ∈ TBg := tb_in (List.mem_append_right _ (List.mem_of_getElem? (i := 690) (by decide +kernel))) rfl
theorem tw_691 : Cond.methodLink "KeyCommandInterpreterLaw" (100) yX5_reportCount ∈ TBg := tb_in (List.mem_append_right _ (List.mem_of_getElem? (i := 691) (by decide +kernel))) rfl
theorem tw_692 : Cond.instanceMethod yX5_reportCount ∈ TBg := tb_in (List.mem_append_right _ (List.mem_of_getElem? (i := 692) (by decide +kernel))) rfl
theorem tw_693 : Cond.selects "KeyCommandInterpreterModel" yX5_reportCount yX5_reportCount ∈ TBg := tb_in (List.mem_append_right _ (List.mem_of_getElem? (i := 693) (by decide +kernel))) rfl
theorem tw_694 : Cond.code yX5_reportCount (prog_7_method_35_code) (1) (Option.some Jvm.ClassFile.FieldType.int) ∈ TBg := tb_in (List.mem_append_right _ (List.mem_of_getElem? (i := 694) (by decide +kernel))) rfl
theorem tw_695 : Cond.methodLink "KeyCommandInterpreterLaw" (104) yX5_reportKind ∈ TBg := tb_in (List.mem_append_right _ (List.mem_of_getElem? (i := 695) (by decide +kernel))) rfl
theorem tw_696 : Cond.instanceMethod yX5_reportKind ∈ TBg := tb_in (List.mem_append_right _ (List.mem_of_getElem? (i := 696) (by decide +kernel))) rfl
theorem tw_697 : Cond.selects "KeyCommandInterpreterModel" yX5_reportKind yX5_reportKind ∈ TBg := tb_in (List.mem_append_right _ (List.mem_of_getElem? (i := 697) (by decide +kernel))) rfl
theorem tw_698 : Cond.code yX5_reportKind (prog_7_method_37_code) (3) (Option.some Jvm.ClassFile.FieldType.int) ∈ TBg := tb_in (List.mem_append_right _ (List.mem_of_getElem? (i := 698) (by decide +kernel))) rfl
theorem tw_699 : Cond.methodLink "KeyCommandInterpreterModel" (134) yX5_errorOf ∈ TBg := tb_in (List.mem_append_right _ (List.mem_of_getElem? (i := 699) (by decide +kernel))) rfl
theorem tw_701 : Cond.instanceMethod yX5_errorOf ∈ TBg := tb_in (List.mem_append_right _ (List.mem_of_getElem? (i := 701) (by decide +kernel))) rfl
theorem tw_702 : Cond.code yX5_errorOf (prog_7_method_36_code) (2) (Option.some Jvm.ClassFile.FieldType.int) ∈ TBg := tb_in (List.mem_append_right _ (List.mem_of_getElem? (i := 702) (by decide +kernel))) rfl
theorem tw_703 : Cond.methodLink "KeyCommandInterpreterLaw" (108) yX5_reportArgument ∈ TBg := tb_in (List.mem_append_right _ (List.mem_of_getElem? (i := 703) (by decide +kernel))) rfl
theorem tw_704 : Cond.instanceMethod yX5_reportArgument ∈ TBg := tb_in (List.mem_append_right _ (List.mem_of_getElem? (i := 704) (by decide +kernel))) rfl
theorem tw_705 : Cond.selects "KeyCommandInterpreterModel" yX5_reportArgument yX5_reportArgument ∈ TBg := tb_in (List.mem_append_right _ (List.mem_of_getElem? (i := 705) (by decide +kernel))) rfl
theorem tw_706 : Cond.code yX5_reportArgument (prog_7_method_38_code) (3) (Option.some Jvm.ClassFile.FieldType.int) ∈ TBg := tb_in (List.mem_append_right _ (List.mem_of_getElem? (i := 706) (by decide +kernel))) rfl
theorem tw_708 : Cond.castable "KeyCommandInterpreter$Row" "java/lang/Object" ∈ lw_tbl := List.mem_append_right _ (List.mem_of_getElem? (i := 708) (by decide +kernel))
theorem tw_710 : Cond.castable "KeyCommandInterpreter$Context" "java/lang/Object" ∈ lw_tbl := List.mem_append_right _ (List.mem_of_getElem? (i := 710) (by decide +kernel))
theorem tw_713 : Cond.castable "KeyCommandInterpreter$Binding" "java/lang/Object" ∈ lw_tbl := List.mem_append_right _ (List.mem_of_getElem? (i := 713) (by decide +kernel))
theorem ts_0 : Cond.selects yJx4a65c_add_72be8.cls yJx4a65c_add_72be8 yJx4a65c_add_72be8 ∈ TBg := tb_in (List.mem_append_left _ (List.mem_of_getElem? (i := 0) (by decide +kernel))) rfl
theorem ts_1 : Cond.selects yJx4a65c_grow_d5877.cls yJx4a65c_grow_d5877 yJx4a65c_grow_d5877 ∈ TBg := tb_in (List.mem_append_left _ (List.mem_of_getElem? (i := 1) (by decide +kernel))) rfl
theorem ts_2 : Cond.selects yJx4a65c_grow_92f84.cls yJx4a65c_grow_92f84 yJx4a65c_grow_92f84 ∈ TBg := tb_in (List.mem_append_left _ (List.mem_of_getElem? (i := 2) (by decide +kernel))) rfl
theorem ts_3 : Cond.selects yX4_pushContext.cls yX4_pushContext yX4_pushContext ∈ TBg := tb_in (List.mem_append_left _ (List.mem_of_getElem? (i := 3) (by decide +kernel))) rfl
theorem ts_4 : Cond.selects yX4_isContext.cls yX4_isContext yX4_isContext ∈ TBg := tb_in (List.mem_append_left _ (List.mem_of_getElem? (i := 4) (by decide +kernel))) rfl
theorem ts_5 : Cond.selects yX3_isFull.cls yX3_isFull yX3_isFull ∈ TBg := tb_in (List.mem_append_left _ (List.mem_of_getElem? (i := 5) (by decide +kernel))) rfl
theorem ts_6 : Cond.selects yX3_add.cls yX3_add yX3_add ∈ TBg := tb_in (List.mem_append_left _ (List.mem_of_getElem? (i := 6) (by decide +kernel))) rfl
theorem ts_7 : Cond.selects yX3_size.cls yX3_size yX3_size ∈ TBg := tb_in (List.mem_append_left _ (List.mem_of_getElem? (i := 7) (by decide +kernel))) rfl
theorem ts_8 : Cond.selects yX3_clear.cls yX3_clear yX3_clear ∈ TBg := tb_in (List.mem_append_left _ (List.mem_of_getElem? (i := 8) (by decide +kernel))) rfl
theorem ts_9 : Cond.selects yX4_isCondition.cls yX4_isCondition yX4_isCondition ∈ TBg := tb_in (List.mem_append_left _ (List.mem_of_getElem? (i := 9) (by decide +kernel))) rfl
theorem ts_10 : Cond.selects yX4_isFlag.cls yX4_isFlag yX4_isFlag ∈ TBg := tb_in (List.mem_append_left _ (List.mem_of_getElem? (i := 10) (by decide +kernel))) rfl
theorem ts_11 : Cond.selects yX4_isAction.cls yX4_isAction yX4_isAction ∈ TBg := tb_in (List.mem_append_left _ (List.mem_of_getElem? (i := 11) (by decide +kernel))) rfl
theorem ts_12 : Cond.selects yX4_isMacro.cls yX4_isMacro yX4_isMacro ∈ TBg := tb_in (List.mem_append_left _ (List.mem_of_getElem? (i := 12) (by decide +kernel))) rfl
theorem ts_13 : Cond.selects yX3_copy.cls yX3_copy yX3_copy ∈ TBg := tb_in (List.mem_append_left _ (List.mem_of_getElem? (i := 13) (by decide +kernel))) rfl
theorem ts_14 : Cond.selects yX4_isBinding.cls yX4_isBinding yX4_isBinding ∈ TBg := tb_in (List.mem_append_left _ (List.mem_of_getElem? (i := 14) (by decide +kernel))) rfl
theorem ts_15 : Cond.selects yJx4a65c_fastRemove_b59b0.cls yJx4a65c_fastRemove_b59b0 yJx4a65c_fastRemove_b59b0 ∈ TBg := tb_in (List.mem_append_left _ (List.mem_of_getElem? (i := 15) (by decide +kernel))) rfl
theorem ts_16 : Cond.selects yX0_shadows.cls yX0_shadows yX0_shadows ∈ TBg := tb_in (List.mem_append_left _ (List.mem_of_getElem? (i := 16) (by decide +kernel))) rfl
theorem ts_17 : Cond.selects yX0_isFor.cls yX0_isFor yX0_isFor ∈ TBg := tb_in (List.mem_append_left _ (List.mem_of_getElem? (i := 17) (by decide +kernel))) rfl
theorem ts_18 : Cond.selects yX3_sharesBeginning.cls yX3_sharesBeginning yX3_sharesBeginning ∈ TBg := tb_in (List.mem_append_left _ (List.mem_of_getElem? (i := 18) (by decide +kernel))) rfl
theorem ts_19 : Cond.selects yX4_processWaitingKeys.cls yX4_processWaitingKeys yX4_processWaitingKeys ∈ TBg := tb_in (List.mem_append_left _ (List.mem_of_getElem? (i := 19) (by decide +kernel))) rfl
theorem ts_20 : Cond.selects yX3_removeLast.cls yX3_removeLast yX3_removeLast ∈ TBg := tb_in (List.mem_append_left _ (List.mem_of_getElem? (i := 20) (by decide +kernel))) rfl
theorem ts_21 : Cond.selects yX4_isExtensible.cls yX4_isExtensible yX4_isExtensible ∈ TBg := tb_in (List.mem_append_left _ (List.mem_of_getElem? (i := 21) (by decide +kernel))) rfl
theorem ts_22 : Cond.selects yX0_isLongerThan.cls yX0_isLongerThan yX0_isLongerThan ∈ TBg := tb_in (List.mem_append_left _ (List.mem_of_getElem? (i := 22) (by decide +kernel))) rfl
theorem ts_23 : Cond.selects yX0_holds.cls yX0_holds yX0_holds ∈ TBg := tb_in (List.mem_append_left _ (List.mem_of_getElem? (i := 23) (by decide +kernel))) rfl
theorem ts_24 : Cond.selects yX4_releasePending.cls yX4_releasePending yX4_releasePending ∈ TBg := tb_in (List.mem_append_left _ (List.mem_of_getElem? (i := 24) (by decide +kernel))) rfl
theorem ts_25 : Cond.selects yX4_findBinding.cls yX4_findBinding yX4_findBinding ∈ TBg := tb_in (List.mem_append_left _ (List.mem_of_getElem? (i := 25) (by decide +kernel))) rfl
theorem ts_26 : Cond.selects yX3_at.cls yX3_at yX3_at ∈ TBg := tb_in (List.mem_append_left _ (List.mem_of_getElem? (i := 26) (by decide +kernel))) rfl
theorem ts_27 : Cond.selects yX2_add.cls yX2_add yX2_add ∈ TBg := tb_in (List.mem_append_left _ (List.mem_of_getElem? (i := 27) (by decide +kernel))) rfl
theorem ts_28 : Cond.selects yX4_perform.cls yX4_perform yX4_perform ∈ TBg := tb_in (List.mem_append_left _ (List.mem_of_getElem? (i := 28) (by decide +kernel))) rfl
theorem ts_29 : Cond.selects yX4_isRefused.cls yX4_isRefused yX4_isRefused ∈ TBg := tb_in (List.mem_append_left _ (List.mem_of_getElem? (i := 29) (by decide +kernel))) rfl
theorem ts_30 : Cond.selects yX4_play.cls yX4_play yX4_play ∈ TBg := tb_in (List.mem_append_left _ (List.mem_of_getElem? (i := 30) (by decide +kernel))) rfl
theorem ts_31 : Cond.selects yX4_popContext.cls yX4_popContext yX4_popContext ∈ TBg := tb_in (List.mem_append_left _ (List.mem_of_getElem? (i := 31) (by decide +kernel))) rfl
theorem ts_32 : Cond.selects yX2_kindOf.cls yX2_kindOf yX2_kindOf ∈ TBg := tb_in (List.mem_append_left _ (List.mem_of_getElem? (i := 32) (by decide +kernel))) rfl
theorem ts_33 : Cond.selects yX2_isReadable.cls yX2_isReadable yX2_isReadable ∈ TBg := tb_in (List.mem_append_left _ (List.mem_of_getElem? (i := 33) (by decide +kernel))) rfl
theorem ts_34 : Cond.selects yX2_argumentOf.cls yX2_argumentOf yX2_argumentOf ∈ TBg := tb_in (List.mem_append_left _ (List.mem_of_getElem? (i := 34) (by decide +kernel))) rfl
theorem ts_35 : Cond.selects yX5_isBinding.cls yX5_isBinding yX5_isBinding ∈ TBg := tb_in (List.mem_append_left _ (List.mem_of_getElem? (i := 35) (by decide +kernel))) rfl
theorem ts_36 : Cond.selects yX5_adds.cls yX5_adds yX5_adds ∈ TBg := tb_in (List.mem_append_left _ (List.mem_of_getElem? (i := 36) (by decide +kernel))) rfl
theorem ts_37 : Cond.selects yX5_works.cls yX5_works yX5_works ∈ TBg := tb_in (List.mem_append_left _ (List.mem_of_getElem? (i := 37) (by decide +kernel))) rfl
theorem ts_38 : Cond.selects yX5_isExtensible.cls yX5_isExtensible yX5_isExtensible ∈ TBg := tb_in (List.mem_append_left _ (List.mem_of_getElem? (i := 38) (by decide +kernel))) rfl
theorem ts_39 : Cond.selects yX5_fits.cls yX5_fits yX5_fits ∈ TBg := tb_in (List.mem_append_left _ (List.mem_of_getElem? (i := 39) (by decide +kernel))) rfl
theorem ts_40 : Cond.selects yX5_ends.cls yX5_ends yX5_ends ∈ TBg := tb_in (List.mem_append_left _ (List.mem_of_getElem? (i := 40) (by decide +kernel))) rfl
theorem ts_41 : Cond.selects yX5_bound.cls yX5_bound yX5_bound ∈ TBg := tb_in (List.mem_append_left _ (List.mem_of_getElem? (i := 41) (by decide +kernel))) rfl
theorem ts_42 : Cond.selects yX5_frees.cls yX5_frees yX5_frees ∈ TBg := tb_in (List.mem_append_left _ (List.mem_of_getElem? (i := 42) (by decide +kernel))) rfl
theorem ts_43 : Cond.selects yX5_says.cls yX5_says yX5_says ∈ TBg := tb_in (List.mem_append_left _ (List.mem_of_getElem? (i := 43) (by decide +kernel))) rfl
theorem ts_44 : Cond.selects yX5_performs.cls yX5_performs yX5_performs ∈ TBg := tb_in (List.mem_append_left _ (List.mem_of_getElem? (i := 44) (by decide +kernel))) rfl
theorem ts_45 : Cond.selects yX5_plays.cls yX5_plays yX5_plays ∈ TBg := tb_in (List.mem_append_left _ (List.mem_of_getElem? (i := 45) (by decide +kernel))) rfl
theorem ts_46 : Cond.selects yX5_errorOf.cls yX5_errorOf yX5_errorOf ∈ TBg := tb_in (List.mem_append_left _ (List.mem_of_getElem? (i := 46) (by decide +kernel))) rfl
