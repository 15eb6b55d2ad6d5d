section
-- ===== PART A: goes FIRST, ahead of the names: the tables' words, and 'selects' of the private methods out of them =====
/-- a private method of a class that the tables say can be made, by its rows of tables_1 -/
def lw_okq (q : MethodName × Nat) : Prop := (q.1.cls ≠ "java/lang/invoke/MethodHandle" ∧ q.1.cls ≠ "java/lang/invoke/VarHandle") ∧ Cond.instantiable q.1.cls q.2 ∈ tables_1 ∧ Cond.privateMethod q.1 ∈ tables_1 ∧ Cond.instanceMethod q.1 ∈ tables_1
theorem lw_p0 : lw_okq (⟨"java/util/ArrayList", "add", "(Ljava/lang/Object;[Ljava/lang/Object;I)V"⟩, 3) := ⟨⟨by decide +kernel, by decide +kernel⟩, List.mem_of_getElem? (i := 42) (by decide +kernel), List.mem_of_getElem? (i := 72) (by decide +kernel), List.mem_of_getElem? (i := 73) (by decide +kernel)⟩
theorem lw_p1 : lw_okq (⟨"java/util/ArrayList", "grow", "()[Ljava/lang/Object;"⟩, 3) := ⟨⟨by decide +kernel, by decide +kernel⟩, List.mem_of_getElem? (i := 42) (by decide +kernel), List.mem_of_getElem? (i := 76) (by decide +kernel), List.mem_of_getElem? (i := 77) (by decide +kernel)⟩
theorem lw_p2 : lw_okq (⟨"java/util/ArrayList", "grow", "(I)[Ljava/lang/Object;"⟩, 3) := ⟨⟨by decide +kernel, by decide +kernel⟩, List.mem_of_getElem? (i := 42) (by decide +kernel), List.mem_of_getElem? (i := 80) (by decide +kernel), List.mem_of_getElem? (i := 81) (by decide +kernel)⟩
theorem lw_p3 : lw_okq (⟨"KeyCommandInterpreter", "pushContext", "(I)V"⟩, 13) := ⟨⟨by decide +kernel, by decide +kernel⟩, List.mem_of_getElem? (i := 17) (by decide +kernel), List.mem_of_getElem? (i := 154) (by decide +kernel), List.mem_of_getElem? (i := 155) (by decide +kernel)⟩
theorem lw_p4 : lw_okq (⟨"KeyCommandInterpreter", "isContext", "(I)Z"⟩, 13) := ⟨⟨by decide +kernel, by decide +kernel⟩, List.mem_of_getElem? (i := 17) (by decide +kernel), List.mem_of_getElem? (i := 158) (by decide +kernel), List.mem_of_getElem? (i := 159) (by decide +kernel)⟩
theorem lw_p5 : lw_okq (⟨"KeyCommandInterpreter$Row", "isFull", "()Z"⟩, 2) := ⟨⟨by decide +kernel, by decide +kernel⟩, List.mem_of_getElem? (i := 25) (by decide +kernel), List.mem_of_getElem? (i := 227) (by decide +kernel), List.mem_of_getElem? (i := 228) (by decide +kernel)⟩
theorem lw_p6 : lw_okq (⟨"KeyCommandInterpreter$Row", "add", "(I)V"⟩, 2) := ⟨⟨by decide +kernel, by decide +kernel⟩, List.mem_of_getElem? (i := 25) (by decide +kernel), List.mem_of_getElem? (i := 231) (by decide +kernel), List.mem_of_getElem? (i := 232) (by decide +kernel)⟩
theorem lw_p7 : lw_okq (⟨"KeyCommandInterpreter$Row", "size", "()I"⟩, 2) := ⟨⟨by decide +kernel, by decide +kernel⟩, List.mem_of_getElem? (i := 25) (by decide +kernel), List.mem_of_getElem? (i := 235) (by decide +kernel), List.mem_of_getElem? (i := 236) (by decide +kernel)⟩
theorem lw_p8 : lw_okq (⟨"KeyCommandInterpreter$Row", "clear", "()V"⟩, 2) := ⟨⟨by decide +kernel, by decide +kernel⟩, List.mem_of_getElem? (i := 25) (by decide +kernel), List.mem_of_getElem? (i := 243) (by decide +kernel), List.mem_of_getElem? (i := 244) (by decide +kernel)⟩
theorem lw_p9 : lw_okq (⟨"KeyCommandInterpreter", "isCondition", "(II)Z"⟩, 13) := ⟨⟨by decide +kernel, by decide +kernel⟩, List.mem_of_getElem? (i := 17) (by decide +kernel), List.mem_of_getElem? (i := 251) (by decide +kernel), List.mem_of_getElem? (i := 252) (by decide +kernel)⟩
theorem lw_p10 : lw_okq (⟨"KeyCommandInterpreter", "isFlag", "(I)Z"⟩, 13) := ⟨⟨by decide +kernel, by decide +kernel⟩, List.mem_of_getElem? (i := 17) (by decide +kernel), List.mem_of_getElem? (i := 255) (by decide +kernel), List.mem_of_getElem? (i := 256) (by decide +kernel)⟩
theorem lw_p11 : lw_okq (⟨"KeyCommandInterpreter", "isAction", "(II)Z"⟩, 13) := ⟨⟨by decide +kernel, by decide +kernel⟩, List.mem_of_getElem? (i := 17) (by decide +kernel), List.mem_of_getElem? (i := 262) (by decide +kernel), List.mem_of_getElem? (i := 263) (by decide +kernel)⟩
theorem lw_p12 : lw_okq (⟨"KeyCommandInterpreter", "isMacro", "(I)Z"⟩, 13) := ⟨⟨by decide +kernel, by decide +kernel⟩, List.mem_of_getElem? (i := 17) (by decide +kernel), List.mem_of_getElem? (i := 266) (by decide +kernel), List.mem_of_getElem? (i := 267) (by decide +kernel)⟩
theorem lw_p13 : lw_okq (⟨"KeyCommandInterpreter$Row", "copy", "()LKeyCommandInterpreter$Row;"⟩, 2) := ⟨⟨by decide +kernel, by decide +kernel⟩, List.mem_of_getElem? (i := 25) (by decide +kernel), List.mem_of_getElem? (i := 272) (by decide +kernel), List.mem_of_getElem? (i := 273) (by decide +kernel)⟩
theorem lw_p14 : lw_okq (⟨"KeyCommandInterpreter", "isBinding", "(II)Z"⟩, 13) := ⟨⟨by decide +kernel, by decide +kernel⟩, List.mem_of_getElem? (i := 17) (by decide +kernel), List.mem_of_getElem? (i := 305) (by decide +kernel), List.mem_of_getElem? (i := 306) (by decide +kernel)⟩
theorem lw_p15 : lw_okq (⟨"java/util/ArrayList", "fastRemove", "([Ljava/lang/Object;I)V"⟩, 3) := ⟨⟨by decide +kernel, by decide +kernel⟩, List.mem_of_getElem? (i := 42) (by decide +kernel), List.mem_of_getElem? (i := 313) (by decide +kernel), List.mem_of_getElem? (i := 314) (by decide +kernel)⟩
def lw_privs_1 : List (MethodName × Nat) := [(⟨"java/util/ArrayList", "add", "(Ljava/lang/Object;[Ljava/lang/Object;I)V"⟩, 3), (⟨"java/util/ArrayList", "grow", "()[Ljava/lang/Object;"⟩, 3), (⟨"java/util/ArrayList", "grow", "(I)[Ljava/lang/Object;"⟩, 3), (⟨"KeyCommandInterpreter", "pushContext", "(I)V"⟩, 13), (⟨"KeyCommandInterpreter", "isContext", "(I)Z"⟩, 13), (⟨"KeyCommandInterpreter$Row", "isFull", "()Z"⟩, 2), (⟨"KeyCommandInterpreter$Row", "add", "(I)V"⟩, 2), (⟨"KeyCommandInterpreter$Row", "size", "()I"⟩, 2), (⟨"KeyCommandInterpreter$Row", "clear", "()V"⟩, 2), (⟨"KeyCommandInterpreter", "isCondition", "(II)Z"⟩, 13), (⟨"KeyCommandInterpreter", "isFlag", "(I)Z"⟩, 13), (⟨"KeyCommandInterpreter", "isAction", "(II)Z"⟩, 13), (⟨"KeyCommandInterpreter", "isMacro", "(I)Z"⟩, 13), (⟨"KeyCommandInterpreter$Row", "copy", "()LKeyCommandInterpreter$Row;"⟩, 2), (⟨"KeyCommandInterpreter", "isBinding", "(II)Z"⟩, 13), (⟨"java/util/ArrayList", "fastRemove", "([Ljava/lang/Object;I)V"⟩, 3)]
theorem lw_r1 : ∀ q ∈ lw_privs_1, lw_okq q := List.forall_mem_cons.mpr ⟨lw_p0, List.forall_mem_cons.mpr ⟨lw_p1, List.forall_mem_cons.mpr ⟨lw_p2, List.forall_mem_cons.mpr ⟨lw_p3, List.forall_mem_cons.mpr ⟨lw_p4, List.forall_mem_cons.mpr ⟨lw_p5, List.forall_mem_cons.mpr ⟨lw_p6, List.forall_mem_cons.mpr ⟨lw_p7, List.forall_mem_cons.mpr ⟨lw_p8, List.forall_mem_cons.mpr ⟨lw_p9, List.forall_mem_cons.mpr ⟨lw_p10, List.forall_mem_cons.mpr ⟨lw_p11, List.forall_mem_cons.mpr ⟨lw_p12, List.forall_mem_cons.mpr ⟨lw_p13, List.forall_mem_cons.mpr ⟨lw_p14, List.forall_mem_cons.mpr ⟨lw_p15, fun _ h => absurd h List.not_mem_nil⟩⟩⟩⟩⟩⟩⟩⟩⟩⟩⟩⟩⟩⟩⟩⟩
theorem lw_p16 : lw_okq (⟨"KeyCommandInterpreter$Binding", "shadows", "(LKeyCommandInterpreter$Binding;)Z"⟩, 5) := ⟨⟨by decide +kernel, by decide +kernel⟩, List.mem_of_getElem? (i := 270) (by decide +kernel), List.mem_of_getElem? (i := 326) (by decide +kernel), List.mem_of_getElem? (i := 327) (by decide +kernel)⟩
theorem lw_p17 : lw_okq (⟨"KeyCommandInterpreter$Binding", "isFor", "(LKeyCommandInterpreter$Row;I)Z"⟩, 5) := ⟨⟨by decide +kernel, by decide +kernel⟩, List.mem_of_getElem? (i := 270) (by decide +kernel), List.mem_of_getElem? (i := 331) (by decide +kernel), List.mem_of_getElem? (i := 332) (by decide +kernel)⟩
theorem lw_p18 : lw_okq (⟨"KeyCommandInterpreter$Row", "sharesBeginning", "(LKeyCommandInterpreter$Row;I)Z"⟩, 2) := ⟨⟨by decide +kernel, by decide +kernel⟩, List.mem_of_getElem? (i := 25) (by decide +kernel), List.mem_of_getElem? (i := 335) (by decide +kernel), List.mem_of_getElem? (i := 336) (by decide +kernel)⟩
theorem lw_p19 : lw_okq (⟨"KeyCommandInterpreter", "processWaitingKeys", "()V"⟩, 13) := ⟨⟨by decide +kernel, by decide +kernel⟩, List.mem_of_getElem? (i := 17) (by decide +kernel), List.mem_of_getElem? (i := 343) (by decide +kernel), List.mem_of_getElem? (i := 344) (by decide +kernel)⟩
theorem lw_p20 : lw_okq (⟨"KeyCommandInterpreter$Row", "removeLast", "()I"⟩, 2) := ⟨⟨by decide +kernel, by decide +kernel⟩, List.mem_of_getElem? (i := 25) (by decide +kernel), List.mem_of_getElem? (i := 348) (by decide +kernel), List.mem_of_getElem? (i := 349) (by decide +kernel)⟩
theorem lw_p21 : lw_okq (⟨"KeyCommandInterpreter", "isExtensible", "()Z"⟩, 13) := ⟨⟨by decide +kernel, by decide +kernel⟩, List.mem_of_getElem? (i := 17) (by decide +kernel), List.mem_of_getElem? (i := 352) (by decide +kernel), List.mem_of_getElem? (i := 353) (by decide +kernel)⟩
theorem lw_p22 : lw_okq (⟨"KeyCommandInterpreter$Binding", "isLongerThan", "(LKeyCommandInterpreter$Row;)Z"⟩, 5) := ⟨⟨by decide +kernel, by decide +kernel⟩, List.mem_of_getElem? (i := 270) (by decide +kernel), List.mem_of_getElem? (i := 356) (by decide +kernel), List.mem_of_getElem? (i := 357) (by decide +kernel)⟩
theorem lw_p23 : lw_okq (⟨"KeyCommandInterpreter$Binding", "holds", "([I)Z"⟩, 5) := ⟨⟨by decide +kernel, by decide +kernel⟩, List.mem_of_getElem? (i := 270) (by decide +kernel), List.mem_of_getElem? (i := 360) (by decide +kernel), List.mem_of_getElem? (i := 361) (by decide +kernel)⟩
theorem lw_p24 : lw_okq (⟨"KeyCommandInterpreter", "releasePending", "()V"⟩, 13) := ⟨⟨by decide +kernel, by decide +kernel⟩, List.mem_of_getElem? (i := 17) (by decide +kernel), List.mem_of_getElem? (i := 364) (by decide +kernel), List.mem_of_getElem? (i := 365) (by decide +kernel)⟩
theorem lw_p25 : lw_okq (⟨"KeyCommandInterpreter", "findBinding", "(I)I"⟩, 13) := ⟨⟨by decide +kernel, by decide +kernel⟩, List.mem_of_getElem? (i := 17) (by decide +kernel), List.mem_of_getElem? (i := 368) (by decide +kernel), List.mem_of_getElem? (i := 369) (by decide +kernel)⟩
theorem lw_p26 : lw_okq (⟨"KeyCommandInterpreter$Row", "at", "(I)I"⟩, 2) := ⟨⟨by decide +kernel, by decide +kernel⟩, List.mem_of_getElem? (i := 25) (by decide +kernel), List.mem_of_getElem? (i := 373) (by decide +kernel), List.mem_of_getElem? (i := 374) (by decide +kernel)⟩
theorem lw_p27 : lw_okq (⟨"KeyCommandInterpreter$ReportLog", "add", "(II)V"⟩, 3) := ⟨⟨by decide +kernel, by decide +kernel⟩, List.mem_of_getElem? (i := 137) (by decide +kernel), List.mem_of_getElem? (i := 377) (by decide +kernel), List.mem_of_getElem? (i := 378) (by decide +kernel)⟩
theorem lw_p28 : lw_okq (⟨"KeyCommandInterpreter", "perform", "(II)V"⟩, 13) := ⟨⟨by decide +kernel, by decide +kernel⟩, List.mem_of_getElem? (i := 17) (by decide +kernel), List.mem_of_getElem? (i := 384) (by decide +kernel), List.mem_of_getElem? (i := 385) (by decide +kernel)⟩
theorem lw_p29 : lw_okq (⟨"KeyCommandInterpreter", "isRefused", "(II)Z"⟩, 13) := ⟨⟨by decide +kernel, by decide +kernel⟩, List.mem_of_getElem? (i := 17) (by decide +kernel), List.mem_of_getElem? (i := 388) (by decide +kernel), List.mem_of_getElem? (i := 389) (by decide +kernel)⟩
theorem lw_p30 : lw_okq (⟨"KeyCommandInterpreter", "play", "(I)V"⟩, 13) := ⟨⟨by decide +kernel, by decide +kernel⟩, List.mem_of_getElem? (i := 17) (by decide +kernel), List.mem_of_getElem? (i := 392) (by decide +kernel), List.mem_of_getElem? (i := 393) (by decide +kernel)⟩
theorem lw_p31 : lw_okq (⟨"KeyCommandInterpreter", "popContext", "()V"⟩, 13) := ⟨⟨by decide +kernel, by decide +kernel⟩, List.mem_of_getElem? (i := 17) (by decide +kernel), List.mem_of_getElem? (i := 396) (by decide +kernel), List.mem_of_getElem? (i := 397) (by decide +kernel)⟩
def lw_privs_2 : List (MethodName × Nat) := [(⟨"KeyCommandInterpreter$Binding", "shadows", "(LKeyCommandInterpreter$Binding;)Z"⟩, 5), (⟨"KeyCommandInterpreter$Binding", "isFor", "(LKeyCommandInterpreter$Row;I)Z"⟩, 5), (⟨"KeyCommandInterpreter$Row", "sharesBeginning", "(LKeyCommandInterpreter$Row;I)Z"⟩, 2), (⟨"KeyCommandInterpreter", "processWaitingKeys", "()V"⟩, 13), (⟨"KeyCommandInterpreter$Row", "removeLast", "()I"⟩, 2), (⟨"KeyCommandInterpreter", "isExtensible", "()Z"⟩, 13), (⟨"KeyCommandInterpreter$Binding", "isLongerThan", "(LKeyCommandInterpreter$Row;)Z"⟩, 5), (⟨"KeyCommandInterpreter$Binding", "holds", "([I)Z"⟩, 5), (⟨"KeyCommandInterpreter", "releasePending", "()V"⟩, 13), (⟨"KeyCommandInterpreter", "findBinding", "(I)I"⟩, 13), (⟨"KeyCommandInterpreter$Row", "at", "(I)I"⟩, 2), (⟨"KeyCommandInterpreter$ReportLog", "add", "(II)V"⟩, 3), (⟨"KeyCommandInterpreter", "perform", "(II)V"⟩, 13), (⟨"KeyCommandInterpreter", "isRefused", "(II)Z"⟩, 13), (⟨"KeyCommandInterpreter", "play", "(I)V"⟩, 13), (⟨"KeyCommandInterpreter", "popContext", "()V"⟩, 13)]
theorem lw_r2 : ∀ q ∈ lw_privs_2, lw_okq q := List.forall_mem_cons.mpr ⟨lw_p16, List.forall_mem_cons.mpr ⟨lw_p17, List.forall_mem_cons.mpr ⟨lw_p18, List.forall_mem_cons.mpr ⟨lw_p19, List.forall_mem_cons.mpr ⟨lw_p20, List.forall_mem_cons.mpr ⟨lw_p21, List.forall_mem_cons.mpr ⟨lw_p22, List.forall_mem_cons.mpr ⟨lw_p23, List.forall_mem_cons.mpr ⟨lw_p24, List.forall_mem_cons.mpr ⟨lw_p25, List.forall_mem_cons.mpr ⟨lw_p26, List.forall_mem_cons.mpr ⟨lw_p27, List.forall_mem_cons.mpr ⟨lw_p28, List.forall_mem_cons.mpr ⟨lw_p29, List.forall_mem_cons.mpr ⟨lw_p30, List.forall_mem_cons.mpr ⟨lw_p31, fun _ h => absurd h List.not_mem_nil⟩⟩⟩⟩⟩⟩⟩⟩⟩⟩⟩⟩⟩⟩⟩⟩
theorem lw_p32 : lw_okq (⟨"KeyCommandInterpreter$ReportLog", "kindOf", "(I)I"⟩, 3) := ⟨⟨by decide +kernel, by decide +kernel⟩, List.mem_of_getElem? (i := 137) (by decide +kernel), List.mem_of_getElem? (i := 461) (by decide +kernel), List.mem_of_getElem? (i := 462) (by decide +kernel)⟩
theorem lw_p33 : lw_okq (⟨"KeyCommandInterpreter$ReportLog", "isReadable", "(I)Z"⟩, 3) := ⟨⟨by decide +kernel, by decide +kernel⟩, List.mem_of_getElem? (i := 137) (by decide +kernel), List.mem_of_getElem? (i := 465) (by decide +kernel), List.mem_of_getElem? (i := 466) (by decide +kernel)⟩
theorem lw_p34 : lw_okq (⟨"KeyCommandInterpreter$ReportLog", "argumentOf", "(I)I"⟩, 3) := ⟨⟨by decide +kernel, by decide +kernel⟩, List.mem_of_getElem? (i := 137) (by decide +kernel), List.mem_of_getElem? (i := 473) (by decide +kernel), List.mem_of_getElem? (i := 474) (by decide +kernel)⟩
theorem lw_p35 : lw_okq (⟨"KeyCommandInterpreterModel", "isBinding", "(II)Z"⟩, 26) := ⟨⟨by decide +kernel, by decide +kernel⟩, List.mem_of_getElem? (i := 477) (by decide +kernel), List.mem_of_getElem? (i := 584) (by decide +kernel), List.mem_of_getElem? (i := 585) (by decide +kernel)⟩
theorem lw_p36 : lw_okq (⟨"KeyCommandInterpreterModel", "adds", "(I)V"⟩, 26) := ⟨⟨by decide +kernel, by decide +kernel⟩, List.mem_of_getElem? (i := 477) (by decide +kernel), List.mem_of_getElem? (i := 600) (by decide +kernel), List.mem_of_getElem? (i := 601) (by decide +kernel)⟩
theorem lw_p37 : lw_okq (⟨"KeyCommandInterpreterModel", "works", "()V"⟩, 26) := ⟨⟨by decide +kernel, by decide +kernel⟩, List.mem_of_getElem? (i := 477) (by decide +kernel), List.mem_of_getElem? (i := 604) (by decide +kernel), List.mem_of_getElem? (i := 605) (by decide +kernel)⟩
theorem lw_p38 : lw_okq (⟨"KeyCommandInterpreterModel", "isExtensible", "()Z"⟩, 26) := ⟨⟨by decide +kernel, by decide +kernel⟩, List.mem_of_getElem? (i := 477) (by decide +kernel), List.mem_of_getElem? (i := 608) (by decide +kernel), List.mem_of_getElem? (i := 609) (by decide +kernel)⟩
theorem lw_p39 : lw_okq (⟨"KeyCommandInterpreterModel", "fits", "(II)Z"⟩, 26) := ⟨⟨by decide +kernel, by decide +kernel⟩, List.mem_of_getElem? (i := 477) (by decide +kernel), List.mem_of_getElem? (i := 612) (by decide +kernel), List.mem_of_getElem? (i := 613) (by decide +kernel)⟩
theorem lw_p40 : lw_okq (⟨"KeyCommandInterpreterModel", "ends", "()V"⟩, 26) := ⟨⟨by decide +kernel, by decide +kernel⟩, List.mem_of_getElem? (i := 477) (by decide +kernel), List.mem_of_getElem? (i := 616) (by decide +kernel), List.mem_of_getElem? (i := 617) (by decide +kernel)⟩
theorem lw_p41 : lw_okq (⟨"KeyCommandInterpreterModel", "bound", "(I)I"⟩, 26) := ⟨⟨by decide +kernel, by decide +kernel⟩, List.mem_of_getElem? (i := 477) (by decide +kernel), List.mem_of_getElem? (i := 620) (by decide +kernel), List.mem_of_getElem? (i := 621) (by decide +kernel)⟩
theorem lw_p42 : lw_okq (⟨"KeyCommandInterpreterModel", "frees", "(I)V"⟩, 26) := ⟨⟨by decide +kernel, by decide +kernel⟩, List.mem_of_getElem? (i := 477) (by decide +kernel), List.mem_of_getElem? (i := 624) (by decide +kernel), List.mem_of_getElem? (i := 625) (by decide +kernel)⟩
theorem lw_p43 : lw_okq (⟨"KeyCommandInterpreterModel", "says", "(II)V"⟩, 26) := ⟨⟨by decide +kernel, by decide +kernel⟩, List.mem_of_getElem? (i := 477) (by decide +kernel), List.mem_of_getElem? (i := 628) (by decide +kernel), List.mem_of_getElem? (i := 629) (by decide +kernel)⟩
theorem lw_p44 : lw_okq (⟨"KeyCommandInterpreterModel", "performs", "(II)V"⟩, 26) := ⟨⟨by decide +kernel, by decide +kernel⟩, List.mem_of_getElem? (i := 477) (by decide +kernel), List.mem_of_getElem? (i := 632) (by decide +kernel), List.mem_of_getElem? (i := 633) (by decide +kernel)⟩
theorem lw_p45 : lw_okq (⟨"KeyCommandInterpreterModel", "plays", "(I)V"⟩, 26) := ⟨⟨by decide +kernel, by decide +kernel⟩, List.mem_of_getElem? (i := 477) (by decide +kernel), List.mem_of_getElem? (i := 636) (by decide +kernel), List.mem_of_getElem? (i := 637) (by decide +kernel)⟩
theorem lw_p46 : lw_okq (⟨"KeyCommandInterpreterModel", "errorOf", "(I)I"⟩, 26) := ⟨⟨by decide +kernel, by decide +kernel⟩, List.mem_of_getElem? (i := 477) (by decide +kernel), List.mem_of_getElem? (i := 700) (by decide +kernel), List.mem_of_getElem? (i := 701) (by decide +kernel)⟩
def lw_privs_3 : List (MethodName × Nat) := [(⟨"KeyCommandInterpreter$ReportLog", "kindOf", "(I)I"⟩, 3), (⟨"KeyCommandInterpreter$ReportLog", "isReadable", "(I)Z"⟩, 3), (⟨"KeyCommandInterpreter$ReportLog", "argumentOf", "(I)I"⟩, 3), (⟨"KeyCommandInterpreterModel", "isBinding", "(II)Z"⟩, 26), (⟨"KeyCommandInterpreterModel", "adds", "(I)V"⟩, 26), (⟨"KeyCommandInterpreterModel", "works", "()V"⟩, 26), (⟨"KeyCommandInterpreterModel", "isExtensible", "()Z"⟩, 26), (⟨"KeyCommandInterpreterModel", "fits", "(II)Z"⟩, 26), (⟨"KeyCommandInterpreterModel", "ends", "()V"⟩, 26), (⟨"KeyCommandInterpreterModel", "bound", "(I)I"⟩, 26), (⟨"KeyCommandInterpreterModel", "frees", "(I)V"⟩, 26), (⟨"KeyCommandInterpreterModel", "says", "(II)V"⟩, 26), (⟨"KeyCommandInterpreterModel", "performs", "(II)V"⟩, 26), (⟨"KeyCommandInterpreterModel", "plays", "(I)V"⟩, 26), (⟨"KeyCommandInterpreterModel", "errorOf", "(I)I"⟩, 26)]
theorem lw_r3 : ∀ q ∈ lw_privs_3, lw_okq q := List.forall_mem_cons.mpr ⟨lw_p32, List.forall_mem_cons.mpr ⟨lw_p33, List.forall_mem_cons.mpr ⟨lw_p34, List.forall_mem_cons.mpr ⟨lw_p35, List.forall_mem_cons.mpr ⟨lw_p36, List.forall_mem_cons.mpr ⟨lw_p37, List.forall_mem_cons.mpr ⟨lw_p38, List.forall_mem_cons.mpr ⟨lw_p39, List.forall_mem_cons.mpr ⟨lw_p40, List.forall_mem_cons.mpr ⟨lw_p41, List.forall_mem_cons.mpr ⟨lw_p42, List.forall_mem_cons.mpr ⟨lw_p43, List.forall_mem_cons.mpr ⟨lw_p44, List.forall_mem_cons.mpr ⟨lw_p45, List.forall_mem_cons.mpr ⟨lw_p46, fun _ h => absurd h List.not_mem_nil⟩⟩⟩⟩⟩⟩⟩⟩⟩⟩⟩⟩⟩⟩⟩
def lw_privs : List (MethodName × Nat) := lw_privs_1 ++ (lw_privs_2 ++ (lw_privs_3))
def lw_tbl : List Cond := k2_sels lw_privs ++ tables_1
theorem lw_privs_ok : ∀ q ∈ lw_privs, lw_okq q := by
  show ∀ q ∈ lw_privs_1 ++ (lw_privs_2 ++ (lw_privs_3)), lw_okq q
  exact List.forall_mem_append.mpr ⟨lw_r1, List.forall_mem_append.mpr ⟨lw_r2, lw_r3⟩⟩
end
section
/-! ===== BEGIN printed: names, fields, word lists, decode rows ===== -/
def RX0 : String := "KeyCommandInterpreter$Binding"
def TX0 : u_T := fun k => match k with
  | 0 => ("KeyCommandInterpreter$Binding", "sequence", "LKeyCommandInterpreter$Row;", true)
  | 1 => ("KeyCommandInterpreter$Binding", "conditionFlag", "I", true)
  | 2 => ("KeyCommandInterpreter$Binding", "conditionValue", "I", true)
  | 3 => ("KeyCommandInterpreter$Binding", "action", "I", true)
  | _ => ("KeyCommandInterpreter$Binding", "argument", "I", true)
def tyX0 : Nat → FieldType := fun k => match k with
  | 0 => .object "KeyCommandInterpreter$Row"
  | 1 => .int
  | 2 => .int
  | 3 => .int
  | _ => .int
abbrev wsX00 : List Cond := u_ws RX0 TX0 5
theorem nmX0 : ∀ a, a < 5 → ∀ b, b < 5 → a ≠ b → (TX0 a).2.1 ≠ (TX0 b).2.1 := by decide +kernel
theorem tyX0_ok : ∀ k, k < 5 → parseFieldDescriptor (TX0 k).2.2.1 = some (tyX0 k) := by decide +kernel
abbrev cX0_init : ByteArray := prog_2_method_1_code
def yX0_init : MethodName := ⟨RX0, "<init>", "(LKeyCommandInterpreter$Row;IIII)V"⟩
abbrev cX0_holds : ByteArray := prog_2_method_2_code
def yX0_holds : MethodName := ⟨RX0, "holds", "([I)Z"⟩
abbrev cX0_isFor : ByteArray := prog_2_method_3_code
def yX0_isFor : MethodName := ⟨RX0, "isFor", "(LKeyCommandInterpreter$Row;I)Z"⟩
abbrev cX0_isLongerThan : ByteArray := prog_2_method_4_code
def yX0_isLongerThan : MethodName := ⟨RX0, "isLongerThan", "(LKeyCommandInterpreter$Row;)Z"⟩
abbrev cX0_shadows : ByteArray := prog_2_method_5_code
def yX0_shadows : MethodName := ⟨RX0, "shadows", "(LKeyCommandInterpreter$Binding;)Z"⟩
def RX1 : String := "KeyCommandInterpreter$Context"
def TX1 : u_T := fun k => match k with
  | 0 => ("KeyCommandInterpreter$Context", "number", "I", true)
  | _ => ("KeyCommandInterpreter$Context", "bindings", "Ljava/util/ArrayList;", true)
def tyX1 : Nat → FieldType := fun k => match k with
  | 0 => .int
  | _ => .object "java/util/ArrayList"
abbrev wsX10 : List Cond := u_ws RX1 TX1 2
theorem nmX1 : ∀ a, a < 2 → ∀ b, b < 2 → a ≠ b → (TX1 a).2.1 ≠ (TX1 b).2.1 := by decide +kernel
theorem tyX1_ok : ∀ k, k < 2 → parseFieldDescriptor (TX1 k).2.2.1 = some (tyX1 k) := by decide +kernel
abbrev cX1_init : ByteArray := prog_3_method_1_code
def yX1_init : MethodName := ⟨RX1, "<init>", "(I)V"⟩
def RX2 : String := "KeyCommandInterpreter$ReportLog"
def TX2 : u_T := fun k => match k with
  | 0 => ("KeyCommandInterpreter$ReportLog", "kinds", "[I", true)
  | 1 => ("KeyCommandInterpreter$ReportLog", "arguments", "[I", true)
  | _ => ("KeyCommandInterpreter$ReportLog", "count", "I", false)
def tyX2 : Nat → FieldType := fun k => match k with
  | 0 => .array .int
  | 1 => .array .int
  | _ => .int
abbrev wsX20 : List Cond := u_ws RX2 TX2 3
theorem nmX2 : ∀ a, a < 3 → ∀ b, b < 3 → a ≠ b → (TX2 a).2.1 ≠ (TX2 b).2.1 := by decide +kernel
theorem tyX2_ok : ∀ k, k < 3 → parseFieldDescriptor (TX2 k).2.2.1 = some (tyX2 k) := by decide +kernel
abbrev cX2_init : ByteArray := prog_4_method_1_code
def yX2_init : MethodName := ⟨RX2, "<init>", "()V"⟩
abbrev cX2_add : ByteArray := prog_4_method_2_code
def yX2_add : MethodName := ⟨RX2, "add", "(II)V"⟩
abbrev cX2_kindOf : ByteArray := prog_4_method_3_code
def yX2_kindOf : MethodName := ⟨RX2, "kindOf", "(I)I"⟩
abbrev cX2_argumentOf : ByteArray := prog_4_method_4_code
def yX2_argumentOf : MethodName := ⟨RX2, "argumentOf", "(I)I"⟩
abbrev cX2_isReadable : ByteArray := prog_4_method_5_code
def yX2_isReadable : MethodName := ⟨RX2, "isReadable", "(I)Z"⟩
def RX3 : String := "KeyCommandInterpreter$Row"
def TX3 : u_T := fun k => match k with
  | 0 => ("KeyCommandInterpreter$Row", "items", "[I", true)
  | _ => ("KeyCommandInterpreter$Row", "size", "I", false)
def tyX3 : Nat → FieldType := fun k => match k with
  | 0 => .array .int
  | _ => .int
abbrev wsX30 : List Cond := u_ws RX3 TX3 2
theorem nmX3 : ∀ a, a < 2 → ∀ b, b < 2 → a ≠ b → (TX3 a).2.1 ≠ (TX3 b).2.1 := by decide +kernel
theorem tyX3_ok : ∀ k, k < 2 → parseFieldDescriptor (TX3 k).2.2.1 = some (tyX3 k) := by decide +kernel
abbrev cX3_init : ByteArray := prog_5_method_1_code
def yX3_init : MethodName := ⟨RX3, "<init>", "(I)V"⟩
abbrev cX3_size : ByteArray := prog_5_method_2_code
def yX3_size : MethodName := ⟨RX3, "size", "()I"⟩
abbrev cX3_isFull : ByteArray := prog_5_method_3_code
def yX3_isFull : MethodName := ⟨RX3, "isFull", "()Z"⟩
abbrev cX3_add : ByteArray := prog_5_method_4_code
def yX3_add : MethodName := ⟨RX3, "add", "(I)V"⟩
abbrev cX3_at : ByteArray := prog_5_method_5_code
def yX3_at : MethodName := ⟨RX3, "at", "(I)I"⟩
abbrev cX3_removeLast : ByteArray := prog_5_method_6_code
def yX3_removeLast : MethodName := ⟨RX3, "removeLast", "()I"⟩
abbrev cX3_clear : ByteArray := prog_5_method_7_code
def yX3_clear : MethodName := ⟨RX3, "clear", "()V"⟩
abbrev cX3_copy : ByteArray := prog_5_method_8_code
def yX3_copy : MethodName := ⟨RX3, "copy", "()LKeyCommandInterpreter$Row;"⟩
abbrev cX3_sharesBeginning : ByteArray := prog_5_method_9_code
def yX3_sharesBeginning : MethodName := ⟨RX3, "sharesBeginning", "(LKeyCommandInterpreter$Row;I)Z"⟩
def RX4 : String := "KeyCommandInterpreter"
def TX4 : u_T := fun k => match k with
  | 0 => ("KeyCommandInterpreter", "buffer", "LKeyCommandInterpreter$Row;", true)
  | 1 => ("KeyCommandInterpreter", "pending", "LKeyCommandInterpreter$Row;", true)
  | 2 => ("KeyCommandInterpreter", "waiting", "LKeyCommandInterpreter$Row;", true)
  | 3 => ("KeyCommandInterpreter", "macros", "Ljava/util/ArrayList;", true)
  | 4 => ("KeyCommandInterpreter", "contexts", "Ljava/util/ArrayList;", true)
  | 5 => ("KeyCommandInterpreter", "stack", "Ljava/util/ArrayList;", true)
  | 6 => ("KeyCommandInterpreter", "flags", "[I", true)
  | 7 => ("KeyCommandInterpreter", "reports", "LKeyCommandInterpreter$ReportLog;", true)
  | 8 => ("KeyCommandInterpreter", "timeout", "I", false)
  | 9 => ("KeyCommandInterpreter", "remaining", "I", false)
  | 10 => ("KeyCommandInterpreter", "recorded", "I", false)
  | 11 => ("KeyCommandInterpreter", "playing", "I", false)
  | _ => ("KeyCommandInterpreter", "played", "I", false)
def tyX4 : Nat → FieldType := fun k => match k with
  | 0 => .object "KeyCommandInterpreter$Row"
  | 1 => .object "KeyCommandInterpreter$Row"
  | 2 => .object "KeyCommandInterpreter$Row"
  | 3 => .object "java/util/ArrayList"
  | 4 => .object "java/util/ArrayList"
  | 5 => .object "java/util/ArrayList"
  | 6 => .array .int
  | 7 => .object "KeyCommandInterpreter$ReportLog"
  | 8 => .int
  | 9 => .int
  | 10 => .int
  | 11 => .int
  | _ => .int
abbrev wsX40 : List Cond := u_ws RX4 TX4 13
theorem nmX4 : ∀ a, a < 13 → ∀ b, b < 13 → a ≠ b → (TX4 a).2.1 ≠ (TX4 b).2.1 := by decide +kernel
theorem tyX4_ok : ∀ k, k < 13 → parseFieldDescriptor (TX4 k).2.2.1 = some (tyX4 k) := by decide +kernel
abbrev cX4_init : ByteArray := prog_1_method_1_code
def yX4_init : MethodName := ⟨RX4, "<init>", "()V"⟩
abbrev cX4_appendKey : ByteArray := prog_1_method_2_code
def yX4_appendKey : MethodName := ⟨RX4, "appendKey", "(I)I"⟩
abbrev cX4_clearKeys : ByteArray := prog_1_method_3_code
def yX4_clearKeys : MethodName := ⟨RX4, "clearKeys", "()I"⟩
abbrev cX4_bind : ByteArray := prog_1_method_4_code
def yX4_bind : MethodName := ⟨RX4, "bind", "(IIIII)I"⟩
abbrev cX4_unbind : ByteArray := prog_1_method_5_code
def yX4_unbind : MethodName := ⟨RX4, "unbind", "(II)I"⟩
abbrev cX4_bindingCount : ByteArray := prog_1_method_6_code
def yX4_bindingCount : MethodName := ⟨RX4, "bindingCount", "(I)I"⟩
abbrev cX4_shadowedBy : ByteArray := prog_1_method_7_code
def yX4_shadowedBy : MethodName := ⟨RX4, "shadowedBy", "(II)I"⟩
abbrev cX4_press : ByteArray := prog_1_method_8_code
def yX4_press : MethodName := ⟨RX4, "press", "(I)I"⟩
abbrev cX4_tick : ByteArray := prog_1_method_9_code
def yX4_tick : MethodName := ⟨RX4, "tick", "(I)I"⟩
abbrev cX4_setTimeout : ByteArray := prog_1_method_10_code
def yX4_setTimeout : MethodName := ⟨RX4, "setTimeout", "(I)I"⟩
abbrev cX4_setFlag : ByteArray := prog_1_method_11_code
def yX4_setFlag : MethodName := ⟨RX4, "setFlag", "(II)I"⟩
abbrev cX4_pendingLength : ByteArray := prog_1_method_12_code
def yX4_pendingLength : MethodName := ⟨RX4, "pendingLength", "()I"⟩
abbrev cX4_pendingKey : ByteArray := prog_1_method_13_code
def yX4_pendingKey : MethodName := ⟨RX4, "pendingKey", "(I)I"⟩
abbrev cX4_remainingTime : ByteArray := prog_1_method_14_code
def yX4_remainingTime : MethodName := ⟨RX4, "remainingTime", "()I"⟩
abbrev cX4_pendingBinding : ByteArray := prog_1_method_15_code
def yX4_pendingBinding : MethodName := ⟨RX4, "pendingBinding", "()I"⟩
abbrev cX4_flag : ByteArray := prog_1_method_16_code
def yX4_flag : MethodName := ⟨RX4, "flag", "(I)I"⟩
abbrev cX4_stackSize : ByteArray := prog_1_method_17_code
def yX4_stackSize : MethodName := ⟨RX4, "stackSize", "()I"⟩
abbrev cX4_stackContext : ByteArray := prog_1_method_18_code
def yX4_stackContext : MethodName := ⟨RX4, "stackContext", "(I)I"⟩
abbrev cX4_startRecording : ByteArray := prog_1_method_19_code
def yX4_startRecording : MethodName := ⟨RX4, "startRecording", "(I)I"⟩
abbrev cX4_stopRecording : ByteArray := prog_1_method_20_code
def yX4_stopRecording : MethodName := ⟨RX4, "stopRecording", "()I"⟩
abbrev cX4_macroKey : ByteArray := prog_1_method_21_code
def yX4_macroKey : MethodName := ⟨RX4, "macroKey", "(II)I"⟩
abbrev cX4_reportCount : ByteArray := prog_1_method_22_code
def yX4_reportCount : MethodName := ⟨RX4, "reportCount", "()I"⟩
abbrev cX4_reportKind : ByteArray := prog_1_method_23_code
def yX4_reportKind : MethodName := ⟨RX4, "reportKind", "(I)I"⟩
abbrev cX4_reportArgument : ByteArray := prog_1_method_24_code
def yX4_reportArgument : MethodName := ⟨RX4, "reportArgument", "(I)I"⟩
abbrev cX4_processWaitingKeys : ByteArray := prog_1_method_25_code
def yX4_processWaitingKeys : MethodName := ⟨RX4, "processWaitingKeys", "()V"⟩
abbrev cX4_isExtensible : ByteArray := prog_1_method_26_code
def yX4_isExtensible : MethodName := ⟨RX4, "isExtensible", "()Z"⟩
abbrev cX4_releasePending : ByteArray := prog_1_method_27_code
def yX4_releasePending : MethodName := ⟨RX4, "releasePending", "()V"⟩
abbrev cX4_findBinding : ByteArray := prog_1_method_28_code
def yX4_findBinding : MethodName := ⟨RX4, "findBinding", "(I)I"⟩
abbrev cX4_perform : ByteArray := prog_1_method_29_code
def yX4_perform : MethodName := ⟨RX4, "perform", "(II)V"⟩
abbrev cX4_isRefused : ByteArray := prog_1_method_30_code
def yX4_isRefused : MethodName := ⟨RX4, "isRefused", "(II)Z"⟩
abbrev cX4_play : ByteArray := prog_1_method_31_code
def yX4_play : MethodName := ⟨RX4, "play", "(I)V"⟩
abbrev cX4_pushContext : ByteArray := prog_1_method_32_code
def yX4_pushContext : MethodName := ⟨RX4, "pushContext", "(I)V"⟩
abbrev cX4_popContext : ByteArray := prog_1_method_33_code
def yX4_popContext : MethodName := ⟨RX4, "popContext", "()V"⟩
abbrev cX4_isBetween : ByteArray := prog_1_method_34_code
def yX4_isBetween : MethodName := ⟨RX4, "isBetween", "(III)Z"⟩
abbrev cX4_isKey : ByteArray := prog_1_method_35_code
def yX4_isKey : MethodName := ⟨RX4, "isKey", "(I)Z"⟩
abbrev cX4_isFlag : ByteArray := prog_1_method_36_code
def yX4_isFlag : MethodName := ⟨RX4, "isFlag", "(I)Z"⟩
abbrev cX4_isContext : ByteArray := prog_1_method_37_code
def yX4_isContext : MethodName := ⟨RX4, "isContext", "(I)Z"⟩
abbrev cX4_isMacro : ByteArray := prog_1_method_38_code
def yX4_isMacro : MethodName := ⟨RX4, "isMacro", "(I)Z"⟩
abbrev cX4_isBinding : ByteArray := prog_1_method_39_code
def yX4_isBinding : MethodName := ⟨RX4, "isBinding", "(II)Z"⟩
abbrev cX4_isCondition : ByteArray := prog_1_method_40_code
def yX4_isCondition : MethodName := ⟨RX4, "isCondition", "(II)Z"⟩
abbrev cX4_isAction : ByteArray := prog_1_method_41_code
def yX4_isAction : MethodName := ⟨RX4, "isAction", "(II)Z"⟩
def RX5 : String := "KeyCommandInterpreterModel"
def TX5 : u_T := fun k => match k with
  | 0 => ("KeyCommandInterpreterModel", "flags", "[I", true)
  | 1 => ("KeyCommandInterpreterModel", "depth", "I", false)
  | 2 => ("KeyCommandInterpreterModel", "contexts", "[I", true)
  | 3 => ("KeyCommandInterpreterModel", "many", "[I", true)
  | 4 => ("KeyCommandInterpreterModel", "size", "[I", true)
  | 5 => ("KeyCommandInterpreterModel", "keys", "[I", true)
  | 6 => ("KeyCommandInterpreterModel", "flagOf", "[I", true)
  | 7 => ("KeyCommandInterpreterModel", "valueOf", "[I", true)
  | 8 => ("KeyCommandInterpreterModel", "actionOf", "[I", true)
  | 9 => ("KeyCommandInterpreterModel", "argumentOf", "[I", true)
  | 10 => ("KeyCommandInterpreterModel", "typed", "I", false)
  | 11 => ("KeyCommandInterpreterModel", "buffer", "[I", true)
  | 12 => ("KeyCommandInterpreterModel", "pending", "I", false)
  | 13 => ("KeyCommandInterpreterModel", "pend", "[I", true)
  | 14 => ("KeyCommandInterpreterModel", "timeout", "I", false)
  | 15 => ("KeyCommandInterpreterModel", "left", "I", false)
  | 16 => ("KeyCommandInterpreterModel", "tasks", "I", false)
  | 17 => ("KeyCommandInterpreterModel", "task", "[I", true)
  | 18 => ("KeyCommandInterpreterModel", "playing", "I", false)
  | 19 => ("KeyCommandInterpreterModel", "played", "I", false)
  | 20 => ("KeyCommandInterpreterModel", "recording", "I", false)
  | 21 => ("KeyCommandInterpreterModel", "macroSize", "[I", true)
  | 22 => ("KeyCommandInterpreterModel", "macro", "[I", true)
  | 23 => ("KeyCommandInterpreterModel", "reports", "I", false)
  | 24 => ("KeyCommandInterpreterModel", "kinds", "[I", true)
  | _ => ("KeyCommandInterpreterModel", "arguments", "[I", true)
def tyX5 : Nat → FieldType := fun k => match k with
  | 0 => .array .int
  | 1 => .int
  | 2 => .array .int
  | 3 => .array .int
  | 4 => .array .int
  | 5 => .array .int
  | 6 => .array .int
  | 7 => .array .int
  | 8 => .array .int
  | 9 => .array .int
  | 10 => .int
  | 11 => .array .int
  | 12 => .int
  | 13 => .array .int
  | 14 => .int
  | 15 => .int
  | 16 => .int
  | 17 => .array .int
  | 18 => .int
  | 19 => .int
  | 20 => .int
  | 21 => .array .int
  | 22 => .array .int
  | 23 => .int
  | 24 => .array .int
  | _ => .array .int
abbrev wsX50 : List Cond := u_ws RX5 TX5 26
theorem nmX5 : ∀ a, a < 26 → ∀ b, b < 26 → a ≠ b → (TX5 a).2.1 ≠ (TX5 b).2.1 := by decide +kernel
theorem tyX5_ok : ∀ k, k < 26 → parseFieldDescriptor (TX5 k).2.2.1 = some (tyX5 k) := by decide +kernel
abbrev cX5_init : ByteArray := prog_7_method_1_code
def yX5_init : MethodName := ⟨RX5, "<init>", "()V"⟩
abbrev cX5_in : ByteArray := prog_7_method_2_code
def yX5_in : MethodName := ⟨RX5, "in", "(III)Z"⟩
abbrev cX5_appendKey : ByteArray := prog_7_method_3_code
def yX5_appendKey : MethodName := ⟨RX5, "appendKey", "(I)I"⟩
abbrev cX5_clearKeys : ByteArray := prog_7_method_4_code
def yX5_clearKeys : MethodName := ⟨RX5, "clearKeys", "()I"⟩
abbrev cX5_most : ByteArray := prog_7_method_5_code
def yX5_most : MethodName := ⟨RX5, "most", "(I)I"⟩
abbrev cX5_bind : ByteArray := prog_7_method_6_code
def yX5_bind : MethodName := ⟨RX5, "bind", "(IIIII)I"⟩
abbrev cX5_isBinding : ByteArray := prog_7_method_7_code
def yX5_isBinding : MethodName := ⟨RX5, "isBinding", "(II)Z"⟩
abbrev cX5_unbind : ByteArray := prog_7_method_8_code
def yX5_unbind : MethodName := ⟨RX5, "unbind", "(II)I"⟩
abbrev cX5_bindingCount : ByteArray := prog_7_method_9_code
def yX5_bindingCount : MethodName := ⟨RX5, "bindingCount", "(I)I"⟩
abbrev cX5_shadowedBy : ByteArray := prog_7_method_10_code
def yX5_shadowedBy : MethodName := ⟨RX5, "shadowedBy", "(II)I"⟩
abbrev cX5_fits : ByteArray := prog_7_method_11_code
def yX5_fits : MethodName := ⟨RX5, "fits", "(II)Z"⟩
abbrev cX5_bound : ByteArray := prog_7_method_12_code
def yX5_bound : MethodName := ⟨RX5, "bound", "(I)I"⟩
abbrev cX5_isExtensible : ByteArray := prog_7_method_13_code
def yX5_isExtensible : MethodName := ⟨RX5, "isExtensible", "()Z"⟩
abbrev cX5_says : ByteArray := prog_7_method_14_code
def yX5_says : MethodName := ⟨RX5, "says", "(II)V"⟩
abbrev cX5_adds : ByteArray := prog_7_method_15_code
def yX5_adds : MethodName := ⟨RX5, "adds", "(I)V"⟩
abbrev cX5_plays : ByteArray := prog_7_method_16_code
def yX5_plays : MethodName := ⟨RX5, "plays", "(I)V"⟩
abbrev cX5_performs : ByteArray := prog_7_method_17_code
def yX5_performs : MethodName := ⟨RX5, "performs", "(II)V"⟩
abbrev cX5_frees : ByteArray := prog_7_method_18_code
def yX5_frees : MethodName := ⟨RX5, "frees", "(I)V"⟩
abbrev cX5_ends : ByteArray := prog_7_method_19_code
def yX5_ends : MethodName := ⟨RX5, "ends", "()V"⟩
abbrev cX5_works : ByteArray := prog_7_method_20_code
def yX5_works : MethodName := ⟨RX5, "works", "()V"⟩
abbrev cX5_press : ByteArray := prog_7_method_21_code
def yX5_press : MethodName := ⟨RX5, "press", "(I)I"⟩
abbrev cX5_tick : ByteArray := prog_7_method_22_code
def yX5_tick : MethodName := ⟨RX5, "tick", "(I)I"⟩
abbrev cX5_setTimeout : ByteArray := prog_7_method_23_code
def yX5_setTimeout : MethodName := ⟨RX5, "setTimeout", "(I)I"⟩
abbrev cX5_setFlag : ByteArray := prog_7_method_24_code
def yX5_setFlag : MethodName := ⟨RX5, "setFlag", "(II)I"⟩
abbrev cX5_pendingLength : ByteArray := prog_7_method_25_code
def yX5_pendingLength : MethodName := ⟨RX5, "pendingLength", "()I"⟩
abbrev cX5_pendingKey : ByteArray := prog_7_method_26_code
def yX5_pendingKey : MethodName := ⟨RX5, "pendingKey", "(I)I"⟩
abbrev cX5_remainingTime : ByteArray := prog_7_method_27_code
def yX5_remainingTime : MethodName := ⟨RX5, "remainingTime", "()I"⟩
abbrev cX5_pendingBinding : ByteArray := prog_7_method_28_code
def yX5_pendingBinding : MethodName := ⟨RX5, "pendingBinding", "()I"⟩
abbrev cX5_flag : ByteArray := prog_7_method_29_code
def yX5_flag : MethodName := ⟨RX5, "flag", "(I)I"⟩
abbrev cX5_stackSize : ByteArray := prog_7_method_30_code
def yX5_stackSize : MethodName := ⟨RX5, "stackSize", "()I"⟩
abbrev cX5_stackContext : ByteArray := prog_7_method_31_code
def yX5_stackContext : MethodName := ⟨RX5, "stackContext", "(I)I"⟩
abbrev cX5_startRecording : ByteArray := prog_7_method_32_code
def yX5_startRecording : MethodName := ⟨RX5, "startRecording", "(I)I"⟩
abbrev cX5_stopRecording : ByteArray := prog_7_method_33_code
def yX5_stopRecording : MethodName := ⟨RX5, "stopRecording", "()I"⟩
abbrev cX5_macroKey : ByteArray := prog_7_method_34_code
def yX5_macroKey : MethodName := ⟨RX5, "macroKey", "(II)I"⟩
abbrev cX5_reportCount : ByteArray := prog_7_method_35_code
def yX5_reportCount : MethodName := ⟨RX5, "reportCount", "()I"⟩
abbrev cX5_errorOf : ByteArray := prog_7_method_36_code
def yX5_errorOf : MethodName := ⟨RX5, "errorOf", "(I)I"⟩
abbrev cX5_reportKind : ByteArray := prog_7_method_37_code
def yX5_reportKind : MethodName := ⟨RX5, "reportKind", "(I)I"⟩
abbrev cX5_reportArgument : ByteArray := prog_7_method_38_code
def yX5_reportArgument : MethodName := ⟨RX5, "reportArgument", "(I)I"⟩
def RJx145de : String := "java/io/Serializable"
def TJx145de : u_T := fun k => match k with
  | _ => ("", "", "", false)
def tyJx145de : Nat → FieldType := fun k => match k with
  | _ => .int
abbrev wsJx145de0 : List Cond := u_ws RJx145de TJx145de 0
theorem nmJx145de : ∀ a, a < 0 → ∀ b, b < 0 → a ≠ b → (TJx145de a).2.1 ≠ (TJx145de b).2.1 := by decide +kernel
theorem tyJx145de_ok : ∀ k, k < 0 → parseFieldDescriptor (TJx145de k).2.2.1 = some (tyJx145de k) := by decide +kernel
def RJx8e188 : String := "java/lang/Cloneable"
def TJx8e188 : u_T := fun k => match k with
  | _ => ("", "", "", false)
def tyJx8e188 : Nat → FieldType := fun k => match k with
  | _ => .int
abbrev wsJx8e1880 : List Cond := u_ws RJx8e188 TJx8e188 0
theorem nmJx8e188 : ∀ a, a < 0 → ∀ b, b < 0 → a ≠ b → (TJx8e188 a).2.1 ≠ (TJx8e188 b).2.1 := by decide +kernel
theorem tyJx8e188_ok : ∀ k, k < 0 → parseFieldDescriptor (TJx8e188 k).2.2.1 = some (tyJx8e188 k) := by decide +kernel
def RJxab1ab : String := "java/lang/Iterable"
def TJxab1ab : u_T := fun k => match k with
  | _ => ("", "", "", false)
def tyJxab1ab : Nat → FieldType := fun k => match k with
  | _ => .int
abbrev wsJxab1ab0 : List Cond := u_ws RJxab1ab TJxab1ab 0
theorem nmJxab1ab : ∀ a, a < 0 → ∀ b, b < 0 → a ≠ b → (TJxab1ab a).2.1 ≠ (TJxab1ab b).2.1 := by decide +kernel
theorem tyJxab1ab_ok : ∀ k, k < 0 → parseFieldDescriptor (TJxab1ab k).2.2.1 = some (tyJxab1ab k) := by decide +kernel
def RJ9 : String := "java/lang/Math"
def TJ9 : u_T := fun k => match k with
  | _ => ("", "", "", false)
def tyJ9 : Nat → FieldType := fun k => match k with
  | _ => .int
abbrev wsJ90 : List Cond := u_ws RJ9 TJ9 0
theorem nmJ9 : ∀ a, a < 0 → ∀ b, b < 0 → a ≠ b → (TJ9 a).2.1 ≠ (TJ9 b).2.1 := by decide +kernel
theorem tyJ9_ok : ∀ k, k < 0 → parseFieldDescriptor (TJ9 k).2.2.1 = some (tyJ9 k) := by decide +kernel
abbrev cJ9_floorMod_7cf53 : ByteArray := prog_11_method_50_code
def yJ9_floorMod_7cf53 : MethodName := ⟨RJ9, "floorMod", "(II)I"⟩
abbrev cJ9_max_7cf53 : ByteArray := prog_11_method_65_code
def yJ9_max_7cf53 : MethodName := ⟨RJ9, "max", "(II)I"⟩
abbrev cJ9_min_7cf53 : ByteArray := prog_11_method_69_code
def yJ9_min_7cf53 : MethodName := ⟨RJ9, "min", "(II)I"⟩
def RJ10 : String := "java/lang/System"
def TJ10 : u_T := fun k => match k with
  | _ => ("", "", "", false)
def tyJ10 : Nat → FieldType := fun k => match k with
  | _ => .int
abbrev wsJ100 : List Cond := u_ws RJ10 TJ10 0
theorem nmJ10 : ∀ a, a < 0 → ∀ b, b < 0 → a ≠ b → (TJ10 a).2.1 ≠ (TJ10 b).2.1 := by decide +kernel
theorem tyJ10_ok : ∀ k, k < 0 → parseFieldDescriptor (TJ10 k).2.2.1 = some (tyJ10 k) := by decide +kernel
def RJxa1e45 : String := "java/util/AbstractCollection"
def TJxa1e45 : u_T := fun k => match k with
  | _ => ("", "", "", false)
def tyJxa1e45 : Nat → FieldType := fun k => match k with
  | _ => .int
abbrev wsJxa1e450 : List Cond := u_ws RJxa1e45 TJxa1e45 0
theorem nmJxa1e45 : ∀ a, a < 0 → ∀ b, b < 0 → a ≠ b → (TJxa1e45 a).2.1 ≠ (TJxa1e45 b).2.1 := by decide +kernel
theorem tyJxa1e45_ok : ∀ k, k < 0 → parseFieldDescriptor (TJxa1e45 k).2.2.1 = some (tyJxa1e45 k) := by decide +kernel
abbrev cJxa1e45_init_da8c8 : ByteArray := prog_13_method_1_code
def yJxa1e45_init_da8c8 : MethodName := ⟨RJxa1e45, "<init>", "()V"⟩
def RJxc12de : String := "java/util/AbstractList"
def TJxc12de : u_T := fun k => match k with
  | _ => ("", "", "", false)
def tyJxc12de : Nat → FieldType := fun k => match k with
  | _ => .int
abbrev wsJxc12de0 : List Cond := u_ws RJxc12de TJxc12de 0
theorem nmJxc12de : ∀ a, a < 0 → ∀ b, b < 0 → a ≠ b → (TJxc12de a).2.1 ≠ (TJxc12de b).2.1 := by decide +kernel
theorem tyJxc12de_ok : ∀ k, k < 0 → parseFieldDescriptor (TJxc12de k).2.2.1 = some (tyJxc12de k) := by decide +kernel
abbrev cJxc12de_init_da8c8 : ByteArray := prog_14_method_1_code
def yJxc12de_init_da8c8 : MethodName := ⟨RJxc12de, "<init>", "()V"⟩
def RJx4a65c : String := "java/util/ArrayList"
def TJx4a65c : u_T := fun k => match k with
  | 0 => ("java/util/AbstractList", "modCount", "I", false)
  | 1 => ("java/util/ArrayList", "elementData", "[Ljava/lang/Object;", false)
  | _ => ("java/util/ArrayList", "size", "I", false)
def tyJx4a65c : Nat → FieldType := fun k => match k with
  | 0 => .int
  | 1 => .array (.object "java/lang/Object")
  | _ => .int
abbrev wsJx4a65c0 : List Cond := u_ws RJx4a65c TJx4a65c 3
theorem nmJx4a65c : ∀ a, a < 3 → ∀ b, b < 3 → a ≠ b → (TJx4a65c a).2.1 ≠ (TJx4a65c b).2.1 := by decide +kernel
theorem tyJx4a65c_ok : ∀ k, k < 3 → parseFieldDescriptor (TJx4a65c k).2.2.1 = some (tyJx4a65c k) := by decide +kernel
abbrev cJx4a65c_init_da8c8 : ByteArray := prog_15_method_2_code
def yJx4a65c_init_da8c8 : MethodName := ⟨RJx4a65c, "<init>", "()V"⟩
abbrev cJx4a65c_grow_92f84 : ByteArray := prog_15_method_6_code
def yJx4a65c_grow_92f84 : MethodName := ⟨RJx4a65c, "grow", "(I)[Ljava/lang/Object;"⟩
abbrev cJx4a65c_grow_d5877 : ByteArray := prog_15_method_7_code
def yJx4a65c_grow_d5877 : MethodName := ⟨RJx4a65c, "grow", "()[Ljava/lang/Object;"⟩
abbrev cJx4a65c_size_8abf5 : ByteArray := prog_15_method_8_code
def yJx4a65c_size_8abf5 : MethodName := ⟨RJx4a65c, "size", "()I"⟩
abbrev cJx4a65c_elementData_915e3 : ByteArray := prog_15_method_18_code
def yJx4a65c_elementData_915e3 : MethodName := ⟨RJx4a65c, "elementData", "(I)Ljava/lang/Object;"⟩
abbrev cJx4a65c_get_915e3 : ByteArray := prog_15_method_20_code
def yJx4a65c_get_915e3 : MethodName := ⟨RJx4a65c, "get", "(I)Ljava/lang/Object;"⟩
abbrev cJx4a65c_add_72be8 : ByteArray := prog_15_method_24_code
def yJx4a65c_add_72be8 : MethodName := ⟨RJx4a65c, "add", "(Ljava/lang/Object;[Ljava/lang/Object;I)V"⟩
abbrev cJx4a65c_add_9ea2d : ByteArray := prog_15_method_25_code
def yJx4a65c_add_9ea2d : MethodName := ⟨RJx4a65c, "add", "(Ljava/lang/Object;)Z"⟩
abbrev cJx4a65c_remove_915e3 : ByteArray := prog_15_method_29_code
def yJx4a65c_remove_915e3 : MethodName := ⟨RJx4a65c, "remove", "(I)Ljava/lang/Object;"⟩
abbrev cJx4a65c_fastRemove_b59b0 : ByteArray := prog_15_method_39_code
def yJx4a65c_fastRemove_b59b0 : MethodName := ⟨RJx4a65c, "fastRemove", "([Ljava/lang/Object;I)V"⟩
def RJ7 : String := "java/util/Arrays"
def TJ7 : u_T := fun k => match k with
  | _ => ("", "", "", false)
def tyJ7 : Nat → FieldType := fun k => match k with
  | _ => .int
abbrev wsJ70 : List Cond := u_ws RJ7 TJ7 0
theorem nmJ7 : ∀ a, a < 0 → ∀ b, b < 0 → a ≠ b → (TJ7 a).2.1 ≠ (TJ7 b).2.1 := by decide +kernel
theorem tyJ7_ok : ∀ k, k < 0 → parseFieldDescriptor (TJ7 k).2.2.1 = some (tyJ7 k) := by decide +kernel
abbrev cJ7_copyOf_1904c : ByteArray := prog_16_method_119_code
def yJ7_copyOf_1904c : MethodName := ⟨RJ7, "copyOf", "([Ljava/lang/Object;I)[Ljava/lang/Object;"⟩
abbrev cJ7_copyOf_6403c : ByteArray := prog_16_method_120_code
def yJ7_copyOf_6403c : MethodName := ⟨RJ7, "copyOf", "([Ljava/lang/Object;ILjava/lang/Class;)[Ljava/lang/Object;"⟩
def RJx5ef63 : String := "java/util/Collection"
def TJx5ef63 : u_T := fun k => match k with
  | _ => ("", "", "", false)
def tyJx5ef63 : Nat → FieldType := fun k => match k with
  | _ => .int
abbrev wsJx5ef630 : List Cond := u_ws RJx5ef63 TJx5ef63 0
theorem nmJx5ef63 : ∀ a, a < 0 → ∀ b, b < 0 → a ≠ b → (TJx5ef63 a).2.1 ≠ (TJx5ef63 b).2.1 := by decide +kernel
theorem tyJx5ef63_ok : ∀ k, k < 0 → parseFieldDescriptor (TJx5ef63 k).2.2.1 = some (tyJx5ef63 k) := by decide +kernel
def RJxbd725 : String := "java/util/List"
def TJxbd725 : u_T := fun k => match k with
  | _ => ("", "", "", false)
def tyJxbd725 : Nat → FieldType := fun k => match k with
  | _ => .int
abbrev wsJxbd7250 : List Cond := u_ws RJxbd725 TJxbd725 0
theorem nmJxbd725 : ∀ a, a < 0 → ∀ b, b < 0 → a ≠ b → (TJxbd725 a).2.1 ≠ (TJxbd725 b).2.1 := by decide +kernel
theorem tyJxbd725_ok : ∀ k, k < 0 → parseFieldDescriptor (TJxbd725 k).2.2.1 = some (tyJxbd725 k) := by decide +kernel
def RJ15 : String := "java/util/Objects"
def TJ15 : u_T := fun k => match k with
  | _ => ("", "", "", false)
def tyJ15 : Nat → FieldType := fun k => match k with
  | _ => .int
abbrev wsJ150 : List Cond := u_ws RJ15 TJ15 0
theorem nmJ15 : ∀ a, a < 0 → ∀ b, b < 0 → a ≠ b → (TJ15 a).2.1 ≠ (TJ15 b).2.1 := by decide +kernel
theorem tyJ15_ok : ∀ k, k < 0 → parseFieldDescriptor (TJ15 k).2.2.1 = some (tyJ15 k) := by decide +kernel
abbrev cJ15_checkIndex_7cf53 : ByteArray := prog_19_method_17_code
def yJ15_checkIndex_7cf53 : MethodName := ⟨RJ15, "checkIndex", "(II)I"⟩
def RJxf0a74 : String := "java/util/RandomAccess"
def TJxf0a74 : u_T := fun k => match k with
  | _ => ("", "", "", false)
def tyJxf0a74 : Nat → FieldType := fun k => match k with
  | _ => .int
abbrev wsJxf0a740 : List Cond := u_ws RJxf0a74 TJxf0a74 0
theorem nmJxf0a74 : ∀ a, a < 0 → ∀ b, b < 0 → a ≠ b → (TJxf0a74 a).2.1 ≠ (TJxf0a74 b).2.1 := by decide +kernel
theorem tyJxf0a74_ok : ∀ k, k < 0 → parseFieldDescriptor (TJxf0a74 k).2.2.1 = some (tyJxf0a74 k) := by decide +kernel
def RJxa66e6 : String := "java/util/SequencedCollection"
def TJxa66e6 : u_T := fun k => match k with
  | _ => ("", "", "", false)
def tyJxa66e6 : Nat → FieldType := fun k => match k with
  | _ => .int
abbrev wsJxa66e60 : List Cond := u_ws RJxa66e6 TJxa66e6 0
theorem nmJxa66e6 : ∀ a, a < 0 → ∀ b, b < 0 → a ≠ b → (TJxa66e6 a).2.1 ≠ (TJxa66e6 b).2.1 := by decide +kernel
theorem tyJxa66e6_ok : ∀ k, k < 0 → parseFieldDescriptor (TJxa66e6 k).2.2.1 = some (tyJxa66e6 k) := by decide +kernel
def RJ8 : String := "jdk/internal/util/ArraysSupport"
def TJ8 : u_T := fun k => match k with
  | _ => ("", "", "", false)
def tyJ8 : Nat → FieldType := fun k => match k with
  | _ => .int
abbrev wsJ80 : List Cond := u_ws RJ8 TJ8 0
theorem nmJ8 : ∀ a, a < 0 → ∀ b, b < 0 → a ≠ b → (TJ8 a).2.1 ≠ (TJ8 b).2.1 := by decide +kernel
theorem tyJ8_ok : ∀ k, k < 0 → parseFieldDescriptor (TJ8 k).2.2.1 = some (tyJ8 k) := by decide +kernel
abbrev cJ8_newLength_cabcc : ByteArray := prog_22_method_27_code
def yJ8_newLength_cabcc : MethodName := ⟨RJ8, "newLength", "(III)I"⟩
abbrev cJ8_hugeLength_7cf53 : ByteArray := prog_22_method_28_code
def yJ8_hugeLength_7cf53 : MethodName := ⟨RJ8, "hugeLength", "(II)I"⟩
def RJ3 : String := "jdk/internal/util/Preconditions"
def TJ3 : u_T := fun k => match k with
  | _ => ("", "", "", false)
def tyJ3 : Nat → FieldType := fun k => match k with
  | _ => .int
abbrev wsJ30 : List Cond := u_ws RJ3 TJ3 0
theorem nmJ3 : ∀ a, a < 0 → ∀ b, b < 0 → a ≠ b → (TJ3 a).2.1 ≠ (TJ3 b).2.1 := by decide +kernel
theorem tyJ3_ok : ∀ k, k < 0 → parseFieldDescriptor (TJ3 k).2.2.1 = some (tyJ3 k) := by decide +kernel
abbrev cJ3_checkIndex_8e157 : ByteArray := prog_23_method_11_code
def yJ3_checkIndex_8e157 : MethodName := ⟨RJ3, "checkIndex", "(IILjava/util/function/BiFunction;)I"⟩
def RL : String := "KeyCommandInterpreterLaw"
abbrev cL_law : ByteArray := code
def yL_law : MethodName := ⟨RL, "law", "([I)Z"⟩
end
section
theorem dX0_init_0 : decode cX0_init 0 = .ok (.aload_n 0, 1) := by decide +kernel
theorem dX0_init_1 : decode cX0_init 1 = .ok (.invokespecial 3, 3) := by decide +kernel
theorem dX0_init_4 : decode cX0_init 4 = .ok (.aload_n 0, 1) := by decide +kernel
theorem dX0_init_5 : decode cX0_init 5 = .ok (.aload_n 1, 1) := by decide +kernel
theorem dX0_init_6 : decode cX0_init 6 = .ok (.putfield 9, 3) := by decide +kernel
theorem dX0_init_9 : decode cX0_init 9 = .ok (.aload_n 0, 1) := by decide +kernel
theorem dX0_init_10 : decode cX0_init 10 = .ok (.iload_n 2, 1) := by decide +kernel
theorem dX0_init_11 : decode cX0_init 11 = .ok (.putfield 15, 3) := by decide +kernel
theorem dX0_init_14 : decode cX0_init 14 = .ok (.aload_n 0, 1) := by decide +kernel
theorem dX0_init_15 : decode cX0_init 15 = .ok (.iload_n 3, 1) := by decide +kernel
theorem dX0_init_16 : decode cX0_init 16 = .ok (.putfield 19, 3) := by decide +kernel
theorem dX0_init_19 : decode cX0_init 19 = .ok (.aload_n 0, 1) := by decide +kernel
theorem dX0_init_20 : decode cX0_init 20 = .ok (.iload 4, 2) := by decide +kernel
theorem dX0_init_22 : decode cX0_init 22 = .ok (.putfield 22, 3) := by decide +kernel
theorem dX0_init_25 : decode cX0_init 25 = .ok (.aload_n 0, 1) := by decide +kernel
theorem dX0_init_26 : decode cX0_init 26 = .ok (.iload 5, 2) := by decide +kernel
theorem dX0_init_28 : decode cX0_init 28 = .ok (.putfield 25, 3) := by decide +kernel
theorem dX0_init_31 : decode cX0_init 31 = .ok (.return_, 1) := by decide +kernel
theorem dX0_holds_0 : decode cX0_holds 0 = .ok (.aload_n 0, 1) := by decide +kernel
theorem dX0_holds_1 : decode cX0_holds 1 = .ok (.getfield 15, 3) := by decide +kernel
theorem dX0_holds_4 : decode cX0_holds 4 = .ok (.ifCond .lt 12, 3) := by decide +kernel
theorem dX0_holds_7 : decode cX0_holds 7 = .ok (.aload_n 0, 1) := by decide +kernel
theorem dX0_holds_8 : decode cX0_holds 8 = .ok (.getfield 15, 3) := by decide +kernel
theorem dX0_holds_11 : decode cX0_holds 11 = .ok (.aload_n 1, 1) := by decide +kernel
theorem dX0_holds_12 : decode cX0_holds 12 = .ok (.arraylength, 1) := by decide +kernel
theorem dX0_holds_13 : decode cX0_holds 13 = .ok (.if_icmp .lt 5, 3) := by decide +kernel
theorem dX0_holds_16 : decode cX0_holds 16 = .ok (.iconst 1, 1) := by decide +kernel
theorem dX0_holds_17 : decode cX0_holds 17 = .ok (.ireturn, 1) := by decide +kernel
theorem dX0_holds_18 : decode cX0_holds 18 = .ok (.aload_n 1, 1) := by decide +kernel
theorem dX0_holds_19 : decode cX0_holds 19 = .ok (.aload_n 0, 1) := by decide +kernel
theorem dX0_holds_20 : decode cX0_holds 20 = .ok (.getfield 15, 3) := by decide +kernel
theorem dX0_holds_23 : decode cX0_holds 23 = .ok (.iaload, 1) := by decide +kernel
theorem dX0_holds_24 : decode cX0_holds 24 = .ok (.aload_n 0, 1) := by decide +kernel
theorem dX0_holds_25 : decode cX0_holds 25 = .ok (.getfield 19, 3) := by decide +kernel
theorem dX0_holds_28 : decode cX0_holds 28 = .ok (.if_icmp .ne 7, 3) := by decide +kernel
theorem dX0_holds_31 : decode cX0_holds 31 = .ok (.iconst 1, 1) := by decide +kernel
theorem dX0_holds_32 : decode cX0_holds 32 = .ok (.goto 4, 3) := by decide +kernel
theorem dX0_holds_35 : decode cX0_holds 35 = .ok (.iconst 0, 1) := by decide +kernel
theorem dX0_holds_36 : decode cX0_holds 36 = .ok (.ireturn, 1) := by decide +kernel
theorem dX0_isFor_0 : decode cX0_isFor 0 = .ok (.aload_n 0, 1) := by decide +kernel
theorem dX0_isFor_1 : decode cX0_isFor 1 = .ok (.getfield 9, 3) := by decide +kernel
theorem dX0_isFor_4 : decode cX0_isFor 4 = .ok (.invokevirtual 28, 3) := by decide +kernel
theorem dX0_isFor_7 : decode cX0_isFor 7 = .ok (.iload_n 2, 1) := by decide +kernel
theorem dX0_isFor_8 : decode cX0_isFor 8 = .ok (.if_icmp .ne 19, 3) := by decide +kernel
theorem dX0_isFor_11 : decode cX0_isFor 11 = .ok (.aload_n 0, 1) := by decide +kernel
theorem dX0_isFor_12 : decode cX0_isFor 12 = .ok (.getfield 9, 3) := by decide +kernel
theorem dX0_isFor_15 : decode cX0_isFor 15 = .ok (.aload_n 1, 1) := by decide +kernel
theorem dX0_isFor_16 : decode cX0_isFor 16 = .ok (.iload_n 2, 1) := by decide +kernel
theorem dX0_isFor_17 : decode cX0_isFor 17 = .ok (.invokevirtual 34, 3) := by decide +kernel
theorem dX0_isFor_20 : decode cX0_isFor 20 = .ok (.ifCond .eq 7, 3) := by decide +kernel
theorem dX0_isFor_23 : decode cX0_isFor 23 = .ok (.iconst 1, 1) := by decide +kernel
theorem dX0_isFor_24 : decode cX0_isFor 24 = .ok (.goto 4, 3) := by decide +kernel
theorem dX0_isFor_27 : decode cX0_isFor 27 = .ok (.iconst 0, 1) := by decide +kernel
theorem dX0_isFor_28 : decode cX0_isFor 28 = .ok (.ireturn, 1) := by decide +kernel
theorem dX0_isLongerThan_0 : decode cX0_isLongerThan 0 = .ok (.aload_n 0, 1) := by decide +kernel
theorem dX0_isLongerThan_1 : decode cX0_isLongerThan 1 = .ok (.getfield 9, 3) := by decide +kernel
theorem dX0_isLongerThan_4 : decode cX0_isLongerThan 4 = .ok (.invokevirtual 28, 3) := by decide +kernel
theorem dX0_isLongerThan_7 : decode cX0_isLongerThan 7 = .ok (.aload_n 1, 1) := by decide +kernel
theorem dX0_isLongerThan_8 : decode cX0_isLongerThan 8 = .ok (.invokevirtual 28, 3) := by decide +kernel
theorem dX0_isLongerThan_11 : decode cX0_isLongerThan 11 = .ok (.if_icmp .le 22, 3) := by decide +kernel
theorem dX0_isLongerThan_14 : decode cX0_isLongerThan 14 = .ok (.aload_n 0, 1) := by decide +kernel
theorem dX0_isLongerThan_15 : decode cX0_isLongerThan 15 = .ok (.getfield 9, 3) := by decide +kernel
theorem dX0_isLongerThan_18 : decode cX0_isLongerThan 18 = .ok (.aload_n 1, 1) := by decide +kernel
theorem dX0_isLongerThan_19 : decode cX0_isLongerThan 19 = .ok (.aload_n 1, 1) := by decide +kernel
theorem dX0_isLongerThan_20 : decode cX0_isLongerThan 20 = .ok (.invokevirtual 28, 3) := by decide +kernel
theorem dX0_isLongerThan_23 : decode cX0_isLongerThan 23 = .ok (.invokevirtual 34, 3) := by decide +kernel
theorem dX0_isLongerThan_26 : decode cX0_isLongerThan 26 = .ok (.ifCond .eq 7, 3) := by decide +kernel
theorem dX0_isLongerThan_29 : decode cX0_isLongerThan 29 = .ok (.iconst 1, 1) := by decide +kernel
theorem dX0_isLongerThan_30 : decode cX0_isLongerThan 30 = .ok (.goto 4, 3) := by decide +kernel
theorem dX0_isLongerThan_33 : decode cX0_isLongerThan 33 = .ok (.iconst 0, 1) := by decide +kernel
theorem dX0_isLongerThan_34 : decode cX0_isLongerThan 34 = .ok (.ireturn, 1) := by decide +kernel
theorem dX0_shadows_0 : decode cX0_shadows 0 = .ok (.aload_n 0, 1) := by decide +kernel
theorem dX0_shadows_1 : decode cX0_shadows 1 = .ok (.aload_n 1, 1) := by decide +kernel
theorem dX0_shadows_2 : decode cX0_shadows 2 = .ok (.getfield 9, 3) := by decide +kernel
theorem dX0_shadows_5 : decode cX0_shadows 5 = .ok (.aload_n 1, 1) := by decide +kernel
theorem dX0_shadows_6 : decode cX0_shadows 6 = .ok (.getfield 9, 3) := by decide +kernel
theorem dX0_shadows_9 : decode cX0_shadows 9 = .ok (.invokevirtual 28, 3) := by decide +kernel
theorem dX0_shadows_12 : decode cX0_shadows 12 = .ok (.invokevirtual 38, 3) := by decide +kernel
theorem dX0_shadows_15 : decode cX0_shadows 15 = .ok (.ifCond .ne 5, 3) := by decide +kernel
theorem dX0_shadows_18 : decode cX0_shadows 18 = .ok (.iconst 0, 1) := by decide +kernel
theorem dX0_shadows_19 : decode cX0_shadows 19 = .ok (.ireturn, 1) := by decide +kernel
theorem dX0_shadows_20 : decode cX0_shadows 20 = .ok (.aload_n 0, 1) := by decide +kernel
theorem dX0_shadows_21 : decode cX0_shadows 21 = .ok (.getfield 15, 3) := by decide +kernel
theorem dX0_shadows_24 : decode cX0_shadows 24 = .ok (.iconst (-1), 1) := by decide +kernel
theorem dX0_shadows_25 : decode cX0_shadows 25 = .ok (.if_icmp .eq 25, 3) := by decide +kernel
theorem dX0_shadows_28 : decode cX0_shadows 28 = .ok (.aload_n 0, 1) := by decide +kernel
theorem dX0_shadows_29 : decode cX0_shadows 29 = .ok (.getfield 15, 3) := by decide +kernel
theorem dX0_shadows_32 : decode cX0_shadows 32 = .ok (.aload_n 1, 1) := by decide +kernel
theorem dX0_shadows_33 : decode cX0_shadows 33 = .ok (.getfield 15, 3) := by decide +kernel
theorem dX0_shadows_36 : decode cX0_shadows 36 = .ok (.if_icmp .ne 18, 3) := by decide +kernel
theorem dX0_shadows_39 : decode cX0_shadows 39 = .ok (.aload_n 0, 1) := by decide +kernel
theorem dX0_shadows_40 : decode cX0_shadows 40 = .ok (.getfield 19, 3) := by decide +kernel
theorem dX0_shadows_43 : decode cX0_shadows 43 = .ok (.aload_n 1, 1) := by decide +kernel
theorem dX0_shadows_44 : decode cX0_shadows 44 = .ok (.getfield 19, 3) := by decide +kernel
theorem dX0_shadows_47 : decode cX0_shadows 47 = .ok (.if_icmp .ne 7, 3) := by decide +kernel
theorem dX0_shadows_50 : decode cX0_shadows 50 = .ok (.iconst 1, 1) := by decide +kernel
theorem dX0_shadows_51 : decode cX0_shadows 51 = .ok (.goto 4, 3) := by decide +kernel
theorem dX0_shadows_54 : decode cX0_shadows 54 = .ok (.iconst 0, 1) := by decide +kernel
theorem dX0_shadows_55 : decode cX0_shadows 55 = .ok (.ireturn, 1) := by decide +kernel
theorem dX1_init_0 : decode cX1_init 0 = .ok (.aload_n 0, 1) := by decide +kernel
theorem dX1_init_1 : decode cX1_init 1 = .ok (.invokespecial 1, 3) := by decide +kernel
theorem dX1_init_4 : decode cX1_init 4 = .ok (.aload_n 0, 1) := by decide +kernel
theorem dX1_init_5 : decode cX1_init 5 = .ok (.iload_n 1, 1) := by decide +kernel
theorem dX1_init_6 : decode cX1_init 6 = .ok (.putfield 7, 3) := by decide +kernel
theorem dX1_init_9 : decode cX1_init 9 = .ok (.aload_n 0, 1) := by decide +kernel
theorem dX1_init_10 : decode cX1_init 10 = .ok (.new 13, 3) := by decide +kernel
theorem dX1_init_13 : decode cX1_init 13 = .ok (.dup, 1) := by decide +kernel
theorem dX1_init_14 : decode cX1_init 14 = .ok (.invokespecial 15, 3) := by decide +kernel
theorem dX1_init_17 : decode cX1_init 17 = .ok (.putfield 16, 3) := by decide +kernel
theorem dX1_init_20 : decode cX1_init 20 = .ok (.return_, 1) := by decide +kernel
theorem dX2_init_0 : decode cX2_init 0 = .ok (.aload_n 0, 1) := by decide +kernel
theorem dX2_init_1 : decode cX2_init 1 = .ok (.invokespecial 3, 3) := by decide +kernel
theorem dX2_init_4 : decode cX2_init 4 = .ok (.aload_n 0, 1) := by decide +kernel
theorem dX2_init_5 : decode cX2_init 5 = .ok (.bipush 40, 2) := by decide +kernel
theorem dX2_init_7 : decode cX2_init 7 = .ok (.newarray .int, 2) := by decide +kernel
theorem dX2_init_9 : decode cX2_init 9 = .ok (.putfield 9, 3) := by decide +kernel
theorem dX2_init_12 : decode cX2_init 12 = .ok (.aload_n 0, 1) := by decide +kernel
theorem dX2_init_13 : decode cX2_init 13 = .ok (.bipush 40, 2) := by decide +kernel
theorem dX2_init_15 : decode cX2_init 15 = .ok (.newarray .int, 2) := by decide +kernel
theorem dX2_init_17 : decode cX2_init 17 = .ok (.putfield 15, 3) := by decide +kernel
theorem dX2_init_20 : decode cX2_init 20 = .ok (.aload_n 0, 1) := by decide +kernel
theorem dX2_init_21 : decode cX2_init 21 = .ok (.iconst 0, 1) := by decide +kernel
theorem dX2_init_22 : decode cX2_init 22 = .ok (.putfield 18, 3) := by decide +kernel
theorem dX2_init_25 : decode cX2_init 25 = .ok (.return_, 1) := by decide +kernel
theorem dX2_add_0 : decode cX2_add 0 = .ok (.aload_n 0, 1) := by decide +kernel
theorem dX2_add_1 : decode cX2_add 1 = .ok (.getfield 18, 3) := by decide +kernel
theorem dX2_add_4 : decode cX2_add 4 = .ok (.bipush 40, 2) := by decide +kernel
theorem dX2_add_6 : decode cX2_add 6 = .ok (.invokestatic 22, 3) := by decide +kernel
theorem dX2_add_9 : decode cX2_add 9 = .ok (.istore_n 3, 1) := by decide +kernel
theorem dX2_add_10 : decode cX2_add 10 = .ok (.aload_n 0, 1) := by decide +kernel
theorem dX2_add_11 : decode cX2_add 11 = .ok (.getfield 9, 3) := by decide +kernel
theorem dX2_add_14 : decode cX2_add 14 = .ok (.iload_n 3, 1) := by decide +kernel
theorem dX2_add_15 : decode cX2_add 15 = .ok (.iload_n 1, 1) := by decide +kernel
theorem dX2_add_16 : decode cX2_add 16 = .ok (.iastore, 1) := by decide +kernel
theorem dX2_add_17 : decode cX2_add 17 = .ok (.aload_n 0, 1) := by decide +kernel
theorem dX2_add_18 : decode cX2_add 18 = .ok (.getfield 15, 3) := by decide +kernel
theorem dX2_add_21 : decode cX2_add 21 = .ok (.iload_n 3, 1) := by decide +kernel
theorem dX2_add_22 : decode cX2_add 22 = .ok (.iload_n 2, 1) := by decide +kernel
theorem dX2_add_23 : decode cX2_add 23 = .ok (.iastore, 1) := by decide +kernel
theorem dX2_add_24 : decode cX2_add 24 = .ok (.aload_n 0, 1) := by decide +kernel
theorem dX2_add_25 : decode cX2_add 25 = .ok (.dup, 1) := by decide +kernel
theorem dX2_add_26 : decode cX2_add 26 = .ok (.getfield 18, 3) := by decide +kernel
theorem dX2_add_29 : decode cX2_add 29 = .ok (.iconst 1, 1) := by decide +kernel
theorem dX2_add_30 : decode cX2_add 30 = .ok (.iadd, 1) := by decide +kernel
theorem dX2_add_31 : decode cX2_add 31 = .ok (.putfield 18, 3) := by decide +kernel
theorem dX2_add_34 : decode cX2_add 34 = .ok (.return_, 1) := by decide +kernel
theorem dX2_kindOf_0 : decode cX2_kindOf 0 = .ok (.aload_n 0, 1) := by decide +kernel
theorem dX2_kindOf_1 : decode cX2_kindOf 1 = .ok (.iload_n 1, 1) := by decide +kernel
theorem dX2_kindOf_2 : decode cX2_kindOf 2 = .ok (.invokevirtual 28, 3) := by decide +kernel
theorem dX2_kindOf_5 : decode cX2_kindOf 5 = .ok (.ifCond .eq 17, 3) := by decide +kernel
theorem dX2_kindOf_8 : decode cX2_kindOf 8 = .ok (.aload_n 0, 1) := by decide +kernel
theorem dX2_kindOf_9 : decode cX2_kindOf 9 = .ok (.getfield 9, 3) := by decide +kernel
theorem dX2_kindOf_12 : decode cX2_kindOf 12 = .ok (.iload_n 1, 1) := by decide +kernel
theorem dX2_kindOf_13 : decode cX2_kindOf 13 = .ok (.bipush 40, 2) := by decide +kernel
theorem dX2_kindOf_15 : decode cX2_kindOf 15 = .ok (.invokestatic 22, 3) := by decide +kernel
theorem dX2_kindOf_18 : decode cX2_kindOf 18 = .ok (.iaload, 1) := by decide +kernel
theorem dX2_kindOf_19 : decode cX2_kindOf 19 = .ok (.goto 5, 3) := by decide +kernel
theorem dX2_kindOf_22 : decode cX2_kindOf 22 = .ok (.bipush (-4), 2) := by decide +kernel
theorem dX2_kindOf_24 : decode cX2_kindOf 24 = .ok (.ireturn, 1) := by decide +kernel
theorem dX2_argumentOf_0 : decode cX2_argumentOf 0 = .ok (.aload_n 0, 1) := by decide +kernel
theorem dX2_argumentOf_1 : decode cX2_argumentOf 1 = .ok (.iload_n 1, 1) := by decide +kernel
theorem dX2_argumentOf_2 : decode cX2_argumentOf 2 = .ok (.invokevirtual 28, 3) := by decide +kernel
theorem dX2_argumentOf_5 : decode cX2_argumentOf 5 = .ok (.ifCond .eq 17, 3) := by decide +kernel
theorem dX2_argumentOf_8 : decode cX2_argumentOf 8 = .ok (.aload_n 0, 1) := by decide +kernel
theorem dX2_argumentOf_9 : decode cX2_argumentOf 9 = .ok (.getfield 15, 3) := by decide +kernel
theorem dX2_argumentOf_12 : decode cX2_argumentOf 12 = .ok (.iload_n 1, 1) := by decide +kernel
theorem dX2_argumentOf_13 : decode cX2_argumentOf 13 = .ok (.bipush 40, 2) := by decide +kernel
theorem dX2_argumentOf_15 : decode cX2_argumentOf 15 = .ok (.invokestatic 22, 3) := by decide +kernel
theorem dX2_argumentOf_18 : decode cX2_argumentOf 18 = .ok (.iaload, 1) := by decide +kernel
theorem dX2_argumentOf_19 : decode cX2_argumentOf 19 = .ok (.goto 5, 3) := by decide +kernel
theorem dX2_argumentOf_22 : decode cX2_argumentOf 22 = .ok (.bipush (-4), 2) := by decide +kernel
theorem dX2_argumentOf_24 : decode cX2_argumentOf 24 = .ok (.ireturn, 1) := by decide +kernel
theorem dX2_isReadable_0 : decode cX2_isReadable 0 = .ok (.iload_n 1, 1) := by decide +kernel
theorem dX2_isReadable_1 : decode cX2_isReadable 1 = .ok (.ifCond .lt 26, 3) := by decide +kernel
theorem dX2_isReadable_4 : decode cX2_isReadable 4 = .ok (.iload_n 1, 1) := by decide +kernel
theorem dX2_isReadable_5 : decode cX2_isReadable 5 = .ok (.aload_n 0, 1) := by decide +kernel
theorem dX2_isReadable_6 : decode cX2_isReadable 6 = .ok (.getfield 18, 3) := by decide +kernel
theorem dX2_isReadable_9 : decode cX2_isReadable 9 = .ok (.if_icmp .ge 18, 3) := by decide +kernel
theorem dX2_isReadable_12 : decode cX2_isReadable 12 = .ok (.iload_n 1, 1) := by decide +kernel
theorem dX2_isReadable_13 : decode cX2_isReadable 13 = .ok (.aload_n 0, 1) := by decide +kernel
theorem dX2_isReadable_14 : decode cX2_isReadable 14 = .ok (.getfield 18, 3) := by decide +kernel
theorem dX2_isReadable_17 : decode cX2_isReadable 17 = .ok (.bipush 40, 2) := by decide +kernel
theorem dX2_isReadable_19 : decode cX2_isReadable 19 = .ok (.isub, 1) := by decide +kernel
theorem dX2_isReadable_20 : decode cX2_isReadable 20 = .ok (.if_icmp .lt 7, 3) := by decide +kernel
theorem dX2_isReadable_23 : decode cX2_isReadable 23 = .ok (.iconst 1, 1) := by decide +kernel
theorem dX2_isReadable_24 : decode cX2_isReadable 24 = .ok (.goto 4, 3) := by decide +kernel
theorem dX2_isReadable_27 : decode cX2_isReadable 27 = .ok (.iconst 0, 1) := by decide +kernel
theorem dX2_isReadable_28 : decode cX2_isReadable 28 = .ok (.ireturn, 1) := by decide +kernel
theorem dX3_init_0 : decode cX3_init 0 = .ok (.aload_n 0, 1) := by decide +kernel
theorem dX3_init_1 : decode cX3_init 1 = .ok (.invokespecial 3, 3) := by decide +kernel
theorem dX3_init_4 : decode cX3_init 4 = .ok (.aload_n 0, 1) := by decide +kernel
theorem dX3_init_5 : decode cX3_init 5 = .ok (.iload_n 1, 1) := by decide +kernel
theorem dX3_init_6 : decode cX3_init 6 = .ok (.iconst 0, 1) := by decide +kernel
theorem dX3_init_7 : decode cX3_init 7 = .ok (.invokestatic 9, 3) := by decide +kernel
theorem dX3_init_10 : decode cX3_init 10 = .ok (.newarray .int, 2) := by decide +kernel
theorem dX3_init_12 : decode cX3_init 12 = .ok (.putfield 15, 3) := by decide +kernel
theorem dX3_init_15 : decode cX3_init 15 = .ok (.aload_n 0, 1) := by decide +kernel
theorem dX3_init_16 : decode cX3_init 16 = .ok (.iconst 0, 1) := by decide +kernel
theorem dX3_init_17 : decode cX3_init 17 = .ok (.putfield 21, 3) := by decide +kernel
theorem dX3_init_20 : decode cX3_init 20 = .ok (.return_, 1) := by decide +kernel
theorem dX3_size_0 : decode cX3_size 0 = .ok (.aload_n 0, 1) := by decide +kernel
theorem dX3_size_1 : decode cX3_size 1 = .ok (.getfield 21, 3) := by decide +kernel
theorem dX3_size_4 : decode cX3_size 4 = .ok (.ireturn, 1) := by decide +kernel
theorem dX3_isFull_0 : decode cX3_isFull 0 = .ok (.aload_n 0, 1) := by decide +kernel
theorem dX3_isFull_1 : decode cX3_isFull 1 = .ok (.getfield 21, 3) := by decide +kernel
theorem dX3_isFull_4 : decode cX3_isFull 4 = .ok (.aload_n 0, 1) := by decide +kernel
theorem dX3_isFull_5 : decode cX3_isFull 5 = .ok (.getfield 15, 3) := by decide +kernel
theorem dX3_isFull_8 : decode cX3_isFull 8 = .ok (.arraylength, 1) := by decide +kernel
theorem dX3_isFull_9 : decode cX3_isFull 9 = .ok (.if_icmp .lt 7, 3) := by decide +kernel
theorem dX3_isFull_12 : decode cX3_isFull 12 = .ok (.iconst 1, 1) := by decide +kernel
theorem dX3_isFull_13 : decode cX3_isFull 13 = .ok (.goto 4, 3) := by decide +kernel
theorem dX3_isFull_16 : decode cX3_isFull 16 = .ok (.iconst 0, 1) := by decide +kernel
theorem dX3_isFull_17 : decode cX3_isFull 17 = .ok (.ireturn, 1) := by decide +kernel
theorem dX3_add_0 : decode cX3_add 0 = .ok (.aload_n 0, 1) := by decide +kernel
theorem dX3_add_1 : decode cX3_add 1 = .ok (.getfield 21, 3) := by decide +kernel
theorem dX3_add_4 : decode cX3_add 4 = .ok (.aload_n 0, 1) := by decide +kernel
theorem dX3_add_5 : decode cX3_add 5 = .ok (.getfield 15, 3) := by decide +kernel
theorem dX3_add_8 : decode cX3_add 8 = .ok (.arraylength, 1) := by decide +kernel
theorem dX3_add_9 : decode cX3_add 9 = .ok (.if_icmp .ge 23, 3) := by decide +kernel
theorem dX3_add_12 : decode cX3_add 12 = .ok (.aload_n 0, 1) := by decide +kernel
theorem dX3_add_13 : decode cX3_add 13 = .ok (.getfield 15, 3) := by decide +kernel
theorem dX3_add_16 : decode cX3_add 16 = .ok (.aload_n 0, 1) := by decide +kernel
theorem dX3_add_17 : decode cX3_add 17 = .ok (.getfield 21, 3) := by decide +kernel
theorem dX3_add_20 : decode cX3_add 20 = .ok (.iload_n 1, 1) := by decide +kernel
theorem dX3_add_21 : decode cX3_add 21 = .ok (.iastore, 1) := by decide +kernel
theorem dX3_add_22 : decode cX3_add 22 = .ok (.aload_n 0, 1) := by decide +kernel
theorem dX3_add_23 : decode cX3_add 23 = .ok (.dup, 1) := by decide +kernel
theorem dX3_add_24 : decode cX3_add 24 = .ok (.getfield 21, 3) := by decide +kernel
theorem dX3_add_27 : decode cX3_add 27 = .ok (.iconst 1, 1) := by decide +kernel
theorem dX3_add_28 : decode cX3_add 28 = .ok (.iadd, 1) := by decide +kernel
theorem dX3_add_29 : decode cX3_add 29 = .ok (.putfield 21, 3) := by decide +kernel
theorem dX3_add_32 : decode cX3_add 32 = .ok (.return_, 1) := by decide +kernel
theorem dX3_at_0 : decode cX3_at 0 = .ok (.iload_n 1, 1) := by decide +kernel
theorem dX3_at_1 : decode cX3_at 1 = .ok (.ifCond .lt 20, 3) := by decide +kernel
theorem dX3_at_4 : decode cX3_at 4 = .ok (.iload_n 1, 1) := by decide +kernel
theorem dX3_at_5 : decode cX3_at 5 = .ok (.aload_n 0, 1) := by decide +kernel
theorem dX3_at_6 : decode cX3_at 6 = .ok (.getfield 21, 3) := by decide +kernel
theorem dX3_at_9 : decode cX3_at 9 = .ok (.if_icmp .ge 12, 3) := by decide +kernel
theorem dX3_at_12 : decode cX3_at 12 = .ok (.aload_n 0, 1) := by decide +kernel
theorem dX3_at_13 : decode cX3_at 13 = .ok (.getfield 15, 3) := by decide +kernel
theorem dX3_at_16 : decode cX3_at 16 = .ok (.iload_n 1, 1) := by decide +kernel
theorem dX3_at_17 : decode cX3_at 17 = .ok (.iaload, 1) := by decide +kernel
theorem dX3_at_18 : decode cX3_at 18 = .ok (.goto 5, 3) := by decide +kernel
theorem dX3_at_21 : decode cX3_at 21 = .ok (.bipush (-4), 2) := by decide +kernel
theorem dX3_at_23 : decode cX3_at 23 = .ok (.ireturn, 1) := by decide +kernel
theorem dX3_removeLast_0 : decode cX3_removeLast 0 = .ok (.aload_n 0, 1) := by decide +kernel
theorem dX3_removeLast_1 : decode cX3_removeLast 1 = .ok (.getfield 21, 3) := by decide +kernel
theorem dX3_removeLast_4 : decode cX3_removeLast 4 = .ok (.ifCond .gt 6, 3) := by decide +kernel
theorem dX3_removeLast_7 : decode cX3_removeLast 7 = .ok (.bipush (-4), 2) := by decide +kernel
theorem dX3_removeLast_9 : decode cX3_removeLast 9 = .ok (.ireturn, 1) := by decide +kernel
theorem dX3_removeLast_10 : decode cX3_removeLast 10 = .ok (.aload_n 0, 1) := by decide +kernel
theorem dX3_removeLast_11 : decode cX3_removeLast 11 = .ok (.dup, 1) := by decide +kernel
theorem dX3_removeLast_12 : decode cX3_removeLast 12 = .ok (.getfield 21, 3) := by decide +kernel
theorem dX3_removeLast_15 : decode cX3_removeLast 15 = .ok (.iconst 1, 1) := by decide +kernel
theorem dX3_removeLast_16 : decode cX3_removeLast 16 = .ok (.isub, 1) := by decide +kernel
theorem dX3_removeLast_17 : decode cX3_removeLast 17 = .ok (.putfield 21, 3) := by decide +kernel
theorem dX3_removeLast_20 : decode cX3_removeLast 20 = .ok (.aload_n 0, 1) := by decide +kernel
theorem dX3_removeLast_21 : decode cX3_removeLast 21 = .ok (.getfield 15, 3) := by decide +kernel
theorem dX3_removeLast_24 : decode cX3_removeLast 24 = .ok (.aload_n 0, 1) := by decide +kernel
theorem dX3_removeLast_25 : decode cX3_removeLast 25 = .ok (.getfield 21, 3) := by decide +kernel
theorem dX3_removeLast_28 : decode cX3_removeLast 28 = .ok (.iaload, 1) := by decide +kernel
theorem dX3_removeLast_29 : decode cX3_removeLast 29 = .ok (.ireturn, 1) := by decide +kernel
theorem dX3_clear_0 : decode cX3_clear 0 = .ok (.aload_n 0, 1) := by decide +kernel
theorem dX3_clear_1 : decode cX3_clear 1 = .ok (.iconst 0, 1) := by decide +kernel
theorem dX3_clear_2 : decode cX3_clear 2 = .ok (.putfield 21, 3) := by decide +kernel
theorem dX3_clear_5 : decode cX3_clear 5 = .ok (.return_, 1) := by decide +kernel
theorem dX3_copy_0 : decode cX3_copy 0 = .ok (.new 16, 3) := by decide +kernel
theorem dX3_copy_3 : decode cX3_copy 3 = .ok (.dup, 1) := by decide +kernel
theorem dX3_copy_4 : decode cX3_copy 4 = .ok (.aload_n 0, 1) := by decide +kernel
theorem dX3_copy_5 : decode cX3_copy 5 = .ok (.getfield 21, 3) := by decide +kernel
theorem dX3_copy_8 : decode cX3_copy 8 = .ok (.invokespecial 25, 3) := by decide +kernel
theorem dX3_copy_11 : decode cX3_copy 11 = .ok (.astore_n 1, 1) := by decide +kernel
theorem dX3_copy_12 : decode cX3_copy 12 = .ok (.iconst 0, 1) := by decide +kernel
theorem dX3_copy_13 : decode cX3_copy 13 = .ok (.istore_n 2, 1) := by decide +kernel
theorem dX3_copy_14 : decode cX3_copy 14 = .ok (.iload_n 2, 1) := by decide +kernel
theorem dX3_copy_15 : decode cX3_copy 15 = .ok (.aload_n 0, 1) := by decide +kernel
theorem dX3_copy_16 : decode cX3_copy 16 = .ok (.getfield 21, 3) := by decide +kernel
theorem dX3_copy_19 : decode cX3_copy 19 = .ok (.if_icmp .ge 19, 3) := by decide +kernel
theorem dX3_copy_22 : decode cX3_copy 22 = .ok (.aload_n 1, 1) := by decide +kernel
theorem dX3_copy_23 : decode cX3_copy 23 = .ok (.aload_n 0, 1) := by decide +kernel
theorem dX3_copy_24 : decode cX3_copy 24 = .ok (.getfield 15, 3) := by decide +kernel
theorem dX3_copy_27 : decode cX3_copy 27 = .ok (.iload_n 2, 1) := by decide +kernel
theorem dX3_copy_28 : decode cX3_copy 28 = .ok (.iaload, 1) := by decide +kernel
theorem dX3_copy_29 : decode cX3_copy 29 = .ok (.invokevirtual 28, 3) := by decide +kernel
theorem dX3_copy_32 : decode cX3_copy 32 = .ok (.iinc 2 1, 3) := by decide +kernel
theorem dX3_copy_35 : decode cX3_copy 35 = .ok (.goto (-21), 3) := by decide +kernel
theorem dX3_copy_38 : decode cX3_copy 38 = .ok (.aload_n 1, 1) := by decide +kernel
theorem dX3_copy_39 : decode cX3_copy 39 = .ok (.areturn, 1) := by decide +kernel
theorem dX3_sharesBeginning_0 : decode cX3_sharesBeginning 0 = .ok (.iload_n 2, 1) := by decide +kernel
theorem dX3_sharesBeginning_1 : decode cX3_sharesBeginning 1 = .ok (.aload_n 0, 1) := by decide +kernel
theorem dX3_sharesBeginning_2 : decode cX3_sharesBeginning 2 = .ok (.getfield 21, 3) := by decide +kernel
theorem dX3_sharesBeginning_5 : decode cX3_sharesBeginning 5 = .ok (.if_icmp .gt 11, 3) := by decide +kernel
theorem dX3_sharesBeginning_8 : decode cX3_sharesBeginning 8 = .ok (.iload_n 2, 1) := by decide +kernel
theorem dX3_sharesBeginning_9 : decode cX3_sharesBeginning 9 = .ok (.aload_n 1, 1) := by decide +kernel
theorem dX3_sharesBeginning_10 : decode cX3_sharesBeginning 10 = .ok (.getfield 21, 3) := by decide +kernel
theorem dX3_sharesBeginning_13 : decode cX3_sharesBeginning 13 = .ok (.if_icmp .le 5, 3) := by decide +kernel
theorem dX3_sharesBeginning_16 : decode cX3_sharesBeginning 16 = .ok (.iconst 0, 1) := by decide +kernel
theorem dX3_sharesBeginning_17 : decode cX3_sharesBeginning 17 = .ok (.ireturn, 1) := by decide +kernel
theorem dX3_sharesBeginning_18 : decode cX3_sharesBeginning 18 = .ok (.iconst 0, 1) := by decide +kernel
theorem dX3_sharesBeginning_19 : decode cX3_sharesBeginning 19 = .ok (.istore_n 3, 1) := by decide +kernel
theorem dX3_sharesBeginning_20 : decode cX3_sharesBeginning 20 = .ok (.iload_n 3, 1) := by decide +kernel
theorem dX3_sharesBeginning_21 : decode cX3_sharesBeginning 21 = .ok (.iload_n 2, 1) := by decide +kernel
theorem dX3_sharesBeginning_22 : decode cX3_sharesBeginning 22 = .ok (.if_icmp .ge 26, 3) := by decide +kernel
theorem dX3_sharesBeginning_25 : decode cX3_sharesBeginning 25 = .ok (.aload_n 0, 1) := by decide +kernel
theorem dX3_sharesBeginning_26 : decode cX3_sharesBeginning 26 = .ok (.getfield 15, 3) := by decide +kernel
theorem dX3_sharesBeginning_29 : decode cX3_sharesBeginning 29 = .ok (.iload_n 3, 1) := by decide +kernel
theorem dX3_sharesBeginning_30 : decode cX3_sharesBeginning 30 = .ok (.iaload, 1) := by decide +kernel
theorem dX3_sharesBeginning_31 : decode cX3_sharesBeginning 31 = .ok (.aload_n 1, 1) := by decide +kernel
theorem dX3_sharesBeginning_32 : decode cX3_sharesBeginning 32 = .ok (.getfield 15, 3) := by decide +kernel
theorem dX3_sharesBeginning_35 : decode cX3_sharesBeginning 35 = .ok (.iload_n 3, 1) := by decide +kernel
theorem dX3_sharesBeginning_36 : decode cX3_sharesBeginning 36 = .ok (.iaload, 1) := by decide +kernel
theorem dX3_sharesBeginning_37 : decode cX3_sharesBeginning 37 = .ok (.if_icmp .eq 5, 3) := by decide +kernel
theorem dX3_sharesBeginning_40 : decode cX3_sharesBeginning 40 = .ok (.iconst 0, 1) := by decide +kernel
theorem dX3_sharesBeginning_41 : decode cX3_sharesBeginning 41 = .ok (.ireturn, 1) := by decide +kernel
theorem dX3_sharesBeginning_42 : decode cX3_sharesBeginning 42 = .ok (.iinc 3 1, 3) := by decide +kernel
theorem dX3_sharesBeginning_45 : decode cX3_sharesBeginning 45 = .ok (.goto (-25), 3) := by decide +kernel
theorem dX3_sharesBeginning_48 : decode cX3_sharesBeginning 48 = .ok (.iconst 1, 1) := by decide +kernel
theorem dX3_sharesBeginning_49 : decode cX3_sharesBeginning 49 = .ok (.ireturn, 1) := by decide +kernel
theorem dX4_init_0 : decode cX4_init 0 = .ok (.aload_n 0, 1) := by decide +kernel
theorem dX4_init_1 : decode cX4_init 1 = .ok (.invokespecial 3, 3) := by decide +kernel
theorem dX4_init_4 : decode cX4_init 4 = .ok (.aload_n 0, 1) := by decide +kernel
theorem dX4_init_5 : decode cX4_init 5 = .ok (.new 9, 3) := by decide +kernel
theorem dX4_init_8 : decode cX4_init 8 = .ok (.dup, 1) := by decide +kernel
theorem dX4_init_9 : decode cX4_init 9 = .ok (.iconst 4, 1) := by decide +kernel
theorem dX4_init_10 : decode cX4_init 10 = .ok (.invokespecial 11, 3) := by decide +kernel
theorem dX4_init_13 : decode cX4_init 13 = .ok (.putfield 14, 3) := by decide +kernel
theorem dX4_init_16 : decode cX4_init 16 = .ok (.aload_n 0, 1) := by decide +kernel
theorem dX4_init_17 : decode cX4_init 17 = .ok (.new 9, 3) := by decide +kernel
theorem dX4_init_20 : decode cX4_init 20 = .ok (.dup, 1) := by decide +kernel
theorem dX4_init_21 : decode cX4_init 21 = .ok (.iconst 4, 1) := by decide +kernel
theorem dX4_init_22 : decode cX4_init 22 = .ok (.invokespecial 11, 3) := by decide +kernel
theorem dX4_init_25 : decode cX4_init 25 = .ok (.putfield 18, 3) := by decide +kernel
theorem dX4_init_28 : decode cX4_init 28 = .ok (.aload_n 0, 1) := by decide +kernel
theorem dX4_init_29 : decode cX4_init 29 = .ok (.new 9, 3) := by decide +kernel
theorem dX4_init_32 : decode cX4_init 32 = .ok (.dup, 1) := by decide +kernel
theorem dX4_init_33 : decode cX4_init 33 = .ok (.sipush 264, 3) := by decide +kernel
theorem dX4_init_36 : decode cX4_init 36 = .ok (.invokespecial 11, 3) := by decide +kernel
theorem dX4_init_39 : decode cX4_init 39 = .ok (.putfield 21, 3) := by decide +kernel
theorem dX4_init_42 : decode cX4_init 42 = .ok (.aload_n 0, 1) := by decide +kernel
theorem dX4_init_43 : decode cX4_init 43 = .ok (.new 24, 3) := by decide +kernel
theorem dX4_init_46 : decode cX4_init 46 = .ok (.dup, 1) := by decide +kernel
theorem dX4_init_47 : decode cX4_init 47 = .ok (.invokespecial 26, 3) := by decide +kernel
theorem dX4_init_50 : decode cX4_init 50 = .ok (.putfield 27, 3) := by decide +kernel
theorem dX4_init_53 : decode cX4_init 53 = .ok (.iconst 0, 1) := by decide +kernel
theorem dX4_init_54 : decode cX4_init 54 = .ok (.istore_n 1, 1) := by decide +kernel
theorem dX4_init_55 : decode cX4_init 55 = .ok (.iload_n 1, 1) := by decide +kernel
theorem dX4_init_56 : decode cX4_init 56 = .ok (.iconst 4, 1) := by decide +kernel
theorem dX4_init_57 : decode cX4_init 57 = .ok (.if_icmp .ge 26, 3) := by decide +kernel
theorem dX4_init_60 : decode cX4_init 60 = .ok (.aload_n 0, 1) := by decide +kernel
theorem dX4_init_61 : decode cX4_init 61 = .ok (.getfield 27, 3) := by decide +kernel
theorem dX4_init_64 : decode cX4_init 64 = .ok (.new 9, 3) := by decide +kernel
theorem dX4_init_67 : decode cX4_init 67 = .ok (.dup, 1) := by decide +kernel
theorem dX4_init_68 : decode cX4_init 68 = .ok (.bipush 12, 2) := by decide +kernel
theorem dX4_init_70 : decode cX4_init 70 = .ok (.invokespecial 11, 3) := by decide +kernel
theorem dX4_init_73 : decode cX4_init 73 = .ok (.invokevirtual 31, 3) := by decide +kernel
theorem dX4_init_76 : decode cX4_init 76 = .ok (.pop, 1) := by decide +kernel
theorem dX4_init_77 : decode cX4_init 77 = .ok (.iinc 1 1, 3) := by decide +kernel
theorem dX4_init_80 : decode cX4_init 80 = .ok (.goto (-25), 3) := by decide +kernel
theorem dX4_init_83 : decode cX4_init 83 = .ok (.aload_n 0, 1) := by decide +kernel
theorem dX4_init_84 : decode cX4_init 84 = .ok (.new 24, 3) := by decide +kernel
theorem dX4_init_87 : decode cX4_init 87 = .ok (.dup, 1) := by decide +kernel
theorem dX4_init_88 : decode cX4_init 88 = .ok (.invokespecial 26, 3) := by decide +kernel
theorem dX4_init_91 : decode cX4_init 91 = .ok (.putfield 35, 3) := by decide +kernel
theorem dX4_init_94 : decode cX4_init 94 = .ok (.iconst 0, 1) := by decide +kernel
theorem dX4_init_95 : decode cX4_init 95 = .ok (.istore_n 1, 1) := by decide +kernel
theorem dX4_init_96 : decode cX4_init 96 = .ok (.iload_n 1, 1) := by decide +kernel
theorem dX4_init_97 : decode cX4_init 97 = .ok (.iconst 4, 1) := by decide +kernel
theorem dX4_init_98 : decode cX4_init 98 = .ok (.if_icmp .ge 25, 3) := by decide +kernel
theorem dX4_init_101 : decode cX4_init 101 = .ok (.aload_n 0, 1) := by decide +kernel
theorem dX4_init_102 : decode cX4_init 102 = .ok (.getfield 35, 3) := by decide +kernel
theorem dX4_init_105 : decode cX4_init 105 = .ok (.new 38, 3) := by decide +kernel
theorem dX4_init_108 : decode cX4_init 108 = .ok (.dup, 1) := by decide +kernel
theorem dX4_init_109 : decode cX4_init 109 = .ok (.iload_n 1, 1) := by decide +kernel
theorem dX4_init_110 : decode cX4_init 110 = .ok (.invokespecial 40, 3) := by decide +kernel
theorem dX4_init_113 : decode cX4_init 113 = .ok (.invokevirtual 31, 3) := by decide +kernel
theorem dX4_init_116 : decode cX4_init 116 = .ok (.pop, 1) := by decide +kernel
theorem dX4_init_117 : decode cX4_init 117 = .ok (.iinc 1 1, 3) := by decide +kernel
theorem dX4_init_120 : decode cX4_init 120 = .ok (.goto (-24), 3) := by decide +kernel
theorem dX4_init_123 : decode cX4_init 123 = .ok (.aload_n 0, 1) := by decide +kernel
theorem dX4_init_124 : decode cX4_init 124 = .ok (.new 24, 3) := by decide +kernel
theorem dX4_init_127 : decode cX4_init 127 = .ok (.dup, 1) := by decide +kernel
theorem dX4_init_128 : decode cX4_init 128 = .ok (.invokespecial 26, 3) := by decide +kernel
theorem dX4_init_131 : decode cX4_init 131 = .ok (.putfield 41, 3) := by decide +kernel
theorem dX4_init_134 : decode cX4_init 134 = .ok (.aload_n 0, 1) := by decide +kernel
theorem dX4_init_135 : decode cX4_init 135 = .ok (.bipush 6, 2) := by decide +kernel
theorem dX4_init_137 : decode cX4_init 137 = .ok (.newarray .int, 2) := by decide +kernel
theorem dX4_init_139 : decode cX4_init 139 = .ok (.putfield 44, 3) := by decide +kernel
theorem dX4_init_142 : decode cX4_init 142 = .ok (.aload_n 0, 1) := by decide +kernel
theorem dX4_init_143 : decode cX4_init 143 = .ok (.new 48, 3) := by decide +kernel
theorem dX4_init_146 : decode cX4_init 146 = .ok (.dup, 1) := by decide +kernel
theorem dX4_init_147 : decode cX4_init 147 = .ok (.invokespecial 50, 3) := by decide +kernel
theorem dX4_init_150 : decode cX4_init 150 = .ok (.putfield 51, 3) := by decide +kernel
theorem dX4_init_153 : decode cX4_init 153 = .ok (.aload_n 0, 1) := by decide +kernel
theorem dX4_init_154 : decode cX4_init 154 = .ok (.bipush 10, 2) := by decide +kernel
theorem dX4_init_156 : decode cX4_init 156 = .ok (.putfield 55, 3) := by decide +kernel
theorem dX4_init_159 : decode cX4_init 159 = .ok (.aload_n 0, 1) := by decide +kernel
theorem dX4_init_160 : decode cX4_init 160 = .ok (.iconst 0, 1) := by decide +kernel
theorem dX4_init_161 : decode cX4_init 161 = .ok (.putfield 59, 3) := by decide +kernel
theorem dX4_init_164 : decode cX4_init 164 = .ok (.aload_n 0, 1) := by decide +kernel
theorem dX4_init_165 : decode cX4_init 165 = .ok (.iconst (-1), 1) := by decide +kernel
theorem dX4_init_166 : decode cX4_init 166 = .ok (.putfield 62, 3) := by decide +kernel
theorem dX4_init_169 : decode cX4_init 169 = .ok (.aload_n 0, 1) := by decide +kernel
theorem dX4_init_170 : decode cX4_init 170 = .ok (.iconst 0, 1) := by decide +kernel
theorem dX4_init_171 : decode cX4_init 171 = .ok (.putfield 65, 3) := by decide +kernel
theorem dX4_init_174 : decode cX4_init 174 = .ok (.aload_n 0, 1) := by decide +kernel
theorem dX4_init_175 : decode cX4_init 175 = .ok (.iconst 0, 1) := by decide +kernel
theorem dX4_init_176 : decode cX4_init 176 = .ok (.putfield 68, 3) := by decide +kernel
theorem dX4_init_179 : decode cX4_init 179 = .ok (.aload_n 0, 1) := by decide +kernel
theorem dX4_init_180 : decode cX4_init 180 = .ok (.iconst 0, 1) := by decide +kernel
theorem dX4_init_181 : decode cX4_init 181 = .ok (.invokevirtual 71, 3) := by decide +kernel
theorem dX4_init_184 : decode cX4_init 184 = .ok (.return_, 1) := by decide +kernel
theorem dX4_appendKey_0 : decode cX4_appendKey 0 = .ok (.iload_n 1, 1) := by decide +kernel
theorem dX4_appendKey_1 : decode cX4_appendKey 1 = .ok (.invokestatic 74, 3) := by decide +kernel
theorem dX4_appendKey_4 : decode cX4_appendKey 4 = .ok (.ifCond .ne 5, 3) := by decide +kernel
theorem dX4_appendKey_7 : decode cX4_appendKey 7 = .ok (.iconst (-1), 1) := by decide +kernel
theorem dX4_appendKey_8 : decode cX4_appendKey 8 = .ok (.ireturn, 1) := by decide +kernel
theorem dX4_appendKey_9 : decode cX4_appendKey 9 = .ok (.aload_n 0, 1) := by decide +kernel
theorem dX4_appendKey_10 : decode cX4_appendKey 10 = .ok (.getfield 14, 3) := by decide +kernel
theorem dX4_appendKey_13 : decode cX4_appendKey 13 = .ok (.invokevirtual 78, 3) := by decide +kernel
theorem dX4_appendKey_16 : decode cX4_appendKey 16 = .ok (.ifCond .eq 6, 3) := by decide +kernel
theorem dX4_appendKey_19 : decode cX4_appendKey 19 = .ok (.bipush (-3), 2) := by decide +kernel
theorem dX4_appendKey_21 : decode cX4_appendKey 21 = .ok (.ireturn, 1) := by decide +kernel
theorem dX4_appendKey_22 : decode cX4_appendKey 22 = .ok (.aload_n 0, 1) := by decide +kernel
theorem dX4_appendKey_23 : decode cX4_appendKey 23 = .ok (.getfield 14, 3) := by decide +kernel
theorem dX4_appendKey_26 : decode cX4_appendKey 26 = .ok (.iload_n 1, 1) := by decide +kernel
theorem dX4_appendKey_27 : decode cX4_appendKey 27 = .ok (.invokevirtual 82, 3) := by decide +kernel
theorem dX4_appendKey_30 : decode cX4_appendKey 30 = .ok (.aload_n 0, 1) := by decide +kernel
theorem dX4_appendKey_31 : decode cX4_appendKey 31 = .ok (.getfield 14, 3) := by decide +kernel
theorem dX4_appendKey_34 : decode cX4_appendKey 34 = .ok (.invokevirtual 84, 3) := by decide +kernel
theorem dX4_appendKey_37 : decode cX4_appendKey 37 = .ok (.ireturn, 1) := by decide +kernel
theorem dX4_clearKeys_0 : decode cX4_clearKeys 0 = .ok (.aload_n 0, 1) := by decide +kernel
theorem dX4_clearKeys_1 : decode cX4_clearKeys 1 = .ok (.getfield 14, 3) := by decide +kernel
theorem dX4_clearKeys_4 : decode cX4_clearKeys 4 = .ok (.invokevirtual 84, 3) := by decide +kernel
theorem dX4_clearKeys_7 : decode cX4_clearKeys 7 = .ok (.istore_n 1, 1) := by decide +kernel
theorem dX4_clearKeys_8 : decode cX4_clearKeys 8 = .ok (.aload_n 0, 1) := by decide +kernel
theorem dX4_clearKeys_9 : decode cX4_clearKeys 9 = .ok (.getfield 14, 3) := by decide +kernel
theorem dX4_clearKeys_12 : decode cX4_clearKeys 12 = .ok (.invokevirtual 88, 3) := by decide +kernel
theorem dX4_clearKeys_15 : decode cX4_clearKeys 15 = .ok (.iload_n 1, 1) := by decide +kernel
theorem dX4_clearKeys_16 : decode cX4_clearKeys 16 = .ok (.ireturn, 1) := by decide +kernel
theorem dX4_bind_0 : decode cX4_bind 0 = .ok (.aload_n 0, 1) := by decide +kernel
theorem dX4_bind_1 : decode cX4_bind 1 = .ok (.iload_n 1, 1) := by decide +kernel
theorem dX4_bind_2 : decode cX4_bind 2 = .ok (.invokevirtual 91, 3) := by decide +kernel
theorem dX4_bind_5 : decode cX4_bind 5 = .ok (.ifCond .eq 23, 3) := by decide +kernel
theorem dX4_bind_8 : decode cX4_bind 8 = .ok (.aload_n 0, 1) := by decide +kernel
theorem dX4_bind_9 : decode cX4_bind 9 = .ok (.iload_n 2, 1) := by decide +kernel
theorem dX4_bind_10 : decode cX4_bind 10 = .ok (.iload_n 3, 1) := by decide +kernel
theorem dX4_bind_11 : decode cX4_bind 11 = .ok (.invokevirtual 94, 3) := by decide +kernel
theorem dX4_bind_14 : decode cX4_bind 14 = .ok (.ifCond .eq 14, 3) := by decide +kernel
theorem dX4_bind_17 : decode cX4_bind 17 = .ok (.aload_n 0, 1) := by decide +kernel
theorem dX4_bind_18 : decode cX4_bind 18 = .ok (.iload 4, 2) := by decide +kernel
theorem dX4_bind_20 : decode cX4_bind 20 = .ok (.iload 5, 2) := by decide +kernel
theorem dX4_bind_22 : decode cX4_bind 22 = .ok (.invokevirtual 98, 3) := by decide +kernel
theorem dX4_bind_25 : decode cX4_bind 25 = .ok (.ifCond .ne 5, 3) := by decide +kernel
theorem dX4_bind_28 : decode cX4_bind 28 = .ok (.iconst (-1), 1) := by decide +kernel
theorem dX4_bind_29 : decode cX4_bind 29 = .ok (.ireturn, 1) := by decide +kernel
theorem dX4_bind_30 : decode cX4_bind 30 = .ok (.aload_n 0, 1) := by decide +kernel
theorem dX4_bind_31 : decode cX4_bind 31 = .ok (.getfield 14, 3) := by decide +kernel
theorem dX4_bind_34 : decode cX4_bind 34 = .ok (.invokevirtual 84, 3) := by decide +kernel
theorem dX4_bind_37 : decode cX4_bind 37 = .ok (.ifCond .ne 6, 3) := by decide +kernel
theorem dX4_bind_40 : decode cX4_bind 40 = .ok (.bipush (-2), 2) := by decide +kernel
theorem dX4_bind_42 : decode cX4_bind 42 = .ok (.ireturn, 1) := by decide +kernel
theorem dX4_bind_43 : decode cX4_bind 43 = .ok (.aload_n 0, 1) := by decide +kernel
theorem dX4_bind_44 : decode cX4_bind 44 = .ok (.getfield 35, 3) := by decide +kernel
theorem dX4_bind_47 : decode cX4_bind 47 = .ok (.iload_n 1, 1) := by decide +kernel
theorem dX4_bind_48 : decode cX4_bind 48 = .ok (.invokevirtual 101, 3) := by decide +kernel
theorem dX4_bind_51 : decode cX4_bind 51 = .ok (.checkcast 38, 3) := by decide +kernel
theorem dX4_bind_54 : decode cX4_bind 54 = .ok (.getfield 105, 3) := by decide +kernel
theorem dX4_bind_57 : decode cX4_bind 57 = .ok (.astore 6, 2) := by decide +kernel
theorem dX4_bind_59 : decode cX4_bind 59 = .ok (.aload 6, 2) := by decide +kernel
theorem dX4_bind_61 : decode cX4_bind 61 = .ok (.invokevirtual 108, 3) := by decide +kernel
theorem dX4_bind_64 : decode cX4_bind 64 = .ok (.bipush 10, 2) := by decide +kernel
theorem dX4_bind_66 : decode cX4_bind 66 = .ok (.if_icmp .lt 6, 3) := by decide +kernel
theorem dX4_bind_69 : decode cX4_bind 69 = .ok (.bipush (-3), 2) := by decide +kernel
theorem dX4_bind_71 : decode cX4_bind 71 = .ok (.ireturn, 1) := by decide +kernel
theorem dX4_bind_72 : decode cX4_bind 72 = .ok (.aload 6, 2) := by decide +kernel
theorem dX4_bind_74 : decode cX4_bind 74 = .ok (.new 109, 3) := by decide +kernel
theorem dX4_bind_77 : decode cX4_bind 77 = .ok (.dup, 1) := by decide +kernel
theorem dX4_bind_78 : decode cX4_bind 78 = .ok (.aload_n 0, 1) := by decide +kernel
theorem dX4_bind_79 : decode cX4_bind 79 = .ok (.getfield 14, 3) := by decide +kernel
theorem dX4_bind_82 : decode cX4_bind 82 = .ok (.invokevirtual 111, 3) := by decide +kernel
theorem dX4_bind_85 : decode cX4_bind 85 = .ok (.iload_n 2, 1) := by decide +kernel
theorem dX4_bind_86 : decode cX4_bind 86 = .ok (.iload_n 3, 1) := by decide +kernel
theorem dX4_bind_87 : decode cX4_bind 87 = .ok (.iload 4, 2) := by decide +kernel
theorem dX4_bind_89 : decode cX4_bind 89 = .ok (.iload 5, 2) := by decide +kernel
theorem dX4_bind_91 : decode cX4_bind 91 = .ok (.invokespecial 115, 3) := by decide +kernel
theorem dX4_bind_94 : decode cX4_bind 94 = .ok (.invokevirtual 31, 3) := by decide +kernel
theorem dX4_bind_97 : decode cX4_bind 97 = .ok (.pop, 1) := by decide +kernel
theorem dX4_bind_98 : decode cX4_bind 98 = .ok (.aload_n 0, 1) := by decide +kernel
theorem dX4_bind_99 : decode cX4_bind 99 = .ok (.getfield 14, 3) := by decide +kernel
theorem dX4_bind_102 : decode cX4_bind 102 = .ok (.invokevirtual 88, 3) := by decide +kernel
theorem dX4_bind_105 : decode cX4_bind 105 = .ok (.aload 6, 2) := by decide +kernel
theorem dX4_bind_107 : decode cX4_bind 107 = .ok (.invokevirtual 108, 3) := by decide +kernel
theorem dX4_bind_110 : decode cX4_bind 110 = .ok (.iconst 1, 1) := by decide +kernel
theorem dX4_bind_111 : decode cX4_bind 111 = .ok (.isub, 1) := by decide +kernel
theorem dX4_bind_112 : decode cX4_bind 112 = .ok (.ireturn, 1) := by decide +kernel
theorem dX4_unbind_0 : decode cX4_unbind 0 = .ok (.aload_n 0, 1) := by decide +kernel
theorem dX4_unbind_1 : decode cX4_unbind 1 = .ok (.iload_n 1, 1) := by decide +kernel
theorem dX4_unbind_2 : decode cX4_unbind 2 = .ok (.iload_n 2, 1) := by decide +kernel
theorem dX4_unbind_3 : decode cX4_unbind 3 = .ok (.invokevirtual 118, 3) := by decide +kernel
theorem dX4_unbind_6 : decode cX4_unbind 6 = .ok (.ifCond .ne 5, 3) := by decide +kernel
theorem dX4_unbind_9 : decode cX4_unbind 9 = .ok (.iconst (-1), 1) := by decide +kernel
theorem dX4_unbind_10 : decode cX4_unbind 10 = .ok (.ireturn, 1) := by decide +kernel
theorem dX4_unbind_11 : decode cX4_unbind 11 = .ok (.aload_n 0, 1) := by decide +kernel
theorem dX4_unbind_12 : decode cX4_unbind 12 = .ok (.getfield 35, 3) := by decide +kernel
theorem dX4_unbind_15 : decode cX4_unbind 15 = .ok (.iload_n 1, 1) := by decide +kernel
theorem dX4_unbind_16 : decode cX4_unbind 16 = .ok (.invokevirtual 101, 3) := by decide +kernel
theorem dX4_unbind_19 : decode cX4_unbind 19 = .ok (.checkcast 38, 3) := by decide +kernel
theorem dX4_unbind_22 : decode cX4_unbind 22 = .ok (.getfield 105, 3) := by decide +kernel
theorem dX4_unbind_25 : decode cX4_unbind 25 = .ok (.astore_n 3, 1) := by decide +kernel
theorem dX4_unbind_26 : decode cX4_unbind 26 = .ok (.aload_n 3, 1) := by decide +kernel
theorem dX4_unbind_27 : decode cX4_unbind 27 = .ok (.iload_n 2, 1) := by decide +kernel
theorem dX4_unbind_28 : decode cX4_unbind 28 = .ok (.invokevirtual 121, 3) := by decide +kernel
theorem dX4_unbind_31 : decode cX4_unbind 31 = .ok (.pop, 1) := by decide +kernel
theorem dX4_unbind_32 : decode cX4_unbind 32 = .ok (.aload_n 3, 1) := by decide +kernel
theorem dX4_unbind_33 : decode cX4_unbind 33 = .ok (.invokevirtual 108, 3) := by decide +kernel
theorem dX4_unbind_36 : decode cX4_unbind 36 = .ok (.ireturn, 1) := by decide +kernel
theorem dX4_bindingCount_0 : decode cX4_bindingCount 0 = .ok (.aload_n 0, 1) := by decide +kernel
theorem dX4_bindingCount_1 : decode cX4_bindingCount 1 = .ok (.iload_n 1, 1) := by decide +kernel
theorem dX4_bindingCount_2 : decode cX4_bindingCount 2 = .ok (.invokevirtual 91, 3) := by decide +kernel
theorem dX4_bindingCount_5 : decode cX4_bindingCount 5 = .ok (.ifCond .ne 5, 3) := by decide +kernel
theorem dX4_bindingCount_8 : decode cX4_bindingCount 8 = .ok (.iconst (-1), 1) := by decide +kernel
theorem dX4_bindingCount_9 : decode cX4_bindingCount 9 = .ok (.ireturn, 1) := by decide +kernel
theorem dX4_bindingCount_10 : decode cX4_bindingCount 10 = .ok (.aload_n 0, 1) := by decide +kernel
theorem dX4_bindingCount_11 : decode cX4_bindingCount 11 = .ok (.getfield 35, 3) := by decide +kernel
theorem dX4_bindingCount_14 : decode cX4_bindingCount 14 = .ok (.iload_n 1, 1) := by decide +kernel
theorem dX4_bindingCount_15 : decode cX4_bindingCount 15 = .ok (.invokevirtual 101, 3) := by decide +kernel
theorem dX4_bindingCount_18 : decode cX4_bindingCount 18 = .ok (.checkcast 38, 3) := by decide +kernel
theorem dX4_bindingCount_21 : decode cX4_bindingCount 21 = .ok (.getfield 105, 3) := by decide +kernel
theorem dX4_bindingCount_24 : decode cX4_bindingCount 24 = .ok (.invokevirtual 108, 3) := by decide +kernel
theorem dX4_bindingCount_27 : decode cX4_bindingCount 27 = .ok (.ireturn, 1) := by decide +kernel
theorem dX4_shadowedBy_0 : decode cX4_shadowedBy 0 = .ok (.aload_n 0, 1) := by decide +kernel
theorem dX4_shadowedBy_1 : decode cX4_shadowedBy 1 = .ok (.iload_n 1, 1) := by decide +kernel
theorem dX4_shadowedBy_2 : decode cX4_shadowedBy 2 = .ok (.iload_n 2, 1) := by decide +kernel
theorem dX4_shadowedBy_3 : decode cX4_shadowedBy 3 = .ok (.invokevirtual 118, 3) := by decide +kernel
theorem dX4_shadowedBy_6 : decode cX4_shadowedBy 6 = .ok (.ifCond .ne 5, 3) := by decide +kernel
theorem dX4_shadowedBy_9 : decode cX4_shadowedBy 9 = .ok (.iconst (-1), 1) := by decide +kernel
theorem dX4_shadowedBy_10 : decode cX4_shadowedBy 10 = .ok (.ireturn, 1) := by decide +kernel
theorem dX4_shadowedBy_11 : decode cX4_shadowedBy 11 = .ok (.aload_n 0, 1) := by decide +kernel
theorem dX4_shadowedBy_12 : decode cX4_shadowedBy 12 = .ok (.getfield 35, 3) := by decide +kernel
theorem dX4_shadowedBy_15 : decode cX4_shadowedBy 15 = .ok (.iload_n 1, 1) := by decide +kernel
theorem dX4_shadowedBy_16 : decode cX4_shadowedBy 16 = .ok (.invokevirtual 101, 3) := by decide +kernel
theorem dX4_shadowedBy_19 : decode cX4_shadowedBy 19 = .ok (.checkcast 38, 3) := by decide +kernel
theorem dX4_shadowedBy_22 : decode cX4_shadowedBy 22 = .ok (.getfield 105, 3) := by decide +kernel
theorem dX4_shadowedBy_25 : decode cX4_shadowedBy 25 = .ok (.astore_n 3, 1) := by decide +kernel
theorem dX4_shadowedBy_26 : decode cX4_shadowedBy 26 = .ok (.aload_n 3, 1) := by decide +kernel
theorem dX4_shadowedBy_27 : decode cX4_shadowedBy 27 = .ok (.iload_n 2, 1) := by decide +kernel
theorem dX4_shadowedBy_28 : decode cX4_shadowedBy 28 = .ok (.invokevirtual 101, 3) := by decide +kernel
theorem dX4_shadowedBy_31 : decode cX4_shadowedBy 31 = .ok (.checkcast 109, 3) := by decide +kernel
theorem dX4_shadowedBy_34 : decode cX4_shadowedBy 34 = .ok (.astore 4, 2) := by decide +kernel
theorem dX4_shadowedBy_36 : decode cX4_shadowedBy 36 = .ok (.iconst 0, 1) := by decide +kernel
theorem dX4_shadowedBy_37 : decode cX4_shadowedBy 37 = .ok (.istore 5, 2) := by decide +kernel
theorem dX4_shadowedBy_39 : decode cX4_shadowedBy 39 = .ok (.iload 5, 2) := by decide +kernel
theorem dX4_shadowedBy_41 : decode cX4_shadowedBy 41 = .ok (.iload_n 2, 1) := by decide +kernel
theorem dX4_shadowedBy_42 : decode cX4_shadowedBy 42 = .ok (.if_icmp .ge 29, 3) := by decide +kernel
theorem dX4_shadowedBy_45 : decode cX4_shadowedBy 45 = .ok (.aload_n 3, 1) := by decide +kernel
theorem dX4_shadowedBy_46 : decode cX4_shadowedBy 46 = .ok (.iload 5, 2) := by decide +kernel
theorem dX4_shadowedBy_48 : decode cX4_shadowedBy 48 = .ok (.invokevirtual 101, 3) := by decide +kernel
theorem dX4_shadowedBy_51 : decode cX4_shadowedBy 51 = .ok (.checkcast 109, 3) := by decide +kernel
theorem dX4_shadowedBy_54 : decode cX4_shadowedBy 54 = .ok (.aload 4, 2) := by decide +kernel
theorem dX4_shadowedBy_56 : decode cX4_shadowedBy 56 = .ok (.invokevirtual 124, 3) := by decide +kernel
theorem dX4_shadowedBy_59 : decode cX4_shadowedBy 59 = .ok (.ifCond .eq 6, 3) := by decide +kernel
theorem dX4_shadowedBy_62 : decode cX4_shadowedBy 62 = .ok (.iload 5, 2) := by decide +kernel
theorem dX4_shadowedBy_64 : decode cX4_shadowedBy 64 = .ok (.ireturn, 1) := by decide +kernel
theorem dX4_shadowedBy_65 : decode cX4_shadowedBy 65 = .ok (.iinc 5 1, 3) := by decide +kernel
theorem dX4_shadowedBy_68 : decode cX4_shadowedBy 68 = .ok (.goto (-29), 3) := by decide +kernel
theorem dX4_shadowedBy_71 : decode cX4_shadowedBy 71 = .ok (.bipush (-4), 2) := by decide +kernel
theorem dX4_shadowedBy_73 : decode cX4_shadowedBy 73 = .ok (.ireturn, 1) := by decide +kernel
theorem dX4_press_0 : decode cX4_press 0 = .ok (.iload_n 1, 1) := by decide +kernel
theorem dX4_press_1 : decode cX4_press 1 = .ok (.invokestatic 74, 3) := by decide +kernel
theorem dX4_press_4 : decode cX4_press 4 = .ok (.ifCond .ne 5, 3) := by decide +kernel
theorem dX4_press_7 : decode cX4_press 7 = .ok (.iconst (-1), 1) := by decide +kernel
theorem dX4_press_8 : decode cX4_press 8 = .ok (.ireturn, 1) := by decide +kernel
theorem dX4_press_9 : decode cX4_press 9 = .ok (.aload_n 0, 1) := by decide +kernel
theorem dX4_press_10 : decode cX4_press 10 = .ok (.getfield 51, 3) := by decide +kernel
theorem dX4_press_13 : decode cX4_press 13 = .ok (.getfield 128, 3) := by decide +kernel
theorem dX4_press_16 : decode cX4_press 16 = .ok (.istore_n 2, 1) := by decide +kernel
theorem dX4_press_17 : decode cX4_press 17 = .ok (.aload_n 0, 1) := by decide +kernel
theorem dX4_press_18 : decode cX4_press 18 = .ok (.iconst 0, 1) := by decide +kernel
theorem dX4_press_19 : decode cX4_press 19 = .ok (.putfield 68, 3) := by decide +kernel
theorem dX4_press_22 : decode cX4_press 22 = .ok (.aload_n 0, 1) := by decide +kernel
theorem dX4_press_23 : decode cX4_press 23 = .ok (.aload_n 0, 1) := by decide +kernel
theorem dX4_press_24 : decode cX4_press 24 = .ok (.getfield 62, 3) := by decide +kernel
theorem dX4_press_27 : decode cX4_press 27 = .ok (.invokevirtual 131, 3) := by decide +kernel
theorem dX4_press_30 : decode cX4_press 30 = .ok (.ifCond .eq 21, 3) := by decide +kernel
theorem dX4_press_33 : decode cX4_press 33 = .ok (.aload_n 0, 1) := by decide +kernel
theorem dX4_press_34 : decode cX4_press 34 = .ok (.getfield 27, 3) := by decide +kernel
theorem dX4_press_37 : decode cX4_press 37 = .ok (.aload_n 0, 1) := by decide +kernel
theorem dX4_press_38 : decode cX4_press 38 = .ok (.getfield 62, 3) := by decide +kernel
theorem dX4_press_41 : decode cX4_press 41 = .ok (.invokevirtual 101, 3) := by decide +kernel
theorem dX4_press_44 : decode cX4_press 44 = .ok (.checkcast 9, 3) := by decide +kernel
theorem dX4_press_47 : decode cX4_press 47 = .ok (.iload_n 1, 1) := by decide +kernel
theorem dX4_press_48 : decode cX4_press 48 = .ok (.invokevirtual 82, 3) := by decide +kernel
theorem dX4_press_51 : decode cX4_press 51 = .ok (.aload_n 0, 1) := by decide +kernel
theorem dX4_press_52 : decode cX4_press 52 = .ok (.getfield 21, 3) := by decide +kernel
theorem dX4_press_55 : decode cX4_press 55 = .ok (.iload_n 1, 1) := by decide +kernel
theorem dX4_press_56 : decode cX4_press 56 = .ok (.invokevirtual 82, 3) := by decide +kernel
theorem dX4_press_59 : decode cX4_press 59 = .ok (.aload_n 0, 1) := by decide +kernel
theorem dX4_press_60 : decode cX4_press 60 = .ok (.invokevirtual 134, 3) := by decide +kernel
theorem dX4_press_63 : decode cX4_press 63 = .ok (.aload_n 0, 1) := by decide +kernel
theorem dX4_press_64 : decode cX4_press 64 = .ok (.getfield 51, 3) := by decide +kernel
theorem dX4_press_67 : decode cX4_press 67 = .ok (.getfield 128, 3) := by decide +kernel
theorem dX4_press_70 : decode cX4_press 70 = .ok (.iload_n 2, 1) := by decide +kernel
theorem dX4_press_71 : decode cX4_press 71 = .ok (.isub, 1) := by decide +kernel
theorem dX4_press_72 : decode cX4_press 72 = .ok (.ireturn, 1) := by decide +kernel
theorem dX4_tick_0 : decode cX4_tick 0 = .ok (.iload_n 1, 1) := by decide +kernel
theorem dX4_tick_1 : decode cX4_tick 1 = .ok (.iconst 0, 1) := by decide +kernel
theorem dX4_tick_2 : decode cX4_tick 2 = .ok (.sipush 999, 3) := by decide +kernel
theorem dX4_tick_5 : decode cX4_tick 5 = .ok (.invokestatic 137, 3) := by decide +kernel
theorem dX4_tick_8 : decode cX4_tick 8 = .ok (.ifCond .ne 5, 3) := by decide +kernel
theorem dX4_tick_11 : decode cX4_tick 11 = .ok (.iconst (-1), 1) := by decide +kernel
theorem dX4_tick_12 : decode cX4_tick 12 = .ok (.ireturn, 1) := by decide +kernel
theorem dX4_tick_13 : decode cX4_tick 13 = .ok (.aload_n 0, 1) := by decide +kernel
theorem dX4_tick_14 : decode cX4_tick 14 = .ok (.getfield 51, 3) := by decide +kernel
theorem dX4_tick_17 : decode cX4_tick 17 = .ok (.getfield 128, 3) := by decide +kernel
theorem dX4_tick_20 : decode cX4_tick 20 = .ok (.istore_n 2, 1) := by decide +kernel
theorem dX4_tick_21 : decode cX4_tick 21 = .ok (.aload_n 0, 1) := by decide +kernel
theorem dX4_tick_22 : decode cX4_tick 22 = .ok (.iconst 0, 1) := by decide +kernel
theorem dX4_tick_23 : decode cX4_tick 23 = .ok (.putfield 68, 3) := by decide +kernel
theorem dX4_tick_26 : decode cX4_tick 26 = .ok (.iconst 0, 1) := by decide +kernel
theorem dX4_tick_27 : decode cX4_tick 27 = .ok (.istore_n 3, 1) := by decide +kernel
theorem dX4_tick_28 : decode cX4_tick 28 = .ok (.iload_n 3, 1) := by decide +kernel
theorem dX4_tick_29 : decode cX4_tick 29 = .ok (.iload_n 1, 1) := by decide +kernel
theorem dX4_tick_30 : decode cX4_tick 30 = .ok (.if_icmp .ge 44, 3) := by decide +kernel
theorem dX4_tick_33 : decode cX4_tick 33 = .ok (.aload_n 0, 1) := by decide +kernel
theorem dX4_tick_34 : decode cX4_tick 34 = .ok (.getfield 18, 3) := by decide +kernel
theorem dX4_tick_37 : decode cX4_tick 37 = .ok (.invokevirtual 84, 3) := by decide +kernel
theorem dX4_tick_40 : decode cX4_tick 40 = .ok (.ifCond .le 34, 3) := by decide +kernel
theorem dX4_tick_43 : decode cX4_tick 43 = .ok (.aload_n 0, 1) := by decide +kernel
theorem dX4_tick_44 : decode cX4_tick 44 = .ok (.dup, 1) := by decide +kernel
theorem dX4_tick_45 : decode cX4_tick 45 = .ok (.getfield 59, 3) := by decide +kernel
theorem dX4_tick_48 : decode cX4_tick 48 = .ok (.iconst 1, 1) := by decide +kernel
theorem dX4_tick_49 : decode cX4_tick 49 = .ok (.isub, 1) := by decide +kernel
theorem dX4_tick_50 : decode cX4_tick 50 = .ok (.putfield 59, 3) := by decide +kernel
theorem dX4_tick_53 : decode cX4_tick 53 = .ok (.aload_n 0, 1) := by decide +kernel
theorem dX4_tick_54 : decode cX4_tick 54 = .ok (.getfield 59, 3) := by decide +kernel
theorem dX4_tick_57 : decode cX4_tick 57 = .ok (.ifCond .gt 11, 3) := by decide +kernel
theorem dX4_tick_60 : decode cX4_tick 60 = .ok (.aload_n 0, 1) := by decide +kernel
theorem dX4_tick_61 : decode cX4_tick 61 = .ok (.invokevirtual 141, 3) := by decide +kernel
theorem dX4_tick_64 : decode cX4_tick 64 = .ok (.aload_n 0, 1) := by decide +kernel
theorem dX4_tick_65 : decode cX4_tick 65 = .ok (.invokevirtual 134, 3) := by decide +kernel
theorem dX4_tick_68 : decode cX4_tick 68 = .ok (.iinc 3 1, 3) := by decide +kernel
theorem dX4_tick_71 : decode cX4_tick 71 = .ok (.goto (-43), 3) := by decide +kernel
theorem dX4_tick_74 : decode cX4_tick 74 = .ok (.aload_n 0, 1) := by decide +kernel
theorem dX4_tick_75 : decode cX4_tick 75 = .ok (.getfield 51, 3) := by decide +kernel
theorem dX4_tick_78 : decode cX4_tick 78 = .ok (.getfield 128, 3) := by decide +kernel
theorem dX4_tick_81 : decode cX4_tick 81 = .ok (.iload_n 2, 1) := by decide +kernel
theorem dX4_tick_82 : decode cX4_tick 82 = .ok (.isub, 1) := by decide +kernel
theorem dX4_tick_83 : decode cX4_tick 83 = .ok (.ireturn, 1) := by decide +kernel
theorem dX4_setTimeout_0 : decode cX4_setTimeout 0 = .ok (.iload_n 1, 1) := by decide +kernel
theorem dX4_setTimeout_1 : decode cX4_setTimeout 1 = .ok (.iconst 1, 1) := by decide +kernel
theorem dX4_setTimeout_2 : decode cX4_setTimeout 2 = .ok (.bipush 99, 2) := by decide +kernel
theorem dX4_setTimeout_4 : decode cX4_setTimeout 4 = .ok (.invokestatic 137, 3) := by decide +kernel
theorem dX4_setTimeout_7 : decode cX4_setTimeout 7 = .ok (.ifCond .ne 5, 3) := by decide +kernel
theorem dX4_setTimeout_10 : decode cX4_setTimeout 10 = .ok (.iconst (-1), 1) := by decide +kernel
theorem dX4_setTimeout_11 : decode cX4_setTimeout 11 = .ok (.ireturn, 1) := by decide +kernel
theorem dX4_setTimeout_12 : decode cX4_setTimeout 12 = .ok (.aload_n 0, 1) := by decide +kernel
theorem dX4_setTimeout_13 : decode cX4_setTimeout 13 = .ok (.getfield 55, 3) := by decide +kernel
theorem dX4_setTimeout_16 : decode cX4_setTimeout 16 = .ok (.istore_n 2, 1) := by decide +kernel
theorem dX4_setTimeout_17 : decode cX4_setTimeout 17 = .ok (.aload_n 0, 1) := by decide +kernel
theorem dX4_setTimeout_18 : decode cX4_setTimeout 18 = .ok (.iload_n 1, 1) := by decide +kernel
theorem dX4_setTimeout_19 : decode cX4_setTimeout 19 = .ok (.putfield 55, 3) := by decide +kernel
theorem dX4_setTimeout_22 : decode cX4_setTimeout 22 = .ok (.iload_n 2, 1) := by decide +kernel
theorem dX4_setTimeout_23 : decode cX4_setTimeout 23 = .ok (.ireturn, 1) := by decide +kernel
theorem dX4_setFlag_0 : decode cX4_setFlag 0 = .ok (.aload_n 0, 1) := by decide +kernel
theorem dX4_setFlag_1 : decode cX4_setFlag 1 = .ok (.iload_n 1, 1) := by decide +kernel
theorem dX4_setFlag_2 : decode cX4_setFlag 2 = .ok (.invokevirtual 144, 3) := by decide +kernel
theorem dX4_setFlag_5 : decode cX4_setFlag 5 = .ok (.ifCond .eq 12, 3) := by decide +kernel
theorem dX4_setFlag_8 : decode cX4_setFlag 8 = .ok (.iload_n 2, 1) := by decide +kernel
theorem dX4_setFlag_9 : decode cX4_setFlag 9 = .ok (.iconst 0, 1) := by decide +kernel
theorem dX4_setFlag_10 : decode cX4_setFlag 10 = .ok (.iconst 1, 1) := by decide +kernel
theorem dX4_setFlag_11 : decode cX4_setFlag 11 = .ok (.invokestatic 137, 3) := by decide +kernel
theorem dX4_setFlag_14 : decode cX4_setFlag 14 = .ok (.ifCond .ne 5, 3) := by decide +kernel
theorem dX4_setFlag_17 : decode cX4_setFlag 17 = .ok (.iconst (-1), 1) := by decide +kernel
theorem dX4_setFlag_18 : decode cX4_setFlag 18 = .ok (.ireturn, 1) := by decide +kernel
theorem dX4_setFlag_19 : decode cX4_setFlag 19 = .ok (.aload_n 0, 1) := by decide +kernel
theorem dX4_setFlag_20 : decode cX4_setFlag 20 = .ok (.getfield 44, 3) := by decide +kernel
theorem dX4_setFlag_23 : decode cX4_setFlag 23 = .ok (.iload_n 1, 1) := by decide +kernel
theorem dX4_setFlag_24 : decode cX4_setFlag 24 = .ok (.iaload, 1) := by decide +kernel
theorem dX4_setFlag_25 : decode cX4_setFlag 25 = .ok (.istore_n 3, 1) := by decide +kernel
theorem dX4_setFlag_26 : decode cX4_setFlag 26 = .ok (.aload_n 0, 1) := by decide +kernel
theorem dX4_setFlag_27 : decode cX4_setFlag 27 = .ok (.getfield 44, 3) := by decide +kernel
theorem dX4_setFlag_30 : decode cX4_setFlag 30 = .ok (.iload_n 1, 1) := by decide +kernel
theorem dX4_setFlag_31 : decode cX4_setFlag 31 = .ok (.iload_n 2, 1) := by decide +kernel
theorem dX4_setFlag_32 : decode cX4_setFlag 32 = .ok (.iastore, 1) := by decide +kernel
theorem dX4_setFlag_33 : decode cX4_setFlag 33 = .ok (.iload_n 3, 1) := by decide +kernel
theorem dX4_setFlag_34 : decode cX4_setFlag 34 = .ok (.ireturn, 1) := by decide +kernel
theorem dX4_pendingLength_0 : decode cX4_pendingLength 0 = .ok (.aload_n 0, 1) := by decide +kernel
theorem dX4_pendingLength_1 : decode cX4_pendingLength 1 = .ok (.getfield 18, 3) := by decide +kernel
theorem dX4_pendingLength_4 : decode cX4_pendingLength 4 = .ok (.invokevirtual 84, 3) := by decide +kernel
theorem dX4_pendingLength_7 : decode cX4_pendingLength 7 = .ok (.ireturn, 1) := by decide +kernel
theorem dX4_pendingKey_0 : decode cX4_pendingKey 0 = .ok (.iload_n 1, 1) := by decide +kernel
theorem dX4_pendingKey_1 : decode cX4_pendingKey 1 = .ok (.ifCond .ge 5, 3) := by decide +kernel
theorem dX4_pendingKey_4 : decode cX4_pendingKey 4 = .ok (.iconst (-1), 1) := by decide +kernel
theorem dX4_pendingKey_5 : decode cX4_pendingKey 5 = .ok (.ireturn, 1) := by decide +kernel
theorem dX4_pendingKey_6 : decode cX4_pendingKey 6 = .ok (.aload_n 0, 1) := by decide +kernel
theorem dX4_pendingKey_7 : decode cX4_pendingKey 7 = .ok (.getfield 18, 3) := by decide +kernel
theorem dX4_pendingKey_10 : decode cX4_pendingKey 10 = .ok (.iload_n 1, 1) := by decide +kernel
theorem dX4_pendingKey_11 : decode cX4_pendingKey 11 = .ok (.invokevirtual 147, 3) := by decide +kernel
theorem dX4_pendingKey_14 : decode cX4_pendingKey 14 = .ok (.ireturn, 1) := by decide +kernel
theorem dX4_remainingTime_0 : decode cX4_remainingTime 0 = .ok (.aload_n 0, 1) := by decide +kernel
theorem dX4_remainingTime_1 : decode cX4_remainingTime 1 = .ok (.getfield 18, 3) := by decide +kernel
theorem dX4_remainingTime_4 : decode cX4_remainingTime 4 = .ok (.invokevirtual 84, 3) := by decide +kernel
theorem dX4_remainingTime_7 : decode cX4_remainingTime 7 = .ok (.ifCond .ne 7, 3) := by decide +kernel
theorem dX4_remainingTime_10 : decode cX4_remainingTime 10 = .ok (.iconst 0, 1) := by decide +kernel
theorem dX4_remainingTime_11 : decode cX4_remainingTime 11 = .ok (.goto 7, 3) := by decide +kernel
theorem dX4_remainingTime_14 : decode cX4_remainingTime 14 = .ok (.aload_n 0, 1) := by decide +kernel
theorem dX4_remainingTime_15 : decode cX4_remainingTime 15 = .ok (.getfield 59, 3) := by decide +kernel
theorem dX4_remainingTime_18 : decode cX4_remainingTime 18 = .ok (.ireturn, 1) := by decide +kernel
theorem dX4_pendingBinding_0 : decode cX4_pendingBinding 0 = .ok (.aload_n 0, 1) := by decide +kernel
theorem dX4_pendingBinding_1 : decode cX4_pendingBinding 1 = .ok (.aload_n 0, 1) := by decide +kernel
theorem dX4_pendingBinding_2 : decode cX4_pendingBinding 2 = .ok (.getfield 18, 3) := by decide +kernel
theorem dX4_pendingBinding_5 : decode cX4_pendingBinding 5 = .ok (.invokevirtual 84, 3) := by decide +kernel
theorem dX4_pendingBinding_8 : decode cX4_pendingBinding 8 = .ok (.invokevirtual 151, 3) := by decide +kernel
theorem dX4_pendingBinding_11 : decode cX4_pendingBinding 11 = .ok (.ireturn, 1) := by decide +kernel
theorem dX4_flag_0 : decode cX4_flag 0 = .ok (.aload_n 0, 1) := by decide +kernel
theorem dX4_flag_1 : decode cX4_flag 1 = .ok (.iload_n 1, 1) := by decide +kernel
theorem dX4_flag_2 : decode cX4_flag 2 = .ok (.invokevirtual 144, 3) := by decide +kernel
theorem dX4_flag_5 : decode cX4_flag 5 = .ok (.ifCond .ne 5, 3) := by decide +kernel
theorem dX4_flag_8 : decode cX4_flag 8 = .ok (.iconst (-1), 1) := by decide +kernel
theorem dX4_flag_9 : decode cX4_flag 9 = .ok (.ireturn, 1) := by decide +kernel
theorem dX4_flag_10 : decode cX4_flag 10 = .ok (.aload_n 0, 1) := by decide +kernel
theorem dX4_flag_11 : decode cX4_flag 11 = .ok (.getfield 44, 3) := by decide +kernel
theorem dX4_flag_14 : decode cX4_flag 14 = .ok (.iload_n 1, 1) := by decide +kernel
theorem dX4_flag_15 : decode cX4_flag 15 = .ok (.iaload, 1) := by decide +kernel
theorem dX4_flag_16 : decode cX4_flag 16 = .ok (.ireturn, 1) := by decide +kernel
theorem dX4_stackSize_0 : decode cX4_stackSize 0 = .ok (.aload_n 0, 1) := by decide +kernel
theorem dX4_stackSize_1 : decode cX4_stackSize 1 = .ok (.getfield 41, 3) := by decide +kernel
theorem dX4_stackSize_4 : decode cX4_stackSize 4 = .ok (.invokevirtual 108, 3) := by decide +kernel
theorem dX4_stackSize_7 : decode cX4_stackSize 7 = .ok (.ireturn, 1) := by decide +kernel
theorem dX4_stackContext_0 : decode cX4_stackContext 0 = .ok (.iload_n 1, 1) := by decide +kernel
theorem dX4_stackContext_1 : decode cX4_stackContext 1 = .ok (.ifCond .ge 5, 3) := by decide +kernel
theorem dX4_stackContext_4 : decode cX4_stackContext 4 = .ok (.iconst (-1), 1) := by decide +kernel
theorem dX4_stackContext_5 : decode cX4_stackContext 5 = .ok (.ireturn, 1) := by decide +kernel
theorem dX4_stackContext_6 : decode cX4_stackContext 6 = .ok (.iload_n 1, 1) := by decide +kernel
theorem dX4_stackContext_7 : decode cX4_stackContext 7 = .ok (.aload_n 0, 1) := by decide +kernel
theorem dX4_stackContext_8 : decode cX4_stackContext 8 = .ok (.getfield 41, 3) := by decide +kernel
theorem dX4_stackContext_11 : decode cX4_stackContext 11 = .ok (.invokevirtual 108, 3) := by decide +kernel
theorem dX4_stackContext_14 : decode cX4_stackContext 14 = .ok (.if_icmp .lt 6, 3) := by decide +kernel
theorem dX4_stackContext_17 : decode cX4_stackContext 17 = .ok (.bipush (-4), 2) := by decide +kernel
theorem dX4_stackContext_19 : decode cX4_stackContext 19 = .ok (.ireturn, 1) := by decide +kernel
theorem dX4_stackContext_20 : decode cX4_stackContext 20 = .ok (.aload_n 0, 1) := by decide +kernel
theorem dX4_stackContext_21 : decode cX4_stackContext 21 = .ok (.getfield 41, 3) := by decide +kernel
theorem dX4_stackContext_24 : decode cX4_stackContext 24 = .ok (.aload_n 0, 1) := by decide +kernel
theorem dX4_stackContext_25 : decode cX4_stackContext 25 = .ok (.getfield 41, 3) := by decide +kernel
theorem dX4_stackContext_28 : decode cX4_stackContext 28 = .ok (.invokevirtual 108, 3) := by decide +kernel
theorem dX4_stackContext_31 : decode cX4_stackContext 31 = .ok (.iconst 1, 1) := by decide +kernel
theorem dX4_stackContext_32 : decode cX4_stackContext 32 = .ok (.isub, 1) := by decide +kernel
theorem dX4_stackContext_33 : decode cX4_stackContext 33 = .ok (.iload_n 1, 1) := by decide +kernel
theorem dX4_stackContext_34 : decode cX4_stackContext 34 = .ok (.isub, 1) := by decide +kernel
theorem dX4_stackContext_35 : decode cX4_stackContext 35 = .ok (.invokevirtual 101, 3) := by decide +kernel
theorem dX4_stackContext_38 : decode cX4_stackContext 38 = .ok (.checkcast 38, 3) := by decide +kernel
theorem dX4_stackContext_41 : decode cX4_stackContext 41 = .ok (.getfield 154, 3) := by decide +kernel
theorem dX4_stackContext_44 : decode cX4_stackContext 44 = .ok (.ireturn, 1) := by decide +kernel
theorem dX4_startRecording_0 : decode cX4_startRecording 0 = .ok (.aload_n 0, 1) := by decide +kernel
theorem dX4_startRecording_1 : decode cX4_startRecording 1 = .ok (.iload_n 1, 1) := by decide +kernel
theorem dX4_startRecording_2 : decode cX4_startRecording 2 = .ok (.invokevirtual 131, 3) := by decide +kernel
theorem dX4_startRecording_5 : decode cX4_startRecording 5 = .ok (.ifCond .ne 5, 3) := by decide +kernel
theorem dX4_startRecording_8 : decode cX4_startRecording 8 = .ok (.iconst (-1), 1) := by decide +kernel
theorem dX4_startRecording_9 : decode cX4_startRecording 9 = .ok (.ireturn, 1) := by decide +kernel
theorem dX4_startRecording_10 : decode cX4_startRecording 10 = .ok (.aload_n 0, 1) := by decide +kernel
theorem dX4_startRecording_11 : decode cX4_startRecording 11 = .ok (.getfield 62, 3) := by decide +kernel
theorem dX4_startRecording_14 : decode cX4_startRecording 14 = .ok (.iconst (-1), 1) := by decide +kernel
theorem dX4_startRecording_15 : decode cX4_startRecording 15 = .ok (.if_icmp .eq 6, 3) := by decide +kernel
theorem dX4_startRecording_18 : decode cX4_startRecording 18 = .ok (.bipush (-2), 2) := by decide +kernel
theorem dX4_startRecording_20 : decode cX4_startRecording 20 = .ok (.ireturn, 1) := by decide +kernel
theorem dX4_startRecording_21 : decode cX4_startRecording 21 = .ok (.aload_n 0, 1) := by decide +kernel
theorem dX4_startRecording_22 : decode cX4_startRecording 22 = .ok (.getfield 27, 3) := by decide +kernel
theorem dX4_startRecording_25 : decode cX4_startRecording 25 = .ok (.iload_n 1, 1) := by decide +kernel
theorem dX4_startRecording_26 : decode cX4_startRecording 26 = .ok (.invokevirtual 101, 3) := by decide +kernel
theorem dX4_startRecording_29 : decode cX4_startRecording 29 = .ok (.checkcast 9, 3) := by decide +kernel
theorem dX4_startRecording_32 : decode cX4_startRecording 32 = .ok (.astore_n 2, 1) := by decide +kernel
theorem dX4_startRecording_33 : decode cX4_startRecording 33 = .ok (.aload_n 2, 1) := by decide +kernel
theorem dX4_startRecording_34 : decode cX4_startRecording 34 = .ok (.invokevirtual 84, 3) := by decide +kernel
theorem dX4_startRecording_37 : decode cX4_startRecording 37 = .ok (.istore_n 3, 1) := by decide +kernel
theorem dX4_startRecording_38 : decode cX4_startRecording 38 = .ok (.aload_n 2, 1) := by decide +kernel
theorem dX4_startRecording_39 : decode cX4_startRecording 39 = .ok (.invokevirtual 88, 3) := by decide +kernel
theorem dX4_startRecording_42 : decode cX4_startRecording 42 = .ok (.aload_n 0, 1) := by decide +kernel
theorem dX4_startRecording_43 : decode cX4_startRecording 43 = .ok (.iload_n 1, 1) := by decide +kernel
theorem dX4_startRecording_44 : decode cX4_startRecording 44 = .ok (.putfield 62, 3) := by decide +kernel
theorem dX4_startRecording_47 : decode cX4_startRecording 47 = .ok (.iload_n 3, 1) := by decide +kernel
theorem dX4_startRecording_48 : decode cX4_startRecording 48 = .ok (.ireturn, 1) := by decide +kernel
theorem dX4_stopRecording_0 : decode cX4_stopRecording 0 = .ok (.aload_n 0, 1) := by decide +kernel
theorem dX4_stopRecording_1 : decode cX4_stopRecording 1 = .ok (.aload_n 0, 1) := by decide +kernel
theorem dX4_stopRecording_2 : decode cX4_stopRecording 2 = .ok (.getfield 62, 3) := by decide +kernel
theorem dX4_stopRecording_5 : decode cX4_stopRecording 5 = .ok (.invokevirtual 131, 3) := by decide +kernel
theorem dX4_stopRecording_8 : decode cX4_stopRecording 8 = .ok (.ifCond .ne 6, 3) := by decide +kernel
theorem dX4_stopRecording_11 : decode cX4_stopRecording 11 = .ok (.bipush (-2), 2) := by decide +kernel
theorem dX4_stopRecording_13 : decode cX4_stopRecording 13 = .ok (.ireturn, 1) := by decide +kernel
theorem dX4_stopRecording_14 : decode cX4_stopRecording 14 = .ok (.aload_n 0, 1) := by decide +kernel
theorem dX4_stopRecording_15 : decode cX4_stopRecording 15 = .ok (.getfield 27, 3) := by decide +kernel
theorem dX4_stopRecording_18 : decode cX4_stopRecording 18 = .ok (.aload_n 0, 1) := by decide +kernel
theorem dX4_stopRecording_19 : decode cX4_stopRecording 19 = .ok (.getfield 62, 3) := by decide +kernel
theorem dX4_stopRecording_22 : decode cX4_stopRecording 22 = .ok (.invokevirtual 101, 3) := by decide +kernel
theorem dX4_stopRecording_25 : decode cX4_stopRecording 25 = .ok (.checkcast 9, 3) := by decide +kernel
theorem dX4_stopRecording_28 : decode cX4_stopRecording 28 = .ok (.invokevirtual 84, 3) := by decide +kernel
theorem dX4_stopRecording_31 : decode cX4_stopRecording 31 = .ok (.istore_n 1, 1) := by decide +kernel
theorem dX4_stopRecording_32 : decode cX4_stopRecording 32 = .ok (.aload_n 0, 1) := by decide +kernel
theorem dX4_stopRecording_33 : decode cX4_stopRecording 33 = .ok (.iconst (-1), 1) := by decide +kernel
theorem dX4_stopRecording_34 : decode cX4_stopRecording 34 = .ok (.putfield 62, 3) := by decide +kernel
theorem dX4_stopRecording_37 : decode cX4_stopRecording 37 = .ok (.iload_n 1, 1) := by decide +kernel
theorem dX4_stopRecording_38 : decode cX4_stopRecording 38 = .ok (.ireturn, 1) := by decide +kernel
theorem dX4_macroKey_0 : decode cX4_macroKey 0 = .ok (.aload_n 0, 1) := by decide +kernel
theorem dX4_macroKey_1 : decode cX4_macroKey 1 = .ok (.iload_n 1, 1) := by decide +kernel
theorem dX4_macroKey_2 : decode cX4_macroKey 2 = .ok (.invokevirtual 131, 3) := by decide +kernel
theorem dX4_macroKey_5 : decode cX4_macroKey 5 = .ok (.ifCond .eq 7, 3) := by decide +kernel
theorem dX4_macroKey_8 : decode cX4_macroKey 8 = .ok (.iload_n 2, 1) := by decide +kernel
theorem dX4_macroKey_9 : decode cX4_macroKey 9 = .ok (.ifCond .ge 5, 3) := by decide +kernel
theorem dX4_macroKey_12 : decode cX4_macroKey 12 = .ok (.iconst (-1), 1) := by decide +kernel
theorem dX4_macroKey_13 : decode cX4_macroKey 13 = .ok (.ireturn, 1) := by decide +kernel
theorem dX4_macroKey_14 : decode cX4_macroKey 14 = .ok (.aload_n 0, 1) := by decide +kernel
theorem dX4_macroKey_15 : decode cX4_macroKey 15 = .ok (.getfield 27, 3) := by decide +kernel
theorem dX4_macroKey_18 : decode cX4_macroKey 18 = .ok (.iload_n 1, 1) := by decide +kernel
theorem dX4_macroKey_19 : decode cX4_macroKey 19 = .ok (.invokevirtual 101, 3) := by decide +kernel
theorem dX4_macroKey_22 : decode cX4_macroKey 22 = .ok (.checkcast 9, 3) := by decide +kernel
theorem dX4_macroKey_25 : decode cX4_macroKey 25 = .ok (.iload_n 2, 1) := by decide +kernel
theorem dX4_macroKey_26 : decode cX4_macroKey 26 = .ok (.invokevirtual 147, 3) := by decide +kernel
theorem dX4_macroKey_29 : decode cX4_macroKey 29 = .ok (.ireturn, 1) := by decide +kernel
theorem dX4_reportCount_0 : decode cX4_reportCount 0 = .ok (.aload_n 0, 1) := by decide +kernel
theorem dX4_reportCount_1 : decode cX4_reportCount 1 = .ok (.getfield 51, 3) := by decide +kernel
theorem dX4_reportCount_4 : decode cX4_reportCount 4 = .ok (.getfield 128, 3) := by decide +kernel
theorem dX4_reportCount_7 : decode cX4_reportCount 7 = .ok (.ireturn, 1) := by decide +kernel
theorem dX4_reportKind_0 : decode cX4_reportKind 0 = .ok (.iload_n 1, 1) := by decide +kernel
theorem dX4_reportKind_1 : decode cX4_reportKind 1 = .ok (.ifCond .ge 5, 3) := by decide +kernel
theorem dX4_reportKind_4 : decode cX4_reportKind 4 = .ok (.iconst (-1), 1) := by decide +kernel
theorem dX4_reportKind_5 : decode cX4_reportKind 5 = .ok (.ireturn, 1) := by decide +kernel
theorem dX4_reportKind_6 : decode cX4_reportKind 6 = .ok (.aload_n 0, 1) := by decide +kernel
theorem dX4_reportKind_7 : decode cX4_reportKind 7 = .ok (.getfield 51, 3) := by decide +kernel
theorem dX4_reportKind_10 : decode cX4_reportKind 10 = .ok (.iload_n 1, 1) := by decide +kernel
theorem dX4_reportKind_11 : decode cX4_reportKind 11 = .ok (.invokevirtual 157, 3) := by decide +kernel
theorem dX4_reportKind_14 : decode cX4_reportKind 14 = .ok (.ireturn, 1) := by decide +kernel
theorem dX4_reportArgument_0 : decode cX4_reportArgument 0 = .ok (.iload_n 1, 1) := by decide +kernel
theorem dX4_reportArgument_1 : decode cX4_reportArgument 1 = .ok (.ifCond .ge 5, 3) := by decide +kernel
theorem dX4_reportArgument_4 : decode cX4_reportArgument 4 = .ok (.iconst (-1), 1) := by decide +kernel
theorem dX4_reportArgument_5 : decode cX4_reportArgument 5 = .ok (.ireturn, 1) := by decide +kernel
theorem dX4_reportArgument_6 : decode cX4_reportArgument 6 = .ok (.aload_n 0, 1) := by decide +kernel
theorem dX4_reportArgument_7 : decode cX4_reportArgument 7 = .ok (.getfield 51, 3) := by decide +kernel
theorem dX4_reportArgument_10 : decode cX4_reportArgument 10 = .ok (.iload_n 1, 1) := by decide +kernel
theorem dX4_reportArgument_11 : decode cX4_reportArgument 11 = .ok (.invokevirtual 160, 3) := by decide +kernel
theorem dX4_reportArgument_14 : decode cX4_reportArgument 14 = .ok (.ireturn, 1) := by decide +kernel
theorem dX4_processWaitingKeys_0 : decode cX4_processWaitingKeys 0 = .ok (.iconst 0, 1) := by decide +kernel
theorem dX4_processWaitingKeys_1 : decode cX4_processWaitingKeys 1 = .ok (.istore_n 1, 1) := by decide +kernel
theorem dX4_processWaitingKeys_2 : decode cX4_processWaitingKeys 2 = .ok (.iload_n 1, 1) := by decide +kernel
theorem dX4_processWaitingKeys_3 : decode cX4_processWaitingKeys 3 = .ok (.ldc 163, 2) := by decide +kernel
theorem dX4_processWaitingKeys_5 : decode cX4_processWaitingKeys 5 = .ok (.if_icmp .ge 75, 3) := by decide +kernel
theorem dX4_processWaitingKeys_8 : decode cX4_processWaitingKeys 8 = .ok (.aload_n 0, 1) := by decide +kernel
theorem dX4_processWaitingKeys_9 : decode cX4_processWaitingKeys 9 = .ok (.getfield 21, 3) := by decide +kernel
theorem dX4_processWaitingKeys_12 : decode cX4_processWaitingKeys 12 = .ok (.invokevirtual 84, 3) := by decide +kernel
theorem dX4_processWaitingKeys_15 : decode cX4_processWaitingKeys 15 = .ok (.ifCond .le 65, 3) := by decide +kernel
theorem dX4_processWaitingKeys_18 : decode cX4_processWaitingKeys 18 = .ok (.aload_n 0, 1) := by decide +kernel
theorem dX4_processWaitingKeys_19 : decode cX4_processWaitingKeys 19 = .ok (.getfield 21, 3) := by decide +kernel
theorem dX4_processWaitingKeys_22 : decode cX4_processWaitingKeys 22 = .ok (.invokevirtual 164, 3) := by decide +kernel
theorem dX4_processWaitingKeys_25 : decode cX4_processWaitingKeys 25 = .ok (.istore_n 2, 1) := by decide +kernel
theorem dX4_processWaitingKeys_26 : decode cX4_processWaitingKeys 26 = .ok (.iload_n 2, 1) := by decide +kernel
theorem dX4_processWaitingKeys_27 : decode cX4_processWaitingKeys 27 = .ok (.iconst (-1), 1) := by decide +kernel
theorem dX4_processWaitingKeys_28 : decode cX4_processWaitingKeys 28 = .ok (.if_icmp .ne 16, 3) := by decide +kernel
theorem dX4_processWaitingKeys_31 : decode cX4_processWaitingKeys 31 = .ok (.aload_n 0, 1) := by decide +kernel
theorem dX4_processWaitingKeys_32 : decode cX4_processWaitingKeys 32 = .ok (.dup, 1) := by decide +kernel
theorem dX4_processWaitingKeys_33 : decode cX4_processWaitingKeys 33 = .ok (.getfield 65, 3) := by decide +kernel
theorem dX4_processWaitingKeys_36 : decode cX4_processWaitingKeys 36 = .ok (.iconst 1, 1) := by decide +kernel
theorem dX4_processWaitingKeys_37 : decode cX4_processWaitingKeys 37 = .ok (.isub, 1) := by decide +kernel
theorem dX4_processWaitingKeys_38 : decode cX4_processWaitingKeys 38 = .ok (.putfield 65, 3) := by decide +kernel
theorem dX4_processWaitingKeys_41 : decode cX4_processWaitingKeys 41 = .ok (.goto 33, 3) := by decide +kernel
theorem dX4_processWaitingKeys_44 : decode cX4_processWaitingKeys 44 = .ok (.aload_n 0, 1) := by decide +kernel
theorem dX4_processWaitingKeys_45 : decode cX4_processWaitingKeys 45 = .ok (.getfield 18, 3) := by decide +kernel
theorem dX4_processWaitingKeys_48 : decode cX4_processWaitingKeys 48 = .ok (.iload_n 2, 1) := by decide +kernel
theorem dX4_processWaitingKeys_49 : decode cX4_processWaitingKeys 49 = .ok (.invokevirtual 82, 3) := by decide +kernel
theorem dX4_processWaitingKeys_52 : decode cX4_processWaitingKeys 52 = .ok (.aload_n 0, 1) := by decide +kernel
theorem dX4_processWaitingKeys_53 : decode cX4_processWaitingKeys 53 = .ok (.invokevirtual 167, 3) := by decide +kernel
theorem dX4_processWaitingKeys_56 : decode cX4_processWaitingKeys 56 = .ok (.ifCond .eq 14, 3) := by decide +kernel
theorem dX4_processWaitingKeys_59 : decode cX4_processWaitingKeys 59 = .ok (.aload_n 0, 1) := by decide +kernel
theorem dX4_processWaitingKeys_60 : decode cX4_processWaitingKeys 60 = .ok (.aload_n 0, 1) := by decide +kernel
theorem dX4_processWaitingKeys_61 : decode cX4_processWaitingKeys 61 = .ok (.getfield 55, 3) := by decide +kernel
theorem dX4_processWaitingKeys_64 : decode cX4_processWaitingKeys 64 = .ok (.putfield 59, 3) := by decide +kernel
theorem dX4_processWaitingKeys_67 : decode cX4_processWaitingKeys 67 = .ok (.goto 7, 3) := by decide +kernel
theorem dX4_processWaitingKeys_70 : decode cX4_processWaitingKeys 70 = .ok (.aload_n 0, 1) := by decide +kernel
theorem dX4_processWaitingKeys_71 : decode cX4_processWaitingKeys 71 = .ok (.invokevirtual 141, 3) := by decide +kernel
theorem dX4_processWaitingKeys_74 : decode cX4_processWaitingKeys 74 = .ok (.iinc 1 1, 3) := by decide +kernel
theorem dX4_processWaitingKeys_77 : decode cX4_processWaitingKeys 77 = .ok (.goto (-75), 3) := by decide +kernel
theorem dX4_processWaitingKeys_80 : decode cX4_processWaitingKeys 80 = .ok (.return_, 1) := by decide +kernel
theorem dX4_isExtensible_0 : decode cX4_isExtensible 0 = .ok (.aload_n 0, 1) := by decide +kernel
theorem dX4_isExtensible_1 : decode cX4_isExtensible 1 = .ok (.getfield 41, 3) := by decide +kernel
theorem dX4_isExtensible_4 : decode cX4_isExtensible 4 = .ok (.invokevirtual 108, 3) := by decide +kernel
theorem dX4_isExtensible_7 : decode cX4_isExtensible 7 = .ok (.iconst 1, 1) := by decide +kernel
theorem dX4_isExtensible_8 : decode cX4_isExtensible 8 = .ok (.isub, 1) := by decide +kernel
theorem dX4_isExtensible_9 : decode cX4_isExtensible 9 = .ok (.istore_n 1, 1) := by decide +kernel
theorem dX4_isExtensible_10 : decode cX4_isExtensible 10 = .ok (.iload_n 1, 1) := by decide +kernel
theorem dX4_isExtensible_11 : decode cX4_isExtensible 11 = .ok (.ifCond .lt 76, 3) := by decide +kernel
theorem dX4_isExtensible_14 : decode cX4_isExtensible 14 = .ok (.aload_n 0, 1) := by decide +kernel
theorem dX4_isExtensible_15 : decode cX4_isExtensible 15 = .ok (.getfield 41, 3) := by decide +kernel
theorem dX4_isExtensible_18 : decode cX4_isExtensible 18 = .ok (.iload_n 1, 1) := by decide +kernel
theorem dX4_isExtensible_19 : decode cX4_isExtensible 19 = .ok (.invokevirtual 101, 3) := by decide +kernel
theorem dX4_isExtensible_22 : decode cX4_isExtensible 22 = .ok (.checkcast 38, 3) := by decide +kernel
theorem dX4_isExtensible_25 : decode cX4_isExtensible 25 = .ok (.getfield 105, 3) := by decide +kernel
theorem dX4_isExtensible_28 : decode cX4_isExtensible 28 = .ok (.astore_n 2, 1) := by decide +kernel
theorem dX4_isExtensible_29 : decode cX4_isExtensible 29 = .ok (.iconst 0, 1) := by decide +kernel
theorem dX4_isExtensible_30 : decode cX4_isExtensible 30 = .ok (.istore_n 3, 1) := by decide +kernel
theorem dX4_isExtensible_31 : decode cX4_isExtensible 31 = .ok (.iload_n 3, 1) := by decide +kernel
theorem dX4_isExtensible_32 : decode cX4_isExtensible 32 = .ok (.aload_n 2, 1) := by decide +kernel
theorem dX4_isExtensible_33 : decode cX4_isExtensible 33 = .ok (.invokevirtual 108, 3) := by decide +kernel
theorem dX4_isExtensible_36 : decode cX4_isExtensible 36 = .ok (.if_icmp .ge 45, 3) := by decide +kernel
end
section
theorem dX4_isExtensible_39 : decode cX4_isExtensible 39 = .ok (.aload_n 2, 1) := by decide +kernel
theorem dX4_isExtensible_40 : decode cX4_isExtensible 40 = .ok (.iload_n 3, 1) := by decide +kernel
theorem dX4_isExtensible_41 : decode cX4_isExtensible 41 = .ok (.invokevirtual 101, 3) := by decide +kernel
theorem dX4_isExtensible_44 : decode cX4_isExtensible 44 = .ok (.checkcast 109, 3) := by decide +kernel
theorem dX4_isExtensible_47 : decode cX4_isExtensible 47 = .ok (.astore 4, 2) := by decide +kernel
theorem dX4_isExtensible_49 : decode cX4_isExtensible 49 = .ok (.aload 4, 2) := by decide +kernel
theorem dX4_isExtensible_51 : decode cX4_isExtensible 51 = .ok (.aload_n 0, 1) := by decide +kernel
theorem dX4_isExtensible_52 : decode cX4_isExtensible 52 = .ok (.getfield 18, 3) := by decide +kernel
theorem dX4_isExtensible_55 : decode cX4_isExtensible 55 = .ok (.invokevirtual 170, 3) := by decide +kernel
theorem dX4_isExtensible_58 : decode cX4_isExtensible 58 = .ok (.ifCond .eq 17, 3) := by decide +kernel
theorem dX4_isExtensible_61 : decode cX4_isExtensible 61 = .ok (.aload 4, 2) := by decide +kernel
theorem dX4_isExtensible_63 : decode cX4_isExtensible 63 = .ok (.aload_n 0, 1) := by decide +kernel
theorem dX4_isExtensible_64 : decode cX4_isExtensible 64 = .ok (.getfield 44, 3) := by decide +kernel
theorem dX4_isExtensible_67 : decode cX4_isExtensible 67 = .ok (.invokevirtual 174, 3) := by decide +kernel
theorem dX4_isExtensible_70 : decode cX4_isExtensible 70 = .ok (.ifCond .eq 5, 3) := by decide +kernel
theorem dX4_isExtensible_73 : decode cX4_isExtensible 73 = .ok (.iconst 1, 1) := by decide +kernel
theorem dX4_isExtensible_74 : decode cX4_isExtensible 74 = .ok (.ireturn, 1) := by decide +kernel
theorem dX4_isExtensible_75 : decode cX4_isExtensible 75 = .ok (.iinc 3 1, 3) := by decide +kernel
theorem dX4_isExtensible_78 : decode cX4_isExtensible 78 = .ok (.goto (-47), 3) := by decide +kernel
theorem dX4_isExtensible_81 : decode cX4_isExtensible 81 = .ok (.iinc 1 (-1), 3) := by decide +kernel
theorem dX4_isExtensible_84 : decode cX4_isExtensible 84 = .ok (.goto (-74), 3) := by decide +kernel
theorem dX4_isExtensible_87 : decode cX4_isExtensible 87 = .ok (.iconst 0, 1) := by decide +kernel
theorem dX4_isExtensible_88 : decode cX4_isExtensible 88 = .ok (.ireturn, 1) := by decide +kernel
theorem dX4_releasePending_0 : decode cX4_releasePending 0 = .ok (.aload_n 0, 1) := by decide +kernel
theorem dX4_releasePending_1 : decode cX4_releasePending 1 = .ok (.getfield 18, 3) := by decide +kernel
theorem dX4_releasePending_4 : decode cX4_releasePending 4 = .ok (.invokevirtual 84, 3) := by decide +kernel
theorem dX4_releasePending_7 : decode cX4_releasePending 7 = .ok (.istore_n 1, 1) := by decide +kernel
theorem dX4_releasePending_8 : decode cX4_releasePending 8 = .ok (.aload_n 0, 1) := by decide +kernel
theorem dX4_releasePending_9 : decode cX4_releasePending 9 = .ok (.iload_n 1, 1) := by decide +kernel
theorem dX4_releasePending_10 : decode cX4_releasePending 10 = .ok (.invokevirtual 151, 3) := by decide +kernel
theorem dX4_releasePending_13 : decode cX4_releasePending 13 = .ok (.istore_n 2, 1) := by decide +kernel
theorem dX4_releasePending_14 : decode cX4_releasePending 14 = .ok (.iload_n 2, 1) := by decide +kernel
theorem dX4_releasePending_15 : decode cX4_releasePending 15 = .ok (.bipush (-4), 2) := by decide +kernel
theorem dX4_releasePending_17 : decode cX4_releasePending 17 = .ok (.if_icmp .ne 20, 3) := by decide +kernel
theorem dX4_releasePending_20 : decode cX4_releasePending 20 = .ok (.iload_n 1, 1) := by decide +kernel
theorem dX4_releasePending_21 : decode cX4_releasePending 21 = .ok (.iconst 1, 1) := by decide +kernel
theorem dX4_releasePending_22 : decode cX4_releasePending 22 = .ok (.if_icmp .le 15, 3) := by decide +kernel
theorem dX4_releasePending_25 : decode cX4_releasePending 25 = .ok (.iinc 1 (-1), 3) := by decide +kernel
theorem dX4_releasePending_28 : decode cX4_releasePending 28 = .ok (.aload_n 0, 1) := by decide +kernel
theorem dX4_releasePending_29 : decode cX4_releasePending 29 = .ok (.iload_n 1, 1) := by decide +kernel
theorem dX4_releasePending_30 : decode cX4_releasePending 30 = .ok (.invokevirtual 151, 3) := by decide +kernel
theorem dX4_releasePending_33 : decode cX4_releasePending 33 = .ok (.istore_n 2, 1) := by decide +kernel
theorem dX4_releasePending_34 : decode cX4_releasePending 34 = .ok (.goto (-20), 3) := by decide +kernel
theorem dX4_releasePending_37 : decode cX4_releasePending 37 = .ok (.aload_n 0, 1) := by decide +kernel
theorem dX4_releasePending_38 : decode cX4_releasePending 38 = .ok (.getfield 18, 3) := by decide +kernel
theorem dX4_releasePending_41 : decode cX4_releasePending 41 = .ok (.iconst 0, 1) := by decide +kernel
theorem dX4_releasePending_42 : decode cX4_releasePending 42 = .ok (.invokevirtual 147, 3) := by decide +kernel
theorem dX4_releasePending_45 : decode cX4_releasePending 45 = .ok (.istore_n 3, 1) := by decide +kernel
theorem dX4_releasePending_46 : decode cX4_releasePending 46 = .ok (.aload_n 0, 1) := by decide +kernel
theorem dX4_releasePending_47 : decode cX4_releasePending 47 = .ok (.getfield 18, 3) := by decide +kernel
theorem dX4_releasePending_50 : decode cX4_releasePending 50 = .ok (.invokevirtual 84, 3) := by decide +kernel
theorem dX4_releasePending_53 : decode cX4_releasePending 53 = .ok (.iconst 1, 1) := by decide +kernel
theorem dX4_releasePending_54 : decode cX4_releasePending 54 = .ok (.isub, 1) := by decide +kernel
theorem dX4_releasePending_55 : decode cX4_releasePending 55 = .ok (.istore 4, 2) := by decide +kernel
theorem dX4_releasePending_57 : decode cX4_releasePending 57 = .ok (.iload 4, 2) := by decide +kernel
theorem dX4_releasePending_59 : decode cX4_releasePending 59 = .ok (.iload_n 1, 1) := by decide +kernel
theorem dX4_releasePending_60 : decode cX4_releasePending 60 = .ok (.if_icmp .lt 25, 3) := by decide +kernel
theorem dX4_releasePending_63 : decode cX4_releasePending 63 = .ok (.aload_n 0, 1) := by decide +kernel
theorem dX4_releasePending_64 : decode cX4_releasePending 64 = .ok (.getfield 21, 3) := by decide +kernel
theorem dX4_releasePending_67 : decode cX4_releasePending 67 = .ok (.aload_n 0, 1) := by decide +kernel
theorem dX4_releasePending_68 : decode cX4_releasePending 68 = .ok (.getfield 18, 3) := by decide +kernel
theorem dX4_releasePending_71 : decode cX4_releasePending 71 = .ok (.iload 4, 2) := by decide +kernel
theorem dX4_releasePending_73 : decode cX4_releasePending 73 = .ok (.invokevirtual 147, 3) := by decide +kernel
theorem dX4_releasePending_76 : decode cX4_releasePending 76 = .ok (.invokevirtual 82, 3) := by decide +kernel
theorem dX4_releasePending_79 : decode cX4_releasePending 79 = .ok (.iinc 4 (-1), 3) := by decide +kernel
theorem dX4_releasePending_82 : decode cX4_releasePending 82 = .ok (.goto (-25), 3) := by decide +kernel
theorem dX4_releasePending_85 : decode cX4_releasePending 85 = .ok (.aload_n 0, 1) := by decide +kernel
theorem dX4_releasePending_86 : decode cX4_releasePending 86 = .ok (.getfield 18, 3) := by decide +kernel
theorem dX4_releasePending_89 : decode cX4_releasePending 89 = .ok (.invokevirtual 88, 3) := by decide +kernel
theorem dX4_releasePending_92 : decode cX4_releasePending 92 = .ok (.iload_n 2, 1) := by decide +kernel
theorem dX4_releasePending_93 : decode cX4_releasePending 93 = .ok (.bipush (-4), 2) := by decide +kernel
theorem dX4_releasePending_95 : decode cX4_releasePending 95 = .ok (.if_icmp .ne 15, 3) := by decide +kernel
theorem dX4_releasePending_98 : decode cX4_releasePending 98 = .ok (.aload_n 0, 1) := by decide +kernel
theorem dX4_releasePending_99 : decode cX4_releasePending 99 = .ok (.getfield 51, 3) := by decide +kernel
theorem dX4_releasePending_102 : decode cX4_releasePending 102 = .ok (.iconst 1, 1) := by decide +kernel
theorem dX4_releasePending_103 : decode cX4_releasePending 103 = .ok (.iload_n 3, 1) := by decide +kernel
theorem dX4_releasePending_104 : decode cX4_releasePending 104 = .ok (.invokevirtual 178, 3) := by decide +kernel
theorem dX4_releasePending_107 : decode cX4_releasePending 107 = .ok (.goto 15, 3) := by decide +kernel
theorem dX4_releasePending_110 : decode cX4_releasePending 110 = .ok (.aload_n 0, 1) := by decide +kernel
theorem dX4_releasePending_111 : decode cX4_releasePending 111 = .ok (.iload_n 2, 1) := by decide +kernel
theorem dX4_releasePending_112 : decode cX4_releasePending 112 = .ok (.bipush 16, 2) := by decide +kernel
theorem dX4_releasePending_114 : decode cX4_releasePending 114 = .ok (.idiv, 1) := by decide +kernel
theorem dX4_releasePending_115 : decode cX4_releasePending 115 = .ok (.iload_n 2, 1) := by decide +kernel
theorem dX4_releasePending_116 : decode cX4_releasePending 116 = .ok (.bipush 16, 2) := by decide +kernel
theorem dX4_releasePending_118 : decode cX4_releasePending 118 = .ok (.irem, 1) := by decide +kernel
theorem dX4_releasePending_119 : decode cX4_releasePending 119 = .ok (.invokevirtual 181, 3) := by decide +kernel
theorem dX4_releasePending_122 : decode cX4_releasePending 122 = .ok (.return_, 1) := by decide +kernel
theorem dX4_findBinding_0 : decode cX4_findBinding 0 = .ok (.aload_n 0, 1) := by decide +kernel
theorem dX4_findBinding_1 : decode cX4_findBinding 1 = .ok (.getfield 41, 3) := by decide +kernel
theorem dX4_findBinding_4 : decode cX4_findBinding 4 = .ok (.invokevirtual 108, 3) := by decide +kernel
theorem dX4_findBinding_7 : decode cX4_findBinding 7 = .ok (.iconst 1, 1) := by decide +kernel
theorem dX4_findBinding_8 : decode cX4_findBinding 8 = .ok (.isub, 1) := by decide +kernel
theorem dX4_findBinding_9 : decode cX4_findBinding 9 = .ok (.istore_n 2, 1) := by decide +kernel
theorem dX4_findBinding_10 : decode cX4_findBinding 10 = .ok (.iload_n 2, 1) := by decide +kernel
theorem dX4_findBinding_11 : decode cX4_findBinding 11 = .ok (.ifCond .lt 92, 3) := by decide +kernel
theorem dX4_findBinding_14 : decode cX4_findBinding 14 = .ok (.aload_n 0, 1) := by decide +kernel
theorem dX4_findBinding_15 : decode cX4_findBinding 15 = .ok (.getfield 41, 3) := by decide +kernel
theorem dX4_findBinding_18 : decode cX4_findBinding 18 = .ok (.iload_n 2, 1) := by decide +kernel
theorem dX4_findBinding_19 : decode cX4_findBinding 19 = .ok (.invokevirtual 101, 3) := by decide +kernel
theorem dX4_findBinding_22 : decode cX4_findBinding 22 = .ok (.checkcast 38, 3) := by decide +kernel
theorem dX4_findBinding_25 : decode cX4_findBinding 25 = .ok (.astore_n 3, 1) := by decide +kernel
theorem dX4_findBinding_26 : decode cX4_findBinding 26 = .ok (.iconst 0, 1) := by decide +kernel
theorem dX4_findBinding_27 : decode cX4_findBinding 27 = .ok (.istore 4, 2) := by decide +kernel
theorem dX4_findBinding_29 : decode cX4_findBinding 29 = .ok (.iload 4, 2) := by decide +kernel
theorem dX4_findBinding_31 : decode cX4_findBinding 31 = .ok (.aload_n 3, 1) := by decide +kernel
theorem dX4_findBinding_32 : decode cX4_findBinding 32 = .ok (.getfield 105, 3) := by decide +kernel
theorem dX4_findBinding_35 : decode cX4_findBinding 35 = .ok (.invokevirtual 108, 3) := by decide +kernel
theorem dX4_findBinding_38 : decode cX4_findBinding 38 = .ok (.if_icmp .ge 59, 3) := by decide +kernel
theorem dX4_findBinding_41 : decode cX4_findBinding 41 = .ok (.aload_n 3, 1) := by decide +kernel
theorem dX4_findBinding_42 : decode cX4_findBinding 42 = .ok (.getfield 105, 3) := by decide +kernel
theorem dX4_findBinding_45 : decode cX4_findBinding 45 = .ok (.iload 4, 2) := by decide +kernel
theorem dX4_findBinding_47 : decode cX4_findBinding 47 = .ok (.invokevirtual 101, 3) := by decide +kernel
theorem dX4_findBinding_50 : decode cX4_findBinding 50 = .ok (.checkcast 109, 3) := by decide +kernel
theorem dX4_findBinding_53 : decode cX4_findBinding 53 = .ok (.astore 5, 2) := by decide +kernel
theorem dX4_findBinding_55 : decode cX4_findBinding 55 = .ok (.aload 5, 2) := by decide +kernel
theorem dX4_findBinding_57 : decode cX4_findBinding 57 = .ok (.aload_n 0, 1) := by decide +kernel
theorem dX4_findBinding_58 : decode cX4_findBinding 58 = .ok (.getfield 18, 3) := by decide +kernel
theorem dX4_findBinding_61 : decode cX4_findBinding 61 = .ok (.iload_n 1, 1) := by decide +kernel
theorem dX4_findBinding_62 : decode cX4_findBinding 62 = .ok (.invokevirtual 184, 3) := by decide +kernel
theorem dX4_findBinding_65 : decode cX4_findBinding 65 = .ok (.ifCond .eq 26, 3) := by decide +kernel
theorem dX4_findBinding_68 : decode cX4_findBinding 68 = .ok (.aload 5, 2) := by decide +kernel
theorem dX4_findBinding_70 : decode cX4_findBinding 70 = .ok (.aload_n 0, 1) := by decide +kernel
theorem dX4_findBinding_71 : decode cX4_findBinding 71 = .ok (.getfield 44, 3) := by decide +kernel
theorem dX4_findBinding_74 : decode cX4_findBinding 74 = .ok (.invokevirtual 174, 3) := by decide +kernel
theorem dX4_findBinding_77 : decode cX4_findBinding 77 = .ok (.ifCond .eq 14, 3) := by decide +kernel
theorem dX4_findBinding_80 : decode cX4_findBinding 80 = .ok (.bipush 16, 2) := by decide +kernel
theorem dX4_findBinding_82 : decode cX4_findBinding 82 = .ok (.aload_n 3, 1) := by decide +kernel
theorem dX4_findBinding_83 : decode cX4_findBinding 83 = .ok (.getfield 154, 3) := by decide +kernel
theorem dX4_findBinding_86 : decode cX4_findBinding 86 = .ok (.imul, 1) := by decide +kernel
theorem dX4_findBinding_87 : decode cX4_findBinding 87 = .ok (.iload 4, 2) := by decide +kernel
theorem dX4_findBinding_89 : decode cX4_findBinding 89 = .ok (.iadd, 1) := by decide +kernel
theorem dX4_findBinding_90 : decode cX4_findBinding 90 = .ok (.ireturn, 1) := by decide +kernel
theorem dX4_findBinding_91 : decode cX4_findBinding 91 = .ok (.iinc 4 1, 3) := by decide +kernel
theorem dX4_findBinding_94 : decode cX4_findBinding 94 = .ok (.goto (-65), 3) := by decide +kernel
theorem dX4_findBinding_97 : decode cX4_findBinding 97 = .ok (.iinc 2 (-1), 3) := by decide +kernel
theorem dX4_findBinding_100 : decode cX4_findBinding 100 = .ok (.goto (-90), 3) := by decide +kernel
theorem dX4_findBinding_103 : decode cX4_findBinding 103 = .ok (.bipush (-4), 2) := by decide +kernel
theorem dX4_findBinding_105 : decode cX4_findBinding 105 = .ok (.ireturn, 1) := by decide +kernel
theorem dX4_perform_0 : decode cX4_perform 0 = .ok (.aload_n 0, 1) := by decide +kernel
theorem dX4_perform_1 : decode cX4_perform 1 = .ok (.iload_n 1, 1) := by decide +kernel
theorem dX4_perform_2 : decode cX4_perform 2 = .ok (.iload_n 2, 1) := by decide +kernel
theorem dX4_perform_3 : decode cX4_perform 3 = .ok (.invokevirtual 118, 3) := by decide +kernel
theorem dX4_perform_6 : decode cX4_perform 6 = .ok (.ifCond .ne 4, 3) := by decide +kernel
theorem dX4_perform_9 : decode cX4_perform 9 = .ok (.return_, 1) := by decide +kernel
theorem dX4_perform_10 : decode cX4_perform 10 = .ok (.aload_n 0, 1) := by decide +kernel
theorem dX4_perform_11 : decode cX4_perform 11 = .ok (.getfield 35, 3) := by decide +kernel
theorem dX4_perform_14 : decode cX4_perform 14 = .ok (.iload_n 1, 1) := by decide +kernel
theorem dX4_perform_15 : decode cX4_perform 15 = .ok (.invokevirtual 101, 3) := by decide +kernel
theorem dX4_perform_18 : decode cX4_perform 18 = .ok (.checkcast 38, 3) := by decide +kernel
theorem dX4_perform_21 : decode cX4_perform 21 = .ok (.getfield 105, 3) := by decide +kernel
theorem dX4_perform_24 : decode cX4_perform 24 = .ok (.iload_n 2, 1) := by decide +kernel
theorem dX4_perform_25 : decode cX4_perform 25 = .ok (.invokevirtual 101, 3) := by decide +kernel
theorem dX4_perform_28 : decode cX4_perform 28 = .ok (.checkcast 109, 3) := by decide +kernel
theorem dX4_perform_31 : decode cX4_perform 31 = .ok (.astore_n 3, 1) := by decide +kernel
theorem dX4_perform_32 : decode cX4_perform 32 = .ok (.aload_n 3, 1) := by decide +kernel
theorem dX4_perform_33 : decode cX4_perform 33 = .ok (.getfield 188, 3) := by decide +kernel
theorem dX4_perform_36 : decode cX4_perform 36 = .ok (.istore 4, 2) := by decide +kernel
theorem dX4_perform_38 : decode cX4_perform 38 = .ok (.aload_n 0, 1) := by decide +kernel
theorem dX4_perform_39 : decode cX4_perform 39 = .ok (.aload_n 3, 1) := by decide +kernel
theorem dX4_perform_40 : decode cX4_perform 40 = .ok (.getfield 191, 3) := by decide +kernel
theorem dX4_perform_43 : decode cX4_perform 43 = .ok (.iload 4, 2) := by decide +kernel
theorem dX4_perform_45 : decode cX4_perform 45 = .ok (.invokevirtual 194, 3) := by decide +kernel
theorem dX4_perform_48 : decode cX4_perform 48 = .ok (.ifCond .eq 14, 3) := by decide +kernel
theorem dX4_perform_51 : decode cX4_perform 51 = .ok (.aload_n 0, 1) := by decide +kernel
theorem dX4_perform_52 : decode cX4_perform 52 = .ok (.getfield 51, 3) := by decide +kernel
theorem dX4_perform_55 : decode cX4_perform 55 = .ok (.iconst 2, 1) := by decide +kernel
theorem dX4_perform_56 : decode cX4_perform 56 = .ok (.iload 4, 2) := by decide +kernel
theorem dX4_perform_58 : decode cX4_perform 58 = .ok (.invokevirtual 178, 3) := by decide +kernel
theorem dX4_perform_61 : decode cX4_perform 61 = .ok (.return_, 1) := by decide +kernel
theorem dX4_perform_62 : decode cX4_perform 62 = .ok (.aload_n 3, 1) := by decide +kernel
theorem dX4_perform_63 : decode cX4_perform 63 = .ok (.getfield 191, 3) := by decide +kernel
theorem dX4_perform_66 : decode cX4_perform 66 = .ok (.tableswitch 98 0 5 #[38, 51, 60, 69, 76, 87], 38) := by decide +kernel
theorem dX4_perform_104 : decode cX4_perform 104 = .ok (.aload_n 0, 1) := by decide +kernel
theorem dX4_perform_105 : decode cX4_perform 105 = .ok (.getfield 51, 3) := by decide +kernel
theorem dX4_perform_108 : decode cX4_perform 108 = .ok (.iconst 0, 1) := by decide +kernel
theorem dX4_perform_109 : decode cX4_perform 109 = .ok (.iload 4, 2) := by decide +kernel
theorem dX4_perform_111 : decode cX4_perform 111 = .ok (.invokevirtual 178, 3) := by decide +kernel
theorem dX4_perform_114 : decode cX4_perform 114 = .ok (.goto 50, 3) := by decide +kernel
theorem dX4_perform_117 : decode cX4_perform 117 = .ok (.aload_n 0, 1) := by decide +kernel
theorem dX4_perform_118 : decode cX4_perform 118 = .ok (.iload 4, 2) := by decide +kernel
theorem dX4_perform_120 : decode cX4_perform 120 = .ok (.invokevirtual 197, 3) := by decide +kernel
theorem dX4_perform_123 : decode cX4_perform 123 = .ok (.goto 41, 3) := by decide +kernel
theorem dX4_perform_126 : decode cX4_perform 126 = .ok (.aload_n 0, 1) := by decide +kernel
theorem dX4_perform_127 : decode cX4_perform 127 = .ok (.iload 4, 2) := by decide +kernel
theorem dX4_perform_129 : decode cX4_perform 129 = .ok (.invokevirtual 71, 3) := by decide +kernel
theorem dX4_perform_132 : decode cX4_perform 132 = .ok (.goto 32, 3) := by decide +kernel
theorem dX4_perform_135 : decode cX4_perform 135 = .ok (.aload_n 0, 1) := by decide +kernel
theorem dX4_perform_136 : decode cX4_perform 136 = .ok (.invokevirtual 200, 3) := by decide +kernel
theorem dX4_perform_139 : decode cX4_perform 139 = .ok (.goto 25, 3) := by decide +kernel
theorem dX4_perform_142 : decode cX4_perform 142 = .ok (.aload_n 0, 1) := by decide +kernel
theorem dX4_perform_143 : decode cX4_perform 143 = .ok (.iload 4, 2) := by decide +kernel
theorem dX4_perform_145 : decode cX4_perform 145 = .ok (.iconst 1, 1) := by decide +kernel
theorem dX4_perform_146 : decode cX4_perform 146 = .ok (.invokevirtual 203, 3) := by decide +kernel
theorem dX4_perform_149 : decode cX4_perform 149 = .ok (.pop, 1) := by decide +kernel
theorem dX4_perform_150 : decode cX4_perform 150 = .ok (.goto 14, 3) := by decide +kernel
theorem dX4_perform_153 : decode cX4_perform 153 = .ok (.aload_n 0, 1) := by decide +kernel
theorem dX4_perform_154 : decode cX4_perform 154 = .ok (.iload 4, 2) := by decide +kernel
theorem dX4_perform_156 : decode cX4_perform 156 = .ok (.iconst 0, 1) := by decide +kernel
theorem dX4_perform_157 : decode cX4_perform 157 = .ok (.invokevirtual 203, 3) := by decide +kernel
theorem dX4_perform_160 : decode cX4_perform 160 = .ok (.pop, 1) := by decide +kernel
theorem dX4_perform_161 : decode cX4_perform 161 = .ok (.goto 3, 3) := by decide +kernel
theorem dX4_perform_164 : decode cX4_perform 164 = .ok (.return_, 1) := by decide +kernel
theorem dX4_isRefused_0 : decode cX4_isRefused 0 = .ok (.iload_n 1, 1) := by decide +kernel
theorem dX4_isRefused_1 : decode cX4_isRefused 1 = .ok (.tableswitch 92 1 3 #[27, 58, 75], 27) := by decide +kernel
theorem dX4_isRefused_28 : decode cX4_isRefused 28 = .ok (.iload_n 2, 1) := by decide +kernel
theorem dX4_isRefused_29 : decode cX4_isRefused 29 = .ok (.aload_n 0, 1) := by decide +kernel
theorem dX4_isRefused_30 : decode cX4_isRefused 30 = .ok (.getfield 62, 3) := by decide +kernel
theorem dX4_isRefused_33 : decode cX4_isRefused 33 = .ok (.if_icmp .eq 20, 3) := by decide +kernel
theorem dX4_isRefused_36 : decode cX4_isRefused 36 = .ok (.aload_n 0, 1) := by decide +kernel
theorem dX4_isRefused_37 : decode cX4_isRefused 37 = .ok (.getfield 65, 3) := by decide +kernel
theorem dX4_isRefused_40 : decode cX4_isRefused 40 = .ok (.iconst 3, 1) := by decide +kernel
theorem dX4_isRefused_41 : decode cX4_isRefused 41 = .ok (.if_icmp .ge 12, 3) := by decide +kernel
theorem dX4_isRefused_44 : decode cX4_isRefused 44 = .ok (.aload_n 0, 1) := by decide +kernel
theorem dX4_isRefused_45 : decode cX4_isRefused 45 = .ok (.getfield 68, 3) := by decide +kernel
theorem dX4_isRefused_48 : decode cX4_isRefused 48 = .ok (.bipush 20, 2) := by decide +kernel
theorem dX4_isRefused_50 : decode cX4_isRefused 50 = .ok (.if_icmp .lt 7, 3) := by decide +kernel
theorem dX4_isRefused_53 : decode cX4_isRefused 53 = .ok (.iconst 1, 1) := by decide +kernel
theorem dX4_isRefused_54 : decode cX4_isRefused 54 = .ok (.goto 4, 3) := by decide +kernel
theorem dX4_isRefused_57 : decode cX4_isRefused 57 = .ok (.iconst 0, 1) := by decide +kernel
theorem dX4_isRefused_58 : decode cX4_isRefused 58 = .ok (.ireturn, 1) := by decide +kernel
theorem dX4_isRefused_59 : decode cX4_isRefused 59 = .ok (.aload_n 0, 1) := by decide +kernel
theorem dX4_isRefused_60 : decode cX4_isRefused 60 = .ok (.getfield 41, 3) := by decide +kernel
theorem dX4_isRefused_63 : decode cX4_isRefused 63 = .ok (.invokevirtual 108, 3) := by decide +kernel
theorem dX4_isRefused_66 : decode cX4_isRefused 66 = .ok (.iconst 4, 1) := by decide +kernel
theorem dX4_isRefused_67 : decode cX4_isRefused 67 = .ok (.if_icmp .lt 7, 3) := by decide +kernel
theorem dX4_isRefused_70 : decode cX4_isRefused 70 = .ok (.iconst 1, 1) := by decide +kernel
theorem dX4_isRefused_71 : decode cX4_isRefused 71 = .ok (.goto 4, 3) := by decide +kernel
theorem dX4_isRefused_74 : decode cX4_isRefused 74 = .ok (.iconst 0, 1) := by decide +kernel
theorem dX4_isRefused_75 : decode cX4_isRefused 75 = .ok (.ireturn, 1) := by decide +kernel
theorem dX4_isRefused_76 : decode cX4_isRefused 76 = .ok (.aload_n 0, 1) := by decide +kernel
theorem dX4_isRefused_77 : decode cX4_isRefused 77 = .ok (.getfield 41, 3) := by decide +kernel
theorem dX4_isRefused_80 : decode cX4_isRefused 80 = .ok (.invokevirtual 108, 3) := by decide +kernel
theorem dX4_isRefused_83 : decode cX4_isRefused 83 = .ok (.iconst 1, 1) := by decide +kernel
theorem dX4_isRefused_84 : decode cX4_isRefused 84 = .ok (.if_icmp .gt 7, 3) := by decide +kernel
theorem dX4_isRefused_87 : decode cX4_isRefused 87 = .ok (.iconst 1, 1) := by decide +kernel
theorem dX4_isRefused_88 : decode cX4_isRefused 88 = .ok (.goto 4, 3) := by decide +kernel
theorem dX4_isRefused_91 : decode cX4_isRefused 91 = .ok (.iconst 0, 1) := by decide +kernel
theorem dX4_isRefused_92 : decode cX4_isRefused 92 = .ok (.ireturn, 1) := by decide +kernel
theorem dX4_isRefused_93 : decode cX4_isRefused 93 = .ok (.iconst 0, 1) := by decide +kernel
theorem dX4_isRefused_94 : decode cX4_isRefused 94 = .ok (.ireturn, 1) := by decide +kernel
theorem dX4_play_0 : decode cX4_play 0 = .ok (.aload_n 0, 1) := by decide +kernel
theorem dX4_play_1 : decode cX4_play 1 = .ok (.iload_n 1, 1) := by decide +kernel
theorem dX4_play_2 : decode cX4_play 2 = .ok (.invokevirtual 131, 3) := by decide +kernel
theorem dX4_play_5 : decode cX4_play 5 = .ok (.ifCond .ne 4, 3) := by decide +kernel
theorem dX4_play_8 : decode cX4_play 8 = .ok (.return_, 1) := by decide +kernel
theorem dX4_play_9 : decode cX4_play 9 = .ok (.aload_n 0, 1) := by decide +kernel
theorem dX4_play_10 : decode cX4_play 10 = .ok (.dup, 1) := by decide +kernel
theorem dX4_play_11 : decode cX4_play 11 = .ok (.getfield 65, 3) := by decide +kernel
theorem dX4_play_14 : decode cX4_play 14 = .ok (.iconst 1, 1) := by decide +kernel
theorem dX4_play_15 : decode cX4_play 15 = .ok (.iadd, 1) := by decide +kernel
theorem dX4_play_16 : decode cX4_play 16 = .ok (.putfield 65, 3) := by decide +kernel
theorem dX4_play_19 : decode cX4_play 19 = .ok (.aload_n 0, 1) := by decide +kernel
theorem dX4_play_20 : decode cX4_play 20 = .ok (.dup, 1) := by decide +kernel
theorem dX4_play_21 : decode cX4_play 21 = .ok (.getfield 68, 3) := by decide +kernel
theorem dX4_play_24 : decode cX4_play 24 = .ok (.iconst 1, 1) := by decide +kernel
theorem dX4_play_25 : decode cX4_play 25 = .ok (.iadd, 1) := by decide +kernel
theorem dX4_play_26 : decode cX4_play 26 = .ok (.putfield 68, 3) := by decide +kernel
theorem dX4_play_29 : decode cX4_play 29 = .ok (.aload_n 0, 1) := by decide +kernel
theorem dX4_play_30 : decode cX4_play 30 = .ok (.getfield 21, 3) := by decide +kernel
theorem dX4_play_33 : decode cX4_play 33 = .ok (.iconst (-1), 1) := by decide +kernel
theorem dX4_play_34 : decode cX4_play 34 = .ok (.invokevirtual 82, 3) := by decide +kernel
theorem dX4_play_37 : decode cX4_play 37 = .ok (.aload_n 0, 1) := by decide +kernel
theorem dX4_play_38 : decode cX4_play 38 = .ok (.getfield 27, 3) := by decide +kernel
theorem dX4_play_41 : decode cX4_play 41 = .ok (.iload_n 1, 1) := by decide +kernel
theorem dX4_play_42 : decode cX4_play 42 = .ok (.invokevirtual 101, 3) := by decide +kernel
theorem dX4_play_45 : decode cX4_play 45 = .ok (.checkcast 9, 3) := by decide +kernel
theorem dX4_play_48 : decode cX4_play 48 = .ok (.astore_n 2, 1) := by decide +kernel
theorem dX4_play_49 : decode cX4_play 49 = .ok (.aload_n 2, 1) := by decide +kernel
theorem dX4_play_50 : decode cX4_play 50 = .ok (.invokevirtual 84, 3) := by decide +kernel
theorem dX4_play_53 : decode cX4_play 53 = .ok (.iconst 1, 1) := by decide +kernel
theorem dX4_play_54 : decode cX4_play 54 = .ok (.isub, 1) := by decide +kernel
theorem dX4_play_55 : decode cX4_play 55 = .ok (.istore_n 3, 1) := by decide +kernel
theorem dX4_play_56 : decode cX4_play 56 = .ok (.iload_n 3, 1) := by decide +kernel
theorem dX4_play_57 : decode cX4_play 57 = .ok (.ifCond .lt 21, 3) := by decide +kernel
theorem dX4_play_60 : decode cX4_play 60 = .ok (.aload_n 0, 1) := by decide +kernel
theorem dX4_play_61 : decode cX4_play 61 = .ok (.getfield 21, 3) := by decide +kernel
theorem dX4_play_64 : decode cX4_play 64 = .ok (.aload_n 2, 1) := by decide +kernel
theorem dX4_play_65 : decode cX4_play 65 = .ok (.iload_n 3, 1) := by decide +kernel
theorem dX4_play_66 : decode cX4_play 66 = .ok (.invokevirtual 147, 3) := by decide +kernel
theorem dX4_play_69 : decode cX4_play 69 = .ok (.invokevirtual 82, 3) := by decide +kernel
theorem dX4_play_72 : decode cX4_play 72 = .ok (.iinc 3 (-1), 3) := by decide +kernel
theorem dX4_play_75 : decode cX4_play 75 = .ok (.goto (-19), 3) := by decide +kernel
theorem dX4_play_78 : decode cX4_play 78 = .ok (.return_, 1) := by decide +kernel
theorem dX4_pushContext_0 : decode cX4_pushContext 0 = .ok (.aload_n 0, 1) := by decide +kernel
theorem dX4_pushContext_1 : decode cX4_pushContext 1 = .ok (.iload_n 1, 1) := by decide +kernel
theorem dX4_pushContext_2 : decode cX4_pushContext 2 = .ok (.invokevirtual 91, 3) := by decide +kernel
theorem dX4_pushContext_5 : decode cX4_pushContext 5 = .ok (.ifCond .eq 22, 3) := by decide +kernel
theorem dX4_pushContext_8 : decode cX4_pushContext 8 = .ok (.aload_n 0, 1) := by decide +kernel
theorem dX4_pushContext_9 : decode cX4_pushContext 9 = .ok (.getfield 41, 3) := by decide +kernel
theorem dX4_pushContext_12 : decode cX4_pushContext 12 = .ok (.aload_n 0, 1) := by decide +kernel
theorem dX4_pushContext_13 : decode cX4_pushContext 13 = .ok (.getfield 35, 3) := by decide +kernel
theorem dX4_pushContext_16 : decode cX4_pushContext 16 = .ok (.iload_n 1, 1) := by decide +kernel
theorem dX4_pushContext_17 : decode cX4_pushContext 17 = .ok (.invokevirtual 101, 3) := by decide +kernel
theorem dX4_pushContext_20 : decode cX4_pushContext 20 = .ok (.checkcast 38, 3) := by decide +kernel
theorem dX4_pushContext_23 : decode cX4_pushContext 23 = .ok (.invokevirtual 31, 3) := by decide +kernel
theorem dX4_pushContext_26 : decode cX4_pushContext 26 = .ok (.pop, 1) := by decide +kernel
theorem dX4_pushContext_27 : decode cX4_pushContext 27 = .ok (.return_, 1) := by decide +kernel
theorem dX4_popContext_0 : decode cX4_popContext 0 = .ok (.aload_n 0, 1) := by decide +kernel
theorem dX4_popContext_1 : decode cX4_popContext 1 = .ok (.getfield 41, 3) := by decide +kernel
theorem dX4_popContext_4 : decode cX4_popContext 4 = .ok (.invokevirtual 108, 3) := by decide +kernel
theorem dX4_popContext_7 : decode cX4_popContext 7 = .ok (.iconst 1, 1) := by decide +kernel
theorem dX4_popContext_8 : decode cX4_popContext 8 = .ok (.if_icmp .le 20, 3) := by decide +kernel
theorem dX4_popContext_11 : decode cX4_popContext 11 = .ok (.aload_n 0, 1) := by decide +kernel
theorem dX4_popContext_12 : decode cX4_popContext 12 = .ok (.getfield 41, 3) := by decide +kernel
theorem dX4_popContext_15 : decode cX4_popContext 15 = .ok (.aload_n 0, 1) := by decide +kernel
theorem dX4_popContext_16 : decode cX4_popContext 16 = .ok (.getfield 41, 3) := by decide +kernel
theorem dX4_popContext_19 : decode cX4_popContext 19 = .ok (.invokevirtual 108, 3) := by decide +kernel
theorem dX4_popContext_22 : decode cX4_popContext 22 = .ok (.iconst 1, 1) := by decide +kernel
theorem dX4_popContext_23 : decode cX4_popContext 23 = .ok (.isub, 1) := by decide +kernel
theorem dX4_popContext_24 : decode cX4_popContext 24 = .ok (.invokevirtual 121, 3) := by decide +kernel
theorem dX4_popContext_27 : decode cX4_popContext 27 = .ok (.pop, 1) := by decide +kernel
theorem dX4_popContext_28 : decode cX4_popContext 28 = .ok (.return_, 1) := by decide +kernel
theorem dX4_isBetween_0 : decode cX4_isBetween 0 = .ok (.iload_n 0, 1) := by decide +kernel
theorem dX4_isBetween_1 : decode cX4_isBetween 1 = .ok (.iload_n 1, 1) := by decide +kernel
theorem dX4_isBetween_2 : decode cX4_isBetween 2 = .ok (.if_icmp .lt 12, 3) := by decide +kernel
theorem dX4_isBetween_5 : decode cX4_isBetween 5 = .ok (.iload_n 0, 1) := by decide +kernel
theorem dX4_isBetween_6 : decode cX4_isBetween 6 = .ok (.iload_n 2, 1) := by decide +kernel
theorem dX4_isBetween_7 : decode cX4_isBetween 7 = .ok (.if_icmp .gt 7, 3) := by decide +kernel
theorem dX4_isBetween_10 : decode cX4_isBetween 10 = .ok (.iconst 1, 1) := by decide +kernel
theorem dX4_isBetween_11 : decode cX4_isBetween 11 = .ok (.goto 4, 3) := by decide +kernel
theorem dX4_isBetween_14 : decode cX4_isBetween 14 = .ok (.iconst 0, 1) := by decide +kernel
theorem dX4_isBetween_15 : decode cX4_isBetween 15 = .ok (.ireturn, 1) := by decide +kernel
theorem dX4_isKey_0 : decode cX4_isKey 0 = .ok (.iload_n 0, 1) := by decide +kernel
theorem dX4_isKey_1 : decode cX4_isKey 1 = .ok (.ifCond .lt 13, 3) := by decide +kernel
theorem dX4_isKey_4 : decode cX4_isKey 4 = .ok (.iload_n 0, 1) := by decide +kernel
theorem dX4_isKey_5 : decode cX4_isKey 5 = .ok (.bipush 12, 2) := by decide +kernel
theorem dX4_isKey_7 : decode cX4_isKey 7 = .ok (.if_icmp .ge 7, 3) := by decide +kernel
theorem dX4_isKey_10 : decode cX4_isKey 10 = .ok (.iconst 1, 1) := by decide +kernel
theorem dX4_isKey_11 : decode cX4_isKey 11 = .ok (.goto 4, 3) := by decide +kernel
theorem dX4_isKey_14 : decode cX4_isKey 14 = .ok (.iconst 0, 1) := by decide +kernel
theorem dX4_isKey_15 : decode cX4_isKey 15 = .ok (.ireturn, 1) := by decide +kernel
theorem dX4_isFlag_0 : decode cX4_isFlag 0 = .ok (.iload_n 1, 1) := by decide +kernel
theorem dX4_isFlag_1 : decode cX4_isFlag 1 = .ok (.ifCond .lt 16, 3) := by decide +kernel
theorem dX4_isFlag_4 : decode cX4_isFlag 4 = .ok (.iload_n 1, 1) := by decide +kernel
theorem dX4_isFlag_5 : decode cX4_isFlag 5 = .ok (.aload_n 0, 1) := by decide +kernel
theorem dX4_isFlag_6 : decode cX4_isFlag 6 = .ok (.getfield 44, 3) := by decide +kernel
theorem dX4_isFlag_9 : decode cX4_isFlag 9 = .ok (.arraylength, 1) := by decide +kernel
theorem dX4_isFlag_10 : decode cX4_isFlag 10 = .ok (.if_icmp .ge 7, 3) := by decide +kernel
theorem dX4_isFlag_13 : decode cX4_isFlag 13 = .ok (.iconst 1, 1) := by decide +kernel
theorem dX4_isFlag_14 : decode cX4_isFlag 14 = .ok (.goto 4, 3) := by decide +kernel
theorem dX4_isFlag_17 : decode cX4_isFlag 17 = .ok (.iconst 0, 1) := by decide +kernel
theorem dX4_isFlag_18 : decode cX4_isFlag 18 = .ok (.ireturn, 1) := by decide +kernel
theorem dX4_isContext_0 : decode cX4_isContext 0 = .ok (.iload_n 1, 1) := by decide +kernel
theorem dX4_isContext_1 : decode cX4_isContext 1 = .ok (.ifCond .lt 18, 3) := by decide +kernel
theorem dX4_isContext_4 : decode cX4_isContext 4 = .ok (.iload_n 1, 1) := by decide +kernel
theorem dX4_isContext_5 : decode cX4_isContext 5 = .ok (.aload_n 0, 1) := by decide +kernel
theorem dX4_isContext_6 : decode cX4_isContext 6 = .ok (.getfield 35, 3) := by decide +kernel
theorem dX4_isContext_9 : decode cX4_isContext 9 = .ok (.invokevirtual 108, 3) := by decide +kernel
theorem dX4_isContext_12 : decode cX4_isContext 12 = .ok (.if_icmp .ge 7, 3) := by decide +kernel
theorem dX4_isContext_15 : decode cX4_isContext 15 = .ok (.iconst 1, 1) := by decide +kernel
theorem dX4_isContext_16 : decode cX4_isContext 16 = .ok (.goto 4, 3) := by decide +kernel
theorem dX4_isContext_19 : decode cX4_isContext 19 = .ok (.iconst 0, 1) := by decide +kernel
theorem dX4_isContext_20 : decode cX4_isContext 20 = .ok (.ireturn, 1) := by decide +kernel
theorem dX4_isMacro_0 : decode cX4_isMacro 0 = .ok (.iload_n 1, 1) := by decide +kernel
theorem dX4_isMacro_1 : decode cX4_isMacro 1 = .ok (.ifCond .lt 18, 3) := by decide +kernel
theorem dX4_isMacro_4 : decode cX4_isMacro 4 = .ok (.iload_n 1, 1) := by decide +kernel
theorem dX4_isMacro_5 : decode cX4_isMacro 5 = .ok (.aload_n 0, 1) := by decide +kernel
theorem dX4_isMacro_6 : decode cX4_isMacro 6 = .ok (.getfield 27, 3) := by decide +kernel
theorem dX4_isMacro_9 : decode cX4_isMacro 9 = .ok (.invokevirtual 108, 3) := by decide +kernel
theorem dX4_isMacro_12 : decode cX4_isMacro 12 = .ok (.if_icmp .ge 7, 3) := by decide +kernel
theorem dX4_isMacro_15 : decode cX4_isMacro 15 = .ok (.iconst 1, 1) := by decide +kernel
theorem dX4_isMacro_16 : decode cX4_isMacro 16 = .ok (.goto 4, 3) := by decide +kernel
theorem dX4_isMacro_19 : decode cX4_isMacro 19 = .ok (.iconst 0, 1) := by decide +kernel
theorem dX4_isMacro_20 : decode cX4_isMacro 20 = .ok (.ireturn, 1) := by decide +kernel
theorem dX4_isBinding_0 : decode cX4_isBinding 0 = .ok (.aload_n 0, 1) := by decide +kernel
theorem dX4_isBinding_1 : decode cX4_isBinding 1 = .ok (.iload_n 1, 1) := by decide +kernel
theorem dX4_isBinding_2 : decode cX4_isBinding 2 = .ok (.invokevirtual 91, 3) := by decide +kernel
theorem dX4_isBinding_5 : decode cX4_isBinding 5 = .ok (.ifCond .eq 32, 3) := by decide +kernel
theorem dX4_isBinding_8 : decode cX4_isBinding 8 = .ok (.iload_n 2, 1) := by decide +kernel
theorem dX4_isBinding_9 : decode cX4_isBinding 9 = .ok (.ifCond .lt 28, 3) := by decide +kernel
theorem dX4_isBinding_12 : decode cX4_isBinding 12 = .ok (.iload_n 2, 1) := by decide +kernel
theorem dX4_isBinding_13 : decode cX4_isBinding 13 = .ok (.aload_n 0, 1) := by decide +kernel
theorem dX4_isBinding_14 : decode cX4_isBinding 14 = .ok (.getfield 35, 3) := by decide +kernel
theorem dX4_isBinding_17 : decode cX4_isBinding 17 = .ok (.iload_n 1, 1) := by decide +kernel
theorem dX4_isBinding_18 : decode cX4_isBinding 18 = .ok (.invokevirtual 101, 3) := by decide +kernel
theorem dX4_isBinding_21 : decode cX4_isBinding 21 = .ok (.checkcast 38, 3) := by decide +kernel
theorem dX4_isBinding_24 : decode cX4_isBinding 24 = .ok (.getfield 105, 3) := by decide +kernel
theorem dX4_isBinding_27 : decode cX4_isBinding 27 = .ok (.invokevirtual 108, 3) := by decide +kernel
theorem dX4_isBinding_30 : decode cX4_isBinding 30 = .ok (.if_icmp .ge 7, 3) := by decide +kernel
theorem dX4_isBinding_33 : decode cX4_isBinding 33 = .ok (.iconst 1, 1) := by decide +kernel
theorem dX4_isBinding_34 : decode cX4_isBinding 34 = .ok (.goto 4, 3) := by decide +kernel
theorem dX4_isBinding_37 : decode cX4_isBinding 37 = .ok (.iconst 0, 1) := by decide +kernel
theorem dX4_isBinding_38 : decode cX4_isBinding 38 = .ok (.ireturn, 1) := by decide +kernel
theorem dX4_isCondition_0 : decode cX4_isCondition 0 = .ok (.iload_n 1, 1) := by decide +kernel
theorem dX4_isCondition_1 : decode cX4_isCondition 1 = .ok (.iconst (-1), 1) := by decide +kernel
theorem dX4_isCondition_2 : decode cX4_isCondition 2 = .ok (.if_icmp .eq 20, 3) := by decide +kernel
theorem dX4_isCondition_5 : decode cX4_isCondition 5 = .ok (.aload_n 0, 1) := by decide +kernel
theorem dX4_isCondition_6 : decode cX4_isCondition 6 = .ok (.iload_n 1, 1) := by decide +kernel
theorem dX4_isCondition_7 : decode cX4_isCondition 7 = .ok (.invokevirtual 144, 3) := by decide +kernel
theorem dX4_isCondition_10 : decode cX4_isCondition 10 = .ok (.ifCond .eq 16, 3) := by decide +kernel
theorem dX4_isCondition_13 : decode cX4_isCondition 13 = .ok (.iload_n 2, 1) := by decide +kernel
theorem dX4_isCondition_14 : decode cX4_isCondition 14 = .ok (.iconst 0, 1) := by decide +kernel
theorem dX4_isCondition_15 : decode cX4_isCondition 15 = .ok (.iconst 1, 1) := by decide +kernel
theorem dX4_isCondition_16 : decode cX4_isCondition 16 = .ok (.invokestatic 137, 3) := by decide +kernel
theorem dX4_isCondition_19 : decode cX4_isCondition 19 = .ok (.ifCond .eq 7, 3) := by decide +kernel
theorem dX4_isCondition_22 : decode cX4_isCondition 22 = .ok (.iconst 1, 1) := by decide +kernel
theorem dX4_isCondition_23 : decode cX4_isCondition 23 = .ok (.goto 4, 3) := by decide +kernel
theorem dX4_isCondition_26 : decode cX4_isCondition 26 = .ok (.iconst 0, 1) := by decide +kernel
theorem dX4_isCondition_27 : decode cX4_isCondition 27 = .ok (.ireturn, 1) := by decide +kernel
theorem dX4_isAction_0 : decode cX4_isAction 0 = .ok (.iload_n 1, 1) := by decide +kernel
theorem dX4_isAction_1 : decode cX4_isAction 1 = .ok (.tableswitch 83 0 5 #[39, 55, 61, 67, 77, 77], 39) := by decide +kernel
theorem dX4_isAction_40 : decode cX4_isAction 40 = .ok (.iload_n 2, 1) := by decide +kernel
theorem dX4_isAction_41 : decode cX4_isAction 41 = .ok (.ifCond .lt 13, 3) := by decide +kernel
theorem dX4_isAction_44 : decode cX4_isAction 44 = .ok (.iload_n 2, 1) := by decide +kernel
theorem dX4_isAction_45 : decode cX4_isAction 45 = .ok (.bipush 100, 2) := by decide +kernel
theorem dX4_isAction_47 : decode cX4_isAction 47 = .ok (.if_icmp .ge 7, 3) := by decide +kernel
theorem dX4_isAction_50 : decode cX4_isAction 50 = .ok (.iconst 1, 1) := by decide +kernel
theorem dX4_isAction_51 : decode cX4_isAction 51 = .ok (.goto 4, 3) := by decide +kernel
theorem dX4_isAction_54 : decode cX4_isAction 54 = .ok (.iconst 0, 1) := by decide +kernel
theorem dX4_isAction_55 : decode cX4_isAction 55 = .ok (.ireturn, 1) := by decide +kernel
theorem dX4_isAction_56 : decode cX4_isAction 56 = .ok (.aload_n 0, 1) := by decide +kernel
theorem dX4_isAction_57 : decode cX4_isAction 57 = .ok (.iload_n 2, 1) := by decide +kernel
theorem dX4_isAction_58 : decode cX4_isAction 58 = .ok (.invokevirtual 131, 3) := by decide +kernel
theorem dX4_isAction_61 : decode cX4_isAction 61 = .ok (.ireturn, 1) := by decide +kernel
theorem dX4_isAction_62 : decode cX4_isAction 62 = .ok (.aload_n 0, 1) := by decide +kernel
theorem dX4_isAction_63 : decode cX4_isAction 63 = .ok (.iload_n 2, 1) := by decide +kernel
theorem dX4_isAction_64 : decode cX4_isAction 64 = .ok (.invokevirtual 91, 3) := by decide +kernel
theorem dX4_isAction_67 : decode cX4_isAction 67 = .ok (.ireturn, 1) := by decide +kernel
theorem dX4_isAction_68 : decode cX4_isAction 68 = .ok (.iload_n 2, 1) := by decide +kernel
theorem dX4_isAction_69 : decode cX4_isAction 69 = .ok (.ifCond .ne 7, 3) := by decide +kernel
theorem dX4_isAction_72 : decode cX4_isAction 72 = .ok (.iconst 1, 1) := by decide +kernel
theorem dX4_isAction_73 : decode cX4_isAction 73 = .ok (.goto 4, 3) := by decide +kernel
theorem dX4_isAction_76 : decode cX4_isAction 76 = .ok (.iconst 0, 1) := by decide +kernel
theorem dX4_isAction_77 : decode cX4_isAction 77 = .ok (.ireturn, 1) := by decide +kernel
theorem dX4_isAction_78 : decode cX4_isAction 78 = .ok (.aload_n 0, 1) := by decide +kernel
theorem dX4_isAction_79 : decode cX4_isAction 79 = .ok (.iload_n 2, 1) := by decide +kernel
theorem dX4_isAction_80 : decode cX4_isAction 80 = .ok (.invokevirtual 144, 3) := by decide +kernel
theorem dX4_isAction_83 : decode cX4_isAction 83 = .ok (.ireturn, 1) := by decide +kernel
theorem dX4_isAction_84 : decode cX4_isAction 84 = .ok (.iconst 0, 1) := by decide +kernel
theorem dX4_isAction_85 : decode cX4_isAction 85 = .ok (.ireturn, 1) := by decide +kernel
theorem dX5_init_0 : decode cX5_init 0 = .ok (.aload_n 0, 1) := by decide +kernel
theorem dX5_init_1 : decode cX5_init 1 = .ok (.invokespecial 1, 3) := by decide +kernel
theorem dX5_init_4 : decode cX5_init 4 = .ok (.aload_n 0, 1) := by decide +kernel
theorem dX5_init_5 : decode cX5_init 5 = .ok (.bipush 6, 2) := by decide +kernel
theorem dX5_init_7 : decode cX5_init 7 = .ok (.newarray .int, 2) := by decide +kernel
theorem dX5_init_9 : decode cX5_init 9 = .ok (.putfield 7, 3) := by decide +kernel
theorem dX5_init_12 : decode cX5_init 12 = .ok (.aload_n 0, 1) := by decide +kernel
theorem dX5_init_13 : decode cX5_init 13 = .ok (.iconst 1, 1) := by decide +kernel
theorem dX5_init_14 : decode cX5_init 14 = .ok (.putfield 13, 3) := by decide +kernel
theorem dX5_init_17 : decode cX5_init 17 = .ok (.aload_n 0, 1) := by decide +kernel
theorem dX5_init_18 : decode cX5_init 18 = .ok (.iconst 4, 1) := by decide +kernel
theorem dX5_init_19 : decode cX5_init 19 = .ok (.newarray .int, 2) := by decide +kernel
theorem dX5_init_21 : decode cX5_init 21 = .ok (.putfield 17, 3) := by decide +kernel
theorem dX5_init_24 : decode cX5_init 24 = .ok (.aload_n 0, 1) := by decide +kernel
theorem dX5_init_25 : decode cX5_init 25 = .ok (.iconst 4, 1) := by decide +kernel
theorem dX5_init_26 : decode cX5_init 26 = .ok (.newarray .int, 2) := by decide +kernel
theorem dX5_init_28 : decode cX5_init 28 = .ok (.putfield 20, 3) := by decide +kernel
theorem dX5_init_31 : decode cX5_init 31 = .ok (.aload_n 0, 1) := by decide +kernel
theorem dX5_init_32 : decode cX5_init 32 = .ok (.bipush 40, 2) := by decide +kernel
theorem dX5_init_34 : decode cX5_init 34 = .ok (.newarray .int, 2) := by decide +kernel
theorem dX5_init_36 : decode cX5_init 36 = .ok (.putfield 23, 3) := by decide +kernel
theorem dX5_init_39 : decode cX5_init 39 = .ok (.aload_n 0, 1) := by decide +kernel
theorem dX5_init_40 : decode cX5_init 40 = .ok (.sipush 160, 3) := by decide +kernel
theorem dX5_init_43 : decode cX5_init 43 = .ok (.newarray .int, 2) := by decide +kernel
theorem dX5_init_45 : decode cX5_init 45 = .ok (.putfield 26, 3) := by decide +kernel
theorem dX5_init_48 : decode cX5_init 48 = .ok (.aload_n 0, 1) := by decide +kernel
theorem dX5_init_49 : decode cX5_init 49 = .ok (.bipush 40, 2) := by decide +kernel
theorem dX5_init_51 : decode cX5_init 51 = .ok (.newarray .int, 2) := by decide +kernel
theorem dX5_init_53 : decode cX5_init 53 = .ok (.putfield 29, 3) := by decide +kernel
theorem dX5_init_56 : decode cX5_init 56 = .ok (.aload_n 0, 1) := by decide +kernel
theorem dX5_init_57 : decode cX5_init 57 = .ok (.bipush 40, 2) := by decide +kernel
theorem dX5_init_59 : decode cX5_init 59 = .ok (.newarray .int, 2) := by decide +kernel
theorem dX5_init_61 : decode cX5_init 61 = .ok (.putfield 32, 3) := by decide +kernel
theorem dX5_init_64 : decode cX5_init 64 = .ok (.aload_n 0, 1) := by decide +kernel
theorem dX5_init_65 : decode cX5_init 65 = .ok (.bipush 40, 2) := by decide +kernel
theorem dX5_init_67 : decode cX5_init 67 = .ok (.newarray .int, 2) := by decide +kernel
theorem dX5_init_69 : decode cX5_init 69 = .ok (.putfield 35, 3) := by decide +kernel
theorem dX5_init_72 : decode cX5_init 72 = .ok (.aload_n 0, 1) := by decide +kernel
theorem dX5_init_73 : decode cX5_init 73 = .ok (.bipush 40, 2) := by decide +kernel
theorem dX5_init_75 : decode cX5_init 75 = .ok (.newarray .int, 2) := by decide +kernel
theorem dX5_init_77 : decode cX5_init 77 = .ok (.putfield 38, 3) := by decide +kernel
theorem dX5_init_80 : decode cX5_init 80 = .ok (.aload_n 0, 1) := by decide +kernel
theorem dX5_init_81 : decode cX5_init 81 = .ok (.iconst 4, 1) := by decide +kernel
theorem dX5_init_82 : decode cX5_init 82 = .ok (.newarray .int, 2) := by decide +kernel
theorem dX5_init_84 : decode cX5_init 84 = .ok (.putfield 41, 3) := by decide +kernel
theorem dX5_init_87 : decode cX5_init 87 = .ok (.aload_n 0, 1) := by decide +kernel
theorem dX5_init_88 : decode cX5_init 88 = .ok (.iconst 5, 1) := by decide +kernel
theorem dX5_init_89 : decode cX5_init 89 = .ok (.newarray .int, 2) := by decide +kernel
theorem dX5_init_91 : decode cX5_init 91 = .ok (.putfield 44, 3) := by decide +kernel
theorem dX5_init_94 : decode cX5_init 94 = .ok (.aload_n 0, 1) := by decide +kernel
theorem dX5_init_95 : decode cX5_init 95 = .ok (.bipush 10, 2) := by decide +kernel
theorem dX5_init_97 : decode cX5_init 97 = .ok (.putfield 47, 3) := by decide +kernel
theorem dX5_init_100 : decode cX5_init 100 = .ok (.aload_n 0, 1) := by decide +kernel
theorem dX5_init_101 : decode cX5_init 101 = .ok (.bipush 100, 2) := by decide +kernel
theorem dX5_init_103 : decode cX5_init 103 = .ok (.newarray .int, 2) := by decide +kernel
theorem dX5_init_105 : decode cX5_init 105 = .ok (.putfield 50, 3) := by decide +kernel
theorem dX5_init_108 : decode cX5_init 108 = .ok (.aload_n 0, 1) := by decide +kernel
theorem dX5_init_109 : decode cX5_init 109 = .ok (.bipush (-4), 2) := by decide +kernel
theorem dX5_init_111 : decode cX5_init 111 = .ok (.putfield 53, 3) := by decide +kernel
theorem dX5_init_114 : decode cX5_init 114 = .ok (.aload_n 0, 1) := by decide +kernel
theorem dX5_init_115 : decode cX5_init 115 = .ok (.iconst 4, 1) := by decide +kernel
theorem dX5_init_116 : decode cX5_init 116 = .ok (.newarray .int, 2) := by decide +kernel
theorem dX5_init_118 : decode cX5_init 118 = .ok (.putfield 56, 3) := by decide +kernel
theorem dX5_init_121 : decode cX5_init 121 = .ok (.aload_n 0, 1) := by decide +kernel
theorem dX5_init_122 : decode cX5_init 122 = .ok (.bipush 48, 2) := by decide +kernel
theorem dX5_init_124 : decode cX5_init 124 = .ok (.newarray .int, 2) := by decide +kernel
theorem dX5_init_126 : decode cX5_init 126 = .ok (.putfield 59, 3) := by decide +kernel
theorem dX5_init_129 : decode cX5_init 129 = .ok (.aload_n 0, 1) := by decide +kernel
theorem dX5_init_130 : decode cX5_init 130 = .ok (.bipush 40, 2) := by decide +kernel
theorem dX5_init_132 : decode cX5_init 132 = .ok (.newarray .int, 2) := by decide +kernel
theorem dX5_init_134 : decode cX5_init 134 = .ok (.putfield 62, 3) := by decide +kernel
theorem dX5_init_137 : decode cX5_init 137 = .ok (.aload_n 0, 1) := by decide +kernel
theorem dX5_init_138 : decode cX5_init 138 = .ok (.bipush 40, 2) := by decide +kernel
theorem dX5_init_140 : decode cX5_init 140 = .ok (.newarray .int, 2) := by decide +kernel
theorem dX5_init_142 : decode cX5_init 142 = .ok (.putfield 65, 3) := by decide +kernel
theorem dX5_init_145 : decode cX5_init 145 = .ok (.return_, 1) := by decide +kernel
theorem dX5_in_0 : decode cX5_in 0 = .ok (.iload_n 0, 1) := by decide +kernel
theorem dX5_in_1 : decode cX5_in 1 = .ok (.iload_n 1, 1) := by decide +kernel
theorem dX5_in_2 : decode cX5_in 2 = .ok (.if_icmp .lt 12, 3) := by decide +kernel
theorem dX5_in_5 : decode cX5_in 5 = .ok (.iload_n 0, 1) := by decide +kernel
theorem dX5_in_6 : decode cX5_in 6 = .ok (.iload_n 2, 1) := by decide +kernel
theorem dX5_in_7 : decode cX5_in 7 = .ok (.if_icmp .gt 7, 3) := by decide +kernel
theorem dX5_in_10 : decode cX5_in 10 = .ok (.iconst 1, 1) := by decide +kernel
theorem dX5_in_11 : decode cX5_in 11 = .ok (.goto 4, 3) := by decide +kernel
theorem dX5_in_14 : decode cX5_in 14 = .ok (.iconst 0, 1) := by decide +kernel
theorem dX5_in_15 : decode cX5_in 15 = .ok (.ireturn, 1) := by decide +kernel
theorem dX5_appendKey_0 : decode cX5_appendKey 0 = .ok (.iload_n 1, 1) := by decide +kernel
theorem dX5_appendKey_1 : decode cX5_appendKey 1 = .ok (.iconst 0, 1) := by decide +kernel
theorem dX5_appendKey_2 : decode cX5_appendKey 2 = .ok (.bipush 11, 2) := by decide +kernel
theorem dX5_appendKey_4 : decode cX5_appendKey 4 = .ok (.invokestatic 68, 3) := by decide +kernel
theorem dX5_appendKey_7 : decode cX5_appendKey 7 = .ok (.ifCond .ne 5, 3) := by decide +kernel
theorem dX5_appendKey_10 : decode cX5_appendKey 10 = .ok (.iconst (-1), 1) := by decide +kernel
theorem dX5_appendKey_11 : decode cX5_appendKey 11 = .ok (.ireturn, 1) := by decide +kernel
theorem dX5_appendKey_12 : decode cX5_appendKey 12 = .ok (.aload_n 0, 1) := by decide +kernel
theorem dX5_appendKey_13 : decode cX5_appendKey 13 = .ok (.getfield 72, 3) := by decide +kernel
theorem dX5_appendKey_16 : decode cX5_appendKey 16 = .ok (.iconst 4, 1) := by decide +kernel
theorem dX5_appendKey_17 : decode cX5_appendKey 17 = .ok (.if_icmp .ne 6, 3) := by decide +kernel
theorem dX5_appendKey_20 : decode cX5_appendKey 20 = .ok (.bipush (-3), 2) := by decide +kernel
theorem dX5_appendKey_22 : decode cX5_appendKey 22 = .ok (.ireturn, 1) := by decide +kernel
theorem dX5_appendKey_23 : decode cX5_appendKey 23 = .ok (.aload_n 0, 1) := by decide +kernel
theorem dX5_appendKey_24 : decode cX5_appendKey 24 = .ok (.getfield 41, 3) := by decide +kernel
theorem dX5_appendKey_27 : decode cX5_appendKey 27 = .ok (.aload_n 0, 1) := by decide +kernel
theorem dX5_appendKey_28 : decode cX5_appendKey 28 = .ok (.getfield 72, 3) := by decide +kernel
theorem dX5_appendKey_31 : decode cX5_appendKey 31 = .ok (.iload_n 1, 1) := by decide +kernel
theorem dX5_appendKey_32 : decode cX5_appendKey 32 = .ok (.iastore, 1) := by decide +kernel
theorem dX5_appendKey_33 : decode cX5_appendKey 33 = .ok (.aload_n 0, 1) := by decide +kernel
theorem dX5_appendKey_34 : decode cX5_appendKey 34 = .ok (.dup, 1) := by decide +kernel
theorem dX5_appendKey_35 : decode cX5_appendKey 35 = .ok (.getfield 72, 3) := by decide +kernel
theorem dX5_appendKey_38 : decode cX5_appendKey 38 = .ok (.iconst 1, 1) := by decide +kernel
theorem dX5_appendKey_39 : decode cX5_appendKey 39 = .ok (.iadd, 1) := by decide +kernel
theorem dX5_appendKey_40 : decode cX5_appendKey 40 = .ok (.putfield 72, 3) := by decide +kernel
theorem dX5_appendKey_43 : decode cX5_appendKey 43 = .ok (.aload_n 0, 1) := by decide +kernel
theorem dX5_appendKey_44 : decode cX5_appendKey 44 = .ok (.getfield 72, 3) := by decide +kernel
theorem dX5_appendKey_47 : decode cX5_appendKey 47 = .ok (.ireturn, 1) := by decide +kernel
theorem dX5_clearKeys_0 : decode cX5_clearKeys 0 = .ok (.aload_n 0, 1) := by decide +kernel
theorem dX5_clearKeys_1 : decode cX5_clearKeys 1 = .ok (.getfield 72, 3) := by decide +kernel
theorem dX5_clearKeys_4 : decode cX5_clearKeys 4 = .ok (.istore_n 1, 1) := by decide +kernel
theorem dX5_clearKeys_5 : decode cX5_clearKeys 5 = .ok (.aload_n 0, 1) := by decide +kernel
theorem dX5_clearKeys_6 : decode cX5_clearKeys 6 = .ok (.iconst 0, 1) := by decide +kernel
theorem dX5_clearKeys_7 : decode cX5_clearKeys 7 = .ok (.putfield 72, 3) := by decide +kernel
theorem dX5_clearKeys_10 : decode cX5_clearKeys 10 = .ok (.iload_n 1, 1) := by decide +kernel
theorem dX5_clearKeys_11 : decode cX5_clearKeys 11 = .ok (.ireturn, 1) := by decide +kernel
theorem dX5_most_0 : decode cX5_most 0 = .ok (.iload_n 0, 1) := by decide +kernel
theorem dX5_most_1 : decode cX5_most 1 = .ok (.tableswitch 38 0 3 #[31, 34, 34, 36], 31) := by decide +kernel
theorem dX5_most_32 : decode cX5_most 32 = .ok (.bipush 99, 2) := by decide +kernel
theorem dX5_most_34 : decode cX5_most 34 = .ok (.ireturn, 1) := by decide +kernel
theorem dX5_most_35 : decode cX5_most 35 = .ok (.iconst 3, 1) := by decide +kernel
theorem dX5_most_36 : decode cX5_most 36 = .ok (.ireturn, 1) := by decide +kernel
theorem dX5_most_37 : decode cX5_most 37 = .ok (.iconst 0, 1) := by decide +kernel
theorem dX5_most_38 : decode cX5_most 38 = .ok (.ireturn, 1) := by decide +kernel
theorem dX5_most_39 : decode cX5_most 39 = .ok (.iconst 5, 1) := by decide +kernel
theorem dX5_most_40 : decode cX5_most 40 = .ok (.ireturn, 1) := by decide +kernel
theorem dX5_bind_0 : decode cX5_bind 0 = .ok (.iload_n 1, 1) := by decide +kernel
theorem dX5_bind_1 : decode cX5_bind 1 = .ok (.iconst 0, 1) := by decide +kernel
theorem dX5_bind_2 : decode cX5_bind 2 = .ok (.iconst 3, 1) := by decide +kernel
theorem dX5_bind_3 : decode cX5_bind 3 = .ok (.invokestatic 68, 3) := by decide +kernel
theorem dX5_bind_6 : decode cX5_bind 6 = .ok (.ifCond .eq 53, 3) := by decide +kernel
theorem dX5_bind_9 : decode cX5_bind 9 = .ok (.iload_n 2, 1) := by decide +kernel
theorem dX5_bind_10 : decode cX5_bind 10 = .ok (.iconst (-1), 1) := by decide +kernel
theorem dX5_bind_11 : decode cX5_bind 11 = .ok (.iconst 5, 1) := by decide +kernel
theorem dX5_bind_12 : decode cX5_bind 12 = .ok (.invokestatic 68, 3) := by decide +kernel
theorem dX5_bind_15 : decode cX5_bind 15 = .ok (.ifCond .eq 44, 3) := by decide +kernel
theorem dX5_bind_18 : decode cX5_bind 18 = .ok (.iload_n 2, 1) := by decide +kernel
theorem dX5_bind_19 : decode cX5_bind 19 = .ok (.ifCond .lt 12, 3) := by decide +kernel
theorem dX5_bind_22 : decode cX5_bind 22 = .ok (.iload_n 3, 1) := by decide +kernel
theorem dX5_bind_23 : decode cX5_bind 23 = .ok (.iconst 0, 1) := by decide +kernel
theorem dX5_bind_24 : decode cX5_bind 24 = .ok (.iconst 1, 1) := by decide +kernel
theorem dX5_bind_25 : decode cX5_bind 25 = .ok (.invokestatic 68, 3) := by decide +kernel
theorem dX5_bind_28 : decode cX5_bind 28 = .ok (.ifCond .eq 31, 3) := by decide +kernel
theorem dX5_bind_31 : decode cX5_bind 31 = .ok (.iload 4, 2) := by decide +kernel
theorem dX5_bind_33 : decode cX5_bind 33 = .ok (.iconst 0, 1) := by decide +kernel
theorem dX5_bind_34 : decode cX5_bind 34 = .ok (.iconst 5, 1) := by decide +kernel
theorem dX5_bind_35 : decode cX5_bind 35 = .ok (.invokestatic 68, 3) := by decide +kernel
theorem dX5_bind_38 : decode cX5_bind 38 = .ok (.ifCond .eq 21, 3) := by decide +kernel
theorem dX5_bind_41 : decode cX5_bind 41 = .ok (.iload 5, 2) := by decide +kernel
theorem dX5_bind_43 : decode cX5_bind 43 = .ok (.iconst 0, 1) := by decide +kernel
theorem dX5_bind_44 : decode cX5_bind 44 = .ok (.iload 4, 2) := by decide +kernel
theorem dX5_bind_46 : decode cX5_bind 46 = .ok (.invokestatic 75, 3) := by decide +kernel
theorem dX5_bind_49 : decode cX5_bind 49 = .ok (.invokestatic 68, 3) := by decide +kernel
theorem dX5_bind_52 : decode cX5_bind 52 = .ok (.ifCond .eq 7, 3) := by decide +kernel
theorem dX5_bind_55 : decode cX5_bind 55 = .ok (.iconst 1, 1) := by decide +kernel
theorem dX5_bind_56 : decode cX5_bind 56 = .ok (.goto 4, 3) := by decide +kernel
theorem dX5_bind_59 : decode cX5_bind 59 = .ok (.iconst 0, 1) := by decide +kernel
theorem dX5_bind_60 : decode cX5_bind 60 = .ok (.istore 6, 2) := by decide +kernel
theorem dX5_bind_62 : decode cX5_bind 62 = .ok (.iload 6, 2) := by decide +kernel
theorem dX5_bind_64 : decode cX5_bind 64 = .ok (.ifCond .ne 5, 3) := by decide +kernel
theorem dX5_bind_67 : decode cX5_bind 67 = .ok (.iconst (-1), 1) := by decide +kernel
theorem dX5_bind_68 : decode cX5_bind 68 = .ok (.ireturn, 1) := by decide +kernel
theorem dX5_bind_69 : decode cX5_bind 69 = .ok (.aload_n 0, 1) := by decide +kernel
theorem dX5_bind_70 : decode cX5_bind 70 = .ok (.getfield 72, 3) := by decide +kernel
theorem dX5_bind_73 : decode cX5_bind 73 = .ok (.ifCond .ne 6, 3) := by decide +kernel
theorem dX5_bind_76 : decode cX5_bind 76 = .ok (.bipush (-2), 2) := by decide +kernel
theorem dX5_bind_78 : decode cX5_bind 78 = .ok (.ireturn, 1) := by decide +kernel
theorem dX5_bind_79 : decode cX5_bind 79 = .ok (.aload_n 0, 1) := by decide +kernel
theorem dX5_bind_80 : decode cX5_bind 80 = .ok (.getfield 20, 3) := by decide +kernel
theorem dX5_bind_83 : decode cX5_bind 83 = .ok (.iload_n 1, 1) := by decide +kernel
theorem dX5_bind_84 : decode cX5_bind 84 = .ok (.iaload, 1) := by decide +kernel
theorem dX5_bind_85 : decode cX5_bind 85 = .ok (.bipush 10, 2) := by decide +kernel
theorem dX5_bind_87 : decode cX5_bind 87 = .ok (.if_icmp .ne 6, 3) := by decide +kernel
theorem dX5_bind_90 : decode cX5_bind 90 = .ok (.bipush (-3), 2) := by decide +kernel
theorem dX5_bind_92 : decode cX5_bind 92 = .ok (.ireturn, 1) := by decide +kernel
theorem dX5_bind_93 : decode cX5_bind 93 = .ok (.bipush 10, 2) := by decide +kernel
theorem dX5_bind_95 : decode cX5_bind 95 = .ok (.iload_n 1, 1) := by decide +kernel
theorem dX5_bind_96 : decode cX5_bind 96 = .ok (.imul, 1) := by decide +kernel
theorem dX5_bind_97 : decode cX5_bind 97 = .ok (.aload_n 0, 1) := by decide +kernel
theorem dX5_bind_98 : decode cX5_bind 98 = .ok (.getfield 20, 3) := by decide +kernel
theorem dX5_bind_101 : decode cX5_bind 101 = .ok (.iload_n 1, 1) := by decide +kernel
theorem dX5_bind_102 : decode cX5_bind 102 = .ok (.iaload, 1) := by decide +kernel
theorem dX5_bind_103 : decode cX5_bind 103 = .ok (.iadd, 1) := by decide +kernel
theorem dX5_bind_104 : decode cX5_bind 104 = .ok (.istore 7, 2) := by decide +kernel
theorem dX5_bind_106 : decode cX5_bind 106 = .ok (.aload_n 0, 1) := by decide +kernel
theorem dX5_bind_107 : decode cX5_bind 107 = .ok (.getfield 23, 3) := by decide +kernel
theorem dX5_bind_110 : decode cX5_bind 110 = .ok (.iload 7, 2) := by decide +kernel
theorem dX5_bind_112 : decode cX5_bind 112 = .ok (.aload_n 0, 1) := by decide +kernel
theorem dX5_bind_113 : decode cX5_bind 113 = .ok (.getfield 72, 3) := by decide +kernel
theorem dX5_bind_116 : decode cX5_bind 116 = .ok (.iastore, 1) := by decide +kernel
theorem dX5_bind_117 : decode cX5_bind 117 = .ok (.iconst 0, 1) := by decide +kernel
theorem dX5_bind_118 : decode cX5_bind 118 = .ok (.istore 8, 2) := by decide +kernel
theorem dX5_bind_120 : decode cX5_bind 120 = .ok (.iload 8, 2) := by decide +kernel
theorem dX5_bind_122 : decode cX5_bind 122 = .ok (.aload_n 0, 1) := by decide +kernel
theorem dX5_bind_123 : decode cX5_bind 123 = .ok (.getfield 72, 3) := by decide +kernel
theorem dX5_bind_126 : decode cX5_bind 126 = .ok (.if_icmp .ge 28, 3) := by decide +kernel
theorem dX5_bind_129 : decode cX5_bind 129 = .ok (.aload_n 0, 1) := by decide +kernel
theorem dX5_bind_130 : decode cX5_bind 130 = .ok (.getfield 26, 3) := by decide +kernel
theorem dX5_bind_133 : decode cX5_bind 133 = .ok (.iconst 4, 1) := by decide +kernel
theorem dX5_bind_134 : decode cX5_bind 134 = .ok (.iload 7, 2) := by decide +kernel
theorem dX5_bind_136 : decode cX5_bind 136 = .ok (.imul, 1) := by decide +kernel
theorem dX5_bind_137 : decode cX5_bind 137 = .ok (.iload 8, 2) := by decide +kernel
theorem dX5_bind_139 : decode cX5_bind 139 = .ok (.iadd, 1) := by decide +kernel
theorem dX5_bind_140 : decode cX5_bind 140 = .ok (.aload_n 0, 1) := by decide +kernel
theorem dX5_bind_141 : decode cX5_bind 141 = .ok (.getfield 41, 3) := by decide +kernel
theorem dX5_bind_144 : decode cX5_bind 144 = .ok (.iload 8, 2) := by decide +kernel
theorem dX5_bind_146 : decode cX5_bind 146 = .ok (.iaload, 1) := by decide +kernel
theorem dX5_bind_147 : decode cX5_bind 147 = .ok (.iastore, 1) := by decide +kernel
theorem dX5_bind_148 : decode cX5_bind 148 = .ok (.iinc 8 1, 3) := by decide +kernel
theorem dX5_bind_151 : decode cX5_bind 151 = .ok (.goto (-31), 3) := by decide +kernel
theorem dX5_bind_154 : decode cX5_bind 154 = .ok (.aload_n 0, 1) := by decide +kernel
theorem dX5_bind_155 : decode cX5_bind 155 = .ok (.getfield 29, 3) := by decide +kernel
theorem dX5_bind_158 : decode cX5_bind 158 = .ok (.iload 7, 2) := by decide +kernel
theorem dX5_bind_160 : decode cX5_bind 160 = .ok (.iload_n 2, 1) := by decide +kernel
theorem dX5_bind_161 : decode cX5_bind 161 = .ok (.iastore, 1) := by decide +kernel
theorem dX5_bind_162 : decode cX5_bind 162 = .ok (.aload_n 0, 1) := by decide +kernel
theorem dX5_bind_163 : decode cX5_bind 163 = .ok (.getfield 32, 3) := by decide +kernel
theorem dX5_bind_166 : decode cX5_bind 166 = .ok (.iload 7, 2) := by decide +kernel
theorem dX5_bind_168 : decode cX5_bind 168 = .ok (.iload_n 3, 1) := by decide +kernel
theorem dX5_bind_169 : decode cX5_bind 169 = .ok (.iastore, 1) := by decide +kernel
theorem dX5_bind_170 : decode cX5_bind 170 = .ok (.aload_n 0, 1) := by decide +kernel
theorem dX5_bind_171 : decode cX5_bind 171 = .ok (.getfield 35, 3) := by decide +kernel
theorem dX5_bind_174 : decode cX5_bind 174 = .ok (.iload 7, 2) := by decide +kernel
theorem dX5_bind_176 : decode cX5_bind 176 = .ok (.iload 4, 2) := by decide +kernel
theorem dX5_bind_178 : decode cX5_bind 178 = .ok (.iastore, 1) := by decide +kernel
theorem dX5_bind_179 : decode cX5_bind 179 = .ok (.aload_n 0, 1) := by decide +kernel
theorem dX5_bind_180 : decode cX5_bind 180 = .ok (.getfield 38, 3) := by decide +kernel
theorem dX5_bind_183 : decode cX5_bind 183 = .ok (.iload 7, 2) := by decide +kernel
theorem dX5_bind_185 : decode cX5_bind 185 = .ok (.iload 5, 2) := by decide +kernel
theorem dX5_bind_187 : decode cX5_bind 187 = .ok (.iastore, 1) := by decide +kernel
theorem dX5_bind_188 : decode cX5_bind 188 = .ok (.aload_n 0, 1) := by decide +kernel
theorem dX5_bind_189 : decode cX5_bind 189 = .ok (.getfield 20, 3) := by decide +kernel
theorem dX5_bind_192 : decode cX5_bind 192 = .ok (.iload_n 1, 1) := by decide +kernel
theorem dX5_bind_193 : decode cX5_bind 193 = .ok (.dup2, 1) := by decide +kernel
theorem dX5_bind_194 : decode cX5_bind 194 = .ok (.iaload, 1) := by decide +kernel
theorem dX5_bind_195 : decode cX5_bind 195 = .ok (.iconst 1, 1) := by decide +kernel
theorem dX5_bind_196 : decode cX5_bind 196 = .ok (.iadd, 1) := by decide +kernel
theorem dX5_bind_197 : decode cX5_bind 197 = .ok (.iastore, 1) := by decide +kernel
theorem dX5_bind_198 : decode cX5_bind 198 = .ok (.aload_n 0, 1) := by decide +kernel
theorem dX5_bind_199 : decode cX5_bind 199 = .ok (.iconst 0, 1) := by decide +kernel
theorem dX5_bind_200 : decode cX5_bind 200 = .ok (.putfield 72, 3) := by decide +kernel
theorem dX5_bind_203 : decode cX5_bind 203 = .ok (.aload_n 0, 1) := by decide +kernel
theorem dX5_bind_204 : decode cX5_bind 204 = .ok (.getfield 20, 3) := by decide +kernel
theorem dX5_bind_207 : decode cX5_bind 207 = .ok (.iload_n 1, 1) := by decide +kernel
theorem dX5_bind_208 : decode cX5_bind 208 = .ok (.iaload, 1) := by decide +kernel
theorem dX5_bind_209 : decode cX5_bind 209 = .ok (.iconst 1, 1) := by decide +kernel
theorem dX5_bind_210 : decode cX5_bind 210 = .ok (.isub, 1) := by decide +kernel
theorem dX5_bind_211 : decode cX5_bind 211 = .ok (.ireturn, 1) := by decide +kernel
theorem dX5_isBinding_0 : decode cX5_isBinding 0 = .ok (.iload_n 1, 1) := by decide +kernel
theorem dX5_isBinding_1 : decode cX5_isBinding 1 = .ok (.iconst 0, 1) := by decide +kernel
theorem dX5_isBinding_2 : decode cX5_isBinding 2 = .ok (.iconst 3, 1) := by decide +kernel
theorem dX5_isBinding_3 : decode cX5_isBinding 3 = .ok (.invokestatic 68, 3) := by decide +kernel
theorem dX5_isBinding_6 : decode cX5_isBinding 6 = .ok (.ifCond .eq 23, 3) := by decide +kernel
theorem dX5_isBinding_9 : decode cX5_isBinding 9 = .ok (.iload_n 2, 1) := by decide +kernel
theorem dX5_isBinding_10 : decode cX5_isBinding 10 = .ok (.iconst 0, 1) := by decide +kernel
theorem dX5_isBinding_11 : decode cX5_isBinding 11 = .ok (.aload_n 0, 1) := by decide +kernel
theorem dX5_isBinding_12 : decode cX5_isBinding 12 = .ok (.getfield 20, 3) := by decide +kernel
theorem dX5_isBinding_15 : decode cX5_isBinding 15 = .ok (.iload_n 1, 1) := by decide +kernel
theorem dX5_isBinding_16 : decode cX5_isBinding 16 = .ok (.iaload, 1) := by decide +kernel
theorem dX5_isBinding_17 : decode cX5_isBinding 17 = .ok (.iconst 1, 1) := by decide +kernel
theorem dX5_isBinding_18 : decode cX5_isBinding 18 = .ok (.isub, 1) := by decide +kernel
theorem dX5_isBinding_19 : decode cX5_isBinding 19 = .ok (.invokestatic 68, 3) := by decide +kernel
theorem dX5_isBinding_22 : decode cX5_isBinding 22 = .ok (.ifCond .eq 7, 3) := by decide +kernel
theorem dX5_isBinding_25 : decode cX5_isBinding 25 = .ok (.iconst 1, 1) := by decide +kernel
theorem dX5_isBinding_26 : decode cX5_isBinding 26 = .ok (.goto 4, 3) := by decide +kernel
theorem dX5_isBinding_29 : decode cX5_isBinding 29 = .ok (.iconst 0, 1) := by decide +kernel
theorem dX5_isBinding_30 : decode cX5_isBinding 30 = .ok (.ireturn, 1) := by decide +kernel
theorem dX5_unbind_0 : decode cX5_unbind 0 = .ok (.aload_n 0, 1) := by decide +kernel
theorem dX5_unbind_1 : decode cX5_unbind 1 = .ok (.iload_n 1, 1) := by decide +kernel
theorem dX5_unbind_2 : decode cX5_unbind 2 = .ok (.iload_n 2, 1) := by decide +kernel
theorem dX5_unbind_3 : decode cX5_unbind 3 = .ok (.invokevirtual 79, 3) := by decide +kernel
theorem dX5_unbind_6 : decode cX5_unbind 6 = .ok (.ifCond .ne 5, 3) := by decide +kernel
theorem dX5_unbind_9 : decode cX5_unbind 9 = .ok (.iconst (-1), 1) := by decide +kernel
theorem dX5_unbind_10 : decode cX5_unbind 10 = .ok (.ireturn, 1) := by decide +kernel
theorem dX5_unbind_11 : decode cX5_unbind 11 = .ok (.aload_n 0, 1) := by decide +kernel
theorem dX5_unbind_12 : decode cX5_unbind 12 = .ok (.getfield 20, 3) := by decide +kernel
theorem dX5_unbind_15 : decode cX5_unbind 15 = .ok (.iload_n 1, 1) := by decide +kernel
theorem dX5_unbind_16 : decode cX5_unbind 16 = .ok (.dup2, 1) := by decide +kernel
theorem dX5_unbind_17 : decode cX5_unbind 17 = .ok (.iaload, 1) := by decide +kernel
theorem dX5_unbind_18 : decode cX5_unbind 18 = .ok (.iconst 1, 1) := by decide +kernel
theorem dX5_unbind_19 : decode cX5_unbind 19 = .ok (.isub, 1) := by decide +kernel
theorem dX5_unbind_20 : decode cX5_unbind 20 = .ok (.iastore, 1) := by decide +kernel
theorem dX5_unbind_21 : decode cX5_unbind 21 = .ok (.bipush 10, 2) := by decide +kernel
theorem dX5_unbind_23 : decode cX5_unbind 23 = .ok (.iload_n 1, 1) := by decide +kernel
theorem dX5_unbind_24 : decode cX5_unbind 24 = .ok (.imul, 1) := by decide +kernel
theorem dX5_unbind_25 : decode cX5_unbind 25 = .ok (.iload_n 2, 1) := by decide +kernel
theorem dX5_unbind_26 : decode cX5_unbind 26 = .ok (.iadd, 1) := by decide +kernel
theorem dX5_unbind_27 : decode cX5_unbind 27 = .ok (.istore_n 3, 1) := by decide +kernel
theorem dX5_unbind_28 : decode cX5_unbind 28 = .ok (.iload_n 3, 1) := by decide +kernel
theorem dX5_unbind_29 : decode cX5_unbind 29 = .ok (.bipush 10, 2) := by decide +kernel
theorem dX5_unbind_31 : decode cX5_unbind 31 = .ok (.iload_n 1, 1) := by decide +kernel
theorem dX5_unbind_32 : decode cX5_unbind 32 = .ok (.imul, 1) := by decide +kernel
theorem dX5_unbind_33 : decode cX5_unbind 33 = .ok (.aload_n 0, 1) := by decide +kernel
theorem dX5_unbind_34 : decode cX5_unbind 34 = .ok (.getfield 20, 3) := by decide +kernel
theorem dX5_unbind_37 : decode cX5_unbind 37 = .ok (.iload_n 1, 1) := by decide +kernel
theorem dX5_unbind_38 : decode cX5_unbind 38 = .ok (.iaload, 1) := by decide +kernel
theorem dX5_unbind_39 : decode cX5_unbind 39 = .ok (.iadd, 1) := by decide +kernel
theorem dX5_unbind_40 : decode cX5_unbind 40 = .ok (.if_icmp .ge 118, 3) := by decide +kernel
theorem dX5_unbind_43 : decode cX5_unbind 43 = .ok (.aload_n 0, 1) := by decide +kernel
theorem dX5_unbind_44 : decode cX5_unbind 44 = .ok (.getfield 23, 3) := by decide +kernel
theorem dX5_unbind_47 : decode cX5_unbind 47 = .ok (.iload_n 3, 1) := by decide +kernel
theorem dX5_unbind_48 : decode cX5_unbind 48 = .ok (.aload_n 0, 1) := by decide +kernel
theorem dX5_unbind_49 : decode cX5_unbind 49 = .ok (.getfield 23, 3) := by decide +kernel
theorem dX5_unbind_52 : decode cX5_unbind 52 = .ok (.iload_n 3, 1) := by decide +kernel
theorem dX5_unbind_53 : decode cX5_unbind 53 = .ok (.iconst 1, 1) := by decide +kernel
theorem dX5_unbind_54 : decode cX5_unbind 54 = .ok (.iadd, 1) := by decide +kernel
theorem dX5_unbind_55 : decode cX5_unbind 55 = .ok (.iaload, 1) := by decide +kernel
theorem dX5_unbind_56 : decode cX5_unbind 56 = .ok (.iastore, 1) := by decide +kernel
theorem dX5_unbind_57 : decode cX5_unbind 57 = .ok (.aload_n 0, 1) := by decide +kernel
theorem dX5_unbind_58 : decode cX5_unbind 58 = .ok (.getfield 29, 3) := by decide +kernel
theorem dX5_unbind_61 : decode cX5_unbind 61 = .ok (.iload_n 3, 1) := by decide +kernel
theorem dX5_unbind_62 : decode cX5_unbind 62 = .ok (.aload_n 0, 1) := by decide +kernel
theorem dX5_unbind_63 : decode cX5_unbind 63 = .ok (.getfield 29, 3) := by decide +kernel
theorem dX5_unbind_66 : decode cX5_unbind 66 = .ok (.iload_n 3, 1) := by decide +kernel
theorem dX5_unbind_67 : decode cX5_unbind 67 = .ok (.iconst 1, 1) := by decide +kernel
theorem dX5_unbind_68 : decode cX5_unbind 68 = .ok (.iadd, 1) := by decide +kernel
theorem dX5_unbind_69 : decode cX5_unbind 69 = .ok (.iaload, 1) := by decide +kernel
theorem dX5_unbind_70 : decode cX5_unbind 70 = .ok (.iastore, 1) := by decide +kernel
theorem dX5_unbind_71 : decode cX5_unbind 71 = .ok (.aload_n 0, 1) := by decide +kernel
theorem dX5_unbind_72 : decode cX5_unbind 72 = .ok (.getfield 32, 3) := by decide +kernel
theorem dX5_unbind_75 : decode cX5_unbind 75 = .ok (.iload_n 3, 1) := by decide +kernel
theorem dX5_unbind_76 : decode cX5_unbind 76 = .ok (.aload_n 0, 1) := by decide +kernel
theorem dX5_unbind_77 : decode cX5_unbind 77 = .ok (.getfield 32, 3) := by decide +kernel
theorem dX5_unbind_80 : decode cX5_unbind 80 = .ok (.iload_n 3, 1) := by decide +kernel
theorem dX5_unbind_81 : decode cX5_unbind 81 = .ok (.iconst 1, 1) := by decide +kernel
theorem dX5_unbind_82 : decode cX5_unbind 82 = .ok (.iadd, 1) := by decide +kernel
theorem dX5_unbind_83 : decode cX5_unbind 83 = .ok (.iaload, 1) := by decide +kernel
theorem dX5_unbind_84 : decode cX5_unbind 84 = .ok (.iastore, 1) := by decide +kernel
theorem dX5_unbind_85 : decode cX5_unbind 85 = .ok (.aload_n 0, 1) := by decide +kernel
theorem dX5_unbind_86 : decode cX5_unbind 86 = .ok (.getfield 35, 3) := by decide +kernel
theorem dX5_unbind_89 : decode cX5_unbind 89 = .ok (.iload_n 3, 1) := by decide +kernel
theorem dX5_unbind_90 : decode cX5_unbind 90 = .ok (.aload_n 0, 1) := by decide +kernel
theorem dX5_unbind_91 : decode cX5_unbind 91 = .ok (.getfield 35, 3) := by decide +kernel
theorem dX5_unbind_94 : decode cX5_unbind 94 = .ok (.iload_n 3, 1) := by decide +kernel
theorem dX5_unbind_95 : decode cX5_unbind 95 = .ok (.iconst 1, 1) := by decide +kernel
theorem dX5_unbind_96 : decode cX5_unbind 96 = .ok (.iadd, 1) := by decide +kernel
theorem dX5_unbind_97 : decode cX5_unbind 97 = .ok (.iaload, 1) := by decide +kernel
theorem dX5_unbind_98 : decode cX5_unbind 98 = .ok (.iastore, 1) := by decide +kernel
theorem dX5_unbind_99 : decode cX5_unbind 99 = .ok (.aload_n 0, 1) := by decide +kernel
theorem dX5_unbind_100 : decode cX5_unbind 100 = .ok (.getfield 38, 3) := by decide +kernel
theorem dX5_unbind_103 : decode cX5_unbind 103 = .ok (.iload_n 3, 1) := by decide +kernel
theorem dX5_unbind_104 : decode cX5_unbind 104 = .ok (.aload_n 0, 1) := by decide +kernel
theorem dX5_unbind_105 : decode cX5_unbind 105 = .ok (.getfield 38, 3) := by decide +kernel
theorem dX5_unbind_108 : decode cX5_unbind 108 = .ok (.iload_n 3, 1) := by decide +kernel
theorem dX5_unbind_109 : decode cX5_unbind 109 = .ok (.iconst 1, 1) := by decide +kernel
theorem dX5_unbind_110 : decode cX5_unbind 110 = .ok (.iadd, 1) := by decide +kernel
theorem dX5_unbind_111 : decode cX5_unbind 111 = .ok (.iaload, 1) := by decide +kernel
theorem dX5_unbind_112 : decode cX5_unbind 112 = .ok (.iastore, 1) := by decide +kernel
theorem dX5_unbind_113 : decode cX5_unbind 113 = .ok (.iconst 0, 1) := by decide +kernel
theorem dX5_unbind_114 : decode cX5_unbind 114 = .ok (.istore 4, 2) := by decide +kernel
theorem dX5_unbind_116 : decode cX5_unbind 116 = .ok (.iload 4, 2) := by decide +kernel
theorem dX5_unbind_118 : decode cX5_unbind 118 = .ok (.iconst 4, 1) := by decide +kernel
theorem dX5_unbind_119 : decode cX5_unbind 119 = .ok (.if_icmp .ge 33, 3) := by decide +kernel
theorem dX5_unbind_122 : decode cX5_unbind 122 = .ok (.aload_n 0, 1) := by decide +kernel
theorem dX5_unbind_123 : decode cX5_unbind 123 = .ok (.getfield 26, 3) := by decide +kernel
theorem dX5_unbind_126 : decode cX5_unbind 126 = .ok (.iconst 4, 1) := by decide +kernel
theorem dX5_unbind_127 : decode cX5_unbind 127 = .ok (.iload_n 3, 1) := by decide +kernel
theorem dX5_unbind_128 : decode cX5_unbind 128 = .ok (.imul, 1) := by decide +kernel
theorem dX5_unbind_129 : decode cX5_unbind 129 = .ok (.iload 4, 2) := by decide +kernel
theorem dX5_unbind_131 : decode cX5_unbind 131 = .ok (.iadd, 1) := by decide +kernel
theorem dX5_unbind_132 : decode cX5_unbind 132 = .ok (.aload_n 0, 1) := by decide +kernel
theorem dX5_unbind_133 : decode cX5_unbind 133 = .ok (.getfield 26, 3) := by decide +kernel
theorem dX5_unbind_136 : decode cX5_unbind 136 = .ok (.iconst 4, 1) := by decide +kernel
theorem dX5_unbind_137 : decode cX5_unbind 137 = .ok (.iload_n 3, 1) := by decide +kernel
theorem dX5_unbind_138 : decode cX5_unbind 138 = .ok (.imul, 1) := by decide +kernel
theorem dX5_unbind_139 : decode cX5_unbind 139 = .ok (.iconst 4, 1) := by decide +kernel
theorem dX5_unbind_140 : decode cX5_unbind 140 = .ok (.iadd, 1) := by decide +kernel
theorem dX5_unbind_141 : decode cX5_unbind 141 = .ok (.iload 4, 2) := by decide +kernel
theorem dX5_unbind_143 : decode cX5_unbind 143 = .ok (.iadd, 1) := by decide +kernel
theorem dX5_unbind_144 : decode cX5_unbind 144 = .ok (.iaload, 1) := by decide +kernel
theorem dX5_unbind_145 : decode cX5_unbind 145 = .ok (.iastore, 1) := by decide +kernel
theorem dX5_unbind_146 : decode cX5_unbind 146 = .ok (.iinc 4 1, 3) := by decide +kernel
theorem dX5_unbind_149 : decode cX5_unbind 149 = .ok (.goto (-33), 3) := by decide +kernel
theorem dX5_unbind_152 : decode cX5_unbind 152 = .ok (.iinc 3 1, 3) := by decide +kernel
theorem dX5_unbind_155 : decode cX5_unbind 155 = .ok (.goto (-127), 3) := by decide +kernel
theorem dX5_unbind_158 : decode cX5_unbind 158 = .ok (.aload_n 0, 1) := by decide +kernel
theorem dX5_unbind_159 : decode cX5_unbind 159 = .ok (.getfield 20, 3) := by decide +kernel
theorem dX5_unbind_162 : decode cX5_unbind 162 = .ok (.iload_n 1, 1) := by decide +kernel
theorem dX5_unbind_163 : decode cX5_unbind 163 = .ok (.iaload, 1) := by decide +kernel
theorem dX5_unbind_164 : decode cX5_unbind 164 = .ok (.ireturn, 1) := by decide +kernel
theorem dX5_bindingCount_0 : decode cX5_bindingCount 0 = .ok (.iload_n 1, 1) := by decide +kernel
theorem dX5_bindingCount_1 : decode cX5_bindingCount 1 = .ok (.iconst 0, 1) := by decide +kernel
theorem dX5_bindingCount_2 : decode cX5_bindingCount 2 = .ok (.iconst 3, 1) := by decide +kernel
theorem dX5_bindingCount_3 : decode cX5_bindingCount 3 = .ok (.invokestatic 68, 3) := by decide +kernel
theorem dX5_bindingCount_6 : decode cX5_bindingCount 6 = .ok (.ifCond .eq 12, 3) := by decide +kernel
theorem dX5_bindingCount_9 : decode cX5_bindingCount 9 = .ok (.aload_n 0, 1) := by decide +kernel
theorem dX5_bindingCount_10 : decode cX5_bindingCount 10 = .ok (.getfield 20, 3) := by decide +kernel
theorem dX5_bindingCount_13 : decode cX5_bindingCount 13 = .ok (.iload_n 1, 1) := by decide +kernel
theorem dX5_bindingCount_14 : decode cX5_bindingCount 14 = .ok (.iaload, 1) := by decide +kernel
theorem dX5_bindingCount_15 : decode cX5_bindingCount 15 = .ok (.goto 4, 3) := by decide +kernel
theorem dX5_bindingCount_18 : decode cX5_bindingCount 18 = .ok (.iconst (-1), 1) := by decide +kernel
theorem dX5_bindingCount_19 : decode cX5_bindingCount 19 = .ok (.ireturn, 1) := by decide +kernel
theorem dX5_shadowedBy_0 : decode cX5_shadowedBy 0 = .ok (.aload_n 0, 1) := by decide +kernel
theorem dX5_shadowedBy_1 : decode cX5_shadowedBy 1 = .ok (.iload_n 1, 1) := by decide +kernel
theorem dX5_shadowedBy_2 : decode cX5_shadowedBy 2 = .ok (.iload_n 2, 1) := by decide +kernel
theorem dX5_shadowedBy_3 : decode cX5_shadowedBy 3 = .ok (.invokevirtual 79, 3) := by decide +kernel
theorem dX5_shadowedBy_6 : decode cX5_shadowedBy 6 = .ok (.ifCond .ne 5, 3) := by decide +kernel
theorem dX5_shadowedBy_9 : decode cX5_shadowedBy 9 = .ok (.iconst (-1), 1) := by decide +kernel
theorem dX5_shadowedBy_10 : decode cX5_shadowedBy 10 = .ok (.ireturn, 1) := by decide +kernel
theorem dX5_shadowedBy_11 : decode cX5_shadowedBy 11 = .ok (.bipush 10, 2) := by decide +kernel
theorem dX5_shadowedBy_13 : decode cX5_shadowedBy 13 = .ok (.iload_n 1, 1) := by decide +kernel
theorem dX5_shadowedBy_14 : decode cX5_shadowedBy 14 = .ok (.imul, 1) := by decide +kernel
theorem dX5_shadowedBy_15 : decode cX5_shadowedBy 15 = .ok (.iload_n 2, 1) := by decide +kernel
theorem dX5_shadowedBy_16 : decode cX5_shadowedBy 16 = .ok (.iadd, 1) := by decide +kernel
theorem dX5_shadowedBy_17 : decode cX5_shadowedBy 17 = .ok (.istore_n 3, 1) := by decide +kernel
theorem dX5_shadowedBy_18 : decode cX5_shadowedBy 18 = .ok (.iconst 0, 1) := by decide +kernel
theorem dX5_shadowedBy_19 : decode cX5_shadowedBy 19 = .ok (.istore 4, 2) := by decide +kernel
theorem dX5_shadowedBy_21 : decode cX5_shadowedBy 21 = .ok (.iload 4, 2) := by decide +kernel
theorem dX5_shadowedBy_23 : decode cX5_shadowedBy 23 = .ok (.iload_n 2, 1) := by decide +kernel
theorem dX5_shadowedBy_24 : decode cX5_shadowedBy 24 = .ok (.if_icmp .ge 149, 3) := by decide +kernel
theorem dX5_shadowedBy_27 : decode cX5_shadowedBy 27 = .ok (.bipush 10, 2) := by decide +kernel
theorem dX5_shadowedBy_29 : decode cX5_shadowedBy 29 = .ok (.iload_n 1, 1) := by decide +kernel
theorem dX5_shadowedBy_30 : decode cX5_shadowedBy 30 = .ok (.imul, 1) := by decide +kernel
theorem dX5_shadowedBy_31 : decode cX5_shadowedBy 31 = .ok (.iload 4, 2) := by decide +kernel
theorem dX5_shadowedBy_33 : decode cX5_shadowedBy 33 = .ok (.iadd, 1) := by decide +kernel
theorem dX5_shadowedBy_34 : decode cX5_shadowedBy 34 = .ok (.istore 5, 2) := by decide +kernel
theorem dX5_shadowedBy_36 : decode cX5_shadowedBy 36 = .ok (.aload_n 0, 1) := by decide +kernel
theorem dX5_shadowedBy_37 : decode cX5_shadowedBy 37 = .ok (.getfield 23, 3) := by decide +kernel
theorem dX5_shadowedBy_40 : decode cX5_shadowedBy 40 = .ok (.iload 5, 2) := by decide +kernel
theorem dX5_shadowedBy_42 : decode cX5_shadowedBy 42 = .ok (.iaload, 1) := by decide +kernel
theorem dX5_shadowedBy_43 : decode cX5_shadowedBy 43 = .ok (.aload_n 0, 1) := by decide +kernel
theorem dX5_shadowedBy_44 : decode cX5_shadowedBy 44 = .ok (.getfield 23, 3) := by decide +kernel
theorem dX5_shadowedBy_47 : decode cX5_shadowedBy 47 = .ok (.iload_n 3, 1) := by decide +kernel
theorem dX5_shadowedBy_48 : decode cX5_shadowedBy 48 = .ok (.iaload, 1) := by decide +kernel
theorem dX5_shadowedBy_49 : decode cX5_shadowedBy 49 = .ok (.if_icmp .ne 49, 3) := by decide +kernel
theorem dX5_shadowedBy_52 : decode cX5_shadowedBy 52 = .ok (.aload_n 0, 1) := by decide +kernel
theorem dX5_shadowedBy_53 : decode cX5_shadowedBy 53 = .ok (.getfield 29, 3) := by decide +kernel
theorem dX5_shadowedBy_56 : decode cX5_shadowedBy 56 = .ok (.iload 5, 2) := by decide +kernel
theorem dX5_shadowedBy_58 : decode cX5_shadowedBy 58 = .ok (.iaload, 1) := by decide +kernel
theorem dX5_shadowedBy_59 : decode cX5_shadowedBy 59 = .ok (.ifCond .lt 35, 3) := by decide +kernel
theorem dX5_shadowedBy_62 : decode cX5_shadowedBy 62 = .ok (.aload_n 0, 1) := by decide +kernel
theorem dX5_shadowedBy_63 : decode cX5_shadowedBy 63 = .ok (.getfield 29, 3) := by decide +kernel
theorem dX5_shadowedBy_66 : decode cX5_shadowedBy 66 = .ok (.iload 5, 2) := by decide +kernel
theorem dX5_shadowedBy_68 : decode cX5_shadowedBy 68 = .ok (.iaload, 1) := by decide +kernel
theorem dX5_shadowedBy_69 : decode cX5_shadowedBy 69 = .ok (.aload_n 0, 1) := by decide +kernel
theorem dX5_shadowedBy_70 : decode cX5_shadowedBy 70 = .ok (.getfield 29, 3) := by decide +kernel
theorem dX5_shadowedBy_73 : decode cX5_shadowedBy 73 = .ok (.iload_n 3, 1) := by decide +kernel
theorem dX5_shadowedBy_74 : decode cX5_shadowedBy 74 = .ok (.iaload, 1) := by decide +kernel
theorem dX5_shadowedBy_75 : decode cX5_shadowedBy 75 = .ok (.if_icmp .ne 23, 3) := by decide +kernel
theorem dX5_shadowedBy_78 : decode cX5_shadowedBy 78 = .ok (.aload_n 0, 1) := by decide +kernel
theorem dX5_shadowedBy_79 : decode cX5_shadowedBy 79 = .ok (.getfield 32, 3) := by decide +kernel
theorem dX5_shadowedBy_82 : decode cX5_shadowedBy 82 = .ok (.iload 5, 2) := by decide +kernel
theorem dX5_shadowedBy_84 : decode cX5_shadowedBy 84 = .ok (.iaload, 1) := by decide +kernel
theorem dX5_shadowedBy_85 : decode cX5_shadowedBy 85 = .ok (.aload_n 0, 1) := by decide +kernel
theorem dX5_shadowedBy_86 : decode cX5_shadowedBy 86 = .ok (.getfield 32, 3) := by decide +kernel
theorem dX5_shadowedBy_89 : decode cX5_shadowedBy 89 = .ok (.iload_n 3, 1) := by decide +kernel
theorem dX5_shadowedBy_90 : decode cX5_shadowedBy 90 = .ok (.iaload, 1) := by decide +kernel
theorem dX5_shadowedBy_91 : decode cX5_shadowedBy 91 = .ok (.if_icmp .ne 7, 3) := by decide +kernel
theorem dX5_shadowedBy_94 : decode cX5_shadowedBy 94 = .ok (.iconst 1, 1) := by decide +kernel
theorem dX5_shadowedBy_95 : decode cX5_shadowedBy 95 = .ok (.goto 4, 3) := by decide +kernel
theorem dX5_shadowedBy_98 : decode cX5_shadowedBy 98 = .ok (.iconst 0, 1) := by decide +kernel
theorem dX5_shadowedBy_99 : decode cX5_shadowedBy 99 = .ok (.istore 6, 2) := by decide +kernel
theorem dX5_shadowedBy_101 : decode cX5_shadowedBy 101 = .ok (.iconst 0, 1) := by decide +kernel
theorem dX5_shadowedBy_102 : decode cX5_shadowedBy 102 = .ok (.istore 7, 2) := by decide +kernel
theorem dX5_shadowedBy_104 : decode cX5_shadowedBy 104 = .ok (.iload 7, 2) := by decide +kernel
theorem dX5_shadowedBy_106 : decode cX5_shadowedBy 106 = .ok (.aload_n 0, 1) := by decide +kernel
theorem dX5_shadowedBy_107 : decode cX5_shadowedBy 107 = .ok (.getfield 23, 3) := by decide +kernel
theorem dX5_shadowedBy_110 : decode cX5_shadowedBy 110 = .ok (.iload_n 3, 1) := by decide +kernel
theorem dX5_shadowedBy_111 : decode cX5_shadowedBy 111 = .ok (.iaload, 1) := by decide +kernel
theorem dX5_shadowedBy_112 : decode cX5_shadowedBy 112 = .ok (.if_icmp .ge 47, 3) := by decide +kernel
theorem dX5_shadowedBy_115 : decode cX5_shadowedBy 115 = .ok (.iload 6, 2) := by decide +kernel
theorem dX5_shadowedBy_117 : decode cX5_shadowedBy 117 = .ok (.ifCond .eq 33, 3) := by decide +kernel
theorem dX5_shadowedBy_120 : decode cX5_shadowedBy 120 = .ok (.aload_n 0, 1) := by decide +kernel
theorem dX5_shadowedBy_121 : decode cX5_shadowedBy 121 = .ok (.getfield 26, 3) := by decide +kernel
end
section
theorem dX5_shadowedBy_124 : decode cX5_shadowedBy 124 = .ok (.iconst 4, 1) := by decide +kernel
theorem dX5_shadowedBy_125 : decode cX5_shadowedBy 125 = .ok (.iload 5, 2) := by decide +kernel
theorem dX5_shadowedBy_127 : decode cX5_shadowedBy 127 = .ok (.imul, 1) := by decide +kernel
theorem dX5_shadowedBy_128 : decode cX5_shadowedBy 128 = .ok (.iload 7, 2) := by decide +kernel
theorem dX5_shadowedBy_130 : decode cX5_shadowedBy 130 = .ok (.iadd, 1) := by decide +kernel
theorem dX5_shadowedBy_131 : decode cX5_shadowedBy 131 = .ok (.iaload, 1) := by decide +kernel
theorem dX5_shadowedBy_132 : decode cX5_shadowedBy 132 = .ok (.aload_n 0, 1) := by decide +kernel
theorem dX5_shadowedBy_133 : decode cX5_shadowedBy 133 = .ok (.getfield 26, 3) := by decide +kernel
theorem dX5_shadowedBy_136 : decode cX5_shadowedBy 136 = .ok (.iconst 4, 1) := by decide +kernel
theorem dX5_shadowedBy_137 : decode cX5_shadowedBy 137 = .ok (.iload_n 3, 1) := by decide +kernel
theorem dX5_shadowedBy_138 : decode cX5_shadowedBy 138 = .ok (.imul, 1) := by decide +kernel
theorem dX5_shadowedBy_139 : decode cX5_shadowedBy 139 = .ok (.iload 7, 2) := by decide +kernel
theorem dX5_shadowedBy_141 : decode cX5_shadowedBy 141 = .ok (.iadd, 1) := by decide +kernel
theorem dX5_shadowedBy_142 : decode cX5_shadowedBy 142 = .ok (.iaload, 1) := by decide +kernel
theorem dX5_shadowedBy_143 : decode cX5_shadowedBy 143 = .ok (.if_icmp .ne 7, 3) := by decide +kernel
theorem dX5_shadowedBy_146 : decode cX5_shadowedBy 146 = .ok (.iconst 1, 1) := by decide +kernel
theorem dX5_shadowedBy_147 : decode cX5_shadowedBy 147 = .ok (.goto 4, 3) := by decide +kernel
theorem dX5_shadowedBy_150 : decode cX5_shadowedBy 150 = .ok (.iconst 0, 1) := by decide +kernel
theorem dX5_shadowedBy_151 : decode cX5_shadowedBy 151 = .ok (.istore 6, 2) := by decide +kernel
theorem dX5_shadowedBy_153 : decode cX5_shadowedBy 153 = .ok (.iinc 7 1, 3) := by decide +kernel
theorem dX5_shadowedBy_156 : decode cX5_shadowedBy 156 = .ok (.goto (-52), 3) := by decide +kernel
theorem dX5_shadowedBy_159 : decode cX5_shadowedBy 159 = .ok (.iload 6, 2) := by decide +kernel
theorem dX5_shadowedBy_161 : decode cX5_shadowedBy 161 = .ok (.ifCond .eq 6, 3) := by decide +kernel
theorem dX5_shadowedBy_164 : decode cX5_shadowedBy 164 = .ok (.iload 4, 2) := by decide +kernel
theorem dX5_shadowedBy_166 : decode cX5_shadowedBy 166 = .ok (.ireturn, 1) := by decide +kernel
theorem dX5_shadowedBy_167 : decode cX5_shadowedBy 167 = .ok (.iinc 4 1, 3) := by decide +kernel
theorem dX5_shadowedBy_170 : decode cX5_shadowedBy 170 = .ok (.goto (-149), 3) := by decide +kernel
theorem dX5_shadowedBy_173 : decode cX5_shadowedBy 173 = .ok (.bipush (-4), 2) := by decide +kernel
theorem dX5_shadowedBy_175 : decode cX5_shadowedBy 175 = .ok (.ireturn, 1) := by decide +kernel
theorem dX5_fits_0 : decode cX5_fits 0 = .ok (.aload_n 0, 1) := by decide +kernel
theorem dX5_fits_1 : decode cX5_fits 1 = .ok (.getfield 23, 3) := by decide +kernel
theorem dX5_fits_4 : decode cX5_fits 4 = .ok (.iload_n 1, 1) := by decide +kernel
theorem dX5_fits_5 : decode cX5_fits 5 = .ok (.iaload, 1) := by decide +kernel
theorem dX5_fits_6 : decode cX5_fits 6 = .ok (.iload_n 2, 1) := by decide +kernel
theorem dX5_fits_7 : decode cX5_fits 7 = .ok (.if_icmp .lt 36, 3) := by decide +kernel
theorem dX5_fits_10 : decode cX5_fits 10 = .ok (.aload_n 0, 1) := by decide +kernel
theorem dX5_fits_11 : decode cX5_fits 11 = .ok (.getfield 29, 3) := by decide +kernel
theorem dX5_fits_14 : decode cX5_fits 14 = .ok (.iload_n 1, 1) := by decide +kernel
theorem dX5_fits_15 : decode cX5_fits 15 = .ok (.iaload, 1) := by decide +kernel
theorem dX5_fits_16 : decode cX5_fits 16 = .ok (.ifCond .lt 23, 3) := by decide +kernel
theorem dX5_fits_19 : decode cX5_fits 19 = .ok (.aload_n 0, 1) := by decide +kernel
theorem dX5_fits_20 : decode cX5_fits 20 = .ok (.getfield 7, 3) := by decide +kernel
theorem dX5_fits_23 : decode cX5_fits 23 = .ok (.aload_n 0, 1) := by decide +kernel
theorem dX5_fits_24 : decode cX5_fits 24 = .ok (.getfield 29, 3) := by decide +kernel
theorem dX5_fits_27 : decode cX5_fits 27 = .ok (.iload_n 1, 1) := by decide +kernel
theorem dX5_fits_28 : decode cX5_fits 28 = .ok (.iaload, 1) := by decide +kernel
theorem dX5_fits_29 : decode cX5_fits 29 = .ok (.iaload, 1) := by decide +kernel
theorem dX5_fits_30 : decode cX5_fits 30 = .ok (.aload_n 0, 1) := by decide +kernel
theorem dX5_fits_31 : decode cX5_fits 31 = .ok (.getfield 32, 3) := by decide +kernel
theorem dX5_fits_34 : decode cX5_fits 34 = .ok (.iload_n 1, 1) := by decide +kernel
theorem dX5_fits_35 : decode cX5_fits 35 = .ok (.iaload, 1) := by decide +kernel
theorem dX5_fits_36 : decode cX5_fits 36 = .ok (.if_icmp .ne 7, 3) := by decide +kernel
theorem dX5_fits_39 : decode cX5_fits 39 = .ok (.iconst 1, 1) := by decide +kernel
theorem dX5_fits_40 : decode cX5_fits 40 = .ok (.goto 4, 3) := by decide +kernel
theorem dX5_fits_43 : decode cX5_fits 43 = .ok (.iconst 0, 1) := by decide +kernel
theorem dX5_fits_44 : decode cX5_fits 44 = .ok (.istore_n 3, 1) := by decide +kernel
theorem dX5_fits_45 : decode cX5_fits 45 = .ok (.iconst 0, 1) := by decide +kernel
theorem dX5_fits_46 : decode cX5_fits 46 = .ok (.istore 4, 2) := by decide +kernel
theorem dX5_fits_48 : decode cX5_fits 48 = .ok (.iload 4, 2) := by decide +kernel
theorem dX5_fits_50 : decode cX5_fits 50 = .ok (.iload_n 2, 1) := by decide +kernel
theorem dX5_fits_51 : decode cX5_fits 51 = .ok (.if_icmp .ge 40, 3) := by decide +kernel
theorem dX5_fits_54 : decode cX5_fits 54 = .ok (.iload_n 3, 1) := by decide +kernel
theorem dX5_fits_55 : decode cX5_fits 55 = .ok (.ifCond .eq 36, 3) := by decide +kernel
theorem dX5_fits_58 : decode cX5_fits 58 = .ok (.aload_n 0, 1) := by decide +kernel
theorem dX5_fits_59 : decode cX5_fits 59 = .ok (.getfield 26, 3) := by decide +kernel
theorem dX5_fits_62 : decode cX5_fits 62 = .ok (.iconst 4, 1) := by decide +kernel
theorem dX5_fits_63 : decode cX5_fits 63 = .ok (.iload_n 1, 1) := by decide +kernel
theorem dX5_fits_64 : decode cX5_fits 64 = .ok (.imul, 1) := by decide +kernel
theorem dX5_fits_65 : decode cX5_fits 65 = .ok (.iload 4, 2) := by decide +kernel
theorem dX5_fits_67 : decode cX5_fits 67 = .ok (.iadd, 1) := by decide +kernel
theorem dX5_fits_68 : decode cX5_fits 68 = .ok (.iaload, 1) := by decide +kernel
theorem dX5_fits_69 : decode cX5_fits 69 = .ok (.aload_n 0, 1) := by decide +kernel
theorem dX5_fits_70 : decode cX5_fits 70 = .ok (.getfield 44, 3) := by decide +kernel
theorem dX5_fits_73 : decode cX5_fits 73 = .ok (.iload 4, 2) := by decide +kernel
theorem dX5_fits_75 : decode cX5_fits 75 = .ok (.iaload, 1) := by decide +kernel
theorem dX5_fits_76 : decode cX5_fits 76 = .ok (.if_icmp .ne 7, 3) := by decide +kernel
theorem dX5_fits_79 : decode cX5_fits 79 = .ok (.iconst 1, 1) := by decide +kernel
theorem dX5_fits_80 : decode cX5_fits 80 = .ok (.goto 4, 3) := by decide +kernel
theorem dX5_fits_83 : decode cX5_fits 83 = .ok (.iconst 0, 1) := by decide +kernel
theorem dX5_fits_84 : decode cX5_fits 84 = .ok (.istore_n 3, 1) := by decide +kernel
theorem dX5_fits_85 : decode cX5_fits 85 = .ok (.iinc 4 1, 3) := by decide +kernel
theorem dX5_fits_88 : decode cX5_fits 88 = .ok (.goto (-40), 3) := by decide +kernel
theorem dX5_fits_91 : decode cX5_fits 91 = .ok (.iload_n 3, 1) := by decide +kernel
theorem dX5_fits_92 : decode cX5_fits 92 = .ok (.ireturn, 1) := by decide +kernel
theorem dX5_bound_0 : decode cX5_bound 0 = .ok (.aload_n 0, 1) := by decide +kernel
theorem dX5_bound_1 : decode cX5_bound 1 = .ok (.getfield 13, 3) := by decide +kernel
theorem dX5_bound_4 : decode cX5_bound 4 = .ok (.iconst 1, 1) := by decide +kernel
theorem dX5_bound_5 : decode cX5_bound 5 = .ok (.isub, 1) := by decide +kernel
theorem dX5_bound_6 : decode cX5_bound 6 = .ok (.istore_n 2, 1) := by decide +kernel
theorem dX5_bound_7 : decode cX5_bound 7 = .ok (.iload_n 2, 1) := by decide +kernel
theorem dX5_bound_8 : decode cX5_bound 8 = .ok (.ifCond .lt 69, 3) := by decide +kernel
theorem dX5_bound_11 : decode cX5_bound 11 = .ok (.iconst 0, 1) := by decide +kernel
theorem dX5_bound_12 : decode cX5_bound 12 = .ok (.istore_n 3, 1) := by decide +kernel
theorem dX5_bound_13 : decode cX5_bound 13 = .ok (.iload_n 3, 1) := by decide +kernel
theorem dX5_bound_14 : decode cX5_bound 14 = .ok (.aload_n 0, 1) := by decide +kernel
theorem dX5_bound_15 : decode cX5_bound 15 = .ok (.getfield 20, 3) := by decide +kernel
theorem dX5_bound_18 : decode cX5_bound 18 = .ok (.aload_n 0, 1) := by decide +kernel
theorem dX5_bound_19 : decode cX5_bound 19 = .ok (.getfield 17, 3) := by decide +kernel
theorem dX5_bound_22 : decode cX5_bound 22 = .ok (.iload_n 2, 1) := by decide +kernel
theorem dX5_bound_23 : decode cX5_bound 23 = .ok (.iaload, 1) := by decide +kernel
theorem dX5_bound_24 : decode cX5_bound 24 = .ok (.iaload, 1) := by decide +kernel
theorem dX5_bound_25 : decode cX5_bound 25 = .ok (.if_icmp .ge 46, 3) := by decide +kernel
theorem dX5_bound_28 : decode cX5_bound 28 = .ok (.bipush 10, 2) := by decide +kernel
theorem dX5_bound_30 : decode cX5_bound 30 = .ok (.aload_n 0, 1) := by decide +kernel
theorem dX5_bound_31 : decode cX5_bound 31 = .ok (.getfield 17, 3) := by decide +kernel
theorem dX5_bound_34 : decode cX5_bound 34 = .ok (.iload_n 2, 1) := by decide +kernel
theorem dX5_bound_35 : decode cX5_bound 35 = .ok (.iaload, 1) := by decide +kernel
theorem dX5_bound_36 : decode cX5_bound 36 = .ok (.imul, 1) := by decide +kernel
theorem dX5_bound_37 : decode cX5_bound 37 = .ok (.iload_n 3, 1) := by decide +kernel
theorem dX5_bound_38 : decode cX5_bound 38 = .ok (.iadd, 1) := by decide +kernel
theorem dX5_bound_39 : decode cX5_bound 39 = .ok (.istore 4, 2) := by decide +kernel
theorem dX5_bound_41 : decode cX5_bound 41 = .ok (.aload_n 0, 1) := by decide +kernel
theorem dX5_bound_42 : decode cX5_bound 42 = .ok (.getfield 23, 3) := by decide +kernel
theorem dX5_bound_45 : decode cX5_bound 45 = .ok (.iload 4, 2) := by decide +kernel
theorem dX5_bound_47 : decode cX5_bound 47 = .ok (.iaload, 1) := by decide +kernel
theorem dX5_bound_48 : decode cX5_bound 48 = .ok (.iload_n 1, 1) := by decide +kernel
theorem dX5_bound_49 : decode cX5_bound 49 = .ok (.if_icmp .ne 16, 3) := by decide +kernel
theorem dX5_bound_52 : decode cX5_bound 52 = .ok (.aload_n 0, 1) := by decide +kernel
theorem dX5_bound_53 : decode cX5_bound 53 = .ok (.iload 4, 2) := by decide +kernel
theorem dX5_bound_55 : decode cX5_bound 55 = .ok (.iload_n 1, 1) := by decide +kernel
theorem dX5_bound_56 : decode cX5_bound 56 = .ok (.invokevirtual 83, 3) := by decide +kernel
theorem dX5_bound_59 : decode cX5_bound 59 = .ok (.ifCond .eq 6, 3) := by decide +kernel
theorem dX5_bound_62 : decode cX5_bound 62 = .ok (.iload 4, 2) := by decide +kernel
theorem dX5_bound_64 : decode cX5_bound 64 = .ok (.ireturn, 1) := by decide +kernel
theorem dX5_bound_65 : decode cX5_bound 65 = .ok (.iinc 3 1, 3) := by decide +kernel
theorem dX5_bound_68 : decode cX5_bound 68 = .ok (.goto (-55), 3) := by decide +kernel
theorem dX5_bound_71 : decode cX5_bound 71 = .ok (.iinc 2 (-1), 3) := by decide +kernel
theorem dX5_bound_74 : decode cX5_bound 74 = .ok (.goto (-67), 3) := by decide +kernel
theorem dX5_bound_77 : decode cX5_bound 77 = .ok (.bipush (-4), 2) := by decide +kernel
theorem dX5_bound_79 : decode cX5_bound 79 = .ok (.ireturn, 1) := by decide +kernel
theorem dX5_isExtensible_0 : decode cX5_isExtensible 0 = .ok (.iconst 0, 1) := by decide +kernel
theorem dX5_isExtensible_1 : decode cX5_isExtensible 1 = .ok (.istore_n 1, 1) := by decide +kernel
theorem dX5_isExtensible_2 : decode cX5_isExtensible 2 = .ok (.iload_n 1, 1) := by decide +kernel
theorem dX5_isExtensible_3 : decode cX5_isExtensible 3 = .ok (.aload_n 0, 1) := by decide +kernel
theorem dX5_isExtensible_4 : decode cX5_isExtensible 4 = .ok (.getfield 13, 3) := by decide +kernel
theorem dX5_isExtensible_7 : decode cX5_isExtensible 7 = .ok (.if_icmp .ge 71, 3) := by decide +kernel
theorem dX5_isExtensible_10 : decode cX5_isExtensible 10 = .ok (.iconst 0, 1) := by decide +kernel
theorem dX5_isExtensible_11 : decode cX5_isExtensible 11 = .ok (.istore_n 2, 1) := by decide +kernel
theorem dX5_isExtensible_12 : decode cX5_isExtensible 12 = .ok (.iload_n 2, 1) := by decide +kernel
theorem dX5_isExtensible_13 : decode cX5_isExtensible 13 = .ok (.aload_n 0, 1) := by decide +kernel
theorem dX5_isExtensible_14 : decode cX5_isExtensible 14 = .ok (.getfield 20, 3) := by decide +kernel
theorem dX5_isExtensible_17 : decode cX5_isExtensible 17 = .ok (.aload_n 0, 1) := by decide +kernel
theorem dX5_isExtensible_18 : decode cX5_isExtensible 18 = .ok (.getfield 17, 3) := by decide +kernel
theorem dX5_isExtensible_21 : decode cX5_isExtensible 21 = .ok (.iload_n 1, 1) := by decide +kernel
theorem dX5_isExtensible_22 : decode cX5_isExtensible 22 = .ok (.iaload, 1) := by decide +kernel
theorem dX5_isExtensible_23 : decode cX5_isExtensible 23 = .ok (.iaload, 1) := by decide +kernel
theorem dX5_isExtensible_24 : decode cX5_isExtensible 24 = .ok (.if_icmp .ge 48, 3) := by decide +kernel
theorem dX5_isExtensible_27 : decode cX5_isExtensible 27 = .ok (.bipush 10, 2) := by decide +kernel
theorem dX5_isExtensible_29 : decode cX5_isExtensible 29 = .ok (.aload_n 0, 1) := by decide +kernel
theorem dX5_isExtensible_30 : decode cX5_isExtensible 30 = .ok (.getfield 17, 3) := by decide +kernel
theorem dX5_isExtensible_33 : decode cX5_isExtensible 33 = .ok (.iload_n 1, 1) := by decide +kernel
theorem dX5_isExtensible_34 : decode cX5_isExtensible 34 = .ok (.iaload, 1) := by decide +kernel
theorem dX5_isExtensible_35 : decode cX5_isExtensible 35 = .ok (.imul, 1) := by decide +kernel
theorem dX5_isExtensible_36 : decode cX5_isExtensible 36 = .ok (.iload_n 2, 1) := by decide +kernel
theorem dX5_isExtensible_37 : decode cX5_isExtensible 37 = .ok (.iadd, 1) := by decide +kernel
theorem dX5_isExtensible_38 : decode cX5_isExtensible 38 = .ok (.istore_n 3, 1) := by decide +kernel
theorem dX5_isExtensible_39 : decode cX5_isExtensible 39 = .ok (.aload_n 0, 1) := by decide +kernel
theorem dX5_isExtensible_40 : decode cX5_isExtensible 40 = .ok (.getfield 23, 3) := by decide +kernel
theorem dX5_isExtensible_43 : decode cX5_isExtensible 43 = .ok (.iload_n 3, 1) := by decide +kernel
theorem dX5_isExtensible_44 : decode cX5_isExtensible 44 = .ok (.iaload, 1) := by decide +kernel
theorem dX5_isExtensible_45 : decode cX5_isExtensible 45 = .ok (.aload_n 0, 1) := by decide +kernel
theorem dX5_isExtensible_46 : decode cX5_isExtensible 46 = .ok (.getfield 86, 3) := by decide +kernel
theorem dX5_isExtensible_49 : decode cX5_isExtensible 49 = .ok (.if_icmp .le 17, 3) := by decide +kernel
theorem dX5_isExtensible_52 : decode cX5_isExtensible 52 = .ok (.aload_n 0, 1) := by decide +kernel
theorem dX5_isExtensible_53 : decode cX5_isExtensible 53 = .ok (.iload_n 3, 1) := by decide +kernel
theorem dX5_isExtensible_54 : decode cX5_isExtensible 54 = .ok (.aload_n 0, 1) := by decide +kernel
theorem dX5_isExtensible_55 : decode cX5_isExtensible 55 = .ok (.getfield 86, 3) := by decide +kernel
theorem dX5_isExtensible_58 : decode cX5_isExtensible 58 = .ok (.invokevirtual 83, 3) := by decide +kernel
theorem dX5_isExtensible_61 : decode cX5_isExtensible 61 = .ok (.ifCond .eq 5, 3) := by decide +kernel
theorem dX5_isExtensible_64 : decode cX5_isExtensible 64 = .ok (.iconst 1, 1) := by decide +kernel
theorem dX5_isExtensible_65 : decode cX5_isExtensible 65 = .ok (.ireturn, 1) := by decide +kernel
theorem dX5_isExtensible_66 : decode cX5_isExtensible 66 = .ok (.iinc 2 1, 3) := by decide +kernel
theorem dX5_isExtensible_69 : decode cX5_isExtensible 69 = .ok (.goto (-57), 3) := by decide +kernel
theorem dX5_isExtensible_72 : decode cX5_isExtensible 72 = .ok (.iinc 1 1, 3) := by decide +kernel
theorem dX5_isExtensible_75 : decode cX5_isExtensible 75 = .ok (.goto (-73), 3) := by decide +kernel
theorem dX5_isExtensible_78 : decode cX5_isExtensible 78 = .ok (.iconst 0, 1) := by decide +kernel
theorem dX5_isExtensible_79 : decode cX5_isExtensible 79 = .ok (.ireturn, 1) := by decide +kernel
theorem dX5_says_0 : decode cX5_says 0 = .ok (.aload_n 0, 1) := by decide +kernel
theorem dX5_says_1 : decode cX5_says 1 = .ok (.getfield 62, 3) := by decide +kernel
theorem dX5_says_4 : decode cX5_says 4 = .ok (.aload_n 0, 1) := by decide +kernel
theorem dX5_says_5 : decode cX5_says 5 = .ok (.getfield 89, 3) := by decide +kernel
theorem dX5_says_8 : decode cX5_says 8 = .ok (.bipush 40, 2) := by decide +kernel
theorem dX5_says_10 : decode cX5_says 10 = .ok (.irem, 1) := by decide +kernel
theorem dX5_says_11 : decode cX5_says 11 = .ok (.iload_n 1, 1) := by decide +kernel
theorem dX5_says_12 : decode cX5_says 12 = .ok (.iastore, 1) := by decide +kernel
theorem dX5_says_13 : decode cX5_says 13 = .ok (.aload_n 0, 1) := by decide +kernel
theorem dX5_says_14 : decode cX5_says 14 = .ok (.getfield 65, 3) := by decide +kernel
theorem dX5_says_17 : decode cX5_says 17 = .ok (.aload_n 0, 1) := by decide +kernel
theorem dX5_says_18 : decode cX5_says 18 = .ok (.getfield 89, 3) := by decide +kernel
theorem dX5_says_21 : decode cX5_says 21 = .ok (.bipush 40, 2) := by decide +kernel
theorem dX5_says_23 : decode cX5_says 23 = .ok (.irem, 1) := by decide +kernel
theorem dX5_says_24 : decode cX5_says 24 = .ok (.iload_n 2, 1) := by decide +kernel
theorem dX5_says_25 : decode cX5_says 25 = .ok (.iastore, 1) := by decide +kernel
theorem dX5_says_26 : decode cX5_says 26 = .ok (.aload_n 0, 1) := by decide +kernel
theorem dX5_says_27 : decode cX5_says 27 = .ok (.dup, 1) := by decide +kernel
theorem dX5_says_28 : decode cX5_says 28 = .ok (.getfield 89, 3) := by decide +kernel
theorem dX5_says_31 : decode cX5_says 31 = .ok (.iconst 1, 1) := by decide +kernel
theorem dX5_says_32 : decode cX5_says 32 = .ok (.iadd, 1) := by decide +kernel
theorem dX5_says_33 : decode cX5_says 33 = .ok (.putfield 89, 3) := by decide +kernel
theorem dX5_says_36 : decode cX5_says 36 = .ok (.return_, 1) := by decide +kernel
theorem dX5_adds_0 : decode cX5_adds 0 = .ok (.aload_n 0, 1) := by decide +kernel
theorem dX5_adds_1 : decode cX5_adds 1 = .ok (.getfield 50, 3) := by decide +kernel
theorem dX5_adds_4 : decode cX5_adds 4 = .ok (.aload_n 0, 1) := by decide +kernel
theorem dX5_adds_5 : decode cX5_adds 5 = .ok (.getfield 92, 3) := by decide +kernel
theorem dX5_adds_8 : decode cX5_adds 8 = .ok (.iload_n 1, 1) := by decide +kernel
theorem dX5_adds_9 : decode cX5_adds 9 = .ok (.iastore, 1) := by decide +kernel
theorem dX5_adds_10 : decode cX5_adds 10 = .ok (.aload_n 0, 1) := by decide +kernel
theorem dX5_adds_11 : decode cX5_adds 11 = .ok (.dup, 1) := by decide +kernel
theorem dX5_adds_12 : decode cX5_adds 12 = .ok (.getfield 92, 3) := by decide +kernel
theorem dX5_adds_15 : decode cX5_adds 15 = .ok (.iconst 1, 1) := by decide +kernel
theorem dX5_adds_16 : decode cX5_adds 16 = .ok (.iadd, 1) := by decide +kernel
theorem dX5_adds_17 : decode cX5_adds 17 = .ok (.putfield 92, 3) := by decide +kernel
theorem dX5_adds_20 : decode cX5_adds 20 = .ok (.return_, 1) := by decide +kernel
theorem dX5_plays_0 : decode cX5_plays 0 = .ok (.aload_n 0, 1) := by decide +kernel
theorem dX5_plays_1 : decode cX5_plays 1 = .ok (.getfield 53, 3) := by decide +kernel
theorem dX5_plays_4 : decode cX5_plays 4 = .ok (.iload_n 1, 1) := by decide +kernel
theorem dX5_plays_5 : decode cX5_plays 5 = .ok (.if_icmp .eq 20, 3) := by decide +kernel
theorem dX5_plays_8 : decode cX5_plays 8 = .ok (.aload_n 0, 1) := by decide +kernel
theorem dX5_plays_9 : decode cX5_plays 9 = .ok (.getfield 95, 3) := by decide +kernel
theorem dX5_plays_12 : decode cX5_plays 12 = .ok (.iconst 3, 1) := by decide +kernel
theorem dX5_plays_13 : decode cX5_plays 13 = .ok (.if_icmp .eq 12, 3) := by decide +kernel
theorem dX5_plays_16 : decode cX5_plays 16 = .ok (.aload_n 0, 1) := by decide +kernel
theorem dX5_plays_17 : decode cX5_plays 17 = .ok (.getfield 98, 3) := by decide +kernel
theorem dX5_plays_20 : decode cX5_plays 20 = .ok (.bipush 20, 2) := by decide +kernel
theorem dX5_plays_22 : decode cX5_plays 22 = .ok (.if_icmp .ne 10, 3) := by decide +kernel
theorem dX5_plays_25 : decode cX5_plays 25 = .ok (.aload_n 0, 1) := by decide +kernel
theorem dX5_plays_26 : decode cX5_plays 26 = .ok (.iconst 2, 1) := by decide +kernel
theorem dX5_plays_27 : decode cX5_plays 27 = .ok (.iload_n 1, 1) := by decide +kernel
theorem dX5_plays_28 : decode cX5_plays 28 = .ok (.invokevirtual 101, 3) := by decide +kernel
theorem dX5_plays_31 : decode cX5_plays 31 = .ok (.return_, 1) := by decide +kernel
theorem dX5_plays_32 : decode cX5_plays 32 = .ok (.aload_n 0, 1) := by decide +kernel
theorem dX5_plays_33 : decode cX5_plays 33 = .ok (.dup, 1) := by decide +kernel
theorem dX5_plays_34 : decode cX5_plays 34 = .ok (.getfield 95, 3) := by decide +kernel
theorem dX5_plays_37 : decode cX5_plays 37 = .ok (.iconst 1, 1) := by decide +kernel
theorem dX5_plays_38 : decode cX5_plays 38 = .ok (.iadd, 1) := by decide +kernel
theorem dX5_plays_39 : decode cX5_plays 39 = .ok (.putfield 95, 3) := by decide +kernel
theorem dX5_plays_42 : decode cX5_plays 42 = .ok (.aload_n 0, 1) := by decide +kernel
theorem dX5_plays_43 : decode cX5_plays 43 = .ok (.dup, 1) := by decide +kernel
theorem dX5_plays_44 : decode cX5_plays 44 = .ok (.getfield 98, 3) := by decide +kernel
theorem dX5_plays_47 : decode cX5_plays 47 = .ok (.iconst 1, 1) := by decide +kernel
theorem dX5_plays_48 : decode cX5_plays 48 = .ok (.iadd, 1) := by decide +kernel
theorem dX5_plays_49 : decode cX5_plays 49 = .ok (.putfield 98, 3) := by decide +kernel
theorem dX5_plays_52 : decode cX5_plays 52 = .ok (.aload_n 0, 1) := by decide +kernel
theorem dX5_plays_53 : decode cX5_plays 53 = .ok (.bipush 12, 2) := by decide +kernel
theorem dX5_plays_55 : decode cX5_plays 55 = .ok (.invokevirtual 105, 3) := by decide +kernel
theorem dX5_plays_58 : decode cX5_plays 58 = .ok (.aload_n 0, 1) := by decide +kernel
theorem dX5_plays_59 : decode cX5_plays 59 = .ok (.getfield 56, 3) := by decide +kernel
theorem dX5_plays_62 : decode cX5_plays 62 = .ok (.iload_n 1, 1) := by decide +kernel
theorem dX5_plays_63 : decode cX5_plays 63 = .ok (.iaload, 1) := by decide +kernel
theorem dX5_plays_64 : decode cX5_plays 64 = .ok (.iconst 1, 1) := by decide +kernel
theorem dX5_plays_65 : decode cX5_plays 65 = .ok (.isub, 1) := by decide +kernel
theorem dX5_plays_66 : decode cX5_plays 66 = .ok (.istore_n 2, 1) := by decide +kernel
theorem dX5_plays_67 : decode cX5_plays 67 = .ok (.iload_n 2, 1) := by decide +kernel
theorem dX5_plays_68 : decode cX5_plays 68 = .ok (.ifCond .lt 24, 3) := by decide +kernel
theorem dX5_plays_71 : decode cX5_plays 71 = .ok (.aload_n 0, 1) := by decide +kernel
theorem dX5_plays_72 : decode cX5_plays 72 = .ok (.aload_n 0, 1) := by decide +kernel
theorem dX5_plays_73 : decode cX5_plays 73 = .ok (.getfield 59, 3) := by decide +kernel
theorem dX5_plays_76 : decode cX5_plays 76 = .ok (.bipush 12, 2) := by decide +kernel
theorem dX5_plays_78 : decode cX5_plays 78 = .ok (.iload_n 1, 1) := by decide +kernel
theorem dX5_plays_79 : decode cX5_plays 79 = .ok (.imul, 1) := by decide +kernel
theorem dX5_plays_80 : decode cX5_plays 80 = .ok (.iload_n 2, 1) := by decide +kernel
theorem dX5_plays_81 : decode cX5_plays 81 = .ok (.iadd, 1) := by decide +kernel
theorem dX5_plays_82 : decode cX5_plays 82 = .ok (.iaload, 1) := by decide +kernel
theorem dX5_plays_83 : decode cX5_plays 83 = .ok (.invokevirtual 105, 3) := by decide +kernel
theorem dX5_plays_86 : decode cX5_plays 86 = .ok (.iinc 2 (-1), 3) := by decide +kernel
theorem dX5_plays_89 : decode cX5_plays 89 = .ok (.goto (-22), 3) := by decide +kernel
theorem dX5_plays_92 : decode cX5_plays 92 = .ok (.return_, 1) := by decide +kernel
theorem dX5_performs_0 : decode cX5_performs 0 = .ok (.iload_n 1, 1) := by decide +kernel
theorem dX5_performs_1 : decode cX5_performs 1 = .ok (.tableswitch 118 0 3 #[31, 40, 48, 88], 31) := by decide +kernel
theorem dX5_performs_32 : decode cX5_performs 32 = .ok (.aload_n 0, 1) := by decide +kernel
theorem dX5_performs_33 : decode cX5_performs 33 = .ok (.iconst 0, 1) := by decide +kernel
theorem dX5_performs_34 : decode cX5_performs 34 = .ok (.iload_n 2, 1) := by decide +kernel
theorem dX5_performs_35 : decode cX5_performs 35 = .ok (.invokevirtual 101, 3) := by decide +kernel
theorem dX5_performs_38 : decode cX5_performs 38 = .ok (.goto 97, 3) := by decide +kernel
theorem dX5_performs_41 : decode cX5_performs 41 = .ok (.aload_n 0, 1) := by decide +kernel
theorem dX5_performs_42 : decode cX5_performs 42 = .ok (.iload_n 2, 1) := by decide +kernel
theorem dX5_performs_43 : decode cX5_performs 43 = .ok (.invokevirtual 109, 3) := by decide +kernel
theorem dX5_performs_46 : decode cX5_performs 46 = .ok (.goto 89, 3) := by decide +kernel
theorem dX5_performs_49 : decode cX5_performs 49 = .ok (.aload_n 0, 1) := by decide +kernel
theorem dX5_performs_50 : decode cX5_performs 50 = .ok (.getfield 13, 3) := by decide +kernel
theorem dX5_performs_53 : decode cX5_performs 53 = .ok (.iconst 4, 1) := by decide +kernel
theorem dX5_performs_54 : decode cX5_performs 54 = .ok (.if_icmp .ne 12, 3) := by decide +kernel
theorem dX5_performs_57 : decode cX5_performs 57 = .ok (.aload_n 0, 1) := by decide +kernel
theorem dX5_performs_58 : decode cX5_performs 58 = .ok (.iconst 2, 1) := by decide +kernel
theorem dX5_performs_59 : decode cX5_performs 59 = .ok (.iload_n 2, 1) := by decide +kernel
theorem dX5_performs_60 : decode cX5_performs 60 = .ok (.invokevirtual 101, 3) := by decide +kernel
theorem dX5_performs_63 : decode cX5_performs 63 = .ok (.goto 72, 3) := by decide +kernel
theorem dX5_performs_66 : decode cX5_performs 66 = .ok (.aload_n 0, 1) := by decide +kernel
theorem dX5_performs_67 : decode cX5_performs 67 = .ok (.getfield 17, 3) := by decide +kernel
theorem dX5_performs_70 : decode cX5_performs 70 = .ok (.aload_n 0, 1) := by decide +kernel
theorem dX5_performs_71 : decode cX5_performs 71 = .ok (.getfield 13, 3) := by decide +kernel
theorem dX5_performs_74 : decode cX5_performs 74 = .ok (.iload_n 2, 1) := by decide +kernel
theorem dX5_performs_75 : decode cX5_performs 75 = .ok (.iastore, 1) := by decide +kernel
theorem dX5_performs_76 : decode cX5_performs 76 = .ok (.aload_n 0, 1) := by decide +kernel
theorem dX5_performs_77 : decode cX5_performs 77 = .ok (.dup, 1) := by decide +kernel
theorem dX5_performs_78 : decode cX5_performs 78 = .ok (.getfield 13, 3) := by decide +kernel
theorem dX5_performs_81 : decode cX5_performs 81 = .ok (.iconst 1, 1) := by decide +kernel
theorem dX5_performs_82 : decode cX5_performs 82 = .ok (.iadd, 1) := by decide +kernel
theorem dX5_performs_83 : decode cX5_performs 83 = .ok (.putfield 13, 3) := by decide +kernel
theorem dX5_performs_86 : decode cX5_performs 86 = .ok (.goto 49, 3) := by decide +kernel
theorem dX5_performs_89 : decode cX5_performs 89 = .ok (.aload_n 0, 1) := by decide +kernel
theorem dX5_performs_90 : decode cX5_performs 90 = .ok (.getfield 13, 3) := by decide +kernel
theorem dX5_performs_93 : decode cX5_performs 93 = .ok (.iconst 1, 1) := by decide +kernel
theorem dX5_performs_94 : decode cX5_performs 94 = .ok (.if_icmp .ne 12, 3) := by decide +kernel
theorem dX5_performs_97 : decode cX5_performs 97 = .ok (.aload_n 0, 1) := by decide +kernel
theorem dX5_performs_98 : decode cX5_performs 98 = .ok (.iconst 2, 1) := by decide +kernel
theorem dX5_performs_99 : decode cX5_performs 99 = .ok (.iconst 0, 1) := by decide +kernel
theorem dX5_performs_100 : decode cX5_performs 100 = .ok (.invokevirtual 101, 3) := by decide +kernel
theorem dX5_performs_103 : decode cX5_performs 103 = .ok (.goto 32, 3) := by decide +kernel
theorem dX5_performs_106 : decode cX5_performs 106 = .ok (.aload_n 0, 1) := by decide +kernel
theorem dX5_performs_107 : decode cX5_performs 107 = .ok (.dup, 1) := by decide +kernel
theorem dX5_performs_108 : decode cX5_performs 108 = .ok (.getfield 13, 3) := by decide +kernel
theorem dX5_performs_111 : decode cX5_performs 111 = .ok (.iconst 1, 1) := by decide +kernel
theorem dX5_performs_112 : decode cX5_performs 112 = .ok (.isub, 1) := by decide +kernel
theorem dX5_performs_113 : decode cX5_performs 113 = .ok (.putfield 13, 3) := by decide +kernel
theorem dX5_performs_116 : decode cX5_performs 116 = .ok (.goto 19, 3) := by decide +kernel
theorem dX5_performs_119 : decode cX5_performs 119 = .ok (.aload_n 0, 1) := by decide +kernel
theorem dX5_performs_120 : decode cX5_performs 120 = .ok (.getfield 7, 3) := by decide +kernel
theorem dX5_performs_123 : decode cX5_performs 123 = .ok (.iload_n 2, 1) := by decide +kernel
theorem dX5_performs_124 : decode cX5_performs 124 = .ok (.iload_n 1, 1) := by decide +kernel
theorem dX5_performs_125 : decode cX5_performs 125 = .ok (.iconst 4, 1) := by decide +kernel
theorem dX5_performs_126 : decode cX5_performs 126 = .ok (.if_icmp .ne 7, 3) := by decide +kernel
theorem dX5_performs_129 : decode cX5_performs 129 = .ok (.iconst 1, 1) := by decide +kernel
theorem dX5_performs_130 : decode cX5_performs 130 = .ok (.goto 4, 3) := by decide +kernel
theorem dX5_performs_133 : decode cX5_performs 133 = .ok (.iconst 0, 1) := by decide +kernel
theorem dX5_performs_134 : decode cX5_performs 134 = .ok (.iastore, 1) := by decide +kernel
theorem dX5_performs_135 : decode cX5_performs 135 = .ok (.return_, 1) := by decide +kernel
theorem dX5_frees_0 : decode cX5_frees 0 = .ok (.aload_n 0, 1) := by decide +kernel
theorem dX5_frees_1 : decode cX5_frees 1 = .ok (.getfield 86, 3) := by decide +kernel
theorem dX5_frees_4 : decode cX5_frees 4 = .ok (.iconst 1, 1) := by decide +kernel
theorem dX5_frees_5 : decode cX5_frees 5 = .ok (.isub, 1) := by decide +kernel
theorem dX5_frees_6 : decode cX5_frees 6 = .ok (.istore_n 2, 1) := by decide +kernel
theorem dX5_frees_7 : decode cX5_frees 7 = .ok (.iload_n 2, 1) := by decide +kernel
theorem dX5_frees_8 : decode cX5_frees 8 = .ok (.iload_n 1, 1) := by decide +kernel
theorem dX5_frees_9 : decode cX5_frees 9 = .ok (.if_icmp .lt 19, 3) := by decide +kernel
theorem dX5_frees_12 : decode cX5_frees 12 = .ok (.aload_n 0, 1) := by decide +kernel
theorem dX5_frees_13 : decode cX5_frees 13 = .ok (.aload_n 0, 1) := by decide +kernel
theorem dX5_frees_14 : decode cX5_frees 14 = .ok (.getfield 44, 3) := by decide +kernel
theorem dX5_frees_17 : decode cX5_frees 17 = .ok (.iload_n 2, 1) := by decide +kernel
theorem dX5_frees_18 : decode cX5_frees 18 = .ok (.iaload, 1) := by decide +kernel
theorem dX5_frees_19 : decode cX5_frees 19 = .ok (.invokevirtual 105, 3) := by decide +kernel
theorem dX5_frees_22 : decode cX5_frees 22 = .ok (.iinc 2 (-1), 3) := by decide +kernel
theorem dX5_frees_25 : decode cX5_frees 25 = .ok (.goto (-18), 3) := by decide +kernel
theorem dX5_frees_28 : decode cX5_frees 28 = .ok (.aload_n 0, 1) := by decide +kernel
theorem dX5_frees_29 : decode cX5_frees 29 = .ok (.iconst 0, 1) := by decide +kernel
theorem dX5_frees_30 : decode cX5_frees 30 = .ok (.putfield 86, 3) := by decide +kernel
theorem dX5_frees_33 : decode cX5_frees 33 = .ok (.return_, 1) := by decide +kernel
theorem dX5_ends_0 : decode cX5_ends 0 = .ok (.aload_n 0, 1) := by decide +kernel
theorem dX5_ends_1 : decode cX5_ends 1 = .ok (.getfield 86, 3) := by decide +kernel
theorem dX5_ends_4 : decode cX5_ends 4 = .ok (.istore_n 1, 1) := by decide +kernel
theorem dX5_ends_5 : decode cX5_ends 5 = .ok (.aload_n 0, 1) := by decide +kernel
theorem dX5_ends_6 : decode cX5_ends 6 = .ok (.iload_n 1, 1) := by decide +kernel
theorem dX5_ends_7 : decode cX5_ends 7 = .ok (.invokevirtual 112, 3) := by decide +kernel
theorem dX5_ends_10 : decode cX5_ends 10 = .ok (.istore_n 2, 1) := by decide +kernel
theorem dX5_ends_11 : decode cX5_ends 11 = .ok (.iload_n 2, 1) := by decide +kernel
theorem dX5_ends_12 : decode cX5_ends 12 = .ok (.bipush (-4), 2) := by decide +kernel
theorem dX5_ends_14 : decode cX5_ends 14 = .ok (.if_icmp .ne 20, 3) := by decide +kernel
theorem dX5_ends_17 : decode cX5_ends 17 = .ok (.iload_n 1, 1) := by decide +kernel
theorem dX5_ends_18 : decode cX5_ends 18 = .ok (.iconst 1, 1) := by decide +kernel
theorem dX5_ends_19 : decode cX5_ends 19 = .ok (.if_icmp .le 15, 3) := by decide +kernel
theorem dX5_ends_22 : decode cX5_ends 22 = .ok (.iinc 1 (-1), 3) := by decide +kernel
theorem dX5_ends_25 : decode cX5_ends 25 = .ok (.aload_n 0, 1) := by decide +kernel
theorem dX5_ends_26 : decode cX5_ends 26 = .ok (.iload_n 1, 1) := by decide +kernel
theorem dX5_ends_27 : decode cX5_ends 27 = .ok (.invokevirtual 112, 3) := by decide +kernel
theorem dX5_ends_30 : decode cX5_ends 30 = .ok (.istore_n 2, 1) := by decide +kernel
theorem dX5_ends_31 : decode cX5_ends 31 = .ok (.goto (-20), 3) := by decide +kernel
theorem dX5_ends_34 : decode cX5_ends 34 = .ok (.iload_n 2, 1) := by decide +kernel
theorem dX5_ends_35 : decode cX5_ends 35 = .ok (.bipush (-4), 2) := by decide +kernel
theorem dX5_ends_37 : decode cX5_ends 37 = .ok (.if_icmp .ne 22, 3) := by decide +kernel
theorem dX5_ends_40 : decode cX5_ends 40 = .ok (.aload_n 0, 1) := by decide +kernel
theorem dX5_ends_41 : decode cX5_ends 41 = .ok (.getfield 44, 3) := by decide +kernel
theorem dX5_ends_44 : decode cX5_ends 44 = .ok (.iconst 0, 1) := by decide +kernel
theorem dX5_ends_45 : decode cX5_ends 45 = .ok (.iaload, 1) := by decide +kernel
theorem dX5_ends_46 : decode cX5_ends 46 = .ok (.istore_n 3, 1) := by decide +kernel
theorem dX5_ends_47 : decode cX5_ends 47 = .ok (.aload_n 0, 1) := by decide +kernel
theorem dX5_ends_48 : decode cX5_ends 48 = .ok (.iconst 1, 1) := by decide +kernel
theorem dX5_ends_49 : decode cX5_ends 49 = .ok (.invokevirtual 115, 3) := by decide +kernel
theorem dX5_ends_52 : decode cX5_ends 52 = .ok (.aload_n 0, 1) := by decide +kernel
theorem dX5_ends_53 : decode cX5_ends 53 = .ok (.iconst 1, 1) := by decide +kernel
theorem dX5_ends_54 : decode cX5_ends 54 = .ok (.iload_n 3, 1) := by decide +kernel
theorem dX5_ends_55 : decode cX5_ends 55 = .ok (.invokevirtual 101, 3) := by decide +kernel
theorem dX5_ends_58 : decode cX5_ends 58 = .ok (.return_, 1) := by decide +kernel
theorem dX5_ends_59 : decode cX5_ends 59 = .ok (.aload_n 0, 1) := by decide +kernel
theorem dX5_ends_60 : decode cX5_ends 60 = .ok (.getfield 35, 3) := by decide +kernel
theorem dX5_ends_63 : decode cX5_ends 63 = .ok (.iload_n 2, 1) := by decide +kernel
theorem dX5_ends_64 : decode cX5_ends 64 = .ok (.iaload, 1) := by decide +kernel
theorem dX5_ends_65 : decode cX5_ends 65 = .ok (.istore_n 3, 1) := by decide +kernel
theorem dX5_ends_66 : decode cX5_ends 66 = .ok (.aload_n 0, 1) := by decide +kernel
theorem dX5_ends_67 : decode cX5_ends 67 = .ok (.getfield 38, 3) := by decide +kernel
theorem dX5_ends_70 : decode cX5_ends 70 = .ok (.iload_n 2, 1) := by decide +kernel
theorem dX5_ends_71 : decode cX5_ends 71 = .ok (.iaload, 1) := by decide +kernel
theorem dX5_ends_72 : decode cX5_ends 72 = .ok (.istore 4, 2) := by decide +kernel
theorem dX5_ends_74 : decode cX5_ends 74 = .ok (.aload_n 0, 1) := by decide +kernel
theorem dX5_ends_75 : decode cX5_ends 75 = .ok (.iload_n 1, 1) := by decide +kernel
theorem dX5_ends_76 : decode cX5_ends 76 = .ok (.invokevirtual 115, 3) := by decide +kernel
theorem dX5_ends_79 : decode cX5_ends 79 = .ok (.aload_n 0, 1) := by decide +kernel
theorem dX5_ends_80 : decode cX5_ends 80 = .ok (.iload_n 3, 1) := by decide +kernel
theorem dX5_ends_81 : decode cX5_ends 81 = .ok (.iload 4, 2) := by decide +kernel
theorem dX5_ends_83 : decode cX5_ends 83 = .ok (.invokevirtual 118, 3) := by decide +kernel
theorem dX5_ends_86 : decode cX5_ends 86 = .ok (.return_, 1) := by decide +kernel
theorem dX5_works_0 : decode cX5_works 0 = .ok (.aload_n 0, 1) := by decide +kernel
theorem dX5_works_1 : decode cX5_works 1 = .ok (.getfield 92, 3) := by decide +kernel
theorem dX5_works_4 : decode cX5_works 4 = .ok (.ifCond .le 87, 3) := by decide +kernel
theorem dX5_works_7 : decode cX5_works 7 = .ok (.aload_n 0, 1) := by decide +kernel
theorem dX5_works_8 : decode cX5_works 8 = .ok (.dup, 1) := by decide +kernel
theorem dX5_works_9 : decode cX5_works 9 = .ok (.getfield 92, 3) := by decide +kernel
theorem dX5_works_12 : decode cX5_works 12 = .ok (.iconst 1, 1) := by decide +kernel
theorem dX5_works_13 : decode cX5_works 13 = .ok (.isub, 1) := by decide +kernel
theorem dX5_works_14 : decode cX5_works 14 = .ok (.putfield 92, 3) := by decide +kernel
theorem dX5_works_17 : decode cX5_works 17 = .ok (.aload_n 0, 1) := by decide +kernel
theorem dX5_works_18 : decode cX5_works 18 = .ok (.getfield 50, 3) := by decide +kernel
theorem dX5_works_21 : decode cX5_works 21 = .ok (.aload_n 0, 1) := by decide +kernel
theorem dX5_works_22 : decode cX5_works 22 = .ok (.getfield 92, 3) := by decide +kernel
theorem dX5_works_25 : decode cX5_works 25 = .ok (.iaload, 1) := by decide +kernel
theorem dX5_works_26 : decode cX5_works 26 = .ok (.istore_n 1, 1) := by decide +kernel
theorem dX5_works_27 : decode cX5_works 27 = .ok (.iload_n 1, 1) := by decide +kernel
theorem dX5_works_28 : decode cX5_works 28 = .ok (.bipush 12, 2) := by decide +kernel
theorem dX5_works_30 : decode cX5_works 30 = .ok (.if_icmp .ne 16, 3) := by decide +kernel
theorem dX5_works_33 : decode cX5_works 33 = .ok (.aload_n 0, 1) := by decide +kernel
theorem dX5_works_34 : decode cX5_works 34 = .ok (.dup, 1) := by decide +kernel
theorem dX5_works_35 : decode cX5_works 35 = .ok (.getfield 95, 3) := by decide +kernel
theorem dX5_works_38 : decode cX5_works 38 = .ok (.iconst 1, 1) := by decide +kernel
theorem dX5_works_39 : decode cX5_works 39 = .ok (.isub, 1) := by decide +kernel
theorem dX5_works_40 : decode cX5_works 40 = .ok (.putfield 95, 3) := by decide +kernel
theorem dX5_works_43 : decode cX5_works 43 = .ok (.goto 45, 3) := by decide +kernel
theorem dX5_works_46 : decode cX5_works 46 = .ok (.aload_n 0, 1) := by decide +kernel
theorem dX5_works_47 : decode cX5_works 47 = .ok (.getfield 44, 3) := by decide +kernel
theorem dX5_works_50 : decode cX5_works 50 = .ok (.aload_n 0, 1) := by decide +kernel
theorem dX5_works_51 : decode cX5_works 51 = .ok (.getfield 86, 3) := by decide +kernel
theorem dX5_works_54 : decode cX5_works 54 = .ok (.iload_n 1, 1) := by decide +kernel
theorem dX5_works_55 : decode cX5_works 55 = .ok (.iastore, 1) := by decide +kernel
theorem dX5_works_56 : decode cX5_works 56 = .ok (.aload_n 0, 1) := by decide +kernel
theorem dX5_works_57 : decode cX5_works 57 = .ok (.dup, 1) := by decide +kernel
theorem dX5_works_58 : decode cX5_works 58 = .ok (.getfield 86, 3) := by decide +kernel
theorem dX5_works_61 : decode cX5_works 61 = .ok (.iconst 1, 1) := by decide +kernel
theorem dX5_works_62 : decode cX5_works 62 = .ok (.iadd, 1) := by decide +kernel
theorem dX5_works_63 : decode cX5_works 63 = .ok (.putfield 86, 3) := by decide +kernel
theorem dX5_works_66 : decode cX5_works 66 = .ok (.aload_n 0, 1) := by decide +kernel
theorem dX5_works_67 : decode cX5_works 67 = .ok (.invokevirtual 121, 3) := by decide +kernel
theorem dX5_works_70 : decode cX5_works 70 = .ok (.ifCond .eq 14, 3) := by decide +kernel
theorem dX5_works_73 : decode cX5_works 73 = .ok (.aload_n 0, 1) := by decide +kernel
theorem dX5_works_74 : decode cX5_works 74 = .ok (.aload_n 0, 1) := by decide +kernel
theorem dX5_works_75 : decode cX5_works 75 = .ok (.getfield 47, 3) := by decide +kernel
theorem dX5_works_78 : decode cX5_works 78 = .ok (.putfield 125, 3) := by decide +kernel
theorem dX5_works_81 : decode cX5_works 81 = .ok (.goto 7, 3) := by decide +kernel
theorem dX5_works_84 : decode cX5_works 84 = .ok (.aload_n 0, 1) := by decide +kernel
theorem dX5_works_85 : decode cX5_works 85 = .ok (.invokevirtual 128, 3) := by decide +kernel
theorem dX5_works_88 : decode cX5_works 88 = .ok (.goto (-88), 3) := by decide +kernel
theorem dX5_works_91 : decode cX5_works 91 = .ok (.return_, 1) := by decide +kernel
theorem dX5_press_0 : decode cX5_press 0 = .ok (.iload_n 1, 1) := by decide +kernel
theorem dX5_press_1 : decode cX5_press 1 = .ok (.iconst 0, 1) := by decide +kernel
theorem dX5_press_2 : decode cX5_press 2 = .ok (.bipush 11, 2) := by decide +kernel
theorem dX5_press_4 : decode cX5_press 4 = .ok (.invokestatic 68, 3) := by decide +kernel
theorem dX5_press_7 : decode cX5_press 7 = .ok (.ifCond .ne 5, 3) := by decide +kernel
theorem dX5_press_10 : decode cX5_press 10 = .ok (.iconst (-1), 1) := by decide +kernel
theorem dX5_press_11 : decode cX5_press 11 = .ok (.ireturn, 1) := by decide +kernel
theorem dX5_press_12 : decode cX5_press 12 = .ok (.aload_n 0, 1) := by decide +kernel
theorem dX5_press_13 : decode cX5_press 13 = .ok (.getfield 89, 3) := by decide +kernel
theorem dX5_press_16 : decode cX5_press 16 = .ok (.istore_n 2, 1) := by decide +kernel
theorem dX5_press_17 : decode cX5_press 17 = .ok (.aload_n 0, 1) := by decide +kernel
theorem dX5_press_18 : decode cX5_press 18 = .ok (.iconst 0, 1) := by decide +kernel
theorem dX5_press_19 : decode cX5_press 19 = .ok (.putfield 98, 3) := by decide +kernel
theorem dX5_press_22 : decode cX5_press 22 = .ok (.aload_n 0, 1) := by decide +kernel
theorem dX5_press_23 : decode cX5_press 23 = .ok (.getfield 53, 3) := by decide +kernel
theorem dX5_press_26 : decode cX5_press 26 = .ok (.ifCond .lt 53, 3) := by decide +kernel
theorem dX5_press_29 : decode cX5_press 29 = .ok (.aload_n 0, 1) := by decide +kernel
theorem dX5_press_30 : decode cX5_press 30 = .ok (.getfield 56, 3) := by decide +kernel
theorem dX5_press_33 : decode cX5_press 33 = .ok (.aload_n 0, 1) := by decide +kernel
theorem dX5_press_34 : decode cX5_press 34 = .ok (.getfield 53, 3) := by decide +kernel
theorem dX5_press_37 : decode cX5_press 37 = .ok (.iaload, 1) := by decide +kernel
theorem dX5_press_38 : decode cX5_press 38 = .ok (.bipush 12, 2) := by decide +kernel
theorem dX5_press_40 : decode cX5_press 40 = .ok (.if_icmp .ge 39, 3) := by decide +kernel
theorem dX5_press_43 : decode cX5_press 43 = .ok (.aload_n 0, 1) := by decide +kernel
theorem dX5_press_44 : decode cX5_press 44 = .ok (.getfield 59, 3) := by decide +kernel
theorem dX5_press_47 : decode cX5_press 47 = .ok (.bipush 12, 2) := by decide +kernel
theorem dX5_press_49 : decode cX5_press 49 = .ok (.aload_n 0, 1) := by decide +kernel
theorem dX5_press_50 : decode cX5_press 50 = .ok (.getfield 53, 3) := by decide +kernel
theorem dX5_press_53 : decode cX5_press 53 = .ok (.imul, 1) := by decide +kernel
theorem dX5_press_54 : decode cX5_press 54 = .ok (.aload_n 0, 1) := by decide +kernel
theorem dX5_press_55 : decode cX5_press 55 = .ok (.getfield 56, 3) := by decide +kernel
theorem dX5_press_58 : decode cX5_press 58 = .ok (.aload_n 0, 1) := by decide +kernel
theorem dX5_press_59 : decode cX5_press 59 = .ok (.getfield 53, 3) := by decide +kernel
theorem dX5_press_62 : decode cX5_press 62 = .ok (.iaload, 1) := by decide +kernel
theorem dX5_press_63 : decode cX5_press 63 = .ok (.iadd, 1) := by decide +kernel
theorem dX5_press_64 : decode cX5_press 64 = .ok (.iload_n 1, 1) := by decide +kernel
theorem dX5_press_65 : decode cX5_press 65 = .ok (.iastore, 1) := by decide +kernel
theorem dX5_press_66 : decode cX5_press 66 = .ok (.aload_n 0, 1) := by decide +kernel
theorem dX5_press_67 : decode cX5_press 67 = .ok (.getfield 56, 3) := by decide +kernel
theorem dX5_press_70 : decode cX5_press 70 = .ok (.aload_n 0, 1) := by decide +kernel
theorem dX5_press_71 : decode cX5_press 71 = .ok (.getfield 53, 3) := by decide +kernel
theorem dX5_press_74 : decode cX5_press 74 = .ok (.dup2, 1) := by decide +kernel
theorem dX5_press_75 : decode cX5_press 75 = .ok (.iaload, 1) := by decide +kernel
theorem dX5_press_76 : decode cX5_press 76 = .ok (.iconst 1, 1) := by decide +kernel
theorem dX5_press_77 : decode cX5_press 77 = .ok (.iadd, 1) := by decide +kernel
theorem dX5_press_78 : decode cX5_press 78 = .ok (.iastore, 1) := by decide +kernel
theorem dX5_press_79 : decode cX5_press 79 = .ok (.aload_n 0, 1) := by decide +kernel
theorem dX5_press_80 : decode cX5_press 80 = .ok (.iload_n 1, 1) := by decide +kernel
theorem dX5_press_81 : decode cX5_press 81 = .ok (.invokevirtual 105, 3) := by decide +kernel
theorem dX5_press_84 : decode cX5_press 84 = .ok (.aload_n 0, 1) := by decide +kernel
theorem dX5_press_85 : decode cX5_press 85 = .ok (.invokevirtual 131, 3) := by decide +kernel
theorem dX5_press_88 : decode cX5_press 88 = .ok (.aload_n 0, 1) := by decide +kernel
theorem dX5_press_89 : decode cX5_press 89 = .ok (.getfield 89, 3) := by decide +kernel
theorem dX5_press_92 : decode cX5_press 92 = .ok (.iload_n 2, 1) := by decide +kernel
theorem dX5_press_93 : decode cX5_press 93 = .ok (.isub, 1) := by decide +kernel
theorem dX5_press_94 : decode cX5_press 94 = .ok (.ireturn, 1) := by decide +kernel
theorem dX5_tick_0 : decode cX5_tick 0 = .ok (.iload_n 1, 1) := by decide +kernel
theorem dX5_tick_1 : decode cX5_tick 1 = .ok (.iconst 0, 1) := by decide +kernel
theorem dX5_tick_2 : decode cX5_tick 2 = .ok (.sipush 999, 3) := by decide +kernel
theorem dX5_tick_5 : decode cX5_tick 5 = .ok (.invokestatic 68, 3) := by decide +kernel
theorem dX5_tick_8 : decode cX5_tick 8 = .ok (.ifCond .ne 5, 3) := by decide +kernel
theorem dX5_tick_11 : decode cX5_tick 11 = .ok (.iconst (-1), 1) := by decide +kernel
theorem dX5_tick_12 : decode cX5_tick 12 = .ok (.ireturn, 1) := by decide +kernel
theorem dX5_tick_13 : decode cX5_tick 13 = .ok (.aload_n 0, 1) := by decide +kernel
theorem dX5_tick_14 : decode cX5_tick 14 = .ok (.getfield 89, 3) := by decide +kernel
theorem dX5_tick_17 : decode cX5_tick 17 = .ok (.istore_n 2, 1) := by decide +kernel
theorem dX5_tick_18 : decode cX5_tick 18 = .ok (.aload_n 0, 1) := by decide +kernel
theorem dX5_tick_19 : decode cX5_tick 19 = .ok (.iconst 0, 1) := by decide +kernel
theorem dX5_tick_20 : decode cX5_tick 20 = .ok (.putfield 98, 3) := by decide +kernel
theorem dX5_tick_23 : decode cX5_tick 23 = .ok (.iconst 0, 1) := by decide +kernel
theorem dX5_tick_24 : decode cX5_tick 24 = .ok (.istore_n 3, 1) := by decide +kernel
theorem dX5_tick_25 : decode cX5_tick 25 = .ok (.iload_n 3, 1) := by decide +kernel
theorem dX5_tick_26 : decode cX5_tick 26 = .ok (.iload_n 1, 1) := by decide +kernel
theorem dX5_tick_27 : decode cX5_tick 27 = .ok (.if_icmp .ge 41, 3) := by decide +kernel
theorem dX5_tick_30 : decode cX5_tick 30 = .ok (.aload_n 0, 1) := by decide +kernel
theorem dX5_tick_31 : decode cX5_tick 31 = .ok (.getfield 86, 3) := by decide +kernel
theorem dX5_tick_34 : decode cX5_tick 34 = .ok (.ifCond .le 34, 3) := by decide +kernel
theorem dX5_tick_37 : decode cX5_tick 37 = .ok (.aload_n 0, 1) := by decide +kernel
theorem dX5_tick_38 : decode cX5_tick 38 = .ok (.dup, 1) := by decide +kernel
theorem dX5_tick_39 : decode cX5_tick 39 = .ok (.getfield 125, 3) := by decide +kernel
theorem dX5_tick_42 : decode cX5_tick 42 = .ok (.iconst 1, 1) := by decide +kernel
theorem dX5_tick_43 : decode cX5_tick 43 = .ok (.isub, 1) := by decide +kernel
theorem dX5_tick_44 : decode cX5_tick 44 = .ok (.putfield 125, 3) := by decide +kernel
theorem dX5_tick_47 : decode cX5_tick 47 = .ok (.aload_n 0, 1) := by decide +kernel
theorem dX5_tick_48 : decode cX5_tick 48 = .ok (.getfield 125, 3) := by decide +kernel
theorem dX5_tick_51 : decode cX5_tick 51 = .ok (.ifCond .ne 11, 3) := by decide +kernel
theorem dX5_tick_54 : decode cX5_tick 54 = .ok (.aload_n 0, 1) := by decide +kernel
theorem dX5_tick_55 : decode cX5_tick 55 = .ok (.invokevirtual 128, 3) := by decide +kernel
theorem dX5_tick_58 : decode cX5_tick 58 = .ok (.aload_n 0, 1) := by decide +kernel
theorem dX5_tick_59 : decode cX5_tick 59 = .ok (.invokevirtual 131, 3) := by decide +kernel
theorem dX5_tick_62 : decode cX5_tick 62 = .ok (.iinc 3 1, 3) := by decide +kernel
theorem dX5_tick_65 : decode cX5_tick 65 = .ok (.goto (-40), 3) := by decide +kernel
theorem dX5_tick_68 : decode cX5_tick 68 = .ok (.aload_n 0, 1) := by decide +kernel
theorem dX5_tick_69 : decode cX5_tick 69 = .ok (.getfield 89, 3) := by decide +kernel
theorem dX5_tick_72 : decode cX5_tick 72 = .ok (.iload_n 2, 1) := by decide +kernel
theorem dX5_tick_73 : decode cX5_tick 73 = .ok (.isub, 1) := by decide +kernel
theorem dX5_tick_74 : decode cX5_tick 74 = .ok (.ireturn, 1) := by decide +kernel
theorem dX5_setTimeout_0 : decode cX5_setTimeout 0 = .ok (.iload_n 1, 1) := by decide +kernel
theorem dX5_setTimeout_1 : decode cX5_setTimeout 1 = .ok (.iconst 1, 1) := by decide +kernel
theorem dX5_setTimeout_2 : decode cX5_setTimeout 2 = .ok (.bipush 99, 2) := by decide +kernel
theorem dX5_setTimeout_4 : decode cX5_setTimeout 4 = .ok (.invokestatic 68, 3) := by decide +kernel
theorem dX5_setTimeout_7 : decode cX5_setTimeout 7 = .ok (.ifCond .ne 5, 3) := by decide +kernel
theorem dX5_setTimeout_10 : decode cX5_setTimeout 10 = .ok (.iconst (-1), 1) := by decide +kernel
theorem dX5_setTimeout_11 : decode cX5_setTimeout 11 = .ok (.ireturn, 1) := by decide +kernel
theorem dX5_setTimeout_12 : decode cX5_setTimeout 12 = .ok (.aload_n 0, 1) := by decide +kernel
theorem dX5_setTimeout_13 : decode cX5_setTimeout 13 = .ok (.getfield 47, 3) := by decide +kernel
theorem dX5_setTimeout_16 : decode cX5_setTimeout 16 = .ok (.istore_n 2, 1) := by decide +kernel
theorem dX5_setTimeout_17 : decode cX5_setTimeout 17 = .ok (.aload_n 0, 1) := by decide +kernel
theorem dX5_setTimeout_18 : decode cX5_setTimeout 18 = .ok (.iload_n 1, 1) := by decide +kernel
theorem dX5_setTimeout_19 : decode cX5_setTimeout 19 = .ok (.putfield 47, 3) := by decide +kernel
theorem dX5_setTimeout_22 : decode cX5_setTimeout 22 = .ok (.iload_n 2, 1) := by decide +kernel
theorem dX5_setTimeout_23 : decode cX5_setTimeout 23 = .ok (.ireturn, 1) := by decide +kernel
theorem dX5_setFlag_0 : decode cX5_setFlag 0 = .ok (.iload_n 1, 1) := by decide +kernel
theorem dX5_setFlag_1 : decode cX5_setFlag 1 = .ok (.iconst 0, 1) := by decide +kernel
theorem dX5_setFlag_2 : decode cX5_setFlag 2 = .ok (.iconst 5, 1) := by decide +kernel
theorem dX5_setFlag_3 : decode cX5_setFlag 3 = .ok (.invokestatic 68, 3) := by decide +kernel
theorem dX5_setFlag_6 : decode cX5_setFlag 6 = .ok (.ifCond .eq 12, 3) := by decide +kernel
theorem dX5_setFlag_9 : decode cX5_setFlag 9 = .ok (.iload_n 2, 1) := by decide +kernel
theorem dX5_setFlag_10 : decode cX5_setFlag 10 = .ok (.iconst 0, 1) := by decide +kernel
theorem dX5_setFlag_11 : decode cX5_setFlag 11 = .ok (.iconst 1, 1) := by decide +kernel
theorem dX5_setFlag_12 : decode cX5_setFlag 12 = .ok (.invokestatic 68, 3) := by decide +kernel
theorem dX5_setFlag_15 : decode cX5_setFlag 15 = .ok (.ifCond .ne 5, 3) := by decide +kernel
theorem dX5_setFlag_18 : decode cX5_setFlag 18 = .ok (.iconst (-1), 1) := by decide +kernel
theorem dX5_setFlag_19 : decode cX5_setFlag 19 = .ok (.ireturn, 1) := by decide +kernel
theorem dX5_setFlag_20 : decode cX5_setFlag 20 = .ok (.aload_n 0, 1) := by decide +kernel
theorem dX5_setFlag_21 : decode cX5_setFlag 21 = .ok (.getfield 7, 3) := by decide +kernel
theorem dX5_setFlag_24 : decode cX5_setFlag 24 = .ok (.iload_n 1, 1) := by decide +kernel
theorem dX5_setFlag_25 : decode cX5_setFlag 25 = .ok (.iaload, 1) := by decide +kernel
theorem dX5_setFlag_26 : decode cX5_setFlag 26 = .ok (.istore_n 3, 1) := by decide +kernel
theorem dX5_setFlag_27 : decode cX5_setFlag 27 = .ok (.aload_n 0, 1) := by decide +kernel
theorem dX5_setFlag_28 : decode cX5_setFlag 28 = .ok (.getfield 7, 3) := by decide +kernel
theorem dX5_setFlag_31 : decode cX5_setFlag 31 = .ok (.iload_n 1, 1) := by decide +kernel
theorem dX5_setFlag_32 : decode cX5_setFlag 32 = .ok (.iload_n 2, 1) := by decide +kernel
theorem dX5_setFlag_33 : decode cX5_setFlag 33 = .ok (.iastore, 1) := by decide +kernel
theorem dX5_setFlag_34 : decode cX5_setFlag 34 = .ok (.iload_n 3, 1) := by decide +kernel
theorem dX5_setFlag_35 : decode cX5_setFlag 35 = .ok (.ireturn, 1) := by decide +kernel
theorem dX5_pendingLength_0 : decode cX5_pendingLength 0 = .ok (.aload_n 0, 1) := by decide +kernel
theorem dX5_pendingLength_1 : decode cX5_pendingLength 1 = .ok (.getfield 86, 3) := by decide +kernel
theorem dX5_pendingLength_4 : decode cX5_pendingLength 4 = .ok (.ireturn, 1) := by decide +kernel
theorem dX5_pendingKey_0 : decode cX5_pendingKey 0 = .ok (.iload_n 1, 1) := by decide +kernel
theorem dX5_pendingKey_1 : decode cX5_pendingKey 1 = .ok (.ifCond .ge 5, 3) := by decide +kernel
theorem dX5_pendingKey_4 : decode cX5_pendingKey 4 = .ok (.iconst (-1), 1) := by decide +kernel
theorem dX5_pendingKey_5 : decode cX5_pendingKey 5 = .ok (.ireturn, 1) := by decide +kernel
theorem dX5_pendingKey_6 : decode cX5_pendingKey 6 = .ok (.iload_n 1, 1) := by decide +kernel
theorem dX5_pendingKey_7 : decode cX5_pendingKey 7 = .ok (.aload_n 0, 1) := by decide +kernel
theorem dX5_pendingKey_8 : decode cX5_pendingKey 8 = .ok (.getfield 86, 3) := by decide +kernel
theorem dX5_pendingKey_11 : decode cX5_pendingKey 11 = .ok (.if_icmp .ge 12, 3) := by decide +kernel
theorem dX5_pendingKey_14 : decode cX5_pendingKey 14 = .ok (.aload_n 0, 1) := by decide +kernel
theorem dX5_pendingKey_15 : decode cX5_pendingKey 15 = .ok (.getfield 44, 3) := by decide +kernel
theorem dX5_pendingKey_18 : decode cX5_pendingKey 18 = .ok (.iload_n 1, 1) := by decide +kernel
theorem dX5_pendingKey_19 : decode cX5_pendingKey 19 = .ok (.iaload, 1) := by decide +kernel
theorem dX5_pendingKey_20 : decode cX5_pendingKey 20 = .ok (.goto 5, 3) := by decide +kernel
theorem dX5_pendingKey_23 : decode cX5_pendingKey 23 = .ok (.bipush (-4), 2) := by decide +kernel
theorem dX5_pendingKey_25 : decode cX5_pendingKey 25 = .ok (.ireturn, 1) := by decide +kernel
theorem dX5_remainingTime_0 : decode cX5_remainingTime 0 = .ok (.aload_n 0, 1) := by decide +kernel
theorem dX5_remainingTime_1 : decode cX5_remainingTime 1 = .ok (.getfield 86, 3) := by decide +kernel
theorem dX5_remainingTime_4 : decode cX5_remainingTime 4 = .ok (.ifCond .le 10, 3) := by decide +kernel
theorem dX5_remainingTime_7 : decode cX5_remainingTime 7 = .ok (.aload_n 0, 1) := by decide +kernel
theorem dX5_remainingTime_8 : decode cX5_remainingTime 8 = .ok (.getfield 125, 3) := by decide +kernel
theorem dX5_remainingTime_11 : decode cX5_remainingTime 11 = .ok (.goto 4, 3) := by decide +kernel
theorem dX5_remainingTime_14 : decode cX5_remainingTime 14 = .ok (.iconst 0, 1) := by decide +kernel
theorem dX5_remainingTime_15 : decode cX5_remainingTime 15 = .ok (.ireturn, 1) := by decide +kernel
theorem dX5_pendingBinding_0 : decode cX5_pendingBinding 0 = .ok (.aload_n 0, 1) := by decide +kernel
theorem dX5_pendingBinding_1 : decode cX5_pendingBinding 1 = .ok (.getfield 86, 3) := by decide +kernel
theorem dX5_pendingBinding_4 : decode cX5_pendingBinding 4 = .ok (.ifCond .le 14, 3) := by decide +kernel
theorem dX5_pendingBinding_7 : decode cX5_pendingBinding 7 = .ok (.aload_n 0, 1) := by decide +kernel
theorem dX5_pendingBinding_8 : decode cX5_pendingBinding 8 = .ok (.aload_n 0, 1) := by decide +kernel
theorem dX5_pendingBinding_9 : decode cX5_pendingBinding 9 = .ok (.getfield 86, 3) := by decide +kernel
theorem dX5_pendingBinding_12 : decode cX5_pendingBinding 12 = .ok (.invokevirtual 112, 3) := by decide +kernel
theorem dX5_pendingBinding_15 : decode cX5_pendingBinding 15 = .ok (.goto 5, 3) := by decide +kernel
theorem dX5_pendingBinding_18 : decode cX5_pendingBinding 18 = .ok (.bipush (-4), 2) := by decide +kernel
theorem dX5_pendingBinding_20 : decode cX5_pendingBinding 20 = .ok (.istore_n 1, 1) := by decide +kernel
theorem dX5_pendingBinding_21 : decode cX5_pendingBinding 21 = .ok (.iload_n 1, 1) := by decide +kernel
theorem dX5_pendingBinding_22 : decode cX5_pendingBinding 22 = .ok (.ifCond .ge 8, 3) := by decide +kernel
theorem dX5_pendingBinding_25 : decode cX5_pendingBinding 25 = .ok (.bipush (-4), 2) := by decide +kernel
theorem dX5_pendingBinding_27 : decode cX5_pendingBinding 27 = .ok (.goto 15, 3) := by decide +kernel
theorem dX5_pendingBinding_30 : decode cX5_pendingBinding 30 = .ok (.bipush 16, 2) := by decide +kernel
theorem dX5_pendingBinding_32 : decode cX5_pendingBinding 32 = .ok (.iload_n 1, 1) := by decide +kernel
theorem dX5_pendingBinding_33 : decode cX5_pendingBinding 33 = .ok (.bipush 10, 2) := by decide +kernel
theorem dX5_pendingBinding_35 : decode cX5_pendingBinding 35 = .ok (.idiv, 1) := by decide +kernel
theorem dX5_pendingBinding_36 : decode cX5_pendingBinding 36 = .ok (.imul, 1) := by decide +kernel
theorem dX5_pendingBinding_37 : decode cX5_pendingBinding 37 = .ok (.iload_n 1, 1) := by decide +kernel
theorem dX5_pendingBinding_38 : decode cX5_pendingBinding 38 = .ok (.bipush 10, 2) := by decide +kernel
theorem dX5_pendingBinding_40 : decode cX5_pendingBinding 40 = .ok (.irem, 1) := by decide +kernel
theorem dX5_pendingBinding_41 : decode cX5_pendingBinding 41 = .ok (.iadd, 1) := by decide +kernel
theorem dX5_pendingBinding_42 : decode cX5_pendingBinding 42 = .ok (.ireturn, 1) := by decide +kernel
theorem dX5_flag_0 : decode cX5_flag 0 = .ok (.iload_n 1, 1) := by decide +kernel
theorem dX5_flag_1 : decode cX5_flag 1 = .ok (.iconst 0, 1) := by decide +kernel
theorem dX5_flag_2 : decode cX5_flag 2 = .ok (.iconst 5, 1) := by decide +kernel
theorem dX5_flag_3 : decode cX5_flag 3 = .ok (.invokestatic 68, 3) := by decide +kernel
theorem dX5_flag_6 : decode cX5_flag 6 = .ok (.ifCond .eq 12, 3) := by decide +kernel
theorem dX5_flag_9 : decode cX5_flag 9 = .ok (.aload_n 0, 1) := by decide +kernel
theorem dX5_flag_10 : decode cX5_flag 10 = .ok (.getfield 7, 3) := by decide +kernel
theorem dX5_flag_13 : decode cX5_flag 13 = .ok (.iload_n 1, 1) := by decide +kernel
theorem dX5_flag_14 : decode cX5_flag 14 = .ok (.iaload, 1) := by decide +kernel
theorem dX5_flag_15 : decode cX5_flag 15 = .ok (.goto 4, 3) := by decide +kernel
theorem dX5_flag_18 : decode cX5_flag 18 = .ok (.iconst (-1), 1) := by decide +kernel
theorem dX5_flag_19 : decode cX5_flag 19 = .ok (.ireturn, 1) := by decide +kernel
theorem dX5_stackSize_0 : decode cX5_stackSize 0 = .ok (.aload_n 0, 1) := by decide +kernel
theorem dX5_stackSize_1 : decode cX5_stackSize 1 = .ok (.getfield 13, 3) := by decide +kernel
theorem dX5_stackSize_4 : decode cX5_stackSize 4 = .ok (.ireturn, 1) := by decide +kernel
theorem dX5_stackContext_0 : decode cX5_stackContext 0 = .ok (.iload_n 1, 1) := by decide +kernel
theorem dX5_stackContext_1 : decode cX5_stackContext 1 = .ok (.ifCond .ge 5, 3) := by decide +kernel
theorem dX5_stackContext_4 : decode cX5_stackContext 4 = .ok (.iconst (-1), 1) := by decide +kernel
theorem dX5_stackContext_5 : decode cX5_stackContext 5 = .ok (.ireturn, 1) := by decide +kernel
theorem dX5_stackContext_6 : decode cX5_stackContext 6 = .ok (.iload_n 1, 1) := by decide +kernel
theorem dX5_stackContext_7 : decode cX5_stackContext 7 = .ok (.aload_n 0, 1) := by decide +kernel
theorem dX5_stackContext_8 : decode cX5_stackContext 8 = .ok (.getfield 13, 3) := by decide +kernel
theorem dX5_stackContext_11 : decode cX5_stackContext 11 = .ok (.if_icmp .ge 19, 3) := by decide +kernel
theorem dX5_stackContext_14 : decode cX5_stackContext 14 = .ok (.aload_n 0, 1) := by decide +kernel
theorem dX5_stackContext_15 : decode cX5_stackContext 15 = .ok (.getfield 17, 3) := by decide +kernel
theorem dX5_stackContext_18 : decode cX5_stackContext 18 = .ok (.aload_n 0, 1) := by decide +kernel
theorem dX5_stackContext_19 : decode cX5_stackContext 19 = .ok (.getfield 13, 3) := by decide +kernel
theorem dX5_stackContext_22 : decode cX5_stackContext 22 = .ok (.iconst 1, 1) := by decide +kernel
theorem dX5_stackContext_23 : decode cX5_stackContext 23 = .ok (.isub, 1) := by decide +kernel
theorem dX5_stackContext_24 : decode cX5_stackContext 24 = .ok (.iload_n 1, 1) := by decide +kernel
theorem dX5_stackContext_25 : decode cX5_stackContext 25 = .ok (.isub, 1) := by decide +kernel
theorem dX5_stackContext_26 : decode cX5_stackContext 26 = .ok (.iaload, 1) := by decide +kernel
theorem dX5_stackContext_27 : decode cX5_stackContext 27 = .ok (.goto 5, 3) := by decide +kernel
theorem dX5_stackContext_30 : decode cX5_stackContext 30 = .ok (.bipush (-4), 2) := by decide +kernel
theorem dX5_stackContext_32 : decode cX5_stackContext 32 = .ok (.ireturn, 1) := by decide +kernel
theorem dX5_startRecording_0 : decode cX5_startRecording 0 = .ok (.iload_n 1, 1) := by decide +kernel
theorem dX5_startRecording_1 : decode cX5_startRecording 1 = .ok (.iconst 0, 1) := by decide +kernel
theorem dX5_startRecording_2 : decode cX5_startRecording 2 = .ok (.iconst 3, 1) := by decide +kernel
theorem dX5_startRecording_3 : decode cX5_startRecording 3 = .ok (.invokestatic 68, 3) := by decide +kernel
theorem dX5_startRecording_6 : decode cX5_startRecording 6 = .ok (.ifCond .ne 5, 3) := by decide +kernel
theorem dX5_startRecording_9 : decode cX5_startRecording 9 = .ok (.iconst (-1), 1) := by decide +kernel
theorem dX5_startRecording_10 : decode cX5_startRecording 10 = .ok (.ireturn, 1) := by decide +kernel
theorem dX5_startRecording_11 : decode cX5_startRecording 11 = .ok (.aload_n 0, 1) := by decide +kernel
theorem dX5_startRecording_12 : decode cX5_startRecording 12 = .ok (.getfield 53, 3) := by decide +kernel
theorem dX5_startRecording_15 : decode cX5_startRecording 15 = .ok (.ifCond .lt 6, 3) := by decide +kernel
theorem dX5_startRecording_18 : decode cX5_startRecording 18 = .ok (.bipush (-2), 2) := by decide +kernel
theorem dX5_startRecording_20 : decode cX5_startRecording 20 = .ok (.ireturn, 1) := by decide +kernel
theorem dX5_startRecording_21 : decode cX5_startRecording 21 = .ok (.aload_n 0, 1) := by decide +kernel
theorem dX5_startRecording_22 : decode cX5_startRecording 22 = .ok (.iload_n 1, 1) := by decide +kernel
theorem dX5_startRecording_23 : decode cX5_startRecording 23 = .ok (.putfield 53, 3) := by decide +kernel
theorem dX5_startRecording_26 : decode cX5_startRecording 26 = .ok (.aload_n 0, 1) := by decide +kernel
theorem dX5_startRecording_27 : decode cX5_startRecording 27 = .ok (.getfield 56, 3) := by decide +kernel
theorem dX5_startRecording_30 : decode cX5_startRecording 30 = .ok (.iload_n 1, 1) := by decide +kernel
theorem dX5_startRecording_31 : decode cX5_startRecording 31 = .ok (.iaload, 1) := by decide +kernel
theorem dX5_startRecording_32 : decode cX5_startRecording 32 = .ok (.istore_n 2, 1) := by decide +kernel
theorem dX5_startRecording_33 : decode cX5_startRecording 33 = .ok (.aload_n 0, 1) := by decide +kernel
theorem dX5_startRecording_34 : decode cX5_startRecording 34 = .ok (.getfield 56, 3) := by decide +kernel
theorem dX5_startRecording_37 : decode cX5_startRecording 37 = .ok (.iload_n 1, 1) := by decide +kernel
theorem dX5_startRecording_38 : decode cX5_startRecording 38 = .ok (.iconst 0, 1) := by decide +kernel
theorem dX5_startRecording_39 : decode cX5_startRecording 39 = .ok (.iastore, 1) := by decide +kernel
theorem dX5_startRecording_40 : decode cX5_startRecording 40 = .ok (.iload_n 2, 1) := by decide +kernel
theorem dX5_startRecording_41 : decode cX5_startRecording 41 = .ok (.ireturn, 1) := by decide +kernel
theorem dX5_stopRecording_0 : decode cX5_stopRecording 0 = .ok (.aload_n 0, 1) := by decide +kernel
theorem dX5_stopRecording_1 : decode cX5_stopRecording 1 = .ok (.getfield 53, 3) := by decide +kernel
theorem dX5_stopRecording_4 : decode cX5_stopRecording 4 = .ok (.ifCond .ge 6, 3) := by decide +kernel
theorem dX5_stopRecording_7 : decode cX5_stopRecording 7 = .ok (.bipush (-2), 2) := by decide +kernel
theorem dX5_stopRecording_9 : decode cX5_stopRecording 9 = .ok (.ireturn, 1) := by decide +kernel
theorem dX5_stopRecording_10 : decode cX5_stopRecording 10 = .ok (.aload_n 0, 1) := by decide +kernel
theorem dX5_stopRecording_11 : decode cX5_stopRecording 11 = .ok (.getfield 56, 3) := by decide +kernel
theorem dX5_stopRecording_14 : decode cX5_stopRecording 14 = .ok (.aload_n 0, 1) := by decide +kernel
theorem dX5_stopRecording_15 : decode cX5_stopRecording 15 = .ok (.getfield 53, 3) := by decide +kernel
theorem dX5_stopRecording_18 : decode cX5_stopRecording 18 = .ok (.iaload, 1) := by decide +kernel
theorem dX5_stopRecording_19 : decode cX5_stopRecording 19 = .ok (.istore_n 1, 1) := by decide +kernel
theorem dX5_stopRecording_20 : decode cX5_stopRecording 20 = .ok (.aload_n 0, 1) := by decide +kernel
theorem dX5_stopRecording_21 : decode cX5_stopRecording 21 = .ok (.bipush (-4), 2) := by decide +kernel
theorem dX5_stopRecording_23 : decode cX5_stopRecording 23 = .ok (.putfield 53, 3) := by decide +kernel
theorem dX5_stopRecording_26 : decode cX5_stopRecording 26 = .ok (.iload_n 1, 1) := by decide +kernel
theorem dX5_stopRecording_27 : decode cX5_stopRecording 27 = .ok (.ireturn, 1) := by decide +kernel
theorem dX5_macroKey_0 : decode cX5_macroKey 0 = .ok (.iload_n 1, 1) := by decide +kernel
theorem dX5_macroKey_1 : decode cX5_macroKey 1 = .ok (.iconst 0, 1) := by decide +kernel
theorem dX5_macroKey_2 : decode cX5_macroKey 2 = .ok (.iconst 3, 1) := by decide +kernel
theorem dX5_macroKey_3 : decode cX5_macroKey 3 = .ok (.invokestatic 68, 3) := by decide +kernel
theorem dX5_macroKey_6 : decode cX5_macroKey 6 = .ok (.ifCond .eq 7, 3) := by decide +kernel
theorem dX5_macroKey_9 : decode cX5_macroKey 9 = .ok (.iload_n 2, 1) := by decide +kernel
theorem dX5_macroKey_10 : decode cX5_macroKey 10 = .ok (.ifCond .ge 5, 3) := by decide +kernel
theorem dX5_macroKey_13 : decode cX5_macroKey 13 = .ok (.iconst (-1), 1) := by decide +kernel
theorem dX5_macroKey_14 : decode cX5_macroKey 14 = .ok (.ireturn, 1) := by decide +kernel
theorem dX5_macroKey_15 : decode cX5_macroKey 15 = .ok (.iload_n 2, 1) := by decide +kernel
theorem dX5_macroKey_16 : decode cX5_macroKey 16 = .ok (.aload_n 0, 1) := by decide +kernel
theorem dX5_macroKey_17 : decode cX5_macroKey 17 = .ok (.getfield 56, 3) := by decide +kernel
theorem dX5_macroKey_20 : decode cX5_macroKey 20 = .ok (.iload_n 1, 1) := by decide +kernel
theorem dX5_macroKey_21 : decode cX5_macroKey 21 = .ok (.iaload, 1) := by decide +kernel
theorem dX5_macroKey_22 : decode cX5_macroKey 22 = .ok (.if_icmp .ge 17, 3) := by decide +kernel
theorem dX5_macroKey_25 : decode cX5_macroKey 25 = .ok (.aload_n 0, 1) := by decide +kernel
theorem dX5_macroKey_26 : decode cX5_macroKey 26 = .ok (.getfield 59, 3) := by decide +kernel
theorem dX5_macroKey_29 : decode cX5_macroKey 29 = .ok (.bipush 12, 2) := by decide +kernel
theorem dX5_macroKey_31 : decode cX5_macroKey 31 = .ok (.iload_n 1, 1) := by decide +kernel
theorem dX5_macroKey_32 : decode cX5_macroKey 32 = .ok (.imul, 1) := by decide +kernel
theorem dX5_macroKey_33 : decode cX5_macroKey 33 = .ok (.iload_n 2, 1) := by decide +kernel
theorem dX5_macroKey_34 : decode cX5_macroKey 34 = .ok (.iadd, 1) := by decide +kernel
theorem dX5_macroKey_35 : decode cX5_macroKey 35 = .ok (.iaload, 1) := by decide +kernel
theorem dX5_macroKey_36 : decode cX5_macroKey 36 = .ok (.goto 5, 3) := by decide +kernel
theorem dX5_macroKey_39 : decode cX5_macroKey 39 = .ok (.bipush (-4), 2) := by decide +kernel
theorem dX5_macroKey_41 : decode cX5_macroKey 41 = .ok (.ireturn, 1) := by decide +kernel
theorem dX5_reportCount_0 : decode cX5_reportCount 0 = .ok (.aload_n 0, 1) := by decide +kernel
theorem dX5_reportCount_1 : decode cX5_reportCount 1 = .ok (.getfield 89, 3) := by decide +kernel
theorem dX5_reportCount_4 : decode cX5_reportCount 4 = .ok (.ireturn, 1) := by decide +kernel
theorem dX5_errorOf_0 : decode cX5_errorOf 0 = .ok (.iload_n 1, 1) := by decide +kernel
theorem dX5_errorOf_1 : decode cX5_errorOf 1 = .ok (.ifCond .ge 5, 3) := by decide +kernel
theorem dX5_errorOf_4 : decode cX5_errorOf 4 = .ok (.iconst (-1), 1) := by decide +kernel
theorem dX5_errorOf_5 : decode cX5_errorOf 5 = .ok (.ireturn, 1) := by decide +kernel
theorem dX5_errorOf_6 : decode cX5_errorOf 6 = .ok (.iload_n 1, 1) := by decide +kernel
theorem dX5_errorOf_7 : decode cX5_errorOf 7 = .ok (.aload_n 0, 1) := by decide +kernel
theorem dX5_errorOf_8 : decode cX5_errorOf 8 = .ok (.getfield 89, 3) := by decide +kernel
theorem dX5_errorOf_11 : decode cX5_errorOf 11 = .ok (.if_icmp .ge 18, 3) := by decide +kernel
theorem dX5_errorOf_14 : decode cX5_errorOf 14 = .ok (.iload_n 1, 1) := by decide +kernel
theorem dX5_errorOf_15 : decode cX5_errorOf 15 = .ok (.aload_n 0, 1) := by decide +kernel
theorem dX5_errorOf_16 : decode cX5_errorOf 16 = .ok (.getfield 89, 3) := by decide +kernel
theorem dX5_errorOf_19 : decode cX5_errorOf 19 = .ok (.bipush 40, 2) := by decide +kernel
theorem dX5_errorOf_21 : decode cX5_errorOf 21 = .ok (.isub, 1) := by decide +kernel
theorem dX5_errorOf_22 : decode cX5_errorOf 22 = .ok (.if_icmp .lt 7, 3) := by decide +kernel
theorem dX5_errorOf_25 : decode cX5_errorOf 25 = .ok (.iconst 0, 1) := by decide +kernel
theorem dX5_errorOf_26 : decode cX5_errorOf 26 = .ok (.goto 5, 3) := by decide +kernel
theorem dX5_errorOf_29 : decode cX5_errorOf 29 = .ok (.bipush (-4), 2) := by decide +kernel
theorem dX5_errorOf_31 : decode cX5_errorOf 31 = .ok (.ireturn, 1) := by decide +kernel
theorem dX5_reportKind_0 : decode cX5_reportKind 0 = .ok (.aload_n 0, 1) := by decide +kernel
theorem dX5_reportKind_1 : decode cX5_reportKind 1 = .ok (.iload_n 1, 1) := by decide +kernel
theorem dX5_reportKind_2 : decode cX5_reportKind 2 = .ok (.invokevirtual 134, 3) := by decide +kernel
theorem dX5_reportKind_5 : decode cX5_reportKind 5 = .ok (.istore_n 2, 1) := by decide +kernel
theorem dX5_reportKind_6 : decode cX5_reportKind 6 = .ok (.iload_n 2, 1) := by decide +kernel
theorem dX5_reportKind_7 : decode cX5_reportKind 7 = .ok (.ifCond .ge 7, 3) := by decide +kernel
theorem dX5_reportKind_10 : decode cX5_reportKind 10 = .ok (.iload_n 2, 1) := by decide +kernel
theorem dX5_reportKind_11 : decode cX5_reportKind 11 = .ok (.goto 12, 3) := by decide +kernel
theorem dX5_reportKind_14 : decode cX5_reportKind 14 = .ok (.aload_n 0, 1) := by decide +kernel
theorem dX5_reportKind_15 : decode cX5_reportKind 15 = .ok (.getfield 62, 3) := by decide +kernel
theorem dX5_reportKind_18 : decode cX5_reportKind 18 = .ok (.iload_n 1, 1) := by decide +kernel
theorem dX5_reportKind_19 : decode cX5_reportKind 19 = .ok (.bipush 40, 2) := by decide +kernel
theorem dX5_reportKind_21 : decode cX5_reportKind 21 = .ok (.irem, 1) := by decide +kernel
theorem dX5_reportKind_22 : decode cX5_reportKind 22 = .ok (.iaload, 1) := by decide +kernel
theorem dX5_reportKind_23 : decode cX5_reportKind 23 = .ok (.ireturn, 1) := by decide +kernel
theorem dX5_reportArgument_0 : decode cX5_reportArgument 0 = .ok (.aload_n 0, 1) := by decide +kernel
theorem dX5_reportArgument_1 : decode cX5_reportArgument 1 = .ok (.iload_n 1, 1) := by decide +kernel
theorem dX5_reportArgument_2 : decode cX5_reportArgument 2 = .ok (.invokevirtual 134, 3) := by decide +kernel
theorem dX5_reportArgument_5 : decode cX5_reportArgument 5 = .ok (.istore_n 2, 1) := by decide +kernel
theorem dX5_reportArgument_6 : decode cX5_reportArgument 6 = .ok (.iload_n 2, 1) := by decide +kernel
theorem dX5_reportArgument_7 : decode cX5_reportArgument 7 = .ok (.ifCond .ge 7, 3) := by decide +kernel
theorem dX5_reportArgument_10 : decode cX5_reportArgument 10 = .ok (.iload_n 2, 1) := by decide +kernel
theorem dX5_reportArgument_11 : decode cX5_reportArgument 11 = .ok (.goto 12, 3) := by decide +kernel
theorem dX5_reportArgument_14 : decode cX5_reportArgument 14 = .ok (.aload_n 0, 1) := by decide +kernel
theorem dX5_reportArgument_15 : decode cX5_reportArgument 15 = .ok (.getfield 65, 3) := by decide +kernel
theorem dX5_reportArgument_18 : decode cX5_reportArgument 18 = .ok (.iload_n 1, 1) := by decide +kernel
theorem dX5_reportArgument_19 : decode cX5_reportArgument 19 = .ok (.bipush 40, 2) := by decide +kernel
theorem dX5_reportArgument_21 : decode cX5_reportArgument 21 = .ok (.irem, 1) := by decide +kernel
theorem dX5_reportArgument_22 : decode cX5_reportArgument 22 = .ok (.iaload, 1) := by decide +kernel
theorem dX5_reportArgument_23 : decode cX5_reportArgument 23 = .ok (.ireturn, 1) := by decide +kernel
theorem dJ9_floorMod_7cf53_0 : decode cJ9_floorMod_7cf53 0 = .ok (.iload_n 0, 1) := by decide +kernel
theorem dJ9_floorMod_7cf53_1 : decode cJ9_floorMod_7cf53 1 = .ok (.iload_n 1, 1) := by decide +kernel
theorem dJ9_floorMod_7cf53_2 : decode cJ9_floorMod_7cf53 2 = .ok (.irem, 1) := by decide +kernel
theorem dJ9_floorMod_7cf53_3 : decode cJ9_floorMod_7cf53 3 = .ok (.istore_n 2, 1) := by decide +kernel
theorem dJ9_floorMod_7cf53_4 : decode cJ9_floorMod_7cf53 4 = .ok (.iload_n 0, 1) := by decide +kernel
theorem dJ9_floorMod_7cf53_5 : decode cJ9_floorMod_7cf53 5 = .ok (.iload_n 1, 1) := by decide +kernel
theorem dJ9_floorMod_7cf53_6 : decode cJ9_floorMod_7cf53 6 = .ok (.ixor, 1) := by decide +kernel
theorem dJ9_floorMod_7cf53_7 : decode cJ9_floorMod_7cf53 7 = .ok (.ifCond .ge 11, 3) := by decide +kernel
theorem dJ9_floorMod_7cf53_10 : decode cJ9_floorMod_7cf53 10 = .ok (.iload_n 2, 1) := by decide +kernel
theorem dJ9_floorMod_7cf53_11 : decode cJ9_floorMod_7cf53 11 = .ok (.ifCond .eq 7, 3) := by decide +kernel
theorem dJ9_floorMod_7cf53_14 : decode cJ9_floorMod_7cf53 14 = .ok (.iload_n 2, 1) := by decide +kernel
theorem dJ9_floorMod_7cf53_15 : decode cJ9_floorMod_7cf53 15 = .ok (.iload_n 1, 1) := by decide +kernel
theorem dJ9_floorMod_7cf53_16 : decode cJ9_floorMod_7cf53 16 = .ok (.iadd, 1) := by decide +kernel
theorem dJ9_floorMod_7cf53_17 : decode cJ9_floorMod_7cf53 17 = .ok (.ireturn, 1) := by decide +kernel
theorem dJ9_floorMod_7cf53_18 : decode cJ9_floorMod_7cf53 18 = .ok (.iload_n 2, 1) := by decide +kernel
theorem dJ9_floorMod_7cf53_19 : decode cJ9_floorMod_7cf53 19 = .ok (.ireturn, 1) := by decide +kernel
theorem dJ9_max_7cf53_0 : decode cJ9_max_7cf53 0 = .ok (.iload_n 0, 1) := by decide +kernel
theorem dJ9_max_7cf53_1 : decode cJ9_max_7cf53 1 = .ok (.iload_n 1, 1) := by decide +kernel
theorem dJ9_max_7cf53_2 : decode cJ9_max_7cf53 2 = .ok (.if_icmp .lt 7, 3) := by decide +kernel
theorem dJ9_max_7cf53_5 : decode cJ9_max_7cf53 5 = .ok (.iload_n 0, 1) := by decide +kernel
theorem dJ9_max_7cf53_6 : decode cJ9_max_7cf53 6 = .ok (.goto 4, 3) := by decide +kernel
theorem dJ9_max_7cf53_9 : decode cJ9_max_7cf53 9 = .ok (.iload_n 1, 1) := by decide +kernel
theorem dJ9_max_7cf53_10 : decode cJ9_max_7cf53 10 = .ok (.ireturn, 1) := by decide +kernel
theorem dJ9_min_7cf53_0 : decode cJ9_min_7cf53 0 = .ok (.iload_n 0, 1) := by decide +kernel
theorem dJ9_min_7cf53_1 : decode cJ9_min_7cf53 1 = .ok (.iload_n 1, 1) := by decide +kernel
theorem dJ9_min_7cf53_2 : decode cJ9_min_7cf53 2 = .ok (.if_icmp .gt 7, 3) := by decide +kernel
theorem dJ9_min_7cf53_5 : decode cJ9_min_7cf53 5 = .ok (.iload_n 0, 1) := by decide +kernel
theorem dJ9_min_7cf53_6 : decode cJ9_min_7cf53 6 = .ok (.goto 4, 3) := by decide +kernel
theorem dJ9_min_7cf53_9 : decode cJ9_min_7cf53 9 = .ok (.iload_n 1, 1) := by decide +kernel
theorem dJ9_min_7cf53_10 : decode cJ9_min_7cf53 10 = .ok (.ireturn, 1) := by decide +kernel
theorem dJxa1e45_init_da8c8_0 : decode cJxa1e45_init_da8c8 0 = .ok (.aload_n 0, 1) := by decide +kernel
theorem dJxa1e45_init_da8c8_1 : decode cJxa1e45_init_da8c8 1 = .ok (.invokespecial 1, 3) := by decide +kernel
theorem dJxa1e45_init_da8c8_4 : decode cJxa1e45_init_da8c8 4 = .ok (.return_, 1) := by decide +kernel
theorem dJxc12de_init_da8c8_0 : decode cJxc12de_init_da8c8 0 = .ok (.aload_n 0, 1) := by decide +kernel
theorem dJxc12de_init_da8c8_1 : decode cJxc12de_init_da8c8 1 = .ok (.invokespecial 1, 3) := by decide +kernel
theorem dJxc12de_init_da8c8_4 : decode cJxc12de_init_da8c8 4 = .ok (.aload_n 0, 1) := by decide +kernel
theorem dJxc12de_init_da8c8_5 : decode cJxc12de_init_da8c8 5 = .ok (.iconst 0, 1) := by decide +kernel
theorem dJxc12de_init_da8c8_6 : decode cJxc12de_init_da8c8 6 = .ok (.putfield 7, 3) := by decide +kernel
theorem dJxc12de_init_da8c8_9 : decode cJxc12de_init_da8c8 9 = .ok (.return_, 1) := by decide +kernel
theorem dJx4a65c_init_da8c8_0 : decode cJx4a65c_init_da8c8 0 = .ok (.aload_n 0, 1) := by decide +kernel
theorem dJx4a65c_init_da8c8_1 : decode cJx4a65c_init_da8c8 1 = .ok (.invokespecial 1, 3) := by decide +kernel
theorem dJx4a65c_init_da8c8_4 : decode cJx4a65c_init_da8c8 4 = .ok (.aload_n 0, 1) := by decide +kernel
theorem dJx4a65c_init_da8c8_5 : decode cJx4a65c_init_da8c8 5 = .ok (.getstatic 39, 3) := by decide +kernel
theorem dJx4a65c_init_da8c8_8 : decode cJx4a65c_init_da8c8 8 = .ok (.putfield 9, 3) := by decide +kernel
theorem dJx4a65c_init_da8c8_11 : decode cJx4a65c_init_da8c8 11 = .ok (.return_, 1) := by decide +kernel
theorem dJx4a65c_grow_92f84_0 : decode cJx4a65c_grow_92f84 0 = .ok (.aload_n 0, 1) := by decide +kernel
theorem dJx4a65c_grow_92f84_1 : decode cJx4a65c_grow_92f84 1 = .ok (.getfield 9, 3) := by decide +kernel
theorem dJx4a65c_grow_92f84_4 : decode cJx4a65c_grow_92f84 4 = .ok (.arraylength, 1) := by decide +kernel
theorem dJx4a65c_grow_92f84_5 : decode cJx4a65c_grow_92f84 5 = .ok (.istore_n 2, 1) := by decide +kernel
theorem dJx4a65c_grow_92f84_6 : decode cJx4a65c_grow_92f84 6 = .ok (.iload_n 2, 1) := by decide +kernel
theorem dJx4a65c_grow_92f84_7 : decode cJx4a65c_grow_92f84 7 = .ok (.ifCond .gt 13, 3) := by decide +kernel
theorem dJx4a65c_grow_92f84_10 : decode cJx4a65c_grow_92f84 10 = .ok (.aload_n 0, 1) := by decide +kernel
theorem dJx4a65c_grow_92f84_11 : decode cJx4a65c_grow_92f84 11 = .ok (.getfield 9, 3) := by decide +kernel
theorem dJx4a65c_grow_92f84_14 : decode cJx4a65c_grow_92f84 14 = .ok (.getstatic 39, 3) := by decide +kernel
theorem dJx4a65c_grow_92f84_17 : decode cJx4a65c_grow_92f84 17 = .ok (.if_acmp .eq 28, 3) := by decide +kernel
theorem dJx4a65c_grow_92f84_20 : decode cJx4a65c_grow_92f84 20 = .ok (.iload_n 2, 1) := by decide +kernel
theorem dJx4a65c_grow_92f84_21 : decode cJx4a65c_grow_92f84 21 = .ok (.iload_n 1, 1) := by decide +kernel
theorem dJx4a65c_grow_92f84_22 : decode cJx4a65c_grow_92f84 22 = .ok (.iload_n 2, 1) := by decide +kernel
theorem dJx4a65c_grow_92f84_23 : decode cJx4a65c_grow_92f84 23 = .ok (.isub, 1) := by decide +kernel
theorem dJx4a65c_grow_92f84_24 : decode cJx4a65c_grow_92f84 24 = .ok (.iload_n 2, 1) := by decide +kernel
theorem dJx4a65c_grow_92f84_25 : decode cJx4a65c_grow_92f84 25 = .ok (.iconst 1, 1) := by decide +kernel
theorem dJx4a65c_grow_92f84_26 : decode cJx4a65c_grow_92f84 26 = .ok (.ishr, 1) := by decide +kernel
theorem dJx4a65c_grow_92f84_27 : decode cJx4a65c_grow_92f84 27 = .ok (.invokestatic 73, 3) := by decide +kernel
theorem dJx4a65c_grow_92f84_30 : decode cJx4a65c_grow_92f84 30 = .ok (.istore_n 3, 1) := by decide +kernel
theorem dJx4a65c_grow_92f84_31 : decode cJx4a65c_grow_92f84 31 = .ok (.aload_n 0, 1) := by decide +kernel
theorem dJx4a65c_grow_92f84_32 : decode cJx4a65c_grow_92f84 32 = .ok (.aload_n 0, 1) := by decide +kernel
theorem dJx4a65c_grow_92f84_33 : decode cJx4a65c_grow_92f84 33 = .ok (.getfield 9, 3) := by decide +kernel
theorem dJx4a65c_grow_92f84_36 : decode cJx4a65c_grow_92f84 36 = .ok (.iload_n 3, 1) := by decide +kernel
theorem dJx4a65c_grow_92f84_37 : decode cJx4a65c_grow_92f84 37 = .ok (.invokestatic 66, 3) := by decide +kernel
theorem dJx4a65c_grow_92f84_40 : decode cJx4a65c_grow_92f84 40 = .ok (.dup_x1, 1) := by decide +kernel
theorem dJx4a65c_grow_92f84_41 : decode cJx4a65c_grow_92f84 41 = .ok (.putfield 9, 3) := by decide +kernel
theorem dJx4a65c_grow_92f84_44 : decode cJx4a65c_grow_92f84 44 = .ok (.areturn, 1) := by decide +kernel
theorem dJx4a65c_grow_92f84_45 : decode cJx4a65c_grow_92f84 45 = .ok (.aload_n 0, 1) := by decide +kernel
theorem dJx4a65c_grow_92f84_46 : decode cJx4a65c_grow_92f84 46 = .ok (.bipush 10, 2) := by decide +kernel
theorem dJx4a65c_grow_92f84_48 : decode cJx4a65c_grow_92f84 48 = .ok (.iload_n 1, 1) := by decide +kernel
theorem dJx4a65c_grow_92f84_49 : decode cJx4a65c_grow_92f84 49 = .ok (.invokestatic 79, 3) := by decide +kernel
theorem dJx4a65c_grow_92f84_52 : decode cJx4a65c_grow_92f84 52 = .ok (.anewarray 7, 3) := by decide +kernel
theorem dJx4a65c_grow_92f84_55 : decode cJx4a65c_grow_92f84 55 = .ok (.dup_x1, 1) := by decide +kernel
theorem dJx4a65c_grow_92f84_56 : decode cJx4a65c_grow_92f84 56 = .ok (.putfield 9, 3) := by decide +kernel
theorem dJx4a65c_grow_92f84_59 : decode cJx4a65c_grow_92f84 59 = .ok (.areturn, 1) := by decide +kernel
theorem dJx4a65c_grow_d5877_0 : decode cJx4a65c_grow_d5877 0 = .ok (.aload_n 0, 1) := by decide +kernel
theorem dJx4a65c_grow_d5877_1 : decode cJx4a65c_grow_d5877 1 = .ok (.aload_n 0, 1) := by decide +kernel
theorem dJx4a65c_grow_d5877_2 : decode cJx4a65c_grow_d5877 2 = .ok (.getfield 48, 3) := by decide +kernel
theorem dJx4a65c_grow_d5877_5 : decode cJx4a65c_grow_d5877 5 = .ok (.iconst 1, 1) := by decide +kernel
theorem dJx4a65c_grow_d5877_6 : decode cJx4a65c_grow_d5877 6 = .ok (.iadd, 1) := by decide +kernel
theorem dJx4a65c_grow_d5877_7 : decode cJx4a65c_grow_d5877 7 = .ok (.invokevirtual 69, 3) := by decide +kernel
theorem dJx4a65c_grow_d5877_10 : decode cJx4a65c_grow_d5877 10 = .ok (.areturn, 1) := by decide +kernel
theorem dJx4a65c_size_8abf5_0 : decode cJx4a65c_size_8abf5 0 = .ok (.aload_n 0, 1) := by decide +kernel
theorem dJx4a65c_size_8abf5_1 : decode cJx4a65c_size_8abf5 1 = .ok (.getfield 48, 3) := by decide +kernel
theorem dJx4a65c_size_8abf5_4 : decode cJx4a65c_size_8abf5 4 = .ok (.ireturn, 1) := by decide +kernel
theorem dJx4a65c_elementData_915e3_0 : decode cJx4a65c_elementData_915e3 0 = .ok (.aload_n 0, 1) := by decide +kernel
theorem dJx4a65c_elementData_915e3_1 : decode cJx4a65c_elementData_915e3 1 = .ok (.getfield 9, 3) := by decide +kernel
theorem dJx4a65c_elementData_915e3_4 : decode cJx4a65c_elementData_915e3 4 = .ok (.iload_n 1, 1) := by decide +kernel
theorem dJx4a65c_elementData_915e3_5 : decode cJx4a65c_elementData_915e3 5 = .ok (.aaload, 1) := by decide +kernel
theorem dJx4a65c_elementData_915e3_6 : decode cJx4a65c_elementData_915e3 6 = .ok (.areturn, 1) := by decide +kernel
theorem dJx4a65c_get_915e3_0 : decode cJx4a65c_get_915e3 0 = .ok (.iload_n 1, 1) := by decide +kernel
theorem dJx4a65c_get_915e3_1 : decode cJx4a65c_get_915e3 1 = .ok (.aload_n 0, 1) := by decide +kernel
theorem dJx4a65c_get_915e3_2 : decode cJx4a65c_get_915e3 2 = .ok (.getfield 48, 3) := by decide +kernel
theorem dJx4a65c_get_915e3_5 : decode cJx4a65c_get_915e3 5 = .ok (.invokestatic 118, 3) := by decide +kernel
theorem dJx4a65c_get_915e3_8 : decode cJx4a65c_get_915e3 8 = .ok (.pop, 1) := by decide +kernel
theorem dJx4a65c_get_915e3_9 : decode cJx4a65c_get_915e3 9 = .ok (.aload_n 0, 1) := by decide +kernel
theorem dJx4a65c_get_915e3_10 : decode cJx4a65c_get_915e3 10 = .ok (.iload_n 1, 1) := by decide +kernel
theorem dJx4a65c_get_915e3_11 : decode cJx4a65c_get_915e3 11 = .ok (.invokevirtual 123, 3) := by decide +kernel
theorem dJx4a65c_get_915e3_14 : decode cJx4a65c_get_915e3 14 = .ok (.areturn, 1) := by decide +kernel
theorem dJx4a65c_add_72be8_0 : decode cJx4a65c_add_72be8 0 = .ok (.iload_n 3, 1) := by decide +kernel
theorem dJx4a65c_add_72be8_1 : decode cJx4a65c_add_72be8 1 = .ok (.aload_n 2, 1) := by decide +kernel
theorem dJx4a65c_add_72be8_2 : decode cJx4a65c_add_72be8 2 = .ok (.arraylength, 1) := by decide +kernel
theorem dJx4a65c_add_72be8_3 : decode cJx4a65c_add_72be8 3 = .ok (.if_icmp .ne 8, 3) := by decide +kernel
theorem dJx4a65c_add_72be8_6 : decode cJx4a65c_add_72be8 6 = .ok (.aload_n 0, 1) := by decide +kernel
theorem dJx4a65c_add_72be8_7 : decode cJx4a65c_add_72be8 7 = .ok (.invokevirtual 129, 3) := by decide +kernel
end
section
theorem dJx4a65c_add_72be8_10 : decode cJx4a65c_add_72be8 10 = .ok (.astore_n 2, 1) := by decide +kernel
theorem dJx4a65c_add_72be8_11 : decode cJx4a65c_add_72be8 11 = .ok (.aload_n 2, 1) := by decide +kernel
theorem dJx4a65c_add_72be8_12 : decode cJx4a65c_add_72be8 12 = .ok (.iload_n 3, 1) := by decide +kernel
theorem dJx4a65c_add_72be8_13 : decode cJx4a65c_add_72be8 13 = .ok (.aload_n 1, 1) := by decide +kernel
theorem dJx4a65c_add_72be8_14 : decode cJx4a65c_add_72be8 14 = .ok (.aastore, 1) := by decide +kernel
theorem dJx4a65c_add_72be8_15 : decode cJx4a65c_add_72be8 15 = .ok (.aload_n 0, 1) := by decide +kernel
theorem dJx4a65c_add_72be8_16 : decode cJx4a65c_add_72be8 16 = .ok (.iload_n 3, 1) := by decide +kernel
theorem dJx4a65c_add_72be8_17 : decode cJx4a65c_add_72be8 17 = .ok (.iconst 1, 1) := by decide +kernel
theorem dJx4a65c_add_72be8_18 : decode cJx4a65c_add_72be8 18 = .ok (.iadd, 1) := by decide +kernel
theorem dJx4a65c_add_72be8_19 : decode cJx4a65c_add_72be8 19 = .ok (.putfield 48, 3) := by decide +kernel
theorem dJx4a65c_add_72be8_22 : decode cJx4a65c_add_72be8 22 = .ok (.return_, 1) := by decide +kernel
theorem dJx4a65c_add_9ea2d_0 : decode cJx4a65c_add_9ea2d 0 = .ok (.aload_n 0, 1) := by decide +kernel
theorem dJx4a65c_add_9ea2d_1 : decode cJx4a65c_add_9ea2d 1 = .ok (.dup, 1) := by decide +kernel
theorem dJx4a65c_add_9ea2d_2 : decode cJx4a65c_add_9ea2d 2 = .ok (.getfield 63, 3) := by decide +kernel
theorem dJx4a65c_add_9ea2d_5 : decode cJx4a65c_add_9ea2d 5 = .ok (.iconst 1, 1) := by decide +kernel
theorem dJx4a65c_add_9ea2d_6 : decode cJx4a65c_add_9ea2d 6 = .ok (.iadd, 1) := by decide +kernel
theorem dJx4a65c_add_9ea2d_7 : decode cJx4a65c_add_9ea2d 7 = .ok (.putfield 63, 3) := by decide +kernel
theorem dJx4a65c_add_9ea2d_10 : decode cJx4a65c_add_9ea2d 10 = .ok (.aload_n 0, 1) := by decide +kernel
theorem dJx4a65c_add_9ea2d_11 : decode cJx4a65c_add_9ea2d 11 = .ok (.aload_n 1, 1) := by decide +kernel
theorem dJx4a65c_add_9ea2d_12 : decode cJx4a65c_add_9ea2d 12 = .ok (.aload_n 0, 1) := by decide +kernel
theorem dJx4a65c_add_9ea2d_13 : decode cJx4a65c_add_9ea2d 13 = .ok (.getfield 9, 3) := by decide +kernel
theorem dJx4a65c_add_9ea2d_16 : decode cJx4a65c_add_9ea2d 16 = .ok (.aload_n 0, 1) := by decide +kernel
theorem dJx4a65c_add_9ea2d_17 : decode cJx4a65c_add_9ea2d 17 = .ok (.getfield 48, 3) := by decide +kernel
theorem dJx4a65c_add_9ea2d_20 : decode cJx4a65c_add_9ea2d 20 = .ok (.invokevirtual 131, 3) := by decide +kernel
theorem dJx4a65c_add_9ea2d_23 : decode cJx4a65c_add_9ea2d 23 = .ok (.iconst 1, 1) := by decide +kernel
theorem dJx4a65c_add_9ea2d_24 : decode cJx4a65c_add_9ea2d 24 = .ok (.ireturn, 1) := by decide +kernel
theorem dJx4a65c_remove_915e3_0 : decode cJx4a65c_remove_915e3 0 = .ok (.iload_n 1, 1) := by decide +kernel
theorem dJx4a65c_remove_915e3_1 : decode cJx4a65c_remove_915e3 1 = .ok (.aload_n 0, 1) := by decide +kernel
theorem dJx4a65c_remove_915e3_2 : decode cJx4a65c_remove_915e3 2 = .ok (.getfield 48, 3) := by decide +kernel
theorem dJx4a65c_remove_915e3_5 : decode cJx4a65c_remove_915e3 5 = .ok (.invokestatic 118, 3) := by decide +kernel
theorem dJx4a65c_remove_915e3_8 : decode cJx4a65c_remove_915e3 8 = .ok (.pop, 1) := by decide +kernel
theorem dJx4a65c_remove_915e3_9 : decode cJx4a65c_remove_915e3 9 = .ok (.aload_n 0, 1) := by decide +kernel
theorem dJx4a65c_remove_915e3_10 : decode cJx4a65c_remove_915e3 10 = .ok (.getfield 9, 3) := by decide +kernel
theorem dJx4a65c_remove_915e3_13 : decode cJx4a65c_remove_915e3 13 = .ok (.astore_n 2, 1) := by decide +kernel
theorem dJx4a65c_remove_915e3_14 : decode cJx4a65c_remove_915e3 14 = .ok (.aload_n 2, 1) := by decide +kernel
theorem dJx4a65c_remove_915e3_15 : decode cJx4a65c_remove_915e3 15 = .ok (.iload_n 1, 1) := by decide +kernel
theorem dJx4a65c_remove_915e3_16 : decode cJx4a65c_remove_915e3 16 = .ok (.aaload, 1) := by decide +kernel
theorem dJx4a65c_remove_915e3_17 : decode cJx4a65c_remove_915e3 17 = .ok (.astore_n 3, 1) := by decide +kernel
theorem dJx4a65c_remove_915e3_18 : decode cJx4a65c_remove_915e3 18 = .ok (.aload_n 0, 1) := by decide +kernel
theorem dJx4a65c_remove_915e3_19 : decode cJx4a65c_remove_915e3 19 = .ok (.aload_n 2, 1) := by decide +kernel
theorem dJx4a65c_remove_915e3_20 : decode cJx4a65c_remove_915e3 20 = .ok (.iload_n 1, 1) := by decide +kernel
theorem dJx4a65c_remove_915e3_21 : decode cJx4a65c_remove_915e3 21 = .ok (.invokevirtual 144, 3) := by decide +kernel
theorem dJx4a65c_remove_915e3_24 : decode cJx4a65c_remove_915e3 24 = .ok (.aload_n 3, 1) := by decide +kernel
theorem dJx4a65c_remove_915e3_25 : decode cJx4a65c_remove_915e3 25 = .ok (.areturn, 1) := by decide +kernel
theorem dJx4a65c_fastRemove_b59b0_0 : decode cJx4a65c_fastRemove_b59b0 0 = .ok (.aload_n 0, 1) := by decide +kernel
theorem dJx4a65c_fastRemove_b59b0_1 : decode cJx4a65c_fastRemove_b59b0 1 = .ok (.dup, 1) := by decide +kernel
theorem dJx4a65c_fastRemove_b59b0_2 : decode cJx4a65c_fastRemove_b59b0 2 = .ok (.getfield 63, 3) := by decide +kernel
theorem dJx4a65c_fastRemove_b59b0_5 : decode cJx4a65c_fastRemove_b59b0 5 = .ok (.iconst 1, 1) := by decide +kernel
theorem dJx4a65c_fastRemove_b59b0_6 : decode cJx4a65c_fastRemove_b59b0 6 = .ok (.iadd, 1) := by decide +kernel
theorem dJx4a65c_fastRemove_b59b0_7 : decode cJx4a65c_fastRemove_b59b0 7 = .ok (.putfield 63, 3) := by decide +kernel
theorem dJx4a65c_fastRemove_b59b0_10 : decode cJx4a65c_fastRemove_b59b0 10 = .ok (.aload_n 0, 1) := by decide +kernel
theorem dJx4a65c_fastRemove_b59b0_11 : decode cJx4a65c_fastRemove_b59b0 11 = .ok (.getfield 48, 3) := by decide +kernel
theorem dJx4a65c_fastRemove_b59b0_14 : decode cJx4a65c_fastRemove_b59b0 14 = .ok (.iconst 1, 1) := by decide +kernel
theorem dJx4a65c_fastRemove_b59b0_15 : decode cJx4a65c_fastRemove_b59b0 15 = .ok (.isub, 1) := by decide +kernel
theorem dJx4a65c_fastRemove_b59b0_16 : decode cJx4a65c_fastRemove_b59b0 16 = .ok (.dup, 1) := by decide +kernel
theorem dJx4a65c_fastRemove_b59b0_17 : decode cJx4a65c_fastRemove_b59b0 17 = .ok (.istore_n 3, 1) := by decide +kernel
theorem dJx4a65c_fastRemove_b59b0_18 : decode cJx4a65c_fastRemove_b59b0 18 = .ok (.iload_n 2, 1) := by decide +kernel
theorem dJx4a65c_fastRemove_b59b0_19 : decode cJx4a65c_fastRemove_b59b0 19 = .ok (.if_icmp .le 15, 3) := by decide +kernel
theorem dJx4a65c_fastRemove_b59b0_22 : decode cJx4a65c_fastRemove_b59b0 22 = .ok (.aload_n 1, 1) := by decide +kernel
theorem dJx4a65c_fastRemove_b59b0_23 : decode cJx4a65c_fastRemove_b59b0 23 = .ok (.iload_n 2, 1) := by decide +kernel
theorem dJx4a65c_fastRemove_b59b0_24 : decode cJx4a65c_fastRemove_b59b0 24 = .ok (.iconst 1, 1) := by decide +kernel
theorem dJx4a65c_fastRemove_b59b0_25 : decode cJx4a65c_fastRemove_b59b0 25 = .ok (.iadd, 1) := by decide +kernel
theorem dJx4a65c_fastRemove_b59b0_26 : decode cJx4a65c_fastRemove_b59b0 26 = .ok (.aload_n 1, 1) := by decide +kernel
theorem dJx4a65c_fastRemove_b59b0_27 : decode cJx4a65c_fastRemove_b59b0 27 = .ok (.iload_n 2, 1) := by decide +kernel
theorem dJx4a65c_fastRemove_b59b0_28 : decode cJx4a65c_fastRemove_b59b0 28 = .ok (.iload_n 3, 1) := by decide +kernel
theorem dJx4a65c_fastRemove_b59b0_29 : decode cJx4a65c_fastRemove_b59b0 29 = .ok (.iload_n 2, 1) := by decide +kernel
theorem dJx4a65c_fastRemove_b59b0_30 : decode cJx4a65c_fastRemove_b59b0 30 = .ok (.isub, 1) := by decide +kernel
theorem dJx4a65c_fastRemove_b59b0_31 : decode cJx4a65c_fastRemove_b59b0 31 = .ok (.invokestatic 112, 3) := by decide +kernel
theorem dJx4a65c_fastRemove_b59b0_34 : decode cJx4a65c_fastRemove_b59b0 34 = .ok (.aload_n 1, 1) := by decide +kernel
theorem dJx4a65c_fastRemove_b59b0_35 : decode cJx4a65c_fastRemove_b59b0 35 = .ok (.aload_n 0, 1) := by decide +kernel
theorem dJx4a65c_fastRemove_b59b0_36 : decode cJx4a65c_fastRemove_b59b0 36 = .ok (.iload_n 3, 1) := by decide +kernel
theorem dJx4a65c_fastRemove_b59b0_37 : decode cJx4a65c_fastRemove_b59b0 37 = .ok (.dup_x1, 1) := by decide +kernel
theorem dJx4a65c_fastRemove_b59b0_38 : decode cJx4a65c_fastRemove_b59b0 38 = .ok (.putfield 48, 3) := by decide +kernel
theorem dJx4a65c_fastRemove_b59b0_41 : decode cJx4a65c_fastRemove_b59b0 41 = .ok (.aconst_null, 1) := by decide +kernel
theorem dJx4a65c_fastRemove_b59b0_42 : decode cJx4a65c_fastRemove_b59b0 42 = .ok (.aastore, 1) := by decide +kernel
theorem dJx4a65c_fastRemove_b59b0_43 : decode cJx4a65c_fastRemove_b59b0 43 = .ok (.return_, 1) := by decide +kernel
theorem dJ7_copyOf_1904c_0 : decode cJ7_copyOf_1904c 0 = .ok (.aload_n 0, 1) := by decide +kernel
theorem dJ7_copyOf_1904c_1 : decode cJ7_copyOf_1904c 1 = .ok (.iload_n 1, 1) := by decide +kernel
theorem dJ7_copyOf_1904c_2 : decode cJ7_copyOf_1904c 2 = .ok (.aload_n 0, 1) := by decide +kernel
theorem dJ7_copyOf_1904c_3 : decode cJ7_copyOf_1904c 3 = .ok (.invokevirtual 86, 3) := by decide +kernel
theorem dJ7_copyOf_1904c_6 : decode cJ7_copyOf_1904c 6 = .ok (.invokestatic 300, 3) := by decide +kernel
theorem dJ7_copyOf_1904c_9 : decode cJ7_copyOf_1904c 9 = .ok (.areturn, 1) := by decide +kernel
theorem dJ7_copyOf_6403c_0 : decode cJ7_copyOf_6403c 0 = .ok (.aload_n 2, 1) := by decide +kernel
theorem dJ7_copyOf_6403c_1 : decode cJ7_copyOf_6403c 1 = .ok (.ldc 110, 2) := by decide +kernel
theorem dJ7_copyOf_6403c_3 : decode cJ7_copyOf_6403c 3 = .ok (.if_acmp .ne 10, 3) := by decide +kernel
theorem dJ7_copyOf_6403c_6 : decode cJ7_copyOf_6403c 6 = .ok (.iload_n 1, 1) := by decide +kernel
theorem dJ7_copyOf_6403c_7 : decode cJ7_copyOf_6403c 7 = .ok (.anewarray 2, 3) := by decide +kernel
theorem dJ7_copyOf_6403c_10 : decode cJ7_copyOf_6403c 10 = .ok (.goto 14, 3) := by decide +kernel
theorem dJ7_copyOf_6403c_13 : decode cJ7_copyOf_6403c 13 = .ok (.aload_n 2, 1) := by decide +kernel
theorem dJ7_copyOf_6403c_14 : decode cJ7_copyOf_6403c 14 = .ok (.invokevirtual 90, 3) := by decide +kernel
theorem dJ7_copyOf_6403c_17 : decode cJ7_copyOf_6403c 17 = .ok (.iload_n 1, 1) := by decide +kernel
theorem dJ7_copyOf_6403c_18 : decode cJ7_copyOf_6403c 18 = .ok (.invokestatic 95, 3) := by decide +kernel
theorem dJ7_copyOf_6403c_21 : decode cJ7_copyOf_6403c 21 = .ok (.checkcast 110, 3) := by decide +kernel
theorem dJ7_copyOf_6403c_24 : decode cJ7_copyOf_6403c 24 = .ok (.astore_n 3, 1) := by decide +kernel
theorem dJ7_copyOf_6403c_25 : decode cJ7_copyOf_6403c 25 = .ok (.aload_n 0, 1) := by decide +kernel
theorem dJ7_copyOf_6403c_26 : decode cJ7_copyOf_6403c 26 = .ok (.iconst 0, 1) := by decide +kernel
theorem dJ7_copyOf_6403c_27 : decode cJ7_copyOf_6403c 27 = .ok (.aload_n 3, 1) := by decide +kernel
theorem dJ7_copyOf_6403c_28 : decode cJ7_copyOf_6403c 28 = .ok (.iconst 0, 1) := by decide +kernel
theorem dJ7_copyOf_6403c_29 : decode cJ7_copyOf_6403c 29 = .ok (.aload_n 0, 1) := by decide +kernel
theorem dJ7_copyOf_6403c_30 : decode cJ7_copyOf_6403c 30 = .ok (.arraylength, 1) := by decide +kernel
theorem dJ7_copyOf_6403c_31 : decode cJ7_copyOf_6403c 31 = .ok (.iload_n 1, 1) := by decide +kernel
theorem dJ7_copyOf_6403c_32 : decode cJ7_copyOf_6403c 32 = .ok (.invokestatic 304, 3) := by decide +kernel
theorem dJ7_copyOf_6403c_35 : decode cJ7_copyOf_6403c 35 = .ok (.invokestatic 150, 3) := by decide +kernel
theorem dJ7_copyOf_6403c_38 : decode cJ7_copyOf_6403c 38 = .ok (.aload_n 3, 1) := by decide +kernel
theorem dJ7_copyOf_6403c_39 : decode cJ7_copyOf_6403c 39 = .ok (.areturn, 1) := by decide +kernel
theorem dJ15_checkIndex_7cf53_0 : decode cJ15_checkIndex_7cf53 0 = .ok (.iload_n 0, 1) := by decide +kernel
theorem dJ15_checkIndex_7cf53_1 : decode cJ15_checkIndex_7cf53 1 = .ok (.iload_n 1, 1) := by decide +kernel
theorem dJ15_checkIndex_7cf53_2 : decode cJ15_checkIndex_7cf53 2 = .ok (.aconst_null, 1) := by decide +kernel
theorem dJ15_checkIndex_7cf53_3 : decode cJ15_checkIndex_7cf53 3 = .ok (.invokestatic 105, 3) := by decide +kernel
theorem dJ15_checkIndex_7cf53_6 : decode cJ15_checkIndex_7cf53 6 = .ok (.ireturn, 1) := by decide +kernel
theorem dJ8_newLength_cabcc_0 : decode cJ8_newLength_cabcc 0 = .ok (.iload_n 0, 1) := by decide +kernel
theorem dJ8_newLength_cabcc_1 : decode cJ8_newLength_cabcc 1 = .ok (.iload_n 1, 1) := by decide +kernel
theorem dJ8_newLength_cabcc_2 : decode cJ8_newLength_cabcc 2 = .ok (.iload_n 2, 1) := by decide +kernel
theorem dJ8_newLength_cabcc_3 : decode cJ8_newLength_cabcc 3 = .ok (.invokestatic 194, 3) := by decide +kernel
theorem dJ8_newLength_cabcc_6 : decode cJ8_newLength_cabcc 6 = .ok (.iadd, 1) := by decide +kernel
theorem dJ8_newLength_cabcc_7 : decode cJ8_newLength_cabcc 7 = .ok (.istore_n 3, 1) := by decide +kernel
theorem dJ8_newLength_cabcc_8 : decode cJ8_newLength_cabcc 8 = .ok (.iconst 0, 1) := by decide +kernel
theorem dJ8_newLength_cabcc_9 : decode cJ8_newLength_cabcc 9 = .ok (.iload_n 3, 1) := by decide +kernel
theorem dJ8_newLength_cabcc_10 : decode cJ8_newLength_cabcc 10 = .ok (.if_icmp .ge 11, 3) := by decide +kernel
theorem dJ8_newLength_cabcc_13 : decode cJ8_newLength_cabcc 13 = .ok (.iload_n 3, 1) := by decide +kernel
theorem dJ8_newLength_cabcc_14 : decode cJ8_newLength_cabcc 14 = .ok (.ldc 200, 2) := by decide +kernel
theorem dJ8_newLength_cabcc_16 : decode cJ8_newLength_cabcc 16 = .ok (.if_icmp .gt 5, 3) := by decide +kernel
theorem dJ8_newLength_cabcc_19 : decode cJ8_newLength_cabcc 19 = .ok (.iload_n 3, 1) := by decide +kernel
theorem dJ8_newLength_cabcc_20 : decode cJ8_newLength_cabcc 20 = .ok (.ireturn, 1) := by decide +kernel
theorem dJ8_newLength_cabcc_21 : decode cJ8_newLength_cabcc 21 = .ok (.iload_n 0, 1) := by decide +kernel
theorem dJ8_newLength_cabcc_22 : decode cJ8_newLength_cabcc 22 = .ok (.iload_n 1, 1) := by decide +kernel
theorem dJ8_newLength_cabcc_23 : decode cJ8_newLength_cabcc 23 = .ok (.invokestatic 201, 3) := by decide +kernel
theorem dJ8_newLength_cabcc_26 : decode cJ8_newLength_cabcc 26 = .ok (.ireturn, 1) := by decide +kernel
theorem dJ8_hugeLength_7cf53_0 : decode cJ8_hugeLength_7cf53 0 = .ok (.iload_n 0, 1) := by decide +kernel
theorem dJ8_hugeLength_7cf53_1 : decode cJ8_hugeLength_7cf53 1 = .ok (.iload_n 1, 1) := by decide +kernel
theorem dJ8_hugeLength_7cf53_2 : decode cJ8_hugeLength_7cf53 2 = .ok (.iadd, 1) := by decide +kernel
theorem dJ8_hugeLength_7cf53_3 : decode cJ8_hugeLength_7cf53 3 = .ok (.istore_n 2, 1) := by decide +kernel
theorem dJ8_hugeLength_7cf53_4 : decode cJ8_hugeLength_7cf53 4 = .ok (.iload_n 2, 1) := by decide +kernel
theorem dJ8_hugeLength_7cf53_5 : decode cJ8_hugeLength_7cf53 5 = .ok (.ifCond .ge 44, 3) := by decide +kernel
theorem dJ8_hugeLength_7cf53_8 : decode cJ8_hugeLength_7cf53 8 = .ok (.new 204, 3) := by decide +kernel
theorem dJ8_hugeLength_7cf53_11 : decode cJ8_hugeLength_7cf53 11 = .ok (.dup, 1) := by decide +kernel
theorem dJ8_hugeLength_7cf53_12 : decode cJ8_hugeLength_7cf53 12 = .ok (.new 89, 3) := by decide +kernel
theorem dJ8_hugeLength_7cf53_15 : decode cJ8_hugeLength_7cf53 15 = .ok (.dup, 1) := by decide +kernel
theorem dJ8_hugeLength_7cf53_16 : decode cJ8_hugeLength_7cf53 16 = .ok (.invokespecial 91, 3) := by decide +kernel
theorem dJ8_hugeLength_7cf53_19 : decode cJ8_hugeLength_7cf53 19 = .ok (.ldc 206, 2) := by decide +kernel
theorem dJ8_hugeLength_7cf53_21 : decode cJ8_hugeLength_7cf53 21 = .ok (.invokevirtual 94, 3) := by decide +kernel
theorem dJ8_hugeLength_7cf53_24 : decode cJ8_hugeLength_7cf53 24 = .ok (.iload_n 0, 1) := by decide +kernel
theorem dJ8_hugeLength_7cf53_25 : decode cJ8_hugeLength_7cf53 25 = .ok (.invokevirtual 98, 3) := by decide +kernel
theorem dJ8_hugeLength_7cf53_28 : decode cJ8_hugeLength_7cf53 28 = .ok (.ldc 208, 2) := by decide +kernel
theorem dJ8_hugeLength_7cf53_30 : decode cJ8_hugeLength_7cf53 30 = .ok (.invokevirtual 94, 3) := by decide +kernel
theorem dJ8_hugeLength_7cf53_33 : decode cJ8_hugeLength_7cf53 33 = .ok (.iload_n 1, 1) := by decide +kernel
theorem dJ8_hugeLength_7cf53_34 : decode cJ8_hugeLength_7cf53 34 = .ok (.invokevirtual 98, 3) := by decide +kernel
theorem dJ8_hugeLength_7cf53_37 : decode cJ8_hugeLength_7cf53 37 = .ok (.ldc 210, 2) := by decide +kernel
theorem dJ8_hugeLength_7cf53_39 : decode cJ8_hugeLength_7cf53 39 = .ok (.invokevirtual 94, 3) := by decide +kernel
theorem dJ8_hugeLength_7cf53_42 : decode cJ8_hugeLength_7cf53 42 = .ok (.invokevirtual 101, 3) := by decide +kernel
theorem dJ8_hugeLength_7cf53_45 : decode cJ8_hugeLength_7cf53 45 = .ok (.invokespecial 212, 3) := by decide +kernel
theorem dJ8_hugeLength_7cf53_48 : decode cJ8_hugeLength_7cf53 48 = .ok (.athrow, 1) := by decide +kernel
theorem dJ8_hugeLength_7cf53_49 : decode cJ8_hugeLength_7cf53 49 = .ok (.iload_n 2, 1) := by decide +kernel
theorem dJ8_hugeLength_7cf53_50 : decode cJ8_hugeLength_7cf53 50 = .ok (.ldc 200, 2) := by decide +kernel
theorem dJ8_hugeLength_7cf53_52 : decode cJ8_hugeLength_7cf53 52 = .ok (.if_icmp .gt 6, 3) := by decide +kernel
theorem dJ8_hugeLength_7cf53_55 : decode cJ8_hugeLength_7cf53 55 = .ok (.ldc 200, 2) := by decide +kernel
theorem dJ8_hugeLength_7cf53_57 : decode cJ8_hugeLength_7cf53 57 = .ok (.ireturn, 1) := by decide +kernel
theorem dJ8_hugeLength_7cf53_58 : decode cJ8_hugeLength_7cf53 58 = .ok (.iload_n 2, 1) := by decide +kernel
theorem dJ8_hugeLength_7cf53_59 : decode cJ8_hugeLength_7cf53 59 = .ok (.ireturn, 1) := by decide +kernel
theorem dJ3_checkIndex_8e157_0 : decode cJ3_checkIndex_8e157 0 = .ok (.iload_n 0, 1) := by decide +kernel
theorem dJ3_checkIndex_8e157_1 : decode cJ3_checkIndex_8e157 1 = .ok (.ifCond .lt 8, 3) := by decide +kernel
theorem dJ3_checkIndex_8e157_4 : decode cJ3_checkIndex_8e157 4 = .ok (.iload_n 0, 1) := by decide +kernel
theorem dJ3_checkIndex_8e157_5 : decode cJ3_checkIndex_8e157 5 = .ok (.iload_n 1, 1) := by decide +kernel
theorem dJ3_checkIndex_8e157_6 : decode cJ3_checkIndex_8e157 6 = .ok (.if_icmp .lt 10, 3) := by decide +kernel
theorem dJ3_checkIndex_8e157_9 : decode cJ3_checkIndex_8e157 9 = .ok (.aload_n 2, 1) := by decide +kernel
theorem dJ3_checkIndex_8e157_10 : decode cJ3_checkIndex_8e157 10 = .ok (.iload_n 0, 1) := by decide +kernel
theorem dJ3_checkIndex_8e157_11 : decode cJ3_checkIndex_8e157 11 = .ok (.iload_n 1, 1) := by decide +kernel
theorem dJ3_checkIndex_8e157_12 : decode cJ3_checkIndex_8e157 12 = .ok (.invokestatic 95, 3) := by decide +kernel
theorem dJ3_checkIndex_8e157_15 : decode cJ3_checkIndex_8e157 15 = .ok (.athrow, 1) := by decide +kernel
theorem dJ3_checkIndex_8e157_16 : decode cJ3_checkIndex_8e157 16 = .ok (.iload_n 0, 1) := by decide +kernel
theorem dJ3_checkIndex_8e157_17 : decode cJ3_checkIndex_8e157 17 = .ok (.ireturn, 1) := by decide +kernel
theorem dL_law_0 : decode cL_law 0 = .ok (.new 7, 3) := by decide +kernel
theorem dL_law_3 : decode cL_law 3 = .ok (.dup, 1) := by decide +kernel
theorem dL_law_4 : decode cL_law 4 = .ok (.invokespecial 9, 3) := by decide +kernel
theorem dL_law_7 : decode cL_law 7 = .ok (.astore_n 1, 1) := by decide +kernel
theorem dL_law_8 : decode cL_law 8 = .ok (.new 10, 3) := by decide +kernel
theorem dL_law_11 : decode cL_law 11 = .ok (.dup, 1) := by decide +kernel
theorem dL_law_12 : decode cL_law 12 = .ok (.invokespecial 12, 3) := by decide +kernel
theorem dL_law_15 : decode cL_law 15 = .ok (.astore_n 2, 1) := by decide +kernel
theorem dL_law_16 : decode cL_law 16 = .ok (.iconst 0, 1) := by decide +kernel
theorem dL_law_17 : decode cL_law 17 = .ok (.istore_n 3, 1) := by decide +kernel
theorem dL_law_18 : decode cL_law 18 = .ok (.iload_n 3, 1) := by decide +kernel
theorem dL_law_19 : decode cL_law 19 = .ok (.aload_n 0, 1) := by decide +kernel
theorem dL_law_20 : decode cL_law 20 = .ok (.arraylength, 1) := by decide +kernel
theorem dL_law_21 : decode cL_law 21 = .ok (.bipush 6, 2) := by decide +kernel
theorem dL_law_23 : decode cL_law 23 = .ok (.isub, 1) := by decide +kernel
theorem dL_law_24 : decode cL_law 24 = .ok (.if_icmp .gt 661, 3) := by decide +kernel
theorem dL_law_27 : decode cL_law 27 = .ok (.aload_n 0, 1) := by decide +kernel
theorem dL_law_28 : decode cL_law 28 = .ok (.iload_n 3, 1) := by decide +kernel
theorem dL_law_29 : decode cL_law 29 = .ok (.iaload, 1) := by decide +kernel
theorem dL_law_30 : decode cL_law 30 = .ok (.bipush 31, 2) := by decide +kernel
theorem dL_law_32 : decode cL_law 32 = .ok (.iand, 1) := by decide +kernel
theorem dL_law_33 : decode cL_law 33 = .ok (.tableswitch 646 0 22 #[107, 130, 143, 206, 239, 262, 295, 318, 341, 364, 397, 410, 433, 446, 459, 482, 495, 518, 541, 554, 587, 600, 623], 107) := by decide +kernel
theorem dL_law_140 : decode cL_law 140 = .ok (.aload_n 1, 1) := by decide +kernel
theorem dL_law_141 : decode cL_law 141 = .ok (.aload_n 0, 1) := by decide +kernel
theorem dL_law_142 : decode cL_law 142 = .ok (.iload_n 3, 1) := by decide +kernel
theorem dL_law_143 : decode cL_law 143 = .ok (.iconst 1, 1) := by decide +kernel
theorem dL_law_144 : decode cL_law 144 = .ok (.iadd, 1) := by decide +kernel
theorem dL_law_145 : decode cL_law 145 = .ok (.iaload, 1) := by decide +kernel
theorem dL_law_146 : decode cL_law 146 = .ok (.invokevirtual 13, 3) := by decide +kernel
theorem dL_law_149 : decode cL_law 149 = .ok (.aload_n 2, 1) := by decide +kernel
theorem dL_law_150 : decode cL_law 150 = .ok (.aload_n 0, 1) := by decide +kernel
theorem dL_law_151 : decode cL_law 151 = .ok (.iload_n 3, 1) := by decide +kernel
theorem dL_law_152 : decode cL_law 152 = .ok (.iconst 1, 1) := by decide +kernel
theorem dL_law_153 : decode cL_law 153 = .ok (.iadd, 1) := by decide +kernel
theorem dL_law_154 : decode cL_law 154 = .ok (.iaload, 1) := by decide +kernel
theorem dL_law_155 : decode cL_law 155 = .ok (.invokevirtual 17, 3) := by decide +kernel
theorem dL_law_158 : decode cL_law 158 = .ok (.if_icmp .eq 521, 3) := by decide +kernel
theorem dL_law_161 : decode cL_law 161 = .ok (.iconst 0, 1) := by decide +kernel
theorem dL_law_162 : decode cL_law 162 = .ok (.ireturn, 1) := by decide +kernel
theorem dL_law_163 : decode cL_law 163 = .ok (.aload_n 1, 1) := by decide +kernel
theorem dL_law_164 : decode cL_law 164 = .ok (.invokevirtual 18, 3) := by decide +kernel
theorem dL_law_167 : decode cL_law 167 = .ok (.aload_n 2, 1) := by decide +kernel
theorem dL_law_168 : decode cL_law 168 = .ok (.invokevirtual 22, 3) := by decide +kernel
theorem dL_law_171 : decode cL_law 171 = .ok (.if_icmp .eq 508, 3) := by decide +kernel
theorem dL_law_174 : decode cL_law 174 = .ok (.iconst 0, 1) := by decide +kernel
theorem dL_law_175 : decode cL_law 175 = .ok (.ireturn, 1) := by decide +kernel
theorem dL_law_176 : decode cL_law 176 = .ok (.aload_n 1, 1) := by decide +kernel
theorem dL_law_177 : decode cL_law 177 = .ok (.aload_n 0, 1) := by decide +kernel
theorem dL_law_178 : decode cL_law 178 = .ok (.iload_n 3, 1) := by decide +kernel
theorem dL_law_179 : decode cL_law 179 = .ok (.iconst 1, 1) := by decide +kernel
theorem dL_law_180 : decode cL_law 180 = .ok (.iadd, 1) := by decide +kernel
theorem dL_law_181 : decode cL_law 181 = .ok (.iaload, 1) := by decide +kernel
theorem dL_law_182 : decode cL_law 182 = .ok (.aload_n 0, 1) := by decide +kernel
theorem dL_law_183 : decode cL_law 183 = .ok (.iload_n 3, 1) := by decide +kernel
theorem dL_law_184 : decode cL_law 184 = .ok (.iconst 2, 1) := by decide +kernel
theorem dL_law_185 : decode cL_law 185 = .ok (.iadd, 1) := by decide +kernel
theorem dL_law_186 : decode cL_law 186 = .ok (.iaload, 1) := by decide +kernel
theorem dL_law_187 : decode cL_law 187 = .ok (.aload_n 0, 1) := by decide +kernel
theorem dL_law_188 : decode cL_law 188 = .ok (.iload_n 3, 1) := by decide +kernel
theorem dL_law_189 : decode cL_law 189 = .ok (.iconst 3, 1) := by decide +kernel
theorem dL_law_190 : decode cL_law 190 = .ok (.iadd, 1) := by decide +kernel
theorem dL_law_191 : decode cL_law 191 = .ok (.iaload, 1) := by decide +kernel
theorem dL_law_192 : decode cL_law 192 = .ok (.aload_n 0, 1) := by decide +kernel
theorem dL_law_193 : decode cL_law 193 = .ok (.iload_n 3, 1) := by decide +kernel
theorem dL_law_194 : decode cL_law 194 = .ok (.iconst 4, 1) := by decide +kernel
theorem dL_law_195 : decode cL_law 195 = .ok (.iadd, 1) := by decide +kernel
theorem dL_law_196 : decode cL_law 196 = .ok (.iaload, 1) := by decide +kernel
theorem dL_law_197 : decode cL_law 197 = .ok (.aload_n 0, 1) := by decide +kernel
theorem dL_law_198 : decode cL_law 198 = .ok (.iload_n 3, 1) := by decide +kernel
theorem dL_law_199 : decode cL_law 199 = .ok (.iconst 5, 1) := by decide +kernel
theorem dL_law_200 : decode cL_law 200 = .ok (.iadd, 1) := by decide +kernel
theorem dL_law_201 : decode cL_law 201 = .ok (.iaload, 1) := by decide +kernel
theorem dL_law_202 : decode cL_law 202 = .ok (.invokevirtual 23, 3) := by decide +kernel
theorem dL_law_205 : decode cL_law 205 = .ok (.aload_n 2, 1) := by decide +kernel
theorem dL_law_206 : decode cL_law 206 = .ok (.aload_n 0, 1) := by decide +kernel
theorem dL_law_207 : decode cL_law 207 = .ok (.iload_n 3, 1) := by decide +kernel
theorem dL_law_208 : decode cL_law 208 = .ok (.iconst 1, 1) := by decide +kernel
theorem dL_law_209 : decode cL_law 209 = .ok (.iadd, 1) := by decide +kernel
theorem dL_law_210 : decode cL_law 210 = .ok (.iaload, 1) := by decide +kernel
theorem dL_law_211 : decode cL_law 211 = .ok (.aload_n 0, 1) := by decide +kernel
theorem dL_law_212 : decode cL_law 212 = .ok (.iload_n 3, 1) := by decide +kernel
theorem dL_law_213 : decode cL_law 213 = .ok (.iconst 2, 1) := by decide +kernel
theorem dL_law_214 : decode cL_law 214 = .ok (.iadd, 1) := by decide +kernel
theorem dL_law_215 : decode cL_law 215 = .ok (.iaload, 1) := by decide +kernel
theorem dL_law_216 : decode cL_law 216 = .ok (.aload_n 0, 1) := by decide +kernel
theorem dL_law_217 : decode cL_law 217 = .ok (.iload_n 3, 1) := by decide +kernel
theorem dL_law_218 : decode cL_law 218 = .ok (.iconst 3, 1) := by decide +kernel
theorem dL_law_219 : decode cL_law 219 = .ok (.iadd, 1) := by decide +kernel
theorem dL_law_220 : decode cL_law 220 = .ok (.iaload, 1) := by decide +kernel
theorem dL_law_221 : decode cL_law 221 = .ok (.aload_n 0, 1) := by decide +kernel
theorem dL_law_222 : decode cL_law 222 = .ok (.iload_n 3, 1) := by decide +kernel
theorem dL_law_223 : decode cL_law 223 = .ok (.iconst 4, 1) := by decide +kernel
theorem dL_law_224 : decode cL_law 224 = .ok (.iadd, 1) := by decide +kernel
theorem dL_law_225 : decode cL_law 225 = .ok (.iaload, 1) := by decide +kernel
theorem dL_law_226 : decode cL_law 226 = .ok (.aload_n 0, 1) := by decide +kernel
theorem dL_law_227 : decode cL_law 227 = .ok (.iload_n 3, 1) := by decide +kernel
theorem dL_law_228 : decode cL_law 228 = .ok (.iconst 5, 1) := by decide +kernel
theorem dL_law_229 : decode cL_law 229 = .ok (.iadd, 1) := by decide +kernel
theorem dL_law_230 : decode cL_law 230 = .ok (.iaload, 1) := by decide +kernel
theorem dL_law_231 : decode cL_law 231 = .ok (.invokevirtual 27, 3) := by decide +kernel
theorem dL_law_234 : decode cL_law 234 = .ok (.if_icmp .eq 445, 3) := by decide +kernel
theorem dL_law_237 : decode cL_law 237 = .ok (.iconst 0, 1) := by decide +kernel
theorem dL_law_238 : decode cL_law 238 = .ok (.ireturn, 1) := by decide +kernel
theorem dL_law_239 : decode cL_law 239 = .ok (.aload_n 1, 1) := by decide +kernel
theorem dL_law_240 : decode cL_law 240 = .ok (.aload_n 0, 1) := by decide +kernel
theorem dL_law_241 : decode cL_law 241 = .ok (.iload_n 3, 1) := by decide +kernel
theorem dL_law_242 : decode cL_law 242 = .ok (.iconst 1, 1) := by decide +kernel
theorem dL_law_243 : decode cL_law 243 = .ok (.iadd, 1) := by decide +kernel
theorem dL_law_244 : decode cL_law 244 = .ok (.iaload, 1) := by decide +kernel
theorem dL_law_245 : decode cL_law 245 = .ok (.aload_n 0, 1) := by decide +kernel
theorem dL_law_246 : decode cL_law 246 = .ok (.iload_n 3, 1) := by decide +kernel
theorem dL_law_247 : decode cL_law 247 = .ok (.iconst 2, 1) := by decide +kernel
theorem dL_law_248 : decode cL_law 248 = .ok (.iadd, 1) := by decide +kernel
theorem dL_law_249 : decode cL_law 249 = .ok (.iaload, 1) := by decide +kernel
theorem dL_law_250 : decode cL_law 250 = .ok (.invokevirtual 28, 3) := by decide +kernel
theorem dL_law_253 : decode cL_law 253 = .ok (.aload_n 2, 1) := by decide +kernel
theorem dL_law_254 : decode cL_law 254 = .ok (.aload_n 0, 1) := by decide +kernel
theorem dL_law_255 : decode cL_law 255 = .ok (.iload_n 3, 1) := by decide +kernel
theorem dL_law_256 : decode cL_law 256 = .ok (.iconst 1, 1) := by decide +kernel
theorem dL_law_257 : decode cL_law 257 = .ok (.iadd, 1) := by decide +kernel
theorem dL_law_258 : decode cL_law 258 = .ok (.iaload, 1) := by decide +kernel
theorem dL_law_259 : decode cL_law 259 = .ok (.aload_n 0, 1) := by decide +kernel
theorem dL_law_260 : decode cL_law 260 = .ok (.iload_n 3, 1) := by decide +kernel
theorem dL_law_261 : decode cL_law 261 = .ok (.iconst 2, 1) := by decide +kernel
theorem dL_law_262 : decode cL_law 262 = .ok (.iadd, 1) := by decide +kernel
theorem dL_law_263 : decode cL_law 263 = .ok (.iaload, 1) := by decide +kernel
theorem dL_law_264 : decode cL_law 264 = .ok (.invokevirtual 32, 3) := by decide +kernel
theorem dL_law_267 : decode cL_law 267 = .ok (.if_icmp .eq 412, 3) := by decide +kernel
theorem dL_law_270 : decode cL_law 270 = .ok (.iconst 0, 1) := by decide +kernel
theorem dL_law_271 : decode cL_law 271 = .ok (.ireturn, 1) := by decide +kernel
theorem dL_law_272 : decode cL_law 272 = .ok (.aload_n 1, 1) := by decide +kernel
theorem dL_law_273 : decode cL_law 273 = .ok (.aload_n 0, 1) := by decide +kernel
theorem dL_law_274 : decode cL_law 274 = .ok (.iload_n 3, 1) := by decide +kernel
theorem dL_law_275 : decode cL_law 275 = .ok (.iconst 1, 1) := by decide +kernel
theorem dL_law_276 : decode cL_law 276 = .ok (.iadd, 1) := by decide +kernel
theorem dL_law_277 : decode cL_law 277 = .ok (.iaload, 1) := by decide +kernel
theorem dL_law_278 : decode cL_law 278 = .ok (.invokevirtual 33, 3) := by decide +kernel
theorem dL_law_281 : decode cL_law 281 = .ok (.aload_n 2, 1) := by decide +kernel
theorem dL_law_282 : decode cL_law 282 = .ok (.aload_n 0, 1) := by decide +kernel
theorem dL_law_283 : decode cL_law 283 = .ok (.iload_n 3, 1) := by decide +kernel
theorem dL_law_284 : decode cL_law 284 = .ok (.iconst 1, 1) := by decide +kernel
theorem dL_law_285 : decode cL_law 285 = .ok (.iadd, 1) := by decide +kernel
theorem dL_law_286 : decode cL_law 286 = .ok (.iaload, 1) := by decide +kernel
theorem dL_law_287 : decode cL_law 287 = .ok (.invokevirtual 36, 3) := by decide +kernel
theorem dL_law_290 : decode cL_law 290 = .ok (.if_icmp .eq 389, 3) := by decide +kernel
theorem dL_law_293 : decode cL_law 293 = .ok (.iconst 0, 1) := by decide +kernel
theorem dL_law_294 : decode cL_law 294 = .ok (.ireturn, 1) := by decide +kernel
theorem dL_law_295 : decode cL_law 295 = .ok (.aload_n 1, 1) := by decide +kernel
theorem dL_law_296 : decode cL_law 296 = .ok (.aload_n 0, 1) := by decide +kernel
theorem dL_law_297 : decode cL_law 297 = .ok (.iload_n 3, 1) := by decide +kernel
theorem dL_law_298 : decode cL_law 298 = .ok (.iconst 1, 1) := by decide +kernel
theorem dL_law_299 : decode cL_law 299 = .ok (.iadd, 1) := by decide +kernel
theorem dL_law_300 : decode cL_law 300 = .ok (.iaload, 1) := by decide +kernel
theorem dL_law_301 : decode cL_law 301 = .ok (.aload_n 0, 1) := by decide +kernel
theorem dL_law_302 : decode cL_law 302 = .ok (.iload_n 3, 1) := by decide +kernel
theorem dL_law_303 : decode cL_law 303 = .ok (.iconst 2, 1) := by decide +kernel
theorem dL_law_304 : decode cL_law 304 = .ok (.iadd, 1) := by decide +kernel
theorem dL_law_305 : decode cL_law 305 = .ok (.iaload, 1) := by decide +kernel
theorem dL_law_306 : decode cL_law 306 = .ok (.invokevirtual 37, 3) := by decide +kernel
theorem dL_law_309 : decode cL_law 309 = .ok (.aload_n 2, 1) := by decide +kernel
theorem dL_law_310 : decode cL_law 310 = .ok (.aload_n 0, 1) := by decide +kernel
theorem dL_law_311 : decode cL_law 311 = .ok (.iload_n 3, 1) := by decide +kernel
theorem dL_law_312 : decode cL_law 312 = .ok (.iconst 1, 1) := by decide +kernel
theorem dL_law_313 : decode cL_law 313 = .ok (.iadd, 1) := by decide +kernel
theorem dL_law_314 : decode cL_law 314 = .ok (.iaload, 1) := by decide +kernel
theorem dL_law_315 : decode cL_law 315 = .ok (.aload_n 0, 1) := by decide +kernel
theorem dL_law_316 : decode cL_law 316 = .ok (.iload_n 3, 1) := by decide +kernel
theorem dL_law_317 : decode cL_law 317 = .ok (.iconst 2, 1) := by decide +kernel
theorem dL_law_318 : decode cL_law 318 = .ok (.iadd, 1) := by decide +kernel
theorem dL_law_319 : decode cL_law 319 = .ok (.iaload, 1) := by decide +kernel
theorem dL_law_320 : decode cL_law 320 = .ok (.invokevirtual 40, 3) := by decide +kernel
theorem dL_law_323 : decode cL_law 323 = .ok (.if_icmp .eq 356, 3) := by decide +kernel
theorem dL_law_326 : decode cL_law 326 = .ok (.iconst 0, 1) := by decide +kernel
theorem dL_law_327 : decode cL_law 327 = .ok (.ireturn, 1) := by decide +kernel
theorem dL_law_328 : decode cL_law 328 = .ok (.aload_n 1, 1) := by decide +kernel
theorem dL_law_329 : decode cL_law 329 = .ok (.aload_n 0, 1) := by decide +kernel
theorem dL_law_330 : decode cL_law 330 = .ok (.iload_n 3, 1) := by decide +kernel
theorem dL_law_331 : decode cL_law 331 = .ok (.iconst 1, 1) := by decide +kernel
theorem dL_law_332 : decode cL_law 332 = .ok (.iadd, 1) := by decide +kernel
theorem dL_law_333 : decode cL_law 333 = .ok (.iaload, 1) := by decide +kernel
theorem dL_law_334 : decode cL_law 334 = .ok (.invokevirtual 41, 3) := by decide +kernel
theorem dL_law_337 : decode cL_law 337 = .ok (.aload_n 2, 1) := by decide +kernel
theorem dL_law_338 : decode cL_law 338 = .ok (.aload_n 0, 1) := by decide +kernel
theorem dL_law_339 : decode cL_law 339 = .ok (.iload_n 3, 1) := by decide +kernel
theorem dL_law_340 : decode cL_law 340 = .ok (.iconst 1, 1) := by decide +kernel
theorem dL_law_341 : decode cL_law 341 = .ok (.iadd, 1) := by decide +kernel
theorem dL_law_342 : decode cL_law 342 = .ok (.iaload, 1) := by decide +kernel
theorem dL_law_343 : decode cL_law 343 = .ok (.invokevirtual 44, 3) := by decide +kernel
theorem dL_law_346 : decode cL_law 346 = .ok (.if_icmp .eq 333, 3) := by decide +kernel
theorem dL_law_349 : decode cL_law 349 = .ok (.iconst 0, 1) := by decide +kernel
theorem dL_law_350 : decode cL_law 350 = .ok (.ireturn, 1) := by decide +kernel
theorem dL_law_351 : decode cL_law 351 = .ok (.aload_n 1, 1) := by decide +kernel
theorem dL_law_352 : decode cL_law 352 = .ok (.aload_n 0, 1) := by decide +kernel
theorem dL_law_353 : decode cL_law 353 = .ok (.iload_n 3, 1) := by decide +kernel
theorem dL_law_354 : decode cL_law 354 = .ok (.iconst 1, 1) := by decide +kernel
theorem dL_law_355 : decode cL_law 355 = .ok (.iadd, 1) := by decide +kernel
theorem dL_law_356 : decode cL_law 356 = .ok (.iaload, 1) := by decide +kernel
theorem dL_law_357 : decode cL_law 357 = .ok (.invokevirtual 45, 3) := by decide +kernel
theorem dL_law_360 : decode cL_law 360 = .ok (.aload_n 2, 1) := by decide +kernel
theorem dL_law_361 : decode cL_law 361 = .ok (.aload_n 0, 1) := by decide +kernel
theorem dL_law_362 : decode cL_law 362 = .ok (.iload_n 3, 1) := by decide +kernel
theorem dL_law_363 : decode cL_law 363 = .ok (.iconst 1, 1) := by decide +kernel
theorem dL_law_364 : decode cL_law 364 = .ok (.iadd, 1) := by decide +kernel
theorem dL_law_365 : decode cL_law 365 = .ok (.iaload, 1) := by decide +kernel
theorem dL_law_366 : decode cL_law 366 = .ok (.invokevirtual 48, 3) := by decide +kernel
theorem dL_law_369 : decode cL_law 369 = .ok (.if_icmp .eq 310, 3) := by decide +kernel
theorem dL_law_372 : decode cL_law 372 = .ok (.iconst 0, 1) := by decide +kernel
theorem dL_law_373 : decode cL_law 373 = .ok (.ireturn, 1) := by decide +kernel
theorem dL_law_374 : decode cL_law 374 = .ok (.aload_n 1, 1) := by decide +kernel
theorem dL_law_375 : decode cL_law 375 = .ok (.aload_n 0, 1) := by decide +kernel
theorem dL_law_376 : decode cL_law 376 = .ok (.iload_n 3, 1) := by decide +kernel
theorem dL_law_377 : decode cL_law 377 = .ok (.iconst 1, 1) := by decide +kernel
theorem dL_law_378 : decode cL_law 378 = .ok (.iadd, 1) := by decide +kernel
theorem dL_law_379 : decode cL_law 379 = .ok (.iaload, 1) := by decide +kernel
theorem dL_law_380 : decode cL_law 380 = .ok (.invokevirtual 49, 3) := by decide +kernel
theorem dL_law_383 : decode cL_law 383 = .ok (.aload_n 2, 1) := by decide +kernel
theorem dL_law_384 : decode cL_law 384 = .ok (.aload_n 0, 1) := by decide +kernel
theorem dL_law_385 : decode cL_law 385 = .ok (.iload_n 3, 1) := by decide +kernel
theorem dL_law_386 : decode cL_law 386 = .ok (.iconst 1, 1) := by decide +kernel
theorem dL_law_387 : decode cL_law 387 = .ok (.iadd, 1) := by decide +kernel
theorem dL_law_388 : decode cL_law 388 = .ok (.iaload, 1) := by decide +kernel
theorem dL_law_389 : decode cL_law 389 = .ok (.invokevirtual 52, 3) := by decide +kernel
theorem dL_law_392 : decode cL_law 392 = .ok (.if_icmp .eq 287, 3) := by decide +kernel
theorem dL_law_395 : decode cL_law 395 = .ok (.iconst 0, 1) := by decide +kernel
theorem dL_law_396 : decode cL_law 396 = .ok (.ireturn, 1) := by decide +kernel
theorem dL_law_397 : decode cL_law 397 = .ok (.aload_n 1, 1) := by decide +kernel
theorem dL_law_398 : decode cL_law 398 = .ok (.aload_n 0, 1) := by decide +kernel
theorem dL_law_399 : decode cL_law 399 = .ok (.iload_n 3, 1) := by decide +kernel
theorem dL_law_400 : decode cL_law 400 = .ok (.iconst 1, 1) := by decide +kernel
theorem dL_law_401 : decode cL_law 401 = .ok (.iadd, 1) := by decide +kernel
theorem dL_law_402 : decode cL_law 402 = .ok (.iaload, 1) := by decide +kernel
theorem dL_law_403 : decode cL_law 403 = .ok (.aload_n 0, 1) := by decide +kernel
theorem dL_law_404 : decode cL_law 404 = .ok (.iload_n 3, 1) := by decide +kernel
theorem dL_law_405 : decode cL_law 405 = .ok (.iconst 2, 1) := by decide +kernel
theorem dL_law_406 : decode cL_law 406 = .ok (.iadd, 1) := by decide +kernel
theorem dL_law_407 : decode cL_law 407 = .ok (.iaload, 1) := by decide +kernel
theorem dL_law_408 : decode cL_law 408 = .ok (.invokevirtual 53, 3) := by decide +kernel
theorem dL_law_411 : decode cL_law 411 = .ok (.aload_n 2, 1) := by decide +kernel
theorem dL_law_412 : decode cL_law 412 = .ok (.aload_n 0, 1) := by decide +kernel
theorem dL_law_413 : decode cL_law 413 = .ok (.iload_n 3, 1) := by decide +kernel
theorem dL_law_414 : decode cL_law 414 = .ok (.iconst 1, 1) := by decide +kernel
theorem dL_law_415 : decode cL_law 415 = .ok (.iadd, 1) := by decide +kernel
theorem dL_law_416 : decode cL_law 416 = .ok (.iaload, 1) := by decide +kernel
theorem dL_law_417 : decode cL_law 417 = .ok (.aload_n 0, 1) := by decide +kernel
theorem dL_law_418 : decode cL_law 418 = .ok (.iload_n 3, 1) := by decide +kernel
theorem dL_law_419 : decode cL_law 419 = .ok (.iconst 2, 1) := by decide +kernel
theorem dL_law_420 : decode cL_law 420 = .ok (.iadd, 1) := by decide +kernel
theorem dL_law_421 : decode cL_law 421 = .ok (.iaload, 1) := by decide +kernel
theorem dL_law_422 : decode cL_law 422 = .ok (.invokevirtual 56, 3) := by decide +kernel
theorem dL_law_425 : decode cL_law 425 = .ok (.if_icmp .eq 254, 3) := by decide +kernel
theorem dL_law_428 : decode cL_law 428 = .ok (.iconst 0, 1) := by decide +kernel
theorem dL_law_429 : decode cL_law 429 = .ok (.ireturn, 1) := by decide +kernel
theorem dL_law_430 : decode cL_law 430 = .ok (.aload_n 1, 1) := by decide +kernel
theorem dL_law_431 : decode cL_law 431 = .ok (.invokevirtual 57, 3) := by decide +kernel
theorem dL_law_434 : decode cL_law 434 = .ok (.aload_n 2, 1) := by decide +kernel
theorem dL_law_435 : decode cL_law 435 = .ok (.invokevirtual 60, 3) := by decide +kernel
theorem dL_law_438 : decode cL_law 438 = .ok (.if_icmp .eq 241, 3) := by decide +kernel
theorem dL_law_441 : decode cL_law 441 = .ok (.iconst 0, 1) := by decide +kernel
theorem dL_law_442 : decode cL_law 442 = .ok (.ireturn, 1) := by decide +kernel
theorem dL_law_443 : decode cL_law 443 = .ok (.aload_n 1, 1) := by decide +kernel
theorem dL_law_444 : decode cL_law 444 = .ok (.aload_n 0, 1) := by decide +kernel
theorem dL_law_445 : decode cL_law 445 = .ok (.iload_n 3, 1) := by decide +kernel
theorem dL_law_446 : decode cL_law 446 = .ok (.iconst 1, 1) := by decide +kernel
theorem dL_law_447 : decode cL_law 447 = .ok (.iadd, 1) := by decide +kernel
theorem dL_law_448 : decode cL_law 448 = .ok (.iaload, 1) := by decide +kernel
theorem dL_law_449 : decode cL_law 449 = .ok (.invokevirtual 61, 3) := by decide +kernel
theorem dL_law_452 : decode cL_law 452 = .ok (.aload_n 2, 1) := by decide +kernel
theorem dL_law_453 : decode cL_law 453 = .ok (.aload_n 0, 1) := by decide +kernel
theorem dL_law_454 : decode cL_law 454 = .ok (.iload_n 3, 1) := by decide +kernel
theorem dL_law_455 : decode cL_law 455 = .ok (.iconst 1, 1) := by decide +kernel
theorem dL_law_456 : decode cL_law 456 = .ok (.iadd, 1) := by decide +kernel
theorem dL_law_457 : decode cL_law 457 = .ok (.iaload, 1) := by decide +kernel
theorem dL_law_458 : decode cL_law 458 = .ok (.invokevirtual 64, 3) := by decide +kernel
theorem dL_law_461 : decode cL_law 461 = .ok (.if_icmp .eq 218, 3) := by decide +kernel
theorem dL_law_464 : decode cL_law 464 = .ok (.iconst 0, 1) := by decide +kernel
theorem dL_law_465 : decode cL_law 465 = .ok (.ireturn, 1) := by decide +kernel
theorem dL_law_466 : decode cL_law 466 = .ok (.aload_n 1, 1) := by decide +kernel
theorem dL_law_467 : decode cL_law 467 = .ok (.invokevirtual 65, 3) := by decide +kernel
theorem dL_law_470 : decode cL_law 470 = .ok (.aload_n 2, 1) := by decide +kernel
theorem dL_law_471 : decode cL_law 471 = .ok (.invokevirtual 68, 3) := by decide +kernel
theorem dL_law_474 : decode cL_law 474 = .ok (.if_icmp .eq 205, 3) := by decide +kernel
theorem dL_law_477 : decode cL_law 477 = .ok (.iconst 0, 1) := by decide +kernel
theorem dL_law_478 : decode cL_law 478 = .ok (.ireturn, 1) := by decide +kernel
theorem dL_law_479 : decode cL_law 479 = .ok (.aload_n 1, 1) := by decide +kernel
theorem dL_law_480 : decode cL_law 480 = .ok (.invokevirtual 69, 3) := by decide +kernel
theorem dL_law_483 : decode cL_law 483 = .ok (.aload_n 2, 1) := by decide +kernel
theorem dL_law_484 : decode cL_law 484 = .ok (.invokevirtual 72, 3) := by decide +kernel
theorem dL_law_487 : decode cL_law 487 = .ok (.if_icmp .eq 192, 3) := by decide +kernel
theorem dL_law_490 : decode cL_law 490 = .ok (.iconst 0, 1) := by decide +kernel
theorem dL_law_491 : decode cL_law 491 = .ok (.ireturn, 1) := by decide +kernel
theorem dL_law_492 : decode cL_law 492 = .ok (.aload_n 1, 1) := by decide +kernel
theorem dL_law_493 : decode cL_law 493 = .ok (.aload_n 0, 1) := by decide +kernel
theorem dL_law_494 : decode cL_law 494 = .ok (.iload_n 3, 1) := by decide +kernel
theorem dL_law_495 : decode cL_law 495 = .ok (.iconst 1, 1) := by decide +kernel
theorem dL_law_496 : decode cL_law 496 = .ok (.iadd, 1) := by decide +kernel
theorem dL_law_497 : decode cL_law 497 = .ok (.iaload, 1) := by decide +kernel
theorem dL_law_498 : decode cL_law 498 = .ok (.invokevirtual 73, 3) := by decide +kernel
theorem dL_law_501 : decode cL_law 501 = .ok (.aload_n 2, 1) := by decide +kernel
theorem dL_law_502 : decode cL_law 502 = .ok (.aload_n 0, 1) := by decide +kernel
theorem dL_law_503 : decode cL_law 503 = .ok (.iload_n 3, 1) := by decide +kernel
theorem dL_law_504 : decode cL_law 504 = .ok (.iconst 1, 1) := by decide +kernel
theorem dL_law_505 : decode cL_law 505 = .ok (.iadd, 1) := by decide +kernel
theorem dL_law_506 : decode cL_law 506 = .ok (.iaload, 1) := by decide +kernel
theorem dL_law_507 : decode cL_law 507 = .ok (.invokevirtual 76, 3) := by decide +kernel
theorem dL_law_510 : decode cL_law 510 = .ok (.if_icmp .eq 169, 3) := by decide +kernel
theorem dL_law_513 : decode cL_law 513 = .ok (.iconst 0, 1) := by decide +kernel
theorem dL_law_514 : decode cL_law 514 = .ok (.ireturn, 1) := by decide +kernel
theorem dL_law_515 : decode cL_law 515 = .ok (.aload_n 1, 1) := by decide +kernel
theorem dL_law_516 : decode cL_law 516 = .ok (.invokevirtual 77, 3) := by decide +kernel
theorem dL_law_519 : decode cL_law 519 = .ok (.aload_n 2, 1) := by decide +kernel
theorem dL_law_520 : decode cL_law 520 = .ok (.invokevirtual 80, 3) := by decide +kernel
theorem dL_law_523 : decode cL_law 523 = .ok (.if_icmp .eq 156, 3) := by decide +kernel
theorem dL_law_526 : decode cL_law 526 = .ok (.iconst 0, 1) := by decide +kernel
theorem dL_law_527 : decode cL_law 527 = .ok (.ireturn, 1) := by decide +kernel
theorem dL_law_528 : decode cL_law 528 = .ok (.aload_n 1, 1) := by decide +kernel
theorem dL_law_529 : decode cL_law 529 = .ok (.aload_n 0, 1) := by decide +kernel
theorem dL_law_530 : decode cL_law 530 = .ok (.iload_n 3, 1) := by decide +kernel
theorem dL_law_531 : decode cL_law 531 = .ok (.iconst 1, 1) := by decide +kernel
theorem dL_law_532 : decode cL_law 532 = .ok (.iadd, 1) := by decide +kernel
theorem dL_law_533 : decode cL_law 533 = .ok (.iaload, 1) := by decide +kernel
theorem dL_law_534 : decode cL_law 534 = .ok (.invokevirtual 81, 3) := by decide +kernel
theorem dL_law_537 : decode cL_law 537 = .ok (.aload_n 2, 1) := by decide +kernel
theorem dL_law_538 : decode cL_law 538 = .ok (.aload_n 0, 1) := by decide +kernel
theorem dL_law_539 : decode cL_law 539 = .ok (.iload_n 3, 1) := by decide +kernel
theorem dL_law_540 : decode cL_law 540 = .ok (.iconst 1, 1) := by decide +kernel
theorem dL_law_541 : decode cL_law 541 = .ok (.iadd, 1) := by decide +kernel
theorem dL_law_542 : decode cL_law 542 = .ok (.iaload, 1) := by decide +kernel
theorem dL_law_543 : decode cL_law 543 = .ok (.invokevirtual 84, 3) := by decide +kernel
theorem dL_law_546 : decode cL_law 546 = .ok (.if_icmp .eq 133, 3) := by decide +kernel
theorem dL_law_549 : decode cL_law 549 = .ok (.iconst 0, 1) := by decide +kernel
theorem dL_law_550 : decode cL_law 550 = .ok (.ireturn, 1) := by decide +kernel
theorem dL_law_551 : decode cL_law 551 = .ok (.aload_n 1, 1) := by decide +kernel
theorem dL_law_552 : decode cL_law 552 = .ok (.aload_n 0, 1) := by decide +kernel
theorem dL_law_553 : decode cL_law 553 = .ok (.iload_n 3, 1) := by decide +kernel
theorem dL_law_554 : decode cL_law 554 = .ok (.iconst 1, 1) := by decide +kernel
theorem dL_law_555 : decode cL_law 555 = .ok (.iadd, 1) := by decide +kernel
theorem dL_law_556 : decode cL_law 556 = .ok (.iaload, 1) := by decide +kernel
theorem dL_law_557 : decode cL_law 557 = .ok (.invokevirtual 85, 3) := by decide +kernel
theorem dL_law_560 : decode cL_law 560 = .ok (.aload_n 2, 1) := by decide +kernel
theorem dL_law_561 : decode cL_law 561 = .ok (.aload_n 0, 1) := by decide +kernel
theorem dL_law_562 : decode cL_law 562 = .ok (.iload_n 3, 1) := by decide +kernel
theorem dL_law_563 : decode cL_law 563 = .ok (.iconst 1, 1) := by decide +kernel
theorem dL_law_564 : decode cL_law 564 = .ok (.iadd, 1) := by decide +kernel
theorem dL_law_565 : decode cL_law 565 = .ok (.iaload, 1) := by decide +kernel
theorem dL_law_566 : decode cL_law 566 = .ok (.invokevirtual 88, 3) := by decide +kernel
theorem dL_law_569 : decode cL_law 569 = .ok (.if_icmp .eq 110, 3) := by decide +kernel
theorem dL_law_572 : decode cL_law 572 = .ok (.iconst 0, 1) := by decide +kernel
theorem dL_law_573 : decode cL_law 573 = .ok (.ireturn, 1) := by decide +kernel
theorem dL_law_574 : decode cL_law 574 = .ok (.aload_n 1, 1) := by decide +kernel
theorem dL_law_575 : decode cL_law 575 = .ok (.invokevirtual 89, 3) := by decide +kernel
theorem dL_law_578 : decode cL_law 578 = .ok (.aload_n 2, 1) := by decide +kernel
theorem dL_law_579 : decode cL_law 579 = .ok (.invokevirtual 92, 3) := by decide +kernel
theorem dL_law_582 : decode cL_law 582 = .ok (.if_icmp .eq 97, 3) := by decide +kernel
theorem dL_law_585 : decode cL_law 585 = .ok (.iconst 0, 1) := by decide +kernel
theorem dL_law_586 : decode cL_law 586 = .ok (.ireturn, 1) := by decide +kernel
theorem dL_law_587 : decode cL_law 587 = .ok (.aload_n 1, 1) := by decide +kernel
theorem dL_law_588 : decode cL_law 588 = .ok (.aload_n 0, 1) := by decide +kernel
theorem dL_law_589 : decode cL_law 589 = .ok (.iload_n 3, 1) := by decide +kernel
theorem dL_law_590 : decode cL_law 590 = .ok (.iconst 1, 1) := by decide +kernel
theorem dL_law_591 : decode cL_law 591 = .ok (.iadd, 1) := by decide +kernel
theorem dL_law_592 : decode cL_law 592 = .ok (.iaload, 1) := by decide +kernel
theorem dL_law_593 : decode cL_law 593 = .ok (.aload_n 0, 1) := by decide +kernel
theorem dL_law_594 : decode cL_law 594 = .ok (.iload_n 3, 1) := by decide +kernel
theorem dL_law_595 : decode cL_law 595 = .ok (.iconst 2, 1) := by decide +kernel
theorem dL_law_596 : decode cL_law 596 = .ok (.iadd, 1) := by decide +kernel
theorem dL_law_597 : decode cL_law 597 = .ok (.iaload, 1) := by decide +kernel
theorem dL_law_598 : decode cL_law 598 = .ok (.invokevirtual 93, 3) := by decide +kernel
theorem dL_law_601 : decode cL_law 601 = .ok (.aload_n 2, 1) := by decide +kernel
theorem dL_law_602 : decode cL_law 602 = .ok (.aload_n 0, 1) := by decide +kernel
theorem dL_law_603 : decode cL_law 603 = .ok (.iload_n 3, 1) := by decide +kernel
theorem dL_law_604 : decode cL_law 604 = .ok (.iconst 1, 1) := by decide +kernel
theorem dL_law_605 : decode cL_law 605 = .ok (.iadd, 1) := by decide +kernel
theorem dL_law_606 : decode cL_law 606 = .ok (.iaload, 1) := by decide +kernel
theorem dL_law_607 : decode cL_law 607 = .ok (.aload_n 0, 1) := by decide +kernel
theorem dL_law_608 : decode cL_law 608 = .ok (.iload_n 3, 1) := by decide +kernel
theorem dL_law_609 : decode cL_law 609 = .ok (.iconst 2, 1) := by decide +kernel
theorem dL_law_610 : decode cL_law 610 = .ok (.iadd, 1) := by decide +kernel
theorem dL_law_611 : decode cL_law 611 = .ok (.iaload, 1) := by decide +kernel
theorem dL_law_612 : decode cL_law 612 = .ok (.invokevirtual 96, 3) := by decide +kernel
theorem dL_law_615 : decode cL_law 615 = .ok (.if_icmp .eq 64, 3) := by decide +kernel
theorem dL_law_618 : decode cL_law 618 = .ok (.iconst 0, 1) := by decide +kernel
theorem dL_law_619 : decode cL_law 619 = .ok (.ireturn, 1) := by decide +kernel
theorem dL_law_620 : decode cL_law 620 = .ok (.aload_n 1, 1) := by decide +kernel
theorem dL_law_621 : decode cL_law 621 = .ok (.invokevirtual 97, 3) := by decide +kernel
theorem dL_law_624 : decode cL_law 624 = .ok (.aload_n 2, 1) := by decide +kernel
theorem dL_law_625 : decode cL_law 625 = .ok (.invokevirtual 100, 3) := by decide +kernel
theorem dL_law_628 : decode cL_law 628 = .ok (.if_icmp .eq 51, 3) := by decide +kernel
theorem dL_law_631 : decode cL_law 631 = .ok (.iconst 0, 1) := by decide +kernel
theorem dL_law_632 : decode cL_law 632 = .ok (.ireturn, 1) := by decide +kernel
theorem dL_law_633 : decode cL_law 633 = .ok (.aload_n 1, 1) := by decide +kernel
theorem dL_law_634 : decode cL_law 634 = .ok (.aload_n 0, 1) := by decide +kernel
theorem dL_law_635 : decode cL_law 635 = .ok (.iload_n 3, 1) := by decide +kernel
theorem dL_law_636 : decode cL_law 636 = .ok (.iconst 1, 1) := by decide +kernel
theorem dL_law_637 : decode cL_law 637 = .ok (.iadd, 1) := by decide +kernel
theorem dL_law_638 : decode cL_law 638 = .ok (.iaload, 1) := by decide +kernel
theorem dL_law_639 : decode cL_law 639 = .ok (.invokevirtual 101, 3) := by decide +kernel
theorem dL_law_642 : decode cL_law 642 = .ok (.aload_n 2, 1) := by decide +kernel
theorem dL_law_643 : decode cL_law 643 = .ok (.aload_n 0, 1) := by decide +kernel
theorem dL_law_644 : decode cL_law 644 = .ok (.iload_n 3, 1) := by decide +kernel
theorem dL_law_645 : decode cL_law 645 = .ok (.iconst 1, 1) := by decide +kernel
theorem dL_law_646 : decode cL_law 646 = .ok (.iadd, 1) := by decide +kernel
theorem dL_law_647 : decode cL_law 647 = .ok (.iaload, 1) := by decide +kernel
theorem dL_law_648 : decode cL_law 648 = .ok (.invokevirtual 104, 3) := by decide +kernel
theorem dL_law_651 : decode cL_law 651 = .ok (.if_icmp .eq 28, 3) := by decide +kernel
theorem dL_law_654 : decode cL_law 654 = .ok (.iconst 0, 1) := by decide +kernel
theorem dL_law_655 : decode cL_law 655 = .ok (.ireturn, 1) := by decide +kernel
theorem dL_law_656 : decode cL_law 656 = .ok (.aload_n 1, 1) := by decide +kernel
theorem dL_law_657 : decode cL_law 657 = .ok (.aload_n 0, 1) := by decide +kernel
theorem dL_law_658 : decode cL_law 658 = .ok (.iload_n 3, 1) := by decide +kernel
theorem dL_law_659 : decode cL_law 659 = .ok (.iconst 1, 1) := by decide +kernel
theorem dL_law_660 : decode cL_law 660 = .ok (.iadd, 1) := by decide +kernel
theorem dL_law_661 : decode cL_law 661 = .ok (.iaload, 1) := by decide +kernel
theorem dL_law_662 : decode cL_law 662 = .ok (.invokevirtual 105, 3) := by decide +kernel
theorem dL_law_665 : decode cL_law 665 = .ok (.aload_n 2, 1) := by decide +kernel
theorem dL_law_666 : decode cL_law 666 = .ok (.aload_n 0, 1) := by decide +kernel
theorem dL_law_667 : decode cL_law 667 = .ok (.iload_n 3, 1) := by decide +kernel
theorem dL_law_668 : decode cL_law 668 = .ok (.iconst 1, 1) := by decide +kernel
theorem dL_law_669 : decode cL_law 669 = .ok (.iadd, 1) := by decide +kernel
theorem dL_law_670 : decode cL_law 670 = .ok (.iaload, 1) := by decide +kernel
theorem dL_law_671 : decode cL_law 671 = .ok (.invokevirtual 108, 3) := by decide +kernel
theorem dL_law_674 : decode cL_law 674 = .ok (.if_icmp .eq 5, 3) := by decide +kernel
theorem dL_law_677 : decode cL_law 677 = .ok (.iconst 0, 1) := by decide +kernel
theorem dL_law_678 : decode cL_law 678 = .ok (.ireturn, 1) := by decide +kernel
theorem dL_law_679 : decode cL_law 679 = .ok (.iinc 3 6, 3) := by decide +kernel
theorem dL_law_682 : decode cL_law 682 = .ok (.goto (-664), 3) := by decide +kernel
theorem dL_law_685 : decode cL_law 685 = .ok (.iconst 1, 1) := by decide +kernel
theorem dL_law_686 : decode cL_law 686 = .ok (.ireturn, 1) := by decide +kernel
end
section
/-! THE POOL: one world for every method: addresses, the kind of each, lengths, int slots, reference slots -/
def pS : Type := List Nat × (Nat → Nat) × (Nat → Nat) × (Nat → Nat → Int32) × (Nat → Nat → Option Nat)
def pS.L (S : pS) : List Nat := S.1
def pS.K (S : pS) : Nat → Nat := S.2.1
def pS.n (S : pS) : Nat → Nat := S.2.2.1
def pS.I (S : pS) : Nat → Nat → Int32 := S.2.2.2.1
def pS.P (S : pS) : Nat → Nat → Option Nat := S.2.2.2.2
def pS.mk5 (L : List Nat) (K n : Nat → Nat) (I : Nat → Nat → Int32) (P : Nat → Nat → Option Nat) : pS := (L, K, n, I, P)
def pS.setI (S : pS) (a j : Nat) (v : Int32) : pS := pS.mk5 S.L S.K S.n (va_up S.I a (va_up (S.I a) j v)) S.P
def pS.setP (S : pS) (a j : Nat) (v : Option Nat) : pS := pS.mk5 S.L S.K S.n S.I (va_up S.P a (va_up (S.P a) j v))
def pS.rowP (S : pS) (a : Nat) (f : Nat → Option Nat) : pS := pS.mk5 S.L S.K S.n S.I (va_up S.P a f)
def pS.new (S : pS) (a k n : Nat) : pS := pS.mk5 (S.L ++ [a]) (va_up S.K a k) (va_up S.n a n) (va_up S.I a (fun _ => 0)) (va_up S.P a (fun _ => none))
def pS.ok (S : pS) (a k : Nat) : Prop := a ∈ S.L ∧ S.K a = k
def EV : Type := (Nat → ClassId) × (Nat → Nat → Nat) × ClassId × ClassId × Nat
def EV.G (E : EV) : va_G := (E.1, E.2.1)
def EV.cI (E : EV) : ClassId := E.2.2.1
def EV.cO (E : EV) : ClassId := E.2.2.2.1
def EV.e0 (E : EV) : Nat := E.2.2.2.2
def kf : Nat → List Bool
  | 0 => [true, false, false, false, false]
  | 1 => [false, true]
  | 2 => [true, true, false]
  | 3 => [true, false]
  | 4 => [true, true, true, true, true, true, true, true, false, false, false, false, false]
  | 5 => [true, false, true, true, true, true, true, true, true, true, false, true, false, true, false, false, false, true, false, false, false, true, true, false, true, true]
  | 6 => [false, true, false]
  | _ => []
def pfl : List Bool → Nat → (Nat → Int32) → (Nat → Option Nat) → List Value
  | [], _, _, _ => []
  | true :: t, j, I, P => va_rf (P j) :: pfl t (j + 1) I P
  | false :: t, j, I, P => .int (I j) :: pfl t (j + 1) I P
theorem pfl_i : ∀ (fl : List Bool) (o j : Nat) (I : Nat → Int32) (P : Nat → Option Nat), fl[j]? = some false → (pfl fl o I P)[j]? = some (.int (I (o + j)))
  | [], _, j, _, _, h => by simp at h
  | true :: t, o, 0, I, P, h => by simp at h
  | false :: t, o, 0, I, P, h => by simp [pfl]
  | true :: t, o, j + 1, I, P, h => by
    have h' : t[j]? = some false := by simpa using h
    have := pfl_i t (o + 1) j I P h'
    simp only [pfl, List.getElem?_cons_succ, this]
    congr 3; omega
  | false :: t, o, j + 1, I, P, h => by
    have h' : t[j]? = some false := by simpa using h
    have := pfl_i t (o + 1) j I P h'
    simp only [pfl, List.getElem?_cons_succ, this]
    congr 3; omega
theorem pfl_p : ∀ (fl : List Bool) (o j : Nat) (I : Nat → Int32) (P : Nat → Option Nat), fl[j]? = some true → (pfl fl o I P)[j]? = some (va_rf (P (o + j)))
  | [], _, j, _, _, h => by simp at h
  | false :: t, o, 0, I, P, h => by simp at h
  | true :: t, o, 0, I, P, h => by simp [pfl]
  | true :: t, o, j + 1, I, P, h => by
    have h' : t[j]? = some true := by simpa using h
    have := pfl_p t (o + 1) j I P h'
    simp only [pfl, List.getElem?_cons_succ, this]
    congr 3; omega
  | false :: t, o, j + 1, I, P, h => by
    have h' : t[j]? = some true := by simpa using h
    have := pfl_p t (o + 1) j I P h'
    simp only [pfl, List.getElem?_cons_succ, this]
    congr 3; omega
theorem pfl_cong : ∀ (fl : List Bool) (o : Nat) (I I' : Nat → Int32) (P P' : Nat → Option Nat), (∀ k, o ≤ k → I k = I' k) → (∀ k, o ≤ k → P k = P' k) → pfl fl o I P = pfl fl o I' P'
  | [], _, _, _, _, _, _, _ => rfl
  | true :: t, o, I, I', P, P', hi, hp => by
    simp only [pfl, hp o (Nat.le_refl _), pfl_cong t (o + 1) I I' P P' (fun k h => hi k (by omega)) (fun k h => hp k (by omega))]
  | false :: t, o, I, I', P, P', hi, hp => by
    simp only [pfl, hi o (Nat.le_refl _), pfl_cong t (o + 1) I I' P P' (fun k h => hi k (by omega)) (fun k h => hp k (by omega))]
theorem pfl_si : ∀ (fl : List Bool) (o j : Nat) (I : Nat → Int32) (P : Nat → Option Nat) (v : Int32), fl[j]? = some false → (pfl fl o I P).set j (.int v) = pfl fl o (va_up I (o + j) v) P
  | [], _, j, _, _, _, h => by simp at h
  | true :: t, o, 0, I, P, v, h => by simp at h
  | false :: t, o, 0, I, P, v, h => by
    simp only [pfl, List.set_cons_zero, Nat.add_zero, va_up_self]
    rw [pfl_cong t (o + 1) I (va_up I o v) P P (fun k hk => (va_up_ne I v (by omega)).symm) (fun _ _ => rfl)]
  | true :: t, o, j + 1, I, P, v, h => by
    have h' : t[j]? = some false := by simpa using h
    simp only [pfl, List.set_cons_succ, pfl_si t (o + 1) j I P v h', show o + 1 + j = o + (j + 1) by omega]
  | false :: t, o, j + 1, I, P, v, h => by
    have h' : t[j]? = some false := by simpa using h
    simp only [pfl, List.set_cons_succ, pfl_si t (o + 1) j I P v h', show o + 1 + j = o + (j + 1) by omega]
    rw [va_up_ne I v (by omega)]
theorem pfl_sp : ∀ (fl : List Bool) (o j : Nat) (I : Nat → Int32) (P : Nat → Option Nat) (v : Option Nat), fl[j]? = some true → (pfl fl o I P).set j (va_rf v) = pfl fl o I (va_up P (o + j) v)
  | [], _, j, _, _, _, h => by simp at h
  | false :: t, o, 0, I, P, v, h => by simp at h
  | true :: t, o, 0, I, P, v, h => by
    simp only [pfl, List.set_cons_zero, Nat.add_zero, va_up_self]
    rw [pfl_cong t (o + 1) I I P (va_up P o v) (fun _ _ => rfl) (fun k hk => (va_up_ne P v (by omega)).symm)]
  | true :: t, o, j + 1, I, P, v, h => by
    have h' : t[j]? = some true := by simpa using h
    simp only [pfl, List.set_cons_succ, pfl_sp t (o + 1) j I P v h', show o + 1 + j = o + (j + 1) by omega]
    rw [va_up_ne P v (by omega)]
  | false :: t, o, j + 1, I, P, v, h => by
    have h' : t[j]? = some true := by simpa using h
    simp only [pfl, List.set_cons_succ, pfl_sp t (o + 1) j I P v h', show o + 1 + j = o + (j + 1) by omega]
def pf (E : EV) (S : pS) (a : Nat) : va_E := if S.K a < 7 then .inr (S.K a, pfl (kf (S.K a)) 0 (S.I a) (S.P a)) else if S.K a = 7 then .inl (E.cI, S.n a, .inl (S.I a)) else .inl (E.cO, S.n a, .inr (.inr (.inr (.inr (S.P a)))))
def pool (E : EV) (S : pS) : va_W := va_pl S.L (pf E S)
theorem pf_obj (E : EV) {S : pS} {a k : Nat} (h : S.K a = k) (h7 : k < 7) : pf E S a = .inr (k, pfl (kf k) 0 (S.I a) (S.P a)) := by
  unfold pf
  rw [h, if_pos h7]
theorem pf_arr (E : EV) {S : pS} {a : Nat} (h : S.K a = 7) : pf E S a = .inl (E.cI, S.n a, .inl (S.I a)) := by
  unfold pf
  rw [h, if_neg (by decide), if_pos rfl]
theorem pf_row (E : EV) {S : pS} {a : Nat} (h : S.K a = 8) : pf E S a = .inl (E.cO, S.n a, .inr (.inr (.inr (.inr (S.P a))))) := by
  unfold pf
  rw [h, if_neg (by decide), if_neg (by decide)]
theorem pf_ext (E : EV) {S S' : pS} {b : Nat} (hk : S'.K b = S.K b) (hn : S'.n b = S.n b) (hi : S'.I b = S.I b) (hp : S'.P b = S.P b) : pf E S' b = pf E S b := by
  unfold pf
  rw [hk, hn, hi, hp]
theorem pool_get (E : EV) {S : pS} {a : Nat} (h : a ∈ S.L) : ∃ k : Nat, (pool E S)[k]? = some (a, pf E S a) := by
  have h1 := va_pl_get (X := []) (L := S.L) (f := pf E S) h
  rwa [List.nil_append] at h1
theorem pool_put (E : EV) {A : Nat → Prop} {S S' : pS} {a q : Nat} {e : va_E} (hD : va_D A (pool E S)) (ha : a ∈ S.L) (hq : (pool E S)[q]? = some (a, pf E S a)) (hL : S'.L = S.L) (he : pf E S' a = e) (ho : ∀ b, b ≠ a → pf E S' b = pf E S b) : (pool E S).set q (a, e) = pool E S' := by
  have h1 := va_pl_set (X := []) (L := S.L) (f := pf E S) (e := e) (by rw [List.nil_append]; exact hD) ha (by rw [List.nil_append]; exact hq)
  rw [List.nil_append, List.nil_append] at h1
  unfold pool
  rw [h1, hL]
  refine va_pl_congr (fun b => ?_)
  by_cases hb : b = a
  · subst hb; rw [va_up_self, he]
  · rw [va_up_ne _ _ hb, ho b hb]
theorem pool_new (E : EV) {S S' : pS} {a : Nat} {e : va_E} (ha : a ∉ S.L) (hL : S'.L = S.L ++ [a]) (he : pf E S' a = e) (ho : ∀ b, b ≠ a → pf E S' b = pf E S b) : pool E S ++ [(a, e)] = pool E S' := by
  unfold pool
  rw [va_pl_push ha, hL]
  refine va_pl_congr (fun b => ?_)
  by_cases hb : b = a
  · subst hb; rw [va_up_self, he]
  · rw [va_up_ne _ _ hb, ho b hb]
theorem pool_fresh (E : EV) {A : Nat → Prop} {S : pS} {q : Nat} {e : va_E} (hD : va_D A (pool E S ++ [(q, e)])) : q ∉ S.L :=
  va_pl_fresh2 (X := []) (f := pf E S) (e := e) (by rw [List.nil_append]; exact hD)
theorem pool_setI (E : EV) {A : Nat → Prop} {S : pS} {a q k j : Nat} {v : Int32} (hD : va_D A (pool E S)) (ho : S.ok a k) (h7 : k < 7) (hq : (pool E S)[q]? = some (a, pf E S a)) (hf : (kf k)[j]? = some false) :
    (pool E S).set q (a, .inr (k, (pfl (kf k) 0 (S.I a) (S.P a)).set j (.int v))) = pool E (S.setI a j v) := by
  refine pool_put E hD ho.1 hq rfl ?_ (fun b hb => pf_ext E rfl rfl ?_ rfl)
  · rw [pf_obj E (S := S.setI a j v) (k := k) ho.2 h7, pfl_si _ _ _ _ _ _ hf, Nat.zero_add]
    show Sum.inr (k, pfl (kf k) 0 (va_up S.I a (va_up (S.I a) j v) a) (S.P a)) = _
    rw [va_up_self]
  · show va_up S.I a _ b = S.I b
    rw [va_up_ne _ _ hb]
theorem pool_setP (E : EV) {A : Nat → Prop} {S : pS} {a q k j : Nat} {v : Option Nat} (hD : va_D A (pool E S)) (ho : S.ok a k) (h7 : k < 7) (hq : (pool E S)[q]? = some (a, pf E S a)) (hf : (kf k)[j]? = some true) :
    (pool E S).set q (a, .inr (k, (pfl (kf k) 0 (S.I a) (S.P a)).set j (va_rf v))) = pool E (S.setP a j v) := by
  refine pool_put E hD ho.1 hq rfl ?_ (fun b hb => pf_ext E rfl rfl rfl ?_)
  · rw [pf_obj E (S := S.setP a j v) (k := k) ho.2 h7, pfl_sp _ _ _ _ _ _ hf, Nat.zero_add]
    show Sum.inr (k, pfl (kf k) 0 (S.I a) (va_up S.P a (va_up (S.P a) j v) a)) = _
    rw [va_up_self]
  · show va_up S.P a _ b = S.P b
    rw [va_up_ne _ _ hb]
theorem upd_up (f : Nat → Int32) (k : Nat) (v : Int32) : upd f k v = va_up f k v := by
  funext j
  unfold upd va_up
  by_cases h : j = k <;> simp [h]
theorem pool_arrI (E : EV) {A : Nat → Prop} {S : pS} {a q j : Nat} {v : Int32} (hD : va_D A (pool E S)) (ho : S.ok a 7) (hq : (pool E S)[q]? = some (a, pf E S a)) :
    (pool E S).set q (a, .inl (E.cI, S.n a, .inl (upd (S.I a) j v))) = pool E (S.setI a j v) := by
  refine pool_put E hD ho.1 hq rfl ?_ (fun b hb => pf_ext E rfl rfl ?_ rfl)
  · rw [pf_arr E (S := S.setI a j v) ho.2, upd_up]
    show Sum.inl (E.cI, S.n a, Sum.inl (va_up S.I a (va_up (S.I a) j v) a)) = _
    rw [va_up_self]
  · show va_up S.I a _ b = S.I b
    rw [va_up_ne _ _ hb]
theorem pool_rowP (E : EV) {A : Nat → Prop} {S : pS} {a q : Nat} {f : Nat → Option Nat} (hD : va_D A (pool E S)) (ho : S.ok a 8) (hq : (pool E S)[q]? = some (a, pf E S a)) :
    (pool E S).set q (a, .inl (E.cO, S.n a, .inr (.inr (.inr (.inr f))))) = pool E (S.rowP a f) := by
  refine pool_put E hD ho.1 hq rfl ?_ (fun b hb => pf_ext E rfl rfl rfl ?_)
  · rw [pf_row E (S := S.rowP a f) ho.2]
    show Sum.inl (E.cO, S.n a, Sum.inr (Sum.inr (Sum.inr (Sum.inr (va_up S.P a f a))))) = _
    rw [va_up_self]
  · show va_up S.P a _ b = S.P b
    rw [va_up_ne _ _ hb]
theorem pool_born (E : EV) {A : Nat → Prop} {S : pS} {a k n : Nat} {e : va_E} (ha : a ∉ S.L) (he : pf E (S.new a k n) a = e) : pool E S ++ [(a, e)] = pool E (S.new a k n) := by
  refine pool_new E ha rfl he (fun b hb => pf_ext E ?_ ?_ ?_ ?_)
  · exact va_up_ne _ _ hb
  · exact va_up_ne _ _ hb
  · exact va_up_ne _ _ hb
  · exact va_up_ne _ _ hb
end
section
/-! THE RULES: one for each kind of instruction that touches the pool, calls, entries, returns -/
abbrev kcls : List vw_C := [(RX0, TX0, 5), (RX1, TX1, 2), (RX2, TX2, 3), (RX3, TX3, 2), (RX4, TX4, 13), (RX5, TX5, 26), (RJx4a65c, TJx4a65c, 3)]
def ktys (E : EV) : List (ClassId × FieldType) := [(E.cI, .int), (E.cO, .object "java/lang/Object")]
def TBg : List Cond := lw_tbl.filter goodWord
def nestW : Cond → Bool
  | .fieldLinkNest _ _ _ _ _ _ => true
  | .methodLinkNest _ _ _ _ => true
  | .castable _ _ => true
  | _ => false
def NW (U : State) : Prop := ∀ w ∈ lw_tbl.filter nestW, va_Nw w U
theorem tb_in {w : Cond} (h : w ∈ lw_tbl) (hg : goodWord w = true) : w ∈ TBg := List.mem_filter.mpr ⟨h, hg⟩
theorem NW.warm {s U : State} (hW : s.WarmedH U.vm) (h : NW s) : NW U := by
  intro w hw
  have h1 := h w hw
  have h2 := (List.mem_filter.mp hw).2
  cases w <;> simp only [nestW] at h2 <;> first | exact absurd h2 (by decide) | exact h1.warmF hW | exact h1.warmM hW | exact h1.warmC hW | exact va_Nw.warmF hW h1 | exact va_Nw.warmM hW h1 | exact va_Nw.warmC hW h1
theorem NW.same {s U : State} (hv : s.vm = U.vm) (h : NW s) : NW U := by
  intro w hw
  have h1 := h w hw
  have h2 := (List.mem_filter.mp hw).2
  cases w <;> simp only [nestW] at h2 <;> first | exact absurd h2 (by decide) | exact va_Nw.same rfl hv h1
def ES (E : EV) (A : Nat → Prop) (U : State) (H : Heap) : Prop := va_Z "java/util/ArrayList" "DEFAULTCAPACITY_EMPTY_ELEMENTDATA" "[Ljava/lang/Object;" (.ref E.e0) A U H ∧ va_T (.object "java/lang/Object") E.e0 0 (fun _ => .null) A U H
def PW (E : EV) (S : pS) (sz : Nat) (U : State) : Prop := U.heap.size = sz ∧ va_P E.G kcls (pool E S) U.heap ∧ va_D (fun _ => True) (pool E S) ∧ va_K E.G kcls (ktys E) U ∧ NW U ∧ va_AO "java/lang/Object" U ∧ ES E (va_A (pool E S) sz) U U.heap
theorem pw_blind (E : EV) (S : pS) (sz : Nat) (av : List Value) : FrameBlind (va_Pc av (PW E S sz)) := by
  intro a U g mk q
  obtain ⟨q0, q1, qP, qD, qK, qN, qO, qZ, qT⟩ := q
  exact ⟨q0, q1, qP, qD, va_K.moved (u := U) (U := U.calling g mk a) (Vm.Alike.refl U.vm) qK, NW.same (s := U) (U := U.calling g mk a) rfl qN, va_AO.moved (u := U) (U := U.calling g mk a) (Vm.Alike.refl U.vm) qO, va_Z.moved (u := U) (U := U.calling g mk a) (Vm.Alike.refl U.vm) qZ, va_T.moved (u := U) (U := U.calling g mk a) (Vm.Alike.refl U.vm) qT⟩
def FX (p : Program) (s : State) (m : MethodId) (args : Array Value) (meth : Method) (c : Code) (cc : ByteArray) (nL : Nat) (own : String) (E : EV) (A : Nat → Prop) : Prop :=
  p.tables.exec = Jvm.exec ∧ c.code = cc ∧ c.maxLocals = nL ∧ s.vm.findClass own = some m.cls ∧ (∀ w ∈ TBg, w.before args s = true) ∧ va_K E.G kcls (ktys E) s ∧ NW s ∧ va_AO "java/lang/Object" s ∧ ES E A s s.heap ∧ (∀ q, s.heap.size ≤ q → A q) ∧ meth.locks = false
def WD (E : EV) (A : Nat → Prop) (s : State) (S : pS) (H : Heap) (locs : List Loc) : Prop := va_P E.G kcls (pool E S) H ∧ va_D A (pool E S) ∧ va_S A s.heap H locs
theorem WD.free {E : EV} {A : Nat → Prop} {s : State} {S : pS} {H : Heap} {locs : List Loc} (h : WD E A s S H locs) (hA : ∀ q, s.heap.size ≤ q → A q) : ∀ q, va_A (pool E S) H.size q → A q := by
  intro q hq
  rcases hq with ⟨k, e, hk⟩ | hq
  · exact h.2.1.2 k _ hk
  · exact hA q (Nat.le_trans h.2.2.1 hq)
def PB (E : EV) (A : Nat → Prop) (S : pS) (t : State) : Prop := va_P E.G kcls (pool E S) t.heap ∧ va_D A (pool E S)
def QI (E : EV) (post : Int32 → pS → Prop) : (Nat → Prop) → Array Value → State → Outcome → State → Prop := fun A => va_Qi post (PB E A) A
def QV (E : EV) (post : pS → Prop) : (Nat → Prop) → Array Value → State → Outcome → State → Prop := fun A => va_Qv post (PB E A) A
def QR (E : EV) (post : Nat → pS → Prop) : (Nat → Prop) → Array Value → State → Outcome → State → Prop := fun A => va_Qq (fun r S => ∃ q, r = some q ∧ post q S) (PB E A) A
/-- a contract over the pool -/
def CT (l : Launch) (E : EV) (y : MethodName) (cc : ByteArray) (mL : Nat) (ret : Option FieldType) (rm : Room) (Q : (Nat → Prop) → Array Value → State → Outcome → State → Prop) (av : List Value) (S : pS) : Prop :=
  ∀ sz, Met l y (.code y cc mL ret :: TBg) rm (va_Pc av (PW E S sz)) (Q (va_A (pool E S) sz)) rm.cells rm.slots (va_A (pool E S) sz)
theorem ct_intro {l : Launch} {E : EV} {y : MethodName} {cc : ByteArray} {mL : Nat} {ret : Option FieldType} {rm : Room} {Q : (Nat → Prop) → Array Value → State → Outcome → State → Prop} {av : List Value} {S : pS} (hy : plainFor y = true) (hlen : (lg_sl av).length ≤ mL)
    (body : ∀ (p : Program) (e : Env) (s : State) (m : MethodId) (below : List Frame) (meth : Method) (c : Code) (A : Nat → Prop) (ls : Array Slot), FX p s m av.toArray meth c cc mL y.cls E A → WD E A s S s.heap [] → meth.sig.returnType = ret → meth.name = y.name → lv_has ls mL (lv_args 0 av) →
      W p l e rm s m av.toArray below meth c s.heap [] 0 0 (MQ below (Q A) av.toArray s rm.cells rm.slots A) (F0 m 0 ls [])) : CT l E y cc mL ret rm Q av S := by
  intro sz
  refine va_MetF (cc := cc) (maxL := mL) (ret := ret) hy rfl ?_
  intro p e s m args below meth c s₁ B hml hv
  obtain ⟨rfl, hsz, hP, hD0, hK, hN, hO, hE⟩ := hv
  have hts := atoms_spec (ws := .code y cc mL ret :: TBg) B.pre
  subst hsz
  have hD := hD0.self (sz := s.heap.size)
  have hl := lv_entry av (n := mL) hlen
  rw [lg_entry_eq]
  exact body p e s m below meth c (va_A (pool E S) s.heap.size) _ ⟨B.exec, B.bytes, hml, findClass_of_methodNamed B.named, fun w h => hts w (List.mem_cons_of_mem _ h), hK, hN, hO, hE, fun q h => Or.inr h, B.notSynchronized⟩ ⟨hP, hD, va_S.rf⟩ B.returns (name_of_methodNamed B.named B.method).1 hl
/-- what is fixed of a kind of objects -/
def CB (k : Nat) (C : String) (T : u_T) (N : Nat) (ty : Nat → FieldType) : Prop := k < 7 ∧ kcls[k]? = some (C, T, N) ∧ (∀ w ∈ u_ws C T N, w ∈ TBg) ∧ (∀ j, j < N → parseFieldDescriptor (T j).2.2.1 = some (ty j)) ∧ (∀ a, a < N → ∀ b, b < N → a ≠ b → (T a).2.1 ≠ (T b).2.1) ∧ (kf k).length = N ∧ (∀ j, j < N → defaultValue (ty j) = vp_V (pfl (kf k) 0 (fun _ => 0) (fun _ => none)) j)
theorem pfl_len : ∀ (fl : List Bool) (o : Nat) (I : Nat → Int32) (P : Nat → Option Nat), (pfl fl o I P).length = fl.length
  | [], _, _, _ => rfl
  | true :: t, o, I, P => by simp only [pfl, List.length_cons, pfl_len t]
  | false :: t, o, I, P => by simp only [pfl, List.length_cons, pfl_len t]
section KP
variable {p : Program} {l : Launch} {e : Env} {R : Room} {s : State} {m : MethodId} {args : Array Value} {below : List Frame} {meth : Method} {c : Code} {H : Heap} {locs : List Loc} {cells slots : Nat} {Q : State → Prop}
variable {cc : ByteArray} {pc nL : Nat} {ls : Array Slot} {rest : List Value} {A : Nat → Prop} {E : EV} {S : pS} {own : String} {a k j : Nat} {C : String} {T : u_T} {N : Nat} {ty : Nat → FieldType} {ref host : String} {index : Nat}
theorem kp_geti (F : FX p s m args meth c cc nL own E A) (hW : WD E A s S H locs) (ho : S.ok a k) (hc : CB k C T N ty) (j : Nat) (hf : (kf k)[j]? = some false) (hlink : Cond.fieldLink own index ref (T j).2.1 (T j).2.2.1 ∈ TBg) (hsame : ∀ x, s.fieldFound? (T j).1 (T j).2.1 (T j).2.2.1 = some x → s.fieldFound? ref (T j).2.1 (T j).2.2.1 = some x) (hdg : decode cc pc = .ok (.getfield index, 3))
    (kk : W p l e R s m args below meth c H locs cells slots Q (F0 m (pc + 3) ls (.int (S.I a j) :: rest))) : W p l e R s m args below meth c H locs cells slots Q (F0 m pc ls (.ref a :: rest)) := by
  obtain ⟨hx, hb, -, hown, hts, hK, -⟩ := F
  obtain ⟨h7, hcl, hin, -, -, hlen, -⟩ := hc
  obtain ⟨q, hq⟩ := pool_get E ho.1
  rw [pf_obj E ho.2 h7] at hq
  have hj : j < N := by rw [← hlen]; exact (List.getElem?_eq_some_iff.mp hf).1
  exact va_get hx hb hts hin hown hK hW.1 q hq hcl j hj (hts _ hlink) hsame (by rw [pfl_i _ _ _ _ _ hf, Nat.zero_add]) hdg kk
theorem kp_getp (F : FX p s m args meth c cc nL own E A) (hW : WD E A s S H locs) (ho : S.ok a k) (hc : CB k C T N ty) (j : Nat) (hf : (kf k)[j]? = some true) (hlink : Cond.fieldLink own index ref (T j).2.1 (T j).2.2.1 ∈ TBg) (hsame : ∀ x, s.fieldFound? (T j).1 (T j).2.1 (T j).2.2.1 = some x → s.fieldFound? ref (T j).2.1 (T j).2.2.1 = some x) (hdg : decode cc pc = .ok (.getfield index, 3)) {b : Nat} (hb9 : S.P a j = some b)
    (kk : W p l e R s m args below meth c H locs cells slots Q (F0 m (pc + 3) ls (.ref b :: rest))) : W p l e R s m args below meth c H locs cells slots Q (F0 m pc ls (.ref a :: rest)) := by
  obtain ⟨hx, hb, -, hown, hts, hK, -⟩ := F
  obtain ⟨h7, hcl, hin, -, -, hlen, -⟩ := hc
  obtain ⟨q, hq⟩ := pool_get E ho.1
  rw [pf_obj E ho.2 h7] at hq
  have hj : j < N := by rw [← hlen]; exact (List.getElem?_eq_some_iff.mp hf).1
  exact va_get hx hb hts hin hown hK hW.1 q hq hcl j hj (hts _ hlink) hsame (v := .ref b) (by rw [pfl_p _ _ _ _ _ hf, Nat.zero_add, hb9]; rfl) hdg kk
theorem nw_at {w : Cond} (h : NW s) (hw : w ∈ lw_tbl) (hn : nestW w = true) (ho : w.onTables = true) : w.before args s = true := va_Nw.use ho (h w (List.mem_filter.mpr ⟨hw, hn⟩))
theorem kp_getiN (F : FX p s m args meth c cc nL own E A) (hW : WD E A s S H locs) (ho : S.ok a k) (hc : CB k C T N ty) (j : Nat) (hf : (kf k)[j]? = some false) (hlink : Cond.fieldLinkNest own index ref (T j).2.1 (T j).2.2.1 host ∈ lw_tbl) (hsame : ∀ x, s.fieldFound? (T j).1 (T j).2.1 (T j).2.2.1 = some x → s.fieldFound? ref (T j).2.1 (T j).2.2.1 = some x) (hdg : decode cc pc = .ok (.getfield index, 3))
    (kk : W p l e R s m args below meth c H locs cells slots Q (F0 m (pc + 3) ls (.int (S.I a j) :: rest))) : W p l e R s m args below meth c H locs cells slots Q (F0 m pc ls (.ref a :: rest)) := by
  obtain ⟨hx, hb, -, hown, hts, hK, hN, -⟩ := F
  obtain ⟨h7, hcl, hin, -, -, hlen, -⟩ := hc
  obtain ⟨q, hq⟩ := pool_get E ho.1
  rw [pf_obj E ho.2 h7] at hq
  have hj : j < N := by rw [← hlen]; exact (List.getElem?_eq_some_iff.mp hf).1
  exact va_getN hx hb hts hin hown hK hW.1 q hq hcl j hj (nw_at hN hlink rfl rfl) hsame (by rw [pfl_i _ _ _ _ _ hf, Nat.zero_add]) hdg kk
theorem kp_getpN (F : FX p s m args meth c cc nL own E A) (hW : WD E A s S H locs) (ho : S.ok a k) (hc : CB k C T N ty) (j : Nat) (hf : (kf k)[j]? = some true) (hlink : Cond.fieldLinkNest own index ref (T j).2.1 (T j).2.2.1 host ∈ lw_tbl) (hsame : ∀ x, s.fieldFound? (T j).1 (T j).2.1 (T j).2.2.1 = some x → s.fieldFound? ref (T j).2.1 (T j).2.2.1 = some x) (hdg : decode cc pc = .ok (.getfield index, 3)) {b : Nat} (hb9 : S.P a j = some b)
    (kk : W p l e R s m args below meth c H locs cells slots Q (F0 m (pc + 3) ls (.ref b :: rest))) : W p l e R s m args below meth c H locs cells slots Q (F0 m pc ls (.ref a :: rest)) := by
  obtain ⟨hx, hb, -, hown, hts, hK, hN, -⟩ := F
  obtain ⟨h7, hcl, hin, -, -, hlen, -⟩ := hc
  obtain ⟨q, hq⟩ := pool_get E ho.1
  rw [pf_obj E ho.2 h7] at hq
  have hj : j < N := by rw [← hlen]; exact (List.getElem?_eq_some_iff.mp hf).1
  exact va_getN hx hb hts hin hown hK hW.1 q hq hcl j hj (nw_at hN hlink rfl rfl) hsame (v := .ref b) (by rw [pfl_p _ _ _ _ _ hf, Nat.zero_add, hb9]; rfl) hdg kk
theorem kp_puti (F : FX p s m args meth c cc nL own E A) (hW : WD E A s S H locs) (ho : S.ok a k) (hc : CB k C T N ty) (j : Nat) (hf : (kf k)[j]? = some false) (hlink : Cond.fieldLink own index ref (T j).2.1 (T j).2.2.1 ∈ TBg) (hsame : ∀ x, s.fieldFound? (T j).1 (T j).2.1 (T j).2.2.1 = some x → s.fieldFound? ref (T j).2.1 (T j).2.2.1 = some x) (hfin : (T j).2.2.2 = false) (hti : ty j = .int) (hdg : decode cc pc = .ok (.putfield index, 3)) {v : Int32}
    (kk : ∀ (H1 : Heap) (locs1 : List Loc), WD E A s (S.setI a j v) H1 locs1 → W p l e R s m args below meth c H1 locs1 cells slots Q (F0 m (pc + 3) ls rest)) : W p l e R s m args below meth c H locs cells slots Q (F0 m pc ls (.int v :: .ref a :: rest)) := by
  obtain ⟨hx, hb, -, hown, hts, hK, -⟩ := F
  obtain ⟨h7, hcl, hin, hty, hnm, hlen, -⟩ := hc
  obtain ⟨hP, hD, hS⟩ := hW
  obtain ⟨q, hq⟩ := pool_get E ho.1
  have hq' := hq
  rw [pf_obj E ho.2 h7] at hq
  have hj : j < N := by rw [← hlen]; exact (List.getElem?_eq_some_iff.mp hf).1
  have hd := hty j hj
  rw [hti] at hd
  refine va_put (v := .int v) hx hb hts hin ty hty hnm hown hK hP hD hS q hq hcl j hj (hts _ hlink) hsame hfin hd rfl rfl (by rw [pfl_len, hlen]; exact hj) hdg (fun H1 locs1 h1 h2 h3 => ?_)
  rw [pool_setI E hD ho h7 hq' hf] at h1 h2
  exact kk H1 locs1 ⟨h1, h2, h3⟩
theorem kp_putiN (F : FX p s m args meth c cc nL own E A) (hW : WD E A s S H locs) (ho : S.ok a k) (hc : CB k C T N ty) (j : Nat) (hf : (kf k)[j]? = some false) (hlink : Cond.fieldLinkNest own index ref (T j).2.1 (T j).2.2.1 host ∈ lw_tbl) (hsame : ∀ x, s.fieldFound? (T j).1 (T j).2.1 (T j).2.2.1 = some x → s.fieldFound? ref (T j).2.1 (T j).2.2.1 = some x) (hfin : (T j).2.2.2 = false) (hti : ty j = .int) (hdg : decode cc pc = .ok (.putfield index, 3)) {v : Int32}
    (kk : ∀ (H1 : Heap) (locs1 : List Loc), WD E A s (S.setI a j v) H1 locs1 → W p l e R s m args below meth c H1 locs1 cells slots Q (F0 m (pc + 3) ls rest)) : W p l e R s m args below meth c H locs cells slots Q (F0 m pc ls (.int v :: .ref a :: rest)) := by
  obtain ⟨hx, hb, -, hown, hts, hK, hN, -⟩ := F
  obtain ⟨h7, hcl, hin, hty, hnm, hlen, -⟩ := hc
  obtain ⟨hP, hD, hS⟩ := hW
  obtain ⟨q, hq⟩ := pool_get E ho.1
  have hq' := hq
  rw [pf_obj E ho.2 h7] at hq
  have hj : j < N := by rw [← hlen]; exact (List.getElem?_eq_some_iff.mp hf).1
  have hd := hty j hj
  rw [hti] at hd
  refine va_putN (v := .int v) hx hb hts hin ty hty hnm hown hK hP hD hS q hq hcl j hj (nw_at hN hlink rfl rfl) hsame hfin hd rfl rfl (by rw [pfl_len, hlen]; exact hj) hdg (fun H1 locs1 h1 h2 h3 => ?_)
  rw [pool_setI E hD ho h7 hq' hf] at h1 h2
  exact kk H1 locs1 ⟨h1, h2, h3⟩
theorem kp_putiF (F : FX p s m args meth c cc nL own E A) (hW : WD E A s S H locs) (ho : S.ok a k) (hc : CB k C T N ty) (j : Nat) (hf : (kf k)[j]? = some false) (hlink : Cond.fieldLink own index ref (T j).2.1 (T j).2.2.1 ∈ TBg) (hsame : ∀ x, s.fieldFound? (T j).1 (T j).2.1 (T j).2.2.1 = some x → s.fieldFound? ref (T j).2.1 (T j).2.2.1 = some x) (hfin : (T j).2.2.2 = true) (hin2 : meth.name = "<init>") (hdecl : (T j).1 = own) (hti : ty j = .int) (hdg : decode cc pc = .ok (.putfield index, 3)) {v : Int32}
    (kk : ∀ (H1 : Heap) (locs1 : List Loc), WD E A s (S.setI a j v) H1 locs1 → W p l e R s m args below meth c H1 locs1 cells slots Q (F0 m (pc + 3) ls rest)) : W p l e R s m args below meth c H locs cells slots Q (F0 m pc ls (.int v :: .ref a :: rest)) := by
  obtain ⟨hx, hb, -, hown, hts, hK, -⟩ := F
  obtain ⟨h7, hcl, hin, hty, hnm, hlen, -⟩ := hc
  obtain ⟨hP, hD, hS⟩ := hW
  obtain ⟨q, hq⟩ := pool_get E ho.1
  have hq' := hq
  rw [pf_obj E ho.2 h7] at hq
  have hj : j < N := by rw [← hlen]; exact (List.getElem?_eq_some_iff.mp hf).1
  have hd := hty j hj
  rw [hti] at hd
  refine va_putF (v := .int v) hx hb hts hin ty hty hnm hown hK hP hD hS q hq hcl j hj (hts _ hlink) hsame hfin hin2 hdecl hd rfl rfl (by rw [pfl_len, hlen]; exact hj) hdg (fun H1 locs1 h1 h2 h3 => ?_)
  rw [pool_setI E hD ho h7 hq' hf] at h1 h2
  exact kk H1 locs1 ⟨h1, h2, h3⟩
def isRefTy (t : FieldType) : Prop := (∃ n, t = .object n) ∨ ∃ u, t = .array u
theorem kp_putp (F : FX p s m args meth c cc nL own E A) (hW : WD E A s S H locs) (ho : S.ok a k) (hc : CB k C T N ty) (j : Nat) (hf : (kf k)[j]? = some true) (hlink : Cond.fieldLink own index ref (T j).2.1 (T j).2.2.1 ∈ TBg) (hsame : ∀ x, s.fieldFound? (T j).1 (T j).2.1 (T j).2.2.1 = some x → s.fieldFound? ref (T j).2.1 (T j).2.2.1 = some x) (hfin : (T j).2.2.2 = false) (hti : isRefTy (ty j)) (hdg : decode cc pc = .ok (.putfield index, 3)) {v : Nat}
    (kk : ∀ (H1 : Heap) (locs1 : List Loc), WD E A s (S.setP a j (some v)) H1 locs1 → W p l e R s m args below meth c H1 locs1 cells slots Q (F0 m (pc + 3) ls rest)) : W p l e R s m args below meth c H locs cells slots Q (F0 m pc ls (.ref v :: .ref a :: rest)) := by
  obtain ⟨hx, hb, -, hown, hts, hK, -⟩ := F
  obtain ⟨h7, hcl, hin, hty, hnm, hlen, -⟩ := hc
  obtain ⟨hP, hD, hS⟩ := hW
  obtain ⟨q, hq⟩ := pool_get E ho.1
  have hq' := hq
  rw [pf_obj E ho.2 h7] at hq
  have hj : j < N := by rw [← hlen]; exact (List.getElem?_eq_some_iff.mp hf).1
  have hd := hty j hj
  have hn : narrow (ty j) (.ref v) = .ref v := by rcases hti with ⟨n, h⟩ | ⟨n, h⟩ <;> rw [h] <;> rfl
  have hft : fits (ty j) (.ref v) = true := by rcases hti with ⟨n, h⟩ | ⟨n, h⟩ <;> rw [h] <;> rfl
  refine va_put (v := .ref v) hx hb hts hin ty hty hnm hown hK hP hD hS q hq hcl j hj (hts _ hlink) hsame hfin hd hn hft (by rw [pfl_len, hlen]; exact hj) hdg (fun H1 locs1 h1 h2 h3 => ?_)
  rw [show (.ref v : Value) = va_rf (some v) from rfl, pool_setP E hD ho h7 hq' hf] at h1 h2
  exact kk H1 locs1 ⟨h1, h2, h3⟩
theorem kp_putpF (F : FX p s m args meth c cc nL own E A) (hW : WD E A s S H locs) (ho : S.ok a k) (hc : CB k C T N ty) (j : Nat) (hf : (kf k)[j]? = some true) (hlink : Cond.fieldLink own index ref (T j).2.1 (T j).2.2.1 ∈ TBg) (hsame : ∀ x, s.fieldFound? (T j).1 (T j).2.1 (T j).2.2.1 = some x → s.fieldFound? ref (T j).2.1 (T j).2.2.1 = some x) (hfin : (T j).2.2.2 = true) (hin2 : meth.name = "<init>") (hdecl : (T j).1 = own) (hti : isRefTy (ty j)) (hdg : decode cc pc = .ok (.putfield index, 3)) {v : Nat}
    (kk : ∀ (H1 : Heap) (locs1 : List Loc), WD E A s (S.setP a j (some v)) H1 locs1 → W p l e R s m args below meth c H1 locs1 cells slots Q (F0 m (pc + 3) ls rest)) : W p l e R s m args below meth c H locs cells slots Q (F0 m pc ls (.ref v :: .ref a :: rest)) := by
  obtain ⟨hx, hb, -, hown, hts, hK, -⟩ := F
  obtain ⟨h7, hcl, hin, hty, hnm, hlen, -⟩ := hc
  obtain ⟨hP, hD, hS⟩ := hW
  obtain ⟨q, hq⟩ := pool_get E ho.1
  have hq' := hq
  rw [pf_obj E ho.2 h7] at hq
  have hj : j < N := by rw [← hlen]; exact (List.getElem?_eq_some_iff.mp hf).1
  have hd := hty j hj
  have hn : narrow (ty j) (.ref v) = .ref v := by rcases hti with ⟨n, h⟩ | ⟨n, h⟩ <;> rw [h] <;> rfl
  have hft : fits (ty j) (.ref v) = true := by rcases hti with ⟨n, h⟩ | ⟨n, h⟩ <;> rw [h] <;> rfl
  refine va_putF (v := .ref v) hx hb hts hin ty hty hnm hown hK hP hD hS q hq hcl j hj (hts _ hlink) hsame hfin hin2 hdecl hd hn hft (by rw [pfl_len, hlen]; exact hj) hdg (fun H1 locs1 h1 h2 h3 => ?_)
  rw [show (.ref v : Value) = va_rf (some v) from rfl, pool_setP E hD ho h7 hq' hf] at h1 h2
  exact kk H1 locs1 ⟨h1, h2, h3⟩
-- arrays
theorem kp_iald (F : FX p s m args meth c cc nL own E A) (hW : WD E A s S H locs) (ho : S.ok a 7) {i : Int32} (hin : vp_in i (S.n a)) (hdg : decode cc pc = .ok (.iaload, 1))
    (kk : W p l e R s m args below meth c H locs cells slots Q (F0 m (pc + 1) ls (.int (S.I a i.toNatClampNeg) :: rest))) : W p l e R s m args below meth c H locs cells slots Q (F0 m pc ls (.int i :: .ref a :: rest)) := by
  obtain ⟨hx, hb, -, hown, hts, hK, -⟩ := F
  obtain ⟨q, hq⟩ := pool_get E ho.1
  rw [pf_arr E ho.2] at hq
  exact va_iald hx hb hK hW.1 q 0 hq rfl hin hdg kk
theorem kp_iast (F : FX p s m args meth c cc nL own E A) (hW : WD E A s S H locs) (ho : S.ok a 7) {i x : Int32} (hin : vp_in i (S.n a)) (hdg : decode cc pc = .ok (.iastore, 1))
    (kk : ∀ (H1 : Heap) (locs1 : List Loc), WD E A s (S.setI a i.toNatClampNeg x) H1 locs1 → W p l e R s m args below meth c H1 locs1 cells slots Q (F0 m (pc + 1) ls rest)) : W p l e R s m args below meth c H locs cells slots Q (F0 m pc ls (.int x :: .int i :: .ref a :: rest)) := by
  obtain ⟨hx, hb, -, hown, hts, hK, -⟩ := F
  obtain ⟨hP, hD, hS⟩ := hW
  obtain ⟨q, hq⟩ := pool_get E ho.1
  have hq' := hq
  rw [pf_arr E ho.2] at hq
  refine va_iast hx hb hK hP hD hS q 0 hq rfl hin hdg (fun H1 locs1 h1 h2 h3 => ?_)
  rw [pool_arrI E hD ho hq'] at h1 h2
  exact kk H1 locs1 ⟨h1, h2, h3⟩
theorem kp_ilen (F : FX p s m args meth c cc nL own E A) (hW : WD E A s S H locs) (ho : S.ok a 7) (hdg : decode cc pc = .ok (.arraylength, 1))
    (kk : W p l e R s m args below meth c H locs cells slots Q (F0 m (pc + 1) ls (.int (nI (S.n a)) :: rest))) : W p l e R s m args below meth c H locs cells slots Q (F0 m pc ls (.ref a :: rest)) := by
  obtain ⟨hx, hb, -, hown, hts, hK, -⟩ := F
  obtain ⟨q, hq⟩ := pool_get E ho.1
  rw [pf_arr E ho.2] at hq
  exact va_alen hx hb hK hW.1 q 0 hq (ty := .int) rfl rfl hdg kk
theorem kp_rlen (F : FX p s m args meth c cc nL own E A) (hW : WD E A s S H locs) (ho : S.ok a 8) (hdg : decode cc pc = .ok (.arraylength, 1))
    (kk : W p l e R s m args below meth c H locs cells slots Q (F0 m (pc + 1) ls (.int (nI (S.n a)) :: rest))) : W p l e R s m args below meth c H locs cells slots Q (F0 m pc ls (.ref a :: rest)) := by
  obtain ⟨hx, hb, -, hown, hts, hK, -⟩ := F
  obtain ⟨q, hq⟩ := pool_get E ho.1
  rw [pf_row E ho.2] at hq
  exact va_alen hx hb hK hW.1 q 1 hq (ty := .object "java/lang/Object") rfl rfl hdg kk
theorem kp_elen (F : FX p s m args meth c cc nL own E A) (hW : WD E A s S H locs) (ha : a = E.e0) (hdg : decode cc pc = .ok (.arraylength, 1))
    (kk : W p l e R s m args below meth c H locs cells slots Q (F0 m (pc + 1) ls (.int 0 :: rest))) : W p l e R s m args below meth c H locs cells slots Q (F0 m pc ls (.ref a :: rest)) := by
  obtain ⟨hx, hb, -, hown, hts, hK, -, -, hE, -⟩ := F
  subst ha
  exact va_tlen hx hb hE.2 hW.2.2 rfl hdg kk
theorem kp_rald (F : FX p s m args meth c cc nL own E A) (hW : WD E A s S H locs) (ho : S.ok a 8) {i : Int32} (hin : vp_in i (S.n a)) (hdg : decode cc pc = .ok (.aaload, 1)) {b : Nat} (hb9 : S.P a i.toNatClampNeg = some b)
    (kk : W p l e R s m args below meth c H locs cells slots Q (F0 m (pc + 1) ls (.ref b :: rest))) : W p l e R s m args below meth c H locs cells slots Q (F0 m pc ls (.int i :: .ref a :: rest)) := by
  obtain ⟨hx, hb, -, hown, hts, hK, -⟩ := F
  obtain ⟨q, hq⟩ := pool_get E ho.1
  rw [pf_row E ho.2] at hq
  refine va_aldq hx hb hK hW.1 q 1 hq (C := "java/lang/Object") rfl hin hdg ?_
  rw [hb9]
  exact kk
theorem kp_rast (F : FX p s m args meth c cc nL own E A) (hW : WD E A s S H locs) (ho : S.ok a 8) {b : Nat} (hob : S.ok b k) (hc : CB k C T N ty) (hca : Cond.castable C "java/lang/Object" ∈ lw_tbl) {i : Int32} (hin : vp_in i (S.n a)) (hdg : decode cc pc = .ok (.aastore, 1))
    (kk : ∀ (H1 : Heap) (locs1 : List Loc), WD E A s (S.setP a i.toNatClampNeg (some b)) H1 locs1 → W p l e R s m args below meth c H1 locs1 cells slots Q (F0 m (pc + 1) ls rest)) : W p l e R s m args below meth c H locs cells slots Q (F0 m pc ls (.ref b :: .int i :: .ref a :: rest)) := by
  obtain ⟨hx, hb, -, hown, hts, hK, hN, -⟩ := F
  obtain ⟨hP, hD, hS⟩ := hW
  obtain ⟨h7, hcl, -⟩ := hc
  obtain ⟨q, hq⟩ := pool_get E ho.1
  have hq' := hq
  rw [pf_row E ho.2] at hq
  obtain ⟨qb, hqb⟩ := pool_get E hob.1
  rw [pf_obj E hob.2 h7] at hqb
  refine va_astqO hx hb hK hP hD hS q 1 qb k hq (E := "java/lang/Object") rfl (r := (C, T, N)) (hN _ (List.mem_filter.mpr ⟨hca, rfl⟩)) hqb hcl hin hdg (fun H1 locs1 h1 h2 h3 => ?_)
  rw [pool_rowP E hD ho hq'] at h1 h2
  exact kk H1 locs1 ⟨h1, h2, h3⟩
theorem kp_rastN (F : FX p s m args meth c cc nL own E A) (hW : WD E A s S H locs) (ho : S.ok a 8) {i : Int32} (hin : vp_in i (S.n a)) (hdg : decode cc pc = .ok (.aastore, 1))
    (kk : ∀ (H1 : Heap) (locs1 : List Loc), WD E A s (S.setP a i.toNatClampNeg none) H1 locs1 → W p l e R s m args below meth c H1 locs1 cells slots Q (F0 m (pc + 1) ls rest)) : W p l e R s m args below meth c H locs cells slots Q (F0 m pc ls (.null :: .int i :: .ref a :: rest)) := by
  obtain ⟨hx, hb, -, hown, hts, hK, hN, -⟩ := F
  obtain ⟨hP, hD, hS⟩ := hW
  obtain ⟨q, hq⟩ := pool_get E ho.1
  have hq' := hq
  rw [pf_row E ho.2] at hq
  refine va_astqN hx hb hK hP hD hS q 1 hq (C := "java/lang/Object") rfl hin hdg (fun H1 locs1 h1 h2 h3 => ?_)
  rw [pool_rowP E hD ho hq'] at h1 h2
  exact kk H1 locs1 ⟨h1, h2, h3⟩
-- what is made
theorem kp_new (F : FX p s m args meth c cc nL own E A) (hW : WD E A s S H locs) (hc : CB k C T N ty) (hcl : Cond.classLink own index C ∈ TBg) (hinst : Cond.instantiable C N ∈ TBg) (hini : Cond.initialized C ∈ TBg) (hdg : decode cc pc = .ok (.new index, 3)) {c1 s1 : Nat} (hc1 : cells + 1 ≤ c1) (hs1 : slots + N ≤ s1) (hcr : c1 ≤ R.cells) (hsr : s1 ≤ R.slots)
    (kk : ∀ (q : Nat) (H1 : Heap), q ∉ S.L → WD E A s (S.new q k 0) H1 locs → W p l e R s m args below meth c H1 locs c1 s1 Q (F0 m (pc + 3) ls (.ref q :: rest))) : W p l e R s m args below meth c H locs cells slots Q (F0 m pc ls rest) := by
  obtain ⟨hx, hb, -, hown, hts, hK, hN, -, -, hA, -⟩ := F
  obtain ⟨hP, hD, hS⟩ := hW
  obtain ⟨h7, hk, hin, hty, hnm, hlen, hdef⟩ := hc
  refine va_new (fs := pfl (kf k) 0 (fun _ => 0) (fun _ => none)) hx hb hts hin ty hty hown (hts _ hcl) (hts _ hinst) (hts _ hini) hK hP hD hS hA hk hdef (Nat.le_trans hc1 hcr) (Nat.le_trans hs1 hsr) hdg (fun q H1 h1 h2 h3 => ?_)
  have hq := pool_fresh E h2
  rw [pool_born E (A := A) (n := 0) hq (by
    rw [pf_obj E (S := S.new q k 0) (k := k) (va_up_self _ _ _) h7]
    show Sum.inr (k, pfl (kf k) 0 (va_up S.I q (fun _ => 0) q) (va_up S.P q (fun _ => none) q)) = _
    rw [va_up_self, va_up_self])] at h1 h2
  exact W.widen hc1 hs1 (kk q H1 hq ⟨h1, h2, h3⟩)
theorem kp_newi (F : FX p s m args meth c cc nL own E A) (hW : WD E A s S H locs) (harr : Cond.arrayClass (newarray.typeOf .int) ∈ TBg) {n : Int32} (hn : ¬ n < 0) (hb9 : n.toNatClampNeg ≤ 1000) (hdg : decode cc pc = .ok (.newarray .int, 2)) {c1 s1 : Nat} (hc1 : cells + 1 ≤ c1) (hs1 : slots + n.toNatClampNeg ≤ s1) (hcr : c1 ≤ R.cells) (hsr : s1 ≤ R.slots)
    (kk : ∀ (q : Nat) (H1 : Heap), q ∉ S.L → WD E A s (S.new q 7 n.toNatClampNeg) H1 locs → W p l e R s m args below meth c H1 locs c1 s1 Q (F0 m (pc + 2) ls (.ref q :: rest))) : W p l e R s m args below meth c H locs cells slots Q (F0 m pc ls (.int n :: rest)) := by
  obtain ⟨hx, hb, -, hown, hts, hK, hN, -, -, hA, -⟩ := F
  obtain ⟨hP, hD, hS⟩ := hW
  refine va_newa (atype := .int) (ty := .int) (a0 := (n.toNatClampNeg, .inl (fun _ => 0))) hx hb (hts _ harr) rfl hK hP hD hS hA (fun cA => rfl) hn rfl (by
    have : componentBytes .int = 4 := rfl
    rw [this]; omega) (Nat.le_trans hc1 hcr) (Nat.le_trans hs1 hsr) hdg (fun q cA H1 h0 h1 h2 h3 => ?_)
  have hcA : cA = E.cI := by
    have e1 := (h0.2 2 (cA, .int) rfl).2
    have e2 := (hK.2 0 (E.cI, .int) rfl).2
    exact Option.some.inj (e1.symm.trans e2)
  subst hcA
  have hq := pool_fresh E h2
  rw [pool_born E (A := A) (k := 7) (n := n.toNatClampNeg) hq (by
    rw [pf_arr E (S := S.new q 7 n.toNatClampNeg) (va_up_self _ _ _)]
    show Sum.inl (E.cI, va_up S.n q n.toNatClampNeg q, Sum.inl (va_up S.I q (fun _ => 0) q)) = _
    rw [va_up_self, va_up_self])] at h1 h2
  exact W.widen hc1 hs1 (kk q H1 hq ⟨h1, h2, h3⟩)
theorem kp_newr (F : FX p s m args meth c cc nL own E A) (hW : WD E A s S H locs) (hcl : Cond.classLink own index "java/lang/Object" ∈ TBg) {n : Int32} (hn : ¬ n < 0) (hb9 : n.toNatClampNeg ≤ 1000) (hdg : decode cc pc = .ok (.anewarray index, 3)) {c1 s1 : Nat} (hc1 : cells + 1 ≤ c1) (hs1 : slots + n.toNatClampNeg ≤ s1) (hcr : c1 ≤ R.cells) (hsr : s1 ≤ R.slots)
    (kk : ∀ (q : Nat) (H1 : Heap), q ∉ S.L → WD E A s (S.new q 8 n.toNatClampNeg) H1 locs → W p l e R s m args below meth c H1 locs c1 s1 Q (F0 m (pc + 3) ls (.ref q :: rest))) : W p l e R s m args below meth c H locs cells slots Q (F0 m pc ls (.int n :: rest)) := by
  obtain ⟨hx, hb, -, hown, hts, hK, hN, hO, -, hA, -⟩ := F
  obtain ⟨hP, hD, hS⟩ := hW
  refine va_newq (C := "java/lang/Object") hx hb hown (hts _ hcl) hO hK hP hD hS hA hn rfl (by omega) (Nat.le_trans hc1 hcr) (Nat.le_trans hs1 hsr) hdg (fun q cA H1 h0 h1 h2 h3 => ?_)
  have hcA : cA = E.cO := by
    obtain ⟨-, -, -, -, -, e1⟩ := (h0.2 2 (cA, .object "java/lang/Object") rfl).2
    obtain ⟨-, -, -, -, -, e2⟩ := (hK.2 1 (E.cO, .object "java/lang/Object") rfl).2
    exact Option.some.inj (e1.symm.trans e2)
  subst hcA
  have hq := pool_fresh E h2
  rw [pool_born E (A := A) (k := 8) (n := n.toNatClampNeg) hq (by
    rw [pf_row E (S := S.new q 8 n.toNatClampNeg) (va_up_self _ _ _)]
    show Sum.inl (E.cO, va_up S.n q n.toNatClampNeg q, Sum.inr (Sum.inr (Sum.inr (Sum.inr (va_up S.P q (fun _ => none) q))))) = _
    rw [va_up_self, va_up_self])] at h1 h2
  exact W.widen hc1 hs1 (kk q H1 hq ⟨h1, h2, h3⟩)
end KP
end
section
/-! CALLS, RETURNS and the rest -/
def notMH (y : MethodName) (n : Nat) : Prop := y.cls ≠ "java/lang/invoke/MethodHandle" ∧ y.cls ≠ "java/lang/invoke/VarHandle" ∧ (parseMethodDescriptor y.desc).map (fun d => d.parameters.length) = some n
/-- what is fixed of a callee: virtual, static, constructor -/
def CFV (y : MethodName) (cb : ByteArray) (mL : Nat) (ret : Option FieldType) (n : Nat) : Prop := Cond.instanceMethod y ∈ TBg ∧ Cond.selects y.cls y y ∈ TBg ∧ Cond.initialized y.cls ∈ TBg ∧ Cond.code y cb mL ret ∈ TBg ∧ notMH y n
def CFS (y : MethodName) (cb : ByteArray) (mL : Nat) (ret : Option FieldType) (n : Nat) : Prop := Cond.static y ∈ TBg ∧ Cond.initialized y.cls ∈ TBg ∧ Cond.code y cb mL ret ∈ TBg ∧ notMH y n
def CFI (y : MethodName) (cb : ByteArray) (mL : Nat) (n : Nat) : Prop := Cond.instanceMethod y ∈ TBg ∧ Cond.initialized y.cls ∈ TBg ∧ Cond.code y cb mL none ∈ TBg ∧ y.name = "<init>" ∧ notMH y n
theorem tb_good {w : Cond} (h : w ∈ TBg) : w ∈ TBg ∧ ((w.onTables && w.keeps) = true ∨ ∃ ty, w = .arrayClass ty) := ⟨h, good_of_word (List.mem_filter.mp h).2⟩
theorem tb_goodIn {w : Cond} (h : w ∈ TBg) : GoodIn TBg (w :: TBg) := by
  intro v hv
  rcases List.mem_cons.mp hv with rfl | hv
  · exact tb_good h
  · exact tb_good hv
section KC
variable {p : Program} {l : Launch} {e : Env} {R : Room} {s : State} {m : MethodId} {args : Array Value} {below : List Frame} {meth : Method} {c : Code} {H : Heap} {locs : List Loc} {cells slots : Nat} {Q : State → Prop}
variable {cc : ByteArray} {pc nL : Nat} {ls : Array Slot} {rest : List Value} {A : Nat → Prop} {E : EV} {S : pS} {own : String} {a k j : Nat} {C : String} {T : u_T} {N : Nat} {ty : Nat → FieldType} {ref host : String} {index : Nat}
variable {y : MethodName} {cb : ByteArray} {mL n : Nat} {ret : Option FieldType} {rm : Room} {QQ : (Nat → Prop) → Array Value → State → Outcome → State → Prop} {As : List Value} {b : Nat}
theorem kp_pw (F : FX p s m args meth c cc nL own E A) (hW : WD E A s S H locs) {U : State} (hU : U.heap = H) (hWm : s.WarmedH U.vm) : PW E S H.size U := by
  obtain ⟨hx, hb, hml, hown, hts, hK, hN, hO, hE, hA, -⟩ := F
  have hfr := hW.free hA
  obtain ⟨hP, hD, hS⟩ := hW
  refine ⟨by rw [hU], by rw [hU]; exact hP, hD.weaken (fun _ _ _ _ => trivial), va_K.moved hWm.alike hK, hN.warm hWm, va_AO.moved hWm.alike hO, ?_, ?_⟩
  · rw [hU]; exact va_Z.moved hWm.alike ((hE.1.kept (H1 := H) hS.2.1).narrow hfr)
  · rw [hU]; exact va_T.moved hWm.alike ((hE.2.kept (H1 := H) hS.2.1).narrow hfr)
theorem kp_recv (F : FX p s m args meth c cc nL own E A) (hW : WD E A s S H locs) (ho : S.ok b k) (hc : CB k C T N ty) : ∃ cell : Cell, H[b]? = some cell ∧ cell.vm.isStatics = false ∧ s.vm.findClass C = some cell.cls := by
  obtain ⟨hx, hb, hml, hown, hts, hK, -⟩ := F
  obtain ⟨h7, hcl, -⟩ := hc
  obtain ⟨q, hq⟩ := pool_get E ho.1
  rw [pf_obj E ho.2 h7] at hq
  exact va_recv hK hW.1 hcl hq
theorem kp_runV (F : FX p s m args meth c cc nL own E A) (hW : WD E A s S H locs) (hM : CT l E y cb mL ret rm QQ (.ref b :: As) S) (ho : S.ok b k) (hc : CB k C T N ty) (hyc : y.cls = C) (hf : CFV y cb mL ret n) (hlink : Cond.methodLink own index y ∈ TBg) (hn : As.length = n) (hls : ls.size = nL) (hR : rm.frames + 1 ≤ R.frames ∧ 8 + (mL + 11) + rm.locals ≤ R.locals) (hrest : (rest.map fun v => v.category).sum ≤ 8) (hdg : decode cc pc = .ok (.invokevirtual index, 3)) (hfit : cells + rm.cells ≤ R.cells ∧ slots + rm.slots ≤ R.slots) :
    va_Run p l e R s m args below meth c H locs cells slots rm.cells rm.slots (F0 m pc ls (As.reverse ++ .ref b :: rest)) rest (QQ (va_A (pool E S) H.size) (Value.ref b :: As).toArray) (va_A (pool E S) H.size) := by
  have hrecv := kp_recv F hW ho hc
  have hpw := fun U hU hWm => kp_pw (U := U) F hW hU hWm
  obtain ⟨hx, hb, hml, hown, hts, hK, hN, hO, hE, hA, -⟩ := F
  obtain ⟨f1, f2, f3, f4, f5⟩ := hf
  subst hyc
  have hG : GoodIn TBg (wsV own index y.cls y (.code y cb mL ret :: TBg)) := by
    intro w hw
    unfold wsV at hw
    rcases List.mem_append.mp hw with hw | hw
    · simp only [List.mem_cons, List.not_mem_nil, or_false] at hw
      rcases hw with rfl | rfl | rfl | rfl
      · exact tb_good hlink
      · exact tb_good f1
      · exact tb_good f2
      · exact tb_good f3
    · exact tb_goodIn f4 w hw
  exact va_runV ⟨hx, hb, hml, hown, hts⟩ (hM H.size) (cwV n hts hG rfl rfl rfl ⟨rfl, f5⟩ hR) ⟨pw_blind E S H.size _, hrecv, fun U hU hWm => ⟨rfl, hpw U hU hWm⟩⟩ rfl hn hls rfl (lv_room hrest) hdg hfit
theorem kp_runVN (F : FX p s m args meth c cc nL own E A) (hW : WD E A s S H locs) (hM : CT l E y cb mL ret rm QQ (.ref b :: As) S) (ho : S.ok b k) (hc : CB k C T N ty) (hyc : y.cls = C) (hf : CFV y cb mL ret n) (hlink : Cond.methodLinkNest own index y host ∈ lw_tbl) (hn : As.length = n) (hls : ls.size = nL) (hR : rm.frames + 1 ≤ R.frames ∧ 8 + (mL + 11) + rm.locals ≤ R.locals) (hrest : (rest.map fun v => v.category).sum ≤ 8) (hdg : decode cc pc = .ok (.invokevirtual index, 3)) (hfit : cells + rm.cells ≤ R.cells ∧ slots + rm.slots ≤ R.slots) :
    va_Run p l e R s m args below meth c H locs cells slots rm.cells rm.slots (F0 m pc ls (As.reverse ++ .ref b :: rest)) rest (QQ (va_A (pool E S) H.size) (Value.ref b :: As).toArray) (va_A (pool E S) H.size) := by
  have hrecv := kp_recv F hW ho hc
  have hpw := fun U hU hWm => kp_pw (U := U) F hW hU hWm
  obtain ⟨hx, hb, hml, hown, hts, hK, hN, hO, hE, hA, -⟩ := F
  obtain ⟨f1, f2, f3, f4, f5⟩ := hf
  subst hyc
  exact va_runVN ⟨hx, hb, hml, hown, hts⟩ (hM H.size) ⟨va_cnB n hts (tb_goodIn f4) rfl rfl rfl (hN _ (List.mem_filter.mpr ⟨hlink, rfl⟩)) (hts _ f3) f5 hR, hts _ f1, hts _ f2⟩ ⟨pw_blind E S H.size _, hrecv, fun U hU hWm => ⟨rfl, hpw U hU hWm⟩⟩ rfl hn hls rfl (lv_room hrest) hdg hfit
theorem kp_runS (F : FX p s m args meth c cc nL own E A) (hW : WD E A s S H locs) (hM : CT l E y cb mL ret rm QQ As S) (hf : CFS y cb mL ret n) (hlink : Cond.methodLink own index y ∈ TBg) (hn : As.length = n) (hls : ls.size = nL) (hR : rm.frames + 1 ≤ R.frames ∧ 8 + (mL + 11) + rm.locals ≤ R.locals) (hrest : (rest.map fun v => v.category).sum ≤ 8) (hdg : decode cc pc = .ok (.invokestatic index, 3)) (hfit : cells + rm.cells ≤ R.cells ∧ slots + rm.slots ≤ R.slots) :
    va_Run p l e R s m args below meth c H locs cells slots rm.cells rm.slots (F0 m pc ls (As.reverse ++ rest)) rest (QQ (va_A (pool E S) H.size) As.toArray) (va_A (pool E S) H.size) := by
  have hpw := fun U hU hWm => kp_pw (U := U) F hW hU hWm
  obtain ⟨hx, hb, hml, hown, hts, hK, hN, hO, hE, hA, -⟩ := F
  obtain ⟨f1, f3, f4, f5⟩ := hf
  have hG : GoodIn TBg (va_wsS own index y (.code y cb mL ret :: TBg)) := by
    intro w hw
    unfold va_wsS at hw
    rcases List.mem_append.mp hw with hw | hw
    · simp only [List.mem_cons, List.not_mem_nil, or_false] at hw
      rcases hw with rfl | rfl | rfl
      · exact tb_good hlink
      · exact tb_good f1
      · exact tb_good f3
    · exact tb_goodIn f4 w hw
  exact va_runS ⟨hx, hb, hml, hown, hts⟩ (hM H.size) (va_cwS n hts hG rfl rfl rfl f5 hR) ⟨pw_blind E S H.size _, fun U hU hWm => ⟨rfl, hpw U hU hWm⟩⟩ rfl hn hls rfl (lv_room hrest) hdg hfit
theorem kp_runI (F : FX p s m args meth c cc nL own E A) (hW : WD E A s S H locs) (hM : CT l E y cb mL none rm QQ (.ref b :: As) S) (hf : CFI y cb mL n) (hlink : Cond.methodLink own index y ∈ TBg) (hn : As.length = n) (hls : ls.size = nL) (hR : rm.frames + 1 ≤ R.frames ∧ 8 + (mL + 11) + rm.locals ≤ R.locals) (hrest : (rest.map fun v => v.category).sum ≤ 8) (hdg : decode cc pc = .ok (.invokespecial index, 3)) (hfit : cells + rm.cells ≤ R.cells ∧ slots + rm.slots ≤ R.slots) :
    va_Run p l e R s m args below meth c H locs cells slots rm.cells rm.slots (F0 m pc ls (As.reverse ++ .ref b :: rest)) rest (QQ (va_A (pool E S) H.size) (Value.ref b :: As).toArray) (va_A (pool E S) H.size) := by
  have hpw := fun U hU hWm => kp_pw (U := U) F hW hU hWm
  obtain ⟨hx, hb, hml, hown, hts, hK, hN, hO, hE, hA, -⟩ := F
  obtain ⟨f1, f3, f4, f6, f5⟩ := hf
  exact va_runI ⟨hx, hb, hml, hown, hts⟩ (hM H.size) (cwI n hts (tb_goodIn f4) rfl rfl rfl (hts _ f3) (hts _ hlink) (hts _ f1) f6 f5 hR) ⟨pw_blind E S H.size _, fun U hU hWm => ⟨rfl, hpw U hU hWm⟩⟩ rfl hn hls rfl (lv_room hrest) hdg hfit
theorem kp_runIN (F : FX p s m args meth c cc nL own E A) (hW : WD E A s S H locs) (hM : CT l E y cb mL none rm QQ (.ref b :: As) S) (hf : CFI y cb mL n) (hlink : Cond.methodLinkNest own index y host ∈ lw_tbl) (hn : As.length = n) (hls : ls.size = nL) (hR : rm.frames + 1 ≤ R.frames ∧ 8 + (mL + 11) + rm.locals ≤ R.locals) (hrest : (rest.map fun v => v.category).sum ≤ 8) (hdg : decode cc pc = .ok (.invokespecial index, 3)) (hfit : cells + rm.cells ≤ R.cells ∧ slots + rm.slots ≤ R.slots) :
    va_Run p l e R s m args below meth c H locs cells slots rm.cells rm.slots (F0 m pc ls (As.reverse ++ .ref b :: rest)) rest (QQ (va_A (pool E S) H.size) (Value.ref b :: As).toArray) (va_A (pool E S) H.size) := by
  have hpw := fun U hU hWm => kp_pw (U := U) F hW hU hWm
  obtain ⟨hx, hb, hml, hown, hts, hK, hN, hO, hE, hA, -⟩ := F
  obtain ⟨f1, f3, f4, f6, f5⟩ := hf
  exact va_runIN ⟨hx, hb, hml, hown, hts⟩ (hM H.size) ⟨va_cnB n hts (tb_goodIn f4) rfl rfl rfl (hN _ (List.mem_filter.mpr ⟨hlink, rfl⟩)) (hts _ f3) f5 hR, f6, hts _ f1⟩ ⟨pw_blind E S H.size _, fun U hU hWm => ⟨rfl, hpw U hU hWm⟩⟩ rfl hn hls rfl (lv_room hrest) hdg hfit
variable {st0 : List Value} {av : Array Value}
theorem kp_calli (F : FX p s m args meth c cc nL own E A) (hW : WD E A s S H locs) {post : Int32 → pS → Prop} {mc ms c1 s1 : Nat} (hr : va_Run p l e R s m args below meth c H locs cells slots mc ms (F0 m pc ls st0) rest (QI E post (va_A (pool E S) H.size) av) (va_A (pool E S) H.size)) (hc1 : cells + mc ≤ c1) (hs1 : slots + ms ≤ s1)
    (kk : ∀ (r : Int32) (S1 : pS) (H1 : Heap) (locs1 : List Loc), post r S1 → WD E A s S1 H1 locs1 → W p l e R s m args below meth c H1 locs1 c1 s1 Q (F0 m (pc + 3) ls (.int r :: rest))) : W p l e R s m args below meth c H locs cells slots Q (F0 m pc ls st0) := by
  have hfr := hW.free F.2.2.2.2.2.2.2.2.2.1
  refine va_calli hr hW.2.2 (fun q _ h => hfr q h) hfr (fun r u t H1 locs1 ht hvm hw hB hz1 hk1 hS => ?_)
  obtain ⟨hP1, hD1⟩ := hB
  rw [ht] at hP1
  exact W.widen hc1 hs1 (kk r u H1 locs1 hw ⟨hP1, hD1.weaken (fun _ _ _ h => hfr _ h), hS⟩)
theorem kp_callv (F : FX p s m args meth c cc nL own E A) (hW : WD E A s S H locs) {post : pS → Prop} {mc ms c1 s1 : Nat} (hr : va_Run p l e R s m args below meth c H locs cells slots mc ms (F0 m pc ls st0) rest (QV E post (va_A (pool E S) H.size) av) (va_A (pool E S) H.size)) (hc1 : cells + mc ≤ c1) (hs1 : slots + ms ≤ s1)
    (kk : ∀ (S1 : pS) (H1 : Heap) (locs1 : List Loc), post S1 → WD E A s S1 H1 locs1 → W p l e R s m args below meth c H1 locs1 c1 s1 Q (F0 m (pc + 3) ls rest)) : W p l e R s m args below meth c H locs cells slots Q (F0 m pc ls st0) := by
  have hfr := hW.free F.2.2.2.2.2.2.2.2.2.1
  refine va_callv hr hW.2.2 (fun q _ h => hfr q h) hfr (fun u t H1 locs1 ht hvm hw hB hz1 hk1 hS => ?_)
  obtain ⟨hP1, hD1⟩ := hB
  rw [ht] at hP1
  exact W.widen hc1 hs1 (kk u H1 locs1 hw ⟨hP1, hD1.weaken (fun _ _ _ h => hfr _ h), hS⟩)
theorem kp_callr (F : FX p s m args meth c cc nL own E A) (hW : WD E A s S H locs) {post : Nat → pS → Prop} {mc ms c1 s1 : Nat} (hr : va_Run p l e R s m args below meth c H locs cells slots mc ms (F0 m pc ls st0) rest (QR E post (va_A (pool E S) H.size) av) (va_A (pool E S) H.size)) (hc1 : cells + mc ≤ c1) (hs1 : slots + ms ≤ s1)
    (kk : ∀ (r : Nat) (S1 : pS) (H1 : Heap) (locs1 : List Loc), post r S1 → WD E A s S1 H1 locs1 → W p l e R s m args below meth c H1 locs1 c1 s1 Q (F0 m (pc + 3) ls (.ref r :: rest))) : W p l e R s m args below meth c H locs cells slots Q (F0 m pc ls st0) := by
  have hfr := hW.free F.2.2.2.2.2.2.2.2.2.1
  refine va_callq hr hW.2.2 (fun q _ h => hfr q h) hfr (fun r u t H1 locs1 ht hvm hw hB hz1 hk1 hS => ?_)
  obtain ⟨hP1, hD1⟩ := hB
  rw [ht] at hP1
  obtain ⟨q, rfl, hw⟩ := hw
  exact W.widen hc1 hs1 (kk q u H1 locs1 hw ⟨hP1, hD1.weaken (fun _ _ _ h => hfr _ h), hS⟩)
-- returns
variable {mc ms : Nat}
theorem kp_reti (F : FX p s m args meth c cc nL own E A) (hW : WD E A s S H locs) (hr : meth.sig.returnType = some .int) {post : Int32 → pS → Prop} {v : Int32} (hp : post v S) (hc : cells ≤ mc) (hs : slots ≤ ms) (hdg : decode cc pc = .ok (.ireturn, 1)) : W p l e R s m args below meth c H locs cells slots (MQ below (QI E post A) args s mc ms A) (F0 m pc ls [.int v]) := by
  obtain ⟨hx, hb, -, -, -, -, -, -, -, -, hlk⟩ := F
  obtain ⟨hP, hD, hS⟩ := hW
  exact W.widen hc hs (W.iret hx hb hr (fun t ht hWm => ⟨⟨v, S, rfl, hp, by rw [ht]; exact hP, hD⟩, hS.F ht⟩) hS.2.2 hdg hlk)
theorem kp_retz (F : FX p s m args meth c cc nL own E A) (hW : WD E A s S H locs) (hr : meth.sig.returnType = some .boolean) {post : Int32 → pS → Prop} {v : Int32} (hv : v = 0 ∨ v = 1) (hp : post v S) (hc : cells ≤ mc) (hs : slots ≤ ms) (hdg : decode cc pc = .ok (.ireturn, 1)) : W p l e R s m args below meth c H locs cells slots (MQ below (QI E post A) args s mc ms A) (F0 m pc ls [.int v]) := by
  obtain ⟨hx, hb, -, -, -, -, -, -, -, -, hlk⟩ := F
  obtain ⟨hP, hD, hS⟩ := hW
  exact W.widen hc hs (W.zret hx hb hr (by rcases hv with rfl | rfl <;> rfl) (fun t ht hWm => ⟨⟨v, S, rfl, hp, by rw [ht]; exact hP, hD⟩, hS.F ht⟩) hS.2.2 hdg hlk)
theorem kp_retv (F : FX p s m args meth c cc nL own E A) (hW : WD E A s S H locs) (hr : meth.sig.returnType = none) {post : pS → Prop} (hp : post S) (hc : cells ≤ mc) (hs : slots ≤ ms) (hdg : decode cc pc = .ok (.return_, 1)) : W p l e R s m args below meth c H locs cells slots (MQ below (QV E post A) args s mc ms A) (F0 m pc ls []) := by
  obtain ⟨hx, hb, -, -, -, -, -, -, -, -, hlk⟩ := F
  obtain ⟨hP, hD, hS⟩ := hW
  exact W.widen hc hs (W.vret hx hb hr (fun t ht hWm => ⟨⟨S, rfl, hp, by rw [ht]; exact hP, hD⟩, hS.F ht⟩) hS.2.2 hdg hlk)
theorem kp_retr (F : FX p s m args meth c cc nL own E A) (hW : WD E A s S H locs) {rt : FieldType} (hr : meth.sig.returnType = some rt) (hrt : isRefTy rt) {post : Nat → pS → Prop} {v : Nat} (hp : post v S) (hc : cells ≤ mc) (hs : slots ≤ ms) (hdg : decode cc pc = .ok (.areturn, 1)) : W p l e R s m args below meth c H locs cells slots (MQ below (QR E post A) args s mc ms A) (F0 m pc ls [.ref v]) := by
  obtain ⟨hx, hb, -, -, -, -, -, -, -, -, hlk⟩ := F
  obtain ⟨hP, hD, hS⟩ := hW
  exact W.widen hc hs (W.aret hx hb hr hrt (Or.inr ⟨v, rfl⟩) (fun t ht hWm => ⟨⟨some v, S, rfl, ⟨v, rfl, hp⟩, by rw [ht]; exact hP, hD⟩, hS.F ht⟩) hS.2.2 hdg hlk)
-- the rest
theorem kp_cast (F : FX p s m args meth c cc nL own E A) (hW : WD E A s S H locs) (ho : S.ok a k) (hc : CB k C T N ty) (hcl : Cond.classLink own index C ∈ TBg) (hdg : decode cc pc = .ok (.checkcast index, 3))
    (kk : W p l e R s m args below meth c H locs cells slots Q (F0 m (pc + 3) ls (.ref a :: rest))) : W p l e R s m args below meth c H locs cells slots Q (F0 m pc ls (.ref a :: rest)) := by
  have hrecv := kp_recv F hW ho hc
  obtain ⟨hx, hb, hml, hown, hts, hK, hN, hO, hE, hA, -⟩ := F
  exact va_castE hx hb hown (hts _ hcl) hrecv hdg kk
theorem kp_gets (F : FX p s m args meth c cc nL own E A) (hW : WD E A s S H locs) (hlink : Cond.fieldLink own index "java/util/ArrayList" "DEFAULTCAPACITY_EMPTY_ELEMENTDATA" "[Ljava/lang/Object;" ∈ TBg) (hdg : decode cc pc = .ok (.getstatic index, 3))
    (kk : W p l e R s m args below meth c H locs cells slots Q (F0 m (pc + 3) ls (.ref E.e0 :: rest))) : W p l e R s m args below meth c H locs cells slots Q (F0 m pc ls rest) := by
  obtain ⟨hx, hb, hml, hown, hts, hK, hN, hO, hE, hA, -⟩ := F
  exact va_gets hx hb hE.1 hW.2.2 hown (hts _ hlink) (fun _ h => h) hdg kk
theorem kp_oinit (F : FX p s m args meth c cc nL own E A) (hls : ls.size = nL) (hlink : Cond.methodLink own index Lib.objectInit ∈ TBg) (hinst : Cond.instanceMethod Lib.objectInit ∈ TBg) (hcode : Cond.code Lib.objectInit ⟨#[0xb1]⟩ 1 none ∈ TBg) (hdg : decode cc pc = .ok (.invokespecial index, 3)) (hfr : 1 ≤ R.frames) (hlo : (rest.map fun v => v.category).sum + 12 ≤ R.locals)
    (kk : W p l e R s m args below meth c H locs cells slots Q (F0 m (pc + 3) ls rest)) : W p l e R s m args below meth c H locs cells slots Q (F0 m pc ls (.ref a :: rest)) := by
  obtain ⟨hx, hb, hml, hown, hts, hK, hN, hO, hE, hA, -⟩ := F
  exact W.objInit hx hb hown (hts _ hlink) (hts _ hinst) (hts _ hcode) rfl (by rw [hml]; exact hls) rfl hdg hfr (by
    have : 2 * (F0 m pc ls (.ref a :: rest)).monitorRoom = 0 := rfl
    rw [this, Nat.zero_add]; exact hlo) kk
theorem kp_copy (F : FX p s m args meth c cc nL own E A) (hW : WD E A s S H locs) (hls : ls.size = nL) (hlink : Cond.methodLink own index arraycopyName ∈ TBg) (hnat : Cond.native arraycopyName ∈ TBg) (hstat : Cond.static arraycopyName ∈ TBg) (hini : Cond.initialized "java/lang/System" ∈ TBg) (ho : S.ok a 8) {sp dp n : Int32} (h1 : ¬ sp < 0) (h2 : ¬ dp < 0) (h3 : ¬ n < 0) (h4 : sp.toNatClampNeg + n.toNatClampNeg ≤ S.n a) (h5 : dp.toNatClampNeg + n.toNatClampNeg ≤ S.n a) (hob : ∀ i : Nat, i < n.toNatClampNeg → ∀ y : Nat, S.P a (sp.toNatClampNeg + i) = some y → S.ok y k) (hc : CB k C T N ty) (hca : Cond.castable C "java/lang/Object" ∈ lw_tbl)
    (hfr : 1 ≤ R.frames) (hlo : (rest.map fun v => v.category).sum + (nativeFrameWords "java/lang/System" "arraycopy" 5 + 11) ≤ R.locals) (hdg : decode cc pc = .ok (.invokestatic index, 3))
    (kk : ∀ (H1 : Heap) (locs1 : List Loc), WD E A s (S.rowP a (va_cpy (S.P a) (S.P a) sp.toNatClampNeg dp.toNatClampNeg n.toNatClampNeg)) H1 locs1 → W p l e R s m args below meth c H1 locs1 cells slots Q (F0 m (pc + 3) ls rest)) : W p l e R s m args below meth c H locs cells slots Q (F0 m pc ls (.int n :: .int dp :: .ref a :: .int sp :: .ref a :: rest)) := by
  have hrecv := fun y (hy : S.ok y k) => kp_recv F hW hy hc
  obtain ⟨hx, hb, hml, hown, hts, hK, hN, hO, hE, hA, -⟩ := F
  obtain ⟨hP, hD, hS⟩ := hW
  obtain ⟨q, hq⟩ := pool_get E ho.1
  have hq' := hq
  rw [pf_row E ho.2] at hq
  refine va_copyq (C := C) hx hb (by rw [hml]; exact hls.symm) hown (hts _ hlink) (hts _ hnat) (hts _ hstat) (hts _ hini) hK hP hD hS q q 1 1 hq hq rfl rfl h1 h2 h3 h4 h5 (fun i hi y hy => hrecv y (hob i hi y hy)) ?_ hfr hlo hdg (fun H1 locs1 g1 g2 g3 => ?_)
  · intro comp c0 e1 e2
    exact vb_asgC (hN _ (List.mem_filter.mpr ⟨hca, rfl⟩)) comp c0 e1 e2
  · rw [pool_rowP E hD ho hq'] at g1 g2
    exact kk H1 locs1 ⟨g1, g2, g3⟩
end KC
end
section
/-! the words of the tables that the walks use, by their places; classes; callees -/
theorem tw_1 : Cond.initialized "KeyCommandInterpreter" ∈ TBg := tb_in (List.mem_append_right _ (List.mem_of_getElem? (i := 1) (by decide +kernel))) rfl
theorem tw_2 : Cond.initialized "KeyCommandInterpreter$Row" ∈ TBg := tb_in (List.mem_append_right _ (List.mem_of_getElem? (i := 2) (by decide +kernel))) rfl
theorem tw_3 : Cond.initialized "java/lang/Math" ∈ TBg := tb_in (List.mem_append_right _ (List.mem_of_getElem? (i := 3) (by decide +kernel))) rfl
theorem tw_4 : Cond.initialized "java/util/AbstractCollection" ∈ TBg := tb_in (List.mem_append_right _ (List.mem_of_getElem? (i := 4) (by decide +kernel))) rfl
theorem tw_5 : Cond.initialized "java/util/AbstractList" ∈ TBg := tb_in (List.mem_append_right _ (List.mem_of_getElem? (i := 5) (by decide +kernel))) rfl
theorem tw_6 : Cond.initialized "java/util/ArrayList" ∈ TBg := tb_in (List.mem_append_right _ (List.mem_of_getElem? (i := 6) (by decide +kernel))) rfl
theorem tw_9 : Cond.initialized "java/lang/System" ∈ TBg := tb_in (List.mem_append_right _ (List.mem_of_getElem? (i := 9) (by decide +kernel))) rfl
theorem tw_10 : Cond.initialized "KeyCommandInterpreter$Context" ∈ TBg := tb_in (List.mem_append_right _ (List.mem_of_getElem? (i := 10) (by decide +kernel))) rfl
theorem tw_11 : Cond.initialized "KeyCommandInterpreter$ReportLog" ∈ TBg := tb_in (List.mem_append_right _ (List.mem_of_getElem? (i := 11) (by decide +kernel))) rfl
theorem tw_12 : Cond.initialized "java/util/Objects" ∈ TBg := tb_in (List.mem_append_right _ (List.mem_of_getElem? (i := 12) (by decide +kernel))) rfl
theorem tw_13 : Cond.initialized "jdk/internal/util/Preconditions" ∈ TBg := tb_in (List.mem_append_right _ (List.mem_of_getElem? (i := 13) (by decide +kernel))) rfl
theorem tw_14 : Cond.initialized "KeyCommandInterpreterModel" ∈ TBg := tb_in (List.mem_append_right _ (List.mem_of_getElem? (i := 14) (by decide +kernel))) rfl
theorem tw_15 : Cond.initialized "KeyCommandInterpreter$Binding" ∈ TBg := tb_in (List.mem_append_right _ (List.mem_of_getElem? (i := 15) (by decide +kernel))) rfl
theorem tw_16 : Cond.classLink "KeyCommandInterpreterLaw" (7) "KeyCommandInterpreter" ∈ TBg := tb_in (List.mem_append_right _ (List.mem_of_getElem? (i := 16) (by decide +kernel))) rfl
theorem tw_17 : Cond.instantiable "KeyCommandInterpreter" (13) ∈ TBg := tb_in (List.mem_append_right _ (List.mem_of_getElem? (i := 17) (by decide +kernel))) rfl
theorem tw_18 : Cond.methodLink "KeyCommandInterpreterLaw" (9) yX4_init ∈ TBg := tb_in (List.mem_append_right _ (List.mem_of_getElem? (i := 18) (by decide +kernel))) rfl
theorem tw_19 : Cond.instanceMethod yX4_init ∈ TBg := tb_in (List.mem_append_right _ (List.mem_of_getElem? (i := 19) (by decide +kernel))) rfl
theorem tw_20 : Cond.code yX4_init (prog_1_method_1_code) (2) (Option.none : Option Jvm.ClassFile.FieldType) ∈ TBg := tb_in (List.mem_append_right _ (List.mem_of_getElem? (i := 20) (by decide +kernel))) rfl
theorem tw_21 : Cond.methodLink "KeyCommandInterpreter" (3) ⟨"java/lang/Object", "<init>", "()V"⟩ ∈ TBg := tb_in (List.mem_append_right _ (List.mem_of_getElem? (i := 21) (by decide +kernel))) rfl
theorem tw_22 : Cond.instanceMethod ⟨"java/lang/Object", "<init>", "()V"⟩ ∈ TBg := tb_in (List.mem_append_right _ (List.mem_of_getElem? (i := 22) (by decide +kernel))) rfl
theorem tw_23 : Cond.code ⟨"java/lang/Object", "<init>", "()V"⟩ (object_method_1_code) (1) (Option.none : Option Jvm.ClassFile.FieldType) ∈ TBg := tb_in (List.mem_append_right _ (List.mem_of_getElem? (i := 23) (by decide +kernel))) rfl
theorem tw_24 : Cond.classLink "KeyCommandInterpreter" (9) "KeyCommandInterpreter$Row" ∈ TBg := tb_in (List.mem_append_right _ (List.mem_of_getElem? (i := 24) (by decide +kernel))) rfl
theorem tw_25 : Cond.instantiable "KeyCommandInterpreter$Row" (2) ∈ TBg := tb_in (List.mem_append_right _ (List.mem_of_getElem? (i := 25) (by decide +kernel))) rfl
theorem tw_26 : Cond.methodLinkNest "KeyCommandInterpreter" (11) yX3_init "KeyCommandInterpreter" ∈ lw_tbl := List.mem_append_right _ (List.mem_of_getElem? (i := 26) (by decide +kernel))
theorem tw_27 : Cond.instanceMethod yX3_init ∈ TBg := tb_in (List.mem_append_right _ (List.mem_of_getElem? (i := 27) (by decide +kernel))) rfl
theorem tw_28 : Cond.code yX3_init (prog_5_method_1_code) (2) (Option.none : Option Jvm.ClassFile.FieldType) ∈ TBg := tb_in (List.mem_append_right _ (List.mem_of_getElem? (i := 28) (by decide +kernel))) rfl
theorem tw_29 : Cond.methodLink "KeyCommandInterpreter$Row" (3) ⟨"java/lang/Object", "<init>", "()V"⟩ ∈ TBg := tb_in (List.mem_append_right _ (List.mem_of_getElem? (i := 29) (by decide +kernel))) rfl
theorem tw_30 : Cond.methodLink "KeyCommandInterpreter$Row" (9) yJ9_max_7cf53 ∈ TBg := tb_in (List.mem_append_right _ (List.mem_of_getElem? (i := 30) (by decide +kernel))) rfl
theorem tw_31 : Cond.static yJ9_max_7cf53 ∈ TBg := tb_in (List.mem_append_right _ (List.mem_of_getElem? (i := 31) (by decide +kernel))) rfl
theorem tw_32 : Cond.code yJ9_max_7cf53 (prog_11_method_65_code) (2) (Option.some Jvm.ClassFile.FieldType.int) ∈ TBg := tb_in (List.mem_append_right _ (List.mem_of_getElem? (i := 32) (by decide +kernel))) rfl
theorem tw_33 : Cond.fieldLink "KeyCommandInterpreter$Row" (15) "KeyCommandInterpreter$Row" "items" "[I" ∈ TBg := tb_in (List.mem_append_right _ (List.mem_of_getElem? (i := 33) (by decide +kernel))) rfl
theorem tw_34 : Cond.fieldLink "KeyCommandInterpreter$Row" (21) "KeyCommandInterpreter$Row" "size" "I" ∈ TBg := tb_in (List.mem_append_right _ (List.mem_of_getElem? (i := 34) (by decide +kernel))) rfl
theorem tw_35 : Cond.laysFinal "KeyCommandInterpreter$Row" "KeyCommandInterpreter$Row" "items" "[I" ∈ TBg := tb_in (List.mem_append_right _ (List.mem_of_getElem? (i := 35) (by decide +kernel))) rfl
theorem tw_37 : Cond.lays "KeyCommandInterpreter$Row" "KeyCommandInterpreter$Row" "size" "I" ∈ TBg := tb_in (List.mem_append_right _ (List.mem_of_getElem? (i := 37) (by decide +kernel))) rfl
theorem tw_40 : Cond.arrayClass (Jvm.ClassFile.FieldType.int) ∈ TBg := tb_in (List.mem_append_right _ (List.mem_of_getElem? (i := 40) (by decide +kernel))) rfl
theorem tw_41 : Cond.classLink "KeyCommandInterpreter" (24) "java/util/ArrayList" ∈ TBg := tb_in (List.mem_append_right _ (List.mem_of_getElem? (i := 41) (by decide +kernel))) rfl
theorem tw_42 : Cond.instantiable "java/util/ArrayList" (3) ∈ TBg := tb_in (List.mem_append_right _ (List.mem_of_getElem? (i := 42) (by decide +kernel))) rfl
theorem tw_43 : Cond.methodLink "KeyCommandInterpreter" (26) yJx4a65c_init_da8c8 ∈ TBg := tb_in (List.mem_append_right _ (List.mem_of_getElem? (i := 43) (by decide +kernel))) rfl
theorem tw_44 : Cond.instanceMethod yJx4a65c_init_da8c8 ∈ TBg := tb_in (List.mem_append_right _ (List.mem_of_getElem? (i := 44) (by decide +kernel))) rfl
theorem tw_45 : Cond.code yJx4a65c_init_da8c8 (prog_15_method_2_code) (1) (Option.none : Option Jvm.ClassFile.FieldType) ∈ TBg := tb_in (List.mem_append_right _ (List.mem_of_getElem? (i := 45) (by decide +kernel))) rfl
theorem tw_46 : Cond.methodLink "java/util/ArrayList" (1) yJxc12de_init_da8c8 ∈ TBg := tb_in (List.mem_append_right _ (List.mem_of_getElem? (i := 46) (by decide +kernel))) rfl
theorem tw_47 : Cond.instanceMethod yJxc12de_init_da8c8 ∈ TBg := tb_in (List.mem_append_right _ (List.mem_of_getElem? (i := 47) (by decide +kernel))) rfl
theorem tw_48 : Cond.code yJxc12de_init_da8c8 (prog_14_method_1_code) (1) (Option.none : Option Jvm.ClassFile.FieldType) ∈ TBg := tb_in (List.mem_append_right _ (List.mem_of_getElem? (i := 48) (by decide +kernel))) rfl
theorem tw_49 : Cond.methodLink "java/util/AbstractList" (1) yJxa1e45_init_da8c8 ∈ TBg := tb_in (List.mem_append_right _ (List.mem_of_getElem? (i := 49) (by decide +kernel))) rfl
theorem tw_50 : Cond.instanceMethod yJxa1e45_init_da8c8 ∈ TBg := tb_in (List.mem_append_right _ (List.mem_of_getElem? (i := 50) (by decide +kernel))) rfl
theorem tw_51 : Cond.code yJxa1e45_init_da8c8 (prog_13_method_1_code) (1) (Option.none : Option Jvm.ClassFile.FieldType) ∈ TBg := tb_in (List.mem_append_right _ (List.mem_of_getElem? (i := 51) (by decide +kernel))) rfl
theorem tw_52 : Cond.methodLink "java/util/AbstractCollection" (1) ⟨"java/lang/Object", "<init>", "()V"⟩ ∈ TBg := tb_in (List.mem_append_right _ (List.mem_of_getElem? (i := 52) (by decide +kernel))) rfl
theorem tw_53 : Cond.fieldLink "java/util/ArrayList" (39) "java/util/ArrayList" "DEFAULTCAPACITY_EMPTY_ELEMENTDATA" "[Ljava/lang/Object;" ∈ TBg := tb_in (List.mem_append_right _ (List.mem_of_getElem? (i := 53) (by decide +kernel))) rfl
theorem tw_54 : Cond.laysStatic "java/util/ArrayList" "DEFAULTCAPACITY_EMPTY_ELEMENTDATA" "[Ljava/lang/Object;" ∈ lw_tbl := List.mem_append_right _ (List.mem_of_getElem? (i := 54) (by decide +kernel))
theorem tw_55 : Cond.fieldLink "java/util/ArrayList" (9) "java/util/ArrayList" "elementData" "[Ljava/lang/Object;" ∈ TBg := tb_in (List.mem_append_right _ (List.mem_of_getElem? (i := 55) (by decide +kernel))) rfl
theorem tw_56 : Cond.fieldLink "java/util/ArrayList" (48) "java/util/ArrayList" "size" "I" ∈ TBg := tb_in (List.mem_append_right _ (List.mem_of_getElem? (i := 56) (by decide +kernel))) rfl
theorem tw_57 : Cond.fieldLink "java/util/AbstractList" (7) "java/util/AbstractList" "modCount" "I" ∈ TBg := tb_in (List.mem_append_right _ (List.mem_of_getElem? (i := 57) (by decide +kernel))) rfl
theorem tw_58 : Cond.fieldLink "java/util/ArrayList" (63) "java/util/ArrayList" "modCount" "I" ∈ TBg := tb_in (List.mem_append_right _ (List.mem_of_getElem? (i := 58) (by decide +kernel))) rfl
theorem tw_59 : Cond.sameField "java/util/ArrayList" "java/util/AbstractList" "modCount" "I" ∈ TBg := tb_in (List.mem_append_right _ (List.mem_of_getElem? (i := 59) (by decide +kernel))) rfl
theorem tw_60 : Cond.lays "java/util/ArrayList" "java/util/ArrayList" "elementData" "[Ljava/lang/Object;" ∈ TBg := tb_in (List.mem_append_right _ (List.mem_of_getElem? (i := 60) (by decide +kernel))) rfl
theorem tw_62 : Cond.lays "java/util/ArrayList" "java/util/ArrayList" "size" "I" ∈ TBg := tb_in (List.mem_append_right _ (List.mem_of_getElem? (i := 62) (by decide +kernel))) rfl
theorem tw_64 : Cond.lays "java/util/ArrayList" "java/util/AbstractList" "modCount" "I" ∈ TBg := tb_in (List.mem_append_right _ (List.mem_of_getElem? (i := 64) (by decide +kernel))) rfl
theorem tw_67 : Cond.methodLink "KeyCommandInterpreter" (31) yJx4a65c_add_9ea2d ∈ TBg := tb_in (List.mem_append_right _ (List.mem_of_getElem? (i := 67) (by decide +kernel))) rfl
theorem tw_68 : Cond.instanceMethod yJx4a65c_add_9ea2d ∈ TBg := tb_in (List.mem_append_right _ (List.mem_of_getElem? (i := 68) (by decide +kernel))) rfl
theorem tw_69 : Cond.selects "java/util/ArrayList" yJx4a65c_add_9ea2d yJx4a65c_add_9ea2d ∈ TBg := tb_in (List.mem_append_right _ (List.mem_of_getElem? (i := 69) (by decide +kernel))) rfl
theorem tw_70 : Cond.code yJx4a65c_add_9ea2d (prog_15_method_25_code) (2) (Option.some Jvm.ClassFile.FieldType.boolean) ∈ TBg := tb_in (List.mem_append_right _ (List.mem_of_getElem? (i := 70) (by decide +kernel))) rfl
theorem tw_71 : Cond.methodLink "java/util/ArrayList" (131) yJx4a65c_add_72be8 ∈ TBg := tb_in (List.mem_append_right _ (List.mem_of_getElem? (i := 71) (by decide +kernel))) rfl
theorem tw_73 : Cond.instanceMethod yJx4a65c_add_72be8 ∈ TBg := tb_in (List.mem_append_right _ (List.mem_of_getElem? (i := 73) (by decide +kernel))) rfl
theorem tw_74 : Cond.code yJx4a65c_add_72be8 (prog_15_method_24_code) (4) (Option.none : Option Jvm.ClassFile.FieldType) ∈ TBg := tb_in (List.mem_append_right _ (List.mem_of_getElem? (i := 74) (by decide +kernel))) rfl
theorem tw_75 : Cond.methodLink "java/util/ArrayList" (129) yJx4a65c_grow_d5877 ∈ TBg := tb_in (List.mem_append_right _ (List.mem_of_getElem? (i := 75) (by decide +kernel))) rfl
theorem tw_77 : Cond.instanceMethod yJx4a65c_grow_d5877 ∈ TBg := tb_in (List.mem_append_right _ (List.mem_of_getElem? (i := 77) (by decide +kernel))) rfl
theorem tw_78 : Cond.code yJx4a65c_grow_d5877 (prog_15_method_7_code) (1) (Option.some (Jvm.ClassFile.FieldType.array (Jvm.ClassFile.FieldType.object "java/lang/Object"))) ∈ TBg := tb_in (List.mem_append_right _ (List.mem_of_getElem? (i := 78) (by decide +kernel))) rfl
theorem tw_79 : Cond.methodLink "java/util/ArrayList" (69) yJx4a65c_grow_92f84 ∈ TBg := tb_in (List.mem_append_right _ (List.mem_of_getElem? (i := 79) (by decide +kernel))) rfl
theorem tw_81 : Cond.instanceMethod yJx4a65c_grow_92f84 ∈ TBg := tb_in (List.mem_append_right _ (List.mem_of_getElem? (i := 81) (by decide +kernel))) rfl
theorem tw_82 : Cond.code yJx4a65c_grow_92f84 (prog_15_method_6_code) (4) (Option.some (Jvm.ClassFile.FieldType.array (Jvm.ClassFile.FieldType.object "java/lang/Object"))) ∈ TBg := tb_in (List.mem_append_right _ (List.mem_of_getElem? (i := 82) (by decide +kernel))) rfl
theorem tw_109 : Cond.arrayOver (Jvm.ClassFile.FieldType.object "java/lang/Object") ∈ lw_tbl := List.mem_append_right _ (List.mem_of_getElem? (i := 109) (by decide +kernel))
theorem tw_115 : Cond.static ⟨"java/lang/System", "arraycopy", "(Ljava/lang/Object;ILjava/lang/Object;II)V"⟩ ∈ TBg := tb_in (List.mem_append_right _ (List.mem_of_getElem? (i := 115) (by decide +kernel))) rfl
theorem tw_116 : Cond.native ⟨"java/lang/System", "arraycopy", "(Ljava/lang/Object;ILjava/lang/Object;II)V"⟩ ∈ TBg := tb_in (List.mem_append_right _ (List.mem_of_getElem? (i := 116) (by decide +kernel))) rfl
theorem tw_117 : Cond.methodLink "java/util/ArrayList" (79) yJ9_max_7cf53 ∈ TBg := tb_in (List.mem_append_right _ (List.mem_of_getElem? (i := 117) (by decide +kernel))) rfl
theorem tw_118 : Cond.classLink "java/util/ArrayList" (7) "java/lang/Object" ∈ TBg := tb_in (List.mem_append_right _ (List.mem_of_getElem? (i := 118) (by decide +kernel))) rfl
theorem tw_119 : Cond.classLink "KeyCommandInterpreter" (38) "KeyCommandInterpreter$Context" ∈ TBg := tb_in (List.mem_append_right _ (List.mem_of_getElem? (i := 119) (by decide +kernel))) rfl
theorem tw_120 : Cond.instantiable "KeyCommandInterpreter$Context" (2) ∈ TBg := tb_in (List.mem_append_right _ (List.mem_of_getElem? (i := 120) (by decide +kernel))) rfl
theorem tw_121 : Cond.methodLinkNest "KeyCommandInterpreter" (40) yX1_init "KeyCommandInterpreter" ∈ lw_tbl := List.mem_append_right _ (List.mem_of_getElem? (i := 121) (by decide +kernel))
theorem tw_122 : Cond.instanceMethod yX1_init ∈ TBg := tb_in (List.mem_append_right _ (List.mem_of_getElem? (i := 122) (by decide +kernel))) rfl
theorem tw_123 : Cond.code yX1_init (prog_3_method_1_code) (2) (Option.none : Option Jvm.ClassFile.FieldType) ∈ TBg := tb_in (List.mem_append_right _ (List.mem_of_getElem? (i := 123) (by decide +kernel))) rfl
theorem tw_124 : Cond.methodLink "KeyCommandInterpreter$Context" (1) ⟨"java/lang/Object", "<init>", "()V"⟩ ∈ TBg := tb_in (List.mem_append_right _ (List.mem_of_getElem? (i := 124) (by decide +kernel))) rfl
theorem tw_125 : Cond.classLink "KeyCommandInterpreter$Context" (13) "java/util/ArrayList" ∈ TBg := tb_in (List.mem_append_right _ (List.mem_of_getElem? (i := 125) (by decide +kernel))) rfl
theorem tw_126 : Cond.methodLink "KeyCommandInterpreter$Context" (15) yJx4a65c_init_da8c8 ∈ TBg := tb_in (List.mem_append_right _ (List.mem_of_getElem? (i := 126) (by decide +kernel))) rfl
theorem tw_127 : Cond.fieldLink "KeyCommandInterpreter$Context" (7) "KeyCommandInterpreter$Context" "number" "I" ∈ TBg := tb_in (List.mem_append_right _ (List.mem_of_getElem? (i := 127) (by decide +kernel))) rfl
theorem tw_128 : Cond.fieldLinkNest "KeyCommandInterpreter" (154) "KeyCommandInterpreter$Context" "number" "I" "KeyCommandInterpreter" ∈ lw_tbl := List.mem_append_right _ (List.mem_of_getElem? (i := 128) (by decide +kernel))
theorem tw_129 : Cond.fieldLink "KeyCommandInterpreter$Context" (16) "KeyCommandInterpreter$Context" "bindings" "Ljava/util/ArrayList;" ∈ TBg := tb_in (List.mem_append_right _ (List.mem_of_getElem? (i := 129) (by decide +kernel))) rfl
theorem tw_130 : Cond.fieldLinkNest "KeyCommandInterpreter" (105) "KeyCommandInterpreter$Context" "bindings" "Ljava/util/ArrayList;" "KeyCommandInterpreter" ∈ lw_tbl := List.mem_append_right _ (List.mem_of_getElem? (i := 130) (by decide +kernel))
theorem tw_131 : Cond.laysFinal "KeyCommandInterpreter$Context" "KeyCommandInterpreter$Context" "number" "I" ∈ TBg := tb_in (List.mem_append_right _ (List.mem_of_getElem? (i := 131) (by decide +kernel))) rfl
theorem tw_133 : Cond.laysFinal "KeyCommandInterpreter$Context" "KeyCommandInterpreter$Context" "bindings" "Ljava/util/ArrayList;" ∈ TBg := tb_in (List.mem_append_right _ (List.mem_of_getElem? (i := 133) (by decide +kernel))) rfl
theorem tw_136 : Cond.classLink "KeyCommandInterpreter" (48) "KeyCommandInterpreter$ReportLog" ∈ TBg := tb_in (List.mem_append_right _ (List.mem_of_getElem? (i := 136) (by decide +kernel))) rfl
theorem tw_137 : Cond.instantiable "KeyCommandInterpreter$ReportLog" (3) ∈ TBg := tb_in (List.mem_append_right _ (List.mem_of_getElem? (i := 137) (by decide +kernel))) rfl
theorem tw_138 : Cond.methodLinkNest "KeyCommandInterpreter" (50) yX2_init "KeyCommandInterpreter" ∈ lw_tbl := List.mem_append_right _ (List.mem_of_getElem? (i := 138) (by decide +kernel))
theorem tw_139 : Cond.instanceMethod yX2_init ∈ TBg := tb_in (List.mem_append_right _ (List.mem_of_getElem? (i := 139) (by decide +kernel))) rfl
theorem tw_140 : Cond.code yX2_init (prog_4_method_1_code) (1) (Option.none : Option Jvm.ClassFile.FieldType) ∈ TBg := tb_in (List.mem_append_right _ (List.mem_of_getElem? (i := 140) (by decide +kernel))) rfl
theorem tw_141 : Cond.methodLink "KeyCommandInterpreter$ReportLog" (3) ⟨"java/lang/Object", "<init>", "()V"⟩ ∈ TBg := tb_in (List.mem_append_right _ (List.mem_of_getElem? (i := 141) (by decide +kernel))) rfl
theorem tw_142 : Cond.fieldLink "KeyCommandInterpreter$ReportLog" (9) "KeyCommandInterpreter$ReportLog" "kinds" "[I" ∈ TBg := tb_in (List.mem_append_right _ (List.mem_of_getElem? (i := 142) (by decide +kernel))) rfl
theorem tw_143 : Cond.fieldLink "KeyCommandInterpreter$ReportLog" (15) "KeyCommandInterpreter$ReportLog" "arguments" "[I" ∈ TBg := tb_in (List.mem_append_right _ (List.mem_of_getElem? (i := 143) (by decide +kernel))) rfl
theorem tw_144 : Cond.fieldLink "KeyCommandInterpreter$ReportLog" (18) "KeyCommandInterpreter$ReportLog" "count" "I" ∈ TBg := tb_in (List.mem_append_right _ (List.mem_of_getElem? (i := 144) (by decide +kernel))) rfl
theorem tw_145 : Cond.fieldLinkNest "KeyCommandInterpreter" (128) "KeyCommandInterpreter$ReportLog" "count" "I" "KeyCommandInterpreter" ∈ lw_tbl := List.mem_append_right _ (List.mem_of_getElem? (i := 145) (by decide +kernel))
theorem tw_146 : Cond.laysFinal "KeyCommandInterpreter$ReportLog" "KeyCommandInterpreter$ReportLog" "kinds" "[I" ∈ TBg := tb_in (List.mem_append_right _ (List.mem_of_getElem? (i := 146) (by decide +kernel))) rfl
theorem tw_148 : Cond.laysFinal "KeyCommandInterpreter$ReportLog" "KeyCommandInterpreter$ReportLog" "arguments" "[I" ∈ TBg := tb_in (List.mem_append_right _ (List.mem_of_getElem? (i := 148) (by decide +kernel))) rfl
theorem tw_150 : Cond.lays "KeyCommandInterpreter$ReportLog" "KeyCommandInterpreter$ReportLog" "count" "I" ∈ TBg := tb_in (List.mem_append_right _ (List.mem_of_getElem? (i := 150) (by decide +kernel))) rfl
theorem tw_153 : Cond.methodLink "KeyCommandInterpreter" (71) yX4_pushContext ∈ TBg := tb_in (List.mem_append_right _ (List.mem_of_getElem? (i := 153) (by decide +kernel))) rfl
theorem tw_155 : Cond.instanceMethod yX4_pushContext ∈ TBg := tb_in (List.mem_append_right _ (List.mem_of_getElem? (i := 155) (by decide +kernel))) rfl
theorem tw_156 : Cond.code yX4_pushContext (prog_1_method_32_code) (2) (Option.none : Option Jvm.ClassFile.FieldType) ∈ TBg := tb_in (List.mem_append_right _ (List.mem_of_getElem? (i := 156) (by decide +kernel))) rfl
theorem tw_157 : Cond.methodLink "KeyCommandInterpreter" (91) yX4_isContext ∈ TBg := tb_in (List.mem_append_right _ (List.mem_of_getElem? (i := 157) (by decide +kernel))) rfl
theorem tw_159 : Cond.instanceMethod yX4_isContext ∈ TBg := tb_in (List.mem_append_right _ (List.mem_of_getElem? (i := 159) (by decide +kernel))) rfl
theorem tw_160 : Cond.code yX4_isContext (prog_1_method_37_code) (2) (Option.some Jvm.ClassFile.FieldType.boolean) ∈ TBg := tb_in (List.mem_append_right _ (List.mem_of_getElem? (i := 160) (by decide +kernel))) rfl
theorem tw_161 : Cond.methodLink "KeyCommandInterpreter" (108) yJx4a65c_size_8abf5 ∈ TBg := tb_in (List.mem_append_right _ (List.mem_of_getElem? (i := 161) (by decide +kernel))) rfl
theorem tw_162 : Cond.instanceMethod yJx4a65c_size_8abf5 ∈ TBg := tb_in (List.mem_append_right _ (List.mem_of_getElem? (i := 162) (by decide +kernel))) rfl
theorem tw_163 : Cond.selects "java/util/ArrayList" yJx4a65c_size_8abf5 yJx4a65c_size_8abf5 ∈ TBg := tb_in (List.mem_append_right _ (List.mem_of_getElem? (i := 163) (by decide +kernel))) rfl
theorem tw_164 : Cond.code yJx4a65c_size_8abf5 (prog_15_method_8_code) (1) (Option.some Jvm.ClassFile.FieldType.int) ∈ TBg := tb_in (List.mem_append_right _ (List.mem_of_getElem? (i := 164) (by decide +kernel))) rfl
theorem tw_165 : Cond.methodLink "KeyCommandInterpreter" (101) yJx4a65c_get_915e3 ∈ TBg := tb_in (List.mem_append_right _ (List.mem_of_getElem? (i := 165) (by decide +kernel))) rfl
theorem tw_166 : Cond.instanceMethod yJx4a65c_get_915e3 ∈ TBg := tb_in (List.mem_append_right _ (List.mem_of_getElem? (i := 166) (by decide +kernel))) rfl
theorem tw_167 : Cond.selects "java/util/ArrayList" yJx4a65c_get_915e3 yJx4a65c_get_915e3 ∈ TBg := tb_in (List.mem_append_right _ (List.mem_of_getElem? (i := 167) (by decide +kernel))) rfl
theorem tw_168 : Cond.code yJx4a65c_get_915e3 (prog_15_method_20_code) (2) (Option.some (Jvm.ClassFile.FieldType.object "java/lang/Object")) ∈ TBg := tb_in (List.mem_append_right _ (List.mem_of_getElem? (i := 168) (by decide +kernel))) rfl
theorem tw_169 : Cond.methodLink "java/util/ArrayList" (118) yJ15_checkIndex_7cf53 ∈ TBg := tb_in (List.mem_append_right _ (List.mem_of_getElem? (i := 169) (by decide +kernel))) rfl
theorem tw_170 : Cond.static yJ15_checkIndex_7cf53 ∈ TBg := tb_in (List.mem_append_right _ (List.mem_of_getElem? (i := 170) (by decide +kernel))) rfl
theorem tw_171 : Cond.code yJ15_checkIndex_7cf53 (prog_19_method_17_code) (2) (Option.some Jvm.ClassFile.FieldType.int) ∈ TBg := tb_in (List.mem_append_right _ (List.mem_of_getElem? (i := 171) (by decide +kernel))) rfl
theorem tw_172 : Cond.methodLink "java/util/Objects" (105) yJ3_checkIndex_8e157 ∈ TBg := tb_in (List.mem_append_right _ (List.mem_of_getElem? (i := 172) (by decide +kernel))) rfl
theorem tw_173 : Cond.static yJ3_checkIndex_8e157 ∈ TBg := tb_in (List.mem_append_right _ (List.mem_of_getElem? (i := 173) (by decide +kernel))) rfl
theorem tw_174 : Cond.code yJ3_checkIndex_8e157 (prog_23_method_11_code) (3) (Option.some Jvm.ClassFile.FieldType.int) ∈ TBg := tb_in (List.mem_append_right _ (List.mem_of_getElem? (i := 174) (by decide +kernel))) rfl
theorem tw_175 : Cond.methodLink "java/util/ArrayList" (123) yJx4a65c_elementData_915e3 ∈ TBg := tb_in (List.mem_append_right _ (List.mem_of_getElem? (i := 175) (by decide +kernel))) rfl
theorem tw_176 : Cond.instanceMethod yJx4a65c_elementData_915e3 ∈ TBg := tb_in (List.mem_append_right _ (List.mem_of_getElem? (i := 176) (by decide +kernel))) rfl
theorem tw_177 : Cond.selects "java/util/ArrayList" yJx4a65c_elementData_915e3 yJx4a65c_elementData_915e3 ∈ TBg := tb_in (List.mem_append_right _ (List.mem_of_getElem? (i := 177) (by decide +kernel))) rfl
theorem tw_178 : Cond.code yJx4a65c_elementData_915e3 (prog_15_method_18_code) (2) (Option.some (Jvm.ClassFile.FieldType.object "java/lang/Object")) ∈ TBg := tb_in (List.mem_append_right _ (List.mem_of_getElem? (i := 178) (by decide +kernel))) rfl
theorem tw_179 : Cond.fieldLink "KeyCommandInterpreter" (14) "KeyCommandInterpreter" "buffer" "LKeyCommandInterpreter$Row;" ∈ TBg := tb_in (List.mem_append_right _ (List.mem_of_getElem? (i := 179) (by decide +kernel))) rfl
theorem tw_180 : Cond.fieldLink "KeyCommandInterpreter" (18) "KeyCommandInterpreter" "pending" "LKeyCommandInterpreter$Row;" ∈ TBg := tb_in (List.mem_append_right _ (List.mem_of_getElem? (i := 180) (by decide +kernel))) rfl
theorem tw_181 : Cond.fieldLink "KeyCommandInterpreter" (21) "KeyCommandInterpreter" "waiting" "LKeyCommandInterpreter$Row;" ∈ TBg := tb_in (List.mem_append_right _ (List.mem_of_getElem? (i := 181) (by decide +kernel))) rfl
theorem tw_182 : Cond.fieldLink "KeyCommandInterpreter" (27) "KeyCommandInterpreter" "macros" "Ljava/util/ArrayList;" ∈ TBg := tb_in (List.mem_append_right _ (List.mem_of_getElem? (i := 182) (by decide +kernel))) rfl
theorem tw_183 : Cond.fieldLink "KeyCommandInterpreter" (35) "KeyCommandInterpreter" "contexts" "Ljava/util/ArrayList;" ∈ TBg := tb_in (List.mem_append_right _ (List.mem_of_getElem? (i := 183) (by decide +kernel))) rfl
theorem tw_184 : Cond.fieldLink "KeyCommandInterpreter" (41) "KeyCommandInterpreter" "stack" "Ljava/util/ArrayList;" ∈ TBg := tb_in (List.mem_append_right _ (List.mem_of_getElem? (i := 184) (by decide +kernel))) rfl
theorem tw_185 : Cond.fieldLink "KeyCommandInterpreter" (44) "KeyCommandInterpreter" "flags" "[I" ∈ TBg := tb_in (List.mem_append_right _ (List.mem_of_getElem? (i := 185) (by decide +kernel))) rfl
theorem tw_186 : Cond.fieldLink "KeyCommandInterpreter" (51) "KeyCommandInterpreter" "reports" "LKeyCommandInterpreter$ReportLog;" ∈ TBg := tb_in (List.mem_append_right _ (List.mem_of_getElem? (i := 186) (by decide +kernel))) rfl
theorem tw_187 : Cond.fieldLink "KeyCommandInterpreter" (55) "KeyCommandInterpreter" "timeout" "I" ∈ TBg := tb_in (List.mem_append_right _ (List.mem_of_getElem? (i := 187) (by decide +kernel))) rfl
theorem tw_188 : Cond.fieldLink "KeyCommandInterpreter" (59) "KeyCommandInterpreter" "remaining" "I" ∈ TBg := tb_in (List.mem_append_right _ (List.mem_of_getElem? (i := 188) (by decide +kernel))) rfl
theorem tw_189 : Cond.fieldLink "KeyCommandInterpreter" (62) "KeyCommandInterpreter" "recorded" "I" ∈ TBg := tb_in (List.mem_append_right _ (List.mem_of_getElem? (i := 189) (by decide +kernel))) rfl
theorem tw_190 : Cond.fieldLink "KeyCommandInterpreter" (65) "KeyCommandInterpreter" "playing" "I" ∈ TBg := tb_in (List.mem_append_right _ (List.mem_of_getElem? (i := 190) (by decide +kernel))) rfl
theorem tw_191 : Cond.fieldLink "KeyCommandInterpreter" (68) "KeyCommandInterpreter" "played" "I" ∈ TBg := tb_in (List.mem_append_right _ (List.mem_of_getElem? (i := 191) (by decide +kernel))) rfl
theorem tw_192 : Cond.laysFinal "KeyCommandInterpreter" "KeyCommandInterpreter" "buffer" "LKeyCommandInterpreter$Row;" ∈ TBg := tb_in (List.mem_append_right _ (List.mem_of_getElem? (i := 192) (by decide +kernel))) rfl
theorem tw_194 : Cond.laysFinal "KeyCommandInterpreter" "KeyCommandInterpreter" "pending" "LKeyCommandInterpreter$Row;" ∈ TBg := tb_in (List.mem_append_right _ (List.mem_of_getElem? (i := 194) (by decide +kernel))) rfl
theorem tw_196 : Cond.laysFinal "KeyCommandInterpreter" "KeyCommandInterpreter" "waiting" "LKeyCommandInterpreter$Row;" ∈ TBg := tb_in (List.mem_append_right _ (List.mem_of_getElem? (i := 196) (by decide +kernel))) rfl
theorem tw_198 : Cond.laysFinal "KeyCommandInterpreter" "KeyCommandInterpreter" "macros" "Ljava/util/ArrayList;" ∈ TBg := tb_in (List.mem_append_right _ (List.mem_of_getElem? (i := 198) (by decide +kernel))) rfl
theorem tw_200 : Cond.laysFinal "KeyCommandInterpreter" "KeyCommandInterpreter" "contexts" "Ljava/util/ArrayList;" ∈ TBg := tb_in (List.mem_append_right _ (List.mem_of_getElem? (i := 200) (by decide +kernel))) rfl
theorem tw_202 : Cond.laysFinal "KeyCommandInterpreter" "KeyCommandInterpreter" "stack" "Ljava/util/ArrayList;" ∈ TBg := tb_in (List.mem_append_right _ (List.mem_of_getElem? (i := 202) (by decide +kernel))) rfl
theorem tw_204 : Cond.laysFinal "KeyCommandInterpreter" "KeyCommandInterpreter" "flags" "[I" ∈ TBg := tb_in (List.mem_append_right _ (List.mem_of_getElem? (i := 204) (by decide +kernel))) rfl
theorem tw_206 : Cond.laysFinal "KeyCommandInterpreter" "KeyCommandInterpreter" "reports" "LKeyCommandInterpreter$ReportLog;" ∈ TBg := tb_in (List.mem_append_right _ (List.mem_of_getElem? (i := 206) (by decide +kernel))) rfl
theorem tw_208 : Cond.lays "KeyCommandInterpreter" "KeyCommandInterpreter" "timeout" "I" ∈ TBg := tb_in (List.mem_append_right _ (List.mem_of_getElem? (i := 208) (by decide +kernel))) rfl
theorem tw_210 : Cond.lays "KeyCommandInterpreter" "KeyCommandInterpreter" "remaining" "I" ∈ TBg := tb_in (List.mem_append_right _ (List.mem_of_getElem? (i := 210) (by decide +kernel))) rfl
theorem tw_212 : Cond.lays "KeyCommandInterpreter" "KeyCommandInterpreter" "recorded" "I" ∈ TBg := tb_in (List.mem_append_right _ (List.mem_of_getElem? (i := 212) (by decide +kernel))) rfl
theorem tw_214 : Cond.lays "KeyCommandInterpreter" "KeyCommandInterpreter" "playing" "I" ∈ TBg := tb_in (List.mem_append_right _ (List.mem_of_getElem? (i := 214) (by decide +kernel))) rfl
theorem tw_216 : Cond.lays "KeyCommandInterpreter" "KeyCommandInterpreter" "played" "I" ∈ TBg := tb_in (List.mem_append_right _ (List.mem_of_getElem? (i := 216) (by decide +kernel))) rfl
theorem tw_219 : Cond.methodLink "KeyCommandInterpreterLaw" (13) yX4_appendKey ∈ TBg := tb_in (List.mem_append_right _ (List.mem_of_getElem? (i := 219) (by decide +kernel))) rfl
theorem tw_220 : Cond.instanceMethod yX4_appendKey ∈ TBg := tb_in (List.mem_append_right _ (List.mem_of_getElem? (i := 220) (by decide +kernel))) rfl
theorem tw_221 : Cond.selects "KeyCommandInterpreter" yX4_appendKey yX4_appendKey ∈ TBg := tb_in (List.mem_append_right _ (List.mem_of_getElem? (i := 221) (by decide +kernel))) rfl
theorem tw_222 : Cond.code yX4_appendKey (prog_1_method_2_code) (2) (Option.some Jvm.ClassFile.FieldType.int) ∈ TBg := tb_in (List.mem_append_right _ (List.mem_of_getElem? (i := 222) (by decide +kernel))) rfl
theorem tw_223 : Cond.methodLink "KeyCommandInterpreter" (74) yX4_isKey ∈ TBg := tb_in (List.mem_append_right _ (List.mem_of_getElem? (i := 223) (by decide +kernel))) rfl
theorem tw_224 : Cond.static yX4_isKey ∈ TBg := tb_in (List.mem_append_right _ (List.mem_of_getElem? (i := 224) (by decide +kernel))) rfl
theorem tw_225 : Cond.code yX4_isKey (prog_1_method_35_code) (1) (Option.some Jvm.ClassFile.FieldType.boolean) ∈ TBg := tb_in (List.mem_append_right _ (List.mem_of_getElem? (i := 225) (by decide +kernel))) rfl
theorem tw_226 : Cond.methodLinkNest "KeyCommandInterpreter" (78) yX3_isFull "KeyCommandInterpreter" ∈ lw_tbl := List.mem_append_right _ (List.mem_of_getElem? (i := 226) (by decide +kernel))
theorem tw_228 : Cond.instanceMethod yX3_isFull ∈ TBg := tb_in (List.mem_append_right _ (List.mem_of_getElem? (i := 228) (by decide +kernel))) rfl
theorem tw_229 : Cond.code yX3_isFull (prog_5_method_3_code) (1) (Option.some Jvm.ClassFile.FieldType.boolean) ∈ TBg := tb_in (List.mem_append_right _ (List.mem_of_getElem? (i := 229) (by decide +kernel))) rfl
theorem tw_230 : Cond.methodLinkNest "KeyCommandInterpreter" (82) yX3_add "KeyCommandInterpreter" ∈ lw_tbl := List.mem_append_right _ (List.mem_of_getElem? (i := 230) (by decide +kernel))
theorem tw_232 : Cond.instanceMethod yX3_add ∈ TBg := tb_in (List.mem_append_right _ (List.mem_of_getElem? (i := 232) (by decide +kernel))) rfl
theorem tw_233 : Cond.code yX3_add (prog_5_method_4_code) (2) (Option.none : Option Jvm.ClassFile.FieldType) ∈ TBg := tb_in (List.mem_append_right _ (List.mem_of_getElem? (i := 233) (by decide +kernel))) rfl
theorem tw_234 : Cond.methodLinkNest "KeyCommandInterpreter" (84) yX3_size "KeyCommandInterpreter" ∈ lw_tbl := List.mem_append_right _ (List.mem_of_getElem? (i := 234) (by decide +kernel))
theorem tw_236 : Cond.instanceMethod yX3_size ∈ TBg := tb_in (List.mem_append_right _ (List.mem_of_getElem? (i := 236) (by decide +kernel))) rfl
theorem tw_237 : Cond.code yX3_size (prog_5_method_2_code) (1) (Option.some Jvm.ClassFile.FieldType.int) ∈ TBg := tb_in (List.mem_append_right _ (List.mem_of_getElem? (i := 237) (by decide +kernel))) rfl
theorem tw_238 : Cond.methodLink "KeyCommandInterpreterLaw" (18) yX4_clearKeys ∈ TBg := tb_in (List.mem_append_right _ (List.mem_of_getElem? (i := 238) (by decide +kernel))) rfl
theorem tw_239 : Cond.instanceMethod yX4_clearKeys ∈ TBg := tb_in (List.mem_append_right _ (List.mem_of_getElem? (i := 239) (by decide +kernel))) rfl
theorem tw_240 : Cond.selects "KeyCommandInterpreter" yX4_clearKeys yX4_clearKeys ∈ TBg := tb_in (List.mem_append_right _ (List.mem_of_getElem? (i := 240) (by decide +kernel))) rfl
theorem tw_241 : Cond.code yX4_clearKeys (prog_1_method_3_code) (2) (Option.some Jvm.ClassFile.FieldType.int) ∈ TBg := tb_in (List.mem_append_right _ (List.mem_of_getElem? (i := 241) (by decide +kernel))) rfl
theorem tw_242 : Cond.methodLinkNest "KeyCommandInterpreter" (88) yX3_clear "KeyCommandInterpreter" ∈ lw_tbl := List.mem_append_right _ (List.mem_of_getElem? (i := 242) (by decide +kernel))
theorem tw_244 : Cond.instanceMethod yX3_clear ∈ TBg := tb_in (List.mem_append_right _ (List.mem_of_getElem? (i := 244) (by decide +kernel))) rfl
theorem tw_245 : Cond.code yX3_clear (prog_5_method_7_code) (1) (Option.none : Option Jvm.ClassFile.FieldType) ∈ TBg := tb_in (List.mem_append_right _ (List.mem_of_getElem? (i := 245) (by decide +kernel))) rfl
theorem tw_246 : Cond.methodLink "KeyCommandInterpreterLaw" (23) yX4_bind ∈ TBg := tb_in (List.mem_append_right _ (List.mem_of_getElem? (i := 246) (by decide +kernel))) rfl
theorem tw_247 : Cond.instanceMethod yX4_bind ∈ TBg := tb_in (List.mem_append_right _ (List.mem_of_getElem? (i := 247) (by decide +kernel))) rfl
theorem tw_248 : Cond.selects "KeyCommandInterpreter" yX4_bind yX4_bind ∈ TBg := tb_in (List.mem_append_right _ (List.mem_of_getElem? (i := 248) (by decide +kernel))) rfl
theorem tw_249 : Cond.code yX4_bind (prog_1_method_4_code) (7) (Option.some Jvm.ClassFile.FieldType.int) ∈ TBg := tb_in (List.mem_append_right _ (List.mem_of_getElem? (i := 249) (by decide +kernel))) rfl
theorem tw_250 : Cond.methodLink "KeyCommandInterpreter" (94) yX4_isCondition ∈ TBg := tb_in (List.mem_append_right _ (List.mem_of_getElem? (i := 250) (by decide +kernel))) rfl
theorem tw_252 : Cond.instanceMethod yX4_isCondition ∈ TBg := tb_in (List.mem_append_right _ (List.mem_of_getElem? (i := 252) (by decide +kernel))) rfl
theorem tw_253 : Cond.code yX4_isCondition (prog_1_method_40_code) (3) (Option.some Jvm.ClassFile.FieldType.boolean) ∈ TBg := tb_in (List.mem_append_right _ (List.mem_of_getElem? (i := 253) (by decide +kernel))) rfl
theorem tw_254 : Cond.methodLink "KeyCommandInterpreter" (144) yX4_isFlag ∈ TBg := tb_in (List.mem_append_right _ (List.mem_of_getElem? (i := 254) (by decide +kernel))) rfl
theorem tw_256 : Cond.instanceMethod yX4_isFlag ∈ TBg := tb_in (List.mem_append_right _ (List.mem_of_getElem? (i := 256) (by decide +kernel))) rfl
theorem tw_257 : Cond.code yX4_isFlag (prog_1_method_36_code) (2) (Option.some Jvm.ClassFile.FieldType.boolean) ∈ TBg := tb_in (List.mem_append_right _ (List.mem_of_getElem? (i := 257) (by decide +kernel))) rfl
theorem tw_258 : Cond.methodLink "KeyCommandInterpreter" (137) yX4_isBetween ∈ TBg := tb_in (List.mem_append_right _ (List.mem_of_getElem? (i := 258) (by decide +kernel))) rfl
theorem tw_259 : Cond.static yX4_isBetween ∈ TBg := tb_in (List.mem_append_right _ (List.mem_of_getElem? (i := 259) (by decide +kernel))) rfl
theorem tw_260 : Cond.code yX4_isBetween (prog_1_method_34_code) (3) (Option.some Jvm.ClassFile.FieldType.boolean) ∈ TBg := tb_in (List.mem_append_right _ (List.mem_of_getElem? (i := 260) (by decide +kernel))) rfl
theorem tw_261 : Cond.methodLink "KeyCommandInterpreter" (98) yX4_isAction ∈ TBg := tb_in (List.mem_append_right _ (List.mem_of_getElem? (i := 261) (by decide +kernel))) rfl
theorem tw_263 : Cond.instanceMethod yX4_isAction ∈ TBg := tb_in (List.mem_append_right _ (List.mem_of_getElem? (i := 263) (by decide +kernel))) rfl
theorem tw_264 : Cond.code yX4_isAction (prog_1_method_41_code) (3) (Option.some Jvm.ClassFile.FieldType.boolean) ∈ TBg := tb_in (List.mem_append_right _ (List.mem_of_getElem? (i := 264) (by decide +kernel))) rfl
theorem tw_265 : Cond.methodLink "KeyCommandInterpreter" (131) yX4_isMacro ∈ TBg := tb_in (List.mem_append_right _ (List.mem_of_getElem? (i := 265) (by decide +kernel))) rfl
theorem tw_267 : Cond.instanceMethod yX4_isMacro ∈ TBg := tb_in (List.mem_append_right _ (List.mem_of_getElem? (i := 267) (by decide +kernel))) rfl
theorem tw_268 : Cond.code yX4_isMacro (prog_1_method_38_code) (2) (Option.some Jvm.ClassFile.FieldType.boolean) ∈ TBg := tb_in (List.mem_append_right _ (List.mem_of_getElem? (i := 268) (by decide +kernel))) rfl
theorem tw_269 : Cond.classLink "KeyCommandInterpreter" (109) "KeyCommandInterpreter$Binding" ∈ TBg := tb_in (List.mem_append_right _ (List.mem_of_getElem? (i := 269) (by decide +kernel))) rfl
theorem tw_270 : Cond.instantiable "KeyCommandInterpreter$Binding" (5) ∈ TBg := tb_in (List.mem_append_right _ (List.mem_of_getElem? (i := 270) (by decide +kernel))) rfl
theorem tw_271 : Cond.methodLinkNest "KeyCommandInterpreter" (111) yX3_copy "KeyCommandInterpreter" ∈ lw_tbl := List.mem_append_right _ (List.mem_of_getElem? (i := 271) (by decide +kernel))
theorem tw_273 : Cond.instanceMethod yX3_copy ∈ TBg := tb_in (List.mem_append_right _ (List.mem_of_getElem? (i := 273) (by decide +kernel))) rfl
theorem tw_274 : Cond.code yX3_copy (prog_5_method_8_code) (3) (Option.some (Jvm.ClassFile.FieldType.object "KeyCommandInterpreter$Row")) ∈ TBg := tb_in (List.mem_append_right _ (List.mem_of_getElem? (i := 274) (by decide +kernel))) rfl
theorem tw_275 : Cond.classLink "KeyCommandInterpreter$Row" (16) "KeyCommandInterpreter$Row" ∈ TBg := tb_in (List.mem_append_right _ (List.mem_of_getElem? (i := 275) (by decide +kernel))) rfl
theorem tw_276 : Cond.methodLink "KeyCommandInterpreter$Row" (25) yX3_init ∈ TBg := tb_in (List.mem_append_right _ (List.mem_of_getElem? (i := 276) (by decide +kernel))) rfl
theorem tw_277 : Cond.methodLink "KeyCommandInterpreter$Row" (28) yX3_add ∈ TBg := tb_in (List.mem_append_right _ (List.mem_of_getElem? (i := 277) (by decide +kernel))) rfl
theorem tw_278 : Cond.methodLinkNest "KeyCommandInterpreter" (115) yX0_init "KeyCommandInterpreter" ∈ lw_tbl := List.mem_append_right _ (List.mem_of_getElem? (i := 278) (by decide +kernel))
theorem tw_279 : Cond.instanceMethod yX0_init ∈ TBg := tb_in (List.mem_append_right _ (List.mem_of_getElem? (i := 279) (by decide +kernel))) rfl
theorem tw_280 : Cond.code yX0_init (prog_2_method_1_code) (6) (Option.none : Option Jvm.ClassFile.FieldType) ∈ TBg := tb_in (List.mem_append_right _ (List.mem_of_getElem? (i := 280) (by decide +kernel))) rfl
theorem tw_281 : Cond.methodLink "KeyCommandInterpreter$Binding" (3) ⟨"java/lang/Object", "<init>", "()V"⟩ ∈ TBg := tb_in (List.mem_append_right _ (List.mem_of_getElem? (i := 281) (by decide +kernel))) rfl
theorem tw_282 : Cond.fieldLink "KeyCommandInterpreter$Binding" (9) "KeyCommandInterpreter$Binding" "sequence" "LKeyCommandInterpreter$Row;" ∈ TBg := tb_in (List.mem_append_right _ (List.mem_of_getElem? (i := 282) (by decide +kernel))) rfl
theorem tw_283 : Cond.fieldLink "KeyCommandInterpreter$Binding" (15) "KeyCommandInterpreter$Binding" "conditionFlag" "I" ∈ TBg := tb_in (List.mem_append_right _ (List.mem_of_getElem? (i := 283) (by decide +kernel))) rfl
theorem tw_284 : Cond.fieldLink "KeyCommandInterpreter$Binding" (19) "KeyCommandInterpreter$Binding" "conditionValue" "I" ∈ TBg := tb_in (List.mem_append_right _ (List.mem_of_getElem? (i := 284) (by decide +kernel))) rfl
theorem tw_285 : Cond.fieldLink "KeyCommandInterpreter$Binding" (22) "KeyCommandInterpreter$Binding" "action" "I" ∈ TBg := tb_in (List.mem_append_right _ (List.mem_of_getElem? (i := 285) (by decide +kernel))) rfl
theorem tw_286 : Cond.fieldLinkNest "KeyCommandInterpreter" (191) "KeyCommandInterpreter$Binding" "action" "I" "KeyCommandInterpreter" ∈ lw_tbl := List.mem_append_right _ (List.mem_of_getElem? (i := 286) (by decide +kernel))
theorem tw_287 : Cond.fieldLink "KeyCommandInterpreter$Binding" (25) "KeyCommandInterpreter$Binding" "argument" "I" ∈ TBg := tb_in (List.mem_append_right _ (List.mem_of_getElem? (i := 287) (by decide +kernel))) rfl
theorem tw_288 : Cond.fieldLinkNest "KeyCommandInterpreter" (188) "KeyCommandInterpreter$Binding" "argument" "I" "KeyCommandInterpreter" ∈ lw_tbl := List.mem_append_right _ (List.mem_of_getElem? (i := 288) (by decide +kernel))
theorem tw_289 : Cond.laysFinal "KeyCommandInterpreter$Binding" "KeyCommandInterpreter$Binding" "sequence" "LKeyCommandInterpreter$Row;" ∈ TBg := tb_in (List.mem_append_right _ (List.mem_of_getElem? (i := 289) (by decide +kernel))) rfl
theorem tw_291 : Cond.laysFinal "KeyCommandInterpreter$Binding" "KeyCommandInterpreter$Binding" "conditionFlag" "I" ∈ TBg := tb_in (List.mem_append_right _ (List.mem_of_getElem? (i := 291) (by decide +kernel))) rfl
theorem tw_293 : Cond.laysFinal "KeyCommandInterpreter$Binding" "KeyCommandInterpreter$Binding" "conditionValue" "I" ∈ TBg := tb_in (List.mem_append_right _ (List.mem_of_getElem? (i := 293) (by decide +kernel))) rfl
theorem tw_295 : Cond.laysFinal "KeyCommandInterpreter$Binding" "KeyCommandInterpreter$Binding" "action" "I" ∈ TBg := tb_in (List.mem_append_right _ (List.mem_of_getElem? (i := 295) (by decide +kernel))) rfl
theorem tw_297 : Cond.laysFinal "KeyCommandInterpreter$Binding" "KeyCommandInterpreter$Binding" "argument" "I" ∈ TBg := tb_in (List.mem_append_right _ (List.mem_of_getElem? (i := 297) (by decide +kernel))) rfl
theorem tw_300 : Cond.methodLink "KeyCommandInterpreterLaw" (28) yX4_unbind ∈ TBg := tb_in (List.mem_append_right _ (List.mem_of_getElem? (i := 300) (by decide +kernel))) rfl
theorem tw_301 : Cond.instanceMethod yX4_unbind ∈ TBg := tb_in (List.mem_append_right _ (List.mem_of_getElem? (i := 301) (by decide +kernel))) rfl
theorem tw_302 : Cond.selects "KeyCommandInterpreter" yX4_unbind yX4_unbind ∈ TBg := tb_in (List.mem_append_right _ (List.mem_of_getElem? (i := 302) (by decide +kernel))) rfl
theorem tw_303 : Cond.code yX4_unbind (prog_1_method_5_code) (4) (Option.some Jvm.ClassFile.FieldType.int) ∈ TBg := tb_in (List.mem_append_right _ (List.mem_of_getElem? (i := 303) (by decide +kernel))) rfl
theorem tw_304 : Cond.methodLink "KeyCommandInterpreter" (118) yX4_isBinding ∈ TBg := tb_in (List.mem_append_right _ (List.mem_of_getElem? (i := 304) (by decide +kernel))) rfl
theorem tw_306 : Cond.instanceMethod yX4_isBinding ∈ TBg := tb_in (List.mem_append_right _ (List.mem_of_getElem? (i := 306) (by decide +kernel))) rfl
theorem tw_307 : Cond.code yX4_isBinding (prog_1_method_39_code) (3) (Option.some Jvm.ClassFile.FieldType.boolean) ∈ TBg := tb_in (List.mem_append_right _ (List.mem_of_getElem? (i := 307) (by decide +kernel))) rfl
theorem tw_308 : Cond.methodLink "KeyCommandInterpreter" (121) yJx4a65c_remove_915e3 ∈ TBg := tb_in (List.mem_append_right _ (List.mem_of_getElem? (i := 308) (by decide +kernel))) rfl
theorem tw_309 : Cond.instanceMethod yJx4a65c_remove_915e3 ∈ TBg := tb_in (List.mem_append_right _ (List.mem_of_getElem? (i := 309) (by decide +kernel))) rfl
theorem tw_310 : Cond.selects "java/util/ArrayList" yJx4a65c_remove_915e3 yJx4a65c_remove_915e3 ∈ TBg := tb_in (List.mem_append_right _ (List.mem_of_getElem? (i := 310) (by decide +kernel))) rfl
theorem tw_311 : Cond.code yJx4a65c_remove_915e3 (prog_15_method_29_code) (4) (Option.some (Jvm.ClassFile.FieldType.object "java/lang/Object")) ∈ TBg := tb_in (List.mem_append_right _ (List.mem_of_getElem? (i := 311) (by decide +kernel))) rfl
theorem tw_312 : Cond.methodLink "java/util/ArrayList" (144) yJx4a65c_fastRemove_b59b0 ∈ TBg := tb_in (List.mem_append_right _ (List.mem_of_getElem? (i := 312) (by decide +kernel))) rfl
theorem tw_314 : Cond.instanceMethod yJx4a65c_fastRemove_b59b0 ∈ TBg := tb_in (List.mem_append_right _ (List.mem_of_getElem? (i := 314) (by decide +kernel))) rfl
theorem tw_315 : Cond.code yJx4a65c_fastRemove_b59b0 (prog_15_method_39_code) (4) (Option.none : Option Jvm.ClassFile.FieldType) ∈ TBg := tb_in (List.mem_append_right _ (List.mem_of_getElem? (i := 315) (by decide +kernel))) rfl
theorem tw_316 : Cond.methodLink "java/util/ArrayList" (112) ⟨"java/lang/System", "arraycopy", "(Ljava/lang/Object;ILjava/lang/Object;II)V"⟩ ∈ TBg := tb_in (List.mem_append_right _ (List.mem_of_getElem? (i := 316) (by decide +kernel))) rfl
theorem tw_317 : Cond.methodLink "KeyCommandInterpreterLaw" (33) yX4_bindingCount ∈ TBg := tb_in (List.mem_append_right _ (List.mem_of_getElem? (i := 317) (by decide +kernel))) rfl
theorem tw_318 : Cond.instanceMethod yX4_bindingCount ∈ TBg := tb_in (List.mem_append_right _ (List.mem_of_getElem? (i := 318) (by decide +kernel))) rfl
theorem tw_319 : Cond.selects "KeyCommandInterpreter" yX4_bindingCount yX4_bindingCount ∈ TBg := tb_in (List.mem_append_right _ (List.mem_of_getElem? (i := 319) (by decide +kernel))) rfl
theorem tw_320 : Cond.code yX4_bindingCount (prog_1_method_6_code) (2) (Option.some Jvm.ClassFile.FieldType.int) ∈ TBg := tb_in (List.mem_append_right _ (List.mem_of_getElem? (i := 320) (by decide +kernel))) rfl
theorem tw_321 : Cond.methodLink "KeyCommandInterpreterLaw" (37) yX4_shadowedBy ∈ TBg := tb_in (List.mem_append_right _ (List.mem_of_getElem? (i := 321) (by decide +kernel))) rfl
theorem tw_322 : Cond.instanceMethod yX4_shadowedBy ∈ TBg := tb_in (List.mem_append_right _ (List.mem_of_getElem? (i := 322) (by decide +kernel))) rfl
theorem tw_323 : Cond.selects "KeyCommandInterpreter" yX4_shadowedBy yX4_shadowedBy ∈ TBg := tb_in (List.mem_append_right _ (List.mem_of_getElem? (i := 323) (by decide +kernel))) rfl
theorem tw_324 : Cond.code yX4_shadowedBy (prog_1_method_7_code) (6) (Option.some Jvm.ClassFile.FieldType.int) ∈ TBg := tb_in (List.mem_append_right _ (List.mem_of_getElem? (i := 324) (by decide +kernel))) rfl
theorem tw_325 : Cond.methodLinkNest "KeyCommandInterpreter" (124) yX0_shadows "KeyCommandInterpreter" ∈ lw_tbl := List.mem_append_right _ (List.mem_of_getElem? (i := 325) (by decide +kernel))
theorem tw_327 : Cond.instanceMethod yX0_shadows ∈ TBg := tb_in (List.mem_append_right _ (List.mem_of_getElem? (i := 327) (by decide +kernel))) rfl
theorem tw_328 : Cond.code yX0_shadows (prog_2_method_5_code) (2) (Option.some Jvm.ClassFile.FieldType.boolean) ∈ TBg := tb_in (List.mem_append_right _ (List.mem_of_getElem? (i := 328) (by decide +kernel))) rfl
theorem tw_329 : Cond.methodLinkNest "KeyCommandInterpreter$Binding" (28) yX3_size "KeyCommandInterpreter" ∈ lw_tbl := List.mem_append_right _ (List.mem_of_getElem? (i := 329) (by decide +kernel))
theorem tw_330 : Cond.methodLink "KeyCommandInterpreter$Binding" (38) yX0_isFor ∈ TBg := tb_in (List.mem_append_right _ (List.mem_of_getElem? (i := 330) (by decide +kernel))) rfl
theorem tw_332 : Cond.instanceMethod yX0_isFor ∈ TBg := tb_in (List.mem_append_right _ (List.mem_of_getElem? (i := 332) (by decide +kernel))) rfl
theorem tw_333 : Cond.code yX0_isFor (prog_2_method_3_code) (3) (Option.some Jvm.ClassFile.FieldType.boolean) ∈ TBg := tb_in (List.mem_append_right _ (List.mem_of_getElem? (i := 333) (by decide +kernel))) rfl
theorem tw_334 : Cond.methodLinkNest "KeyCommandInterpreter$Binding" (34) yX3_sharesBeginning "KeyCommandInterpreter" ∈ lw_tbl := List.mem_append_right _ (List.mem_of_getElem? (i := 334) (by decide +kernel))
theorem tw_336 : Cond.instanceMethod yX3_sharesBeginning ∈ TBg := tb_in (List.mem_append_right _ (List.mem_of_getElem? (i := 336) (by decide +kernel))) rfl
theorem tw_337 : Cond.code yX3_sharesBeginning (prog_5_method_9_code) (4) (Option.some Jvm.ClassFile.FieldType.boolean) ∈ TBg := tb_in (List.mem_append_right _ (List.mem_of_getElem? (i := 337) (by decide +kernel))) rfl
theorem tw_338 : Cond.methodLink "KeyCommandInterpreterLaw" (41) yX4_press ∈ TBg := tb_in (List.mem_append_right _ (List.mem_of_getElem? (i := 338) (by decide +kernel))) rfl
theorem tw_339 : Cond.instanceMethod yX4_press ∈ TBg := tb_in (List.mem_append_right _ (List.mem_of_getElem? (i := 339) (by decide +kernel))) rfl
theorem tw_340 : Cond.selects "KeyCommandInterpreter" yX4_press yX4_press ∈ TBg := tb_in (List.mem_append_right _ (List.mem_of_getElem? (i := 340) (by decide +kernel))) rfl
theorem tw_341 : Cond.code yX4_press (prog_1_method_8_code) (3) (Option.some Jvm.ClassFile.FieldType.int) ∈ TBg := tb_in (List.mem_append_right _ (List.mem_of_getElem? (i := 341) (by decide +kernel))) rfl
theorem tw_342 : Cond.methodLink "KeyCommandInterpreter" (134) yX4_processWaitingKeys ∈ TBg := tb_in (List.mem_append_right _ (List.mem_of_getElem? (i := 342) (by decide +kernel))) rfl
theorem tw_344 : Cond.instanceMethod yX4_processWaitingKeys ∈ TBg := tb_in (List.mem_append_right _ (List.mem_of_getElem? (i := 344) (by decide +kernel))) rfl
theorem tw_345 : Cond.code yX4_processWaitingKeys (prog_1_method_25_code) (3) (Option.none : Option Jvm.ClassFile.FieldType) ∈ TBg := tb_in (List.mem_append_right _ (List.mem_of_getElem? (i := 345) (by decide +kernel))) rfl
theorem tw_346 : Cond.constant "KeyCommandInterpreter" (163) (100000) ∈ TBg := tb_in (List.mem_append_right _ (List.mem_of_getElem? (i := 346) (by decide +kernel))) rfl
theorem tw_347 : Cond.methodLinkNest "KeyCommandInterpreter" (164) yX3_removeLast "KeyCommandInterpreter" ∈ lw_tbl := List.mem_append_right _ (List.mem_of_getElem? (i := 347) (by decide +kernel))
theorem tw_349 : Cond.instanceMethod yX3_removeLast ∈ TBg := tb_in (List.mem_append_right _ (List.mem_of_getElem? (i := 349) (by decide +kernel))) rfl
theorem tw_350 : Cond.code yX3_removeLast (prog_5_method_6_code) (1) (Option.some Jvm.ClassFile.FieldType.int) ∈ TBg := tb_in (List.mem_append_right _ (List.mem_of_getElem? (i := 350) (by decide +kernel))) rfl
theorem tw_351 : Cond.methodLink "KeyCommandInterpreter" (167) yX4_isExtensible ∈ TBg := tb_in (List.mem_append_right _ (List.mem_of_getElem? (i := 351) (by decide +kernel))) rfl
theorem tw_353 : Cond.instanceMethod yX4_isExtensible ∈ TBg := tb_in (List.mem_append_right _ (List.mem_of_getElem? (i := 353) (by decide +kernel))) rfl
theorem tw_354 : Cond.code yX4_isExtensible (prog_1_method_26_code) (5) (Option.some Jvm.ClassFile.FieldType.boolean) ∈ TBg := tb_in (List.mem_append_right _ (List.mem_of_getElem? (i := 354) (by decide +kernel))) rfl
theorem tw_355 : Cond.methodLinkNest "KeyCommandInterpreter" (170) yX0_isLongerThan "KeyCommandInterpreter" ∈ lw_tbl := List.mem_append_right _ (List.mem_of_getElem? (i := 355) (by decide +kernel))
theorem tw_357 : Cond.instanceMethod yX0_isLongerThan ∈ TBg := tb_in (List.mem_append_right _ (List.mem_of_getElem? (i := 357) (by decide +kernel))) rfl
theorem tw_358 : Cond.code yX0_isLongerThan (prog_2_method_4_code) (2) (Option.some Jvm.ClassFile.FieldType.boolean) ∈ TBg := tb_in (List.mem_append_right _ (List.mem_of_getElem? (i := 358) (by decide +kernel))) rfl
theorem tw_359 : Cond.methodLinkNest "KeyCommandInterpreter" (174) yX0_holds "KeyCommandInterpreter" ∈ lw_tbl := List.mem_append_right _ (List.mem_of_getElem? (i := 359) (by decide +kernel))
theorem tw_361 : Cond.instanceMethod yX0_holds ∈ TBg := tb_in (List.mem_append_right _ (List.mem_of_getElem? (i := 361) (by decide +kernel))) rfl
theorem tw_362 : Cond.code yX0_holds (prog_2_method_2_code) (2) (Option.some Jvm.ClassFile.FieldType.boolean) ∈ TBg := tb_in (List.mem_append_right _ (List.mem_of_getElem? (i := 362) (by decide +kernel))) rfl
theorem tw_363 : Cond.methodLink "KeyCommandInterpreter" (141) yX4_releasePending ∈ TBg := tb_in (List.mem_append_right _ (List.mem_of_getElem? (i := 363) (by decide +kernel))) rfl
theorem tw_365 : Cond.instanceMethod yX4_releasePending ∈ TBg := tb_in (List.mem_append_right _ (List.mem_of_getElem? (i := 365) (by decide +kernel))) rfl
theorem tw_366 : Cond.code yX4_releasePending (prog_1_method_27_code) (5) (Option.none : Option Jvm.ClassFile.FieldType) ∈ TBg := tb_in (List.mem_append_right _ (List.mem_of_getElem? (i := 366) (by decide +kernel))) rfl
theorem tw_367 : Cond.methodLink "KeyCommandInterpreter" (151) yX4_findBinding ∈ TBg := tb_in (List.mem_append_right _ (List.mem_of_getElem? (i := 367) (by decide +kernel))) rfl
theorem tw_369 : Cond.instanceMethod yX4_findBinding ∈ TBg := tb_in (List.mem_append_right _ (List.mem_of_getElem? (i := 369) (by decide +kernel))) rfl
theorem tw_370 : Cond.code yX4_findBinding (prog_1_method_28_code) (6) (Option.some Jvm.ClassFile.FieldType.int) ∈ TBg := tb_in (List.mem_append_right _ (List.mem_of_getElem? (i := 370) (by decide +kernel))) rfl
theorem tw_371 : Cond.methodLinkNest "KeyCommandInterpreter" (184) yX0_isFor "KeyCommandInterpreter" ∈ lw_tbl := List.mem_append_right _ (List.mem_of_getElem? (i := 371) (by decide +kernel))
theorem tw_372 : Cond.methodLinkNest "KeyCommandInterpreter" (147) yX3_at "KeyCommandInterpreter" ∈ lw_tbl := List.mem_append_right _ (List.mem_of_getElem? (i := 372) (by decide +kernel))
theorem tw_374 : Cond.instanceMethod yX3_at ∈ TBg := tb_in (List.mem_append_right _ (List.mem_of_getElem? (i := 374) (by decide +kernel))) rfl
theorem tw_375 : Cond.code yX3_at (prog_5_method_5_code) (2) (Option.some Jvm.ClassFile.FieldType.int) ∈ TBg := tb_in (List.mem_append_right _ (List.mem_of_getElem? (i := 375) (by decide +kernel))) rfl
theorem tw_376 : Cond.methodLinkNest "KeyCommandInterpreter" (178) yX2_add "KeyCommandInterpreter" ∈ lw_tbl := List.mem_append_right _ (List.mem_of_getElem? (i := 376) (by decide +kernel))
theorem tw_378 : Cond.instanceMethod yX2_add ∈ TBg := tb_in (List.mem_append_right _ (List.mem_of_getElem? (i := 378) (by decide +kernel))) rfl
theorem tw_379 : Cond.code yX2_add (prog_4_method_2_code) (4) (Option.none : Option Jvm.ClassFile.FieldType) ∈ TBg := tb_in (List.mem_append_right _ (List.mem_of_getElem? (i := 379) (by decide +kernel))) rfl
theorem tw_380 : Cond.methodLink "KeyCommandInterpreter$ReportLog" (22) yJ9_floorMod_7cf53 ∈ TBg := tb_in (List.mem_append_right _ (List.mem_of_getElem? (i := 380) (by decide +kernel))) rfl
theorem tw_381 : Cond.static yJ9_floorMod_7cf53 ∈ TBg := tb_in (List.mem_append_right _ (List.mem_of_getElem? (i := 381) (by decide +kernel))) rfl
theorem tw_382 : Cond.code yJ9_floorMod_7cf53 (prog_11_method_50_code) (3) (Option.some Jvm.ClassFile.FieldType.int) ∈ TBg := tb_in (List.mem_append_right _ (List.mem_of_getElem? (i := 382) (by decide +kernel))) rfl
theorem tw_383 : Cond.methodLink "KeyCommandInterpreter" (181) yX4_perform ∈ TBg := tb_in (List.mem_append_right _ (List.mem_of_getElem? (i := 383) (by decide +kernel))) rfl
theorem tw_385 : Cond.instanceMethod yX4_perform ∈ TBg := tb_in (List.mem_append_right _ (List.mem_of_getElem? (i := 385) (by decide +kernel))) rfl
theorem tw_386 : Cond.code yX4_perform (prog_1_method_29_code) (5) (Option.none : Option Jvm.ClassFile.FieldType) ∈ TBg := tb_in (List.mem_append_right _ (List.mem_of_getElem? (i := 386) (by decide +kernel))) rfl
theorem tw_387 : Cond.methodLink "KeyCommandInterpreter" (194) yX4_isRefused ∈ TBg := tb_in (List.mem_append_right _ (List.mem_of_getElem? (i := 387) (by decide +kernel))) rfl
theorem tw_389 : Cond.instanceMethod yX4_isRefused ∈ TBg := tb_in (List.mem_append_right _ (List.mem_of_getElem? (i := 389) (by decide +kernel))) rfl
theorem tw_390 : Cond.code yX4_isRefused (prog_1_method_30_code) (3) (Option.some Jvm.ClassFile.FieldType.boolean) ∈ TBg := tb_in (List.mem_append_right _ (List.mem_of_getElem? (i := 390) (by decide +kernel))) rfl
theorem tw_391 : Cond.methodLink "KeyCommandInterpreter" (197) yX4_play ∈ TBg := tb_in (List.mem_append_right _ (List.mem_of_getElem? (i := 391) (by decide +kernel))) rfl
theorem tw_393 : Cond.instanceMethod yX4_play ∈ TBg := tb_in (List.mem_append_right _ (List.mem_of_getElem? (i := 393) (by decide +kernel))) rfl
theorem tw_394 : Cond.code yX4_play (prog_1_method_31_code) (4) (Option.none : Option Jvm.ClassFile.FieldType) ∈ TBg := tb_in (List.mem_append_right _ (List.mem_of_getElem? (i := 394) (by decide +kernel))) rfl
theorem tw_395 : Cond.methodLink "KeyCommandInterpreter" (200) yX4_popContext ∈ TBg := tb_in (List.mem_append_right _ (List.mem_of_getElem? (i := 395) (by decide +kernel))) rfl
theorem tw_397 : Cond.instanceMethod yX4_popContext ∈ TBg := tb_in (List.mem_append_right _ (List.mem_of_getElem? (i := 397) (by decide +kernel))) rfl
theorem tw_398 : Cond.code yX4_popContext (prog_1_method_33_code) (1) (Option.none : Option Jvm.ClassFile.FieldType) ∈ TBg := tb_in (List.mem_append_right _ (List.mem_of_getElem? (i := 398) (by decide +kernel))) rfl
theorem tw_399 : Cond.methodLink "KeyCommandInterpreter" (203) yX4_setFlag ∈ TBg := tb_in (List.mem_append_right _ (List.mem_of_getElem? (i := 399) (by decide +kernel))) rfl
theorem tw_400 : Cond.instanceMethod yX4_setFlag ∈ TBg := tb_in (List.mem_append_right _ (List.mem_of_getElem? (i := 400) (by decide +kernel))) rfl
theorem tw_401 : Cond.selects "KeyCommandInterpreter" yX4_setFlag yX4_setFlag ∈ TBg := tb_in (List.mem_append_right _ (List.mem_of_getElem? (i := 401) (by decide +kernel))) rfl
theorem tw_402 : Cond.code yX4_setFlag (prog_1_method_11_code) (4) (Option.some Jvm.ClassFile.FieldType.int) ∈ TBg := tb_in (List.mem_append_right _ (List.mem_of_getElem? (i := 402) (by decide +kernel))) rfl
theorem tw_403 : Cond.methodLink "KeyCommandInterpreterLaw" (45) yX4_tick ∈ TBg := tb_in (List.mem_append_right _ (List.mem_of_getElem? (i := 403) (by decide +kernel))) rfl
theorem tw_404 : Cond.instanceMethod yX4_tick ∈ TBg := tb_in (List.mem_append_right _ (List.mem_of_getElem? (i := 404) (by decide +kernel))) rfl
theorem tw_405 : Cond.selects "KeyCommandInterpreter" yX4_tick yX4_tick ∈ TBg := tb_in (List.mem_append_right _ (List.mem_of_getElem? (i := 405) (by decide +kernel))) rfl
theorem tw_406 : Cond.code yX4_tick (prog_1_method_9_code) (4) (Option.some Jvm.ClassFile.FieldType.int) ∈ TBg := tb_in (List.mem_append_right _ (List.mem_of_getElem? (i := 406) (by decide +kernel))) rfl
theorem tw_407 : Cond.methodLink "KeyCommandInterpreterLaw" (49) yX4_setTimeout ∈ TBg := tb_in (List.mem_append_right _ (List.mem_of_getElem? (i := 407) (by decide +kernel))) rfl
theorem tw_408 : Cond.instanceMethod yX4_setTimeout ∈ TBg := tb_in (List.mem_append_right _ (List.mem_of_getElem? (i := 408) (by decide +kernel))) rfl
theorem tw_409 : Cond.selects "KeyCommandInterpreter" yX4_setTimeout yX4_setTimeout ∈ TBg := tb_in (List.mem_append_right _ (List.mem_of_getElem? (i := 409) (by decide +kernel))) rfl
theorem tw_410 : Cond.code yX4_setTimeout (prog_1_method_10_code) (3) (Option.some Jvm.ClassFile.FieldType.int) ∈ TBg := tb_in (List.mem_append_right _ (List.mem_of_getElem? (i := 410) (by decide +kernel))) rfl
theorem tw_411 : Cond.methodLink "KeyCommandInterpreterLaw" (53) yX4_setFlag ∈ TBg := tb_in (List.mem_append_right _ (List.mem_of_getElem? (i := 411) (by decide +kernel))) rfl
theorem tw_412 : Cond.methodLink "KeyCommandInterpreterLaw" (57) yX4_pendingLength ∈ TBg := tb_in (List.mem_append_right _ (List.mem_of_getElem? (i := 412) (by decide +kernel))) rfl
theorem tw_413 : Cond.instanceMethod yX4_pendingLength ∈ TBg := tb_in (List.mem_append_right _ (List.mem_of_getElem? (i := 413) (by decide +kernel))) rfl
theorem tw_414 : Cond.selects "KeyCommandInterpreter" yX4_pendingLength yX4_pendingLength ∈ TBg := tb_in (List.mem_append_right _ (List.mem_of_getElem? (i := 414) (by decide +kernel))) rfl
theorem tw_415 : Cond.code yX4_pendingLength (prog_1_method_12_code) (1) (Option.some Jvm.ClassFile.FieldType.int) ∈ TBg := tb_in (List.mem_append_right _ (List.mem_of_getElem? (i := 415) (by decide +kernel))) rfl
theorem tw_416 : Cond.methodLink "KeyCommandInterpreterLaw" (61) yX4_pendingKey ∈ TBg := tb_in (List.mem_append_right _ (List.mem_of_getElem? (i := 416) (by decide +kernel))) rfl
theorem tw_417 : Cond.instanceMethod yX4_pendingKey ∈ TBg := tb_in (List.mem_append_right _ (List.mem_of_getElem? (i := 417) (by decide +kernel))) rfl
theorem tw_418 : Cond.selects "KeyCommandInterpreter" yX4_pendingKey yX4_pendingKey ∈ TBg := tb_in (List.mem_append_right _ (List.mem_of_getElem? (i := 418) (by decide +kernel))) rfl
theorem tw_419 : Cond.code yX4_pendingKey (prog_1_method_13_code) (2) (Option.some Jvm.ClassFile.FieldType.int) ∈ TBg := tb_in (List.mem_append_right _ (List.mem_of_getElem? (i := 419) (by decide +kernel))) rfl
theorem tw_420 : Cond.methodLink "KeyCommandInterpreterLaw" (65) yX4_remainingTime ∈ TBg := tb_in (List.mem_append_right _ (List.mem_of_getElem? (i := 420) (by decide +kernel))) rfl
theorem tw_421 : Cond.instanceMethod yX4_remainingTime ∈ TBg := tb_in (List.mem_append_right _ (List.mem_of_getElem? (i := 421) (by decide +kernel))) rfl
theorem tw_422 : Cond.selects "KeyCommandInterpreter" yX4_remainingTime yX4_remainingTime ∈ TBg := tb_in (List.mem_append_right _ (List.mem_of_getElem? (i := 422) (by decide +kernel))) rfl
theorem tw_423 : Cond.code yX4_remainingTime (prog_1_method_14_code) (1) (Option.some Jvm.ClassFile.FieldType.int) ∈ TBg := tb_in (List.mem_append_right _ (List.mem_of_getElem? (i := 423) (by decide +kernel))) rfl
theorem tw_424 : Cond.methodLink "KeyCommandInterpreterLaw" (69) yX4_pendingBinding ∈ TBg := tb_in (List.mem_append_right _ (List.mem_of_getElem? (i := 424) (by decide +kernel))) rfl
theorem tw_425 : Cond.instanceMethod yX4_pendingBinding ∈ TBg := tb_in (List.mem_append_right _ (List.mem_of_getElem? (i := 425) (by decide +kernel))) rfl
theorem tw_426 : Cond.selects "KeyCommandInterpreter" yX4_pendingBinding yX4_pendingBinding ∈ TBg := tb_in (List.mem_append_right _ (List.mem_of_getElem? (i := 426) (by decide +kernel))) rfl
theorem tw_427 : Cond.code yX4_pendingBinding (prog_1_method_15_code) (1) (Option.some Jvm.ClassFile.FieldType.int) ∈ TBg := tb_in (List.mem_append_right _ (List.mem_of_getElem? (i := 427) (by decide +kernel))) rfl
theorem tw_428 : Cond.methodLink "KeyCommandInterpreterLaw" (73) yX4_flag ∈ TBg := tb_in (List.mem_append_right _ (List.mem_of_getElem? (i := 428) (by decide +kernel))) rfl
theorem tw_429 : Cond.instanceMethod yX4_flag ∈ TBg := tb_in (List.mem_append_right _ (List.mem_of_getElem? (i := 429) (by decide +kernel))) rfl
theorem tw_430 : Cond.selects "KeyCommandInterpreter" yX4_flag yX4_flag ∈ TBg := tb_in (List.mem_append_right _ (List.mem_of_getElem? (i := 430) (by decide +kernel))) rfl
theorem tw_431 : Cond.code yX4_flag (prog_1_method_16_code) (2) (Option.some Jvm.ClassFile.FieldType.int) ∈ TBg := tb_in (List.mem_append_right _ (List.mem_of_getElem? (i := 431) (by decide +kernel))) rfl
theorem tw_432 : Cond.methodLink "KeyCommandInterpreterLaw" (77) yX4_stackSize ∈ TBg := tb_in (List.mem_append_right _ (List.mem_of_getElem? (i := 432) (by decide +kernel))) rfl
theorem tw_433 : Cond.instanceMethod yX4_stackSize ∈ TBg := tb_in (List.mem_append_right _ (List.mem_of_getElem? (i := 433) (by decide +kernel))) rfl
theorem tw_434 : Cond.selects "KeyCommandInterpreter" yX4_stackSize yX4_stackSize ∈ TBg := tb_in (List.mem_append_right _ (List.mem_of_getElem? (i := 434) (by decide +kernel))) rfl
theorem tw_435 : Cond.code yX4_stackSize (prog_1_method_17_code) (1) (Option.some Jvm.ClassFile.FieldType.int) ∈ TBg := tb_in (List.mem_append_right _ (List.mem_of_getElem? (i := 435) (by decide +kernel))) rfl
theorem tw_436 : Cond.methodLink "KeyCommandInterpreterLaw" (81) yX4_stackContext ∈ TBg := tb_in (List.mem_append_right _ (List.mem_of_getElem? (i := 436) (by decide +kernel))) rfl
theorem tw_437 : Cond.instanceMethod yX4_stackContext ∈ TBg := tb_in (List.mem_append_right _ (List.mem_of_getElem? (i := 437) (by decide +kernel))) rfl
theorem tw_438 : Cond.selects "KeyCommandInterpreter" yX4_stackContext yX4_stackContext ∈ TBg := tb_in (List.mem_append_right _ (List.mem_of_getElem? (i := 438) (by decide +kernel))) rfl
theorem tw_439 : Cond.code yX4_stackContext (prog_1_method_18_code) (2) (Option.some Jvm.ClassFile.FieldType.int) ∈ TBg := tb_in (List.mem_append_right _ (List.mem_of_getElem? (i := 439) (by decide +kernel))) rfl
theorem tw_440 : Cond.methodLink "KeyCommandInterpreterLaw" (85) yX4_startRecording ∈ TBg := tb_in (List.mem_append_right _ (List.mem_of_getElem? (i := 440) (by decide +kernel))) rfl
theorem tw_441 : Cond.instanceMethod yX4_startRecording ∈ TBg := tb_in (List.mem_append_right _ (List.mem_of_getElem? (i := 441) (by decide +kernel))) rfl
theorem tw_442 : Cond.selects "KeyCommandInterpreter" yX4_startRecording yX4_startRecording ∈ TBg := tb_in (List.mem_append_right _ (List.mem_of_getElem? (i := 442) (by decide +kernel))) rfl
theorem tw_443 : Cond.code yX4_startRecording (prog_1_method_19_code) (4) (Option.some Jvm.ClassFile.FieldType.int) ∈ TBg := tb_in (List.mem_append_right _ (List.mem_of_getElem? (i := 443) (by decide +kernel))) rfl
theorem tw_444 : Cond.methodLink "KeyCommandInterpreterLaw" (89) yX4_stopRecording ∈ TBg := tb_in (List.mem_append_right _ (List.mem_of_getElem? (i := 444) (by decide +kernel))) rfl
theorem tw_445 : Cond.instanceMethod yX4_stopRecording ∈ TBg := tb_in (List.mem_append_right _ (List.mem_of_getElem? (i := 445) (by decide +kernel))) rfl
theorem tw_446 : Cond.selects "KeyCommandInterpreter" yX4_stopRecording yX4_stopRecording ∈ TBg := tb_in (List.mem_append_right _ (List.mem_of_getElem? (i := 446) (by decide +kernel))) rfl
theorem tw_447 : Cond.code yX4_stopRecording (prog_1_method_20_code) (2) (Option.some Jvm.ClassFile.FieldType.int) ∈ TBg := tb_in (List.mem_append_right _ (List.mem_of_getElem? (i := 447) (by decide +kernel))) rfl
theorem tw_448 : Cond.methodLink "KeyCommandInterpreterLaw" (93) yX4_macroKey ∈ TBg := tb_in (List.mem_append_right _ (List.mem_of_getElem? (i := 448) (by decide +kernel))) rfl
theorem tw_449 : Cond.instanceMethod yX4_macroKey ∈ TBg := tb_in (List.mem_append_right _ (List.mem_of_getElem? (i := 449) (by decide +kernel))) rfl
theorem tw_450 : Cond.selects "KeyCommandInterpreter" yX4_macroKey yX4_macroKey ∈ TBg := tb_in (List.mem_append_right _ (List.mem_of_getElem? (i := 450) (by decide +kernel))) rfl
theorem tw_451 : Cond.code yX4_macroKey (prog_1_method_21_code) (3) (Option.some Jvm.ClassFile.FieldType.int) ∈ TBg := tb_in (List.mem_append_right _ (List.mem_of_getElem? (i := 451) (by decide +kernel))) rfl
theorem tw_452 : Cond.methodLink "KeyCommandInterpreterLaw" (97) yX4_reportCount ∈ TBg := tb_in (List.mem_append_right _ (List.mem_of_getElem? (i := 452) (by decide +kernel))) rfl
theorem tw_453 : Cond.instanceMethod yX4_reportCount ∈ TBg := tb_in (List.mem_append_right _ (List.mem_of_getElem? (i := 453) (by decide +kernel))) rfl
theorem tw_454 : Cond.selects "KeyCommandInterpreter" yX4_reportCount yX4_reportCount ∈ TBg := tb_in (List.mem_append_right _ (List.mem_of_getElem? (i := 454) (by decide +kernel))) rfl
theorem tw_455 : Cond.code yX4_reportCount (prog_1_method_22_code) (1) (Option.some Jvm.ClassFile.FieldType.int) ∈ TBg := tb_in (List.mem_append_right _ (List.mem_of_getElem? (i := 455) (by decide +kernel))) rfl
theorem tw_456 : Cond.methodLink "KeyCommandInterpreterLaw" (101) yX4_reportKind ∈ TBg := tb_in (List.mem_append_right _ (List.mem_of_getElem? (i := 456) (by decide +kernel))) rfl
theorem tw_457 : Cond.instanceMethod yX4_reportKind ∈ TBg := tb_in (List.mem_append_right _ (List.mem_of_getElem? (i := 457) (by decide +kernel))) rfl
theorem tw_458 : Cond.selects "KeyCommandInterpreter" yX4_reportKind yX4_reportKind ∈ TBg := tb_in (List.mem_append_right _ (List.mem_of_getElem? (i := 458) (by decide +kernel))) rfl
theorem tw_459 : Cond.code yX4_reportKind (prog_1_method_23_code) (2) (Option.some Jvm.ClassFile.FieldType.int) ∈ TBg := tb_in (List.mem_append_right _ (List.mem_of_getElem? (i := 459) (by decide +kernel))) rfl
theorem tw_460 : Cond.methodLinkNest "KeyCommandInterpreter" (157) yX2_kindOf "KeyCommandInterpreter" ∈ lw_tbl := List.mem_append_right _ (List.mem_of_getElem? (i := 460) (by decide +kernel))
theorem tw_462 : Cond.instanceMethod yX2_kindOf ∈ TBg := tb_in (List.mem_append_right _ (List.mem_of_getElem? (i := 462) (by decide +kernel))) rfl
theorem tw_463 : Cond.code yX2_kindOf (prog_4_method_3_code) (2) (Option.some Jvm.ClassFile.FieldType.int) ∈ TBg := tb_in (List.mem_append_right _ (List.mem_of_getElem? (i := 463) (by decide +kernel))) rfl
theorem tw_464 : Cond.methodLink "KeyCommandInterpreter$ReportLog" (28) yX2_isReadable ∈ TBg := tb_in (List.mem_append_right _ (List.mem_of_getElem? (i := 464) (by decide +kernel))) rfl
theorem tw_466 : Cond.instanceMethod yX2_isReadable ∈ TBg := tb_in (List.mem_append_right _ (List.mem_of_getElem? (i := 466) (by decide +kernel))) rfl
theorem tw_467 : Cond.code yX2_isReadable (prog_4_method_5_code) (2) (Option.some Jvm.ClassFile.FieldType.boolean) ∈ TBg := tb_in (List.mem_append_right _ (List.mem_of_getElem? (i := 467) (by decide +kernel))) rfl
theorem tw_468 : Cond.methodLink "KeyCommandInterpreterLaw" (105) yX4_reportArgument ∈ TBg := tb_in (List.mem_append_right _ (List.mem_of_getElem? (i := 468) (by decide +kernel))) rfl
theorem tw_469 : Cond.instanceMethod yX4_reportArgument ∈ TBg := tb_in (List.mem_append_right _ (List.mem_of_getElem? (i := 469) (by decide +kernel))) rfl
theorem tw_470 : Cond.selects "KeyCommandInterpreter" yX4_reportArgument yX4_reportArgument ∈ TBg := tb_in (List.mem_append_right _ (List.mem_of_getElem? (i := 470) (by decide +kernel))) rfl
theorem tw_471 : Cond.code yX4_reportArgument (prog_1_method_24_code) (2) (Option.some Jvm.ClassFile.FieldType.int) ∈ TBg := tb_in (List.mem_append_right _ (List.mem_of_getElem? (i := 471) (by decide +kernel))) rfl
theorem tw_472 : Cond.methodLinkNest "KeyCommandInterpreter" (160) yX2_argumentOf "KeyCommandInterpreter" ∈ lw_tbl := List.mem_append_right _ (List.mem_of_getElem? (i := 472) (by decide +kernel))
theorem tw_474 : Cond.instanceMethod yX2_argumentOf ∈ TBg := tb_in (List.mem_append_right _ (List.mem_of_getElem? (i := 474) (by decide +kernel))) rfl
theorem tw_475 : Cond.code yX2_argumentOf (prog_4_method_4_code) (2) (Option.some Jvm.ClassFile.FieldType.int) ∈ TBg := tb_in (List.mem_append_right _ (List.mem_of_getElem? (i := 475) (by decide +kernel))) rfl
theorem tw_476 : Cond.classLink "KeyCommandInterpreterLaw" (10) "KeyCommandInterpreterModel" ∈ TBg := tb_in (List.mem_append_right _ (List.mem_of_getElem? (i := 476) (by decide +kernel))) rfl
theorem tw_477 : Cond.instantiable "KeyCommandInterpreterModel" (26) ∈ TBg := tb_in (List.mem_append_right _ (List.mem_of_getElem? (i := 477) (by decide +kernel))) rfl
theorem tw_478 : Cond.methodLink "KeyCommandInterpreterLaw" (12) yX5_init ∈ TBg := tb_in (List.mem_append_right _ (List.mem_of_getElem? (i := 478) (by decide +kernel))) rfl
theorem tw_479 : Cond.instanceMethod yX5_init ∈ TBg := tb_in (List.mem_append_right _ (List.mem_of_getElem? (i := 479) (by decide +kernel))) rfl
theorem tw_480 : Cond.code yX5_init (prog_7_method_1_code) (1) (Option.none : Option Jvm.ClassFile.FieldType) ∈ TBg := tb_in (List.mem_append_right _ (List.mem_of_getElem? (i := 480) (by decide +kernel))) rfl
theorem tw_481 : Cond.methodLink "KeyCommandInterpreterModel" (1) ⟨"java/lang/Object", "<init>", "()V"⟩ ∈ TBg := tb_in (List.mem_append_right _ (List.mem_of_getElem? (i := 481) (by decide +kernel))) rfl
theorem tw_482 : Cond.fieldLink "KeyCommandInterpreterModel" (7) "KeyCommandInterpreterModel" "flags" "[I" ∈ TBg := tb_in (List.mem_append_right _ (List.mem_of_getElem? (i := 482) (by decide +kernel))) rfl
theorem tw_483 : Cond.fieldLink "KeyCommandInterpreterModel" (13) "KeyCommandInterpreterModel" "depth" "I" ∈ TBg := tb_in (List.mem_append_right _ (List.mem_of_getElem? (i := 483) (by decide +kernel))) rfl
theorem tw_484 : Cond.fieldLink "KeyCommandInterpreterModel" (17) "KeyCommandInterpreterModel" "contexts" "[I" ∈ TBg := tb_in (List.mem_append_right _ (List.mem_of_getElem? (i := 484) (by decide +kernel))) rfl
theorem tw_485 : Cond.fieldLink "KeyCommandInterpreterModel" (20) "KeyCommandInterpreterModel" "many" "[I" ∈ TBg := tb_in (List.mem_append_right _ (List.mem_of_getElem? (i := 485) (by decide +kernel))) rfl
theorem tw_486 : Cond.fieldLink "KeyCommandInterpreterModel" (23) "KeyCommandInterpreterModel" "size" "[I" ∈ TBg := tb_in (List.mem_append_right _ (List.mem_of_getElem? (i := 486) (by decide +kernel))) rfl
theorem tw_487 : Cond.fieldLink "KeyCommandInterpreterModel" (26) "KeyCommandInterpreterModel" "keys" "[I" ∈ TBg := tb_in (List.mem_append_right _ (List.mem_of_getElem? (i := 487) (by decide +kernel))) rfl
theorem tw_488 : Cond.fieldLink "KeyCommandInterpreterModel" (29) "KeyCommandInterpreterModel" "flagOf" "[I" ∈ TBg := tb_in (List.mem_append_right _ (List.mem_of_getElem? (i := 488) (by decide +kernel))) rfl
theorem tw_489 : Cond.fieldLink "KeyCommandInterpreterModel" (32) "KeyCommandInterpreterModel" "valueOf" "[I" ∈ TBg := tb_in (List.mem_append_right _ (List.mem_of_getElem? (i := 489) (by decide +kernel))) rfl
theorem tw_490 : Cond.fieldLink "KeyCommandInterpreterModel" (35) "KeyCommandInterpreterModel" "actionOf" "[I" ∈ TBg := tb_in (List.mem_append_right _ (List.mem_of_getElem? (i := 490) (by decide +kernel))) rfl
theorem tw_491 : Cond.fieldLink "KeyCommandInterpreterModel" (38) "KeyCommandInterpreterModel" "argumentOf" "[I" ∈ TBg := tb_in (List.mem_append_right _ (List.mem_of_getElem? (i := 491) (by decide +kernel))) rfl
theorem tw_492 : Cond.fieldLink "KeyCommandInterpreterModel" (72) "KeyCommandInterpreterModel" "typed" "I" ∈ TBg := tb_in (List.mem_append_right _ (List.mem_of_getElem? (i := 492) (by decide +kernel))) rfl
theorem tw_493 : Cond.fieldLink "KeyCommandInterpreterModel" (41) "KeyCommandInterpreterModel" "buffer" "[I" ∈ TBg := tb_in (List.mem_append_right _ (List.mem_of_getElem? (i := 493) (by decide +kernel))) rfl
theorem tw_494 : Cond.fieldLink "KeyCommandInterpreterModel" (86) "KeyCommandInterpreterModel" "pending" "I" ∈ TBg := tb_in (List.mem_append_right _ (List.mem_of_getElem? (i := 494) (by decide +kernel))) rfl
theorem tw_495 : Cond.fieldLink "KeyCommandInterpreterModel" (44) "KeyCommandInterpreterModel" "pend" "[I" ∈ TBg := tb_in (List.mem_append_right _ (List.mem_of_getElem? (i := 495) (by decide +kernel))) rfl
theorem tw_496 : Cond.fieldLink "KeyCommandInterpreterModel" (47) "KeyCommandInterpreterModel" "timeout" "I" ∈ TBg := tb_in (List.mem_append_right _ (List.mem_of_getElem? (i := 496) (by decide +kernel))) rfl
theorem tw_497 : Cond.fieldLink "KeyCommandInterpreterModel" (125) "KeyCommandInterpreterModel" "left" "I" ∈ TBg := tb_in (List.mem_append_right _ (List.mem_of_getElem? (i := 497) (by decide +kernel))) rfl
theorem tw_498 : Cond.fieldLink "KeyCommandInterpreterModel" (92) "KeyCommandInterpreterModel" "tasks" "I" ∈ TBg := tb_in (List.mem_append_right _ (List.mem_of_getElem? (i := 498) (by decide +kernel))) rfl
theorem tw_499 : Cond.fieldLink "KeyCommandInterpreterModel" (50) "KeyCommandInterpreterModel" "task" "[I" ∈ TBg := tb_in (List.mem_append_right _ (List.mem_of_getElem? (i := 499) (by decide +kernel))) rfl
theorem tw_500 : Cond.fieldLink "KeyCommandInterpreterModel" (95) "KeyCommandInterpreterModel" "playing" "I" ∈ TBg := tb_in (List.mem_append_right _ (List.mem_of_getElem? (i := 500) (by decide +kernel))) rfl
theorem tw_501 : Cond.fieldLink "KeyCommandInterpreterModel" (98) "KeyCommandInterpreterModel" "played" "I" ∈ TBg := tb_in (List.mem_append_right _ (List.mem_of_getElem? (i := 501) (by decide +kernel))) rfl
theorem tw_502 : Cond.fieldLink "KeyCommandInterpreterModel" (53) "KeyCommandInterpreterModel" "recording" "I" ∈ TBg := tb_in (List.mem_append_right _ (List.mem_of_getElem? (i := 502) (by decide +kernel))) rfl
theorem tw_503 : Cond.fieldLink "KeyCommandInterpreterModel" (56) "KeyCommandInterpreterModel" "macroSize" "[I" ∈ TBg := tb_in (List.mem_append_right _ (List.mem_of_getElem? (i := 503) (by decide +kernel))) rfl
theorem tw_504 : Cond.fieldLink "KeyCommandInterpreterModel" (59) "KeyCommandInterpreterModel" "macro" "[I" ∈ TBg := tb_in (List.mem_append_right _ (List.mem_of_getElem? (i := 504) (by decide +kernel))) rfl
theorem tw_505 : Cond.fieldLink "KeyCommandInterpreterModel" (89) "KeyCommandInterpreterModel" "reports" "I" ∈ TBg := tb_in (List.mem_append_right _ (List.mem_of_getElem? (i := 505) (by decide +kernel))) rfl
theorem tw_506 : Cond.fieldLink "KeyCommandInterpreterModel" (62) "KeyCommandInterpreterModel" "kinds" "[I" ∈ TBg := tb_in (List.mem_append_right _ (List.mem_of_getElem? (i := 506) (by decide +kernel))) rfl
theorem tw_507 : Cond.fieldLink "KeyCommandInterpreterModel" (65) "KeyCommandInterpreterModel" "arguments" "[I" ∈ TBg := tb_in (List.mem_append_right _ (List.mem_of_getElem? (i := 507) (by decide +kernel))) rfl
theorem tw_508 : Cond.laysFinal "KeyCommandInterpreterModel" "KeyCommandInterpreterModel" "flags" "[I" ∈ TBg := tb_in (List.mem_append_right _ (List.mem_of_getElem? (i := 508) (by decide +kernel))) rfl
theorem tw_510 : Cond.lays "KeyCommandInterpreterModel" "KeyCommandInterpreterModel" "depth" "I" ∈ TBg := tb_in (List.mem_append_right _ (List.mem_of_getElem? (i := 510) (by decide +kernel))) rfl
theorem tw_512 : Cond.laysFinal "KeyCommandInterpreterModel" "KeyCommandInterpreterModel" "contexts" "[I" ∈ TBg := tb_in (List.mem_append_right _ (List.mem_of_getElem? (i := 512) (by decide +kernel))) rfl
theorem tw_514 : Cond.laysFinal "KeyCommandInterpreterModel" "KeyCommandInterpreterModel" "many" "[I" ∈ TBg := tb_in (List.mem_append_right _ (List.mem_of_getElem? (i := 514) (by decide +kernel))) rfl
theorem tw_516 : Cond.laysFinal "KeyCommandInterpreterModel" "KeyCommandInterpreterModel" "size" "[I" ∈ TBg := tb_in (List.mem_append_right _ (List.mem_of_getElem? (i := 516) (by decide +kernel))) rfl
theorem tw_518 : Cond.laysFinal "KeyCommandInterpreterModel" "KeyCommandInterpreterModel" "keys" "[I" ∈ TBg := tb_in (List.mem_append_right _ (List.mem_of_getElem? (i := 518) (by decide +kernel))) rfl
theorem tw_520 : Cond.laysFinal "KeyCommandInterpreterModel" "KeyCommandInterpreterModel" "flagOf" "[I" ∈ TBg := tb_in (List.mem_append_right _ (List.mem_of_getElem? (i := 520) (by decide +kernel))) rfl
theorem tw_522 : Cond.laysFinal "KeyCommandInterpreterModel" "KeyCommandInterpreterModel" "valueOf" "[I" ∈ TBg := tb_in (List.mem_append_right _ (List.mem_of_getElem? (i := 522) (by decide +kernel))) rfl
theorem tw_524 : Cond.laysFinal "KeyCommandInterpreterModel" "KeyCommandInterpreterModel" "actionOf" "[I" ∈ TBg := tb_in (List.mem_append_right _ (List.mem_of_getElem? (i := 524) (by decide +kernel))) rfl
theorem tw_526 : Cond.laysFinal "KeyCommandInterpreterModel" "KeyCommandInterpreterModel" "argumentOf" "[I" ∈ TBg := tb_in (List.mem_append_right _ (List.mem_of_getElem? (i := 526) (by decide +kernel))) rfl
theorem tw_528 : Cond.lays "KeyCommandInterpreterModel" "KeyCommandInterpreterModel" "typed" "I" ∈ TBg := tb_in (List.mem_append_right _ (List.mem_of_getElem? (i := 528) (by decide +kernel))) rfl
theorem tw_530 : Cond.laysFinal "KeyCommandInterpreterModel" "KeyCommandInterpreterModel" "buffer" "[I" ∈ TBg := tb_in (List.mem_append_right _ (List.mem_of_getElem? (i := 530) (by decide +kernel))) rfl
theorem tw_532 : Cond.lays "KeyCommandInterpreterModel" "KeyCommandInterpreterModel" "pending" "I" ∈ TBg := tb_in (List.mem_append_right _ (List.mem_of_getElem? (i := 532) (by decide +kernel))) rfl
theorem tw_534 : Cond.laysFinal "KeyCommandInterpreterModel" "KeyCommandInterpreterModel" "pend" "[I" ∈ TBg := tb_in (List.mem_append_right _ (List.mem_of_getElem? (i := 534) (by decide +kernel))) rfl
theorem tw_536 : Cond.lays "KeyCommandInterpreterModel" "KeyCommandInterpreterModel" "timeout" "I" ∈ TBg := tb_in (List.mem_append_right _ (List.mem_of_getElem? (i := 536) (by decide +kernel))) rfl
theorem tw_538 : Cond.lays "KeyCommandInterpreterModel" "KeyCommandInterpreterModel" "left" "I" ∈ TBg := tb_in (List.mem_append_right _ (List.mem_of_getElem? (i := 538) (by decide +kernel))) rfl
theorem tw_540 : Cond.lays "KeyCommandInterpreterModel" "KeyCommandInterpreterModel" "tasks" "I" ∈ TBg := tb_in (List.mem_append_right _ (List.mem_of_getElem? (i := 540) (by decide +kernel))) rfl
theorem tw_542 : Cond.laysFinal "KeyCommandInterpreterModel" "KeyCommandInterpreterModel" "task" "[I" ∈ TBg := tb_in (List.mem_append_right _ (List.mem_of_getElem? (i := 542) (by decide +kernel))) rfl
theorem tw_544 : Cond.lays "KeyCommandInterpreterModel" "KeyCommandInterpreterModel" "playing" "I" ∈ TBg := tb_in (List.mem_append_right _ (List.mem_of_getElem? (i := 544) (by decide +kernel))) rfl
theorem tw_546 : Cond.lays "KeyCommandInterpreterModel" "KeyCommandInterpreterModel" "played" "I" ∈ TBg := tb_in (List.mem_append_right _ (List.mem_of_getElem? (i := 546) (by decide +kernel))) rfl
theorem tw_548 : Cond.lays "KeyCommandInterpreterModel" "KeyCommandInterpreterModel" "recording" "I" ∈ TBg := tb_in (List.mem_append_right _ (List.mem_of_getElem? (i := 548) (by decide +kernel))) rfl
theorem tw_550 : Cond.laysFinal "KeyCommandInterpreterModel" "KeyCommandInterpreterModel" "macroSize" "[I" ∈ TBg := tb_in (List.mem_append_right _ (List.mem_of_getElem? (i := 550) (by decide +kernel))) rfl
theorem tw_552 : Cond.laysFinal "KeyCommandInterpreterModel" "KeyCommandInterpreterModel" "macro" "[I" ∈ TBg := tb_in (List.mem_append_right _ (List.mem_of_getElem? (i := 552) (by decide +kernel))) rfl
theorem tw_554 : Cond.lays "KeyCommandInterpreterModel" "KeyCommandInterpreterModel" "reports" "I" ∈ TBg := tb_in (List.mem_append_right _ (List.mem_of_getElem? (i := 554) (by decide +kernel))) rfl
theorem tw_556 : Cond.laysFinal "KeyCommandInterpreterModel" "KeyCommandInterpreterModel" "kinds" "[I" ∈ TBg := tb_in (List.mem_append_right _ (List.mem_of_getElem? (i := 556) (by decide +kernel))) rfl
theorem tw_558 : Cond.laysFinal "KeyCommandInterpreterModel" "KeyCommandInterpreterModel" "arguments" "[I" ∈ TBg := tb_in (List.mem_append_right _ (List.mem_of_getElem? (i := 558) (by decide +kernel))) rfl
theorem tw_561 : Cond.methodLink "KeyCommandInterpreterLaw" (17) yX5_appendKey ∈ TBg := tb_in (List.mem_append_right _ (List.mem_of_getElem? (i := 561) (by decide +kernel))) rfl
theorem tw_562 : Cond.instanceMethod yX5_appendKey ∈ TBg := tb_in (List.mem_append_right _ (List.mem_of_getElem? (i := 562) (by decide +kernel))) rfl
theorem tw_563 : Cond.selects "KeyCommandInterpreterModel" yX5_appendKey yX5_appendKey ∈ TBg := tb_in (List.mem_append_right _ (List.mem_of_getElem? (i := 563) (by decide +kernel))) rfl
theorem tw_564 : Cond.code yX5_appendKey (prog_7_method_3_code) (2) (Option.some Jvm.ClassFile.FieldType.int) ∈ TBg := tb_in (List.mem_append_right _ (List.mem_of_getElem? (i := 564) (by decide +kernel))) rfl
theorem tw_565 : Cond.methodLink "KeyCommandInterpreterModel" (68) yX5_in ∈ TBg := tb_in (List.mem_append_right _ (List.mem_of_getElem? (i := 565) (by decide +kernel))) rfl
theorem tw_566 : Cond.static yX5_in ∈ TBg := tb_in (List.mem_append_right _ (List.mem_of_getElem? (i := 566) (by decide +kernel))) rfl
theorem tw_567 : Cond.code yX5_in (prog_7_method_2_code) (3) (Option.some Jvm.ClassFile.FieldType.boolean) ∈ TBg := tb_in (List.mem_append_right _ (List.mem_of_getElem? (i := 567) (by decide +kernel))) rfl
theorem tw_568 : Cond.methodLink "KeyCommandInterpreterLaw" (22) yX5_clearKeys ∈ TBg := tb_in (List.mem_append_right _ (List.mem_of_getElem? (i := 568) (by decide +kernel))) rfl
theorem tw_569 : Cond.instanceMethod yX5_clearKeys ∈ TBg := tb_in (List.mem_append_right _ (List.mem_of_getElem? (i := 569) (by decide +kernel))) rfl
theorem tw_570 : Cond.selects "KeyCommandInterpreterModel" yX5_clearKeys yX5_clearKeys ∈ TBg := tb_in (List.mem_append_right _ (List.mem_of_getElem? (i := 570) (by decide +kernel))) rfl
theorem tw_571 : Cond.code yX5_clearKeys (prog_7_method_4_code) (2) (Option.some Jvm.ClassFile.FieldType.int) ∈ TBg := tb_in (List.mem_append_right _ (List.mem_of_getElem? (i := 571) (by decide +kernel))) rfl
theorem tw_572 : Cond.methodLink "KeyCommandInterpreterLaw" (27) yX5_bind ∈ TBg := tb_in (List.mem_append_right _ (List.mem_of_getElem? (i := 572) (by decide +kernel))) rfl
theorem tw_573 : Cond.instanceMethod yX5_bind ∈ TBg := tb_in (List.mem_append_right _ (List.mem_of_getElem? (i := 573) (by decide +kernel))) rfl
theorem tw_574 : Cond.selects "KeyCommandInterpreterModel" yX5_bind yX5_bind ∈ TBg := tb_in (List.mem_append_right _ (List.mem_of_getElem? (i := 574) (by decide +kernel))) rfl
theorem tw_575 : Cond.code yX5_bind (prog_7_method_6_code) (9) (Option.some Jvm.ClassFile.FieldType.int) ∈ TBg := tb_in (List.mem_append_right _ (List.mem_of_getElem? (i := 575) (by decide +kernel))) rfl
theorem tw_576 : Cond.methodLink "KeyCommandInterpreterModel" (75) yX5_most ∈ TBg := tb_in (List.mem_append_right _ (List.mem_of_getElem? (i := 576) (by decide +kernel))) rfl
theorem tw_577 : Cond.static yX5_most ∈ TBg := tb_in (List.mem_append_right _ (List.mem_of_getElem? (i := 577) (by decide +kernel))) rfl
theorem tw_578 : Cond.code yX5_most (prog_7_method_5_code) (1) (Option.some Jvm.ClassFile.FieldType.int) ∈ TBg := tb_in (List.mem_append_right _ (List.mem_of_getElem? (i := 578) (by decide +kernel))) rfl
theorem tw_579 : Cond.methodLink "KeyCommandInterpreterLaw" (32) yX5_unbind ∈ TBg := tb_in (List.mem_append_right _ (List.mem_of_getElem? (i := 579) (by decide +kernel))) rfl
theorem tw_580 : Cond.instanceMethod yX5_unbind ∈ TBg := tb_in (List.mem_append_right _ (List.mem_of_getElem? (i := 580) (by decide +kernel))) rfl
theorem tw_581 : Cond.selects "KeyCommandInterpreterModel" yX5_unbind yX5_unbind ∈ TBg := tb_in (List.mem_append_right _ (List.mem_of_getElem? (i := 581) (by decide +kernel))) rfl
theorem tw_582 : Cond.code yX5_unbind (prog_7_method_8_code) (5) (Option.some Jvm.ClassFile.FieldType.int) ∈ TBg := tb_in (List.mem_append_right _ (List.mem_of_getElem? (i := 582) (by decide +kernel))) rfl
theorem tw_583 : Cond.methodLink "KeyCommandInterpreterModel" (79) yX5_isBinding ∈ TBg := tb_in (List.mem_append_right _ (List.mem_of_getElem? (i := 583) (by decide +kernel))) rfl
theorem tw_585 : Cond.instanceMethod yX5_isBinding ∈ TBg := tb_in (List.mem_append_right _ (List.mem_of_getElem? (i := 585) (by decide +kernel))) rfl
theorem tw_586 : Cond.code yX5_isBinding (prog_7_method_7_code) (3) (Option.some Jvm.ClassFile.FieldType.boolean) ∈ TBg := tb_in (List.mem_append_right _ (List.mem_of_getElem? (i := 586) (by decide +kernel))) rfl
theorem tw_587 : Cond.methodLink "KeyCommandInterpreterLaw" (36) yX5_bindingCount ∈ TBg := tb_in (List.mem_append_right _ (List.mem_of_getElem? (i := 587) (by decide +kernel))) rfl
theorem tw_588 : Cond.instanceMethod yX5_bindingCount ∈ TBg := tb_in (List.mem_append_right _ (List.mem_of_getElem? (i := 588) (by decide +kernel))) rfl
theorem tw_589 : Cond.selects "KeyCommandInterpreterModel" yX5_bindingCount yX5_bindingCount ∈ TBg := tb_in (List.mem_append_right _ (List.mem_of_getElem? (i := 589) (by decide +kernel))) rfl
theorem tw_590 : Cond.code yX5_bindingCount (prog_7_method_9_code) (2) (Option.some Jvm.ClassFile.FieldType.int) ∈ TBg := tb_in (List.mem_append_right _ (List.mem_of_getElem? (i := 590) (by decide +kernel))) rfl
theorem tw_591 : Cond.methodLink "KeyCommandInterpreterLaw" (40) yX5_shadowedBy ∈ TBg := tb_in (List.mem_append_right _ (List.mem_of_getElem? (i := 591) (by decide +kernel))) rfl
theorem tw_592 : Cond.instanceMethod yX5_shadowedBy ∈ TBg := tb_in (List.mem_append_right _ (List.mem_of_getElem? (i := 592) (by decide +kernel))) rfl
theorem tw_593 : Cond.selects "KeyCommandInterpreterModel" yX5_shadowedBy yX5_shadowedBy ∈ TBg := tb_in (List.mem_append_right _ (List.mem_of_getElem? (i := 593) (by decide +kernel))) rfl
theorem tw_594 : Cond.code yX5_shadowedBy (prog_7_method_10_code) (8) (Option.some Jvm.ClassFile.FieldType.int) ∈ TBg := tb_in (List.mem_append_right _ (List.mem_of_getElem? (i := 594) (by decide +kernel))) rfl
theorem tw_595 : Cond.methodLink "KeyCommandInterpreterLaw" (44) yX5_press ∈ TBg := tb_in (List.mem_append_right _ (List.mem_of_getElem? (i := 595) (by decide +kernel))) rfl
theorem tw_596 : Cond.instanceMethod yX5_press ∈ TBg := tb_in (List.mem_append_right _ (List.mem_of_getElem? (i := 596) (by decide +kernel))) rfl
theorem tw_597 : Cond.selects "KeyCommandInterpreterModel" yX5_press yX5_press ∈ TBg := tb_in (List.mem_append_right _ (List.mem_of_getElem? (i := 597) (by decide +kernel))) rfl
theorem tw_598 : Cond.code yX5_press (prog_7_method_21_code) (3) (Option.some Jvm.ClassFile.FieldType.int) ∈ TBg := tb_in (List.mem_append_right _ (List.mem_of_getElem? (i := 598) (by decide +kernel))) rfl
theorem tw_599 : Cond.methodLink "KeyCommandInterpreterModel" (105) yX5_adds ∈ TBg := tb_in (List.mem_append_right _ (List.mem_of_getElem? (i := 599) (by decide +kernel))) rfl
theorem tw_601 : Cond.instanceMethod yX5_adds ∈ TBg := tb_in (List.mem_append_right _ (List.mem_of_getElem? (i := 601) (by decide +kernel))) rfl
theorem tw_602 : Cond.code yX5_adds (prog_7_method_15_code) (2) (Option.none : Option Jvm.ClassFile.FieldType) ∈ TBg := tb_in (List.mem_append_right _ (List.mem_of_getElem? (i := 602) (by decide +kernel))) rfl
theorem tw_603 : Cond.methodLink "KeyCommandInterpreterModel" (131) yX5_works ∈ TBg := tb_in (List.mem_append_right _ (List.mem_of_getElem? (i := 603) (by decide +kernel))) rfl
theorem tw_605 : Cond.instanceMethod yX5_works ∈ TBg := tb_in (List.mem_append_right _ (List.mem_of_getElem? (i := 605) (by decide +kernel))) rfl
theorem tw_606 : Cond.code yX5_works (prog_7_method_20_code) (2) (Option.none : Option Jvm.ClassFile.FieldType) ∈ TBg := tb_in (List.mem_append_right _ (List.mem_of_getElem? (i := 606) (by decide +kernel))) rfl
theorem tw_607 : Cond.methodLink "KeyCommandInterpreterModel" (121) yX5_isExtensible ∈ TBg := tb_in (List.mem_append_right _ (List.mem_of_getElem? (i := 607) (by decide +kernel))) rfl
theorem tw_609 : Cond.instanceMethod yX5_isExtensible ∈ TBg := tb_in (List.mem_append_right _ (List.mem_of_getElem? (i := 609) (by decide +kernel))) rfl
theorem tw_610 : Cond.code yX5_isExtensible (prog_7_method_13_code) (4) (Option.some Jvm.ClassFile.FieldType.boolean) ∈ TBg := tb_in (List.mem_append_right _ (List.mem_of_getElem? (i := 610) (by decide +kernel))) rfl
theorem tw_611 : Cond.methodLink "KeyCommandInterpreterModel" (83) yX5_fits ∈ TBg := tb_in (List.mem_append_right _ (List.mem_of_getElem? (i := 611) (by decide +kernel))) rfl
theorem tw_613 : Cond.instanceMethod yX5_fits ∈ TBg := tb_in (List.mem_append_right _ (List.mem_of_getElem? (i := 613) (by decide +kernel))) rfl
theorem tw_614 : Cond.code yX5_fits (prog_7_method_11_code) (5) (Option.some Jvm.ClassFile.FieldType.boolean) ∈ TBg := tb_in (List.mem_append_right _ (List.mem_of_getElem? (i := 614) (by decide +kernel))) rfl
theorem tw_615 : Cond.methodLink "KeyCommandInterpreterModel" (128) yX5_ends ∈ TBg := tb_in (List.mem_append_right _ (List.mem_of_getElem? (i := 615) (by decide +kernel))) rfl
theorem tw_617 : Cond.instanceMethod yX5_ends ∈ TBg := tb_in (List.mem_append_right _ (List.mem_of_getElem? (i := 617) (by decide +kernel))) rfl
theorem tw_618 : Cond.code yX5_ends (prog_7_method_19_code) (5) (Option.none : Option Jvm.ClassFile.FieldType) ∈ TBg := tb_in (List.mem_append_right _ (List.mem_of_getElem? (i := 618) (by decide +kernel))) rfl
theorem tw_619 : Cond.methodLink "KeyCommandInterpreterModel" (112) yX5_bound ∈ TBg := tb_in (List.mem_append_right _ (List.mem_of_getElem? (i := 619) (by decide +kernel))) rfl
theorem tw_621 : Cond.instanceMethod yX5_bound ∈ TBg := tb_in (List.mem_append_right _ (List.mem_of_getElem? (i := 621) (by decide +kernel))) rfl
theorem tw_622 : Cond.code yX5_bound (prog_7_method_12_code) (5) (Option.some Jvm.ClassFile.FieldType.int) ∈ TBg := tb_in (List.mem_append_right _ (List.mem_of_getElem? (i := 622) (by decide +kernel))) rfl
theorem tw_623 : Cond.methodLink "KeyCommandInterpreterModel" (115) yX5_frees ∈ TBg := tb_in (List.mem_append_right _ (List.mem_of_getElem? (i := 623) (by decide +kernel))) rfl
theorem tw_625 : Cond.instanceMethod yX5_frees ∈ TBg := tb_in (List.mem_append_right _ (List.mem_of_getElem? (i := 625) (by decide +kernel))) rfl
theorem tw_626 : Cond.code yX5_frees (prog_7_method_18_code) (3) (Option.none : Option Jvm.ClassFile.FieldType) ∈ TBg := tb_in (List.mem_append_right _ (List.mem_of_getElem? (i := 626) (by decide +kernel))) rfl
theorem tw_627 : Cond.methodLink "KeyCommandInterpreterModel" (101) yX5_says ∈ TBg := tb_in (List.mem_append_right _ (List.mem_of_getElem? (i := 627) (by decide +kernel))) rfl
theorem tw_629 : Cond.instanceMethod yX5_says ∈ TBg := tb_in (List.mem_append_right _ (List.mem_of_getElem? (i := 629) (by decide +kernel))) rfl
theorem tw_630 : Cond.code yX5_says (prog_7_method_14_code) (3) (Option.none : Option Jvm.ClassFile.FieldType) ∈ TBg := tb_in (List.mem_append_right _ (List.mem_of_getElem? (i := 630) (by decide +kernel))) rfl
theorem tw_631 : Cond.methodLink "KeyCommandInterpreterModel" (118) yX5_performs ∈ TBg := tb_in (List.mem_append_right _ (List.mem_of_getElem? (i := 631) (by decide +kernel))) rfl
theorem tw_633 : Cond.instanceMethod yX5_performs ∈ TBg := tb_in (List.mem_append_right _ (List.mem_of_getElem? (i := 633) (by decide +kernel))) rfl
theorem tw_634 : Cond.code yX5_performs (prog_7_method_17_code) (3) (Option.none : Option Jvm.ClassFile.FieldType) ∈ TBg := tb_in (List.mem_append_right _ (List.mem_of_getElem? (i := 634) (by decide +kernel))) rfl
theorem tw_635 : Cond.methodLink "KeyCommandInterpreterModel" (109) yX5_plays ∈ TBg := tb_in (List.mem_append_right _ (List.mem_of_getElem? (i := 635) (by decide +kernel))) rfl
theorem tw_637 : Cond.instanceMethod yX5_plays ∈ TBg := tb_in (List.mem_append_right _ (List.mem_of_getElem? (i := 637) (by decide +kernel))) rfl
theorem tw_638 : Cond.code yX5_plays (prog_7_method_16_code) (3) (Option.none : Option Jvm.ClassFile.FieldType) ∈ TBg := tb_in (List.mem_append_right _ (List.mem_of_getElem? (i := 638) (by decide +kernel))) rfl
theorem tw_639 : Cond.methodLink "KeyCommandInterpreterLaw" (48) yX5_tick ∈ TBg := tb_in (List.mem_append_right _ (List.mem_of_getElem? (i := 639) (by decide +kernel))) rfl
theorem tw_640 : Cond.instanceMethod yX5_tick ∈ TBg := tb_in (List.mem_append_right _ (List.mem_of_getElem? (i := 640) (by decide +kernel))) rfl
theorem tw_641 : Cond.selects "KeyCommandInterpreterModel" yX5_tick yX5_tick ∈ TBg := tb_in (List.mem_append_right _ (List.mem_of_getElem? (i := 641) (by decide +kernel))) rfl
theorem tw_642 : Cond.code yX5_tick (prog_7_method_22_code) (4) (Option.some Jvm.ClassFile.FieldType.int) ∈ TBg := tb_in (List.mem_append_right _ (List.mem_of_getElem? (i := 642) (by decide +kernel))) rfl
theorem tw_643 : Cond.methodLink "KeyCommandInterpreterLaw" (52) yX5_setTimeout ∈ TBg := tb_in (List.mem_append_right _ (List.mem_of_getElem? (i := 643) (by decide +kernel))) rfl
theorem tw_644 : Cond.instanceMethod yX5_setTimeout ∈ TBg := tb_in (List.mem_append_right _ (List.mem_of_getElem? (i := 644) (by decide +kernel))) rfl
theorem tw_645 : Cond.selects "KeyCommandInterpreterModel" yX5_setTimeout yX5_setTimeout ∈ TBg := tb_in (List.mem_append_right _ (List.mem_of_getElem? (i := 645) (by decide +kernel))) rfl
theorem tw_646 : Cond.code yX5_setTimeout (prog_7_method_23_code) (3) (Option.some Jvm.ClassFile.FieldType.int) ∈ TBg := tb_in (List.mem_append_right _ (List.mem_of_getElem? (i := 646) (by decide +kernel))) rfl
theorem tw_647 : Cond.methodLink "KeyCommandInterpreterLaw" (56) yX5_setFlag ∈ TBg := tb_in (List.mem_append_right _ (List.mem_of_getElem? (i := 647) (by decide +kernel))) rfl
theorem tw_648 : Cond.instanceMethod yX5_setFlag ∈ TBg := tb_in (List.mem_append_right _ (List.mem_of_getElem? (i := 648) (by decide +kernel))) rfl
theorem tw_649 : Cond.selects "KeyCommandInterpreterModel" yX5_setFlag yX5_setFlag ∈ TBg := tb_in (List.mem_append_right _ (List.mem_of_getElem? (i := 649) (by decide +kernel))) rfl
theorem tw_650 : Cond.code yX5_setFlag (prog_7_method_24_code) (4) (Option.some Jvm.ClassFile.FieldType.int) ∈ TBg := tb_in (List.mem_append_right _ (List.mem_of_getElem? (i := 650) (by decide +kernel))) rfl
theorem tw_651 : Cond.methodLink "KeyCommandInterpreterLaw" (60) yX5_pendingLength ∈ TBg := tb_in (List.mem_append_right _ (List.mem_of_getElem? (i := 651) (by decide +kernel))) rfl
theorem tw_652 : Cond.instanceMethod yX5_pendingLength ∈ TBg := tb_in (List.mem_append_right _ (List.mem_of_getElem? (i := 652) (by decide +kernel))) rfl
theorem tw_653 : Cond.selects "KeyCommandInterpreterModel" yX5_pendingLength yX5_pendingLength ∈ TBg := tb_in (List.mem_append_right _ (List.mem_of_getElem? (i := 653) (by decide +kernel))) rfl
theorem tw_654 : Cond.code yX5_pendingLength (prog_7_method_25_code) (1) (Option.some Jvm.ClassFile.FieldType.int) ∈ TBg := tb_in (List.mem_append_right _ (List.mem_of_getElem? (i := 654) (by decide +kernel))) rfl
theorem tw_655 : Cond.methodLink "KeyCommandInterpreterLaw" (64) yX5_pendingKey ∈ TBg := tb_in (List.mem_append_right _ (List.mem_of_getElem? (i := 655) (by decide +kernel))) rfl
theorem tw_656 : Cond.instanceMethod yX5_pendingKey ∈ TBg := tb_in (List.mem_append_right _ (List.mem_of_getElem? (i := 656) (by decide +kernel))) rfl
theorem tw_657 : Cond.selects "KeyCommandInterpreterModel" yX5_pendingKey yX5_pendingKey ∈ TBg := tb_in (List.mem_append_right _ (List.mem_of_getElem? (i := 657) (by decide +kernel))) rfl
theorem tw_658 : Cond.code yX5_pendingKey (prog_7_method_26_code) (2) (Option.some Jvm.ClassFile.FieldType.int) ∈ TBg := tb_in (List.mem_append_right _ (List.mem_of_getElem? (i := 658) (by decide +kernel))) rfl
theorem tw_659 : Cond.methodLink "KeyCommandInterpreterLaw" (68) yX5_remainingTime ∈ TBg := tb_in (List.mem_append_right _ (List.mem_of_getElem? (i := 659) (by decide +kernel))) rfl
theorem tw_660 : Cond.instanceMethod yX5_remainingTime ∈ TBg := tb_in (List.mem_append_right _ (List.mem_of_getElem? (i := 660) (by decide +kernel))) rfl
theorem tw_661 : Cond.selects "KeyCommandInterpreterModel" yX5_remainingTime yX5_remainingTime ∈ TBg := tb_in (List.mem_append_right _ (List.mem_of_getElem? (i := 661) (by decide +kernel))) rfl
theorem tw_662 : Cond.code yX5_remainingTime (prog_7_method_27_code) (1) (Option.some Jvm.ClassFile.FieldType.int) ∈ TBg := tb_in (List.mem_append_right _ (List.mem_of_getElem? (i := 662) (by decide +kernel))) rfl
theorem tw_663 : Cond.methodLink "KeyCommandInterpreterLaw" (72) yX5_pendingBinding ∈ TBg := tb_in (List.mem_append_right _ (List.mem_of_getElem? (i := 663) (by decide +kernel))) rfl
theorem tw_664 : Cond.instanceMethod yX5_pendingBinding ∈ TBg := tb_in (List.mem_append_right _ (List.mem_of_getElem? (i := 664) (by decide +kernel))) rfl
theorem tw_665 : Cond.selects "KeyCommandInterpreterModel" yX5_pendingBinding yX5_pendingBinding ∈ TBg := tb_in (List.mem_append_right _ (List.mem_of_getElem? (i := 665) (by decide +kernel))) rfl
theorem tw_666 : Cond.code yX5_pendingBinding (prog_7_method_28_code) (2) (Option.some Jvm.ClassFile.FieldType.int) ∈ TBg := tb_in (List.mem_append_right _ (List.mem_of_getElem? (i := 666) (by decide +kernel))) rfl
theorem tw_667 : Cond.methodLink "KeyCommandInterpreterLaw" (76) yX5_flag ∈ TBg := tb_in (List.mem_append_right _ (List.mem_of_getElem? (i := 667) (by decide +kernel))) rfl
theorem tw_668 : Cond.instanceMethod yX5_flag ∈ TBg := tb_in (List.mem_append_right _ (List.mem_of_getElem? (i := 668) (by decide +kernel))) rfl
theorem tw_669 : Cond.selects "KeyCommandInterpreterModel" yX5_flag yX5_flag ∈ TBg := tb_in (List.mem_append_right _ (List.mem_of_getElem? (i := 669) (by decide +kernel))) rfl
theorem tw_670 : Cond.code yX5_flag (prog_7_method_29_code) (2) (Option.some Jvm.ClassFile.FieldType.int) ∈ TBg := tb_in (List.mem_append_right _ (List.mem_of_getElem? (i := 670) (by decide +kernel))) rfl
theorem tw_671 : Cond.methodLink "KeyCommandInterpreterLaw" (80) yX5_stackSize ∈ TBg := tb_in (List.mem_append_right _ (List.mem_of_getElem? (i := 671) (by decide +kernel))) rfl
theorem tw_672 : Cond.instanceMethod yX5_stackSize ∈ TBg := tb_in (List.mem_append_right _ (List.mem_of_getElem? (i := 672) (by decide +kernel))) rfl
theorem tw_673 : Cond.selects "KeyCommandInterpreterModel" yX5_stackSize yX5_stackSize ∈ TBg := tb_in (List.mem_append_right _ (List.mem_of_getElem? (i := 673) (by decide +kernel))) rfl
theorem tw_674 : Cond.code yX5_stackSize (prog_7_method_30_code) (1) (Option.some Jvm.ClassFile.FieldType.int) ∈ TBg := tb_in (List.mem_append_right _ (List.mem_of_getElem? (i := 674) (by decide +kernel))) rfl
theorem tw_675 : Cond.methodLink "KeyCommandInterpreterLaw" (84) yX5_stackContext ∈ TBg := tb_in (List.mem_append_right _ (List.mem_of_getElem? (i := 675) (by decide +kernel))) rfl
theorem tw_676 : Cond.instanceMethod yX5_stackContext ∈ TBg := tb_in (List.mem_append_right _ (List.mem_of_getElem? (i := 676) (by decide +kernel))) rfl
theorem tw_677 : Cond.selects "KeyCommandInterpreterModel" yX5_stackContext yX5_stackContext ∈ TBg := tb_in (List.mem_append_right _ (List.mem_of_getElem? (i := 677) (by decide +kernel))) rfl
theorem tw_678 : Cond.code yX5_stackContext (prog_7_method_31_code) (2) (Option.some Jvm.ClassFile.FieldType.int) ∈ TBg := tb_in (List.mem_append_right _ (List.mem_of_getElem? (i := 678) (by decide +kernel))) rfl
theorem tw_679 : Cond.methodLink "KeyCommandInterpreterLaw" (88) yX5_startRecording ∈ TBg := tb_in (List.mem_append_right _ (List.mem_of_getElem? (i := 679) (by decide +kernel))) rfl
theorem tw_680 : Cond.instanceMethod yX5_startRecording ∈ TBg := tb_in (List.mem_append_right _ (List.mem_of_getElem? (i := 680) (by decide +kernel))) rfl
theorem tw_681 : Cond.selects "KeyCommandInterpreterModel" yX5_startRecording yX5_startRecording ∈ TBg := tb_in (List.mem_append_right _ (List.mem_of_getElem? (i := 681) (by decide +kernel))) rfl
theorem tw_682 : Cond.code yX5_startRecording (prog_7_method_32_code) (3) (Option.some Jvm.ClassFile.FieldType.int) ∈ TBg := tb_in (List.mem_append_right _ (List.mem_of_getElem? (i := 682) (by decide +kernel))) rfl
theorem tw_683 : Cond.methodLink "KeyCommandInterpreterLaw" (92) yX5_stopRecording ∈ TBg := tb_in (List.mem_append_right _ (List.mem_of_getElem? (i := 683) (by decide +kernel))) rfl
theorem tw_684 : Cond.instanceMethod yX5_stopRecording ∈ TBg := tb_in (List.mem_append_right _ (List.mem_of_getElem? (i := 684) (by decide +kernel))) rfl
theorem tw_685 : Cond.selects "KeyCommandInterpreterModel" yX5_stopRecording yX5_stopRecording ∈ TBg := tb_in (List.mem_append_right _ (List.mem_of_getElem? (i := 685) (by decide +kernel))) rfl
theorem tw_686 : Cond.code yX5_stopRecording (prog_7_method_33_code) (2) (Option.some Jvm.ClassFile.FieldType.int) ∈ TBg := tb_in (List.mem_append_right _ (List.mem_of_getElem? (i := 686) (by decide +kernel))) rfl
theorem tw_687 : Cond.methodLink "KeyCommandInterpreterLaw" (96) yX5_macroKey ∈ TBg := tb_in (List.mem_append_right _ (List.mem_of_getElem? (i := 687) (by decide +kernel))) rfl
theorem tw_688 : Cond.instanceMethod yX5_macroKey ∈ TBg := tb_in (List.mem_append_right _ (List.mem_of_getElem? (i := 688) (by decide +kernel))) rfl
theorem tw_689 : Cond.selects "KeyCommandInterpreterModel" yX5_macroKey yX5_macroKey ∈ TBg := tb_in (List.mem_append_right _ (List.mem_of_getElem? (i := 689) (by decide +kernel))) rfl
theorem tw_690 : Cond.code yX5_macroKey (prog_7_method_34_code) (3) (Option.some Jvm.ClassFile.FieldType.int) ∈ TBg := tb_in (List.mem_append_right _ (List.mem_of_getElem? (i := 690) (by decide +kernel))) rfl
theorem tw_691 : Cond.methodLink "KeyCommandInterpreterLaw" (100) yX5_reportCount ∈ TBg := tb_in (List.mem_append_right _ (List.mem_of_getElem? (i := 691) (by decide +kernel))) rfl
theorem tw_692 : Cond.instanceMethod yX5_reportCount ∈ TBg := tb_in (List.mem_append_right _ (List.mem_of_getElem? (i := 692) (by decide +kernel))) rfl
theorem tw_693 : Cond.selects "KeyCommandInterpreterModel" yX5_reportCount yX5_reportCount ∈ TBg := tb_in (List.mem_append_right _ (List.mem_of_getElem? (i := 693) (by decide +kernel))) rfl
theorem tw_694 : Cond.code yX5_reportCount (prog_7_method_35_code) (1) (Option.some Jvm.ClassFile.FieldType.int) ∈ TBg := tb_in (List.mem_append_right _ (List.mem_of_getElem? (i := 694) (by decide +kernel))) rfl
theorem tw_695 : Cond.methodLink "KeyCommandInterpreterLaw" (104) yX5_reportKind ∈ TBg := tb_in (List.mem_append_right _ (List.mem_of_getElem? (i := 695) (by decide +kernel))) rfl
theorem tw_696 : Cond.instanceMethod yX5_reportKind ∈ TBg := tb_in (List.mem_append_right _ (List.mem_of_getElem? (i := 696) (by decide +kernel))) rfl
theorem tw_697 : Cond.selects "KeyCommandInterpreterModel" yX5_reportKind yX5_reportKind ∈ TBg := tb_in (List.mem_append_right _ (List.mem_of_getElem? (i := 697) (by decide +kernel))) rfl
theorem tw_698 : Cond.code yX5_reportKind (prog_7_method_37_code) (3) (Option.some Jvm.ClassFile.FieldType.int) ∈ TBg := tb_in (List.mem_append_right _ (List.mem_of_getElem? (i := 698) (by decide +kernel))) rfl
theorem tw_699 : Cond.methodLink "KeyCommandInterpreterModel" (134) yX5_errorOf ∈ TBg := tb_in (List.mem_append_right _ (List.mem_of_getElem? (i := 699) (by decide +kernel))) rfl
theorem tw_701 : Cond.instanceMethod yX5_errorOf ∈ TBg := tb_in (List.mem_append_right _ (List.mem_of_getElem? (i := 701) (by decide +kernel))) rfl
theorem tw_702 : Cond.code yX5_errorOf (prog_7_method_36_code) (2) (Option.some Jvm.ClassFile.FieldType.int) ∈ TBg := tb_in (List.mem_append_right _ (List.mem_of_getElem? (i := 702) (by decide +kernel))) rfl
theorem tw_703 : Cond.methodLink "KeyCommandInterpreterLaw" (108) yX5_reportArgument ∈ TBg := tb_in (List.mem_append_right _ (List.mem_of_getElem? (i := 703) (by decide +kernel))) rfl
theorem tw_704 : Cond.instanceMethod yX5_reportArgument ∈ TBg := tb_in (List.mem_append_right _ (List.mem_of_getElem? (i := 704) (by decide +kernel))) rfl
theorem tw_705 : Cond.selects "KeyCommandInterpreterModel" yX5_reportArgument yX5_reportArgument ∈ TBg := tb_in (List.mem_append_right _ (List.mem_of_getElem? (i := 705) (by decide +kernel))) rfl
theorem tw_706 : Cond.code yX5_reportArgument (prog_7_method_38_code) (3) (Option.some Jvm.ClassFile.FieldType.int) ∈ TBg := tb_in (List.mem_append_right _ (List.mem_of_getElem? (i := 706) (by decide +kernel))) rfl
theorem tw_708 : Cond.castable "KeyCommandInterpreter$Row" "java/lang/Object" ∈ lw_tbl := List.mem_append_right _ (List.mem_of_getElem? (i := 708) (by decide +kernel))
theorem tw_710 : Cond.castable "KeyCommandInterpreter$Context" "java/lang/Object" ∈ lw_tbl := List.mem_append_right _ (List.mem_of_getElem? (i := 710) (by decide +kernel))
theorem tw_713 : Cond.castable "KeyCommandInterpreter$Binding" "java/lang/Object" ∈ lw_tbl := List.mem_append_right _ (List.mem_of_getElem? (i := 713) (by decide +kernel))
theorem ts_0 : Cond.selects yJx4a65c_add_72be8.cls yJx4a65c_add_72be8 yJx4a65c_add_72be8 ∈ TBg := tb_in (List.mem_append_left _ (List.mem_of_getElem? (i := 0) (by decide +kernel))) rfl
theorem ts_1 : Cond.selects yJx4a65c_grow_d5877.cls yJx4a65c_grow_d5877 yJx4a65c_grow_d5877 ∈ TBg := tb_in (List.mem_append_left _ (List.mem_of_getElem? (i := 1) (by decide +kernel))) rfl
theorem ts_2 : Cond.selects yJx4a65c_grow_92f84.cls yJx4a65c_grow_92f84 yJx4a65c_grow_92f84 ∈ TBg := tb_in (List.mem_append_left _ (List.mem_of_getElem? (i := 2) (by decide +kernel))) rfl
theorem ts_3 : Cond.selects yX4_pushContext.cls yX4_pushContext yX4_pushContext ∈ TBg := tb_in (List.mem_append_left _ (List.mem_of_getElem? (i := 3) (by decide +kernel))) rfl
theorem ts_4 : Cond.selects yX4_isContext.cls yX4_isContext yX4_isContext ∈ TBg := tb_in (List.mem_append_left _ (List.mem_of_getElem? (i := 4) (by decide +kernel))) rfl
theorem ts_5 : Cond.selects yX3_isFull.cls yX3_isFull yX3_isFull ∈ TBg := tb_in (List.mem_append_left _ (List.mem_of_getElem? (i := 5) (by decide +kernel))) rfl
theorem ts_6 : Cond.selects yX3_add.cls yX3_add yX3_add ∈ TBg := tb_in (List.mem_append_left _ (List.mem_of_getElem? (i := 6) (by decide +kernel))) rfl
theorem ts_7 : Cond.selects yX3_size.cls yX3_size yX3_size ∈ TBg := tb_in (List.mem_append_left _ (List.mem_of_getElem? (i := 7) (by decide +kernel))) rfl
theorem ts_8 : Cond.selects yX3_clear.cls yX3_clear yX3_clear ∈ TBg := tb_in (List.mem_append_left _ (List.mem_of_getElem? (i := 8) (by decide +kernel))) rfl
theorem ts_9 : Cond.selects yX4_isCondition.cls yX4_isCondition yX4_isCondition ∈ TBg := tb_in (List.mem_append_left _ (List.mem_of_getElem? (i := 9) (by decide +kernel))) rfl
theorem ts_10 : Cond.selects yX4_isFlag.cls yX4_isFlag yX4_isFlag ∈ TBg := tb_in (List.mem_append_left _ (List.mem_of_getElem? (i := 10) (by decide +kernel))) rfl
theorem ts_11 : Cond.selects yX4_isAction.cls yX4_isAction yX4_isAction ∈ TBg := tb_in (List.mem_append_left _ (List.mem_of_getElem? (i := 11) (by decide +kernel))) rfl
theorem ts_12 : Cond.selects yX4_isMacro.cls yX4_isMacro yX4_isMacro ∈ TBg := tb_in (List.mem_append_left _ (List.mem_of_getElem? (i := 12) (by decide +kernel))) rfl
theorem ts_13 : Cond.selects yX3_copy.cls yX3_copy yX3_copy ∈ TBg := tb_in (List.mem_append_left _ (List.mem_of_getElem? (i := 13) (by decide +kernel))) rfl
theorem ts_14 : Cond.selects yX4_isBinding.cls yX4_isBinding yX4_isBinding ∈ TBg := tb_in (List.mem_append_left _ (List.mem_of_getElem? (i := 14) (by decide +kernel))) rfl
theorem ts_15 : Cond.selects yJx4a65c_fastRemove_b59b0.cls yJx4a65c_fastRemove_b59b0 yJx4a65c_fastRemove_b59b0 ∈ TBg := tb_in (List.mem_append_left _ (List.mem_of_getElem? (i := 15) (by decide +kernel))) rfl
theorem ts_16 : Cond.selects yX0_shadows.cls yX0_shadows yX0_shadows ∈ TBg := tb_in (List.mem_append_left _ (List.mem_of_getElem? (i := 16) (by decide +kernel))) rfl
theorem ts_17 : Cond.selects yX0_isFor.cls yX0_isFor yX0_isFor ∈ TBg := tb_in (List.mem_append_left _ (List.mem_of_getElem? (i := 17) (by decide +kernel))) rfl
theorem ts_18 : Cond.selects yX3_sharesBeginning.cls yX3_sharesBeginning yX3_sharesBeginning ∈ TBg := tb_in (List.mem_append_left _ (List.mem_of_getElem? (i := 18) (by decide +kernel))) rfl
theorem ts_19 : Cond.selects yX4_processWaitingKeys.cls yX4_processWaitingKeys yX4_processWaitingKeys ∈ TBg := tb_in (List.mem_append_left _ (List.mem_of_getElem? (i := 19) (by decide +kernel))) rfl
theorem ts_20 : Cond.selects yX3_removeLast.cls yX3_removeLast yX3_removeLast ∈ TBg := tb_in (List.mem_append_left _ (List.mem_of_getElem? (i := 20) (by decide +kernel))) rfl
theorem ts_21 : Cond.selects yX4_isExtensible.cls yX4_isExtensible yX4_isExtensible ∈ TBg := tb_in (List.mem_append_left _ (List.mem_of_getElem? (i := 21) (by decide +kernel))) rfl
theorem ts_22 : Cond.selects yX0_isLongerThan.cls yX0_isLongerThan yX0_isLongerThan ∈ TBg := tb_in (List.mem_append_left _ (List.mem_of_getElem? (i := 22) (by decide +kernel))) rfl
theorem ts_23 : Cond.selects yX0_holds.cls yX0_holds yX0_holds ∈ TBg := tb_in (List.mem_append_left _ (List.mem_of_getElem? (i := 23) (by decide +kernel))) rfl
theorem ts_24 : Cond.selects yX4_releasePending.cls yX4_releasePending yX4_releasePending ∈ TBg := tb_in (List.mem_append_left _ (List.mem_of_getElem? (i := 24) (by decide +kernel))) rfl
theorem ts_25 : Cond.selects yX4_findBinding.cls yX4_findBinding yX4_findBinding ∈ TBg := tb_in (List.mem_append_left _ (List.mem_of_getElem? (i := 25) (by decide +kernel))) rfl
theorem ts_26 : Cond.selects yX3_at.cls yX3_at yX3_at ∈ TBg := tb_in (List.mem_append_left _ (List.mem_of_getElem? (i := 26) (by decide +kernel))) rfl
theorem ts_27 : Cond.selects yX2_add.cls yX2_add yX2_add ∈ TBg := tb_in (List.mem_append_left _ (List.mem_of_getElem? (i := 27) (by decide +kernel))) rfl
theorem ts_28 : Cond.selects yX4_perform.cls yX4_perform yX4_perform ∈ TBg := tb_in (List.mem_append_left _ (List.mem_of_getElem? (i := 28) (by decide +kernel))) rfl
theorem ts_29 : Cond.selects yX4_isRefused.cls yX4_isRefused yX4_isRefused ∈ TBg := tb_in (List.mem_append_left _ (List.mem_of_getElem? (i := 29) (by decide +kernel))) rfl
theorem ts_30 : Cond.selects yX4_play.cls yX4_play yX4_play ∈ TBg := tb_in (List.mem_append_left _ (List.mem_of_getElem? (i := 30) (by decide +kernel))) rfl
theorem ts_31 : Cond.selects yX4_popContext.cls yX4_popContext yX4_popContext ∈ TBg := tb_in (List.mem_append_left _ (List.mem_of_getElem? (i := 31) (by decide +kernel))) rfl
theorem ts_32 : Cond.selects yX2_kindOf.cls yX2_kindOf yX2_kindOf ∈ TBg := tb_in (List.mem_append_left _ (List.mem_of_getElem? (i := 32) (by decide +kernel))) rfl
theorem ts_33 : Cond.selects yX2_isReadable.cls yX2_isReadable yX2_isReadable ∈ TBg := tb_in (List.mem_append_left _ (List.mem_of_getElem? (i := 33) (by decide +kernel))) rfl
theorem ts_34 : Cond.selects yX2_argumentOf.cls yX2_argumentOf yX2_argumentOf ∈ TBg := tb_in (List.mem_append_left _ (List.mem_of_getElem? (i := 34) (by decide +kernel))) rfl
theorem ts_35 : Cond.selects yX5_isBinding.cls yX5_isBinding yX5_isBinding ∈ TBg := tb_in (List.mem_append_left _ (List.mem_of_getElem? (i := 35) (by decide +kernel))) rfl
theorem ts_36 : Cond.selects yX5_adds.cls yX5_adds yX5_adds ∈ TBg := tb_in (List.mem_append_left _ (List.mem_of_getElem? (i := 36) (by decide +kernel))) rfl
theorem ts_37 : Cond.selects yX5_works.cls yX5_works yX5_works ∈ TBg := tb_in (List.mem_append_left _ (List.mem_of_getElem? (i := 37) (by decide +kernel))) rfl
theorem ts_38 : Cond.selects yX5_isExtensible.cls yX5_isExtensible yX5_isExtensible ∈ TBg := tb_in (List.mem_append_left _ (List.mem_of_getElem? (i := 38) (by decide +kernel))) rfl
theorem ts_39 : Cond.selects yX5_fits.cls yX5_fits yX5_fits ∈ TBg := tb_in (List.mem_append_left _ (List.mem_of_getElem? (i := 39) (by decide +kernel))) rfl
theorem ts_40 : Cond.selects yX5_ends.cls yX5_ends yX5_ends ∈ TBg := tb_in (List.mem_append_left _ (List.mem_of_getElem? (i := 40) (by decide +kernel))) rfl
theorem ts_41 : Cond.selects yX5_bound.cls yX5_bound yX5_bound ∈ TBg := tb_in (List.mem_append_left _ (List.mem_of_getElem? (i := 41) (by decide +kernel))) rfl
theorem ts_42 : Cond.selects yX5_frees.cls yX5_frees yX5_frees ∈ TBg := tb_in (List.mem_append_left _ (List.mem_of_getElem? (i := 42) (by decide +kernel))) rfl
theorem ts_43 : Cond.selects yX5_says.cls yX5_says yX5_says ∈ TBg := tb_in (List.mem_append_left _ (List.mem_of_getElem? (i := 43) (by decide +kernel))) rfl
theorem ts_44 : Cond.selects yX5_performs.cls yX5_performs yX5_performs ∈ TBg := tb_in (List.mem_append_left _ (List.mem_of_getElem? (i := 44) (by decide +kernel))) rfl
theorem ts_45 : Cond.selects yX5_plays.cls yX5_plays yX5_plays ∈ TBg := tb_in (List.mem_append_left _ (List.mem_of_getElem? (i := 45) (by decide +kernel))) rfl
theorem ts_46 : Cond.selects yX5_errorOf.cls yX5_errorOf yX5_errorOf ∈ TBg := tb_in (List.mem_append_left _ (List.mem_of_getElem? (i := 46) (by decide +kernel))) rfl
end
section
theorem cbX0 : CB 0 RX0 TX0 5 tyX0 := ⟨by decide, rfl, (show ∀ w ∈ [u_lay RX0 TX0 0, u_lay RX0 TX0 1, u_lay RX0 TX0 2, u_lay RX0 TX0 3, u_lay RX0 TX0 4], w ∈ TBg from List.forall_mem_cons.mpr ⟨tw_289, List.forall_mem_cons.mpr ⟨tw_291, List.forall_mem_cons.mpr ⟨tw_293, List.forall_mem_cons.mpr ⟨tw_295, List.forall_mem_cons.mpr ⟨tw_297, (fun _ h => absurd h List.not_mem_nil)⟩⟩⟩⟩⟩), tyX0_ok, nmX0, rfl, (by decide)⟩
theorem cbX1 : CB 1 RX1 TX1 2 tyX1 := ⟨by decide, rfl, (show ∀ w ∈ [u_lay RX1 TX1 0, u_lay RX1 TX1 1], w ∈ TBg from List.forall_mem_cons.mpr ⟨tw_131, List.forall_mem_cons.mpr ⟨tw_133, (fun _ h => absurd h List.not_mem_nil)⟩⟩), tyX1_ok, nmX1, rfl, (by decide)⟩
theorem cbX2 : CB 2 RX2 TX2 3 tyX2 := ⟨by decide, rfl, (show ∀ w ∈ [u_lay RX2 TX2 0, u_lay RX2 TX2 1, u_lay RX2 TX2 2], w ∈ TBg from List.forall_mem_cons.mpr ⟨tw_146, List.forall_mem_cons.mpr ⟨tw_148, List.forall_mem_cons.mpr ⟨tw_150, (fun _ h => absurd h List.not_mem_nil)⟩⟩⟩), tyX2_ok, nmX2, rfl, (by decide)⟩
theorem cbX3 : CB 3 RX3 TX3 2 tyX3 := ⟨by decide, rfl, (show ∀ w ∈ [u_lay RX3 TX3 0, u_lay RX3 TX3 1], w ∈ TBg from List.forall_mem_cons.mpr ⟨tw_35, List.forall_mem_cons.mpr ⟨tw_37, (fun _ h => absurd h List.not_mem_nil)⟩⟩), tyX3_ok, nmX3, rfl, (by decide)⟩
theorem cbX4 : CB 4 RX4 TX4 13 tyX4 := ⟨by decide, rfl, (show ∀ w ∈ [u_lay RX4 TX4 0, u_lay RX4 TX4 1, u_lay RX4 TX4 2, u_lay RX4 TX4 3, u_lay RX4 TX4 4, u_lay RX4 TX4 5, u_lay RX4 TX4 6, u_lay RX4 TX4 7, u_lay RX4 TX4 8, u_lay RX4 TX4 9, u_lay RX4 TX4 10, u_lay RX4 TX4 11, u_lay RX4 TX4 12], w ∈ TBg from List.forall_mem_cons.mpr ⟨tw_192, List.forall_mem_cons.mpr ⟨tw_194, List.forall_mem_cons.mpr ⟨tw_196, List.forall_mem_cons.mpr ⟨tw_198, List.forall_mem_cons.mpr ⟨tw_200, List.forall_mem_cons.mpr ⟨tw_202, List.forall_mem_cons.mpr ⟨tw_204, List.forall_mem_cons.mpr ⟨tw_206, List.forall_mem_cons.mpr ⟨tw_208, List.forall_mem_cons.mpr ⟨tw_210, List.forall_mem_cons.mpr ⟨tw_212, List.forall_mem_cons.mpr ⟨tw_214, List.forall_mem_cons.mpr ⟨tw_216, (fun _ h => absurd h List.not_mem_nil)⟩⟩⟩⟩⟩⟩⟩⟩⟩⟩⟩⟩⟩), tyX4_ok, nmX4, rfl, (by decide)⟩
theorem cbX5 : CB 5 RX5 TX5 26 tyX5 := ⟨by decide, rfl, (show ∀ w ∈ [u_lay RX5 TX5 0, u_lay RX5 TX5 1, u_lay RX5 TX5 2, u_lay RX5 TX5 3, u_lay RX5 TX5 4, u_lay RX5 TX5 5, u_lay RX5 TX5 6, u_lay RX5 TX5 7, u_lay RX5 TX5 8, u_lay RX5 TX5 9, u_lay RX5 TX5 10, u_lay RX5 TX5 11, u_lay RX5 TX5 12, u_lay RX5 TX5 13, u_lay RX5 TX5 14, u_lay RX5 TX5 15, u_lay RX5 TX5 16, u_lay RX5 TX5 17, u_lay RX5 TX5 18, u_lay RX5 TX5 19, u_lay RX5 TX5 20, u_lay RX5 TX5 21, u_lay RX5 TX5 22, u_lay RX5 TX5 23, u_lay RX5 TX5 24, u_lay RX5 TX5 25], w ∈ TBg from List.forall_mem_cons.mpr ⟨tw_508, List.forall_mem_cons.mpr ⟨tw_510, List.forall_mem_cons.mpr ⟨tw_512, List.forall_mem_cons.mpr ⟨tw_514, List.forall_mem_cons.mpr ⟨tw_516, List.forall_mem_cons.mpr ⟨tw_518, List.forall_mem_cons.mpr ⟨tw_520, List.forall_mem_cons.mpr ⟨tw_522, List.forall_mem_cons.mpr ⟨tw_524, List.forall_mem_cons.mpr ⟨tw_526, List.forall_mem_cons.mpr ⟨tw_528, List.forall_mem_cons.mpr ⟨tw_530, List.forall_mem_cons.mpr ⟨tw_532, List.forall_mem_cons.mpr ⟨tw_534, List.forall_mem_cons.mpr ⟨tw_536, List.forall_mem_cons.mpr ⟨tw_538, List.forall_mem_cons.mpr ⟨tw_540, List.forall_mem_cons.mpr ⟨tw_542, List.forall_mem_cons.mpr ⟨tw_544, List.forall_mem_cons.mpr ⟨tw_546, List.forall_mem_cons.mpr ⟨tw_548, List.forall_mem_cons.mpr ⟨tw_550, List.forall_mem_cons.mpr ⟨tw_552, List.forall_mem_cons.mpr ⟨tw_554, List.forall_mem_cons.mpr ⟨tw_556, List.forall_mem_cons.mpr ⟨tw_558, (fun _ h => absurd h List.not_mem_nil)⟩⟩⟩⟩⟩⟩⟩⟩⟩⟩⟩⟩⟩⟩⟩⟩⟩⟩⟩⟩⟩⟩⟩⟩⟩⟩), tyX5_ok, nmX5, rfl, (by decide)⟩
theorem cbJx4a65c : CB 6 RJx4a65c TJx4a65c 3 tyJx4a65c := ⟨by decide, rfl, (show ∀ w ∈ [u_lay RJx4a65c TJx4a65c 0, u_lay RJx4a65c TJx4a65c 1, u_lay RJx4a65c TJx4a65c 2], w ∈ TBg from List.forall_mem_cons.mpr ⟨tw_64, List.forall_mem_cons.mpr ⟨tw_60, List.forall_mem_cons.mpr ⟨tw_62, (fun _ h => absurd h List.not_mem_nil)⟩⟩⟩), tyJx4a65c_ok, nmJx4a65c, rfl, (by decide)⟩
theorem cf_J15_checkIndex_7cf53 : CFS yJ15_checkIndex_7cf53 cJ15_checkIndex_7cf53 2 (some .int) 2 := ⟨tw_170, tw_12, tw_171, ⟨by decide +kernel, by decide +kernel, by decide +kernel⟩⟩
theorem cf_J3_checkIndex_8e157 : CFS yJ3_checkIndex_8e157 cJ3_checkIndex_8e157 3 (some .int) 3 := ⟨tw_173, tw_13, tw_174, ⟨by decide +kernel, by decide +kernel, by decide +kernel⟩⟩
theorem cf_J9_floorMod_7cf53 : CFS yJ9_floorMod_7cf53 cJ9_floorMod_7cf53 3 (some .int) 2 := ⟨tw_381, tw_3, tw_382, ⟨by decide +kernel, by decide +kernel, by decide +kernel⟩⟩
theorem cf_J9_max_7cf53 : CFS yJ9_max_7cf53 cJ9_max_7cf53 2 (some .int) 2 := ⟨tw_31, tw_3, tw_32, ⟨by decide +kernel, by decide +kernel, by decide +kernel⟩⟩
theorem cf_Jx4a65c_add_72be8 : CFV yJx4a65c_add_72be8 cJx4a65c_add_72be8 4 none 3 := ⟨tw_73, ts_0, tw_6, tw_74, ⟨by decide +kernel, by decide +kernel, by decide +kernel⟩⟩
theorem cf_Jx4a65c_add_9ea2d : CFV yJx4a65c_add_9ea2d cJx4a65c_add_9ea2d 2 (some .boolean) 1 := ⟨tw_68, tw_69, tw_6, tw_70, ⟨by decide +kernel, by decide +kernel, by decide +kernel⟩⟩
theorem cf_Jx4a65c_elementData_915e3 : CFV yJx4a65c_elementData_915e3 cJx4a65c_elementData_915e3 2 (some (.object "java/lang/Object")) 1 := ⟨tw_176, tw_177, tw_6, tw_178, ⟨by decide +kernel, by decide +kernel, by decide +kernel⟩⟩
theorem cf_Jx4a65c_fastRemove_b59b0 : CFV yJx4a65c_fastRemove_b59b0 cJx4a65c_fastRemove_b59b0 4 none 2 := ⟨tw_314, ts_15, tw_6, tw_315, ⟨by decide +kernel, by decide +kernel, by decide +kernel⟩⟩
theorem cf_Jx4a65c_get_915e3 : CFV yJx4a65c_get_915e3 cJx4a65c_get_915e3 2 (some (.object "java/lang/Object")) 1 := ⟨tw_166, tw_167, tw_6, tw_168, ⟨by decide +kernel, by decide +kernel, by decide +kernel⟩⟩
theorem cf_Jx4a65c_grow_92f84 : CFV yJx4a65c_grow_92f84 cJx4a65c_grow_92f84 4 (some (.array (.object "java/lang/Object"))) 1 := ⟨tw_81, ts_2, tw_6, tw_82, ⟨by decide +kernel, by decide +kernel, by decide +kernel⟩⟩
theorem cf_Jx4a65c_grow_d5877 : CFV yJx4a65c_grow_d5877 cJx4a65c_grow_d5877 1 (some (.array (.object "java/lang/Object"))) 0 := ⟨tw_77, ts_1, tw_6, tw_78, ⟨by decide +kernel, by decide +kernel, by decide +kernel⟩⟩
theorem cf_Jx4a65c_init_da8c8 : CFI yJx4a65c_init_da8c8 cJx4a65c_init_da8c8 1 0 := ⟨tw_44, tw_6, tw_45, rfl, ⟨by decide +kernel, by decide +kernel, by decide +kernel⟩⟩
theorem cf_Jx4a65c_remove_915e3 : CFV yJx4a65c_remove_915e3 cJx4a65c_remove_915e3 4 (some (.object "java/lang/Object")) 1 := ⟨tw_309, tw_310, tw_6, tw_311, ⟨by decide +kernel, by decide +kernel, by decide +kernel⟩⟩
theorem cf_Jx4a65c_size_8abf5 : CFV yJx4a65c_size_8abf5 cJx4a65c_size_8abf5 1 (some .int) 0 := ⟨tw_162, tw_163, tw_6, tw_164, ⟨by decide +kernel, by decide +kernel, by decide +kernel⟩⟩
theorem cf_Jxa1e45_init_da8c8 : CFI yJxa1e45_init_da8c8 cJxa1e45_init_da8c8 1 0 := ⟨tw_50, tw_4, tw_51, rfl, ⟨by decide +kernel, by decide +kernel, by decide +kernel⟩⟩
theorem cf_Jxc12de_init_da8c8 : CFI yJxc12de_init_da8c8 cJxc12de_init_da8c8 1 0 := ⟨tw_47, tw_5, tw_48, rfl, ⟨by decide +kernel, by decide +kernel, by decide +kernel⟩⟩
theorem cf_X0_holds : CFV yX0_holds cX0_holds 2 (some .boolean) 1 := ⟨tw_361, ts_23, tw_15, tw_362, ⟨by decide +kernel, by decide +kernel, by decide +kernel⟩⟩
theorem cf_X0_init : CFI yX0_init cX0_init 6 5 := ⟨tw_279, tw_15, tw_280, rfl, ⟨by decide +kernel, by decide +kernel, by decide +kernel⟩⟩
theorem cf_X0_isFor : CFV yX0_isFor cX0_isFor 3 (some .boolean) 2 := ⟨tw_332, ts_17, tw_15, tw_333, ⟨by decide +kernel, by decide +kernel, by decide +kernel⟩⟩
theorem cf_X0_isLongerThan : CFV yX0_isLongerThan cX0_isLongerThan 2 (some .boolean) 1 := ⟨tw_357, ts_22, tw_15, tw_358, ⟨by decide +kernel, by decide +kernel, by decide +kernel⟩⟩
theorem cf_X0_shadows : CFV yX0_shadows cX0_shadows 2 (some .boolean) 1 := ⟨tw_327, ts_16, tw_15, tw_328, ⟨by decide +kernel, by decide +kernel, by decide +kernel⟩⟩
theorem cf_X1_init : CFI yX1_init cX1_init 2 1 := ⟨tw_122, tw_10, tw_123, rfl, ⟨by decide +kernel, by decide +kernel, by decide +kernel⟩⟩
theorem cf_X2_add : CFV yX2_add cX2_add 4 none 2 := ⟨tw_378, ts_27, tw_11, tw_379, ⟨by decide +kernel, by decide +kernel, by decide +kernel⟩⟩
theorem cf_X2_argumentOf : CFV yX2_argumentOf cX2_argumentOf 2 (some .int) 1 := ⟨tw_474, ts_34, tw_11, tw_475, ⟨by decide +kernel, by decide +kernel, by decide +kernel⟩⟩
theorem cf_X2_init : CFI yX2_init cX2_init 1 0 := ⟨tw_139, tw_11, tw_140, rfl, ⟨by decide +kernel, by decide +kernel, by decide +kernel⟩⟩
theorem cf_X2_isReadable : CFV yX2_isReadable cX2_isReadable 2 (some .boolean) 1 := ⟨tw_466, ts_33, tw_11, tw_467, ⟨by decide +kernel, by decide +kernel, by decide +kernel⟩⟩
theorem cf_X2_kindOf : CFV yX2_kindOf cX2_kindOf 2 (some .int) 1 := ⟨tw_462, ts_32, tw_11, tw_463, ⟨by decide +kernel, by decide +kernel, by decide +kernel⟩⟩
theorem cf_X3_add : CFV yX3_add cX3_add 2 none 1 := ⟨tw_232, ts_6, tw_2, tw_233, ⟨by decide +kernel, by decide +kernel, by decide +kernel⟩⟩
theorem cf_X3_at : CFV yX3_at cX3_at 2 (some .int) 1 := ⟨tw_374, ts_26, tw_2, tw_375, ⟨by decide +kernel, by decide +kernel, by decide +kernel⟩⟩
theorem cf_X3_clear : CFV yX3_clear cX3_clear 1 none 0 := ⟨tw_244, ts_8, tw_2, tw_245, ⟨by decide +kernel, by decide +kernel, by decide +kernel⟩⟩
theorem cf_X3_copy : CFV yX3_copy cX3_copy 3 (some (.object "KeyCommandInterpreter$Row")) 0 := ⟨tw_273, ts_13, tw_2, tw_274, ⟨by decide +kernel, by decide +kernel, by decide +kernel⟩⟩
theorem cf_X3_init : CFI yX3_init cX3_init 2 1 := ⟨tw_27, tw_2, tw_28, rfl, ⟨by decide +kernel, by decide +kernel, by decide +kernel⟩⟩
theorem cf_X3_isFull : CFV yX3_isFull cX3_isFull 1 (some .boolean) 0 := ⟨tw_228, ts_5, tw_2, tw_229, ⟨by decide +kernel, by decide +kernel, by decide +kernel⟩⟩
theorem cf_X3_removeLast : CFV yX3_removeLast cX3_removeLast 1 (some .int) 0 := ⟨tw_349, ts_20, tw_2, tw_350, ⟨by decide +kernel, by decide +kernel, by decide +kernel⟩⟩
theorem cf_X3_sharesBeginning : CFV yX3_sharesBeginning cX3_sharesBeginning 4 (some .boolean) 2 := ⟨tw_336, ts_18, tw_2, tw_337, ⟨by decide +kernel, by decide +kernel, by decide +kernel⟩⟩
theorem cf_X3_size : CFV yX3_size cX3_size 1 (some .int) 0 := ⟨tw_236, ts_7, tw_2, tw_237, ⟨by decide +kernel, by decide +kernel, by decide +kernel⟩⟩
theorem cf_X4_appendKey : CFV yX4_appendKey cX4_appendKey 2 (some .int) 1 := ⟨tw_220, tw_221, tw_1, tw_222, ⟨by decide +kernel, by decide +kernel, by decide +kernel⟩⟩
theorem cf_X4_bind : CFV yX4_bind cX4_bind 7 (some .int) 5 := ⟨tw_247, tw_248, tw_1, tw_249, ⟨by decide +kernel, by decide +kernel, by decide +kernel⟩⟩
theorem cf_X4_bindingCount : CFV yX4_bindingCount cX4_bindingCount 2 (some .int) 1 := ⟨tw_318, tw_319, tw_1, tw_320, ⟨by decide +kernel, by decide +kernel, by decide +kernel⟩⟩
theorem cf_X4_clearKeys : CFV yX4_clearKeys cX4_clearKeys 2 (some .int) 0 := ⟨tw_239, tw_240, tw_1, tw_241, ⟨by decide +kernel, by decide +kernel, by decide +kernel⟩⟩
theorem cf_X4_findBinding : CFV yX4_findBinding cX4_findBinding 6 (some .int) 1 := ⟨tw_369, ts_25, tw_1, tw_370, ⟨by decide +kernel, by decide +kernel, by decide +kernel⟩⟩
theorem cf_X4_flag : CFV yX4_flag cX4_flag 2 (some .int) 1 := ⟨tw_429, tw_430, tw_1, tw_431, ⟨by decide +kernel, by decide +kernel, by decide +kernel⟩⟩
theorem cf_X4_init : CFI yX4_init cX4_init 2 0 := ⟨tw_19, tw_1, tw_20, rfl, ⟨by decide +kernel, by decide +kernel, by decide +kernel⟩⟩
theorem cf_X4_isAction : CFV yX4_isAction cX4_isAction 3 (some .boolean) 2 := ⟨tw_263, ts_11, tw_1, tw_264, ⟨by decide +kernel, by decide +kernel, by decide +kernel⟩⟩
theorem cf_X4_isBetween : CFS yX4_isBetween cX4_isBetween 3 (some .boolean) 3 := ⟨tw_259, tw_1, tw_260, ⟨by decide +kernel, by decide +kernel, by decide +kernel⟩⟩
theorem cf_X4_isBinding : CFV yX4_isBinding cX4_isBinding 3 (some .boolean) 2 := ⟨tw_306, ts_14, tw_1, tw_307, ⟨by decide +kernel, by decide +kernel, by decide +kernel⟩⟩
theorem cf_X4_isCondition : CFV yX4_isCondition cX4_isCondition 3 (some .boolean) 2 := ⟨tw_252, ts_9, tw_1, tw_253, ⟨by decide +kernel, by decide +kernel, by decide +kernel⟩⟩
theorem cf_X4_isContext : CFV yX4_isContext cX4_isContext 2 (some .boolean) 1 := ⟨tw_159, ts_4, tw_1, tw_160, ⟨by decide +kernel, by decide +kernel, by decide +kernel⟩⟩
theorem cf_X4_isExtensible : CFV yX4_isExtensible cX4_isExtensible 5 (some .boolean) 0 := ⟨tw_353, ts_21, tw_1, tw_354, ⟨by decide +kernel, by decide +kernel, by decide +kernel⟩⟩
theorem cf_X4_isFlag : CFV yX4_isFlag cX4_isFlag 2 (some .boolean) 1 := ⟨tw_256, ts_10, tw_1, tw_257, ⟨by decide +kernel, by decide +kernel, by decide +kernel⟩⟩
theorem cf_X4_isKey : CFS yX4_isKey cX4_isKey 1 (some .boolean) 1 := ⟨tw_224, tw_1, tw_225, ⟨by decide +kernel, by decide +kernel, by decide +kernel⟩⟩
theorem cf_X4_isMacro : CFV yX4_isMacro cX4_isMacro 2 (some .boolean) 1 := ⟨tw_267, ts_12, tw_1, tw_268, ⟨by decide +kernel, by decide +kernel, by decide +kernel⟩⟩
theorem cf_X4_isRefused : CFV yX4_isRefused cX4_isRefused 3 (some .boolean) 2 := ⟨tw_389, ts_29, tw_1, tw_390, ⟨by decide +kernel, by decide +kernel, by decide +kernel⟩⟩
theorem cf_X4_macroKey : CFV yX4_macroKey cX4_macroKey 3 (some .int) 2 := ⟨tw_449, tw_450, tw_1, tw_451, ⟨by decide +kernel, by decide +kernel, by decide +kernel⟩⟩
theorem cf_X4_pendingBinding : CFV yX4_pendingBinding cX4_pendingBinding 1 (some .int) 0 := ⟨tw_425, tw_426, tw_1, tw_427, ⟨by decide +kernel, by decide +kernel, by decide +kernel⟩⟩
theorem cf_X4_pendingKey : CFV yX4_pendingKey cX4_pendingKey 2 (some .int) 1 := ⟨tw_417, tw_418, tw_1, tw_419, ⟨by decide +kernel, by decide +kernel, by decide +kernel⟩⟩
theorem cf_X4_pendingLength : CFV yX4_pendingLength cX4_pendingLength 1 (some .int) 0 := ⟨tw_413, tw_414, tw_1, tw_415, ⟨by decide +kernel, by decide +kernel, by decide +kernel⟩⟩
theorem cf_X4_perform : CFV yX4_perform cX4_perform 5 none 2 := ⟨tw_385, ts_28, tw_1, tw_386, ⟨by decide +kernel, by decide +kernel, by decide +kernel⟩⟩
theorem cf_X4_play : CFV yX4_play cX4_play 4 none 1 := ⟨tw_393, ts_30, tw_1, tw_394, ⟨by decide +kernel, by decide +kernel, by decide +kernel⟩⟩
theorem cf_X4_popContext : CFV yX4_popContext cX4_popContext 1 none 0 := ⟨tw_397, ts_31, tw_1, tw_398, ⟨by decide +kernel, by decide +kernel, by decide +kernel⟩⟩
theorem cf_X4_press : CFV yX4_press cX4_press 3 (some .int) 1 := ⟨tw_339, tw_340, tw_1, tw_341, ⟨by decide +kernel, by decide +kernel, by decide +kernel⟩⟩
theorem cf_X4_processWaitingKeys : CFV yX4_processWaitingKeys cX4_processWaitingKeys 3 none 0 := ⟨tw_344, ts_19, tw_1, tw_345, ⟨by decide +kernel, by decide +kernel, by decide +kernel⟩⟩
theorem cf_X4_pushContext : CFV yX4_pushContext cX4_pushContext 2 none 1 := ⟨tw_155, ts_3, tw_1, tw_156, ⟨by decide +kernel, by decide +kernel, by decide +kernel⟩⟩
theorem cf_X4_releasePending : CFV yX4_releasePending cX4_releasePending 5 none 0 := ⟨tw_365, ts_24, tw_1, tw_366, ⟨by decide +kernel, by decide +kernel, by decide +kernel⟩⟩
theorem cf_X4_remainingTime : CFV yX4_remainingTime cX4_remainingTime 1 (some .int) 0 := ⟨tw_421, tw_422, tw_1, tw_423, ⟨by decide +kernel, by decide +kernel, by decide +kernel⟩⟩
theorem cf_X4_reportArgument : CFV yX4_reportArgument cX4_reportArgument 2 (some .int) 1 := ⟨tw_469, tw_470, tw_1, tw_471, ⟨by decide +kernel, by decide +kernel, by decide +kernel⟩⟩
theorem cf_X4_reportCount : CFV yX4_reportCount cX4_reportCount 1 (some .int) 0 := ⟨tw_453, tw_454, tw_1, tw_455, ⟨by decide +kernel, by decide +kernel, by decide +kernel⟩⟩
theorem cf_X4_reportKind : CFV yX4_reportKind cX4_reportKind 2 (some .int) 1 := ⟨tw_457, tw_458, tw_1, tw_459, ⟨by decide +kernel, by decide +kernel, by decide +kernel⟩⟩
theorem cf_X4_setFlag : CFV yX4_setFlag cX4_setFlag 4 (some .int) 2 := ⟨tw_400, tw_401, tw_1, tw_402, ⟨by decide +kernel, by decide +kernel, by decide +kernel⟩⟩
theorem cf_X4_setTimeout : CFV yX4_setTimeout cX4_setTimeout 3 (some .int) 1 := ⟨tw_408, tw_409, tw_1, tw_410, ⟨by decide +kernel, by decide +kernel, by decide +kernel⟩⟩
theorem cf_X4_shadowedBy : CFV yX4_shadowedBy cX4_shadowedBy 6 (some .int) 2 := ⟨tw_322, tw_323, tw_1, tw_324, ⟨by decide +kernel, by decide +kernel, by decide +kernel⟩⟩
theorem cf_X4_stackContext : CFV yX4_stackContext cX4_stackContext 2 (some .int) 1 := ⟨tw_437, tw_438, tw_1, tw_439, ⟨by decide +kernel, by decide +kernel, by decide +kernel⟩⟩
theorem cf_X4_stackSize : CFV yX4_stackSize cX4_stackSize 1 (some .int) 0 := ⟨tw_433, tw_434, tw_1, tw_435, ⟨by decide +kernel, by decide +kernel, by decide +kernel⟩⟩
theorem cf_X4_startRecording : CFV yX4_startRecording cX4_startRecording 4 (some .int) 1 := ⟨tw_441, tw_442, tw_1, tw_443, ⟨by decide +kernel, by decide +kernel, by decide +kernel⟩⟩
theorem cf_X4_stopRecording : CFV yX4_stopRecording cX4_stopRecording 2 (some .int) 0 := ⟨tw_445, tw_446, tw_1, tw_447, ⟨by decide +kernel, by decide +kernel, by decide +kernel⟩⟩
theorem cf_X4_tick : CFV yX4_tick cX4_tick 4 (some .int) 1 := ⟨tw_404, tw_405, tw_1, tw_406, ⟨by decide +kernel, by decide +kernel, by decide +kernel⟩⟩
theorem cf_X4_unbind : CFV yX4_unbind cX4_unbind 4 (some .int) 2 := ⟨tw_301, tw_302, tw_1, tw_303, ⟨by decide +kernel, by decide +kernel, by decide +kernel⟩⟩
theorem cf_X5_adds : CFV yX5_adds cX5_adds 2 none 1 := ⟨tw_601, ts_36, tw_14, tw_602, ⟨by decide +kernel, by decide +kernel, by decide +kernel⟩⟩
theorem cf_X5_appendKey : CFV yX5_appendKey cX5_appendKey 2 (some .int) 1 := ⟨tw_562, tw_563, tw_14, tw_564, ⟨by decide +kernel, by decide +kernel, by decide +kernel⟩⟩
theorem cf_X5_bind : CFV yX5_bind cX5_bind 9 (some .int) 5 := ⟨tw_573, tw_574, tw_14, tw_575, ⟨by decide +kernel, by decide +kernel, by decide +kernel⟩⟩
theorem cf_X5_bindingCount : CFV yX5_bindingCount cX5_bindingCount 2 (some .int) 1 := ⟨tw_588, tw_589, tw_14, tw_590, ⟨by decide +kernel, by decide +kernel, by decide +kernel⟩⟩
theorem cf_X5_bound : CFV yX5_bound cX5_bound 5 (some .int) 1 := ⟨tw_621, ts_41, tw_14, tw_622, ⟨by decide +kernel, by decide +kernel, by decide +kernel⟩⟩
theorem cf_X5_clearKeys : CFV yX5_clearKeys cX5_clearKeys 2 (some .int) 0 := ⟨tw_569, tw_570, tw_14, tw_571, ⟨by decide +kernel, by decide +kernel, by decide +kernel⟩⟩
theorem cf_X5_ends : CFV yX5_ends cX5_ends 5 none 0 := ⟨tw_617, ts_40, tw_14, tw_618, ⟨by decide +kernel, by decide +kernel, by decide +kernel⟩⟩
theorem cf_X5_errorOf : CFV yX5_errorOf cX5_errorOf 2 (some .int) 1 := ⟨tw_701, ts_46, tw_14, tw_702, ⟨by decide +kernel, by decide +kernel, by decide +kernel⟩⟩
theorem cf_X5_fits : CFV yX5_fits cX5_fits 5 (some .boolean) 2 := ⟨tw_613, ts_39, tw_14, tw_614, ⟨by decide +kernel, by decide +kernel, by decide +kernel⟩⟩
theorem cf_X5_flag : CFV yX5_flag cX5_flag 2 (some .int) 1 := ⟨tw_668, tw_669, tw_14, tw_670, ⟨by decide +kernel, by decide +kernel, by decide +kernel⟩⟩
theorem cf_X5_frees : CFV yX5_frees cX5_frees 3 none 1 := ⟨tw_625, ts_42, tw_14, tw_626, ⟨by decide +kernel, by decide +kernel, by decide +kernel⟩⟩
theorem cf_X5_in : CFS yX5_in cX5_in 3 (some .boolean) 3 := ⟨tw_566, tw_14, tw_567, ⟨by decide +kernel, by decide +kernel, by decide +kernel⟩⟩
theorem cf_X5_init : CFI yX5_init cX5_init 1 0 := ⟨tw_479, tw_14, tw_480, rfl, ⟨by decide +kernel, by decide +kernel, by decide +kernel⟩⟩
theorem cf_X5_isBinding : CFV yX5_isBinding cX5_isBinding 3 (some .boolean) 2 := ⟨tw_585, ts_35, tw_14, tw_586, ⟨by decide +kernel, by decide +kernel, by decide +kernel⟩⟩
theorem cf_X5_isExtensible : CFV yX5_isExtensible cX5_isExtensible 4 (some .boolean) 0 := ⟨tw_609, ts_38, tw_14, tw_610, ⟨by decide +kernel, by decide +kernel, by decide +kernel⟩⟩
theorem cf_X5_macroKey : CFV yX5_macroKey cX5_macroKey 3 (some .int) 2 := ⟨tw_688, tw_689, tw_14, tw_690, ⟨by decide +kernel, by decide +kernel, by decide +kernel⟩⟩
theorem cf_X5_most : CFS yX5_most cX5_most 1 (some .int) 1 := ⟨tw_577, tw_14, tw_578, ⟨by decide +kernel, by decide +kernel, by decide +kernel⟩⟩
theorem cf_X5_pendingBinding : CFV yX5_pendingBinding cX5_pendingBinding 2 (some .int) 0 := ⟨tw_664, tw_665, tw_14, tw_666, ⟨by decide +kernel, by decide +kernel, by decide +kernel⟩⟩
theorem cf_X5_pendingKey : CFV yX5_pendingKey cX5_pendingKey 2 (some .int) 1 := ⟨tw_656, tw_657, tw_14, tw_658, ⟨by decide +kernel, by decide +kernel, by decide +kernel⟩⟩
theorem cf_X5_pendingLength : CFV yX5_pendingLength cX5_pendingLength 1 (some .int) 0 := ⟨tw_652, tw_653, tw_14, tw_654, ⟨by decide +kernel, by decide +kernel, by decide +kernel⟩⟩
theorem cf_X5_performs : CFV yX5_performs cX5_performs 3 none 2 := ⟨tw_633, ts_44, tw_14, tw_634, ⟨by decide +kernel, by decide +kernel, by decide +kernel⟩⟩
theorem cf_X5_plays : CFV yX5_plays cX5_plays 3 none 1 := ⟨tw_637, ts_45, tw_14, tw_638, ⟨by decide +kernel, by decide +kernel, by decide +kernel⟩⟩
theorem cf_X5_press : CFV yX5_press cX5_press 3 (some .int) 1 := ⟨tw_596, tw_597, tw_14, tw_598, ⟨by decide +kernel, by decide +kernel, by decide +kernel⟩⟩
theorem cf_X5_remainingTime : CFV yX5_remainingTime cX5_remainingTime 1 (some .int) 0 := ⟨tw_660, tw_661, tw_14, tw_662, ⟨by decide +kernel, by decide +kernel, by decide +kernel⟩⟩
theorem cf_X5_reportArgument : CFV yX5_reportArgument cX5_reportArgument 3 (some .int) 1 := ⟨tw_704, tw_705, tw_14, tw_706, ⟨by decide +kernel, by decide +kernel, by decide +kernel⟩⟩
theorem cf_X5_reportCount : CFV yX5_reportCount cX5_reportCount 1 (some .int) 0 := ⟨tw_692, tw_693, tw_14, tw_694, ⟨by decide +kernel, by decide +kernel, by decide +kernel⟩⟩
theorem cf_X5_reportKind : CFV yX5_reportKind cX5_reportKind 3 (some .int) 1 := ⟨tw_696, tw_697, tw_14, tw_698, ⟨by decide +kernel, by decide +kernel, by decide +kernel⟩⟩
theorem cf_X5_says : CFV yX5_says cX5_says 3 none 2 := ⟨tw_629, ts_43, tw_14, tw_630, ⟨by decide +kernel, by decide +kernel, by decide +kernel⟩⟩
theorem cf_X5_setFlag : CFV yX5_setFlag cX5_setFlag 4 (some .int) 2 := ⟨tw_648, tw_649, tw_14, tw_650, ⟨by decide +kernel, by decide +kernel, by decide +kernel⟩⟩
theorem cf_X5_setTimeout : CFV yX5_setTimeout cX5_setTimeout 3 (some .int) 1 := ⟨tw_644, tw_645, tw_14, tw_646, ⟨by decide +kernel, by decide +kernel, by decide +kernel⟩⟩
theorem cf_X5_shadowedBy : CFV yX5_shadowedBy cX5_shadowedBy 8 (some .int) 2 := ⟨tw_592, tw_593, tw_14, tw_594, ⟨by decide +kernel, by decide +kernel, by decide +kernel⟩⟩
theorem cf_X5_stackContext : CFV yX5_stackContext cX5_stackContext 2 (some .int) 1 := ⟨tw_676, tw_677, tw_14, tw_678, ⟨by decide +kernel, by decide +kernel, by decide +kernel⟩⟩
theorem cf_X5_stackSize : CFV yX5_stackSize cX5_stackSize 1 (some .int) 0 := ⟨tw_672, tw_673, tw_14, tw_674, ⟨by decide +kernel, by decide +kernel, by decide +kernel⟩⟩
theorem cf_X5_startRecording : CFV yX5_startRecording cX5_startRecording 3 (some .int) 1 := ⟨tw_680, tw_681, tw_14, tw_682, ⟨by decide +kernel, by decide +kernel, by decide +kernel⟩⟩
theorem cf_X5_stopRecording : CFV yX5_stopRecording cX5_stopRecording 2 (some .int) 0 := ⟨tw_684, tw_685, tw_14, tw_686, ⟨by decide +kernel, by decide +kernel, by decide +kernel⟩⟩
theorem cf_X5_tick : CFV yX5_tick cX5_tick 4 (some .int) 1 := ⟨tw_640, tw_641, tw_14, tw_642, ⟨by decide +kernel, by decide +kernel, by decide +kernel⟩⟩
theorem cf_X5_unbind : CFV yX5_unbind cX5_unbind 5 (some .int) 2 := ⟨tw_580, tw_581, tw_14, tw_582, ⟨by decide +kernel, by decide +kernel, by decide +kernel⟩⟩
theorem cf_X5_works : CFV yX5_works cX5_works 2 none 0 := ⟨tw_605, ts_37, tw_14, tw_606, ⟨by decide +kernel, by decide +kernel, by decide +kernel⟩⟩
end
section
/-! switches, stores of any element, what is new -/
theorem ok_new {S : pS} {q k n : Nat} : (S.new q k n).ok q k := ⟨List.mem_append_right _ (List.mem_singleton.mpr rfl), va_up_self _ _ _⟩
theorem ok_old {S : pS} {q k n a k2 : Nat} (f : q ∉ S.L) (h : S.ok a k2) : (S.new q k n).ok a k2 := ⟨List.mem_append_left _ h.1, by
  have hne : a ≠ q := fun e => by subst e; exact f h.1
  show va_up S.K q k a = k2
  rw [va_up_ne _ _ hne, h.2]⟩
section KT
variable {p : Program} {l : Launch} {e : Env} {R : Room} {s : State} {m : MethodId} {args : Array Value} {below : List Frame} {meth : Method} {c : Code} {H : Heap} {locs : List Loc} {cells slots : Nat} {Q : State → Prop}
variable {cc : ByteArray} {pc nL : Nat} {ls : Array Slot} {rest : List Value} {A : Nat → Prop} {E : EV} {S : pS} {own : String} {a : Nat}
theorem kp_tab (hx : p.tables.exec = Jvm.exec) (hb : c.code = cc) {dflt lo hi : Int} {offs : Array Int} {len : Nat} {x v : Int32} {off : Int} {tgt : Nat} (hdg : decode cc pc = .ok (.tableswitch dflt lo hi offs, len)) (hv : x = v) (h1 : ¬ v.toInt < lo) (h2 : ¬ hi < v.toInt) (ho : offs[(v.toInt - lo).toNat]? = some off) (ht : (pc : Int) + off = (tgt : Int))
    (k : W p l e R s m args below meth c H locs cells slots Q (F0 m tgt ls rest)) : W p l e R s m args below meth c H locs cells slots Q (F0 m pc ls (.int x :: rest)) := by
  subst hv
  exact lv_tableIn hx hb hdg h1 h2 ho ht k
theorem kp_tabD (hx : p.tables.exec = Jvm.exec) (hb : c.code = cc) {dflt lo hi : Int} {offs : Array Int} {len : Nat} {x : Int32} {tgt : Nat} (hdg : decode cc pc = .ok (.tableswitch dflt lo hi offs, len)) (h : x.toInt < lo ∨ hi < x.toInt) (ht : (pc : Int) + dflt = (tgt : Int))
    (k : W p l e R s m args below meth c H locs cells slots Q (F0 m tgt ls rest)) : W p l e R s m args below meth c H locs cells slots Q (F0 m pc ls (.int x :: rest)) := lv_tableOut hx hb hdg h ht k
theorem kp_ne {x v : Int32} (h : ¬ x = v) : x.toInt ≠ v.toInt := fun e => h (Int32.toInt_inj.mp e)
theorem kp_rastK (F : FX p s m args meth c cc nL own E A) (hW : WD E A s S H locs) (ho : S.ok a 8) {b : Nat} (hob : S.ok b 0 ∨ S.ok b 1 ∨ S.ok b 3) {i : Int32} (hin : vp_in i (S.n a)) (hdg : decode cc pc = .ok (.aastore, 1))
    (kk : ∀ (H1 : Heap) (locs1 : List Loc), WD E A s (S.setP a i.toNatClampNeg (some b)) H1 locs1 → W p l e R s m args below meth c H1 locs1 cells slots Q (F0 m (pc + 1) ls rest)) : W p l e R s m args below meth c H locs cells slots Q (F0 m pc ls (.ref b :: .int i :: .ref a :: rest)) := by
  rcases hob with h | h | h
  · exact kp_rast F hW ho h cbX0 tw_713 hin hdg kk
  · exact kp_rast F hW ho h cbX1 tw_710 hin hdg kk
  · exact kp_rast F hW ho h cbX3 tw_708 hin hdg kk
end KT
theorem kp_out_0_5 {x : Int32} (h0 : ¬ x = 0) (h1 : ¬ x = 1) (h2 : ¬ x = 2) (h3 : ¬ x = 3) (h4 : ¬ x = 4) (h5 : ¬ x = 5) : x.toInt < 0 ∨ (5 : Int) < x.toInt := by
  have e0 : x.toInt ≠ 0 := kp_ne h0
  have e1 : x.toInt ≠ 1 := kp_ne h1
  have e2 : x.toInt ≠ 2 := kp_ne h2
  have e3 : x.toInt ≠ 3 := kp_ne h3
  have e4 : x.toInt ≠ 4 := kp_ne h4
  have e5 : x.toInt ≠ 5 := kp_ne h5
  omega
theorem kp_out_1_3 {x : Int32} (h1 : ¬ x = 1) (h2 : ¬ x = 2) (h3 : ¬ x = 3) : x.toInt < 1 ∨ (3 : Int) < x.toInt := by
  have e1 : x.toInt ≠ 1 := kp_ne h1
  have e2 : x.toInt ≠ 2 := kp_ne h2
  have e3 : x.toInt ≠ 3 := kp_ne h3
  omega
theorem kp_out_0_3 {x : Int32} (h0 : ¬ x = 0) (h1 : ¬ x = 1) (h2 : ¬ x = 2) (h3 : ¬ x = 3) : x.toInt < 0 ∨ (3 : Int) < x.toInt := by
  have e0 : x.toInt ≠ 0 := kp_ne h0
  have e1 : x.toInt ≠ 1 := kp_ne h1
  have e2 : x.toInt ≠ 2 := kp_ne h2
  have e3 : x.toInt ≠ 3 := kp_ne h3
  omega
theorem kp_out_0_22 {x : Int32} (h0 : ¬ x = 0) (h1 : ¬ x = 1) (h2 : ¬ x = 2) (h3 : ¬ x = 3) (h4 : ¬ x = 4) (h5 : ¬ x = 5) (h6 : ¬ x = 6) (h7 : ¬ x = 7) (h8 : ¬ x = 8) (h9 : ¬ x = 9) (h10 : ¬ x = 10) (h11 : ¬ x = 11) (h12 : ¬ x = 12) (h13 : ¬ x = 13) (h14 : ¬ x = 14) (h15 : ¬ x = 15) (h16 : ¬ x = 16) (h17 : ¬ x = 17) (h18 : ¬ x = 18) (h19 : ¬ x = 19) (h20 : ¬ x = 20) (h21 : ¬ x = 21) (h22 : ¬ x = 22) : x.toInt < 0 ∨ (22 : Int) < x.toInt := by
  have e0 : x.toInt ≠ 0 := kp_ne h0
  have e1 : x.toInt ≠ 1 := kp_ne h1
  have e2 : x.toInt ≠ 2 := kp_ne h2
  have e3 : x.toInt ≠ 3 := kp_ne h3
  have e4 : x.toInt ≠ 4 := kp_ne h4
  have e5 : x.toInt ≠ 5 := kp_ne h5
  have e6 : x.toInt ≠ 6 := kp_ne h6
  have e7 : x.toInt ≠ 7 := kp_ne h7
  have e8 : x.toInt ≠ 8 := kp_ne h8
  have e9 : x.toInt ≠ 9 := kp_ne h9
  have e10 : x.toInt ≠ 10 := kp_ne h10
  have e11 : x.toInt ≠ 11 := kp_ne h11
  have e12 : x.toInt ≠ 12 := kp_ne h12
  have e13 : x.toInt ≠ 13 := kp_ne h13
  have e14 : x.toInt ≠ 14 := kp_ne h14
  have e15 : x.toInt ≠ 15 := kp_ne h15
  have e16 : x.toInt ≠ 16 := kp_ne h16
  have e17 : x.toInt ≠ 17 := kp_ne h17
  have e18 : x.toInt ≠ 18 := kp_ne h18
  have e19 : x.toInt ≠ 19 := kp_ne h19
  have e20 : x.toInt ≠ 20 := kp_ne h20
  have e21 : x.toInt ≠ 21 := kp_ne h21
  have e22 : x.toInt ≠ 22 := kp_ne h22
  omega
end
section
def wp_Jxa1e45_init_da8c8 (post : pS → Prop) (o : Nat) (S : pS) : Prop :=
  post S
def rm_Jxa1e45_init_da8c8 : Room := { frames := 1, cells := 0, slots := 0, locals := 20 }
set_option maxHeartbeats 4000000 in
set_option maxRecDepth 100000 in
theorem ct_Jxa1e45_init_da8c8 (l : Launch) (E : EV) {post : pS → Prop} (o : Nat) (S : pS) (h : wp_Jxa1e45_init_da8c8 post o S) : CT l E yJxa1e45_init_da8c8 cJxa1e45_init_da8c8 1 none rm_Jxa1e45_init_da8c8 (QV E post) [.ref o] S := by
  refine ct_intro (by decide +kernel) (Nat.le_of_ble_eq_true rfl) ?_
  intro p e s m below meth c A ls F hW hr hnm hl
  have hx := F.1
  have hb := F.2.1
  unfold wp_Jxa1e45_init_da8c8 at h
  have hl : lv_has ls 1 [(0, .ref o)] := hl
  refine lv_aload_n hx hb dJxa1e45_init_da8c8_0 rfl (lv_at hl 0 rfl) ?_
  refine kp_oinit F hl.1 tw_52 tw_22 tw_23 dJxa1e45_init_da8c8_1 (by decide) (Nat.le_of_ble_eq_true rfl) ?_
  exact kp_retv F hW hr h (by decide) (by decide) dJxa1e45_init_da8c8_4
def wp_Jxc12de_init_da8c8 (post : pS → Prop) (o : Nat) (S : pS) : Prop :=
  (wp_Jxa1e45_init_da8c8 (fun S2 => (S2.ok o 6 ∧ ∀ S4, S4 = S2.setI o 0 (0 : Int32) → post S4)) o S)
def rm_Jxc12de_init_da8c8 : Room := { frames := 2, cells := 0, slots := 0, locals := 40 }
set_option maxHeartbeats 4000000 in
set_option maxRecDepth 100000 in
theorem ct_Jxc12de_init_da8c8 (l : Launch) (E : EV) {post : pS → Prop} (o : Nat) (S : pS) (h : wp_Jxc12de_init_da8c8 post o S) : CT l E yJxc12de_init_da8c8 cJxc12de_init_da8c8 1 none rm_Jxc12de_init_da8c8 (QV E post) [.ref o] S := by
  refine ct_intro (by decide +kernel) (Nat.le_of_ble_eq_true rfl) ?_
  intro p e s m below meth c A ls F hW hr hnm hl
  have hx := F.1
  have hb := F.2.1
  unfold wp_Jxc12de_init_da8c8 at h
  have hl : lv_has ls 1 [(0, .ref o)] := hl
  refine lv_aload_n hx hb dJxc12de_init_da8c8_0 rfl (lv_at hl 0 rfl) ?_
  refine kp_callv (c1 := 0) (s1 := 0) F hW (kp_runI (As := []) (rest := []) F hW (ct_Jxa1e45_init_da8c8 l E _ _ h) cf_Jxa1e45_init_da8c8 tw_49 rfl hl.1 ⟨by decide, by decide⟩ (Nat.le_of_ble_eq_true rfl) dJxc12de_init_da8c8_1 ⟨by decide, by decide⟩) (by decide) (by decide) (fun S2 H locs h hW => ?_)
  refine lv_aload_n hx hb dJxc12de_init_da8c8_4 rfl (lv_at hl 0 rfl) ?_
  refine lv_iconst (v := 0) hx hb dJxc12de_init_da8c8_5 (by decide) ?_
  obtain ⟨g3, h⟩ := h
  obtain ⟨S4, hS4⟩ : ∃ z, z = S2.setI o 0 (0 : Int32) := ⟨_, rfl⟩
  have h := h S4 hS4
  refine kp_puti F hW g3 cbJx4a65c 0 rfl tw_57 (fun _ h9 => h9) rfl rfl dJxc12de_init_da8c8_6 (fun H locs hW => ?_)
  rw [← hS4] at hW
  exact kp_retv F hW hr h (by decide) (by decide) dJxc12de_init_da8c8_9
def wp_Jx4a65c_init_da8c8 (post : pS → Prop) (e0 : Nat) (o : Nat) (S : pS) : Prop :=
  (wp_Jxc12de_init_da8c8 (fun S2 => (S2.ok o 6 ∧ ∀ S4, S4 = S2.setP o 1 (some e0) → post S4)) o S)
def rm_Jx4a65c_init_da8c8 : Room := { frames := 3, cells := 0, slots := 0, locals := 60 }
set_option maxHeartbeats 4000000 in
set_option maxRecDepth 100000 in
theorem ct_Jx4a65c_init_da8c8 (l : Launch) (E : EV) {post : pS → Prop} (o : Nat) (S : pS) (h : wp_Jx4a65c_init_da8c8 post E.e0 o S) : CT l E yJx4a65c_init_da8c8 cJx4a65c_init_da8c8 1 none rm_Jx4a65c_init_da8c8 (QV E post) [.ref o] S := by
  refine ct_intro (by decide +kernel) (Nat.le_of_ble_eq_true rfl) ?_
  intro p e s m below meth c A ls F hW hr hnm hl
  have hx := F.1
  have hb := F.2.1
  unfold wp_Jx4a65c_init_da8c8 at h
  have hl : lv_has ls 1 [(0, .ref o)] := hl
  refine lv_aload_n hx hb dJx4a65c_init_da8c8_0 rfl (lv_at hl 0 rfl) ?_
  refine kp_callv (c1 := 0) (s1 := 0) F hW (kp_runI (As := []) (rest := []) F hW (ct_Jxc12de_init_da8c8 l E _ _ h) cf_Jxc12de_init_da8c8 tw_46 rfl hl.1 ⟨by decide, by decide⟩ (Nat.le_of_ble_eq_true rfl) dJx4a65c_init_da8c8_1 ⟨by decide, by decide⟩) (by decide) (by decide) (fun S2 H locs h hW => ?_)
  refine lv_aload_n hx hb dJx4a65c_init_da8c8_4 rfl (lv_at hl 0 rfl) ?_
  refine kp_gets F hW tw_53 dJx4a65c_init_da8c8_5 ?_
  obtain ⟨g3, h⟩ := h
  obtain ⟨S4, hS4⟩ : ∃ z, z = S2.setP o 1 (some E.e0) := ⟨_, rfl⟩
  have h := h S4 hS4
  refine kp_putp F hW g3 cbJx4a65c 1 rfl tw_55 (fun _ h9 => h9) rfl (Or.inr ⟨_, rfl⟩) dJx4a65c_init_da8c8_8 (fun H locs hW => ?_)
  rw [← hS4] at hW
  exact kp_retv F hW hr h (by decide) (by decide) dJx4a65c_init_da8c8_11
def wp_J9_floorMod_7cf53 (post : Int32 → pS → Prop) (a1 : Int32) (a2 : Int32) (S : pS) : Prop :=
  (¬ a2 = 0 ∧ ((0 ≤ (a1 ^^^ a2) → post (a1 - a1 / a2 * a2) S) ∧ (¬ (0 ≤ (a1 ^^^ a2)) → (((a1 - a1 / a2 * a2) = 0 → post (a1 - a1 / a2 * a2) S) ∧ (¬ ((a1 - a1 / a2 * a2) = 0) → post ((a1 - a1 / a2 * a2) + a2) S)))))
def rm_J9_floorMod_7cf53 : Room := { frames := 0, cells := 0, slots := 0, locals := 0 }
set_option maxHeartbeats 4000000 in
set_option maxRecDepth 100000 in
theorem ct_J9_floorMod_7cf53 (l : Launch) (E : EV) {post : Int32 → pS → Prop} (a1 : Int32) (a2 : Int32) (S : pS) (h : wp_J9_floorMod_7cf53 post a1 a2 S) : CT l E yJ9_floorMod_7cf53 cJ9_floorMod_7cf53 3 (some .int) rm_J9_floorMod_7cf53 (QI E post) [.int a1, .int a2] S := by
  refine ct_intro (by decide +kernel) (Nat.le_of_ble_eq_true rfl) ?_
  intro p e s m below meth c A ls F hW hr hnm hl
  have hx := F.1
  have hb := F.2.1
  unfold wp_J9_floorMod_7cf53 at h
  have hl : lv_has ls 3 [(0, .int a1), (1, .int a2)] := hl
  refine lv_iload_n hx hb dJ9_floorMod_7cf53_0 rfl (lv_at hl 0 rfl) ?_
  refine lv_iload_n hx hb dJ9_floorMod_7cf53_1 rfl (lv_at hl 1 rfl) ?_
  obtain ⟨z1, h⟩ := h
  refine lv_irem hx hb dJ9_floorMod_7cf53_2 z1 ?_
  refine lv_istore_n (lv' := [(2, .int (a1 - a1 / a2 * a2)), (0, .int a1), (1, .int a2)]) hx hb dJ9_floorMod_7cf53_3 rfl hl (by decide) rfl (fun ls hl => ?_)
  refine lv_iload_n hx hb dJ9_floorMod_7cf53_4 rfl (lv_at hl 1 rfl) ?_
  refine lv_iload_n hx hb dJ9_floorMod_7cf53_5 rfl (lv_at hl 2 rfl) ?_
  refine lv_ixor hx hb dJ9_floorMod_7cf53_6 ?_
  refine lv_if_ge (tgt := 18) hx hb dJ9_floorMod_7cf53_7 (by decide) (fun c2 => ?_) (fun c2 => ?_)
  · have h := h.1 c2
    refine lv_iload_n hx hb dJ9_floorMod_7cf53_18 rfl (lv_at hl 0 rfl) ?_
    exact kp_reti F hW hr h (by decide) (by decide) dJ9_floorMod_7cf53_19
  · have h := h.2 c2
    refine lv_iload_n hx hb dJ9_floorMod_7cf53_10 rfl (lv_at hl 0 rfl) ?_
    refine lv_if_eq (tgt := 18) hx hb dJ9_floorMod_7cf53_11 (by decide) (fun c3 => ?_) (fun c3 => ?_)
    · have h := h.1 c3
      refine lv_iload_n hx hb dJ9_floorMod_7cf53_18 rfl (lv_at hl 0 rfl) ?_
      exact kp_reti F hW hr h (by decide) (by decide) dJ9_floorMod_7cf53_19
    · have h := h.2 c3
      refine lv_iload_n hx hb dJ9_floorMod_7cf53_14 rfl (lv_at hl 0 rfl) ?_
      refine lv_iload_n hx hb dJ9_floorMod_7cf53_15 rfl (lv_at hl 2 rfl) ?_
      refine lv_iadd hx hb dJ9_floorMod_7cf53_16 ?_
      exact kp_reti F hW hr h (by decide) (by decide) dJ9_floorMod_7cf53_17
def wp_J9_max_7cf53 (post : Int32 → pS → Prop) (a1 : Int32) (a2 : Int32) (S : pS) : Prop :=
  ((a1 < a2 → post a2 S) ∧ (¬ (a1 < a2) → post a1 S))
def rm_J9_max_7cf53 : Room := { frames := 0, cells := 0, slots := 0, locals := 0 }
set_option maxHeartbeats 4000000 in
set_option maxRecDepth 100000 in
theorem ct_J9_max_7cf53 (l : Launch) (E : EV) {post : Int32 → pS → Prop} (a1 : Int32) (a2 : Int32) (S : pS) (h : wp_J9_max_7cf53 post a1 a2 S) : CT l E yJ9_max_7cf53 cJ9_max_7cf53 2 (some .int) rm_J9_max_7cf53 (QI E post) [.int a1, .int a2] S := by
  refine ct_intro (by decide +kernel) (Nat.le_of_ble_eq_true rfl) ?_
  intro p e s m below meth c A ls F hW hr hnm hl
  have hx := F.1
  have hb := F.2.1
  unfold wp_J9_max_7cf53 at h
  have hl : lv_has ls 2 [(0, .int a1), (1, .int a2)] := hl
  refine lv_iload_n hx hb dJ9_max_7cf53_0 rfl (lv_at hl 0 rfl) ?_
  refine lv_iload_n hx hb dJ9_max_7cf53_1 rfl (lv_at hl 1 rfl) ?_
  refine lv_icmp_lt (tgt := 9) hx hb dJ9_max_7cf53_2 (by decide) (fun c1 => ?_) (fun c1 => ?_)
  · have h := h.1 c1
    refine lv_iload_n hx hb dJ9_max_7cf53_9 rfl (lv_at hl 1 rfl) ?_
    exact kp_reti F hW hr h (by decide) (by decide) dJ9_max_7cf53_10
  · have h := h.2 c1
    refine lv_iload_n hx hb dJ9_max_7cf53_5 rfl (lv_at hl 0 rfl) ?_
    refine lv_goto (tgt := 10) hx hb dJ9_max_7cf53_6 (by decide) ?_
    exact kp_reti F hW hr h (by decide) (by decide) dJ9_max_7cf53_10
def wp_Jx4a65c_grow_92f84 (post : Nat → pS → Prop) (e0 : Nat) (o : Nat) (a1 : Int32) (S : pS) : Prop :=
  (S.ok o 6 ∧ ∃ q2, S.P o 1 = some q2 ∧ ((q2 = e0 → ((0 < (0 : Int32) → False) ∧ (¬ (0 < (0 : Int32)) → ((some q2 = some e0 → (wp_J9_max_7cf53 (fun r6 S7 => (¬ r6 < 0 ∧ r6.toNatClampNeg ≤ 10 ∧ ∀ q8, q8 ∉ S7.L → ∀ S12, S12 = S7.new q8 8 r6.toNatClampNeg → S12.ok o 6 ∧ ∀ S15, S15 = S12.setP o 1 (some q8) → post q8 S15)) (10 : Int32) a1 S)) ∧ (¬ (some q2 = some e0) → False))))) ∧ (¬ q2 = e0 → (S.ok q2 8 ∧ ((0 < (nI (S.n q2)) → False) ∧ (¬ (0 < (nI (S.n q2))) → ((some q2 = some e0 → (wp_J9_max_7cf53 (fun r19 S20 => (¬ r19 < 0 ∧ r19.toNatClampNeg ≤ 10 ∧ ∀ q21, q21 ∉ S20.L → ∀ S25, S25 = S20.new q21 8 r19.toNatClampNeg → S25.ok o 6 ∧ ∀ S28, S28 = S25.setP o 1 (some q21) → post q21 S28)) (10 : Int32) a1 S)) ∧ (¬ (some q2 = some e0) → False))))))))
def rm_Jx4a65c_grow_92f84 : Room := { frames := 1, cells := 1, slots := 10, locals := 21 }
set_option maxHeartbeats 4000000 in
set_option maxRecDepth 100000 in
theorem ct_Jx4a65c_grow_92f84 (l : Launch) (E : EV) {post : Nat → pS → Prop} (o : Nat) (a1 : Int32) (S : pS) (h : wp_Jx4a65c_grow_92f84 post E.e0 o a1 S) : CT l E yJx4a65c_grow_92f84 cJx4a65c_grow_92f84 4 (some (.array (.object "java/lang/Object"))) rm_Jx4a65c_grow_92f84 (QR E post) [.ref o, .int a1] S := by
  refine ct_intro (by decide +kernel) (Nat.le_of_ble_eq_true rfl) ?_
  intro p e s m below meth c A ls F hW hr hnm hl
  have hx := F.1
  have hb := F.2.1
  unfold wp_Jx4a65c_grow_92f84 at h
  have hl : lv_has ls 4 [(0, .ref o), (1, .int a1)] := hl
  refine lv_aload_n hx hb dJx4a65c_grow_92f84_0 rfl (lv_at hl 0 rfl) ?_
  obtain ⟨g1, h⟩ := h
  obtain ⟨q2, p3, h⟩ := h
  refine kp_getp F hW g1 cbJx4a65c 1 rfl tw_55 (fun _ h9 => h9) dJx4a65c_grow_92f84_1 p3 ?_
  by_cases z29 : q2 = E.e0
  · have h := h.1 z29
    refine kp_elen F hW z29 dJx4a65c_grow_92f84_4 ?_
    refine lv_istore_n (lv' := [(2, .int (0 : Int32)), (0, .ref o), (1, .int a1)]) hx hb dJx4a65c_grow_92f84_5 rfl hl (by decide) rfl (fun ls hl => ?_)
    refine lv_iload_n hx hb dJx4a65c_grow_92f84_6 rfl (lv_at hl 0 rfl) ?_
    refine lv_if_gt (tgt := 20) hx hb dJx4a65c_grow_92f84_7 (by decide) (fun c4 => ?_) (fun c4 => ?_)
    · have h := h.1 c4
      exact h.elim
    · have h := h.2 c4
      refine lv_aload_n hx hb dJx4a65c_grow_92f84_10 rfl (lv_at hl 1 rfl) ?_
      refine kp_getp F hW g1 cbJx4a65c 1 rfl tw_55 (fun _ h9 => h9) dJx4a65c_grow_92f84_11 p3 ?_
      refine kp_gets F hW tw_53 dJx4a65c_grow_92f84_14 ?_
      refine lv_acmp_eq (rx := some q2) (ry := some E.e0) (tgt := 45) hx hb dJx4a65c_grow_92f84_17 (by decide) (fun c5 => ?_) (fun c5 => ?_)
      · have h := h.1 c5
        refine lv_aload_n hx hb dJx4a65c_grow_92f84_45 rfl (lv_at hl 1 rfl) ?_
        refine lv_bipush (v := 10) hx hb dJx4a65c_grow_92f84_46 (by decide) ?_
        refine lv_iload_n hx hb dJx4a65c_grow_92f84_48 rfl (lv_at hl 2 rfl) ?_
        refine kp_calli (c1 := 0) (s1 := 0) F hW (kp_runS (As := [.int (10 : Int32), .int a1]) (rest := [.ref o]) F hW (ct_J9_max_7cf53 l E _ _ _ h) cf_J9_max_7cf53 tw_117 rfl hl.1 ⟨by decide, by decide⟩ (Nat.le_of_ble_eq_true rfl) dJx4a65c_grow_92f84_49 ⟨by decide, by decide⟩) (by decide) (by decide) (fun r6 S7 H locs h hW => ?_)
        obtain ⟨z10, z11, h⟩ := h
        refine kp_newr (c1 := 1) (s1 := 10) F hW tw_118 z10 (Nat.le_trans z11 (by decide)) dJx4a65c_grow_92f84_52 (by decide) (by rw [Nat.zero_add]; exact z11) (by decide) (by decide) (fun q8 H f9 hW => ?_)
        obtain ⟨S12, hS12⟩ : ∃ z, z = S7.new q8 8 r6.toNatClampNeg := ⟨_, rfl⟩
        rw [← hS12] at hW
        have h := h q8 f9 S12 hS12
        have g13 : S12.ok q8 8 := by rw [hS12]; exact ok_new
        refine lv_dup_x1 hx hb dJx4a65c_grow_92f84_55 rfl rfl ?_
        obtain ⟨g14, h⟩ := h
        obtain ⟨S15, hS15⟩ : ∃ z, z = S12.setP o 1 (some q8) := ⟨_, rfl⟩
        have h := h S15 hS15
        refine kp_putp F hW g14 cbJx4a65c 1 rfl tw_55 (fun _ h9 => h9) rfl (Or.inr ⟨_, rfl⟩) dJx4a65c_grow_92f84_56 (fun H locs hW => ?_)
        rw [← hS15] at hW
        exact kp_retr F hW hr (Or.inr ⟨_, rfl⟩) h (by decide) (by decide) dJx4a65c_grow_92f84_59
      · have h := h.2 c5
        exact h.elim
  · have h := h.2 z29
    obtain ⟨g16, h⟩ := h
    refine kp_rlen F hW g16 dJx4a65c_grow_92f84_4 ?_
    refine lv_istore_n (lv' := [(2, .int (nI (S.n q2))), (0, .ref o), (1, .int a1)]) hx hb dJx4a65c_grow_92f84_5 rfl hl (by decide) rfl (fun ls hl => ?_)
    refine lv_iload_n hx hb dJx4a65c_grow_92f84_6 rfl (lv_at hl 0 rfl) ?_
    refine lv_if_gt (tgt := 20) hx hb dJx4a65c_grow_92f84_7 (by decide) (fun c17 => ?_) (fun c17 => ?_)
    · have h := h.1 c17
      exact h.elim
    · have h := h.2 c17
      refine lv_aload_n hx hb dJx4a65c_grow_92f84_10 rfl (lv_at hl 1 rfl) ?_
      refine kp_getp F hW g1 cbJx4a65c 1 rfl tw_55 (fun _ h9 => h9) dJx4a65c_grow_92f84_11 p3 ?_
      refine kp_gets F hW tw_53 dJx4a65c_grow_92f84_14 ?_
      refine lv_acmp_eq (rx := some q2) (ry := some E.e0) (tgt := 45) hx hb dJx4a65c_grow_92f84_17 (by decide) (fun c18 => ?_) (fun c18 => ?_)
      · have h := h.1 c18
        refine lv_aload_n hx hb dJx4a65c_grow_92f84_45 rfl (lv_at hl 1 rfl) ?_
        refine lv_bipush (v := 10) hx hb dJx4a65c_grow_92f84_46 (by decide) ?_
        refine lv_iload_n hx hb dJx4a65c_grow_92f84_48 rfl (lv_at hl 2 rfl) ?_
        refine kp_calli (c1 := 0) (s1 := 0) F hW (kp_runS (As := [.int (10 : Int32), .int a1]) (rest := [.ref o]) F hW (ct_J9_max_7cf53 l E _ _ _ h) cf_J9_max_7cf53 tw_117 rfl hl.1 ⟨by decide, by decide⟩ (Nat.le_of_ble_eq_true rfl) dJx4a65c_grow_92f84_49 ⟨by decide, by decide⟩) (by decide) (by decide) (fun r19 S20 H locs h hW => ?_)
        obtain ⟨z23, z24, h⟩ := h
        refine kp_newr (c1 := 1) (s1 := 10) F hW tw_118 z23 (Nat.le_trans z24 (by decide)) dJx4a65c_grow_92f84_52 (by decide) (by rw [Nat.zero_add]; exact z24) (by decide) (by decide) (fun q21 H f22 hW => ?_)
        obtain ⟨S25, hS25⟩ : ∃ z, z = S20.new q21 8 r19.toNatClampNeg := ⟨_, rfl⟩
        rw [← hS25] at hW
        have h := h q21 f22 S25 hS25
        have g26 : S25.ok q21 8 := by rw [hS25]; exact ok_new
        refine lv_dup_x1 hx hb dJx4a65c_grow_92f84_55 rfl rfl ?_
        obtain ⟨g27, h⟩ := h
        obtain ⟨S28, hS28⟩ : ∃ z, z = S25.setP o 1 (some q21) := ⟨_, rfl⟩
        have h := h S28 hS28
        refine kp_putp F hW g27 cbJx4a65c 1 rfl tw_55 (fun _ h9 => h9) rfl (Or.inr ⟨_, rfl⟩) dJx4a65c_grow_92f84_56 (fun H locs hW => ?_)
        rw [← hS28] at hW
        exact kp_retr F hW hr (Or.inr ⟨_, rfl⟩) h (by decide) (by decide) dJx4a65c_grow_92f84_59
      · have h := h.2 c18
        exact h.elim
def wp_Jx4a65c_grow_d5877 (post : Nat → pS → Prop) (e0 : Nat) (o : Nat) (S : pS) : Prop :=
  (S.ok o 6 ∧ wp_Jx4a65c_grow_92f84 (fun r2 S3 => post r2 S3) e0 o ((S.I o 2) + (1 : Int32)) S)
def rm_Jx4a65c_grow_d5877 : Room := { frames := 2, cells := 1, slots := 10, locals := 44 }
set_option maxHeartbeats 4000000 in
set_option maxRecDepth 100000 in
theorem ct_Jx4a65c_grow_d5877 (l : Launch) (E : EV) {post : Nat → pS → Prop} (o : Nat) (S : pS) (h : wp_Jx4a65c_grow_d5877 post E.e0 o S) : CT l E yJx4a65c_grow_d5877 cJx4a65c_grow_d5877 1 (some (.array (.object "java/lang/Object"))) rm_Jx4a65c_grow_d5877 (QR E post) [.ref o] S := by
  refine ct_intro (by decide +kernel) (Nat.le_of_ble_eq_true rfl) ?_
  intro p e s m below meth c A ls F hW hr hnm hl
  have hx := F.1
  have hb := F.2.1
  unfold wp_Jx4a65c_grow_d5877 at h
  have hl : lv_has ls 1 [(0, .ref o)] := hl
  refine lv_aload_n hx hb dJx4a65c_grow_d5877_0 rfl (lv_at hl 0 rfl) ?_
  refine lv_aload_n hx hb dJx4a65c_grow_d5877_1 rfl (lv_at hl 0 rfl) ?_
  obtain ⟨g1, h⟩ := h
  refine kp_geti F hW g1 cbJx4a65c 2 rfl tw_56 (fun _ h9 => h9) dJx4a65c_grow_d5877_2 ?_
  refine lv_iconst (v := 1) hx hb dJx4a65c_grow_d5877_5 (by decide) ?_
  refine lv_iadd hx hb dJx4a65c_grow_d5877_6 ?_
  refine kp_callr (c1 := 1) (s1 := 10) F hW (kp_runV (As := [.int ((S.I o 2) + (1 : Int32))]) (rest := []) F hW (ct_Jx4a65c_grow_92f84 l E _ _ _ h) g1 cbJx4a65c rfl cf_Jx4a65c_grow_92f84 tw_79 rfl hl.1 ⟨by decide, by decide⟩ (Nat.le_of_ble_eq_true rfl) dJx4a65c_grow_d5877_7 ⟨by decide, by decide⟩) (by decide) (by decide) (fun r2 S3 H locs h hW => ?_)
  exact kp_retr F hW hr (Or.inr ⟨_, rfl⟩) h (by decide) (by decide) dJx4a65c_grow_d5877_10
def wp_Jx4a65c_add_72be8 (post : pS → Prop) (e0 : Nat) (o : Nat) (a1 : Nat) (a2 : Nat) (a3 : Int32) (S : pS) : Prop :=
  ((a2 = e0 → ((a3 = (0 : Int32) → (S.ok o 6 ∧ wp_Jx4a65c_grow_d5877 (fun r8 S9 => (S9.ok r8 8 ∧ vp_in a3 (S9.n r8) ∧ (S9.ok a1 0 ∨ S9.ok a1 1 ∨ S9.ok a1 3) ∧ ∀ S14, S14 = S9.setP r8 a3.toNatClampNeg (some a1) → S14.ok o 6 ∧ ∀ S16, S16 = S14.setI o 2 (a3 + (1 : Int32)) → post S16)) e0 o S)) ∧ (¬ (a3 = (0 : Int32)) → (S.ok a2 8 ∧ vp_in a3 (S.n a2) ∧ (S.ok a1 0 ∨ S.ok a1 1 ∨ S.ok a1 3) ∧ ∀ S5, S5 = S.setP a2 a3.toNatClampNeg (some a1) → S5.ok o 6 ∧ ∀ S7, S7 = S5.setI o 2 (a3 + (1 : Int32)) → post S7)))) ∧ (¬ a2 = e0 → (S.ok a2 8 ∧ ((a3 = (nI (S.n a2)) → (S.ok o 6 ∧ wp_Jx4a65c_grow_d5877 (fun r24 S25 => (S25.ok r24 8 ∧ vp_in a3 (S25.n r24) ∧ (S25.ok a1 0 ∨ S25.ok a1 1 ∨ S25.ok a1 3) ∧ ∀ S30, S30 = S25.setP r24 a3.toNatClampNeg (some a1) → S30.ok o 6 ∧ ∀ S32, S32 = S30.setI o 2 (a3 + (1 : Int32)) → post S32)) e0 o S)) ∧ (¬ (a3 = (nI (S.n a2))) → (vp_in a3 (S.n a2) ∧ (S.ok a1 0 ∨ S.ok a1 1 ∨ S.ok a1 3) ∧ ∀ S21, S21 = S.setP a2 a3.toNatClampNeg (some a1) → S21.ok o 6 ∧ ∀ S23, S23 = S21.setI o 2 (a3 + (1 : Int32)) → post S23))))))
def rm_Jx4a65c_add_72be8 : Room := { frames := 3, cells := 1, slots := 10, locals := 64 }
set_option maxHeartbeats 4000000 in
set_option maxRecDepth 100000 in
theorem ct_Jx4a65c_add_72be8 (l : Launch) (E : EV) {post : pS → Prop} (o : Nat) (a1 : Nat) (a2 : Nat) (a3 : Int32) (S : pS) (h : wp_Jx4a65c_add_72be8 post E.e0 o a1 a2 a3 S) : CT l E yJx4a65c_add_72be8 cJx4a65c_add_72be8 4 none rm_Jx4a65c_add_72be8 (QV E post) [.ref o, .ref a1, .ref a2, .int a3] S := by
  refine ct_intro (by decide +kernel) (Nat.le_of_ble_eq_true rfl) ?_
  intro p e s m below meth c A ls F hW hr hnm hl
  have hx := F.1
  have hb := F.2.1
  unfold wp_Jx4a65c_add_72be8 at h
  have hl : lv_has ls 4 [(0, .ref o), (1, .ref a1), (2, .ref a2), (3, .int a3)] := hl
  refine lv_iload_n hx hb dJx4a65c_add_72be8_0 rfl (lv_at hl 3 rfl) ?_
  refine lv_aload_n hx hb dJx4a65c_add_72be8_1 rfl (lv_at hl 2 rfl) ?_
  by_cases z33 : a2 = E.e0
  · have h := h.1 z33
    refine kp_elen F hW z33 dJx4a65c_add_72be8_2 ?_
    refine lv_icmp_ne (tgt := 11) hx hb dJx4a65c_add_72be8_3 (by decide) (fun c1 => ?_) (fun c1 => ?_)
    · have h := h.2 c1
      refine lv_aload_n hx hb dJx4a65c_add_72be8_11 rfl (lv_at hl 2 rfl) ?_
      refine lv_iload_n hx hb dJx4a65c_add_72be8_12 rfl (lv_at hl 3 rfl) ?_
      refine lv_aload_n hx hb dJx4a65c_add_72be8_13 rfl (lv_at hl 1 rfl) ?_
      obtain ⟨g2, h⟩ := h
      obtain ⟨b3, h⟩ := h
      obtain ⟨k4, h⟩ := h
      obtain ⟨S5, hS5⟩ : ∃ z, z = S.setP a2 a3.toNatClampNeg (some a1) := ⟨_, rfl⟩
      have h := h S5 hS5
      refine kp_rastK F hW g2 k4 b3 dJx4a65c_add_72be8_14 (fun H locs hW => ?_)
      rw [← hS5] at hW
      refine lv_aload_n hx hb dJx4a65c_add_72be8_15 rfl (lv_at hl 0 rfl) ?_
      refine lv_iload_n hx hb dJx4a65c_add_72be8_16 rfl (lv_at hl 3 rfl) ?_
      refine lv_iconst (v := 1) hx hb dJx4a65c_add_72be8_17 (by decide) ?_
      refine lv_iadd hx hb dJx4a65c_add_72be8_18 ?_
      obtain ⟨g6, h⟩ := h
      obtain ⟨S7, hS7⟩ : ∃ z, z = S5.setI o 2 (a3 + (1 : Int32)) := ⟨_, rfl⟩
      have h := h S7 hS7
      refine kp_puti F hW g6 cbJx4a65c 2 rfl tw_56 (fun _ h9 => h9) rfl rfl dJx4a65c_add_72be8_19 (fun H locs hW => ?_)
      rw [← hS7] at hW
      exact kp_retv F hW hr h (by decide) (by decide) dJx4a65c_add_72be8_22
    · have h := h.1 c1
      refine lv_aload_n hx hb dJx4a65c_add_72be8_6 rfl (lv_at hl 0 rfl) ?_
      obtain ⟨g10, h⟩ := h
      refine kp_callr (c1 := 1) (s1 := 10) F hW (kp_runV (As := []) (rest := []) F hW (ct_Jx4a65c_grow_d5877 l E _ _ h) g10 cbJx4a65c rfl cf_Jx4a65c_grow_d5877 tw_75 rfl hl.1 ⟨by decide, by decide⟩ (Nat.le_of_ble_eq_true rfl) dJx4a65c_add_72be8_7 ⟨by decide, by decide⟩) (by decide) (by decide) (fun r8 S9 H locs h hW => ?_)
      refine lv_astore_n (lv' := [(2, .ref r8), (0, .ref o), (1, .ref a1), (3, .int a3)]) hx hb dJx4a65c_add_72be8_10 rfl hl (by decide) rfl (fun ls hl => ?_)
      refine lv_aload_n hx hb dJx4a65c_add_72be8_11 rfl (lv_at hl 0 rfl) ?_
      refine lv_iload_n hx hb dJx4a65c_add_72be8_12 rfl (lv_at hl 3 rfl) ?_
      refine lv_aload_n hx hb dJx4a65c_add_72be8_13 rfl (lv_at hl 2 rfl) ?_
      obtain ⟨g11, h⟩ := h
      obtain ⟨b12, h⟩ := h
      obtain ⟨k13, h⟩ := h
      obtain ⟨S14, hS14⟩ : ∃ z, z = S9.setP r8 a3.toNatClampNeg (some a1) := ⟨_, rfl⟩
      have h := h S14 hS14
      refine kp_rastK F hW g11 k13 b12 dJx4a65c_add_72be8_14 (fun H locs hW => ?_)
      rw [← hS14] at hW
      refine lv_aload_n hx hb dJx4a65c_add_72be8_15 rfl (lv_at hl 1 rfl) ?_
      refine lv_iload_n hx hb dJx4a65c_add_72be8_16 rfl (lv_at hl 3 rfl) ?_
      refine lv_iconst (v := 1) hx hb dJx4a65c_add_72be8_17 (by decide) ?_
      refine lv_iadd hx hb dJx4a65c_add_72be8_18 ?_
      obtain ⟨g15, h⟩ := h
      obtain ⟨S16, hS16⟩ : ∃ z, z = S14.setI o 2 (a3 + (1 : Int32)) := ⟨_, rfl⟩
      have h := h S16 hS16
      refine kp_puti F hW g15 cbJx4a65c 2 rfl tw_56 (fun _ h9 => h9) rfl rfl dJx4a65c_add_72be8_19 (fun H locs hW => ?_)
      rw [← hS16] at hW
      exact kp_retv F hW hr h (by decide) (by decide) dJx4a65c_add_72be8_22
  · have h := h.2 z33
    obtain ⟨g17, h⟩ := h
    refine kp_rlen F hW g17 dJx4a65c_add_72be8_2 ?_
    refine lv_icmp_ne (tgt := 11) hx hb dJx4a65c_add_72be8_3 (by decide) (fun c18 => ?_) (fun c18 => ?_)
    · have h := h.2 c18
      refine lv_aload_n hx hb dJx4a65c_add_72be8_11 rfl (lv_at hl 2 rfl) ?_
      refine lv_iload_n hx hb dJx4a65c_add_72be8_12 rfl (lv_at hl 3 rfl) ?_
      refine lv_aload_n hx hb dJx4a65c_add_72be8_13 rfl (lv_at hl 1 rfl) ?_
      obtain ⟨b19, h⟩ := h
      obtain ⟨k20, h⟩ := h
      obtain ⟨S21, hS21⟩ : ∃ z, z = S.setP a2 a3.toNatClampNeg (some a1) := ⟨_, rfl⟩
      have h := h S21 hS21
      refine kp_rastK F hW g17 k20 b19 dJx4a65c_add_72be8_14 (fun H locs hW => ?_)
      rw [← hS21] at hW
      refine lv_aload_n hx hb dJx4a65c_add_72be8_15 rfl (lv_at hl 0 rfl) ?_
      refine lv_iload_n hx hb dJx4a65c_add_72be8_16 rfl (lv_at hl 3 rfl) ?_
      refine lv_iconst (v := 1) hx hb dJx4a65c_add_72be8_17 (by decide) ?_
      refine lv_iadd hx hb dJx4a65c_add_72be8_18 ?_
      obtain ⟨g22, h⟩ := h
      obtain ⟨S23, hS23⟩ : ∃ z, z = S21.setI o 2 (a3 + (1 : Int32)) := ⟨_, rfl⟩
      have h := h S23 hS23
      refine kp_puti F hW g22 cbJx4a65c 2 rfl tw_56 (fun _ h9 => h9) rfl rfl dJx4a65c_add_72be8_19 (fun H locs hW => ?_)
      rw [← hS23] at hW
      exact kp_retv F hW hr h (by decide) (by decide) dJx4a65c_add_72be8_22
    · have h := h.1 c18
      refine lv_aload_n hx hb dJx4a65c_add_72be8_6 rfl (lv_at hl 0 rfl) ?_
      obtain ⟨g26, h⟩ := h
      refine kp_callr (c1 := 1) (s1 := 10) F hW (kp_runV (As := []) (rest := []) F hW (ct_Jx4a65c_grow_d5877 l E _ _ h) g26 cbJx4a65c rfl cf_Jx4a65c_grow_d5877 tw_75 rfl hl.1 ⟨by decide, by decide⟩ (Nat.le_of_ble_eq_true rfl) dJx4a65c_add_72be8_7 ⟨by decide, by decide⟩) (by decide) (by decide) (fun r24 S25 H locs h hW => ?_)
      refine lv_astore_n (lv' := [(2, .ref r24), (0, .ref o), (1, .ref a1), (3, .int a3)]) hx hb dJx4a65c_add_72be8_10 rfl hl (by decide) rfl (fun ls hl => ?_)
      refine lv_aload_n hx hb dJx4a65c_add_72be8_11 rfl (lv_at hl 0 rfl) ?_
      refine lv_iload_n hx hb dJx4a65c_add_72be8_12 rfl (lv_at hl 3 rfl) ?_
      refine lv_aload_n hx hb dJx4a65c_add_72be8_13 rfl (lv_at hl 2 rfl) ?_
      obtain ⟨g27, h⟩ := h
      obtain ⟨b28, h⟩ := h
      obtain ⟨k29, h⟩ := h
      obtain ⟨S30, hS30⟩ : ∃ z, z = S25.setP r24 a3.toNatClampNeg (some a1) := ⟨_, rfl⟩
      have h := h S30 hS30
      refine kp_rastK F hW g27 k29 b28 dJx4a65c_add_72be8_14 (fun H locs hW => ?_)
      rw [← hS30] at hW
      refine lv_aload_n hx hb dJx4a65c_add_72be8_15 rfl (lv_at hl 1 rfl) ?_
      refine lv_iload_n hx hb dJx4a65c_add_72be8_16 rfl (lv_at hl 3 rfl) ?_
      refine lv_iconst (v := 1) hx hb dJx4a65c_add_72be8_17 (by decide) ?_
      refine lv_iadd hx hb dJx4a65c_add_72be8_18 ?_
      obtain ⟨g31, h⟩ := h
      obtain ⟨S32, hS32⟩ : ∃ z, z = S30.setI o 2 (a3 + (1 : Int32)) := ⟨_, rfl⟩
      have h := h S32 hS32
      refine kp_puti F hW g31 cbJx4a65c 2 rfl tw_56 (fun _ h9 => h9) rfl rfl dJx4a65c_add_72be8_19 (fun H locs hW => ?_)
      rw [← hS32] at hW
      exact kp_retv F hW hr h (by decide) (by decide) dJx4a65c_add_72be8_22
def wp_Jx4a65c_add_9ea2d (post : Int32 → pS → Prop) (e0 : Nat) (o : Nat) (a1 : Nat) (S : pS) : Prop :=
  (S.ok o 6 ∧ ∀ S2, S2 = S.setI o 0 ((S.I o 0) + (1 : Int32)) → ∃ q4, S2.P o 1 = some q4 ∧ wp_Jx4a65c_add_72be8 (fun S7 => post (1 : Int32) S7) e0 o a1 q4 (S2.I o 2) S2)
def rm_Jx4a65c_add_9ea2d : Room := { frames := 4, cells := 1, slots := 10, locals := 87 }
set_option maxHeartbeats 4000000 in
set_option maxRecDepth 100000 in
theorem ct_Jx4a65c_add_9ea2d (l : Launch) (E : EV) {post : Int32 → pS → Prop} (o : Nat) (a1 : Nat) (S : pS) (h : wp_Jx4a65c_add_9ea2d post E.e0 o a1 S) : CT l E yJx4a65c_add_9ea2d cJx4a65c_add_9ea2d 2 (some .boolean) rm_Jx4a65c_add_9ea2d (QI E post) [.ref o, .ref a1] S := by
  refine ct_intro (by decide +kernel) (Nat.le_of_ble_eq_true rfl) ?_
  intro p e s m below meth c A ls F hW hr hnm hl
  have hx := F.1
  have hb := F.2.1
  unfold wp_Jx4a65c_add_9ea2d at h
  have hl : lv_has ls 2 [(0, .ref o), (1, .ref a1)] := hl
  refine lv_aload_n hx hb dJx4a65c_add_9ea2d_0 rfl (lv_at hl 0 rfl) ?_
  refine lv_dup hx hb dJx4a65c_add_9ea2d_1 rfl ?_
  obtain ⟨g1, h⟩ := h
  refine kp_geti F hW g1 cbJx4a65c 0 rfl tw_58 (u_same (F.2.2.2.2.1 _ tw_59)) dJx4a65c_add_9ea2d_2 ?_
  refine lv_iconst (v := 1) hx hb dJx4a65c_add_9ea2d_5 (by decide) ?_
  refine lv_iadd hx hb dJx4a65c_add_9ea2d_6 ?_
  obtain ⟨S2, hS2⟩ : ∃ z, z = S.setI o 0 ((S.I o 0) + (1 : Int32)) := ⟨_, rfl⟩
  have h := h S2 hS2
  refine kp_puti F hW g1 cbJx4a65c 0 rfl tw_58 (u_same (F.2.2.2.2.1 _ tw_59)) rfl rfl dJx4a65c_add_9ea2d_7 (fun H locs hW => ?_)
  rw [← hS2] at hW
  refine lv_aload_n hx hb dJx4a65c_add_9ea2d_10 rfl (lv_at hl 0 rfl) ?_
  refine lv_aload_n hx hb dJx4a65c_add_9ea2d_11 rfl (lv_at hl 1 rfl) ?_
  refine lv_aload_n hx hb dJx4a65c_add_9ea2d_12 rfl (lv_at hl 0 rfl) ?_
  have g3 : S2.ok o 6 := by rw [hS2]; exact g1
  obtain ⟨q4, p5, h⟩ := h
  refine kp_getp F hW g3 cbJx4a65c 1 rfl tw_55 (fun _ h9 => h9) dJx4a65c_add_9ea2d_13 p5 ?_
  refine lv_aload_n hx hb dJx4a65c_add_9ea2d_16 rfl (lv_at hl 0 rfl) ?_
  refine kp_geti F hW g3 cbJx4a65c 2 rfl tw_56 (fun _ h9 => h9) dJx4a65c_add_9ea2d_17 ?_
  refine kp_callv (c1 := 1) (s1 := 10) F hW (kp_runV (As := [.ref a1, .ref q4, .int (S2.I o 2)]) (rest := []) F hW (ct_Jx4a65c_add_72be8 l E _ _ _ _ _ h) g3 cbJx4a65c rfl cf_Jx4a65c_add_72be8 tw_71 rfl hl.1 ⟨by decide, by decide⟩ (Nat.le_of_ble_eq_true rfl) dJx4a65c_add_9ea2d_20 ⟨by decide, by decide⟩) (by decide) (by decide) (fun S7 H locs h hW => ?_)
  refine lv_iconst (v := 1) hx hb dJx4a65c_add_9ea2d_23 (by decide) ?_
  exact kp_retz F hW hr (Or.inr rfl) h (by decide) (by decide) dJx4a65c_add_9ea2d_24
def wp_Jx4a65c_size_8abf5 (post : Int32 → pS → Prop) (o : Nat) (S : pS) : Prop :=
  (S.ok o 6 ∧ post (S.I o 2) S)
def rm_Jx4a65c_size_8abf5 : Room := { frames := 0, cells := 0, slots := 0, locals := 0 }
set_option maxHeartbeats 4000000 in
set_option maxRecDepth 100000 in
theorem ct_Jx4a65c_size_8abf5 (l : Launch) (E : EV) {post : Int32 → pS → Prop} (o : Nat) (S : pS) (h : wp_Jx4a65c_size_8abf5 post o S) : CT l E yJx4a65c_size_8abf5 cJx4a65c_size_8abf5 1 (some .int) rm_Jx4a65c_size_8abf5 (QI E post) [.ref o] S := by
  refine ct_intro (by decide +kernel) (Nat.le_of_ble_eq_true rfl) ?_
  intro p e s m below meth c A ls F hW hr hnm hl
  have hx := F.1
  have hb := F.2.1
  unfold wp_Jx4a65c_size_8abf5 at h
  have hl : lv_has ls 1 [(0, .ref o)] := hl
  refine lv_aload_n hx hb dJx4a65c_size_8abf5_0 rfl (lv_at hl 0 rfl) ?_
  obtain ⟨g1, h⟩ := h
  refine kp_geti F hW g1 cbJx4a65c 2 rfl tw_56 (fun _ h9 => h9) dJx4a65c_size_8abf5_1 ?_
  exact kp_reti F hW hr h (by decide) (by decide) dJx4a65c_size_8abf5_4
def wp_J3_checkIndex_8e157 (post : Int32 → pS → Prop) (a1 : Int32) (a2 : Int32) (S : pS) : Prop :=
  ((a1 < 0 → False) ∧ (¬ (a1 < 0) → ((a1 < a2 → post a1 S) ∧ (¬ (a1 < a2) → False))))
def rm_J3_checkIndex_8e157 : Room := { frames := 0, cells := 0, slots := 0, locals := 0 }
set_option maxHeartbeats 4000000 in
set_option maxRecDepth 100000 in
theorem ct_J3_checkIndex_8e157 (l : Launch) (E : EV) {post : Int32 → pS → Prop} (a1 : Int32) (a2 : Int32) (S : pS) (h : wp_J3_checkIndex_8e157 post a1 a2 S) : CT l E yJ3_checkIndex_8e157 cJ3_checkIndex_8e157 3 (some .int) rm_J3_checkIndex_8e157 (QI E post) [.int a1, .int a2, .null] S := by
  refine ct_intro (by decide +kernel) (Nat.le_of_ble_eq_true rfl) ?_
  intro p e s m below meth c A ls F hW hr hnm hl
  have hx := F.1
  have hb := F.2.1
  unfold wp_J3_checkIndex_8e157 at h
  have hl : lv_has ls 3 [(0, .int a1), (1, .int a2), (2, .null)] := hl
  refine lv_iload_n hx hb dJ3_checkIndex_8e157_0 rfl (lv_at hl 0 rfl) ?_
  refine lv_if_lt (tgt := 9) hx hb dJ3_checkIndex_8e157_1 (by decide) (fun c1 => ?_) (fun c1 => ?_)
  · have h := h.1 c1
    exact h.elim
  · have h := h.2 c1
    refine lv_iload_n hx hb dJ3_checkIndex_8e157_4 rfl (lv_at hl 0 rfl) ?_
    refine lv_iload_n hx hb dJ3_checkIndex_8e157_5 rfl (lv_at hl 1 rfl) ?_
    refine lv_icmp_lt (tgt := 16) hx hb dJ3_checkIndex_8e157_6 (by decide) (fun c2 => ?_) (fun c2 => ?_)
    · have h := h.1 c2
      refine lv_iload_n hx hb dJ3_checkIndex_8e157_16 rfl (lv_at hl 0 rfl) ?_
      exact kp_reti F hW hr h (by decide) (by decide) dJ3_checkIndex_8e157_17
    · have h := h.2 c2
      exact h.elim
def wp_J15_checkIndex_7cf53 (post : Int32 → pS → Prop) (a1 : Int32) (a2 : Int32) (S : pS) : Prop :=
  (wp_J3_checkIndex_8e157 (fun r1 S2 => post r1 S2) a1 a2 S)
def rm_J15_checkIndex_7cf53 : Room := { frames := 1, cells := 0, slots := 0, locals := 22 }
set_option maxHeartbeats 4000000 in
set_option maxRecDepth 100000 in
theorem ct_J15_checkIndex_7cf53 (l : Launch) (E : EV) {post : Int32 → pS → Prop} (a1 : Int32) (a2 : Int32) (S : pS) (h : wp_J15_checkIndex_7cf53 post a1 a2 S) : CT l E yJ15_checkIndex_7cf53 cJ15_checkIndex_7cf53 2 (some .int) rm_J15_checkIndex_7cf53 (QI E post) [.int a1, .int a2] S := by
  refine ct_intro (by decide +kernel) (Nat.le_of_ble_eq_true rfl) ?_
  intro p e s m below meth c A ls F hW hr hnm hl
  have hx := F.1
  have hb := F.2.1
  unfold wp_J15_checkIndex_7cf53 at h
  have hl : lv_has ls 2 [(0, .int a1), (1, .int a2)] := hl
  refine lv_iload_n hx hb dJ15_checkIndex_7cf53_0 rfl (lv_at hl 0 rfl) ?_
  refine lv_iload_n hx hb dJ15_checkIndex_7cf53_1 rfl (lv_at hl 1 rfl) ?_
  refine lv_null hx hb dJ15_checkIndex_7cf53_2 ?_
  refine kp_calli (c1 := 0) (s1 := 0) F hW (kp_runS (As := [.int a1, .int a2, .null]) (rest := []) F hW (ct_J3_checkIndex_8e157 l E _ _ _ h) cf_J3_checkIndex_8e157 tw_172 rfl hl.1 ⟨by decide, by decide⟩ (Nat.le_of_ble_eq_true rfl) dJ15_checkIndex_7cf53_3 ⟨by decide, by decide⟩) (by decide) (by decide) (fun r1 S2 H locs h hW => ?_)
  exact kp_reti F hW hr h (by decide) (by decide) dJ15_checkIndex_7cf53_6
def wp_Jx4a65c_elementData_915e3 (post : Nat → pS → Prop) (o : Nat) (a1 : Int32) (S : pS) : Prop :=
  (S.ok o 6 ∧ ∃ q2, S.P o 1 = some q2 ∧ S.ok q2 8 ∧ vp_in a1 (S.n q2) ∧ ∃ q6, S.P q2 a1.toNatClampNeg = some q6 ∧ post q6 S)
def rm_Jx4a65c_elementData_915e3 : Room := { frames := 0, cells := 0, slots := 0, locals := 0 }
set_option maxHeartbeats 4000000 in
set_option maxRecDepth 100000 in
theorem ct_Jx4a65c_elementData_915e3 (l : Launch) (E : EV) {post : Nat → pS → Prop} (o : Nat) (a1 : Int32) (S : pS) (h : wp_Jx4a65c_elementData_915e3 post o a1 S) : CT l E yJx4a65c_elementData_915e3 cJx4a65c_elementData_915e3 2 (some (.object "java/lang/Object")) rm_Jx4a65c_elementData_915e3 (QR E post) [.ref o, .int a1] S := by
  refine ct_intro (by decide +kernel) (Nat.le_of_ble_eq_true rfl) ?_
  intro p e s m below meth c A ls F hW hr hnm hl
  have hx := F.1
  have hb := F.2.1
  unfold wp_Jx4a65c_elementData_915e3 at h
  have hl : lv_has ls 2 [(0, .ref o), (1, .int a1)] := hl
  refine lv_aload_n hx hb dJx4a65c_elementData_915e3_0 rfl (lv_at hl 0 rfl) ?_
  obtain ⟨g1, h⟩ := h
  obtain ⟨q2, p3, h⟩ := h
  refine kp_getp F hW g1 cbJx4a65c 1 rfl tw_55 (fun _ h9 => h9) dJx4a65c_elementData_915e3_1 p3 ?_
  refine lv_iload_n hx hb dJx4a65c_elementData_915e3_4 rfl (lv_at hl 1 rfl) ?_
  obtain ⟨g4, h⟩ := h
  obtain ⟨b5, h⟩ := h
  obtain ⟨q6, p7, h⟩ := h
  refine kp_rald F hW g4 b5 dJx4a65c_elementData_915e3_5 p7 ?_
  exact kp_retr F hW hr (Or.inl ⟨_, rfl⟩) h (by decide) (by decide) dJx4a65c_elementData_915e3_6
def wp_Jx4a65c_get_915e3 (post : Nat → pS → Prop) (o : Nat) (a1 : Int32) (S : pS) : Prop :=
  (S.ok o 6 ∧ wp_J15_checkIndex_7cf53 (fun r2 S3 => (S3.ok o 6 ∧ wp_Jx4a65c_elementData_915e3 (fun r4 S5 => post r4 S5) o a1 S3)) a1 (S.I o 2) S)
def rm_Jx4a65c_get_915e3 : Room := { frames := 2, cells := 0, slots := 0, locals := 43 }
set_option maxHeartbeats 4000000 in
set_option maxRecDepth 100000 in
theorem ct_Jx4a65c_get_915e3 (l : Launch) (E : EV) {post : Nat → pS → Prop} (o : Nat) (a1 : Int32) (S : pS) (h : wp_Jx4a65c_get_915e3 post o a1 S) : CT l E yJx4a65c_get_915e3 cJx4a65c_get_915e3 2 (some (.object "java/lang/Object")) rm_Jx4a65c_get_915e3 (QR E post) [.ref o, .int a1] S := by
  refine ct_intro (by decide +kernel) (Nat.le_of_ble_eq_true rfl) ?_
  intro p e s m below meth c A ls F hW hr hnm hl
  have hx := F.1
  have hb := F.2.1
  unfold wp_Jx4a65c_get_915e3 at h
  have hl : lv_has ls 2 [(0, .ref o), (1, .int a1)] := hl
  refine lv_iload_n hx hb dJx4a65c_get_915e3_0 rfl (lv_at hl 1 rfl) ?_
  refine lv_aload_n hx hb dJx4a65c_get_915e3_1 rfl (lv_at hl 0 rfl) ?_
  obtain ⟨g1, h⟩ := h
  refine kp_geti F hW g1 cbJx4a65c 2 rfl tw_56 (fun _ h9 => h9) dJx4a65c_get_915e3_2 ?_
  refine kp_calli (c1 := 0) (s1 := 0) F hW (kp_runS (As := [.int a1, .int (S.I o 2)]) (rest := []) F hW (ct_J15_checkIndex_7cf53 l E _ _ _ h) cf_J15_checkIndex_7cf53 tw_169 rfl hl.1 ⟨by decide, by decide⟩ (Nat.le_of_ble_eq_true rfl) dJx4a65c_get_915e3_5 ⟨by decide, by decide⟩) (by decide) (by decide) (fun r2 S3 H locs h hW => ?_)
  refine lv_pop hx hb dJx4a65c_get_915e3_8 rfl ?_
  refine lv_aload_n hx hb dJx4a65c_get_915e3_9 rfl (lv_at hl 0 rfl) ?_
  refine lv_iload_n hx hb dJx4a65c_get_915e3_10 rfl (lv_at hl 1 rfl) ?_
  obtain ⟨g6, h⟩ := h
  refine kp_callr (c1 := 0) (s1 := 0) F hW (kp_runV (As := [.int a1]) (rest := []) F hW (ct_Jx4a65c_elementData_915e3 l E _ _ _ h) g6 cbJx4a65c rfl cf_Jx4a65c_elementData_915e3 tw_175 rfl hl.1 ⟨by decide, by decide⟩ (Nat.le_of_ble_eq_true rfl) dJx4a65c_get_915e3_11 ⟨by decide, by decide⟩) (by decide) (by decide) (fun r4 S5 H locs h hW => ?_)
  exact kp_retr F hW hr (Or.inl ⟨_, rfl⟩) h (by decide) (by decide) dJx4a65c_get_915e3_14
def wp_Jx4a65c_fastRemove_b59b0 (post : pS → Prop) (o : Nat) (a1 : Nat) (a2 : Int32) (S : pS) : Prop :=
  (S.ok o 6 ∧ ∀ S2, S2 = S.setI o 0 ((S.I o 0) + (1 : Int32)) → ((((S2.I o 2) - (1 : Int32)) ≤ a2 → (∀ S5, S5 = S2.setI o 2 ((S2.I o 2) - (1 : Int32)) → S5.ok a1 8 ∧ vp_in ((S2.I o 2) - (1 : Int32)) (S5.n a1) ∧ ∀ S8, S8 = S5.setP a1 ((S2.I o 2) - (1 : Int32)).toNatClampNeg none → post S8)) ∧ (¬ (((S2.I o 2) - (1 : Int32)) ≤ a2) → (S2.ok a1 8 ∧ ¬ (a2 + (1 : Int32)) < 0 ∧ ¬ a2 < 0 ∧ ¬ (((S2.I o 2) - (1 : Int32)) - a2) < 0 ∧ (a2 + (1 : Int32)).toNatClampNeg + (((S2.I o 2) - (1 : Int32)) - a2).toNatClampNeg ≤ S2.n a1 ∧ a2.toNatClampNeg + (((S2.I o 2) - (1 : Int32)) - a2).toNatClampNeg ≤ S2.n a1 ∧ (∀ i : Nat, i < (((S2.I o 2) - (1 : Int32)) - a2).toNatClampNeg → ∀ y : Nat, S2.P a1 ((a2 + (1 : Int32)).toNatClampNeg + i) = some y → S2.ok y 0) ∧ ∀ S16, S16 = S2.rowP a1 (va_cpy (S2.P a1) (S2.P a1) (a2 + (1 : Int32)).toNatClampNeg a2.toNatClampNeg (((S2.I o 2) - (1 : Int32)) - a2).toNatClampNeg) → ∀ S18, S18 = S16.setI o 2 ((S2.I o 2) - (1 : Int32)) → vp_in ((S2.I o 2) - (1 : Int32)) (S18.n a1) ∧ ∀ S22, S22 = S18.setP a1 ((S2.I o 2) - (1 : Int32)).toNatClampNeg none → post S22))))
def rm_Jx4a65c_fastRemove_b59b0 : Room := { frames := 1, cells := 0, slots := 0, locals := 60 }
set_option maxHeartbeats 4000000 in
set_option maxRecDepth 100000 in
theorem ct_Jx4a65c_fastRemove_b59b0 (l : Launch) (E : EV) {post : pS → Prop} (o : Nat) (a1 : Nat) (a2 : Int32) (S : pS) (h : wp_Jx4a65c_fastRemove_b59b0 post o a1 a2 S) : CT l E yJx4a65c_fastRemove_b59b0 cJx4a65c_fastRemove_b59b0 4 none rm_Jx4a65c_fastRemove_b59b0 (QV E post) [.ref o, .ref a1, .int a2] S := by
  refine ct_intro (by decide +kernel) (Nat.le_of_ble_eq_true rfl) ?_
  intro p e s m below meth c A ls F hW hr hnm hl
  have hx := F.1
  have hb := F.2.1
  unfold wp_Jx4a65c_fastRemove_b59b0 at h
  have hl : lv_has ls 4 [(0, .ref o), (1, .ref a1), (2, .int a2)] := hl
  refine lv_aload_n hx hb dJx4a65c_fastRemove_b59b0_0 rfl (lv_at hl 0 rfl) ?_
  refine lv_dup hx hb dJx4a65c_fastRemove_b59b0_1 rfl ?_
  obtain ⟨g1, h⟩ := h
  refine kp_geti F hW g1 cbJx4a65c 0 rfl tw_58 (u_same (F.2.2.2.2.1 _ tw_59)) dJx4a65c_fastRemove_b59b0_2 ?_
  refine lv_iconst (v := 1) hx hb dJx4a65c_fastRemove_b59b0_5 (by decide) ?_
  refine lv_iadd hx hb dJx4a65c_fastRemove_b59b0_6 ?_
  obtain ⟨S2, hS2⟩ : ∃ z, z = S.setI o 0 ((S.I o 0) + (1 : Int32)) := ⟨_, rfl⟩
  have h := h S2 hS2
  refine kp_puti F hW g1 cbJx4a65c 0 rfl tw_58 (u_same (F.2.2.2.2.1 _ tw_59)) rfl rfl dJx4a65c_fastRemove_b59b0_7 (fun H locs hW => ?_)
  rw [← hS2] at hW
  refine lv_aload_n hx hb dJx4a65c_fastRemove_b59b0_10 rfl (lv_at hl 0 rfl) ?_
  have g3 : S2.ok o 6 := by rw [hS2]; exact g1
  refine kp_geti F hW g3 cbJx4a65c 2 rfl tw_56 (fun _ h9 => h9) dJx4a65c_fastRemove_b59b0_11 ?_
  refine lv_iconst (v := 1) hx hb dJx4a65c_fastRemove_b59b0_14 (by decide) ?_
  refine lv_isub hx hb dJx4a65c_fastRemove_b59b0_15 ?_
  refine lv_dup hx hb dJx4a65c_fastRemove_b59b0_16 rfl ?_
  refine lv_istore_n (lv' := [(3, .int ((S2.I o 2) - (1 : Int32))), (0, .ref o), (1, .ref a1), (2, .int a2)]) hx hb dJx4a65c_fastRemove_b59b0_17 rfl hl (by decide) rfl (fun ls hl => ?_)
  refine lv_iload_n hx hb dJx4a65c_fastRemove_b59b0_18 rfl (lv_at hl 3 rfl) ?_
  refine lv_icmp_le (tgt := 34) hx hb dJx4a65c_fastRemove_b59b0_19 (by decide) (fun c4 => ?_) (fun c4 => ?_)
  · have h := h.1 c4
    refine lv_aload_n hx hb dJx4a65c_fastRemove_b59b0_34 rfl (lv_at hl 2 rfl) ?_
    refine lv_aload_n hx hb dJx4a65c_fastRemove_b59b0_35 rfl (lv_at hl 1 rfl) ?_
    refine lv_iload_n hx hb dJx4a65c_fastRemove_b59b0_36 rfl (lv_at hl 0 rfl) ?_
    refine lv_dup_x1 hx hb dJx4a65c_fastRemove_b59b0_37 rfl rfl ?_
    obtain ⟨S5, hS5⟩ : ∃ z, z = S2.setI o 2 ((S2.I o 2) - (1 : Int32)) := ⟨_, rfl⟩
    have h := h S5 hS5
    refine kp_puti F hW g3 cbJx4a65c 2 rfl tw_56 (fun _ h9 => h9) rfl rfl dJx4a65c_fastRemove_b59b0_38 (fun H locs hW => ?_)
    rw [← hS5] at hW
    refine lv_null hx hb dJx4a65c_fastRemove_b59b0_41 ?_
    obtain ⟨g6, h⟩ := h
    obtain ⟨b7, h⟩ := h
    obtain ⟨S8, hS8⟩ : ∃ z, z = S5.setP a1 ((S2.I o 2) - (1 : Int32)).toNatClampNeg none := ⟨_, rfl⟩
    have h := h S8 hS8
    refine kp_rastN F hW g6 b7 dJx4a65c_fastRemove_b59b0_42 (fun H locs hW => ?_)
    rw [← hS8] at hW
    exact kp_retv F hW hr h (by decide) (by decide) dJx4a65c_fastRemove_b59b0_43
  · have h := h.2 c4
    refine lv_aload_n hx hb dJx4a65c_fastRemove_b59b0_22 rfl (lv_at hl 2 rfl) ?_
    refine lv_iload_n hx hb dJx4a65c_fastRemove_b59b0_23 rfl (lv_at hl 3 rfl) ?_
    refine lv_iconst (v := 1) hx hb dJx4a65c_fastRemove_b59b0_24 (by decide) ?_
    refine lv_iadd hx hb dJx4a65c_fastRemove_b59b0_25 ?_
    refine lv_aload_n hx hb dJx4a65c_fastRemove_b59b0_26 rfl (lv_at hl 2 rfl) ?_
    refine lv_iload_n hx hb dJx4a65c_fastRemove_b59b0_27 rfl (lv_at hl 3 rfl) ?_
    refine lv_iload_n hx hb dJx4a65c_fastRemove_b59b0_28 rfl (lv_at hl 0 rfl) ?_
    refine lv_iload_n hx hb dJx4a65c_fastRemove_b59b0_29 rfl (lv_at hl 3 rfl) ?_
    refine lv_isub hx hb dJx4a65c_fastRemove_b59b0_30 ?_
    obtain ⟨g9, h⟩ := h
    obtain ⟨z10, z11, z12, z13, z14, z15, h⟩ := h
    obtain ⟨S16, hS16⟩ : ∃ z, z = S2.rowP a1 (va_cpy (S2.P a1) (S2.P a1) (a2 + (1 : Int32)).toNatClampNeg a2.toNatClampNeg (((S2.I o 2) - (1 : Int32)) - a2).toNatClampNeg) := ⟨_, rfl⟩
    have h := h S16 hS16
    refine kp_copy F hW hl.1 tw_316 tw_116 tw_115 tw_9 g9 z10 z11 z12 z13 z14 z15 cbX0 tw_713 (by decide) (Nat.le_of_ble_eq_true rfl) dJx4a65c_fastRemove_b59b0_31 (fun H locs hW => ?_)
    rw [← hS16] at hW
    refine lv_aload_n hx hb dJx4a65c_fastRemove_b59b0_34 rfl (lv_at hl 2 rfl) ?_
    refine lv_aload_n hx hb dJx4a65c_fastRemove_b59b0_35 rfl (lv_at hl 1 rfl) ?_
    refine lv_iload_n hx hb dJx4a65c_fastRemove_b59b0_36 rfl (lv_at hl 0 rfl) ?_
    refine lv_dup_x1 hx hb dJx4a65c_fastRemove_b59b0_37 rfl rfl ?_
    have g17 : S16.ok o 6 := by rw [hS16]; exact g3
    obtain ⟨S18, hS18⟩ : ∃ z, z = S16.setI o 2 ((S2.I o 2) - (1 : Int32)) := ⟨_, rfl⟩
    have h := h S18 hS18
    refine kp_puti F hW g17 cbJx4a65c 2 rfl tw_56 (fun _ h9 => h9) rfl rfl dJx4a65c_fastRemove_b59b0_38 (fun H locs hW => ?_)
    rw [← hS18] at hW
    refine lv_null hx hb dJx4a65c_fastRemove_b59b0_41 ?_
    have g19 : S16.ok a1 8 := by rw [hS16]; exact g9
    have g20 : S18.ok a1 8 := by rw [hS18]; exact g19
    obtain ⟨b21, h⟩ := h
    obtain ⟨S22, hS22⟩ : ∃ z, z = S18.setP a1 ((S2.I o 2) - (1 : Int32)).toNatClampNeg none := ⟨_, rfl⟩
    have h := h S22 hS22
    refine kp_rastN F hW g20 b21 dJx4a65c_fastRemove_b59b0_42 (fun H locs hW => ?_)
    rw [← hS22] at hW
    exact kp_retv F hW hr h (by decide) (by decide) dJx4a65c_fastRemove_b59b0_43
def wp_Jx4a65c_remove_915e3 (post : Nat → pS → Prop) (o : Nat) (a1 : Int32) (S : pS) : Prop :=
  (S.ok o 6 ∧ wp_J15_checkIndex_7cf53 (fun r2 S3 => (S3.ok o 6 ∧ ∃ q5, S3.P o 1 = some q5 ∧ S3.ok q5 8 ∧ vp_in a1 (S3.n q5) ∧ ∃ q9, S3.P q5 a1.toNatClampNeg = some q9 ∧ wp_Jx4a65c_fastRemove_b59b0 (fun S12 => post q9 S12) o q5 a1 S3)) a1 (S.I o 2) S)
def rm_Jx4a65c_remove_915e3 : Room := { frames := 2, cells := 0, slots := 0, locals := 83 }
set_option maxHeartbeats 4000000 in
set_option maxRecDepth 100000 in
theorem ct_Jx4a65c_remove_915e3 (l : Launch) (E : EV) {post : Nat → pS → Prop} (o : Nat) (a1 : Int32) (S : pS) (h : wp_Jx4a65c_remove_915e3 post o a1 S) : CT l E yJx4a65c_remove_915e3 cJx4a65c_remove_915e3 4 (some (.object "java/lang/Object")) rm_Jx4a65c_remove_915e3 (QR E post) [.ref o, .int a1] S := by
  refine ct_intro (by decide +kernel) (Nat.le_of_ble_eq_true rfl) ?_
  intro p e s m below meth c A ls F hW hr hnm hl
  have hx := F.1
  have hb := F.2.1
  unfold wp_Jx4a65c_remove_915e3 at h
  have hl : lv_has ls 4 [(0, .ref o), (1, .int a1)] := hl
  refine lv_iload_n hx hb dJx4a65c_remove_915e3_0 rfl (lv_at hl 1 rfl) ?_
  refine lv_aload_n hx hb dJx4a65c_remove_915e3_1 rfl (lv_at hl 0 rfl) ?_
  obtain ⟨g1, h⟩ := h
  refine kp_geti F hW g1 cbJx4a65c 2 rfl tw_56 (fun _ h9 => h9) dJx4a65c_remove_915e3_2 ?_
  refine kp_calli (c1 := 0) (s1 := 0) F hW (kp_runS (As := [.int a1, .int (S.I o 2)]) (rest := []) F hW (ct_J15_checkIndex_7cf53 l E _ _ _ h) cf_J15_checkIndex_7cf53 tw_169 rfl hl.1 ⟨by decide, by decide⟩ (Nat.le_of_ble_eq_true rfl) dJx4a65c_remove_915e3_5 ⟨by decide, by decide⟩) (by decide) (by decide) (fun r2 S3 H locs h hW => ?_)
  refine lv_pop hx hb dJx4a65c_remove_915e3_8 rfl ?_
  refine lv_aload_n hx hb dJx4a65c_remove_915e3_9 rfl (lv_at hl 0 rfl) ?_
  obtain ⟨g4, h⟩ := h
  obtain ⟨q5, p6, h⟩ := h
  refine kp_getp F hW g4 cbJx4a65c 1 rfl tw_55 (fun _ h9 => h9) dJx4a65c_remove_915e3_10 p6 ?_
  refine lv_astore_n (lv' := [(2, .ref q5), (0, .ref o), (1, .int a1)]) hx hb dJx4a65c_remove_915e3_13 rfl hl (by decide) rfl (fun ls hl => ?_)
  refine lv_aload_n hx hb dJx4a65c_remove_915e3_14 rfl (lv_at hl 0 rfl) ?_
  refine lv_iload_n hx hb dJx4a65c_remove_915e3_15 rfl (lv_at hl 2 rfl) ?_
  obtain ⟨g7, h⟩ := h
  obtain ⟨b8, h⟩ := h
  obtain ⟨q9, p10, h⟩ := h
  refine kp_rald F hW g7 b8 dJx4a65c_remove_915e3_16 p10 ?_
  refine lv_astore_n (lv' := [(3, .ref q9), (2, .ref q5), (0, .ref o), (1, .int a1)]) hx hb dJx4a65c_remove_915e3_17 rfl hl (by decide) rfl (fun ls hl => ?_)
  refine lv_aload_n hx hb dJx4a65c_remove_915e3_18 rfl (lv_at hl 2 rfl) ?_
  refine lv_aload_n hx hb dJx4a65c_remove_915e3_19 rfl (lv_at hl 1 rfl) ?_
  refine lv_iload_n hx hb dJx4a65c_remove_915e3_20 rfl (lv_at hl 3 rfl) ?_
  refine kp_callv (c1 := 0) (s1 := 0) F hW (kp_runV (As := [.ref q5, .int a1]) (rest := []) F hW (ct_Jx4a65c_fastRemove_b59b0 l E _ _ _ _ h) g4 cbJx4a65c rfl cf_Jx4a65c_fastRemove_b59b0 tw_312 rfl hl.1 ⟨by decide, by decide⟩ (Nat.le_of_ble_eq_true rfl) dJx4a65c_remove_915e3_21 ⟨by decide, by decide⟩) (by decide) (by decide) (fun S12 H locs h hW => ?_)
  refine lv_aload_n hx hb dJx4a65c_remove_915e3_24 rfl (lv_at hl 0 rfl) ?_
  exact kp_retr F hW hr (Or.inl ⟨_, rfl⟩) h (by decide) (by decide) dJx4a65c_remove_915e3_25
def wp_Jx4a65c_add_72be8_ng (post : pS → Prop) (e0 : Nat) (o : Nat) (a1 : Nat) (a2 : Nat) (a3 : Int32) (S : pS) : Prop :=
  ((a2 = e0 → ((a3 = (0 : Int32) → False) ∧ (¬ (a3 = (0 : Int32)) → (S.ok a2 8 ∧ vp_in a3 (S.n a2) ∧ (S.ok a1 0 ∨ S.ok a1 1 ∨ S.ok a1 3) ∧ ∀ S5, S5 = S.setP a2 a3.toNatClampNeg (some a1) → S5.ok o 6 ∧ ∀ S7, S7 = S5.setI o 2 (a3 + (1 : Int32)) → post S7)))) ∧ (¬ a2 = e0 → (S.ok a2 8 ∧ ((a3 = (nI (S.n a2)) → False) ∧ (¬ (a3 = (nI (S.n a2))) → (vp_in a3 (S.n a2) ∧ (S.ok a1 0 ∨ S.ok a1 1 ∨ S.ok a1 3) ∧ ∀ S12, S12 = S.setP a2 a3.toNatClampNeg (some a1) → S12.ok o 6 ∧ ∀ S14, S14 = S12.setI o 2 (a3 + (1 : Int32)) → post S14))))))
def rm_Jx4a65c_add_72be8_ng : Room := { frames := 0, cells := 0, slots := 0, locals := 0 }
set_option maxHeartbeats 4000000 in
set_option maxRecDepth 100000 in
theorem ct_Jx4a65c_add_72be8_ng (l : Launch) (E : EV) {post : pS → Prop} (o : Nat) (a1 : Nat) (a2 : Nat) (a3 : Int32) (S : pS) (h : wp_Jx4a65c_add_72be8_ng post E.e0 o a1 a2 a3 S) : CT l E yJx4a65c_add_72be8 cJx4a65c_add_72be8 4 none rm_Jx4a65c_add_72be8_ng (QV E post) [.ref o, .ref a1, .ref a2, .int a3] S := by
  refine ct_intro (by decide +kernel) (Nat.le_of_ble_eq_true rfl) ?_
  intro p e s m below meth c A ls F hW hr hnm hl
  have hx := F.1
  have hb := F.2.1
  unfold wp_Jx4a65c_add_72be8_ng at h
  have hl : lv_has ls 4 [(0, .ref o), (1, .ref a1), (2, .ref a2), (3, .int a3)] := hl
  refine lv_iload_n hx hb dJx4a65c_add_72be8_0 rfl (lv_at hl 3 rfl) ?_
  refine lv_aload_n hx hb dJx4a65c_add_72be8_1 rfl (lv_at hl 2 rfl) ?_
  by_cases z15 : a2 = E.e0
  · have h := h.1 z15
    refine kp_elen F hW z15 dJx4a65c_add_72be8_2 ?_
    refine lv_icmp_ne (tgt := 11) hx hb dJx4a65c_add_72be8_3 (by decide) (fun c1 => ?_) (fun c1 => ?_)
    · have h := h.2 c1
      refine lv_aload_n hx hb dJx4a65c_add_72be8_11 rfl (lv_at hl 2 rfl) ?_
      refine lv_iload_n hx hb dJx4a65c_add_72be8_12 rfl (lv_at hl 3 rfl) ?_
      refine lv_aload_n hx hb dJx4a65c_add_72be8_13 rfl (lv_at hl 1 rfl) ?_
      obtain ⟨g2, h⟩ := h
      obtain ⟨b3, h⟩ := h
      obtain ⟨k4, h⟩ := h
      obtain ⟨S5, hS5⟩ : ∃ z, z = S.setP a2 a3.toNatClampNeg (some a1) := ⟨_, rfl⟩
      have h := h S5 hS5
      refine kp_rastK F hW g2 k4 b3 dJx4a65c_add_72be8_14 (fun H locs hW => ?_)
      rw [← hS5] at hW
      refine lv_aload_n hx hb dJx4a65c_add_72be8_15 rfl (lv_at hl 0 rfl) ?_
      refine lv_iload_n hx hb dJx4a65c_add_72be8_16 rfl (lv_at hl 3 rfl) ?_
      refine lv_iconst (v := 1) hx hb dJx4a65c_add_72be8_17 (by decide) ?_
      refine lv_iadd hx hb dJx4a65c_add_72be8_18 ?_
      obtain ⟨g6, h⟩ := h
      obtain ⟨S7, hS7⟩ : ∃ z, z = S5.setI o 2 (a3 + (1 : Int32)) := ⟨_, rfl⟩
      have h := h S7 hS7
      refine kp_puti F hW g6 cbJx4a65c 2 rfl tw_56 (fun _ h9 => h9) rfl rfl dJx4a65c_add_72be8_19 (fun H locs hW => ?_)
      rw [← hS7] at hW
      exact kp_retv F hW hr h (by decide) (by decide) dJx4a65c_add_72be8_22
    · have h := h.1 c1
      exact h.elim
  · have h := h.2 z15
    obtain ⟨g8, h⟩ := h
    refine kp_rlen F hW g8 dJx4a65c_add_72be8_2 ?_
    refine lv_icmp_ne (tgt := 11) hx hb dJx4a65c_add_72be8_3 (by decide) (fun c9 => ?_) (fun c9 => ?_)
    · have h := h.2 c9
      refine lv_aload_n hx hb dJx4a65c_add_72be8_11 rfl (lv_at hl 2 rfl) ?_
      refine lv_iload_n hx hb dJx4a65c_add_72be8_12 rfl (lv_at hl 3 rfl) ?_
      refine lv_aload_n hx hb dJx4a65c_add_72be8_13 rfl (lv_at hl 1 rfl) ?_
      obtain ⟨b10, h⟩ := h
      obtain ⟨k11, h⟩ := h
      obtain ⟨S12, hS12⟩ : ∃ z, z = S.setP a2 a3.toNatClampNeg (some a1) := ⟨_, rfl⟩
      have h := h S12 hS12
      refine kp_rastK F hW g8 k11 b10 dJx4a65c_add_72be8_14 (fun H locs hW => ?_)
      rw [← hS12] at hW
      refine lv_aload_n hx hb dJx4a65c_add_72be8_15 rfl (lv_at hl 0 rfl) ?_
      refine lv_iload_n hx hb dJx4a65c_add_72be8_16 rfl (lv_at hl 3 rfl) ?_
      refine lv_iconst (v := 1) hx hb dJx4a65c_add_72be8_17 (by decide) ?_
      refine lv_iadd hx hb dJx4a65c_add_72be8_18 ?_
      obtain ⟨g13, h⟩ := h
      obtain ⟨S14, hS14⟩ : ∃ z, z = S12.setI o 2 (a3 + (1 : Int32)) := ⟨_, rfl⟩
      have h := h S14 hS14
      refine kp_puti F hW g13 cbJx4a65c 2 rfl tw_56 (fun _ h9 => h9) rfl rfl dJx4a65c_add_72be8_19 (fun H locs hW => ?_)
      rw [← hS14] at hW
      exact kp_retv F hW hr h (by decide) (by decide) dJx4a65c_add_72be8_22
    · have h := h.1 c9
      exact h.elim
def wp_Jx4a65c_add_9ea2d_ng (post : Int32 → pS → Prop) (e0 : Nat) (o : Nat) (a1 : Nat) (S : pS) : Prop :=
  (S.ok o 6 ∧ ∀ S2, S2 = S.setI o 0 ((S.I o 0) + (1 : Int32)) → ∃ q4, S2.P o 1 = some q4 ∧ wp_Jx4a65c_add_72be8_ng (fun S7 => post (1 : Int32) S7) e0 o a1 q4 (S2.I o 2) S2)
def rm_Jx4a65c_add_9ea2d_ng : Room := { frames := 1, cells := 0, slots := 0, locals := 23 }
set_option maxHeartbeats 4000000 in
set_option maxRecDepth 100000 in
theorem ct_Jx4a65c_add_9ea2d_ng (l : Launch) (E : EV) {post : Int32 → pS → Prop} (o : Nat) (a1 : Nat) (S : pS) (h : wp_Jx4a65c_add_9ea2d_ng post E.e0 o a1 S) : CT l E yJx4a65c_add_9ea2d cJx4a65c_add_9ea2d 2 (some .boolean) rm_Jx4a65c_add_9ea2d_ng (QI E post) [.ref o, .ref a1] S := by
  refine ct_intro (by decide +kernel) (Nat.le_of_ble_eq_true rfl) ?_
  intro p e s m below meth c A ls F hW hr hnm hl
  have hx := F.1
  have hb := F.2.1
  unfold wp_Jx4a65c_add_9ea2d_ng at h
  have hl : lv_has ls 2 [(0, .ref o), (1, .ref a1)] := hl
  refine lv_aload_n hx hb dJx4a65c_add_9ea2d_0 rfl (lv_at hl 0 rfl) ?_
  refine lv_dup hx hb dJx4a65c_add_9ea2d_1 rfl ?_
  obtain ⟨g1, h⟩ := h
  refine kp_geti F hW g1 cbJx4a65c 0 rfl tw_58 (u_same (F.2.2.2.2.1 _ tw_59)) dJx4a65c_add_9ea2d_2 ?_
  refine lv_iconst (v := 1) hx hb dJx4a65c_add_9ea2d_5 (by decide) ?_
  refine lv_iadd hx hb dJx4a65c_add_9ea2d_6 ?_
  obtain ⟨S2, hS2⟩ : ∃ z, z = S.setI o 0 ((S.I o 0) + (1 : Int32)) := ⟨_, rfl⟩
  have h := h S2 hS2
  refine kp_puti F hW g1 cbJx4a65c 0 rfl tw_58 (u_same (F.2.2.2.2.1 _ tw_59)) rfl rfl dJx4a65c_add_9ea2d_7 (fun H locs hW => ?_)
  rw [← hS2] at hW
  refine lv_aload_n hx hb dJx4a65c_add_9ea2d_10 rfl (lv_at hl 0 rfl) ?_
  refine lv_aload_n hx hb dJx4a65c_add_9ea2d_11 rfl (lv_at hl 1 rfl) ?_
  refine lv_aload_n hx hb dJx4a65c_add_9ea2d_12 rfl (lv_at hl 0 rfl) ?_
  have g3 : S2.ok o 6 := by rw [hS2]; exact g1
  obtain ⟨q4, p5, h⟩ := h
  refine kp_getp F hW g3 cbJx4a65c 1 rfl tw_55 (fun _ h9 => h9) dJx4a65c_add_9ea2d_13 p5 ?_
  refine lv_aload_n hx hb dJx4a65c_add_9ea2d_16 rfl (lv_at hl 0 rfl) ?_
  refine kp_geti F hW g3 cbJx4a65c 2 rfl tw_56 (fun _ h9 => h9) dJx4a65c_add_9ea2d_17 ?_
  refine kp_callv (c1 := 0) (s1 := 0) F hW (kp_runV (As := [.ref a1, .ref q4, .int (S2.I o 2)]) (rest := []) F hW (ct_Jx4a65c_add_72be8_ng l E _ _ _ _ _ h) g3 cbJx4a65c rfl cf_Jx4a65c_add_72be8 tw_71 rfl hl.1 ⟨by decide, by decide⟩ (Nat.le_of_ble_eq_true rfl) dJx4a65c_add_9ea2d_20 ⟨by decide, by decide⟩) (by decide) (by decide) (fun S7 H locs h hW => ?_)
  refine lv_iconst (v := 1) hx hb dJx4a65c_add_9ea2d_23 (by decide) ?_
  exact kp_retz F hW hr (Or.inr rfl) h (by decide) (by decide) dJx4a65c_add_9ea2d_24
end
section
def wp_X0_init (post : pS → Prop) (o : Nat) (a1 : Nat) (a2 : Int32) (a3 : Int32) (a4 : Int32) (a5 : Int32) (S : pS) : Prop :=
  (S.ok o 0 ∧ ∀ S2, S2 = S.setP o 0 (some a1) → ∀ S4, S4 = S2.setI o 1 a2 → ∀ S6, S6 = S4.setI o 2 a3 → ∀ S8, S8 = S6.setI o 3 a4 → ∀ S10, S10 = S8.setI o 4 a5 → post S10)
def rm_X0_init : Room := { frames := 1, cells := 0, slots := 0, locals := 20 }
set_option maxHeartbeats 4000000 in
set_option maxRecDepth 100000 in
theorem ct_X0_init (l : Launch) (E : EV) {post : pS → Prop} (o : Nat) (a1 : Nat) (a2 : Int32) (a3 : Int32) (a4 : Int32) (a5 : Int32) (S : pS) (h : wp_X0_init post o a1 a2 a3 a4 a5 S) : CT l E yX0_init cX0_init 6 none rm_X0_init (QV E post) [.ref o, .ref a1, .int a2, .int a3, .int a4, .int a5] S := by
  refine ct_intro (by decide +kernel) (Nat.le_of_ble_eq_true rfl) ?_
  intro p e s m below meth c A ls F hW hr hnm hl
  have hx := F.1
  have hb := F.2.1
  unfold wp_X0_init at h
  have hl : lv_has ls 6 [(0, .ref o), (1, .ref a1), (2, .int a2), (3, .int a3), (4, .int a4), (5, .int a5)] := hl
  refine lv_aload_n hx hb dX0_init_0 rfl (lv_at hl 0 rfl) ?_
  refine kp_oinit F hl.1 tw_281 tw_22 tw_23 dX0_init_1 (by decide) (Nat.le_of_ble_eq_true rfl) ?_
  refine lv_aload_n hx hb dX0_init_4 rfl (lv_at hl 0 rfl) ?_
  refine lv_aload_n hx hb dX0_init_5 rfl (lv_at hl 1 rfl) ?_
  obtain ⟨g1, h⟩ := h
  obtain ⟨S2, hS2⟩ : ∃ z, z = S.setP o 0 (some a1) := ⟨_, rfl⟩
  have h := h S2 hS2
  refine kp_putpF F hW g1 cbX0 0 rfl tw_282 (fun _ h9 => h9) rfl hnm rfl (Or.inl ⟨_, rfl⟩) dX0_init_6 (fun H locs hW => ?_)
  rw [← hS2] at hW
  refine lv_aload_n hx hb dX0_init_9 rfl (lv_at hl 0 rfl) ?_
  refine lv_iload_n hx hb dX0_init_10 rfl (lv_at hl 2 rfl) ?_
  have g3 : S2.ok o 0 := by rw [hS2]; exact g1
  obtain ⟨S4, hS4⟩ : ∃ z, z = S2.setI o 1 a2 := ⟨_, rfl⟩
  have h := h S4 hS4
  refine kp_putiF F hW g3 cbX0 1 rfl tw_283 (fun _ h9 => h9) rfl hnm rfl rfl dX0_init_11 (fun H locs hW => ?_)
  rw [← hS4] at hW
  refine lv_aload_n hx hb dX0_init_14 rfl (lv_at hl 0 rfl) ?_
  refine lv_iload_n hx hb dX0_init_15 rfl (lv_at hl 3 rfl) ?_
  have g5 : S4.ok o 0 := by rw [hS4]; exact g3
  obtain ⟨S6, hS6⟩ : ∃ z, z = S4.setI o 2 a3 := ⟨_, rfl⟩
  have h := h S6 hS6
  refine kp_putiF F hW g5 cbX0 2 rfl tw_284 (fun _ h9 => h9) rfl hnm rfl rfl dX0_init_16 (fun H locs hW => ?_)
  rw [← hS6] at hW
  refine lv_aload_n hx hb dX0_init_19 rfl (lv_at hl 0 rfl) ?_
  refine lv_iload hx hb dX0_init_20 (lv_at hl 4 rfl) ?_
  have g7 : S6.ok o 0 := by rw [hS6]; exact g5
  obtain ⟨S8, hS8⟩ : ∃ z, z = S6.setI o 3 a4 := ⟨_, rfl⟩
  have h := h S8 hS8
  refine kp_putiF F hW g7 cbX0 3 rfl tw_285 (fun _ h9 => h9) rfl hnm rfl rfl dX0_init_22 (fun H locs hW => ?_)
  rw [← hS8] at hW
  refine lv_aload_n hx hb dX0_init_25 rfl (lv_at hl 0 rfl) ?_
  refine lv_iload hx hb dX0_init_26 (lv_at hl 5 rfl) ?_
  have g9 : S8.ok o 0 := by rw [hS8]; exact g7
  obtain ⟨S10, hS10⟩ : ∃ z, z = S8.setI o 4 a5 := ⟨_, rfl⟩
  have h := h S10 hS10
  refine kp_putiF F hW g9 cbX0 4 rfl tw_287 (fun _ h9 => h9) rfl hnm rfl rfl dX0_init_28 (fun H locs hW => ?_)
  rw [← hS10] at hW
  exact kp_retv F hW hr h (by decide) (by decide) dX0_init_31
def wp_X0_holds (post : Int32 → pS → Prop) (o : Nat) (a1 : Nat) (S : pS) : Prop :=
  (S.ok o 0 ∧ (((S.I o 1) < 0 → post (1 : Int32) S) ∧ (¬ ((S.I o 1) < 0) → (S.ok a1 7 ∧ (((S.I o 1) < (nI (S.n a1)) → (vp_in (S.I o 1) (S.n a1) ∧ (((S.I a1 (S.I o 1).toNatClampNeg) = (S.I o 2) → post (1 : Int32) S) ∧ (¬ ((S.I a1 (S.I o 1).toNatClampNeg) = (S.I o 2)) → post (0 : Int32) S)))) ∧ (¬ ((S.I o 1) < (nI (S.n a1))) → post (1 : Int32) S))))))
def rm_X0_holds : Room := { frames := 0, cells := 0, slots := 0, locals := 0 }
set_option maxHeartbeats 4000000 in
set_option maxRecDepth 100000 in
theorem ct_X0_holds (l : Launch) (E : EV) {post : Int32 → pS → Prop} (o : Nat) (a1 : Nat) (S : pS) (h : wp_X0_holds post o a1 S) : CT l E yX0_holds cX0_holds 2 (some .boolean) rm_X0_holds (QI E post) [.ref o, .ref a1] S := by
  refine ct_intro (by decide +kernel) (Nat.le_of_ble_eq_true rfl) ?_
  intro p e s m below meth c A ls F hW hr hnm hl
  have hx := F.1
  have hb := F.2.1
  unfold wp_X0_holds at h
  have hl : lv_has ls 2 [(0, .ref o), (1, .ref a1)] := hl
  refine lv_aload_n hx hb dX0_holds_0 rfl (lv_at hl 0 rfl) ?_
  obtain ⟨g1, h⟩ := h
  refine kp_geti F hW g1 cbX0 1 rfl tw_283 (fun _ h9 => h9) dX0_holds_1 ?_
  refine lv_if_lt (tgt := 16) hx hb dX0_holds_4 (by decide) (fun c2 => ?_) (fun c2 => ?_)
  · have h := h.1 c2
    refine lv_iconst (v := 1) hx hb dX0_holds_16 (by decide) ?_
    exact kp_retz F hW hr (Or.inr rfl) h (by decide) (by decide) dX0_holds_17
  · have h := h.2 c2
    refine lv_aload_n hx hb dX0_holds_7 rfl (lv_at hl 0 rfl) ?_
    refine kp_geti F hW g1 cbX0 1 rfl tw_283 (fun _ h9 => h9) dX0_holds_8 ?_
    refine lv_aload_n hx hb dX0_holds_11 rfl (lv_at hl 1 rfl) ?_
    obtain ⟨g3, h⟩ := h
    refine kp_ilen F hW g3 dX0_holds_12 ?_
    refine lv_icmp_lt (tgt := 18) hx hb dX0_holds_13 (by decide) (fun c4 => ?_) (fun c4 => ?_)
    · have h := h.1 c4
      refine lv_aload_n hx hb dX0_holds_18 rfl (lv_at hl 1 rfl) ?_
      refine lv_aload_n hx hb dX0_holds_19 rfl (lv_at hl 0 rfl) ?_
      refine kp_geti F hW g1 cbX0 1 rfl tw_283 (fun _ h9 => h9) dX0_holds_20 ?_
      obtain ⟨b5, h⟩ := h
      refine kp_iald F hW g3 b5 dX0_holds_23 ?_
      refine lv_aload_n hx hb dX0_holds_24 rfl (lv_at hl 0 rfl) ?_
      refine kp_geti F hW g1 cbX0 2 rfl tw_284 (fun _ h9 => h9) dX0_holds_25 ?_
      refine lv_icmp_ne (tgt := 35) hx hb dX0_holds_28 (by decide) (fun c6 => ?_) (fun c6 => ?_)
      · have h := h.2 c6
        refine lv_iconst (v := 0) hx hb dX0_holds_35 (by decide) ?_
        exact kp_retz F hW hr (Or.inl rfl) h (by decide) (by decide) dX0_holds_36
      · have h := h.1 c6
        refine lv_iconst (v := 1) hx hb dX0_holds_31 (by decide) ?_
        refine lv_goto (tgt := 36) hx hb dX0_holds_32 (by decide) ?_
        exact kp_retz F hW hr (Or.inr rfl) h (by decide) (by decide) dX0_holds_36
    · have h := h.2 c4
      refine lv_iconst (v := 1) hx hb dX0_holds_16 (by decide) ?_
      exact kp_retz F hW hr (Or.inr rfl) h (by decide) (by decide) dX0_holds_17
def wp_X3_size (post : Int32 → pS → Prop) (o : Nat) (S : pS) : Prop :=
  (S.ok o 3 ∧ post (S.I o 1) S)
def rm_X3_size : Room := { frames := 0, cells := 0, slots := 0, locals := 0 }
set_option maxHeartbeats 4000000 in
set_option maxRecDepth 100000 in
theorem ct_X3_size (l : Launch) (E : EV) {post : Int32 → pS → Prop} (o : Nat) (S : pS) (h : wp_X3_size post o S) : CT l E yX3_size cX3_size 1 (some .int) rm_X3_size (QI E post) [.ref o] S := by
  refine ct_intro (by decide +kernel) (Nat.le_of_ble_eq_true rfl) ?_
  intro p e s m below meth c A ls F hW hr hnm hl
  have hx := F.1
  have hb := F.2.1
  unfold wp_X3_size at h
  have hl : lv_has ls 1 [(0, .ref o)] := hl
  refine lv_aload_n hx hb dX3_size_0 rfl (lv_at hl 0 rfl) ?_
  obtain ⟨g1, h⟩ := h
  refine kp_geti F hW g1 cbX3 1 rfl tw_34 (fun _ h9 => h9) dX3_size_1 ?_
  exact kp_reti F hW hr h (by decide) (by decide) dX3_size_4
def wp_X3_sharesBeginning_L20 (post : Int32 → pS → Prop) : Nat → Nat → Nat → Int32 → Int32 → pS → Prop
  | 0, _, _, _, _, _ => False
  | n + 1, v0, v1, v2, v3, S =>
  ((v2 ≤ v3 → post (1 : Int32) S) ∧ (¬ (v2 ≤ v3) → (S.ok v0 3 ∧ ∃ q7, S.P v0 0 = some q7 ∧ S.ok q7 7 ∧ vp_in v3 (S.n q7) ∧ S.ok v1 3 ∧ ∃ q12, S.P v1 0 = some q12 ∧ S.ok q12 7 ∧ vp_in v3 (S.n q12) ∧ (((S.I q7 v3.toNatClampNeg) = (S.I q12 v3.toNatClampNeg) → wp_X3_sharesBeginning_L20 post n v0 v1 v2 (v3 + 1) S) ∧ (¬ ((S.I q7 v3.toNatClampNeg) = (S.I q12 v3.toNatClampNeg)) → post (0 : Int32) S)))))
def wp_X3_sharesBeginning (post : Int32 → pS → Prop) (o : Nat) (a1 : Nat) (a2 : Int32) (S : pS) : Prop :=
  (S.ok o 3 ∧ (((S.I o 1) < a2 → post (0 : Int32) S) ∧ (¬ ((S.I o 1) < a2) → (S.ok a1 3 ∧ ((a2 ≤ (S.I a1 1) → (∃ n20, wp_X3_sharesBeginning_L20 post n20 o a1 a2 (0 : Int32) S)) ∧ (¬ (a2 ≤ (S.I a1 1)) → post (0 : Int32) S))))))
def rm_X3_sharesBeginning : Room := { frames := 0, cells := 0, slots := 0, locals := 0 }
set_option maxHeartbeats 4000000 in
set_option maxRecDepth 100000 in
theorem wk_X3_sharesBeginning_L20 {l : Launch} {p : Program} {e : Env} {s : State} {m : MethodId} {args : Array Value} {below : List Frame} {meth : Method} {c : Code} {A : Nat → Prop} {E : EV} {post : Int32 → pS → Prop} (F : FX p s m args meth c cX3_sharesBeginning 4 yX3_sharesBeginning.cls E A) (hr : meth.sig.returnType = (some .boolean)) :
    ∀ (n : Nat) (v0 : Nat) (v1 : Nat) (v2 : Int32) (v3 : Int32) (S : pS) (H : Heap) (locs : List Loc) (ls : Array Slot), wp_X3_sharesBeginning_L20 post n v0 v1 v2 v3 S → WD E A s S H locs → lv_has ls 4 [(0, .ref v0), (1, .ref v1), (2, .int v2), (3, .int v3)] → W p l e rm_X3_sharesBeginning s m args below meth c H locs 0 0 (MQ below (QI E post A) args s rm_X3_sharesBeginning.cells rm_X3_sharesBeginning.slots A) (F0 m 20 ls []) := by
  have hx := F.1
  have hb := F.2.1
  intro n
  induction n with
  | zero =>
    intro v0 v1 v2 v3 S H locs ls h hW hl
    exact h.elim
  | succ n ih =>
    intro v0 v1 v2 v3 S H locs ls h hW hl
    unfold wp_X3_sharesBeginning_L20 at h
    refine lv_iload_n hx hb dX3_sharesBeginning_20 rfl (lv_at hl 3 rfl) ?_
    refine lv_iload_n hx hb dX3_sharesBeginning_21 rfl (lv_at hl 2 rfl) ?_
    refine lv_icmp_ge (tgt := 48) hx hb dX3_sharesBeginning_22 (by decide) (fun c5 => ?_) (fun c5 => ?_)
    · have h := h.1 c5
      refine lv_iconst (v := 1) hx hb dX3_sharesBeginning_48 (by decide) ?_
      exact kp_retz F hW hr (Or.inr rfl) h (by decide) (by decide) dX3_sharesBeginning_49
    · have h := h.2 c5
      refine lv_aload_n hx hb dX3_sharesBeginning_25 rfl (lv_at hl 0 rfl) ?_
      obtain ⟨g6, h⟩ := h
      obtain ⟨q7, p8, h⟩ := h
      refine kp_getp F hW g6 cbX3 0 rfl tw_33 (fun _ h9 => h9) dX3_sharesBeginning_26 p8 ?_
      refine lv_iload_n hx hb dX3_sharesBeginning_29 rfl (lv_at hl 3 rfl) ?_
      obtain ⟨g9, h⟩ := h
      obtain ⟨b10, h⟩ := h
      refine kp_iald F hW g9 b10 dX3_sharesBeginning_30 ?_
      refine lv_aload_n hx hb dX3_sharesBeginning_31 rfl (lv_at hl 1 rfl) ?_
      obtain ⟨g11, h⟩ := h
      obtain ⟨q12, p13, h⟩ := h
      refine kp_getp F hW g11 cbX3 0 rfl tw_33 (fun _ h9 => h9) dX3_sharesBeginning_32 p13 ?_
      refine lv_iload_n hx hb dX3_sharesBeginning_35 rfl (lv_at hl 3 rfl) ?_
      obtain ⟨g14, h⟩ := h
      obtain ⟨b15, h⟩ := h
      refine kp_iald F hW g14 b15 dX3_sharesBeginning_36 ?_
      refine lv_icmp_eq (tgt := 42) hx hb dX3_sharesBeginning_37 (by decide) (fun c16 => ?_) (fun c16 => ?_)
      · have h := h.1 c16
        refine lv_iinc (v := (v3 + 1)) (lv' := [(3, .int (v3 + 1)), (0, .ref v0), (1, .ref v1), (2, .int v2)]) hx hb dX3_sharesBeginning_42 hl (k := 3) rfl (by rfl) (by decide) rfl (fun ls hl => ?_)
        refine lv_goto (tgt := 20) hx hb dX3_sharesBeginning_45 (by decide) ?_
        exact ih _ _ _ _ _ _ _ _ h hW (lv_sub hl [1, 2, 3, 0] rfl)
      · have h := h.2 c16
        refine lv_iconst (v := 0) hx hb dX3_sharesBeginning_40 (by decide) ?_
        exact kp_retz F hW hr (Or.inl rfl) h (by decide) (by decide) dX3_sharesBeginning_41
set_option maxHeartbeats 4000000 in
set_option maxRecDepth 100000 in
theorem ct_X3_sharesBeginning (l : Launch) (E : EV) {post : Int32 → pS → Prop} (o : Nat) (a1 : Nat) (a2 : Int32) (S : pS) (h : wp_X3_sharesBeginning post o a1 a2 S) : CT l E yX3_sharesBeginning cX3_sharesBeginning 4 (some .boolean) rm_X3_sharesBeginning (QI E post) [.ref o, .ref a1, .int a2] S := by
  refine ct_intro (by decide +kernel) (Nat.le_of_ble_eq_true rfl) ?_
  intro p e s m below meth c A ls F hW hr hnm hl
  have hx := F.1
  have hb := F.2.1
  unfold wp_X3_sharesBeginning at h
  have hl : lv_has ls 4 [(0, .ref o), (1, .ref a1), (2, .int a2)] := hl
  refine lv_iload_n hx hb dX3_sharesBeginning_0 rfl (lv_at hl 2 rfl) ?_
  refine lv_aload_n hx hb dX3_sharesBeginning_1 rfl (lv_at hl 0 rfl) ?_
  obtain ⟨g1, h⟩ := h
  refine kp_geti F hW g1 cbX3 1 rfl tw_34 (fun _ h9 => h9) dX3_sharesBeginning_2 ?_
  refine lv_icmp_gt (tgt := 16) hx hb dX3_sharesBeginning_5 (by decide) (fun c2 => ?_) (fun c2 => ?_)
  · have h := h.1 c2
    refine lv_iconst (v := 0) hx hb dX3_sharesBeginning_16 (by decide) ?_
    exact kp_retz F hW hr (Or.inl rfl) h (by decide) (by decide) dX3_sharesBeginning_17
  · have h := h.2 c2
    refine lv_iload_n hx hb dX3_sharesBeginning_8 rfl (lv_at hl 2 rfl) ?_
    refine lv_aload_n hx hb dX3_sharesBeginning_9 rfl (lv_at hl 1 rfl) ?_
    obtain ⟨g3, h⟩ := h
    refine kp_geti F hW g3 cbX3 1 rfl tw_34 (fun _ h9 => h9) dX3_sharesBeginning_10 ?_
    refine lv_icmp_le (tgt := 18) hx hb dX3_sharesBeginning_13 (by decide) (fun c4 => ?_) (fun c4 => ?_)
    · have h := h.1 c4
      refine lv_iconst (v := 0) hx hb dX3_sharesBeginning_18 (by decide) ?_
      refine lv_istore_n (lv' := [(3, .int (0 : Int32)), (0, .ref o), (1, .ref a1), (2, .int a2)]) hx hb dX3_sharesBeginning_19 rfl hl (by decide) rfl (fun ls hl => ?_)
      obtain ⟨n9, h⟩ := h
      exact wk_X3_sharesBeginning_L20 F hr n9 _ _ _ _ _ _ _ _ h hW (lv_sub hl [1, 2, 3, 0] rfl)
    · have h := h.2 c4
      refine lv_iconst (v := 0) hx hb dX3_sharesBeginning_16 (by decide) ?_
      exact kp_retz F hW hr (Or.inl rfl) h (by decide) (by decide) dX3_sharesBeginning_17
def wp_X0_isFor (post : Int32 → pS → Prop) (o : Nat) (a1 : Nat) (a2 : Int32) (S : pS) : Prop :=
  (S.ok o 0 ∧ ∃ q2, S.P o 0 = some q2 ∧ S.ok q2 3 ∧ wp_X3_size (fun r4 S5 => ((r4 = a2 → (S5.ok o 0 ∧ ∃ q9, S5.P o 0 = some q9 ∧ S5.ok q9 3 ∧ wp_X3_sharesBeginning (fun r11 S12 => ((r11 = 0 → post (0 : Int32) S12) ∧ (¬ (r11 = 0) → post (1 : Int32) S12))) q9 a1 a2 S5)) ∧ (¬ (r4 = a2) → post (0 : Int32) S5))) q2 S)
def rm_X0_isFor : Room := { frames := 1, cells := 0, slots := 0, locals := 23 }
set_option maxHeartbeats 4000000 in
set_option maxRecDepth 100000 in
theorem ct_X0_isFor (l : Launch) (E : EV) {post : Int32 → pS → Prop} (o : Nat) (a1 : Nat) (a2 : Int32) (S : pS) (h : wp_X0_isFor post o a1 a2 S) : CT l E yX0_isFor cX0_isFor 3 (some .boolean) rm_X0_isFor (QI E post) [.ref o, .ref a1, .int a2] S := by
  refine ct_intro (by decide +kernel) (Nat.le_of_ble_eq_true rfl) ?_
  intro p e s m below meth c A ls F hW hr hnm hl
  have hx := F.1
  have hb := F.2.1
  unfold wp_X0_isFor at h
  have hl : lv_has ls 3 [(0, .ref o), (1, .ref a1), (2, .int a2)] := hl
  refine lv_aload_n hx hb dX0_isFor_0 rfl (lv_at hl 0 rfl) ?_
  obtain ⟨g1, h⟩ := h
  obtain ⟨q2, p3, h⟩ := h
  refine kp_getp F hW g1 cbX0 0 rfl tw_282 (fun _ h9 => h9) dX0_isFor_1 p3 ?_
  obtain ⟨g6, h⟩ := h
  refine kp_calli (c1 := 0) (s1 := 0) F hW (kp_runVN (As := []) (rest := []) F hW (ct_X3_size l E _ _ h) g6 cbX3 rfl cf_X3_size tw_329 rfl hl.1 ⟨by decide, by decide⟩ (Nat.le_of_ble_eq_true rfl) dX0_isFor_4 ⟨by decide, by decide⟩) (by decide) (by decide) (fun r4 S5 H locs h hW => ?_)
  refine lv_iload_n hx hb dX0_isFor_7 rfl (lv_at hl 2 rfl) ?_
  refine lv_icmp_ne (tgt := 27) hx hb dX0_isFor_8 (by decide) (fun c7 => ?_) (fun c7 => ?_)
  · have h := h.2 c7
    refine lv_iconst (v := 0) hx hb dX0_isFor_27 (by decide) ?_
    exact kp_retz F hW hr (Or.inl rfl) h (by decide) (by decide) dX0_isFor_28
  · have h := h.1 c7
    refine lv_aload_n hx hb dX0_isFor_11 rfl (lv_at hl 0 rfl) ?_
    obtain ⟨g8, h⟩ := h
    obtain ⟨q9, p10, h⟩ := h
    refine kp_getp F hW g8 cbX0 0 rfl tw_282 (fun _ h9 => h9) dX0_isFor_12 p10 ?_
    refine lv_aload_n hx hb dX0_isFor_15 rfl (lv_at hl 1 rfl) ?_
    refine lv_iload_n hx hb dX0_isFor_16 rfl (lv_at hl 2 rfl) ?_
    obtain ⟨g13, h⟩ := h
    refine kp_calli (c1 := 0) (s1 := 0) F hW (kp_runVN (As := [.ref a1, .int a2]) (rest := []) F hW (ct_X3_sharesBeginning l E _ _ _ _ h) g13 cbX3 rfl cf_X3_sharesBeginning tw_334 rfl hl.1 ⟨by decide, by decide⟩ (Nat.le_of_ble_eq_true rfl) dX0_isFor_17 ⟨by decide, by decide⟩) (by decide) (by decide) (fun r11 S12 H locs h hW => ?_)
    refine lv_if_eq (tgt := 27) hx hb dX0_isFor_20 (by decide) (fun c14 => ?_) (fun c14 => ?_)
    · have h := h.1 c14
      refine lv_iconst (v := 0) hx hb dX0_isFor_27 (by decide) ?_
      exact kp_retz F hW hr (Or.inl rfl) h (by decide) (by decide) dX0_isFor_28
    · have h := h.2 c14
      refine lv_iconst (v := 1) hx hb dX0_isFor_23 (by decide) ?_
      refine lv_goto (tgt := 28) hx hb dX0_isFor_24 (by decide) ?_
      exact kp_retz F hW hr (Or.inr rfl) h (by decide) (by decide) dX0_isFor_28
def wp_X0_isLongerThan (post : Int32 → pS → Prop) (o : Nat) (a1 : Nat) (S : pS) : Prop :=
  (S.ok o 0 ∧ ∃ q2, S.P o 0 = some q2 ∧ S.ok q2 3 ∧ wp_X3_size (fun r4 S5 => (S5.ok a1 3 ∧ wp_X3_size (fun r7 S8 => ((r4 ≤ r7 → post (0 : Int32) S8) ∧ (¬ (r4 ≤ r7) → (S8.ok o 0 ∧ ∃ q12, S8.P o 0 = some q12 ∧ S8.ok a1 3 ∧ wp_X3_size (fun r14 S15 => (S15.ok q12 3 ∧ wp_X3_sharesBeginning (fun r17 S18 => ((r17 = 0 → post (0 : Int32) S18) ∧ (¬ (r17 = 0) → post (1 : Int32) S18))) q12 a1 r14 S15)) a1 S8)))) a1 S5)) q2 S)
def rm_X0_isLongerThan : Room := { frames := 1, cells := 0, slots := 0, locals := 23 }
set_option maxHeartbeats 4000000 in
set_option maxRecDepth 100000 in
theorem ct_X0_isLongerThan (l : Launch) (E : EV) {post : Int32 → pS → Prop} (o : Nat) (a1 : Nat) (S : pS) (h : wp_X0_isLongerThan post o a1 S) : CT l E yX0_isLongerThan cX0_isLongerThan 2 (some .boolean) rm_X0_isLongerThan (QI E post) [.ref o, .ref a1] S := by
  refine ct_intro (by decide +kernel) (Nat.le_of_ble_eq_true rfl) ?_
  intro p e s m below meth c A ls F hW hr hnm hl
  have hx := F.1
  have hb := F.2.1
  unfold wp_X0_isLongerThan at h
  have hl : lv_has ls 2 [(0, .ref o), (1, .ref a1)] := hl
  refine lv_aload_n hx hb dX0_isLongerThan_0 rfl (lv_at hl 0 rfl) ?_
  obtain ⟨g1, h⟩ := h
  obtain ⟨q2, p3, h⟩ := h
  refine kp_getp F hW g1 cbX0 0 rfl tw_282 (fun _ h9 => h9) dX0_isLongerThan_1 p3 ?_
  obtain ⟨g6, h⟩ := h
  refine kp_calli (c1 := 0) (s1 := 0) F hW (kp_runVN (As := []) (rest := []) F hW (ct_X3_size l E _ _ h) g6 cbX3 rfl cf_X3_size tw_329 rfl hl.1 ⟨by decide, by decide⟩ (Nat.le_of_ble_eq_true rfl) dX0_isLongerThan_4 ⟨by decide, by decide⟩) (by decide) (by decide) (fun r4 S5 H locs h hW => ?_)
  refine lv_aload_n hx hb dX0_isLongerThan_7 rfl (lv_at hl 1 rfl) ?_
  obtain ⟨g9, h⟩ := h
  refine kp_calli (c1 := 0) (s1 := 0) F hW (kp_runVN (As := []) (rest := [.int r4]) F hW (ct_X3_size l E _ _ h) g9 cbX3 rfl cf_X3_size tw_329 rfl hl.1 ⟨by decide, by decide⟩ (Nat.le_of_ble_eq_true rfl) dX0_isLongerThan_8 ⟨by decide, by decide⟩) (by decide) (by decide) (fun r7 S8 H locs h hW => ?_)
  refine lv_icmp_le (tgt := 33) hx hb dX0_isLongerThan_11 (by decide) (fun c10 => ?_) (fun c10 => ?_)
  · have h := h.1 c10
    refine lv_iconst (v := 0) hx hb dX0_isLongerThan_33 (by decide) ?_
    exact kp_retz F hW hr (Or.inl rfl) h (by decide) (by decide) dX0_isLongerThan_34
  · have h := h.2 c10
    refine lv_aload_n hx hb dX0_isLongerThan_14 rfl (lv_at hl 0 rfl) ?_
    obtain ⟨g11, h⟩ := h
    obtain ⟨q12, p13, h⟩ := h
    refine kp_getp F hW g11 cbX0 0 rfl tw_282 (fun _ h9 => h9) dX0_isLongerThan_15 p13 ?_
    refine lv_aload_n hx hb dX0_isLongerThan_18 rfl (lv_at hl 1 rfl) ?_
    refine lv_aload_n hx hb dX0_isLongerThan_19 rfl (lv_at hl 1 rfl) ?_
    obtain ⟨g16, h⟩ := h
    refine kp_calli (c1 := 0) (s1 := 0) F hW (kp_runVN (As := []) (rest := [.ref a1, .ref q12]) F hW (ct_X3_size l E _ _ h) g16 cbX3 rfl cf_X3_size tw_329 rfl hl.1 ⟨by decide, by decide⟩ (Nat.le_of_ble_eq_true rfl) dX0_isLongerThan_20 ⟨by decide, by decide⟩) (by decide) (by decide) (fun r14 S15 H locs h hW => ?_)
    obtain ⟨g19, h⟩ := h
    refine kp_calli (c1 := 0) (s1 := 0) F hW (kp_runVN (As := [.ref a1, .int r14]) (rest := []) F hW (ct_X3_sharesBeginning l E _ _ _ _ h) g19 cbX3 rfl cf_X3_sharesBeginning tw_334 rfl hl.1 ⟨by decide, by decide⟩ (Nat.le_of_ble_eq_true rfl) dX0_isLongerThan_23 ⟨by decide, by decide⟩) (by decide) (by decide) (fun r17 S18 H locs h hW => ?_)
    refine lv_if_eq (tgt := 33) hx hb dX0_isLongerThan_26 (by decide) (fun c20 => ?_) (fun c20 => ?_)
    · have h := h.1 c20
      refine lv_iconst (v := 0) hx hb dX0_isLongerThan_33 (by decide) ?_
      exact kp_retz F hW hr (Or.inl rfl) h (by decide) (by decide) dX0_isLongerThan_34
    · have h := h.2 c20
      refine lv_iconst (v := 1) hx hb dX0_isLongerThan_29 (by decide) ?_
      refine lv_goto (tgt := 34) hx hb dX0_isLongerThan_30 (by decide) ?_
      exact kp_retz F hW hr (Or.inr rfl) h (by decide) (by decide) dX0_isLongerThan_34
def wp_X0_shadows (post : Int32 → pS → Prop) (o : Nat) (a1 : Nat) (S : pS) : Prop :=
  (S.ok a1 0 ∧ ∃ q2, S.P a1 0 = some q2 ∧ S.ok q2 3 ∧ wp_X3_size (fun r4 S5 => (S5.ok o 0 ∧ wp_X0_isFor (fun r7 S8 => ((r7 = 0 → post (0 : Int32) S8) ∧ (¬ (r7 = 0) → (S8.ok o 0 ∧ (((S8.I o 1) = (-1 : Int32) → post (1 : Int32) S8) ∧ (¬ ((S8.I o 1) = (-1 : Int32)) → (S8.ok a1 0 ∧ (((S8.I o 1) = (S8.I a1 1) → (((S8.I o 2) = (S8.I a1 2) → post (1 : Int32) S8) ∧ (¬ ((S8.I o 2) = (S8.I a1 2)) → post (0 : Int32) S8))) ∧ (¬ ((S8.I o 1) = (S8.I a1 1)) → post (0 : Int32) S8))))))))) o q2 r4 S5)) q2 S)
def rm_X0_shadows : Room := { frames := 2, cells := 0, slots := 0, locals := 45 }
set_option maxHeartbeats 4000000 in
set_option maxRecDepth 100000 in
theorem ct_X0_shadows (l : Launch) (E : EV) {post : Int32 → pS → Prop} (o : Nat) (a1 : Nat) (S : pS) (h : wp_X0_shadows post o a1 S) : CT l E yX0_shadows cX0_shadows 2 (some .boolean) rm_X0_shadows (QI E post) [.ref o, .ref a1] S := by
  refine ct_intro (by decide +kernel) (Nat.le_of_ble_eq_true rfl) ?_
  intro p e s m below meth c A ls F hW hr hnm hl
  have hx := F.1
  have hb := F.2.1
  unfold wp_X0_shadows at h
  have hl : lv_has ls 2 [(0, .ref o), (1, .ref a1)] := hl
  refine lv_aload_n hx hb dX0_shadows_0 rfl (lv_at hl 0 rfl) ?_
  refine lv_aload_n hx hb dX0_shadows_1 rfl (lv_at hl 1 rfl) ?_
  obtain ⟨g1, h⟩ := h
  obtain ⟨q2, p3, h⟩ := h
  refine kp_getp F hW g1 cbX0 0 rfl tw_282 (fun _ h9 => h9) dX0_shadows_2 p3 ?_
  refine lv_aload_n hx hb dX0_shadows_5 rfl (lv_at hl 1 rfl) ?_
  refine kp_getp F hW g1 cbX0 0 rfl tw_282 (fun _ h9 => h9) dX0_shadows_6 p3 ?_
  obtain ⟨g6, h⟩ := h
  refine kp_calli (c1 := 0) (s1 := 0) F hW (kp_runVN (As := []) (rest := [.ref q2, .ref o]) F hW (ct_X3_size l E _ _ h) g6 cbX3 rfl cf_X3_size tw_329 rfl hl.1 ⟨by decide, by decide⟩ (Nat.le_of_ble_eq_true rfl) dX0_shadows_9 ⟨by decide, by decide⟩) (by decide) (by decide) (fun r4 S5 H locs h hW => ?_)
  obtain ⟨g9, h⟩ := h
  refine kp_calli (c1 := 0) (s1 := 0) F hW (kp_runV (As := [.ref q2, .int r4]) (rest := []) F hW (ct_X0_isFor l E _ _ _ _ h) g9 cbX0 rfl cf_X0_isFor tw_330 rfl hl.1 ⟨by decide, by decide⟩ (Nat.le_of_ble_eq_true rfl) dX0_shadows_12 ⟨by decide, by decide⟩) (by decide) (by decide) (fun r7 S8 H locs h hW => ?_)
  refine lv_if_ne (tgt := 20) hx hb dX0_shadows_15 (by decide) (fun c10 => ?_) (fun c10 => ?_)
  · have h := h.2 c10
    refine lv_aload_n hx hb dX0_shadows_20 rfl (lv_at hl 0 rfl) ?_
    obtain ⟨g11, h⟩ := h
    refine kp_geti F hW g11 cbX0 1 rfl tw_283 (fun _ h9 => h9) dX0_shadows_21 ?_
    refine lv_iconst (v := (-1)) hx hb dX0_shadows_24 (by decide) ?_
    refine lv_icmp_eq (tgt := 50) hx hb dX0_shadows_25 (by decide) (fun c12 => ?_) (fun c12 => ?_)
    · have h := h.1 c12
      refine lv_iconst (v := 1) hx hb dX0_shadows_50 (by decide) ?_
      refine lv_goto (tgt := 55) hx hb dX0_shadows_51 (by decide) ?_
      exact kp_retz F hW hr (Or.inr rfl) h (by decide) (by decide) dX0_shadows_55
    · have h := h.2 c12
      refine lv_aload_n hx hb dX0_shadows_28 rfl (lv_at hl 0 rfl) ?_
      refine kp_geti F hW g11 cbX0 1 rfl tw_283 (fun _ h9 => h9) dX0_shadows_29 ?_
      refine lv_aload_n hx hb dX0_shadows_32 rfl (lv_at hl 1 rfl) ?_
      obtain ⟨g13, h⟩ := h
      refine kp_geti F hW g13 cbX0 1 rfl tw_283 (fun _ h9 => h9) dX0_shadows_33 ?_
      refine lv_icmp_ne (tgt := 54) hx hb dX0_shadows_36 (by decide) (fun c14 => ?_) (fun c14 => ?_)
      · have h := h.2 c14
        refine lv_iconst (v := 0) hx hb dX0_shadows_54 (by decide) ?_
        exact kp_retz F hW hr (Or.inl rfl) h (by decide) (by decide) dX0_shadows_55
      · have h := h.1 c14
        refine lv_aload_n hx hb dX0_shadows_39 rfl (lv_at hl 0 rfl) ?_
        refine kp_geti F hW g11 cbX0 2 rfl tw_284 (fun _ h9 => h9) dX0_shadows_40 ?_
        refine lv_aload_n hx hb dX0_shadows_43 rfl (lv_at hl 1 rfl) ?_
        refine kp_geti F hW g13 cbX0 2 rfl tw_284 (fun _ h9 => h9) dX0_shadows_44 ?_
        refine lv_icmp_ne (tgt := 54) hx hb dX0_shadows_47 (by decide) (fun c15 => ?_) (fun c15 => ?_)
        · have h := h.2 c15
          refine lv_iconst (v := 0) hx hb dX0_shadows_54 (by decide) ?_
          exact kp_retz F hW hr (Or.inl rfl) h (by decide) (by decide) dX0_shadows_55
        · have h := h.1 c15
          refine lv_iconst (v := 1) hx hb dX0_shadows_50 (by decide) ?_
          refine lv_goto (tgt := 55) hx hb dX0_shadows_51 (by decide) ?_
          exact kp_retz F hW hr (Or.inr rfl) h (by decide) (by decide) dX0_shadows_55
  · have h := h.1 c10
    refine lv_iconst (v := 0) hx hb dX0_shadows_18 (by decide) ?_
    exact kp_retz F hW hr (Or.inl rfl) h (by decide) (by decide) dX0_shadows_19
def wp_X1_init (post : pS → Prop) (e0 : Nat) (o : Nat) (a1 : Int32) (S : pS) : Prop :=
  (S.ok o 1 ∧ ∀ S2, S2 = S.setI o 0 a1 → ∀ q3, q3 ∉ S2.L → ∀ S5, S5 = S2.new q3 6 0 → wp_Jx4a65c_init_da8c8 (fun S8 => (S8.ok o 1 ∧ ∀ S10, S10 = S8.setP o 1 (some q3) → post S10)) e0 q3 S5)
def rm_X1_init : Room := { frames := 4, cells := 1, slots := 3, locals := 80 }
set_option maxHeartbeats 4000000 in
set_option maxRecDepth 100000 in
theorem ct_X1_init (l : Launch) (E : EV) {post : pS → Prop} (o : Nat) (a1 : Int32) (S : pS) (h : wp_X1_init post E.e0 o a1 S) : CT l E yX1_init cX1_init 2 none rm_X1_init (QV E post) [.ref o, .int a1] S := by
  refine ct_intro (by decide +kernel) (Nat.le_of_ble_eq_true rfl) ?_
  intro p e s m below meth c A ls F hW hr hnm hl
  have hx := F.1
  have hb := F.2.1
  unfold wp_X1_init at h
  have hl : lv_has ls 2 [(0, .ref o), (1, .int a1)] := hl
  refine lv_aload_n hx hb dX1_init_0 rfl (lv_at hl 0 rfl) ?_
  refine kp_oinit F hl.1 tw_124 tw_22 tw_23 dX1_init_1 (by decide) (Nat.le_of_ble_eq_true rfl) ?_
  refine lv_aload_n hx hb dX1_init_4 rfl (lv_at hl 0 rfl) ?_
  refine lv_iload_n hx hb dX1_init_5 rfl (lv_at hl 1 rfl) ?_
  obtain ⟨g1, h⟩ := h
  obtain ⟨S2, hS2⟩ : ∃ z, z = S.setI o 0 a1 := ⟨_, rfl⟩
  have h := h S2 hS2
  refine kp_putiF F hW g1 cbX1 0 rfl tw_127 (fun _ h9 => h9) rfl hnm rfl rfl dX1_init_6 (fun H locs hW => ?_)
  rw [← hS2] at hW
  refine lv_aload_n hx hb dX1_init_9 rfl (lv_at hl 0 rfl) ?_
  refine kp_new (c1 := 1) (s1 := 3) F hW cbJx4a65c tw_125 tw_42 tw_6 dX1_init_10 (by decide) (by decide) (by decide) (by decide) (fun q3 H f4 hW => ?_)
  obtain ⟨S5, hS5⟩ : ∃ z, z = S2.new q3 6 0 := ⟨_, rfl⟩
  rw [← hS5] at hW
  have h := h q3 f4 S5 hS5
  have g6 : S5.ok q3 6 := by rw [hS5]; exact ok_new
  refine lv_dup hx hb dX1_init_13 rfl ?_
  refine kp_callv (c1 := 1) (s1 := 3) F hW (kp_runI (As := []) (rest := [.ref q3, .ref o]) F hW (ct_Jx4a65c_init_da8c8 l E _ _ h) cf_Jx4a65c_init_da8c8 tw_126 rfl hl.1 ⟨by decide, by decide⟩ (Nat.le_of_ble_eq_true rfl) dX1_init_14 ⟨by decide, by decide⟩) (by decide) (by decide) (fun S8 H locs h hW => ?_)
  obtain ⟨g9, h⟩ := h
  obtain ⟨S10, hS10⟩ : ∃ z, z = S8.setP o 1 (some q3) := ⟨_, rfl⟩
  have h := h S10 hS10
  refine kp_putpF F hW g9 cbX1 1 rfl tw_129 (fun _ h9 => h9) rfl hnm rfl (Or.inl ⟨_, rfl⟩) dX1_init_17 (fun H locs hW => ?_)
  rw [← hS10] at hW
  exact kp_retv F hW hr h (by decide) (by decide) dX1_init_20
def wp_X2_init (post : pS → Prop) (o : Nat) (S : pS) : Prop :=
  (∀ q1, q1 ∉ S.L → ∀ S3, S3 = S.new q1 7 (40 : Int32).toNatClampNeg → S3.ok o 2 ∧ ∀ S6, S6 = S3.setP o 0 (some q1) → ∀ q7, q7 ∉ S6.L → ∀ S9, S9 = S6.new q7 7 (40 : Int32).toNatClampNeg → ∀ S13, S13 = S9.setP o 1 (some q7) → ∀ S15, S15 = S13.setI o 2 (0 : Int32) → post S15)
def rm_X2_init : Room := { frames := 1, cells := 2, slots := 80, locals := 20 }
set_option maxHeartbeats 4000000 in
set_option maxRecDepth 100000 in
theorem ct_X2_init (l : Launch) (E : EV) {post : pS → Prop} (o : Nat) (S : pS) (h : wp_X2_init post o S) : CT l E yX2_init cX2_init 1 none rm_X2_init (QV E post) [.ref o] S := by
  refine ct_intro (by decide +kernel) (Nat.le_of_ble_eq_true rfl) ?_
  intro p e s m below meth c A ls F hW hr hnm hl
  have hx := F.1
  have hb := F.2.1
  unfold wp_X2_init at h
  have hl : lv_has ls 1 [(0, .ref o)] := hl
  refine lv_aload_n hx hb dX2_init_0 rfl (lv_at hl 0 rfl) ?_
  refine kp_oinit F hl.1 tw_141 tw_22 tw_23 dX2_init_1 (by decide) (Nat.le_of_ble_eq_true rfl) ?_
  refine lv_aload_n hx hb dX2_init_4 rfl (lv_at hl 0 rfl) ?_
  refine lv_bipush (v := 40) hx hb dX2_init_5 (by decide) ?_
  refine kp_newi (c1 := 1) (s1 := 40) F hW tw_40 (by decide) (by decide) dX2_init_7 (by decide) (by decide) (by decide) (by decide) (fun q1 H f2 hW => ?_)
  obtain ⟨S3, hS3⟩ : ∃ z, z = S.new q1 7 (40 : Int32).toNatClampNeg := ⟨_, rfl⟩
  rw [← hS3] at hW
  have h := h q1 f2 S3 hS3
  have g4 : S3.ok q1 7 := by rw [hS3]; exact ok_new
  obtain ⟨g5, h⟩ := h
  obtain ⟨S6, hS6⟩ : ∃ z, z = S3.setP o 0 (some q1) := ⟨_, rfl⟩
  have h := h S6 hS6
  refine kp_putpF F hW g5 cbX2 0 rfl tw_142 (fun _ h9 => h9) rfl hnm rfl (Or.inr ⟨_, rfl⟩) dX2_init_9 (fun H locs hW => ?_)
  rw [← hS6] at hW
  refine lv_aload_n hx hb dX2_init_12 rfl (lv_at hl 0 rfl) ?_
  refine lv_bipush (v := 40) hx hb dX2_init_13 (by decide) ?_
  refine kp_newi (c1 := 2) (s1 := 80) F hW tw_40 (by decide) (by decide) dX2_init_15 (by decide) (by decide) (by decide) (by decide) (fun q7 H f8 hW => ?_)
  obtain ⟨S9, hS9⟩ : ∃ z, z = S6.new q7 7 (40 : Int32).toNatClampNeg := ⟨_, rfl⟩
  rw [← hS9] at hW
  have h := h q7 f8 S9 hS9
  have g10 : S9.ok q7 7 := by rw [hS9]; exact ok_new
  have g11 : S6.ok o 2 := by rw [hS6]; exact g5
  have g12 : S9.ok o 2 := by rw [hS9]; exact ok_old f8 g11
  obtain ⟨S13, hS13⟩ : ∃ z, z = S9.setP o 1 (some q7) := ⟨_, rfl⟩
  have h := h S13 hS13
  refine kp_putpF F hW g12 cbX2 1 rfl tw_143 (fun _ h9 => h9) rfl hnm rfl (Or.inr ⟨_, rfl⟩) dX2_init_17 (fun H locs hW => ?_)
  rw [← hS13] at hW
  refine lv_aload_n hx hb dX2_init_20 rfl (lv_at hl 0 rfl) ?_
  refine lv_iconst (v := 0) hx hb dX2_init_21 (by decide) ?_
  have g14 : S13.ok o 2 := by rw [hS13]; exact g12
  obtain ⟨S15, hS15⟩ : ∃ z, z = S13.setI o 2 (0 : Int32) := ⟨_, rfl⟩
  have h := h S15 hS15
  refine kp_puti F hW g14 cbX2 2 rfl tw_144 (fun _ h9 => h9) rfl rfl dX2_init_22 (fun H locs hW => ?_)
  rw [← hS15] at hW
  exact kp_retv F hW hr h (by decide) (by decide) dX2_init_25
def wp_X2_add (post : pS → Prop) (o : Nat) (a1 : Int32) (a2 : Int32) (S : pS) : Prop :=
  (S.ok o 2 ∧ wp_J9_floorMod_7cf53 (fun r2 S3 => (S3.ok o 2 ∧ ∃ q5, S3.P o 0 = some q5 ∧ S3.ok q5 7 ∧ vp_in r2 (S3.n q5) ∧ ∀ S9, S9 = S3.setI q5 r2.toNatClampNeg a1 → ∃ q11, S9.P o 1 = some q11 ∧ S9.ok q11 7 ∧ vp_in r2 (S9.n q11) ∧ ∀ S15, S15 = S9.setI q11 r2.toNatClampNeg a2 → ∀ S17, S17 = S15.setI o 2 ((S15.I o 2) + (1 : Int32)) → post S17)) (S.I o 2) (40 : Int32) S)
def rm_X2_add : Room := { frames := 1, cells := 0, slots := 0, locals := 22 }
set_option maxHeartbeats 4000000 in
set_option maxRecDepth 100000 in
theorem ct_X2_add (l : Launch) (E : EV) {post : pS → Prop} (o : Nat) (a1 : Int32) (a2 : Int32) (S : pS) (h : wp_X2_add post o a1 a2 S) : CT l E yX2_add cX2_add 4 none rm_X2_add (QV E post) [.ref o, .int a1, .int a2] S := by
  refine ct_intro (by decide +kernel) (Nat.le_of_ble_eq_true rfl) ?_
  intro p e s m below meth c A ls F hW hr hnm hl
  have hx := F.1
  have hb := F.2.1
  unfold wp_X2_add at h
  have hl : lv_has ls 4 [(0, .ref o), (1, .int a1), (2, .int a2)] := hl
  refine lv_aload_n hx hb dX2_add_0 rfl (lv_at hl 0 rfl) ?_
  obtain ⟨g1, h⟩ := h
  refine kp_geti F hW g1 cbX2 2 rfl tw_144 (fun _ h9 => h9) dX2_add_1 ?_
  refine lv_bipush (v := 40) hx hb dX2_add_4 (by decide) ?_
  refine kp_calli (c1 := 0) (s1 := 0) F hW (kp_runS (As := [.int (S.I o 2), .int (40 : Int32)]) (rest := []) F hW (ct_J9_floorMod_7cf53 l E _ _ _ h) cf_J9_floorMod_7cf53 tw_380 rfl hl.1 ⟨by decide, by decide⟩ (Nat.le_of_ble_eq_true rfl) dX2_add_6 ⟨by decide, by decide⟩) (by decide) (by decide) (fun r2 S3 H locs h hW => ?_)
  refine lv_istore_n (lv' := [(3, .int r2), (0, .ref o), (1, .int a1), (2, .int a2)]) hx hb dX2_add_9 rfl hl (by decide) rfl (fun ls hl => ?_)
  refine lv_aload_n hx hb dX2_add_10 rfl (lv_at hl 1 rfl) ?_
  obtain ⟨g4, h⟩ := h
  obtain ⟨q5, p6, h⟩ := h
  refine kp_getp F hW g4 cbX2 0 rfl tw_142 (fun _ h9 => h9) dX2_add_11 p6 ?_
  refine lv_iload_n hx hb dX2_add_14 rfl (lv_at hl 0 rfl) ?_
  refine lv_iload_n hx hb dX2_add_15 rfl (lv_at hl 2 rfl) ?_
  obtain ⟨g7, h⟩ := h
  obtain ⟨b8, h⟩ := h
  obtain ⟨S9, hS9⟩ : ∃ z, z = S3.setI q5 r2.toNatClampNeg a1 := ⟨_, rfl⟩
  have h := h S9 hS9
  refine kp_iast F hW g7 b8 dX2_add_16 (fun H locs hW => ?_)
  rw [← hS9] at hW
  refine lv_aload_n hx hb dX2_add_17 rfl (lv_at hl 1 rfl) ?_
  have g10 : S9.ok o 2 := by rw [hS9]; exact g4
  obtain ⟨q11, p12, h⟩ := h
  refine kp_getp F hW g10 cbX2 1 rfl tw_143 (fun _ h9 => h9) dX2_add_18 p12 ?_
  refine lv_iload_n hx hb dX2_add_21 rfl (lv_at hl 0 rfl) ?_
  refine lv_iload_n hx hb dX2_add_22 rfl (lv_at hl 3 rfl) ?_
  obtain ⟨g13, h⟩ := h
  obtain ⟨b14, h⟩ := h
  obtain ⟨S15, hS15⟩ : ∃ z, z = S9.setI q11 r2.toNatClampNeg a2 := ⟨_, rfl⟩
  have h := h S15 hS15
  refine kp_iast F hW g13 b14 dX2_add_23 (fun H locs hW => ?_)
  rw [← hS15] at hW
  refine lv_aload_n hx hb dX2_add_24 rfl (lv_at hl 1 rfl) ?_
  refine lv_dup hx hb dX2_add_25 rfl ?_
  have g16 : S15.ok o 2 := by rw [hS15]; exact g10
  refine kp_geti F hW g16 cbX2 2 rfl tw_144 (fun _ h9 => h9) dX2_add_26 ?_
  refine lv_iconst (v := 1) hx hb dX2_add_29 (by decide) ?_
  refine lv_iadd hx hb dX2_add_30 ?_
  obtain ⟨S17, hS17⟩ : ∃ z, z = S15.setI o 2 ((S15.I o 2) + (1 : Int32)) := ⟨_, rfl⟩
  have h := h S17 hS17
  refine kp_puti F hW g16 cbX2 2 rfl tw_144 (fun _ h9 => h9) rfl rfl dX2_add_31 (fun H locs hW => ?_)
  rw [← hS17] at hW
  exact kp_retv F hW hr h (by decide) (by decide) dX2_add_34
def wp_X2_isReadable (post : Int32 → pS → Prop) (o : Nat) (a1 : Int32) (S : pS) : Prop :=
  ((a1 < 0 → post (0 : Int32) S) ∧ (¬ (a1 < 0) → (S.ok o 2 ∧ (((S.I o 2) ≤ a1 → post (0 : Int32) S) ∧ (¬ ((S.I o 2) ≤ a1) → ((a1 < ((S.I o 2) - (40 : Int32)) → post (0 : Int32) S) ∧ (¬ (a1 < ((S.I o 2) - (40 : Int32))) → post (1 : Int32) S)))))))
def rm_X2_isReadable : Room := { frames := 0, cells := 0, slots := 0, locals := 0 }
set_option maxHeartbeats 4000000 in
set_option maxRecDepth 100000 in
theorem ct_X2_isReadable (l : Launch) (E : EV) {post : Int32 → pS → Prop} (o : Nat) (a1 : Int32) (S : pS) (h : wp_X2_isReadable post o a1 S) : CT l E yX2_isReadable cX2_isReadable 2 (some .boolean) rm_X2_isReadable (QI E post) [.ref o, .int a1] S := by
  refine ct_intro (by decide +kernel) (Nat.le_of_ble_eq_true rfl) ?_
  intro p e s m below meth c A ls F hW hr hnm hl
  have hx := F.1
  have hb := F.2.1
  unfold wp_X2_isReadable at h
  have hl : lv_has ls 2 [(0, .ref o), (1, .int a1)] := hl
  refine lv_iload_n hx hb dX2_isReadable_0 rfl (lv_at hl 1 rfl) ?_
  refine lv_if_lt (tgt := 27) hx hb dX2_isReadable_1 (by decide) (fun c1 => ?_) (fun c1 => ?_)
  · have h := h.1 c1
    refine lv_iconst (v := 0) hx hb dX2_isReadable_27 (by decide) ?_
    exact kp_retz F hW hr (Or.inl rfl) h (by decide) (by decide) dX2_isReadable_28
  · have h := h.2 c1
    refine lv_iload_n hx hb dX2_isReadable_4 rfl (lv_at hl 1 rfl) ?_
    refine lv_aload_n hx hb dX2_isReadable_5 rfl (lv_at hl 0 rfl) ?_
    obtain ⟨g2, h⟩ := h
    refine kp_geti F hW g2 cbX2 2 rfl tw_144 (fun _ h9 => h9) dX2_isReadable_6 ?_
    refine lv_icmp_ge (tgt := 27) hx hb dX2_isReadable_9 (by decide) (fun c3 => ?_) (fun c3 => ?_)
    · have h := h.1 c3
      refine lv_iconst (v := 0) hx hb dX2_isReadable_27 (by decide) ?_
      exact kp_retz F hW hr (Or.inl rfl) h (by decide) (by decide) dX2_isReadable_28
    · have h := h.2 c3
      refine lv_iload_n hx hb dX2_isReadable_12 rfl (lv_at hl 1 rfl) ?_
      refine lv_aload_n hx hb dX2_isReadable_13 rfl (lv_at hl 0 rfl) ?_
      refine kp_geti F hW g2 cbX2 2 rfl tw_144 (fun _ h9 => h9) dX2_isReadable_14 ?_
      refine lv_bipush (v := 40) hx hb dX2_isReadable_17 (by decide) ?_
      refine lv_isub hx hb dX2_isReadable_19 ?_
      refine lv_icmp_lt (tgt := 27) hx hb dX2_isReadable_20 (by decide) (fun c4 => ?_) (fun c4 => ?_)
      · have h := h.1 c4
        refine lv_iconst (v := 0) hx hb dX2_isReadable_27 (by decide) ?_
        exact kp_retz F hW hr (Or.inl rfl) h (by decide) (by decide) dX2_isReadable_28
      · have h := h.2 c4
        refine lv_iconst (v := 1) hx hb dX2_isReadable_23 (by decide) ?_
        refine lv_goto (tgt := 28) hx hb dX2_isReadable_24 (by decide) ?_
        exact kp_retz F hW hr (Or.inr rfl) h (by decide) (by decide) dX2_isReadable_28
def wp_X2_kindOf (post : Int32 → pS → Prop) (o : Nat) (a1 : Int32) (S : pS) : Prop :=
  (S.ok o 2 ∧ wp_X2_isReadable (fun r1 S2 => ((r1 = 0 → post (-4 : Int32) S2) ∧ (¬ (r1 = 0) → (S2.ok o 2 ∧ ∃ q6, S2.P o 0 = some q6 ∧ wp_J9_floorMod_7cf53 (fun r8 S9 => (S9.ok q6 7 ∧ vp_in r8 (S9.n q6) ∧ post (S9.I q6 r8.toNatClampNeg) S9)) a1 (40 : Int32) S2)))) o a1 S)
def rm_X2_kindOf : Room := { frames := 1, cells := 0, slots := 0, locals := 22 }
set_option maxHeartbeats 4000000 in
set_option maxRecDepth 100000 in
theorem ct_X2_kindOf (l : Launch) (E : EV) {post : Int32 → pS → Prop} (o : Nat) (a1 : Int32) (S : pS) (h : wp_X2_kindOf post o a1 S) : CT l E yX2_kindOf cX2_kindOf 2 (some .int) rm_X2_kindOf (QI E post) [.ref o, .int a1] S := by
  refine ct_intro (by decide +kernel) (Nat.le_of_ble_eq_true rfl) ?_
  intro p e s m below meth c A ls F hW hr hnm hl
  have hx := F.1
  have hb := F.2.1
  unfold wp_X2_kindOf at h
  have hl : lv_has ls 2 [(0, .ref o), (1, .int a1)] := hl
  refine lv_aload_n hx hb dX2_kindOf_0 rfl (lv_at hl 0 rfl) ?_
  refine lv_iload_n hx hb dX2_kindOf_1 rfl (lv_at hl 1 rfl) ?_
  obtain ⟨g3, h⟩ := h
  refine kp_calli (c1 := 0) (s1 := 0) F hW (kp_runV (As := [.int a1]) (rest := []) F hW (ct_X2_isReadable l E _ _ _ h) g3 cbX2 rfl cf_X2_isReadable tw_464 rfl hl.1 ⟨by decide, by decide⟩ (Nat.le_of_ble_eq_true rfl) dX2_kindOf_2 ⟨by decide, by decide⟩) (by decide) (by decide) (fun r1 S2 H locs h hW => ?_)
  refine lv_if_eq (tgt := 22) hx hb dX2_kindOf_5 (by decide) (fun c4 => ?_) (fun c4 => ?_)
  · have h := h.1 c4
    refine lv_bipush (v := (-4)) hx hb dX2_kindOf_22 (by decide) ?_
    exact kp_reti F hW hr h (by decide) (by decide) dX2_kindOf_24
  · have h := h.2 c4
    refine lv_aload_n hx hb dX2_kindOf_8 rfl (lv_at hl 0 rfl) ?_
    obtain ⟨g5, h⟩ := h
    obtain ⟨q6, p7, h⟩ := h
    refine kp_getp F hW g5 cbX2 0 rfl tw_142 (fun _ h9 => h9) dX2_kindOf_9 p7 ?_
    refine lv_iload_n hx hb dX2_kindOf_12 rfl (lv_at hl 1 rfl) ?_
    refine lv_bipush (v := 40) hx hb dX2_kindOf_13 (by decide) ?_
    refine kp_calli (c1 := 0) (s1 := 0) F hW (kp_runS (As := [.int a1, .int (40 : Int32)]) (rest := [.ref q6]) F hW (ct_J9_floorMod_7cf53 l E _ _ _ h) cf_J9_floorMod_7cf53 tw_380 rfl hl.1 ⟨by decide, by decide⟩ (Nat.le_of_ble_eq_true rfl) dX2_kindOf_15 ⟨by decide, by decide⟩) (by decide) (by decide) (fun r8 S9 H locs h hW => ?_)
    obtain ⟨g10, h⟩ := h
    obtain ⟨b11, h⟩ := h
    refine kp_iald F hW g10 b11 dX2_kindOf_18 ?_
    refine lv_goto (tgt := 24) hx hb dX2_kindOf_19 (by decide) ?_
    exact kp_reti F hW hr h (by decide) (by decide) dX2_kindOf_24
def wp_X2_argumentOf (post : Int32 → pS → Prop) (o : Nat) (a1 : Int32) (S : pS) : Prop :=
  (S.ok o 2 ∧ wp_X2_isReadable (fun r1 S2 => ((r1 = 0 → post (-4 : Int32) S2) ∧ (¬ (r1 = 0) → (S2.ok o 2 ∧ ∃ q6, S2.P o 1 = some q6 ∧ wp_J9_floorMod_7cf53 (fun r8 S9 => (S9.ok q6 7 ∧ vp_in r8 (S9.n q6) ∧ post (S9.I q6 r8.toNatClampNeg) S9)) a1 (40 : Int32) S2)))) o a1 S)
def rm_X2_argumentOf : Room := { frames := 1, cells := 0, slots := 0, locals := 22 }
set_option maxHeartbeats 4000000 in
set_option maxRecDepth 100000 in
theorem ct_X2_argumentOf (l : Launch) (E : EV) {post : Int32 → pS → Prop} (o : Nat) (a1 : Int32) (S : pS) (h : wp_X2_argumentOf post o a1 S) : CT l E yX2_argumentOf cX2_argumentOf 2 (some .int) rm_X2_argumentOf (QI E post) [.ref o, .int a1] S := by
  refine ct_intro (by decide +kernel) (Nat.le_of_ble_eq_true rfl) ?_
  intro p e s m below meth c A ls F hW hr hnm hl
  have hx := F.1
  have hb := F.2.1
  unfold wp_X2_argumentOf at h
  have hl : lv_has ls 2 [(0, .ref o), (1, .int a1)] := hl
  refine lv_aload_n hx hb dX2_argumentOf_0 rfl (lv_at hl 0 rfl) ?_
  refine lv_iload_n hx hb dX2_argumentOf_1 rfl (lv_at hl 1 rfl) ?_
  obtain ⟨g3, h⟩ := h
  refine kp_calli (c1 := 0) (s1 := 0) F hW (kp_runV (As := [.int a1]) (rest := []) F hW (ct_X2_isReadable l E _ _ _ h) g3 cbX2 rfl cf_X2_isReadable tw_464 rfl hl.1 ⟨by decide, by decide⟩ (Nat.le_of_ble_eq_true rfl) dX2_argumentOf_2 ⟨by decide, by decide⟩) (by decide) (by decide) (fun r1 S2 H locs h hW => ?_)
  refine lv_if_eq (tgt := 22) hx hb dX2_argumentOf_5 (by decide) (fun c4 => ?_) (fun c4 => ?_)
  · have h := h.1 c4
    refine lv_bipush (v := (-4)) hx hb dX2_argumentOf_22 (by decide) ?_
    exact kp_reti F hW hr h (by decide) (by decide) dX2_argumentOf_24
  · have h := h.2 c4
    refine lv_aload_n hx hb dX2_argumentOf_8 rfl (lv_at hl 0 rfl) ?_
    obtain ⟨g5, h⟩ := h
    obtain ⟨q6, p7, h⟩ := h
    refine kp_getp F hW g5 cbX2 1 rfl tw_143 (fun _ h9 => h9) dX2_argumentOf_9 p7 ?_
    refine lv_iload_n hx hb dX2_argumentOf_12 rfl (lv_at hl 1 rfl) ?_
    refine lv_bipush (v := 40) hx hb dX2_argumentOf_13 (by decide) ?_
    refine kp_calli (c1 := 0) (s1 := 0) F hW (kp_runS (As := [.int a1, .int (40 : Int32)]) (rest := [.ref q6]) F hW (ct_J9_floorMod_7cf53 l E _ _ _ h) cf_J9_floorMod_7cf53 tw_380 rfl hl.1 ⟨by decide, by decide⟩ (Nat.le_of_ble_eq_true rfl) dX2_argumentOf_15 ⟨by decide, by decide⟩) (by decide) (by decide) (fun r8 S9 H locs h hW => ?_)
    obtain ⟨g10, h⟩ := h
    obtain ⟨b11, h⟩ := h
    refine kp_iald F hW g10 b11 dX2_argumentOf_18 ?_
    refine lv_goto (tgt := 24) hx hb dX2_argumentOf_19 (by decide) ?_
    exact kp_reti F hW hr h (by decide) (by decide) dX2_argumentOf_24
def wp_X3_init (post : pS → Prop) (N : Nat) (o : Nat) (a1 : Int32) (S : pS) : Prop :=
  (wp_J9_max_7cf53 (fun r1 S2 => (¬ r1 < 0 ∧ r1.toNatClampNeg ≤ N ∧ N ≤ 1000 ∧ ∀ q3, q3 ∉ S2.L → ∀ S8, S8 = S2.new q3 7 r1.toNatClampNeg → S8.ok o 3 ∧ ∀ S11, S11 = S8.setP o 0 (some q3) → ∀ S13, S13 = S11.setI o 1 (0 : Int32) → post S13)) a1 (0 : Int32) S)
def rm_X3_init (N : Nat) : Room := { frames := 1, cells := 1, slots := N, locals := 21 }
set_option maxHeartbeats 4000000 in
set_option maxRecDepth 100000 in
theorem ct_X3_init (l : Launch) (E : EV) {post : pS → Prop} (N : Nat) (o : Nat) (a1 : Int32) (S : pS) (h : wp_X3_init post N o a1 S) : CT l E yX3_init cX3_init 2 none (rm_X3_init N) (QV E post) [.ref o, .int a1] S := by
  refine ct_intro (by decide +kernel) (Nat.le_of_ble_eq_true rfl) ?_
  intro p e s m below meth c A ls F hW hr hnm hl
  have hx := F.1
  have hb := F.2.1
  unfold wp_X3_init at h
  have hl : lv_has ls 2 [(0, .ref o), (1, .int a1)] := hl
  refine lv_aload_n hx hb dX3_init_0 rfl (lv_at hl 0 rfl) ?_
  refine kp_oinit F hl.1 tw_29 tw_22 tw_23 dX3_init_1 (Nat.le_of_ble_eq_true rfl) (Nat.le_of_ble_eq_true rfl) ?_
  refine lv_aload_n hx hb dX3_init_4 rfl (lv_at hl 0 rfl) ?_
  refine lv_iload_n hx hb dX3_init_5 rfl (lv_at hl 1 rfl) ?_
  refine lv_iconst (v := 0) hx hb dX3_init_6 (by decide) ?_
  refine kp_calli (c1 := 0) (s1 := 0) F hW (kp_runS (As := [.int a1, .int (0 : Int32)]) (rest := [.ref o]) F hW (ct_J9_max_7cf53 l E _ _ _ h) cf_J9_max_7cf53 tw_30 rfl hl.1 ⟨Nat.le_of_ble_eq_true rfl, Nat.le_of_ble_eq_true rfl⟩ (Nat.le_of_ble_eq_true rfl) dX3_init_7 ⟨Nat.le_of_ble_eq_true rfl, Nat.zero_le _⟩) (Nat.le_of_ble_eq_true rfl) (Nat.le_of_ble_eq_true rfl) (fun r1 S2 H locs h hW => ?_)
  obtain ⟨z5, z6, h⟩ := h
  obtain ⟨z7, h⟩ := h
  refine kp_newi (c1 := 1) (s1 := N) F hW tw_40 z5 (Nat.le_trans z6 z7) dX3_init_10 (Nat.le_of_ble_eq_true rfl) (by rw [Nat.zero_add]; exact z6) (Nat.le_of_ble_eq_true rfl) (Nat.le_refl _) (fun q3 H f4 hW => ?_)
  obtain ⟨S8, hS8⟩ : ∃ z, z = S2.new q3 7 r1.toNatClampNeg := ⟨_, rfl⟩
  rw [← hS8] at hW
  have h := h q3 f4 S8 hS8
  have g9 : S8.ok q3 7 := by rw [hS8]; exact ok_new
  obtain ⟨g10, h⟩ := h
  obtain ⟨S11, hS11⟩ : ∃ z, z = S8.setP o 0 (some q3) := ⟨_, rfl⟩
  have h := h S11 hS11
  refine kp_putpF F hW g10 cbX3 0 rfl tw_33 (fun _ h9 => h9) rfl hnm rfl (Or.inr ⟨_, rfl⟩) dX3_init_12 (fun H locs hW => ?_)
  rw [← hS11] at hW
  refine lv_aload_n hx hb dX3_init_15 rfl (lv_at hl 0 rfl) ?_
  refine lv_iconst (v := 0) hx hb dX3_init_16 (by decide) ?_
  have g12 : S11.ok o 3 := by rw [hS11]; exact g10
  obtain ⟨S13, hS13⟩ : ∃ z, z = S11.setI o 1 (0 : Int32) := ⟨_, rfl⟩
  have h := h S13 hS13
  refine kp_puti F hW g12 cbX3 1 rfl tw_34 (fun _ h9 => h9) rfl rfl dX3_init_17 (fun H locs hW => ?_)
  rw [← hS13] at hW
  exact kp_retv F hW hr h (Nat.le_of_ble_eq_true rfl) (Nat.le_refl _) dX3_init_20
def wp_X3_isFull (post : Int32 → pS → Prop) (o : Nat) (S : pS) : Prop :=
  (S.ok o 3 ∧ ∃ q2, S.P o 0 = some q2 ∧ S.ok q2 7 ∧ (((S.I o 1) < (nI (S.n q2)) → post (0 : Int32) S) ∧ (¬ ((S.I o 1) < (nI (S.n q2))) → post (1 : Int32) S)))
def rm_X3_isFull : Room := { frames := 0, cells := 0, slots := 0, locals := 0 }
set_option maxHeartbeats 4000000 in
set_option maxRecDepth 100000 in
theorem ct_X3_isFull (l : Launch) (E : EV) {post : Int32 → pS → Prop} (o : Nat) (S : pS) (h : wp_X3_isFull post o S) : CT l E yX3_isFull cX3_isFull 1 (some .boolean) rm_X3_isFull (QI E post) [.ref o] S := by
  refine ct_intro (by decide +kernel) (Nat.le_of_ble_eq_true rfl) ?_
  intro p e s m below meth c A ls F hW hr hnm hl
  have hx := F.1
  have hb := F.2.1
  unfold wp_X3_isFull at h
  have hl : lv_has ls 1 [(0, .ref o)] := hl
  refine lv_aload_n hx hb dX3_isFull_0 rfl (lv_at hl 0 rfl) ?_
  obtain ⟨g1, h⟩ := h
  refine kp_geti F hW g1 cbX3 1 rfl tw_34 (fun _ h9 => h9) dX3_isFull_1 ?_
  refine lv_aload_n hx hb dX3_isFull_4 rfl (lv_at hl 0 rfl) ?_
  obtain ⟨q2, p3, h⟩ := h
  refine kp_getp F hW g1 cbX3 0 rfl tw_33 (fun _ h9 => h9) dX3_isFull_5 p3 ?_
  obtain ⟨g4, h⟩ := h
  refine kp_ilen F hW g4 dX3_isFull_8 ?_
  refine lv_icmp_lt (tgt := 16) hx hb dX3_isFull_9 (by decide) (fun c5 => ?_) (fun c5 => ?_)
  · have h := h.1 c5
    refine lv_iconst (v := 0) hx hb dX3_isFull_16 (by decide) ?_
    exact kp_retz F hW hr (Or.inl rfl) h (by decide) (by decide) dX3_isFull_17
  · have h := h.2 c5
    refine lv_iconst (v := 1) hx hb dX3_isFull_12 (by decide) ?_
    refine lv_goto (tgt := 17) hx hb dX3_isFull_13 (by decide) ?_
    exact kp_retz F hW hr (Or.inr rfl) h (by decide) (by decide) dX3_isFull_17
def wp_X3_add (post : pS → Prop) (o : Nat) (a1 : Int32) (S : pS) : Prop :=
  (S.ok o 3 ∧ ∃ q2, S.P o 0 = some q2 ∧ S.ok q2 7 ∧ (((nI (S.n q2)) ≤ (S.I o 1) → post S) ∧ (¬ ((nI (S.n q2)) ≤ (S.I o 1)) → (vp_in (S.I o 1) (S.n q2) ∧ ∀ S7, S7 = S.setI q2 (S.I o 1).toNatClampNeg a1 → ∀ S9, S9 = S7.setI o 1 ((S7.I o 1) + (1 : Int32)) → post S9))))
def rm_X3_add : Room := { frames := 0, cells := 0, slots := 0, locals := 0 }
set_option maxHeartbeats 4000000 in
set_option maxRecDepth 100000 in
theorem ct_X3_add (l : Launch) (E : EV) {post : pS → Prop} (o : Nat) (a1 : Int32) (S : pS) (h : wp_X3_add post o a1 S) : CT l E yX3_add cX3_add 2 none rm_X3_add (QV E post) [.ref o, .int a1] S := by
  refine ct_intro (by decide +kernel) (Nat.le_of_ble_eq_true rfl) ?_
  intro p e s m below meth c A ls F hW hr hnm hl
  have hx := F.1
  have hb := F.2.1
  unfold wp_X3_add at h
  have hl : lv_has ls 2 [(0, .ref o), (1, .int a1)] := hl
  refine lv_aload_n hx hb dX3_add_0 rfl (lv_at hl 0 rfl) ?_
  obtain ⟨g1, h⟩ := h
  refine kp_geti F hW g1 cbX3 1 rfl tw_34 (fun _ h9 => h9) dX3_add_1 ?_
  refine lv_aload_n hx hb dX3_add_4 rfl (lv_at hl 0 rfl) ?_
  obtain ⟨q2, p3, h⟩ := h
  refine kp_getp F hW g1 cbX3 0 rfl tw_33 (fun _ h9 => h9) dX3_add_5 p3 ?_
  obtain ⟨g4, h⟩ := h
  refine kp_ilen F hW g4 dX3_add_8 ?_
  refine lv_icmp_ge (tgt := 32) hx hb dX3_add_9 (by decide) (fun c5 => ?_) (fun c5 => ?_)
  · have h := h.1 c5
    exact kp_retv F hW hr h (by decide) (by decide) dX3_add_32
  · have h := h.2 c5
    refine lv_aload_n hx hb dX3_add_12 rfl (lv_at hl 0 rfl) ?_
    refine kp_getp F hW g1 cbX3 0 rfl tw_33 (fun _ h9 => h9) dX3_add_13 p3 ?_
    refine lv_aload_n hx hb dX3_add_16 rfl (lv_at hl 0 rfl) ?_
    refine kp_geti F hW g1 cbX3 1 rfl tw_34 (fun _ h9 => h9) dX3_add_17 ?_
    refine lv_iload_n hx hb dX3_add_20 rfl (lv_at hl 1 rfl) ?_
    obtain ⟨b6, h⟩ := h
    obtain ⟨S7, hS7⟩ : ∃ z, z = S.setI q2 (S.I o 1).toNatClampNeg a1 := ⟨_, rfl⟩
    have h := h S7 hS7
    refine kp_iast F hW g4 b6 dX3_add_21 (fun H locs hW => ?_)
    rw [← hS7] at hW
    refine lv_aload_n hx hb dX3_add_22 rfl (lv_at hl 0 rfl) ?_
    refine lv_dup hx hb dX3_add_23 rfl ?_
    have g8 : S7.ok o 3 := by rw [hS7]; exact g1
    refine kp_geti F hW g8 cbX3 1 rfl tw_34 (fun _ h9 => h9) dX3_add_24 ?_
    refine lv_iconst (v := 1) hx hb dX3_add_27 (by decide) ?_
    refine lv_iadd hx hb dX3_add_28 ?_
    obtain ⟨S9, hS9⟩ : ∃ z, z = S7.setI o 1 ((S7.I o 1) + (1 : Int32)) := ⟨_, rfl⟩
    have h := h S9 hS9
    refine kp_puti F hW g8 cbX3 1 rfl tw_34 (fun _ h9 => h9) rfl rfl dX3_add_29 (fun H locs hW => ?_)
    rw [← hS9] at hW
    exact kp_retv F hW hr h (by decide) (by decide) dX3_add_32
def wp_X3_at (post : Int32 → pS → Prop) (o : Nat) (a1 : Int32) (S : pS) : Prop :=
  ((a1 < 0 → post (-4 : Int32) S) ∧ (¬ (a1 < 0) → (S.ok o 3 ∧ (((S.I o 1) ≤ a1 → post (-4 : Int32) S) ∧ (¬ ((S.I o 1) ≤ a1) → (∃ q4, S.P o 0 = some q4 ∧ S.ok q4 7 ∧ vp_in a1 (S.n q4) ∧ post (S.I q4 a1.toNatClampNeg) S))))))
def rm_X3_at : Room := { frames := 0, cells := 0, slots := 0, locals := 0 }
set_option maxHeartbeats 4000000 in
set_option maxRecDepth 100000 in
theorem ct_X3_at (l : Launch) (E : EV) {post : Int32 → pS → Prop} (o : Nat) (a1 : Int32) (S : pS) (h : wp_X3_at post o a1 S) : CT l E yX3_at cX3_at 2 (some .int) rm_X3_at (QI E post) [.ref o, .int a1] S := by
  refine ct_intro (by decide +kernel) (Nat.le_of_ble_eq_true rfl) ?_
  intro p e s m below meth c A ls F hW hr hnm hl
  have hx := F.1
  have hb := F.2.1
  unfold wp_X3_at at h
  have hl : lv_has ls 2 [(0, .ref o), (1, .int a1)] := hl
  refine lv_iload_n hx hb dX3_at_0 rfl (lv_at hl 1 rfl) ?_
  refine lv_if_lt (tgt := 21) hx hb dX3_at_1 (by decide) (fun c1 => ?_) (fun c1 => ?_)
  · have h := h.1 c1
    refine lv_bipush (v := (-4)) hx hb dX3_at_21 (by decide) ?_
    exact kp_reti F hW hr h (by decide) (by decide) dX3_at_23
  · have h := h.2 c1
    refine lv_iload_n hx hb dX3_at_4 rfl (lv_at hl 1 rfl) ?_
    refine lv_aload_n hx hb dX3_at_5 rfl (lv_at hl 0 rfl) ?_
    obtain ⟨g2, h⟩ := h
    refine kp_geti F hW g2 cbX3 1 rfl tw_34 (fun _ h9 => h9) dX3_at_6 ?_
    refine lv_icmp_ge (tgt := 21) hx hb dX3_at_9 (by decide) (fun c3 => ?_) (fun c3 => ?_)
    · have h := h.1 c3
      refine lv_bipush (v := (-4)) hx hb dX3_at_21 (by decide) ?_
      exact kp_reti F hW hr h (by decide) (by decide) dX3_at_23
    · have h := h.2 c3
      refine lv_aload_n hx hb dX3_at_12 rfl (lv_at hl 0 rfl) ?_
      obtain ⟨q4, p5, h⟩ := h
      refine kp_getp F hW g2 cbX3 0 rfl tw_33 (fun _ h9 => h9) dX3_at_13 p5 ?_
      refine lv_iload_n hx hb dX3_at_16 rfl (lv_at hl 1 rfl) ?_
      obtain ⟨g6, h⟩ := h
      obtain ⟨b7, h⟩ := h
      refine kp_iald F hW g6 b7 dX3_at_17 ?_
      refine lv_goto (tgt := 23) hx hb dX3_at_18 (by decide) ?_
      exact kp_reti F hW hr h (by decide) (by decide) dX3_at_23
def wp_X3_removeLast (post : Int32 → pS → Prop) (o : Nat) (S : pS) : Prop :=
  (S.ok o 3 ∧ ((0 < (S.I o 1) → (∀ S3, S3 = S.setI o 1 ((S.I o 1) - (1 : Int32)) → ∃ q5, S3.P o 0 = some q5 ∧ S3.ok q5 7 ∧ vp_in (S3.I o 1) (S3.n q5) ∧ post (S3.I q5 (S3.I o 1).toNatClampNeg) S3)) ∧ (¬ (0 < (S.I o 1)) → post (-4 : Int32) S)))
def rm_X3_removeLast : Room := { frames := 0, cells := 0, slots := 0, locals := 0 }
set_option maxHeartbeats 4000000 in
set_option maxRecDepth 100000 in
theorem ct_X3_removeLast (l : Launch) (E : EV) {post : Int32 → pS → Prop} (o : Nat) (S : pS) (h : wp_X3_removeLast post o S) : CT l E yX3_removeLast cX3_removeLast 1 (some .int) rm_X3_removeLast (QI E post) [.ref o] S := by
  refine ct_intro (by decide +kernel) (Nat.le_of_ble_eq_true rfl) ?_
  intro p e s m below meth c A ls F hW hr hnm hl
  have hx := F.1
  have hb := F.2.1
  unfold wp_X3_removeLast at h
  have hl : lv_has ls 1 [(0, .ref o)] := hl
  refine lv_aload_n hx hb dX3_removeLast_0 rfl (lv_at hl 0 rfl) ?_
  obtain ⟨g1, h⟩ := h
  refine kp_geti F hW g1 cbX3 1 rfl tw_34 (fun _ h9 => h9) dX3_removeLast_1 ?_
  refine lv_if_gt (tgt := 10) hx hb dX3_removeLast_4 (by decide) (fun c2 => ?_) (fun c2 => ?_)
  · have h := h.1 c2
    refine lv_aload_n hx hb dX3_removeLast_10 rfl (lv_at hl 0 rfl) ?_
    refine lv_dup hx hb dX3_removeLast_11 rfl ?_
    refine kp_geti F hW g1 cbX3 1 rfl tw_34 (fun _ h9 => h9) dX3_removeLast_12 ?_
    refine lv_iconst (v := 1) hx hb dX3_removeLast_15 (by decide) ?_
    refine lv_isub hx hb dX3_removeLast_16 ?_
    obtain ⟨S3, hS3⟩ : ∃ z, z = S.setI o 1 ((S.I o 1) - (1 : Int32)) := ⟨_, rfl⟩
    have h := h S3 hS3
    refine kp_puti F hW g1 cbX3 1 rfl tw_34 (fun _ h9 => h9) rfl rfl dX3_removeLast_17 (fun H locs hW => ?_)
    rw [← hS3] at hW
    refine lv_aload_n hx hb dX3_removeLast_20 rfl (lv_at hl 0 rfl) ?_
    have g4 : S3.ok o 3 := by rw [hS3]; exact g1
    obtain ⟨q5, p6, h⟩ := h
    refine kp_getp F hW g4 cbX3 0 rfl tw_33 (fun _ h9 => h9) dX3_removeLast_21 p6 ?_
    refine lv_aload_n hx hb dX3_removeLast_24 rfl (lv_at hl 0 rfl) ?_
    refine kp_geti F hW g4 cbX3 1 rfl tw_34 (fun _ h9 => h9) dX3_removeLast_25 ?_
    obtain ⟨g7, h⟩ := h
    obtain ⟨b8, h⟩ := h
    refine kp_iald F hW g7 b8 dX3_removeLast_28 ?_
    exact kp_reti F hW hr h (by decide) (by decide) dX3_removeLast_29
  · have h := h.2 c2
    refine lv_bipush (v := (-4)) hx hb dX3_removeLast_7 (by decide) ?_
    exact kp_reti F hW hr h (by decide) (by decide) dX3_removeLast_9
def wp_X3_clear (post : pS → Prop) (o : Nat) (S : pS) : Prop :=
  (S.ok o 3 ∧ ∀ S2, S2 = S.setI o 1 (0 : Int32) → post S2)
def rm_X3_clear : Room := { frames := 0, cells := 0, slots := 0, locals := 0 }
set_option maxHeartbeats 4000000 in
set_option maxRecDepth 100000 in
theorem ct_X3_clear (l : Launch) (E : EV) {post : pS → Prop} (o : Nat) (S : pS) (h : wp_X3_clear post o S) : CT l E yX3_clear cX3_clear 1 none rm_X3_clear (QV E post) [.ref o] S := by
  refine ct_intro (by decide +kernel) (Nat.le_of_ble_eq_true rfl) ?_
  intro p e s m below meth c A ls F hW hr hnm hl
  have hx := F.1
  have hb := F.2.1
  unfold wp_X3_clear at h
  have hl : lv_has ls 1 [(0, .ref o)] := hl
  refine lv_aload_n hx hb dX3_clear_0 rfl (lv_at hl 0 rfl) ?_
  refine lv_iconst (v := 0) hx hb dX3_clear_1 (by decide) ?_
  obtain ⟨g1, h⟩ := h
  obtain ⟨S2, hS2⟩ : ∃ z, z = S.setI o 1 (0 : Int32) := ⟨_, rfl⟩
  have h := h S2 hS2
  refine kp_puti F hW g1 cbX3 1 rfl tw_34 (fun _ h9 => h9) rfl rfl dX3_clear_2 (fun H locs hW => ?_)
  rw [← hS2] at hW
  exact kp_retv F hW hr h (by decide) (by decide) dX3_clear_5
def wp_X3_copy_L14 (post : Nat → pS → Prop) : Nat → Nat → Nat → Int32 → pS → Prop
  | 0, _, _, _, _ => False
  | n + 1, v0, v1, v2, S =>
  (S.ok v0 3 ∧ (((S.I v0 1) ≤ v2 → post v1 S) ∧ (¬ ((S.I v0 1) ≤ v2) → (∃ q10, S.P v0 0 = some q10 ∧ S.ok q10 7 ∧ vp_in v2 (S.n q10) ∧ S.ok v1 3 ∧ wp_X3_add (fun S15 => wp_X3_copy_L14 post n v0 v1 (v2 + 1) S15) v1 (S.I q10 v2.toNatClampNeg) S))))
def wp_X3_copy (post : Nat → pS → Prop) (o : Nat) (S : pS) : Prop :=
  (∀ q1, q1 ∉ S.L → ∀ S3, S3 = S.new q1 3 0 → S3.ok o 3 ∧ wp_X3_init (fun S7 => (∃ n14, wp_X3_copy_L14 post n14 o q1 (0 : Int32) S7)) 4 q1 (S3.I o 1) S3)
def rm_X3_copy : Room := { frames := 2, cells := 2, slots := 6, locals := 42 }
set_option maxHeartbeats 4000000 in
set_option maxRecDepth 100000 in
theorem wk_X3_copy_L14 {l : Launch} {p : Program} {e : Env} {s : State} {m : MethodId} {args : Array Value} {below : List Frame} {meth : Method} {c : Code} {A : Nat → Prop} {E : EV} {post : Nat → pS → Prop} (F : FX p s m args meth c cX3_copy 3 yX3_copy.cls E A) (hr : meth.sig.returnType = (some (.object "KeyCommandInterpreter$Row"))) :
    ∀ (n : Nat) (v0 : Nat) (v1 : Nat) (v2 : Int32) (S : pS) (H : Heap) (locs : List Loc) (ls : Array Slot), wp_X3_copy_L14 post n v0 v1 v2 S → WD E A s S H locs → lv_has ls 3 [(0, .ref v0), (1, .ref v1), (2, .int v2)] → W p l e rm_X3_copy s m args below meth c H locs 2 6 (MQ below (QR E post A) args s rm_X3_copy.cells rm_X3_copy.slots A) (F0 m 14 ls []) := by
  have hx := F.1
  have hb := F.2.1
  intro n
  induction n with
  | zero =>
    intro v0 v1 v2 S H locs ls h hW hl
    exact h.elim
  | succ n ih =>
    intro v0 v1 v2 S H locs ls h hW hl
    unfold wp_X3_copy_L14 at h
    refine lv_iload_n hx hb dX3_copy_14 rfl (lv_at hl 2 rfl) ?_
    refine lv_aload_n hx hb dX3_copy_15 rfl (lv_at hl 0 rfl) ?_
    obtain ⟨g8, h⟩ := h
    refine kp_geti F hW g8 cbX3 1 rfl tw_34 (fun _ h9 => h9) dX3_copy_16 ?_
    refine lv_icmp_ge (tgt := 38) hx hb dX3_copy_19 (by decide) (fun c9 => ?_) (fun c9 => ?_)
    · have h := h.1 c9
      refine lv_aload_n hx hb dX3_copy_38 rfl (lv_at hl 1 rfl) ?_
      exact kp_retr F hW hr (Or.inl ⟨_, rfl⟩) h (by decide) (by decide) dX3_copy_39
    · have h := h.2 c9
      refine lv_aload_n hx hb dX3_copy_22 rfl (lv_at hl 1 rfl) ?_
      refine lv_aload_n hx hb dX3_copy_23 rfl (lv_at hl 0 rfl) ?_
      obtain ⟨q10, p11, h⟩ := h
      refine kp_getp F hW g8 cbX3 0 rfl tw_33 (fun _ h9 => h9) dX3_copy_24 p11 ?_
      refine lv_iload_n hx hb dX3_copy_27 rfl (lv_at hl 2 rfl) ?_
      obtain ⟨g12, h⟩ := h
      obtain ⟨b13, h⟩ := h
      refine kp_iald F hW g12 b13 dX3_copy_28 ?_
      obtain ⟨g16, h⟩ := h
      refine kp_callv (c1 := 2) (s1 := 6) F hW (kp_runV (As := [.int (S.I q10 v2.toNatClampNeg)]) (rest := []) F hW (ct_X3_add l E _ _ _ h) g16 cbX3 rfl cf_X3_add tw_277 rfl hl.1 ⟨by decide, by decide⟩ (Nat.le_of_ble_eq_true rfl) dX3_copy_29 ⟨by decide, by decide⟩) (by decide) (by decide) (fun S15 H locs h hW => ?_)
      refine lv_iinc (v := (v2 + 1)) (lv' := [(2, .int (v2 + 1)), (0, .ref v0), (1, .ref v1)]) hx hb dX3_copy_32 hl (k := 2) rfl (by rfl) (by decide) rfl (fun ls hl => ?_)
      refine lv_goto (tgt := 14) hx hb dX3_copy_35 (by decide) ?_
      exact ih _ _ _ _ _ _ _ h hW (lv_sub hl [1, 2, 0] rfl)
set_option maxHeartbeats 4000000 in
set_option maxRecDepth 100000 in
theorem ct_X3_copy (l : Launch) (E : EV) {post : Nat → pS → Prop} (o : Nat) (S : pS) (h : wp_X3_copy post o S) : CT l E yX3_copy cX3_copy 3 (some (.object "KeyCommandInterpreter$Row")) rm_X3_copy (QR E post) [.ref o] S := by
  refine ct_intro (by decide +kernel) (Nat.le_of_ble_eq_true rfl) ?_
  intro p e s m below meth c A ls F hW hr hnm hl
  have hx := F.1
  have hb := F.2.1
  unfold wp_X3_copy at h
  have hl : lv_has ls 3 [(0, .ref o)] := hl
  refine kp_new (c1 := 1) (s1 := 2) F hW cbX3 tw_275 tw_25 tw_2 dX3_copy_0 (by decide) (by decide) (by decide) (by decide) (fun q1 H f2 hW => ?_)
  obtain ⟨S3, hS3⟩ : ∃ z, z = S.new q1 3 0 := ⟨_, rfl⟩
  rw [← hS3] at hW
  have h := h q1 f2 S3 hS3
  have g4 : S3.ok q1 3 := by rw [hS3]; exact ok_new
  refine lv_dup hx hb dX3_copy_3 rfl ?_
  refine lv_aload_n hx hb dX3_copy_4 rfl (lv_at hl 0 rfl) ?_
  obtain ⟨g5, h⟩ := h
  refine kp_geti F hW g5 cbX3 1 rfl tw_34 (fun _ h9 => h9) dX3_copy_5 ?_
  refine kp_callv (c1 := 2) (s1 := 6) F hW (kp_runI (As := [.int (S3.I o 1)]) (rest := [.ref q1]) F hW (ct_X3_init l E 4 _ _ _ h) cf_X3_init tw_276 rfl hl.1 ⟨by decide, by decide⟩ (Nat.le_of_ble_eq_true rfl) dX3_copy_8 ⟨by decide, by decide⟩) (by decide) (by decide) (fun S7 H locs h hW => ?_)
  refine lv_astore_n (lv' := [(1, .ref q1), (0, .ref o)]) hx hb dX3_copy_11 rfl hl (by decide) rfl (fun ls hl => ?_)
  refine lv_iconst (v := 0) hx hb dX3_copy_12 (by decide) ?_
  refine lv_istore_n (lv' := [(2, .int (0 : Int32)), (1, .ref q1), (0, .ref o)]) hx hb dX3_copy_13 rfl hl (by decide) rfl (fun ls hl => ?_)
  obtain ⟨n9, h⟩ := h
  exact wk_X3_copy_L14 F hr n9 _ _ _ _ _ _ _ h hW (lv_sub hl [2, 1, 0] rfl)
end
