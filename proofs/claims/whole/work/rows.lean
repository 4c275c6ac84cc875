section
-- ===== PART A: goes FIRST, ahead of the names: the tables' words, and 'selects' of the private methods out of them =====
/-- a private method of a class that the tables say can be made, by its rows of tables_1 -/
def lw_okq (q : MethodName × Nat) : Prop := (q.1.cls ≠ "java/lang/invoke/MethodHandle" ∧ q.1.cls ≠ "java/lang/invoke/VarHandle") ∧ Cond.instantiable q.1.cls q.2 ∈ tables_1 ∧ Cond.privateMethod q.1 ∈ tables_1 ∧ Cond.instanceMethod q.1 ∈ tables_1
theorem lw_p0 : lw_okq (⟨"TamedClassSet$Rules", "changesForAll", "(I)Z"⟩, 2) := ⟨⟨by decide +kernel, by decide +kernel⟩, List.mem_of_getElem? (i := 144) (by decide +kernel), List.mem_of_getElem? (i := 318) (by decide +kernel), List.mem_of_getElem? (i := 319) (by decide +kernel)⟩
theorem lw_p1 : lw_okq (⟨"TamedClassSet$Rules", "changesImmutable", "(I)Z"⟩, 2) := ⟨⟨by decide +kernel, by decide +kernel⟩, List.mem_of_getElem? (i := 144) (by decide +kernel), List.mem_of_getElem? (i := 334) (by decide +kernel), List.mem_of_getElem? (i := 335) (by decide +kernel)⟩
theorem lw_p2 : lw_okq (⟨"TamedClassSet$Rules", "overridesBadly", "(I)Z"⟩, 2) := ⟨⟨by decide +kernel, by decide +kernel⟩, List.mem_of_getElem? (i := 144) (by decide +kernel), List.mem_of_getElem? (i := 351) (by decide +kernel), List.mem_of_getElem? (i := 352) (by decide +kernel)⟩
theorem lw_p3 : lw_okq (⟨"TamedClassSet$Rules", "agree", "(II)Z"⟩, 2) := ⟨⟨by decide +kernel, by decide +kernel⟩, List.mem_of_getElem? (i := 144) (by decide +kernel), List.mem_of_getElem? (i := 356) (by decide +kernel), List.mem_of_getElem? (i := 357) (by decide +kernel)⟩
theorem lw_p4 : lw_okq (⟨"TamedClassSet$Fitting", "begin", "(I)V"⟩, 9) := ⟨⟨by decide +kernel, by decide +kernel⟩, List.mem_of_getElem? (i := 109) (by decide +kernel), List.mem_of_getElem? (i := 368) (by decide +kernel), List.mem_of_getElem? (i := 369) (by decide +kernel)⟩
theorem lw_p5 : lw_okq (⟨"TamedClassSet$Fitting", "arriveAt", "(I)V"⟩, 9) := ⟨⟨by decide +kernel, by decide +kernel⟩, List.mem_of_getElem? (i := 109) (by decide +kernel), List.mem_of_getElem? (i := 382) (by decide +kernel), List.mem_of_getElem? (i := 383) (by decide +kernel)⟩
theorem lw_p6 : lw_okq (⟨"TamedClassSet$Fitting", "packed", "()I"⟩, 9) := ⟨⟨by decide +kernel, by decide +kernel⟩, List.mem_of_getElem? (i := 109) (by decide +kernel), List.mem_of_getElem? (i := 390) (by decide +kernel), List.mem_of_getElem? (i := 391) (by decide +kernel)⟩
theorem lw_p7 : lw_okq (⟨"TamedClassSet$Fitting", "unpack", "(I)V"⟩, 9) := ⟨⟨by decide +kernel, by decide +kernel⟩, List.mem_of_getElem? (i := 109) (by decide +kernel), List.mem_of_getElem? (i := 394) (by decide +kernel), List.mem_of_getElem? (i := 395) (by decide +kernel)⟩
theorem lw_p8 : lw_okq (⟨"TamedClassSet$Fitting", "apply", "(II)V"⟩, 9) := ⟨⟨by decide +kernel, by decide +kernel⟩, List.mem_of_getElem? (i := 109) (by decide +kernel), List.mem_of_getElem? (i := 398) (by decide +kernel), List.mem_of_getElem? (i := 399) (by decide +kernel)⟩
theorem lw_p9 : lw_okq (⟨"TamedClassSet$Fitting", "put", "(I)V"⟩, 9) := ⟨⟨by decide +kernel, by decide +kernel⟩, List.mem_of_getElem? (i := 109) (by decide +kernel), List.mem_of_getElem? (i := 402) (by decide +kernel), List.mem_of_getElem? (i := 403) (by decide +kernel)⟩
theorem lw_p10 : lw_okq (⟨"TamedClassSet$Fitting", "load", "(I)V"⟩, 9) := ⟨⟨by decide +kernel, by decide +kernel⟩, List.mem_of_getElem? (i := 109) (by decide +kernel), List.mem_of_getElem? (i := 406) (by decide +kernel), List.mem_of_getElem? (i := 407) (by decide +kernel)⟩
theorem lw_p11 : lw_okq (⟨"TamedClassSet$Fitting", "demand", "(Z)V"⟩, 9) := ⟨⟨by decide +kernel, by decide +kernel⟩, List.mem_of_getElem? (i := 109) (by decide +kernel), List.mem_of_getElem? (i := 410) (by decide +kernel), List.mem_of_getElem? (i := 411) (by decide +kernel)⟩
theorem lw_p12 : lw_okq (⟨"TamedClassSet$Fitting", "store", "(I)V"⟩, 9) := ⟨⟨by decide +kernel, by decide +kernel⟩, List.mem_of_getElem? (i := 109) (by decide +kernel), List.mem_of_getElem? (i := 414) (by decide +kernel), List.mem_of_getElem? (i := 415) (by decide +kernel)⟩
theorem lw_p13 : lw_okq (⟨"TamedClassSet$Fitting", "takeAny", "()I"⟩, 9) := ⟨⟨by decide +kernel, by decide +kernel⟩, List.mem_of_getElem? (i := 109) (by decide +kernel), List.mem_of_getElem? (i := 418) (by decide +kernel), List.mem_of_getElem? (i := 419) (by decide +kernel)⟩
theorem lw_p14 : lw_okq (⟨"TamedClassSet$Fitting", "take", "(I)V"⟩, 9) := ⟨⟨by decide +kernel, by decide +kernel⟩, List.mem_of_getElem? (i := 109) (by decide +kernel), List.mem_of_getElem? (i := 422) (by decide +kernel), List.mem_of_getElem? (i := 423) (by decide +kernel)⟩
theorem lw_p15 : lw_okq (⟨"TamedClassSet$Fitting", "make", "(I)V"⟩, 9) := ⟨⟨by decide +kernel, by decide +kernel⟩, List.mem_of_getElem? (i := 109) (by decide +kernel), List.mem_of_getElem? (i := 430) (by decide +kernel), List.mem_of_getElem? (i := 431) (by decide +kernel)⟩
def lw_privs_1 : List (MethodName × Nat) := [(⟨"TamedClassSet$Rules", "changesForAll", "(I)Z"⟩, 2), (⟨"TamedClassSet$Rules", "changesImmutable", "(I)Z"⟩, 2), (⟨"TamedClassSet$Rules", "overridesBadly", "(I)Z"⟩, 2), (⟨"TamedClassSet$Rules", "agree", "(II)Z"⟩, 2), (⟨"TamedClassSet$Fitting", "begin", "(I)V"⟩, 9), (⟨"TamedClassSet$Fitting", "arriveAt", "(I)V"⟩, 9), (⟨"TamedClassSet$Fitting", "packed", "()I"⟩, 9), (⟨"TamedClassSet$Fitting", "unpack", "(I)V"⟩, 9), (⟨"TamedClassSet$Fitting", "apply", "(II)V"⟩, 9), (⟨"TamedClassSet$Fitting", "put", "(I)V"⟩, 9), (⟨"TamedClassSet$Fitting", "load", "(I)V"⟩, 9), (⟨"TamedClassSet$Fitting", "demand", "(Z)V"⟩, 9), (⟨"TamedClassSet$Fitting", "store", "(I)V"⟩, 9), (⟨"TamedClassSet$Fitting", "takeAny", "()I"⟩, 9), (⟨"TamedClassSet$Fitting", "take", "(I)V"⟩, 9), (⟨"TamedClassSet$Fitting", "make", "(I)V"⟩, 9)]
theorem lw_r1 : ∀ q ∈ lw_privs_1, lw_okq q := List.forall_mem_cons.mpr ⟨lw_p0, List.forall_mem_cons.mpr ⟨lw_p1, List.forall_mem_cons.mpr ⟨lw_p2, List.forall_mem_cons.mpr ⟨lw_p3, List.forall_mem_cons.mpr ⟨lw_p4, List.forall_mem_cons.mpr ⟨lw_p5, List.forall_mem_cons.mpr ⟨lw_p6, List.forall_mem_cons.mpr ⟨lw_p7, List.forall_mem_cons.mpr ⟨lw_p8, List.forall_mem_cons.mpr ⟨lw_p9, List.forall_mem_cons.mpr ⟨lw_p10, List.forall_mem_cons.mpr ⟨lw_p11, List.forall_mem_cons.mpr ⟨lw_p12, List.forall_mem_cons.mpr ⟨lw_p13, List.forall_mem_cons.mpr ⟨lw_p14, List.forall_mem_cons.mpr ⟨lw_p15, fun _ h => absurd h List.not_mem_nil⟩⟩⟩⟩⟩⟩⟩⟩⟩⟩⟩⟩⟩⟩⟩⟩
theorem lw_p16 : lw_okq (⟨"TamedClassSet$Fitting", "useField", "(II)V"⟩, 9) := ⟨⟨by decide +kernel, by decide +kernel⟩, List.mem_of_getElem? (i := 109) (by decide +kernel), List.mem_of_getElem? (i := 436) (by decide +kernel), List.mem_of_getElem? (i := 437) (by decide +kernel)⟩
theorem lw_p17 : lw_okq (⟨"TamedClassSet$Fitting", "useStaticField", "(II)V"⟩, 9) := ⟨⟨by decide +kernel, by decide +kernel⟩, List.mem_of_getElem? (i := 109) (by decide +kernel), List.mem_of_getElem? (i := 445) (by decide +kernel), List.mem_of_getElem? (i := 446) (by decide +kernel)⟩
theorem lw_p18 : lw_okq (⟨"TamedClassSet$Fitting", "callMethod", "(I)V"⟩, 9) := ⟨⟨by decide +kernel, by decide +kernel⟩, List.mem_of_getElem? (i := 109) (by decide +kernel), List.mem_of_getElem? (i := 449) (by decide +kernel), List.mem_of_getElem? (i := 450) (by decide +kernel)⟩
theorem lw_p19 : lw_okq (⟨"TamedClassSet$Fitting", "takeReference", "()V"⟩, 9) := ⟨⟨by decide +kernel, by decide +kernel⟩, List.mem_of_getElem? (i := 109) (by decide +kernel), List.mem_of_getElem? (i := 454) (by decide +kernel), List.mem_of_getElem? (i := 455) (by decide +kernel)⟩
theorem lw_p20 : lw_okq (⟨"TamedClassSet$Fitting", "putClass", "(I)V"⟩, 9) := ⟨⟨by decide +kernel, by decide +kernel⟩, List.mem_of_getElem? (i := 109) (by decide +kernel), List.mem_of_getElem? (i := 458) (by decide +kernel), List.mem_of_getElem? (i := 459) (by decide +kernel)⟩
theorem lw_p21 : lw_okq (⟨"TamedClassSet$Fitting", "leave", "(III)V"⟩, 9) := ⟨⟨by decide +kernel, by decide +kernel⟩, List.mem_of_getElem? (i := 109) (by decide +kernel), List.mem_of_getElem? (i := 462) (by decide +kernel), List.mem_of_getElem? (i := 463) (by decide +kernel)⟩
theorem lw_p22 : lw_okq (⟨"TamedClassSet$Rules", "breaks", "(III)Z"⟩, 2) := ⟨⟨by decide +kernel, by decide +kernel⟩, List.mem_of_getElem? (i := 144) (by decide +kernel), List.mem_of_getElem? (i := 466) (by decide +kernel), List.mem_of_getElem? (i := 467) (by decide +kernel)⟩
theorem lw_p23 : lw_okq (⟨"TamedClassSet", "receiverFits", "(II)Z"⟩, 8) := ⟨⟨by decide +kernel, by decide +kernel⟩, List.mem_of_getElem? (i := 13) (by decide +kernel), List.mem_of_getElem? (i := 497) (by decide +kernel), List.mem_of_getElem? (i := 498) (by decide +kernel)⟩
theorem lw_p24 : lw_okq (⟨"TamedClassSet", "argumentFits", "(II)Z"⟩, 8) := ⟨⟨by decide +kernel, by decide +kernel⟩, List.mem_of_getElem? (i := 13) (by decide +kernel), List.mem_of_getElem? (i := 507) (by decide +kernel), List.mem_of_getElem? (i := 508) (by decide +kernel)⟩
theorem lw_p25 : lw_okq (⟨"TamedClassSet$Machine", "enter", "(III)V"⟩, 7) := ⟨⟨by decide +kernel, by decide +kernel⟩, List.mem_of_getElem? (i := 181) (by decide +kernel), List.mem_of_getElem? (i := 515) (by decide +kernel), List.mem_of_getElem? (i := 516) (by decide +kernel)⟩
theorem lw_p26 : lw_okq (⟨"TamedClassSet$Machine", "step", "(LTamedClassSet$Frame;)I"⟩, 7) := ⟨⟨by decide +kernel, by decide +kernel⟩, List.mem_of_getElem? (i := 181) (by decide +kernel), List.mem_of_getElem? (i := 529) (by decide +kernel), List.mem_of_getElem? (i := 530) (by decide +kernel)⟩
theorem lw_p27 : lw_okq (⟨"TamedClassSet$Machine", "combine", "(LTamedClassSet$Frame;I)I"⟩, 7) := ⟨⟨by decide +kernel, by decide +kernel⟩, List.mem_of_getElem? (i := 181) (by decide +kernel), List.mem_of_getElem? (i := 541) (by decide +kernel), List.mem_of_getElem? (i := 542) (by decide +kernel)⟩
theorem lw_p28 : lw_okq (⟨"TamedClassSet$Machine", "make", "(LTamedClassSet$Frame;I)I"⟩, 7) := ⟨⟨by decide +kernel, by decide +kernel⟩, List.mem_of_getElem? (i := 181) (by decide +kernel), List.mem_of_getElem? (i := 545) (by decide +kernel), List.mem_of_getElem? (i := 546) (by decide +kernel)⟩
theorem lw_p29 : lw_okq (⟨"TamedClassSet$Machine", "useField", "(LTamedClassSet$Frame;II)I"⟩, 7) := ⟨⟨by decide +kernel, by decide +kernel⟩, List.mem_of_getElem? (i := 181) (by decide +kernel), List.mem_of_getElem? (i := 562) (by decide +kernel), List.mem_of_getElem? (i := 563) (by decide +kernel)⟩
theorem lw_p30 : lw_okq (⟨"TamedClassSet$Machine", "callMethod", "(LTamedClassSet$Frame;I)I"⟩, 7) := ⟨⟨by decide +kernel, by decide +kernel⟩, List.mem_of_getElem? (i := 181) (by decide +kernel), List.mem_of_getElem? (i := 570) (by decide +kernel), List.mem_of_getElem? (i := 571) (by decide +kernel)⟩
theorem lw_p31 : lw_okq (⟨"TamedClassSet$Machine", "makeCell", "(LTamedClassSet$Frame;)I"⟩, 7) := ⟨⟨by decide +kernel, by decide +kernel⟩, List.mem_of_getElem? (i := 181) (by decide +kernel), List.mem_of_getElem? (i := 574) (by decide +kernel), List.mem_of_getElem? (i := 575) (by decide +kernel)⟩
def lw_privs_2 : List (MethodName × Nat) := [(⟨"TamedClassSet$Fitting", "useField", "(II)V"⟩, 9), (⟨"TamedClassSet$Fitting", "useStaticField", "(II)V"⟩, 9), (⟨"TamedClassSet$Fitting", "callMethod", "(I)V"⟩, 9), (⟨"TamedClassSet$Fitting", "takeReference", "()V"⟩, 9), (⟨"TamedClassSet$Fitting", "putClass", "(I)V"⟩, 9), (⟨"TamedClassSet$Fitting", "leave", "(III)V"⟩, 9), (⟨"TamedClassSet$Rules", "breaks", "(III)Z"⟩, 2), (⟨"TamedClassSet", "receiverFits", "(II)Z"⟩, 8), (⟨"TamedClassSet", "argumentFits", "(II)Z"⟩, 8), (⟨"TamedClassSet$Machine", "enter", "(III)V"⟩, 7), (⟨"TamedClassSet$Machine", "step", "(LTamedClassSet$Frame;)I"⟩, 7), (⟨"TamedClassSet$Machine", "combine", "(LTamedClassSet$Frame;I)I"⟩, 7), (⟨"TamedClassSet$Machine", "make", "(LTamedClassSet$Frame;I)I"⟩, 7), (⟨"TamedClassSet$Machine", "useField", "(LTamedClassSet$Frame;II)I"⟩, 7), (⟨"TamedClassSet$Machine", "callMethod", "(LTamedClassSet$Frame;I)I"⟩, 7), (⟨"TamedClassSet$Machine", "makeCell", "(LTamedClassSet$Frame;)I"⟩, 7)]
theorem lw_r2 : ∀ q ∈ lw_privs_2, lw_okq q := List.forall_mem_cons.mpr ⟨lw_p16, List.forall_mem_cons.mpr ⟨lw_p17, List.forall_mem_cons.mpr ⟨lw_p18, List.forall_mem_cons.mpr ⟨lw_p19, List.forall_mem_cons.mpr ⟨lw_p20, List.forall_mem_cons.mpr ⟨lw_p21, List.forall_mem_cons.mpr ⟨lw_p22, List.forall_mem_cons.mpr ⟨lw_p23, List.forall_mem_cons.mpr ⟨lw_p24, List.forall_mem_cons.mpr ⟨lw_p25, List.forall_mem_cons.mpr ⟨lw_p26, List.forall_mem_cons.mpr ⟨lw_p27, List.forall_mem_cons.mpr ⟨lw_p28, List.forall_mem_cons.mpr ⟨lw_p29, List.forall_mem_cons.mpr ⟨lw_p30, List.forall_mem_cons.mpr ⟨lw_p31, fun _ h => absurd h List.not_mem_nil⟩⟩⟩⟩⟩⟩⟩⟩⟩⟩⟩⟩⟩⟩⟩⟩
theorem lw_p32 : lw_okq (⟨"TamedClassSet$Machine", "useCell", "(LTamedClassSet$Frame;I)I"⟩, 7) := ⟨⟨by decide +kernel, by decide +kernel⟩, List.mem_of_getElem? (i := 181) (by decide +kernel), List.mem_of_getElem? (i := 578) (by decide +kernel), List.mem_of_getElem? (i := 579) (by decide +kernel)⟩
theorem lw_p33 : lw_okq (⟨"TamedClassSet$Machine", "library", "(LTamedClassSet$Frame;I)I"⟩, 7) := ⟨⟨by decide +kernel, by decide +kernel⟩, List.mem_of_getElem? (i := 181) (by decide +kernel), List.mem_of_getElem? (i := 582) (by decide +kernel), List.mem_of_getElem? (i := 583) (by decide +kernel)⟩
theorem lw_p34 : lw_okq (⟨"TamedClassSet$Machine", "leave", "(LTamedClassSet$Frame;)I"⟩, 7) := ⟨⟨by decide +kernel, by decide +kernel⟩, List.mem_of_getElem? (i := 181) (by decide +kernel), List.mem_of_getElem? (i := 595) (by decide +kernel), List.mem_of_getElem? (i := 596) (by decide +kernel)⟩
theorem lw_p35 : lw_okq (⟨"TamedClassSet", "answerOf", "(II)J"⟩, 8) := ⟨⟨by decide +kernel, by decide +kernel⟩, List.mem_of_getElem? (i := 13) (by decide +kernel), List.mem_of_getElem? (i := 608) (by decide +kernel), List.mem_of_getElem? (i := 609) (by decide +kernel)⟩
theorem lw_p36 : lw_okq (⟨"TamedClassSetModel", "isClass", "(I)Z"⟩, 35) := ⟨⟨by decide +kernel, by decide +kernel⟩, List.mem_of_getElem? (i := 636) (by decide +kernel), List.mem_of_getElem? (i := 753) (by decide +kernel), List.mem_of_getElem? (i := 754) (by decide +kernel)⟩
theorem lw_p37 : lw_okq (⟨"TamedClassSetModel", "isType", "(I)Z"⟩, 35) := ⟨⟨by decide +kernel, by decide +kernel⟩, List.mem_of_getElem? (i := 636) (by decide +kernel), List.mem_of_getElem? (i := 761) (by decide +kernel), List.mem_of_getElem? (i := 762) (by decide +kernel)⟩
theorem lw_p38 : lw_okq (⟨"TamedClassSetModel", "methodOf", "(II)I"⟩, 35) := ⟨⟨by decide +kernel, by decide +kernel⟩, List.mem_of_getElem? (i := 636) (by decide +kernel), List.mem_of_getElem? (i := 769) (by decide +kernel), List.mem_of_getElem? (i := 770) (by decide +kernel)⟩
theorem lw_p39 : lw_okq (⟨"TamedClassSetModel", "isMethod", "(I)Z"⟩, 35) := ⟨⟨by decide +kernel, by decide +kernel⟩, List.mem_of_getElem? (i := 636) (by decide +kernel), List.mem_of_getElem? (i := 777) (by decide +kernel), List.mem_of_getElem? (i := 778) (by decide +kernel)⟩
theorem lw_p40 : lw_okq (⟨"TamedClassSetModel", "broken", "()I"⟩, 35) := ⟨⟨by decide +kernel, by decide +kernel⟩, List.mem_of_getElem? (i := 636) (by decide +kernel), List.mem_of_getElem? (i := 789) (by decide +kernel), List.mem_of_getElem? (i := 790) (by decide +kernel)⟩
theorem lw_p41 : lw_okq (⟨"TamedClassSetModel", "looseStatic", "(I)Z"⟩, 35) := ⟨⟨by decide +kernel, by decide +kernel⟩, List.mem_of_getElem? (i := 636) (by decide +kernel), List.mem_of_getElem? (i := 793) (by decide +kernel), List.mem_of_getElem? (i := 794) (by decide +kernel)⟩
theorem lw_p42 : lw_okq (⟨"TamedClassSetModel", "isStatic", "(I)Z"⟩, 35) := ⟨⟨by decide +kernel, by decide +kernel⟩, List.mem_of_getElem? (i := 636) (by decide +kernel), List.mem_of_getElem? (i := 797) (by decide +kernel), List.mem_of_getElem? (i := 798) (by decide +kernel)⟩
theorem lw_p43 : lw_okq (⟨"TamedClassSetModel", "isFinal", "(I)Z"⟩, 35) := ⟨⟨by decide +kernel, by decide +kernel⟩, List.mem_of_getElem? (i := 636) (by decide +kernel), List.mem_of_getElem? (i := 801) (by decide +kernel), List.mem_of_getElem? (i := 802) (by decide +kernel)⟩
theorem lw_p44 : lw_okq (⟨"TamedClassSetModel", "powerless", "(I)Z"⟩, 35) := ⟨⟨by decide +kernel, by decide +kernel⟩, List.mem_of_getElem? (i := 636) (by decide +kernel), List.mem_of_getElem? (i := 805) (by decide +kernel), List.mem_of_getElem? (i := 806) (by decide +kernel)⟩
theorem lw_p45 : lw_okq (⟨"TamedClassSetModel", "marked", "(II)Z"⟩, 35) := ⟨⟨by decide +kernel, by decide +kernel⟩, List.mem_of_getElem? (i := 636) (by decide +kernel), List.mem_of_getElem? (i := 809) (by decide +kernel), List.mem_of_getElem? (i := 810) (by decide +kernel)⟩
theorem lw_p46 : lw_okq (⟨"TamedClassSetModel", "inLine", "(II)Z"⟩, 35) := ⟨⟨by decide +kernel, by decide +kernel⟩, List.mem_of_getElem? (i := 636) (by decide +kernel), List.mem_of_getElem? (i := 813) (by decide +kernel), List.mem_of_getElem? (i := 814) (by decide +kernel)⟩
theorem lw_p47 : lw_okq (⟨"TamedClassSetModel", "looseField", "(I)Z"⟩, 35) := ⟨⟨by decide +kernel, by decide +kernel⟩, List.mem_of_getElem? (i := 636) (by decide +kernel), List.mem_of_getElem? (i := 817) (by decide +kernel), List.mem_of_getElem? (i := 818) (by decide +kernel)⟩
def lw_privs_3 : List (MethodName × Nat) := [(⟨"TamedClassSet$Machine", "useCell", "(LTamedClassSet$Frame;I)I"⟩, 7), (⟨"TamedClassSet$Machine", "library", "(LTamedClassSet$Frame;I)I"⟩, 7), (⟨"TamedClassSet$Machine", "leave", "(LTamedClassSet$Frame;)I"⟩, 7), (⟨"TamedClassSet", "answerOf", "(II)J"⟩, 8), (⟨"TamedClassSetModel", "isClass", "(I)Z"⟩, 35), (⟨"TamedClassSetModel", "isType", "(I)Z"⟩, 35), (⟨"TamedClassSetModel", "methodOf", "(II)I"⟩, 35), (⟨"TamedClassSetModel", "isMethod", "(I)Z"⟩, 35), (⟨"TamedClassSetModel", "broken", "()I"⟩, 35), (⟨"TamedClassSetModel", "looseStatic", "(I)Z"⟩, 35), (⟨"TamedClassSetModel", "isStatic", "(I)Z"⟩, 35), (⟨"TamedClassSetModel", "isFinal", "(I)Z"⟩, 35), (⟨"TamedClassSetModel", "powerless", "(I)Z"⟩, 35), (⟨"TamedClassSetModel", "marked", "(II)Z"⟩, 35), (⟨"TamedClassSetModel", "inLine", "(II)Z"⟩, 35), (⟨"TamedClassSetModel", "looseField", "(I)Z"⟩, 35)]
theorem lw_r3 : ∀ q ∈ lw_privs_3, lw_okq q := List.forall_mem_cons.mpr ⟨lw_p32, List.forall_mem_cons.mpr ⟨lw_p33, List.forall_mem_cons.mpr ⟨lw_p34, List.forall_mem_cons.mpr ⟨lw_p35, List.forall_mem_cons.mpr ⟨lw_p36, List.forall_mem_cons.mpr ⟨lw_p37, List.forall_mem_cons.mpr ⟨lw_p38, List.forall_mem_cons.mpr ⟨lw_p39, List.forall_mem_cons.mpr ⟨lw_p40, List.forall_mem_cons.mpr ⟨lw_p41, List.forall_mem_cons.mpr ⟨lw_p42, List.forall_mem_cons.mpr ⟨lw_p43, List.forall_mem_cons.mpr ⟨lw_p44, List.forall_mem_cons.mpr ⟨lw_p45, List.forall_mem_cons.mpr ⟨lw_p46, List.forall_mem_cons.mpr ⟨lw_p47, fun _ h => absurd h List.not_mem_nil⟩⟩⟩⟩⟩⟩⟩⟩⟩⟩⟩⟩⟩⟩⟩⟩
theorem lw_p48 : lw_okq (⟨"TamedClassSetModel", "owns", "(II)Z"⟩, 35) := ⟨⟨by decide +kernel, by decide +kernel⟩, List.mem_of_getElem? (i := 636) (by decide +kernel), List.mem_of_getElem? (i := 821) (by decide +kernel), List.mem_of_getElem? (i := 822) (by decide +kernel)⟩
theorem lw_p49 : lw_okq (⟨"TamedClassSetModel", "immutable", "(I)Z"⟩, 35) := ⟨⟨by decide +kernel, by decide +kernel⟩, List.mem_of_getElem? (i := 636) (by decide +kernel), List.mem_of_getElem? (i := 825) (by decide +kernel), List.mem_of_getElem? (i := 826) (by decide +kernel)⟩
theorem lw_p50 : lw_okq (⟨"TamedClassSetModel", "unlike", "(I)Z"⟩, 35) := ⟨⟨by decide +kernel, by decide +kernel⟩, List.mem_of_getElem? (i := 636) (by decide +kernel), List.mem_of_getElem? (i := 829) (by decide +kernel), List.mem_of_getElem? (i := 830) (by decide +kernel)⟩
theorem lw_p51 : lw_okq (⟨"TamedClassSetModel", "fitsTypes", "(I)Z"⟩, 35) := ⟨⟨by decide +kernel, by decide +kernel⟩, List.mem_of_getElem? (i := 636) (by decide +kernel), List.mem_of_getElem? (i := 833) (by decide +kernel), List.mem_of_getElem? (i := 834) (by decide +kernel)⟩
theorem lw_p52 : lw_okq (⟨"TamedClassSetModel", "led", "(III)Z"⟩, 35) := ⟨⟨by decide +kernel, by decide +kernel⟩, List.mem_of_getElem? (i := 636) (by decide +kernel), List.mem_of_getElem? (i := 837) (by decide +kernel), List.mem_of_getElem? (i := 838) (by decide +kernel)⟩
theorem lw_p53 : lw_okq (⟨"TamedClassSetModel", "onward", "(II)Z"⟩, 35) := ⟨⟨by decide +kernel, by decide +kernel⟩, List.mem_of_getElem? (i := 636) (by decide +kernel), List.mem_of_getElem? (i := 841) (by decide +kernel), List.mem_of_getElem? (i := 842) (by decide +kernel)⟩
theorem lw_p54 : lw_okq (⟨"TamedClassSetModel", "after", "(II)I"⟩, 35) := ⟨⟨by decide +kernel, by decide +kernel⟩, List.mem_of_getElem? (i := 636) (by decide +kernel), List.mem_of_getElem? (i := 845) (by decide +kernel), List.mem_of_getElem? (i := 846) (by decide +kernel)⟩
theorem lw_p55 : lw_okq (⟨"TamedClassSetModel", "loaded", "(II)I"⟩, 35) := ⟨⟨by decide +kernel, by decide +kernel⟩, List.mem_of_getElem? (i := 636) (by decide +kernel), List.mem_of_getElem? (i := 855) (by decide +kernel), List.mem_of_getElem? (i := 856) (by decide +kernel)⟩
theorem lw_p56 : lw_okq (⟨"TamedClassSetModel", "stored", "(II)I"⟩, 35) := ⟨⟨by decide +kernel, by decide +kernel⟩, List.mem_of_getElem? (i := 636) (by decide +kernel), List.mem_of_getElem? (i := 859) (by decide +kernel), List.mem_of_getElem? (i := 860) (by decide +kernel)⟩
theorem lw_p57 : lw_okq (⟨"TamedClassSetModel", "take", "(II)I"⟩, 35) := ⟨⟨by decide +kernel, by decide +kernel⟩, List.mem_of_getElem? (i := 636) (by decide +kernel), List.mem_of_getElem? (i := 869) (by decide +kernel), List.mem_of_getElem? (i := 870) (by decide +kernel)⟩
theorem lw_p58 : lw_okq (⟨"TamedClassSetModel", "fits", "(II)Z"⟩, 35) := ⟨⟨by decide +kernel, by decide +kernel⟩, List.mem_of_getElem? (i := 636) (by decide +kernel), List.mem_of_getElem? (i := 873) (by decide +kernel), List.mem_of_getElem? (i := 874) (by decide +kernel)⟩
theorem lw_p59 : lw_okq (⟨"TamedClassSetModel", "makes", "(II)I"⟩, 35) := ⟨⟨by decide +kernel, by decide +kernel⟩, List.mem_of_getElem? (i := 636) (by decide +kernel), List.mem_of_getElem? (i := 877) (by decide +kernel), List.mem_of_getElem? (i := 878) (by decide +kernel)⟩
theorem lw_p60 : lw_okq (⟨"TamedClassSetModel", "fielded", "(III)I"⟩, 35) := ⟨⟨by decide +kernel, by decide +kernel⟩, List.mem_of_getElem? (i := 636) (by decide +kernel), List.mem_of_getElem? (i := 881) (by decide +kernel), List.mem_of_getElem? (i := 882) (by decide +kernel)⟩
theorem lw_p61 : lw_okq (⟨"TamedClassSetModel", "isField", "(IZ)Z"⟩, 35) := ⟨⟨by decide +kernel, by decide +kernel⟩, List.mem_of_getElem? (i := 636) (by decide +kernel), List.mem_of_getElem? (i := 885) (by decide +kernel), List.mem_of_getElem? (i := 886) (by decide +kernel)⟩
theorem lw_p62 : lw_okq (⟨"TamedClassSetModel", "calls", "(II)I"⟩, 35) := ⟨⟨by decide +kernel, by decide +kernel⟩, List.mem_of_getElem? (i := 636) (by decide +kernel), List.mem_of_getElem? (i := 889) (by decide +kernel), List.mem_of_getElem? (i := 890) (by decide +kernel)⟩
theorem lw_p63 : lw_okq (⟨"TamedClassSetModel", "takeThing", "(I)I"⟩, 35) := ⟨⟨by decide +kernel, by decide +kernel⟩, List.mem_of_getElem? (i := 636) (by decide +kernel), List.mem_of_getElem? (i := 893) (by decide +kernel), List.mem_of_getElem? (i := 894) (by decide +kernel)⟩
def lw_privs_4 : List (MethodName × Nat) := [(⟨"TamedClassSetModel", "owns", "(II)Z"⟩, 35), (⟨"TamedClassSetModel", "immutable", "(I)Z"⟩, 35), (⟨"TamedClassSetModel", "unlike", "(I)Z"⟩, 35), (⟨"TamedClassSetModel", "fitsTypes", "(I)Z"⟩, 35), (⟨"TamedClassSetModel", "led", "(III)Z"⟩, 35), (⟨"TamedClassSetModel", "onward", "(II)Z"⟩, 35), (⟨"TamedClassSetModel", "after", "(II)I"⟩, 35), (⟨"TamedClassSetModel", "loaded", "(II)I"⟩, 35), (⟨"TamedClassSetModel", "stored", "(II)I"⟩, 35), (⟨"TamedClassSetModel", "take", "(II)I"⟩, 35), (⟨"TamedClassSetModel", "fits", "(II)Z"⟩, 35), (⟨"TamedClassSetModel", "makes", "(II)I"⟩, 35), (⟨"TamedClassSetModel", "fielded", "(III)I"⟩, 35), (⟨"TamedClassSetModel", "isField", "(IZ)Z"⟩, 35), (⟨"TamedClassSetModel", "calls", "(II)I"⟩, 35), (⟨"TamedClassSetModel", "takeThing", "(I)I"⟩, 35)]
theorem lw_r4 : ∀ q ∈ lw_privs_4, lw_okq q := List.forall_mem_cons.mpr ⟨lw_p48, List.forall_mem_cons.mpr ⟨lw_p49, List.forall_mem_cons.mpr ⟨lw_p50, List.forall_mem_cons.mpr ⟨lw_p51, List.forall_mem_cons.mpr ⟨lw_p52, List.forall_mem_cons.mpr ⟨lw_p53, List.forall_mem_cons.mpr ⟨lw_p54, List.forall_mem_cons.mpr ⟨lw_p55, List.forall_mem_cons.mpr ⟨lw_p56, List.forall_mem_cons.mpr ⟨lw_p57, List.forall_mem_cons.mpr ⟨lw_p58, List.forall_mem_cons.mpr ⟨lw_p59, List.forall_mem_cons.mpr ⟨lw_p60, List.forall_mem_cons.mpr ⟨lw_p61, List.forall_mem_cons.mpr ⟨lw_p62, List.forall_mem_cons.mpr ⟨lw_p63, fun _ h => absurd h List.not_mem_nil⟩⟩⟩⟩⟩⟩⟩⟩⟩⟩⟩⟩⟩⟩⟩⟩
theorem lw_p64 : lw_okq (⟨"TamedClassSetModel", "wild", "(II)Z"⟩, 35) := ⟨⟨by decide +kernel, by decide +kernel⟩, List.mem_of_getElem? (i := 636) (by decide +kernel), List.mem_of_getElem? (i := 897) (by decide +kernel), List.mem_of_getElem? (i := 898) (by decide +kernel)⟩
theorem lw_p65 : lw_okq (⟨"TamedClassSetModel", "refuses", "(III)Z"⟩, 35) := ⟨⟨by decide +kernel, by decide +kernel⟩, List.mem_of_getElem? (i := 636) (by decide +kernel), List.mem_of_getElem? (i := 909) (by decide +kernel), List.mem_of_getElem? (i := 910) (by decide +kernel)⟩
theorem lw_p66 : lw_okq (⟨"TamedClassSetModel", "holds", "(I)Z"⟩, 35) := ⟨⟨by decide +kernel, by decide +kernel⟩, List.mem_of_getElem? (i := 636) (by decide +kernel), List.mem_of_getElem? (i := 913) (by decide +kernel), List.mem_of_getElem? (i := 914) (by decide +kernel)⟩
theorem lw_p67 : lw_okq (⟨"TamedClassSetModel", "chosen", "(II)I"⟩, 35) := ⟨⟨by decide +kernel, by decide +kernel⟩, List.mem_of_getElem? (i := 636) (by decide +kernel), List.mem_of_getElem? (i := 918) (by decide +kernel), List.mem_of_getElem? (i := 919) (by decide +kernel)⟩
theorem lw_p68 : lw_okq (⟨"TamedClassSetModel", "enter", "(III)V"⟩, 35) := ⟨⟨by decide +kernel, by decide +kernel⟩, List.mem_of_getElem? (i := 636) (by decide +kernel), List.mem_of_getElem? (i := 922) (by decide +kernel), List.mem_of_getElem? (i := 923) (by decide +kernel)⟩
theorem lw_p69 : lw_okq (⟨"TamedClassSetModel", "once", "()I"⟩, 35) := ⟨⟨by decide +kernel, by decide +kernel⟩, List.mem_of_getElem? (i := 636) (by decide +kernel), List.mem_of_getElem? (i := 927) (by decide +kernel), List.mem_of_getElem? (i := 928) (by decide +kernel)⟩
theorem lw_p70 : lw_okq (⟨"TamedClassSetModel", "make", "(I)I"⟩, 35) := ⟨⟨by decide +kernel, by decide +kernel⟩, List.mem_of_getElem? (i := 636) (by decide +kernel), List.mem_of_getElem? (i := 931) (by decide +kernel), List.mem_of_getElem? (i := 932) (by decide +kernel)⟩
theorem lw_p71 : lw_okq (⟨"TamedClassSetModel", "pop", "()I"⟩, 35) := ⟨⟨by decide +kernel, by decide +kernel⟩, List.mem_of_getElem? (i := 636) (by decide +kernel), List.mem_of_getElem? (i := 935) (by decide +kernel), List.mem_of_getElem? (i := 936) (by decide +kernel)⟩
theorem lw_p72 : lw_okq (⟨"TamedClassSetModel", "push", "(I)V"⟩, 35) := ⟨⟨by decide +kernel, by decide +kernel⟩, List.mem_of_getElem? (i := 636) (by decide +kernel), List.mem_of_getElem? (i := 939) (by decide +kernel), List.mem_of_getElem? (i := 940) (by decide +kernel)⟩
theorem lw_p73 : lw_okq (⟨"TamedClassSetModel", "slotted", "(ZI)I"⟩, 35) := ⟨⟨by decide +kernel, by decide +kernel⟩, List.mem_of_getElem? (i := 636) (by decide +kernel), List.mem_of_getElem? (i := 943) (by decide +kernel), List.mem_of_getElem? (i := 944) (by decide +kernel)⟩
theorem lw_p74 : lw_okq (⟨"TamedClassSetModel", "call", "(I)I"⟩, 35) := ⟨⟨by decide +kernel, by decide +kernel⟩, List.mem_of_getElem? (i := 636) (by decide +kernel), List.mem_of_getElem? (i := 947) (by decide +kernel), List.mem_of_getElem? (i := 948) (by decide +kernel)⟩
theorem lw_p75 : lw_okq (⟨"TamedClassSetModel", "sum", "(I)V"⟩, 35) := ⟨⟨by decide +kernel, by decide +kernel⟩, List.mem_of_getElem? (i := 636) (by decide +kernel), List.mem_of_getElem? (i := 951) (by decide +kernel), List.mem_of_getElem? (i := 952) (by decide +kernel)⟩
theorem lw_p76 : lw_okq (⟨"TamedClassSetModel", "library", "(I)V"⟩, 35) := ⟨⟨by decide +kernel, by decide +kernel⟩, List.mem_of_getElem? (i := 636) (by decide +kernel), List.mem_of_getElem? (i := 955) (by decide +kernel), List.mem_of_getElem? (i := 956) (by decide +kernel)⟩
theorem lw_p77 : lw_okq (⟨"TamedClassSetModel", "back", "()V"⟩, 35) := ⟨⟨by decide +kernel, by decide +kernel⟩, List.mem_of_getElem? (i := 636) (by decide +kernel), List.mem_of_getElem? (i := 962) (by decide +kernel), List.mem_of_getElem? (i := 963) (by decide +kernel)⟩
theorem lw_p78 : lw_okq (⟨"TamedClassSetModel", "shown", "(I)J"⟩, 35) := ⟨⟨by decide +kernel, by decide +kernel⟩, List.mem_of_getElem? (i := 636) (by decide +kernel), List.mem_of_getElem? (i := 967) (by decide +kernel), List.mem_of_getElem? (i := 968) (by decide +kernel)⟩
def lw_privs_5 : List (MethodName × Nat) := [(⟨"TamedClassSetModel", "wild", "(II)Z"⟩, 35), (⟨"TamedClassSetModel", "refuses", "(III)Z"⟩, 35), (⟨"TamedClassSetModel", "holds", "(I)Z"⟩, 35), (⟨"TamedClassSetModel", "chosen", "(II)I"⟩, 35), (⟨"TamedClassSetModel", "enter", "(III)V"⟩, 35), (⟨"TamedClassSetModel", "once", "()I"⟩, 35), (⟨"TamedClassSetModel", "make", "(I)I"⟩, 35), (⟨"TamedClassSetModel", "pop", "()I"⟩, 35), (⟨"TamedClassSetModel", "push", "(I)V"⟩, 35), (⟨"TamedClassSetModel", "slotted", "(ZI)I"⟩, 35), (⟨"TamedClassSetModel", "call", "(I)I"⟩, 35), (⟨"TamedClassSetModel", "sum", "(I)V"⟩, 35), (⟨"TamedClassSetModel", "library", "(I)V"⟩, 35), (⟨"TamedClassSetModel", "back", "()V"⟩, 35), (⟨"TamedClassSetModel", "shown", "(I)J"⟩, 35)]
theorem lw_r5 : ∀ q ∈ lw_privs_5, lw_okq q := List.forall_mem_cons.mpr ⟨lw_p64, List.forall_mem_cons.mpr ⟨lw_p65, List.forall_mem_cons.mpr ⟨lw_p66, List.forall_mem_cons.mpr ⟨lw_p67, List.forall_mem_cons.mpr ⟨lw_p68, List.forall_mem_cons.mpr ⟨lw_p69, List.forall_mem_cons.mpr ⟨lw_p70, List.forall_mem_cons.mpr ⟨lw_p71, List.forall_mem_cons.mpr ⟨lw_p72, List.forall_mem_cons.mpr ⟨lw_p73, List.forall_mem_cons.mpr ⟨lw_p74, List.forall_mem_cons.mpr ⟨lw_p75, List.forall_mem_cons.mpr ⟨lw_p76, List.forall_mem_cons.mpr ⟨lw_p77, List.forall_mem_cons.mpr ⟨lw_p78, fun _ h => absurd h List.not_mem_nil⟩⟩⟩⟩⟩⟩⟩⟩⟩⟩⟩⟩⟩⟩⟩
def lw_privs : List (MethodName × Nat) := lw_privs_1 ++ (lw_privs_2 ++ (lw_privs_3 ++ (lw_privs_4 ++ (lw_privs_5))))
def lw_tbl : List Cond := k2_sels lw_privs ++ tables_1
theorem lw_privs_ok : ∀ q ∈ lw_privs, lw_okq q := by
  show ∀ q ∈ lw_privs_1 ++ (lw_privs_2 ++ (lw_privs_3 ++ (lw_privs_4 ++ (lw_privs_5)))), lw_okq q
  exact List.forall_mem_append.mpr ⟨lw_r1, List.forall_mem_append.mpr ⟨lw_r2, List.forall_mem_append.mpr ⟨lw_r3, List.forall_mem_append.mpr ⟨lw_r4, lw_r5⟩⟩⟩⟩
end
section
def R_X : String := "TamedClassSet"
def F_X : u_T := fun k => match k with
  | 0 => ("TamedClassSet", "plan", "LTamedClassSet$Plan;", true)
  | 1 => ("TamedClassSet", "fitting", "LTamedClassSet$Fitting;", true)
  | 2 => ("TamedClassSet", "rules", "LTamedClassSet$Rules;", true)
  | 3 => ("TamedClassSet", "heap", "LTamedClassSet$Heap;", true)
  | 4 => ("TamedClassSet", "machine", "LTamedClassSet$Machine;", true)
  | 5 => ("TamedClassSet", "sealed", "Z", false)
  | 6 => ("TamedClassSet", "runCount", "I", false)
  | _ => ("TamedClassSet", "latestSteps", "I", false)
def t_X : Nat → FieldType := fun k => match k with
  | 0 => .object "TamedClassSet$Plan"
  | 1 => .object "TamedClassSet$Fitting"
  | 2 => .object "TamedClassSet$Rules"
  | 3 => .object "TamedClassSet$Heap"
  | 4 => .object "TamedClassSet$Machine"
  | 5 => .boolean
  | 6 => .int
  | _ => .int
theorem n_X : ∀ a, a < 8 → ∀ b, b < 8 → a ≠ b → (F_X a).2.1 ≠ (F_X b).2.1 := by decide +kernel
theorem k_X : ∀ k, k < 8 → parseFieldDescriptor (F_X k).2.2.1 = some (t_X k) := by decide +kernel
def R_Plan : String := "TamedClassSet$Plan"
def F_Plan : u_T := fun k => match k with
  | 0 => ("TamedClassSet$Plan", "classCount", "I", false)
  | 1 => ("TamedClassSet$Plan", "fieldCount", "I", false)
  | 2 => ("TamedClassSet$Plan", "methodCount", "I", false)
  | 3 => ("TamedClassSet$Plan", "lines", "[I", true)
  | 4 => ("TamedClassSet$Plan", "lineMarks", "[I", true)
  | 5 => ("TamedClassSet$Plan", "fieldClass", "[I", true)
  | 6 => ("TamedClassSet$Plan", "fieldHow", "[I", true)
  | 7 => ("TamedClassSet$Plan", "fieldType", "[I", true)
  | 8 => ("TamedClassSet$Plan", "methodClass", "[I", true)
  | 9 => ("TamedClassSet$Plan", "methodHow", "[I", true)
  | 10 => ("TamedClassSet$Plan", "methodName", "[I", true)
  | 11 => ("TamedClassSet$Plan", "methodParam", "[I", true)
  | 12 => ("TamedClassSet$Plan", "methodResult", "[I", true)
  | 13 => ("TamedClassSet$Plan", "codeLength", "[I", true)
  | 14 => ("TamedClassSet$Plan", "ops", "[I", true)
  | _ => ("TamedClassSet$Plan", "operands", "[I", true)
def t_Plan : Nat → FieldType := fun k => match k with
  | 0 => .int
  | 1 => .int
  | 2 => .int
  | 3 => .array .int
  | 4 => .array .int
  | 5 => .array .int
  | 6 => .array .int
  | 7 => .array .int
  | 8 => .array .int
  | 9 => .array .int
  | 10 => .array .int
  | 11 => .array .int
  | 12 => .array .int
  | 13 => .array .int
  | 14 => .array .int
  | _ => .array .int
theorem n_Plan : ∀ a, a < 16 → ∀ b, b < 16 → a ≠ b → (F_Plan a).2.1 ≠ (F_Plan b).2.1 := by decide +kernel
theorem k_Plan : ∀ k, k < 16 → parseFieldDescriptor (F_Plan k).2.2.1 = some (t_Plan k) := by decide +kernel
def R_Fitting : String := "TamedClassSet$Fitting"
def F_Fitting : u_T := fun k => match k with
  | 0 => ("TamedClassSet$Fitting", "before", "[I", true)
  | 1 => ("TamedClassSet$Fitting", "plan", "LTamedClassSet$Plan;", true)
  | 2 => ("TamedClassSet$Fitting", "stack", "[I", true)
  | 3 => ("TamedClassSet$Fitting", "locals", "[I", true)
  | 4 => ("TamedClassSet$Fitting", "reached", "[I", true)
  | 5 => ("TamedClassSet$Fitting", "reachedCount", "I", false)
  | 6 => ("TamedClassSet$Fitting", "depth", "I", false)
  | 7 => ("TamedClassSet$Fitting", "method", "I", false)
  | _ => ("TamedClassSet$Fitting", "good", "Z", false)
def t_Fitting : Nat → FieldType := fun k => match k with
  | 0 => .array .int
  | 1 => .object "TamedClassSet$Plan"
  | 2 => .array .int
  | 3 => .array .int
  | 4 => .array .int
  | 5 => .int
  | 6 => .int
  | 7 => .int
  | _ => .boolean
theorem n_Fitting : ∀ a, a < 9 → ∀ b, b < 9 → a ≠ b → (F_Fitting a).2.1 ≠ (F_Fitting b).2.1 := by decide +kernel
theorem k_Fitting : ∀ k, k < 9 → parseFieldDescriptor (F_Fitting k).2.2.1 = some (t_Fitting k) := by decide +kernel
def R_Rules : String := "TamedClassSet$Rules"
def F_Rules : u_T := fun k => match k with
  | 0 => ("TamedClassSet$Rules", "plan", "LTamedClassSet$Plan;", true)
  | _ => ("TamedClassSet$Rules", "fitting", "LTamedClassSet$Fitting;", true)
def t_Rules : Nat → FieldType := fun k => match k with
  | 0 => .object "TamedClassSet$Plan"
  | _ => .object "TamedClassSet$Fitting"
theorem n_Rules : ∀ a, a < 2 → ∀ b, b < 2 → a ≠ b → (F_Rules a).2.1 ≠ (F_Rules b).2.1 := by decide +kernel
theorem k_Rules : ∀ k, k < 2 → parseFieldDescriptor (F_Rules k).2.2.1 = some (t_Rules k) := by decide +kernel
def R_Heap : String := "TamedClassSet$Heap"
def F_Heap : u_T := fun k => match k with
  | 0 => ("TamedClassSet$Heap", "types", "[I", true)
  | 1 => ("TamedClassSet$Heap", "slots", "[I", true)
  | 2 => ("TamedClassSet$Heap", "handles", "[I", true)
  | 3 => ("TamedClassSet$Heap", "made", "I", false)
  | _ => ("TamedClassSet$Heap", "handleCount", "I", false)
def t_Heap : Nat → FieldType := fun k => match k with
  | 0 => .array .int
  | 1 => .array .int
  | 2 => .array .int
  | 3 => .int
  | _ => .int
theorem n_Heap : ∀ a, a < 5 → ∀ b, b < 5 → a ≠ b → (F_Heap a).2.1 ≠ (F_Heap b).2.1 := by decide +kernel
theorem k_Heap : ∀ k, k < 5 → parseFieldDescriptor (F_Heap k).2.2.1 = some (t_Heap k) := by decide +kernel
def R_Machine : String := "TamedClassSet$Machine"
def F_Machine : u_T := fun k => match k with
  | 0 => ("TamedClassSet$Machine", "stepCount", "I", false)
  | 1 => ("TamedClassSet$Machine", "outcome", "I", false)
  | 2 => ("TamedClassSet$Machine", "plan", "LTamedClassSet$Plan;", true)
  | 3 => ("TamedClassSet$Machine", "heap", "LTamedClassSet$Heap;", true)
  | 4 => ("TamedClassSet$Machine", "frames", "[LTamedClassSet$Frame;", true)
  | 5 => ("TamedClassSet$Machine", "underWay", "I", false)
  | _ => ("TamedClassSet$Machine", "madeCount", "I", false)
def t_Machine : Nat → FieldType := fun k => match k with
  | 0 => .int
  | 1 => .int
  | 2 => .object "TamedClassSet$Plan"
  | 3 => .object "TamedClassSet$Heap"
  | 4 => .array (.object "TamedClassSet$Frame")
  | 5 => .int
  | _ => .int
theorem n_Machine : ∀ a, a < 7 → ∀ b, b < 7 → a ≠ b → (F_Machine a).2.1 ≠ (F_Machine b).2.1 := by decide +kernel
theorem k_Machine : ∀ k, k < 7 → parseFieldDescriptor (F_Machine k).2.2.1 = some (t_Machine k) := by decide +kernel
def R_Frame : String := "TamedClassSet$Frame"
def F_Frame : u_T := fun k => match k with
  | 0 => ("TamedClassSet$Frame", "method", "I", false)
  | 1 => ("TamedClassSet$Frame", "next", "I", false)
  | 2 => ("TamedClassSet$Frame", "locals", "[I", true)
  | 3 => ("TamedClassSet$Frame", "stack", "[I", true)
  | _ => ("TamedClassSet$Frame", "depth", "I", false)
def t_Frame : Nat → FieldType := fun k => match k with
  | 0 => .int
  | 1 => .int
  | 2 => .array .int
  | 3 => .array .int
  | _ => .int
theorem n_Frame : ∀ a, a < 5 → ∀ b, b < 5 → a ≠ b → (F_Frame a).2.1 ≠ (F_Frame b).2.1 := by decide +kernel
theorem k_Frame : ∀ k, k < 5 → parseFieldDescriptor (F_Frame k).2.2.1 = some (t_Frame k) := by decide +kernel
def R_Mo : String := "TamedClassSetModel"
def F_Mo : u_T := fun k => match k with
  | 0 => ("TamedClassSetModel", "classes", "I", false)
  | 1 => ("TamedClassSetModel", "parent", "[I", true)
  | 2 => ("TamedClassSetModel", "marks", "[I", true)
  | 3 => ("TamedClassSetModel", "fields", "I", false)
  | 4 => ("TamedClassSetModel", "fieldClass", "[I", true)
  | 5 => ("TamedClassSetModel", "fieldHow", "[I", true)
  | 6 => ("TamedClassSetModel", "fieldType", "[I", true)
  | 7 => ("TamedClassSetModel", "methods", "I", false)
  | 8 => ("TamedClassSetModel", "methodClass", "[I", true)
  | 9 => ("TamedClassSetModel", "methodHow", "[I", true)
  | 10 => ("TamedClassSetModel", "methodName", "[I", true)
  | 11 => ("TamedClassSetModel", "methodParam", "[I", true)
  | 12 => ("TamedClassSetModel", "methodResult", "[I", true)
  | 13 => ("TamedClassSetModel", "length", "[I", true)
  | 14 => ("TamedClassSetModel", "code", "[I", true)
  | 15 => ("TamedClassSetModel", "number", "[I", true)
  | 16 => ("TamedClassSetModel", "sealed", "Z", false)
  | 17 => ("TamedClassSetModel", "state", "[I", true)
  | 18 => ("TamedClassSetModel", "reached", "[Z", true)
  | 19 => ("TamedClassSetModel", "more", "Z", false)
  | 20 => ("TamedClassSetModel", "objects", "I", false)
  | 21 => ("TamedClassSetModel", "kind", "[I", true)
  | 22 => ("TamedClassSetModel", "slot", "[I", true)
  | 23 => ("TamedClassSetModel", "handles", "I", false)
  | 24 => ("TamedClassSetModel", "handle", "[I", true)
  | 25 => ("TamedClassSetModel", "runs", "I", false)
  | 26 => ("TamedClassSetModel", "steps", "I", false)
  | 27 => ("TamedClassSetModel", "made", "I", false)
  | 28 => ("TamedClassSetModel", "under", "I", false)
  | 29 => ("TamedClassSetModel", "doing", "[I", true)
  | 30 => ("TamedClassSetModel", "at", "[I", true)
  | 31 => ("TamedClassSetModel", "height", "[I", true)
  | 32 => ("TamedClassSetModel", "stack", "[I", true)
  | 33 => ("TamedClassSetModel", "local", "[I", true)
  | _ => ("TamedClassSetModel", "result", "I", false)
def t_Mo : Nat → FieldType := fun k => match k with
  | 0 => .int
  | 1 => .array .int
  | 2 => .array .int
  | 3 => .int
  | 4 => .array .int
  | 5 => .array .int
  | 6 => .array .int
  | 7 => .int
  | 8 => .array .int
  | 9 => .array .int
  | 10 => .array .int
  | 11 => .array .int
  | 12 => .array .int
  | 13 => .array .int
  | 14 => .array .int
  | 15 => .array .int
  | 16 => .boolean
  | 17 => .array .int
  | 18 => .array .boolean
  | 19 => .boolean
  | 20 => .int
  | 21 => .array .int
  | 22 => .array .int
  | 23 => .int
  | 24 => .array .int
  | 25 => .int
  | 26 => .int
  | 27 => .int
  | 28 => .int
  | 29 => .array .int
  | 30 => .array .int
  | 31 => .array .int
  | 32 => .array .int
  | 33 => .array .int
  | _ => .int
theorem n_Mo : ∀ a, a < 35 → ∀ b, b < 35 → a ≠ b → (F_Mo a).2.1 ≠ (F_Mo b).2.1 := by decide +kernel
theorem k_Mo : ∀ k, k < 35 → parseFieldDescriptor (F_Mo k).2.2.1 = some (t_Mo k) := by decide +kernel
def tx_cl : List vw_C := [(R_X, F_X, 8), (R_Plan, F_Plan, 16), (R_Fitting, F_Fitting, 9), (R_Rules, F_Rules, 2), (R_Heap, F_Heap, 5), (R_Machine, F_Machine, 7), (R_Frame, F_Frame, 5), (R_Mo, F_Mo, 35)]
abbrev tx_Fr : String := R_Frame
abbrev tx_cFr : Nat := 6
def tx_shl : List (Nat × Nat × List (Option Nat)) := [
  (3, 8, [some 1, some 15, some 20, some 21, some 25, none, none, none]),
  (4, 16, [none, none, none, some 2, some 3, some 4, some 5, some 6, some 7, some 8, some 9, some 10, some 11, some 12, some 13, some 14]),
  (0, 8, []),
  (0, 8, []),
  (0, 12, []),
  (0, 12, []),
  (0, 12, []),
  (0, 8, []),
  (0, 8, []),
  (0, 8, []),
  (0, 8, []),
  (0, 8, []),
  (0, 8, []),
  (0, 96, []),
  (0, 96, []),
  (5, 9, [some 16, some 1, some 17, some 18, some 19, none, none, none, none]),
  (0, 96, []),
  (0, 4, []),
  (0, 3, []),
  (0, 12, []),
  (6, 2, [some 1, some 15]),
  (7, 5, [some 22, some 23, some 24, none, none]),
  (0, 321, []),
  (0, 1284, []),
  (0, 16, []),
  (8, 7, [none, none, some 1, some 21, some 26, none, none]),
  (2, 6, [some 27, some 30, some 33, some 36, some 39, some 42]),
  (9, 5, [none, none, some 28, some 29, none]),
  (0, 3, []),
  (0, 4, []),
  (9, 5, [none, none, some 31, some 32, none]),
  (0, 3, []),
  (0, 4, []),
  (9, 5, [none, none, some 34, some 35, none]),
  (0, 3, []),
  (0, 4, []),
  (9, 5, [none, none, some 37, some 38, none]),
  (0, 3, []),
  (0, 4, []),
  (9, 5, [none, none, some 40, some 41, none]),
  (0, 3, []),
  (0, 4, []),
  (9, 5, [none, none, some 43, some 44, none]),
  (0, 3, []),
  (0, 4, []),
  (10, 35, [none, some 46, some 47, none, some 48, some 49, some 50, none, some 51, some 52, some 53, some 54, some 55, some 56, some 57, some 58, none, some 59, some 60, none, none, some 61, some 62, none, some 63, none, none, none, none, some 64, some 65, some 66, some 67, some 68, none]),
  (0, 8, []),
  (0, 8, []),
  (0, 12, []),
  (0, 12, []),
  (0, 12, []),
  (0, 8, []),
  (0, 8, []),
  (0, 8, []),
  (0, 8, []),
  (0, 8, []),
  (0, 8, []),
  (0, 96, []),
  (0, 96, []),
  (0, 96, []),
  (1, 96, []),
  (0, 320, []),
  (0, 3840, []),
  (0, 16, []),
  (0, 6, []),
  (0, 6, []),
  (0, 6, []),
  (0, 24, []),
  (0, 18, [])]
def tx_ws : List Cond := lw_tbl.filter goodWord
def y_Plan_isClass : MethodName := ⟨"TamedClassSet$Plan", "isClass", "(I)Z"⟩
abbrev c_Plan_isClass : ByteArray := prog_6_method_7_code
abbrev mi_Plan_isClass : String × ByteArray × Nat × Option FieldType × Room := ("TamedClassSet$Plan", c_Plan_isClass, 2, some .boolean, { frames := 0, cells := 0, slots := 0, locals := 0 })
def y_Plan_newClass : MethodName := ⟨"TamedClassSet$Plan", "newClass", "(II)I"⟩
abbrev c_Plan_newClass : ByteArray := prog_6_method_2_code
abbrev mi_Plan_newClass : String × ByteArray × Nat × Option FieldType × Room := ("TamedClassSet$Plan", c_Plan_newClass, 6, some .int, { frames := 0, cells := 0, slots := 0, locals := 0 })
def y_X_addClass : MethodName := ⟨"TamedClassSet", "addClass", "(II)I"⟩
abbrev c_X_addClass : ByteArray := prog_1_method_2_code
abbrev mi_X_addClass : String × ByteArray × Nat × Option FieldType × Room := ("TamedClassSet", c_X_addClass, 4, some .int, { frames := 1, cells := 0, slots := 0, locals := 25 })
def y_Plan_isType : MethodName := ⟨"TamedClassSet$Plan", "isType", "(I)Z"⟩
abbrev c_Plan_isType : ByteArray := prog_6_method_8_code
abbrev mi_Plan_isType : String × ByteArray × Nat × Option FieldType × Room := ("TamedClassSet$Plan", c_Plan_isType, 2, some .boolean, { frames := 0, cells := 0, slots := 0, locals := 0 })
def y_Plan_newField : MethodName := ⟨"TamedClassSet$Plan", "newField", "(III)I"⟩
abbrev c_Plan_newField : ByteArray := prog_6_method_3_code
abbrev mi_Plan_newField : String × ByteArray × Nat × Option FieldType × Room := ("TamedClassSet$Plan", c_Plan_newField, 5, some .int, { frames := 0, cells := 0, slots := 0, locals := 0 })
def y_X_addField : MethodName := ⟨"TamedClassSet", "addField", "(III)I"⟩
abbrev c_X_addField : ByteArray := prog_1_method_3_code
abbrev mi_X_addField : String × ByteArray × Nat × Option FieldType × Room := ("TamedClassSet", c_X_addField, 4, some .int, { frames := 1, cells := 0, slots := 0, locals := 24 })
def y_Plan_methodNamed : MethodName := ⟨"TamedClassSet$Plan", "methodNamed", "(II)I"⟩
abbrev c_Plan_methodNamed : ByteArray := prog_6_method_21_code
abbrev mi_Plan_methodNamed : String × ByteArray × Nat × Option FieldType × Room := ("TamedClassSet$Plan", c_Plan_methodNamed, 4, some .int, { frames := 0, cells := 0, slots := 0, locals := 0 })
def y_Plan_newMethod : MethodName := ⟨"TamedClassSet$Plan", "newMethod", "(IIIII)I"⟩
abbrev c_Plan_newMethod : ByteArray := prog_6_method_4_code
abbrev mi_Plan_newMethod : String × ByteArray × Nat × Option FieldType × Room := ("TamedClassSet$Plan", c_Plan_newMethod, 7, some .int, { frames := 0, cells := 0, slots := 0, locals := 0 })
def y_X_addMethod : MethodName := ⟨"TamedClassSet", "addMethod", "(IIIII)I"⟩
abbrev c_X_addMethod : ByteArray := prog_1_method_4_code
abbrev mi_X_addMethod : String × ByteArray × Nat × Option FieldType × Room := ("TamedClassSet", c_X_addMethod, 7, some .int, { frames := 1, cells := 0, slots := 0, locals := 26 })
def y_Plan_isMethod : MethodName := ⟨"TamedClassSet$Plan", "isMethod", "(I)Z"⟩
abbrev c_Plan_isMethod : ByteArray := prog_6_method_10_code
abbrev mi_Plan_isMethod : String × ByteArray × Nat × Option FieldType × Room := ("TamedClassSet$Plan", c_Plan_isMethod, 2, some .boolean, { frames := 0, cells := 0, slots := 0, locals := 0 })
def y_Plan_newInstruction : MethodName := ⟨"TamedClassSet$Plan", "newInstruction", "(III)I"⟩
abbrev c_Plan_newInstruction : ByteArray := prog_6_method_5_code
abbrev mi_Plan_newInstruction : String × ByteArray × Nat × Option FieldType × Room := ("TamedClassSet$Plan", c_Plan_newInstruction, 5, some .int, { frames := 0, cells := 0, slots := 0, locals := 0 })
def y_X_emit : MethodName := ⟨"TamedClassSet", "emit", "(III)I"⟩
abbrev c_X_emit : ByteArray := prog_1_method_5_code
abbrev mi_X_emit : String × ByteArray × Nat × Option FieldType × Room := ("TamedClassSet", c_X_emit, 4, some .int, { frames := 1, cells := 0, slots := 0, locals := 24 })
def y_Plan_isStaticField : MethodName := ⟨"TamedClassSet$Plan", "isStaticField", "(I)Z"⟩
abbrev c_Plan_isStaticField : ByteArray := prog_6_method_12_code
abbrev mi_Plan_isStaticField : String × ByteArray × Nat × Option FieldType × Room := ("TamedClassSet$Plan", c_Plan_isStaticField, 2, some .boolean, { frames := 0, cells := 0, slots := 0, locals := 0 })
def y_Plan_isFinalField : MethodName := ⟨"TamedClassSet$Plan", "isFinalField", "(I)Z"⟩
abbrev c_Plan_isFinalField : ByteArray := prog_6_method_13_code
abbrev mi_Plan_isFinalField : String × ByteArray × Nat × Option FieldType × Room := ("TamedClassSet$Plan", c_Plan_isFinalField, 2, some .boolean, { frames := 0, cells := 0, slots := 0, locals := 0 })
def y_Plan_isPowerless : MethodName := ⟨"TamedClassSet$Plan", "isPowerless", "(I)Z"⟩
abbrev c_Plan_isPowerless : ByteArray := prog_6_method_18_code
abbrev mi_Plan_isPowerless : String × ByteArray × Nat × Option FieldType × Room := ("TamedClassSet$Plan", c_Plan_isPowerless, 2, some .boolean, { frames := 0, cells := 0, slots := 0, locals := 0 })
def y_Rules_changesForAll : MethodName := ⟨"TamedClassSet$Rules", "changesForAll", "(I)Z"⟩
abbrev c_Rules_changesForAll : ByteArray := prog_7_method_3_code
abbrev mi_Rules_changesForAll : String × ByteArray × Nat × Option FieldType × Room := ("TamedClassSet$Rules", c_Rules_changesForAll, 2, some .boolean, { frames := 1, cells := 0, slots := 0, locals := 21 })
def y_Plan_isImmutable : MethodName := ⟨"TamedClassSet$Plan", "isImmutable", "(I)Z"⟩
abbrev c_Plan_isImmutable : ByteArray := prog_6_method_17_code
abbrev mi_Plan_isImmutable : String × ByteArray × Nat × Option FieldType × Room := ("TamedClassSet$Plan", c_Plan_isImmutable, 2, some .boolean, { frames := 0, cells := 0, slots := 0, locals := 0 })
def y_Plan_isUnder : MethodName := ⟨"TamedClassSet$Plan", "isUnder", "(II)Z"⟩
abbrev c_Plan_isUnder : ByteArray := prog_6_method_15_code
abbrev mi_Plan_isUnder : String × ByteArray × Nat × Option FieldType × Room := ("TamedClassSet$Plan", c_Plan_isUnder, 3, some .boolean, { frames := 0, cells := 0, slots := 0, locals := 0 })
def y_Plan_owns : MethodName := ⟨"TamedClassSet$Plan", "owns", "(II)Z"⟩
abbrev c_Plan_owns : ByteArray := prog_6_method_19_code
abbrev mi_Plan_owns : String × ByteArray × Nat × Option FieldType × Room := ("TamedClassSet$Plan", c_Plan_owns, 3, some .boolean, { frames := 1, cells := 0, slots := 0, locals := 22 })
def y_Rules_changesImmutable : MethodName := ⟨"TamedClassSet$Rules", "changesImmutable", "(I)Z"⟩
abbrev c_Rules_changesImmutable : ByteArray := prog_7_method_4_code
abbrev mi_Rules_changesImmutable : String × ByteArray × Nat × Option FieldType × Room := ("TamedClassSet$Rules", c_Rules_changesImmutable, 6, some .boolean, { frames := 2, cells := 0, slots := 0, locals := 44 })
def y_Plan_isStaticMethod : MethodName := ⟨"TamedClassSet$Plan", "isStaticMethod", "(I)Z"⟩
abbrev c_Plan_isStaticMethod : ByteArray := prog_6_method_14_code
abbrev mi_Plan_isStaticMethod : String × ByteArray × Nat × Option FieldType × Room := ("TamedClassSet$Plan", c_Plan_isStaticMethod, 2, some .boolean, { frames := 0, cells := 0, slots := 0, locals := 0 })
def y_Rules_agree : MethodName := ⟨"TamedClassSet$Rules", "agree", "(II)Z"⟩
abbrev c_Rules_agree : ByteArray := prog_7_method_6_code
abbrev mi_Rules_agree : String × ByteArray × Nat × Option FieldType × Room := ("TamedClassSet$Rules", c_Rules_agree, 3, some .boolean, { frames := 1, cells := 0, slots := 0, locals := 21 })
def y_Rules_overridesBadly : MethodName := ⟨"TamedClassSet$Rules", "overridesBadly", "(I)Z"⟩
abbrev c_Rules_overridesBadly : ByteArray := prog_7_method_5_code
abbrev mi_Rules_overridesBadly : String × ByteArray × Nat × Option FieldType × Room := ("TamedClassSet$Rules", c_Rules_overridesBadly, 6, some .boolean, { frames := 2, cells := 0, slots := 0, locals := 43 })
def y_Arr_rangeCheck : MethodName := ⟨"java/util/Arrays", "rangeCheck", "(III)V"⟩
abbrev c_Arr_rangeCheck : ByteArray := prog_12_method_30_code
abbrev mi_Arr_rangeCheck : String × ByteArray × Nat × Option FieldType × Room := ("java/util/Arrays", c_Arr_rangeCheck, 3, none, { frames := 0, cells := 0, slots := 0, locals := 0 })
def y_Arr_fill4 : MethodName := ⟨"java/util/Arrays", "fill", "([IIII)V"⟩
abbrev c_Arr_fill4 : ByteArray := prog_12_method_104_code
abbrev mi_Arr_fill4 : String × ByteArray × Nat × Option FieldType × Room := ("java/util/Arrays", c_Arr_fill4, 5, none, { frames := 1, cells := 0, slots := 0, locals := 22 })
def y_Arr_fill2 : MethodName := ⟨"java/util/Arrays", "fill", "([II)V"⟩
abbrev c_Arr_fill2 : ByteArray := prog_12_method_103_code
abbrev mi_Arr_fill2 : String × ByteArray × Nat × Option FieldType × Room := ("java/util/Arrays", c_Arr_fill2, 4, none, { frames := 0, cells := 0, slots := 0, locals := 0 })
def y_Fitting_begin : MethodName := ⟨"TamedClassSet$Fitting", "begin", "(I)V"⟩
abbrev c_Fitting_begin : ByteArray := prog_2_method_4_code
abbrev mi_Fitting_begin : String × ByteArray × Nat × Option FieldType × Room := ("TamedClassSet$Fitting", c_Fitting_begin, 3, none, { frames := 2, cells := 0, slots := 0, locals := 46 })
def y_Plan_isInstruction : MethodName := ⟨"TamedClassSet$Plan", "isInstruction", "(II)Z"⟩
abbrev c_Plan_isInstruction : ByteArray := prog_6_method_11_code
abbrev mi_Plan_isInstruction : String × ByteArray × Nat × Option FieldType × Room := ("TamedClassSet$Plan", c_Plan_isInstruction, 3, some .boolean, { frames := 0, cells := 0, slots := 0, locals := 0 })
def y_Fitting_packed : MethodName := ⟨"TamedClassSet$Fitting", "packed", "()I"⟩
abbrev c_Fitting_packed : ByteArray := prog_2_method_5_code
abbrev mi_Fitting_packed : String × ByteArray × Nat × Option FieldType × Room := ("TamedClassSet$Fitting", c_Fitting_packed, 3, some .int, { frames := 0, cells := 0, slots := 0, locals := 0 })
def y_Fitting_arriveAt : MethodName := ⟨"TamedClassSet$Fitting", "arriveAt", "(I)V"⟩
abbrev c_Fitting_arriveAt : ByteArray := prog_2_method_7_code
abbrev mi_Fitting_arriveAt : String × ByteArray × Nat × Option FieldType × Room := ("TamedClassSet$Fitting", c_Fitting_arriveAt, 4, none, { frames := 1, cells := 0, slots := 0, locals := 22 })
def y_Fitting_unpack : MethodName := ⟨"TamedClassSet$Fitting", "unpack", "(I)V"⟩
abbrev c_Fitting_unpack : ByteArray := prog_2_method_6_code
abbrev mi_Fitting_unpack : String × ByteArray × Nat × Option FieldType × Room := ("TamedClassSet$Fitting", c_Fitting_unpack, 3, none, { frames := 0, cells := 0, slots := 0, locals := 0 })
def y_Fitting_put : MethodName := ⟨"TamedClassSet$Fitting", "put", "(I)V"⟩
abbrev c_Fitting_put : ByteArray := prog_2_method_11_code
abbrev mi_Fitting_put : String × ByteArray × Nat × Option FieldType × Room := ("TamedClassSet$Fitting", c_Fitting_put, 2, none, { frames := 0, cells := 0, slots := 0, locals := 0 })
def y_Fitting_demand : MethodName := ⟨"TamedClassSet$Fitting", "demand", "(Z)V"⟩
abbrev c_Fitting_demand : ByteArray := prog_2_method_10_code
abbrev mi_Fitting_demand : String × ByteArray × Nat × Option FieldType × Room := ("TamedClassSet$Fitting", c_Fitting_demand, 2, none, { frames := 0, cells := 0, slots := 0, locals := 0 })
def y_Fitting_load : MethodName := ⟨"TamedClassSet$Fitting", "load", "(I)V"⟩
abbrev c_Fitting_load : ByteArray := prog_2_method_16_code
abbrev mi_Fitting_load : String × ByteArray × Nat × Option FieldType × Room := ("TamedClassSet$Fitting", c_Fitting_load, 2, none, { frames := 1, cells := 0, slots := 0, locals := 21 })
def y_Fitting_takeAny : MethodName := ⟨"TamedClassSet$Fitting", "takeAny", "()I"⟩
abbrev c_Fitting_takeAny : ByteArray := prog_2_method_13_code
abbrev mi_Fitting_takeAny : String × ByteArray × Nat × Option FieldType × Room := ("TamedClassSet$Fitting", c_Fitting_takeAny, 1, some .int, { frames := 0, cells := 0, slots := 0, locals := 0 })
def y_Fitting_store : MethodName := ⟨"TamedClassSet$Fitting", "store", "(I)V"⟩
abbrev c_Fitting_store : ByteArray := prog_2_method_17_code
abbrev mi_Fitting_store : String × ByteArray × Nat × Option FieldType × Room := ("TamedClassSet$Fitting", c_Fitting_store, 3, none, { frames := 1, cells := 0, slots := 0, locals := 21 })
def y_Plan_fits : MethodName := ⟨"TamedClassSet$Plan", "fits", "(II)Z"⟩
abbrev c_Plan_fits : ByteArray := prog_6_method_16_code
abbrev mi_Plan_fits : String × ByteArray × Nat × Option FieldType × Room := ("TamedClassSet$Plan", c_Plan_fits, 4, some .boolean, { frames := 0, cells := 0, slots := 0, locals := 0 })
def y_Fitting_take : MethodName := ⟨"TamedClassSet$Fitting", "take", "(I)V"⟩
abbrev c_Fitting_take : ByteArray := prog_2_method_14_code
abbrev mi_Fitting_take : String × ByteArray × Nat × Option FieldType × Room := ("TamedClassSet$Fitting", c_Fitting_take, 2, none, { frames := 1, cells := 0, slots := 0, locals := 23 })
def y_Fitting_make : MethodName := ⟨"TamedClassSet$Fitting", "make", "(I)V"⟩
abbrev c_Fitting_make : ByteArray := prog_2_method_18_code
abbrev mi_Fitting_make : String × ByteArray × Nat × Option FieldType × Room := ("TamedClassSet$Fitting", c_Fitting_make, 3, none, { frames := 2, cells := 0, slots := 0, locals := 44 })
def y_Plan_isField : MethodName := ⟨"TamedClassSet$Plan", "isField", "(I)Z"⟩
abbrev c_Plan_isField : ByteArray := prog_6_method_9_code
abbrev mi_Plan_isField : String × ByteArray × Nat × Option FieldType × Room := ("TamedClassSet$Plan", c_Plan_isField, 2, some .boolean, { frames := 0, cells := 0, slots := 0, locals := 0 })
def y_Fitting_useField : MethodName := ⟨"TamedClassSet$Fitting", "useField", "(II)V"⟩
abbrev c_Fitting_useField : ByteArray := prog_2_method_19_code
abbrev mi_Fitting_useField : String × ByteArray × Nat × Option FieldType × Room := ("TamedClassSet$Fitting", c_Fitting_useField, 3, none, { frames := 2, cells := 0, slots := 0, locals := 44 })
def y_Fitting_useStaticField : MethodName := ⟨"TamedClassSet$Fitting", "useStaticField", "(II)V"⟩
abbrev c_Fitting_useStaticField : ByteArray := prog_2_method_20_code
abbrev mi_Fitting_useStaticField : String × ByteArray × Nat × Option FieldType × Room := ("TamedClassSet$Fitting", c_Fitting_useStaticField, 3, none, { frames := 2, cells := 0, slots := 0, locals := 44 })
def y_Fitting_callMethod : MethodName := ⟨"TamedClassSet$Fitting", "callMethod", "(I)V"⟩
abbrev c_Fitting_callMethod : ByteArray := prog_2_method_21_code
abbrev mi_Fitting_callMethod : String × ByteArray × Nat × Option FieldType × Room := ("TamedClassSet$Fitting", c_Fitting_callMethod, 2, none, { frames := 2, cells := 0, slots := 0, locals := 44 })
def y_Fitting_takeReference : MethodName := ⟨"TamedClassSet$Fitting", "takeReference", "()V"⟩
abbrev c_Fitting_takeReference : ByteArray := prog_2_method_15_code
abbrev mi_Fitting_takeReference : String × ByteArray × Nat × Option FieldType × Room := ("TamedClassSet$Fitting", c_Fitting_takeReference, 1, none, { frames := 1, cells := 0, slots := 0, locals := 21 })
def y_Fitting_putClass : MethodName := ⟨"TamedClassSet$Fitting", "putClass", "(I)V"⟩
abbrev c_Fitting_putClass : ByteArray := prog_2_method_12_code
abbrev mi_Fitting_putClass : String × ByteArray × Nat × Option FieldType × Room := ("TamedClassSet$Fitting", c_Fitting_putClass, 2, none, { frames := 1, cells := 0, slots := 0, locals := 21 })
def y_Fitting_apply : MethodName := ⟨"TamedClassSet$Fitting", "apply", "(II)V"⟩
abbrev c_Fitting_apply : ByteArray := prog_2_method_9_code
abbrev mi_Fitting_apply : String × ByteArray × Nat × Option FieldType × Room := ("TamedClassSet$Fitting", c_Fitting_apply, 3, none, { frames := 3, cells := 0, slots := 0, locals := 66 })
def y_Fitting_leave : MethodName := ⟨"TamedClassSet$Fitting", "leave", "(III)V"⟩
abbrev c_Fitting_leave : ByteArray := prog_2_method_8_code
abbrev mi_Fitting_leave : String × ByteArray × Nat × Option FieldType × Room := ("TamedClassSet$Fitting", c_Fitting_leave, 4, none, { frames := 2, cells := 0, slots := 0, locals := 45 })
def y_Fitting_codeFits : MethodName := ⟨"TamedClassSet$Fitting", "codeFits", "(I)Z"⟩
abbrev c_Fitting_codeFits : ByteArray := prog_2_method_2_code
abbrev mi_Fitting_codeFits : String × ByteArray × Nat × Option FieldType × Room := ("TamedClassSet$Fitting", c_Fitting_codeFits, 5, some .boolean, { frames := 4, cells := 0, slots := 0, locals := 88 })
def y_Fitting_comparesImmutable : MethodName := ⟨"TamedClassSet$Fitting", "comparesImmutable", "(II)Z"⟩
abbrev c_Fitting_comparesImmutable : ByteArray := prog_2_method_3_code
abbrev mi_Fitting_comparesImmutable : String × ByteArray × Nat × Option FieldType × Room := ("TamedClassSet$Fitting", c_Fitting_comparesImmutable, 3, some .boolean, { frames := 1, cells := 0, slots := 0, locals := 22 })
def y_Rules_breaks : MethodName := ⟨"TamedClassSet$Rules", "breaks", "(III)Z"⟩
abbrev c_Rules_breaks : ByteArray := prog_7_method_7_code
abbrev mi_Rules_breaks : String × ByteArray × Nat × Option FieldType × Room := ("TamedClassSet$Rules", c_Rules_breaks, 6, some .boolean, { frames := 2, cells := 0, slots := 0, locals := 44 })
def y_Rules_firstBreach : MethodName := ⟨"TamedClassSet$Rules", "firstBreach", "(I)I"⟩
abbrev c_Rules_firstBreach : ByteArray := prog_7_method_2_code
abbrev mi_Rules_firstBreach : String × ByteArray × Nat × Option FieldType × Room := ("TamedClassSet$Rules", c_Rules_firstBreach, 4, some .int, { frames := 5, cells := 0, slots := 0, locals := 112 })
def y_X_check : MethodName := ⟨"TamedClassSet", "check", "()I"⟩
abbrev c_X_check : ByteArray := prog_1_method_6_code
abbrev mi_X_check : String × ByteArray × Nat × Option FieldType × Room := ("TamedClassSet", c_X_check, 3, some .int, { frames := 6, cells := 0, slots := 0, locals := 135 })
def y_Plan_forgetAll : MethodName := ⟨"TamedClassSet$Plan", "forgetAll", "()V"⟩
abbrev c_Plan_forgetAll : ByteArray := prog_6_method_6_code
abbrev mi_Plan_forgetAll : String × ByteArray × Nat × Option FieldType × Room := ("TamedClassSet$Plan", c_Plan_forgetAll, 1, none, { frames := 0, cells := 0, slots := 0, locals := 0 })
def y_Heap_forgetAll : MethodName := ⟨"TamedClassSet$Heap", "forgetAll", "()V"⟩
abbrev c_Heap_forgetAll : ByteArray := prog_4_method_2_code
abbrev mi_Heap_forgetAll : String × ByteArray × Nat × Option FieldType × Room := ("TamedClassSet$Heap", c_Heap_forgetAll, 1, none, { frames := 0, cells := 0, slots := 0, locals := 0 })
def y_X_clear : MethodName := ⟨"TamedClassSet", "clear", "()V"⟩
abbrev c_X_clear : ByteArray := prog_1_method_7_code
abbrev mi_X_clear : String × ByteArray × Nat × Option FieldType × Room := ("TamedClassSet", c_X_clear, 1, none, { frames := 1, cells := 0, slots := 0, locals := 20 })
def y_X_typesAt : MethodName := ⟨"TamedClassSet", "typesAt", "(II)I"⟩
abbrev c_X_typesAt : ByteArray := prog_1_method_8_code
abbrev mi_X_typesAt : String × ByteArray × Nat × Option FieldType × Room := ("TamedClassSet", c_X_typesAt, 3, some .int, { frames := 1, cells := 0, slots := 0, locals := 22 })
def y_Heap_inHandle : MethodName := ⟨"TamedClassSet$Heap", "inHandle", "(I)I"⟩
abbrev c_Heap_inHandle : ByteArray := prog_4_method_6_code
abbrev mi_Heap_inHandle : String × ByteArray × Nat × Option FieldType × Room := ("TamedClassSet$Heap", c_Heap_inHandle, 2, some .int, { frames := 0, cells := 0, slots := 0, locals := 0 })
def y_X_receiverFits : MethodName := ⟨"TamedClassSet", "receiverFits", "(II)Z"⟩
abbrev c_X_receiverFits : ByteArray := prog_1_method_14_code
abbrev mi_X_receiverFits : String × ByteArray × Nat × Option FieldType × Room := ("TamedClassSet", c_X_receiverFits, 4, some .boolean, { frames := 1, cells := 0, slots := 0, locals := 23 })
def y_X_argumentFits : MethodName := ⟨"TamedClassSet", "argumentFits", "(II)Z"⟩
abbrev c_X_argumentFits : ByteArray := prog_1_method_15_code
abbrev mi_X_argumentFits : String × ByteArray × Nat × Option FieldType × Room := ("TamedClassSet", c_X_argumentFits, 4, some .boolean, { frames := 1, cells := 0, slots := 0, locals := 23 })
def y_Frame_begin : MethodName := ⟨"TamedClassSet$Frame", "begin", "(I)V"⟩
abbrev c_Frame_begin : ByteArray := prog_3_method_2_code
abbrev mi_Frame_begin : String × ByteArray × Nat × Option FieldType × Room := ("TamedClassSet$Frame", c_Frame_begin, 2, none, { frames := 0, cells := 0, slots := 0, locals := 0 })
def y_Plan_chosenMethod : MethodName := ⟨"TamedClassSet$Plan", "chosenMethod", "(II)I"⟩
abbrev c_Plan_chosenMethod : ByteArray := prog_6_method_22_code
abbrev mi_Plan_chosenMethod : String × ByteArray × Nat × Option FieldType × Room := ("TamedClassSet$Plan", c_Plan_chosenMethod, 5, some .int, { frames := 1, cells := 0, slots := 0, locals := 23 })
def y_Machine_enter : MethodName := ⟨"TamedClassSet$Machine", "enter", "(III)V"⟩
abbrev c_Machine_enter : ByteArray := prog_5_method_3_code
abbrev mi_Machine_enter : String × ByteArray × Nat × Option FieldType × Room := ("TamedClassSet$Machine", c_Machine_enter, 6, none, { frames := 2, cells := 0, slots := 0, locals := 47 })
def y_Frame_push : MethodName := ⟨"TamedClassSet$Frame", "push", "(I)V"⟩
abbrev c_Frame_push : ByteArray := prog_3_method_3_code
abbrev mi_Frame_push : String × ByteArray × Nat × Option FieldType × Room := ("TamedClassSet$Frame", c_Frame_push, 2, none, { frames := 0, cells := 0, slots := 0, locals := 0 })
def y_Frame_pop : MethodName := ⟨"TamedClassSet$Frame", "pop", "()I"⟩
abbrev c_Frame_pop : ByteArray := prog_3_method_4_code
abbrev mi_Frame_pop : String × ByteArray × Nat × Option FieldType × Room := ("TamedClassSet$Frame", c_Frame_pop, 1, some .int, { frames := 0, cells := 0, slots := 0, locals := 0 })
def y_Machine_combine : MethodName := ⟨"TamedClassSet$Machine", "combine", "(LTamedClassSet$Frame;I)I"⟩
abbrev c_Machine_combine : ByteArray := prog_5_method_5_code
abbrev mi_Machine_combine : String × ByteArray × Nat × Option FieldType × Room := ("TamedClassSet$Machine", c_Machine_combine, 5, some .int, { frames := 1, cells := 0, slots := 0, locals := 21 })
def y_Heap_newThing : MethodName := ⟨"TamedClassSet$Heap", "newThing", "(I)I"⟩
abbrev c_Heap_newThing : ByteArray := prog_4_method_3_code
abbrev mi_Heap_newThing : String × ByteArray × Nat × Option FieldType × Room := ("TamedClassSet$Heap", c_Heap_newThing, 2, some .int, { frames := 0, cells := 0, slots := 0, locals := 0 })
def y_Plan_slotOf : MethodName := ⟨"TamedClassSet$Plan", "slotOf", "(II)I"⟩
abbrev c_Plan_slotOf : ByteArray := prog_6_method_20_code
abbrev mi_Plan_slotOf : String × ByteArray × Nat × Option FieldType × Room := ("TamedClassSet$Plan", c_Plan_slotOf, 5, some .int, { frames := 2, cells := 0, slots := 0, locals := 44 })
def y_Heap_setSlot : MethodName := ⟨"TamedClassSet$Heap", "setSlot", "(III)V"⟩
abbrev c_Heap_setSlot : ByteArray := prog_4_method_5_code
abbrev mi_Heap_setSlot : String × ByteArray × Nat × Option FieldType × Room := ("TamedClassSet$Heap", c_Heap_setSlot, 4, none, { frames := 0, cells := 0, slots := 0, locals := 0 })
def y_Machine_make : MethodName := ⟨"TamedClassSet$Machine", "make", "(LTamedClassSet$Frame;I)I"⟩
abbrev c_Machine_make : ByteArray := prog_5_method_6_code
abbrev mi_Machine_make : String × ByteArray × Nat × Option FieldType × Room := ("TamedClassSet$Machine", c_Machine_make, 6, some .int, { frames := 3, cells := 0, slots := 0, locals := 68 })
def y_Heap_slotValue : MethodName := ⟨"TamedClassSet$Heap", "slotValue", "(II)I"⟩
abbrev c_Heap_slotValue : ByteArray := prog_4_method_4_code
abbrev mi_Heap_slotValue : String × ByteArray × Nat × Option FieldType × Room := ("TamedClassSet$Heap", c_Heap_slotValue, 3, some .int, { frames := 0, cells := 0, slots := 0, locals := 0 })
def y_Machine_useField : MethodName := ⟨"TamedClassSet$Machine", "useField", "(LTamedClassSet$Frame;II)I"⟩
abbrev c_Machine_useField : ByteArray := prog_5_method_8_code
abbrev mi_Machine_useField : String × ByteArray × Nat × Option FieldType × Room := ("TamedClassSet$Machine", c_Machine_useField, 7, some .int, { frames := 3, cells := 0, slots := 0, locals := 68 })
def y_Machine_callMethod : MethodName := ⟨"TamedClassSet$Machine", "callMethod", "(LTamedClassSet$Frame;I)I"⟩
abbrev c_Machine_callMethod : ByteArray := prog_5_method_10_code
abbrev mi_Machine_callMethod : String × ByteArray × Nat × Option FieldType × Room := ("TamedClassSet$Machine", c_Machine_callMethod, 6, some .int, { frames := 3, cells := 0, slots := 0, locals := 72 })
def y_Machine_makeCell : MethodName := ⟨"TamedClassSet$Machine", "makeCell", "(LTamedClassSet$Frame;)I"⟩
abbrev c_Machine_makeCell : ByteArray := prog_5_method_7_code
abbrev mi_Machine_makeCell : String × ByteArray × Nat × Option FieldType × Room := ("TamedClassSet$Machine", c_Machine_makeCell, 3, some .int, { frames := 1, cells := 0, slots := 0, locals := 23 })
def y_Machine_useCell : MethodName := ⟨"TamedClassSet$Machine", "useCell", "(LTamedClassSet$Frame;I)I"⟩
abbrev c_Machine_useCell : ByteArray := prog_5_method_9_code
abbrev mi_Machine_useCell : String × ByteArray × Nat × Option FieldType × Room := ("TamedClassSet$Machine", c_Machine_useCell, 5, some .int, { frames := 1, cells := 0, slots := 0, locals := 23 })
def y_Math_abs : MethodName := ⟨"java/lang/Math", "abs", "(I)I"⟩
abbrev c_Math_abs : ByteArray := prog_11_method_59_code
abbrev mi_Math_abs : String × ByteArray × Nat × Option FieldType × Room := ("java/lang/Math", c_Math_abs, 1, some .int, { frames := 0, cells := 0, slots := 0, locals := 0 })
def y_Int_bitCount : MethodName := ⟨"java/lang/Integer", "bitCount", "(I)I"⟩
abbrev c_Int_bitCount : ByteArray := prog_10_method_49_code
abbrev mi_Int_bitCount : String × ByteArray × Nat × Option FieldType × Room := ("java/lang/Integer", c_Int_bitCount, 1, some .int, { frames := 0, cells := 0, slots := 0, locals := 0 })
def y_Machine_library : MethodName := ⟨"TamedClassSet$Machine", "library", "(LTamedClassSet$Frame;I)I"⟩
abbrev c_Machine_library : ByteArray := prog_5_method_11_code
abbrev mi_Machine_library : String × ByteArray × Nat × Option FieldType × Room := ("TamedClassSet$Machine", c_Machine_library, 4, some .int, { frames := 1, cells := 0, slots := 0, locals := 21 })
def y_Machine_leave : MethodName := ⟨"TamedClassSet$Machine", "leave", "(LTamedClassSet$Frame;)I"⟩
abbrev c_Machine_leave : ByteArray := prog_5_method_12_code
abbrev mi_Machine_leave : String × ByteArray × Nat × Option FieldType × Room := ("TamedClassSet$Machine", c_Machine_leave, 2, some .int, { frames := 1, cells := 0, slots := 0, locals := 21 })
def y_Machine_step : MethodName := ⟨"TamedClassSet$Machine", "step", "(LTamedClassSet$Frame;)I"⟩
abbrev c_Machine_step : ByteArray := prog_5_method_4_code
abbrev mi_Machine_step : String × ByteArray × Nat × Option FieldType × Room := ("TamedClassSet$Machine", c_Machine_step, 5, some .int, { frames := 4, cells := 0, slots := 0, locals := 97 })
def y_Machine_execute : MethodName := ⟨"TamedClassSet$Machine", "execute", "(III)I"⟩
abbrev c_Machine_execute : ByteArray := prog_5_method_2_code
abbrev mi_Machine_execute : String × ByteArray × Nat × Option FieldType × Room := ("TamedClassSet$Machine", c_Machine_execute, 5, some .int, { frames := 5, cells := 0, slots := 0, locals := 121 })
def y_Heap_handleOf : MethodName := ⟨"TamedClassSet$Heap", "handleOf", "(I)I"⟩
abbrev c_Heap_handleOf : ByteArray := prog_4_method_7_code
abbrev mi_Heap_handleOf : String × ByteArray × Nat × Option FieldType × Room := ("TamedClassSet$Heap", c_Heap_handleOf, 3, some .int, { frames := 0, cells := 0, slots := 0, locals := 0 })
def y_Heap_hold : MethodName := ⟨"TamedClassSet$Heap", "hold", "(I)V"⟩
abbrev c_Heap_hold : ByteArray := prog_4_method_8_code
abbrev mi_Heap_hold : String × ByteArray × Nat × Option FieldType × Room := ("TamedClassSet$Heap", c_Heap_hold, 3, none, { frames := 1, cells := 0, slots := 0, locals := 22 })
def y_X_answerOf : MethodName := ⟨"TamedClassSet", "answerOf", "(II)J"⟩
abbrev c_X_answerOf : ByteArray := prog_1_method_16_code
abbrev mi_X_answerOf : String × ByteArray × Nat × Option FieldType × Room := ("TamedClassSet", c_X_answerOf, 4, some .long, { frames := 1, cells := 0, slots := 0, locals := 22 })
def y_X_run : MethodName := ⟨"TamedClassSet", "run", "(III)J"⟩
abbrev c_X_run : ByteArray := prog_1_method_9_code
abbrev mi_X_run : String × ByteArray × Nat × Option FieldType × Room := ("TamedClassSet", c_X_run, 8, some .long, { frames := 6, cells := 0, slots := 0, locals := 145 })
def y_X_look : MethodName := ⟨"TamedClassSet", "look", "(II)J"⟩
abbrev c_X_look : ByteArray := prog_1_method_10_code
abbrev mi_X_look : String × ByteArray × Nat × Option FieldType × Room := ("TamedClassSet", c_X_look, 6, some .long, { frames := 3, cells := 0, slots := 0, locals := 68 })
def y_X_held : MethodName := ⟨"TamedClassSet", "held", "(I)I"⟩
abbrev c_X_held : ByteArray := prog_1_method_11_code
abbrev mi_X_held : String × ByteArray × Nat × Option FieldType × Room := ("TamedClassSet", c_X_held, 3, some .int, { frames := 1, cells := 0, slots := 0, locals := 21 })
def y_X_runs : MethodName := ⟨"TamedClassSet", "runs", "()I"⟩
abbrev c_X_runs : ByteArray := prog_1_method_12_code
abbrev mi_X_runs : String × ByteArray × Nat × Option FieldType × Room := ("TamedClassSet", c_X_runs, 1, some .int, { frames := 0, cells := 0, slots := 0, locals := 0 })
def y_X_steps : MethodName := ⟨"TamedClassSet", "steps", "()I"⟩
abbrev c_X_steps : ByteArray := prog_1_method_13_code
abbrev mi_X_steps : String × ByteArray × Nat × Option FieldType × Room := ("TamedClassSet", c_X_steps, 1, some .int, { frames := 0, cells := 0, slots := 0, locals := 0 })
def y_Mo_isClass : MethodName := ⟨"TamedClassSetModel", "isClass", "(I)Z"⟩
abbrev c_Mo_isClass : ByteArray := prog_9_method_2_code
abbrev mi_Mo_isClass : String × ByteArray × Nat × Option FieldType × Room := ("TamedClassSetModel", c_Mo_isClass, 2, some .boolean, { frames := 0, cells := 0, slots := 0, locals := 0 })
def y_Mo_addClass : MethodName := ⟨"TamedClassSetModel", "addClass", "(II)I"⟩
abbrev c_Mo_addClass : ByteArray := prog_9_method_5_code
abbrev mi_Mo_addClass : String × ByteArray × Nat × Option FieldType × Room := ("TamedClassSetModel", c_Mo_addClass, 3, some .int, { frames := 1, cells := 0, slots := 0, locals := 21 })
def y_Mo_isType : MethodName := ⟨"TamedClassSetModel", "isType", "(I)Z"⟩
abbrev c_Mo_isType : ByteArray := prog_9_method_3_code
abbrev mi_Mo_isType : String × ByteArray × Nat × Option FieldType × Room := ("TamedClassSetModel", c_Mo_isType, 2, some .boolean, { frames := 1, cells := 0, slots := 0, locals := 21 })
def y_Mo_addField : MethodName := ⟨"TamedClassSetModel", "addField", "(III)I"⟩
abbrev c_Mo_addField : ByteArray := prog_9_method_6_code
abbrev mi_Mo_addField : String × ByteArray × Nat × Option FieldType × Room := ("TamedClassSetModel", c_Mo_addField, 4, some .int, { frames := 2, cells := 0, slots := 0, locals := 42 })
def y_Mo_methodOf : MethodName := ⟨"TamedClassSetModel", "methodOf", "(II)I"⟩
abbrev c_Mo_methodOf : ByteArray := prog_9_method_8_code
abbrev mi_Mo_methodOf : String × ByteArray × Nat × Option FieldType × Room := ("TamedClassSetModel", c_Mo_methodOf, 4, some .int, { frames := 0, cells := 0, slots := 0, locals := 0 })
def y_Mo_addMethod : MethodName := ⟨"TamedClassSetModel", "addMethod", "(IIIII)I"⟩
abbrev c_Mo_addMethod : ByteArray := prog_9_method_7_code
abbrev mi_Mo_addMethod : String × ByteArray × Nat × Option FieldType × Room := ("TamedClassSetModel", c_Mo_addMethod, 6, some .int, { frames := 2, cells := 0, slots := 0, locals := 42 })
def y_Mo_isMethod : MethodName := ⟨"TamedClassSetModel", "isMethod", "(I)Z"⟩
abbrev c_Mo_isMethod : ByteArray := prog_9_method_4_code
abbrev mi_Mo_isMethod : String × ByteArray × Nat × Option FieldType × Room := ("TamedClassSetModel", c_Mo_isMethod, 2, some .boolean, { frames := 0, cells := 0, slots := 0, locals := 0 })
def y_Mo_emit : MethodName := ⟨"TamedClassSetModel", "emit", "(III)I"⟩
abbrev c_Mo_emit : ByteArray := prog_9_method_9_code
abbrev mi_Mo_emit : String × ByteArray × Nat × Option FieldType × Room := ("TamedClassSetModel", c_Mo_emit, 5, some .int, { frames := 1, cells := 0, slots := 0, locals := 21 })
def y_Mo_clear : MethodName := ⟨"TamedClassSetModel", "clear", "()V"⟩
abbrev c_Mo_clear : ByteArray := prog_9_method_10_code
abbrev mi_Mo_clear : String × ByteArray × Nat × Option FieldType × Room := ("TamedClassSetModel", c_Mo_clear, 1, none, { frames := 0, cells := 0, slots := 0, locals := 0 })
def y_Mo_isStatic : MethodName := ⟨"TamedClassSetModel", "isStatic", "(I)Z"⟩
abbrev c_Mo_isStatic : ByteArray := prog_9_method_16_code
abbrev mi_Mo_isStatic : String × ByteArray × Nat × Option FieldType × Room := ("TamedClassSetModel", c_Mo_isStatic, 2, some .boolean, { frames := 0, cells := 0, slots := 0, locals := 0 })
def y_Mo_isFinal : MethodName := ⟨"TamedClassSetModel", "isFinal", "(I)Z"⟩
abbrev c_Mo_isFinal : ByteArray := prog_9_method_17_code
abbrev mi_Mo_isFinal : String × ByteArray × Nat × Option FieldType × Room := ("TamedClassSetModel", c_Mo_isFinal, 2, some .boolean, { frames := 0, cells := 0, slots := 0, locals := 0 })
def y_Mo_inLine : MethodName := ⟨"TamedClassSetModel", "inLine", "(II)Z"⟩
abbrev c_Mo_inLine : ByteArray := prog_9_method_11_code
abbrev mi_Mo_inLine : String × ByteArray × Nat × Option FieldType × Room := ("TamedClassSetModel", c_Mo_inLine, 5, some .boolean, { frames := 0, cells := 0, slots := 0, locals := 0 })
def y_Mo_marked : MethodName := ⟨"TamedClassSetModel", "marked", "(II)Z"⟩
abbrev c_Mo_marked : ByteArray := prog_9_method_12_code
abbrev mi_Mo_marked : String × ByteArray × Nat × Option FieldType × Room := ("TamedClassSetModel", c_Mo_marked, 5, some .boolean, { frames := 1, cells := 0, slots := 0, locals := 24 })
def y_Mo_powerless : MethodName := ⟨"TamedClassSetModel", "powerless", "(I)Z"⟩
abbrev c_Mo_powerless : ByteArray := prog_9_method_14_code
abbrev mi_Mo_powerless : String × ByteArray × Nat × Option FieldType × Room := ("TamedClassSetModel", c_Mo_powerless, 2, some .boolean, { frames := 2, cells := 0, slots := 0, locals := 48 })
def y_Mo_looseStatic : MethodName := ⟨"TamedClassSetModel", "looseStatic", "(I)Z"⟩
abbrev c_Mo_looseStatic : ByteArray := prog_9_method_35_code
abbrev mi_Mo_looseStatic : String × ByteArray × Nat × Option FieldType × Room := ("TamedClassSetModel", c_Mo_looseStatic, 2, some .boolean, { frames := 3, cells := 0, slots := 0, locals := 69 })
def y_Mo_owns : MethodName := ⟨"TamedClassSetModel", "owns", "(II)Z"⟩
abbrev c_Mo_owns : ByteArray := prog_9_method_18_code
abbrev mi_Mo_owns : String × ByteArray × Nat × Option FieldType × Room := ("TamedClassSetModel", c_Mo_owns, 3, some .boolean, { frames := 1, cells := 0, slots := 0, locals := 24 })
def y_Mo_immutable : MethodName := ⟨"TamedClassSetModel", "immutable", "(I)Z"⟩
abbrev c_Mo_immutable : ByteArray := prog_9_method_13_code
abbrev mi_Mo_immutable : String × ByteArray × Nat × Option FieldType × Room := ("TamedClassSetModel", c_Mo_immutable, 2, some .boolean, { frames := 2, cells := 0, slots := 0, locals := 48 })
def y_Mo_looseField : MethodName := ⟨"TamedClassSetModel", "looseField", "(I)Z"⟩
abbrev c_Mo_looseField : ByteArray := prog_9_method_36_code
abbrev mi_Mo_looseField : String × ByteArray × Nat × Option FieldType × Room := ("TamedClassSetModel", c_Mo_looseField, 4, some .boolean, { frames := 3, cells := 0, slots := 0, locals := 69 })
def y_Mo_unlike : MethodName := ⟨"TamedClassSetModel", "unlike", "(I)Z"⟩
abbrev c_Mo_unlike : ByteArray := prog_9_method_37_code
abbrev mi_Mo_unlike : String × ByteArray × Nat × Option FieldType × Room := ("TamedClassSetModel", c_Mo_unlike, 6, some .boolean, { frames := 1, cells := 0, slots := 0, locals := 24 })
def y_Mo_led : MethodName := ⟨"TamedClassSetModel", "led", "(III)Z"⟩
abbrev c_Mo_led : ByteArray := prog_9_method_32_code
abbrev mi_Mo_led : String × ByteArray × Nat × Option FieldType × Room := ("TamedClassSetModel", c_Mo_led, 5, some .boolean, { frames := 0, cells := 0, slots := 0, locals := 0 })
def y_Mo_depth : MethodName := ⟨"TamedClassSetModel", "depth", "(I)I"⟩
abbrev c_Mo_depth : ByteArray := prog_9_method_20_code
abbrev mi_Mo_depth : String × ByteArray × Nat × Option FieldType × Room := ("TamedClassSetModel", c_Mo_depth, 2, some .int, { frames := 0, cells := 0, slots := 0, locals := 0 })
def y_Mo_give : MethodName := ⟨"TamedClassSetModel", "give", "(II)I"⟩
abbrev c_Mo_give : ByteArray := prog_9_method_25_code
abbrev mi_Mo_give : String × ByteArray × Nat × Option FieldType × Room := ("TamedClassSetModel", c_Mo_give, 3, some .int, { frames := 1, cells := 0, slots := 0, locals := 21 })
def y_Mo_loaded : MethodName := ⟨"TamedClassSetModel", "loaded", "(II)I"⟩
abbrev c_Mo_loaded : ByteArray := prog_9_method_26_code
abbrev mi_Mo_loaded : String × ByteArray × Nat × Option FieldType × Room := ("TamedClassSetModel", c_Mo_loaded, 4, some .int, { frames := 2, cells := 0, slots := 0, locals := 43 })
def y_Mo_typeAt : MethodName := ⟨"TamedClassSetModel", "typeAt", "(II)I"⟩
abbrev c_Mo_typeAt : ByteArray := prog_9_method_21_code
abbrev mi_Mo_typeAt : String × ByteArray × Nat × Option FieldType × Room := ("TamedClassSetModel", c_Mo_typeAt, 3, some .int, { frames := 1, cells := 0, slots := 0, locals := 21 })
def y_Mo_drop : MethodName := ⟨"TamedClassSetModel", "drop", "(I)I"⟩
abbrev c_Mo_drop : ByteArray := prog_9_method_22_code
abbrev mi_Mo_drop : String × ByteArray × Nat × Option FieldType × Room := ("TamedClassSetModel", c_Mo_drop, 2, some .int, { frames := 1, cells := 0, slots := 0, locals := 21 })
def y_Mo_stored : MethodName := ⟨"TamedClassSetModel", "stored", "(II)I"⟩
abbrev c_Mo_stored : ByteArray := prog_9_method_27_code
abbrev mi_Mo_stored : String × ByteArray × Nat × Option FieldType × Room := ("TamedClassSetModel", c_Mo_stored, 5, some .int, { frames := 2, cells := 0, slots := 0, locals := 43 })
def y_Mo_fits : MethodName := ⟨"TamedClassSetModel", "fits", "(II)Z"⟩
abbrev c_Mo_fits : ByteArray := prog_9_method_15_code
abbrev mi_Mo_fits : String × ByteArray × Nat × Option FieldType × Room := ("TamedClassSetModel", c_Mo_fits, 3, some .boolean, { frames := 1, cells := 0, slots := 0, locals := 24 })
def y_Mo_take : MethodName := ⟨"TamedClassSetModel", "take", "(II)I"⟩
abbrev c_Mo_take : ByteArray := prog_9_method_23_code
abbrev mi_Mo_take : String × ByteArray × Nat × Option FieldType × Room := ("TamedClassSetModel", c_Mo_take, 4, some .int, { frames := 2, cells := 0, slots := 0, locals := 46 })
def y_Mo_makes : MethodName := ⟨"TamedClassSetModel", "makes", "(II)I"⟩
abbrev c_Mo_makes : ByteArray := prog_9_method_28_code
abbrev mi_Mo_makes : String × ByteArray × Nat × Option FieldType × Room := ("TamedClassSetModel", c_Mo_makes, 5, some .int, { frames := 3, cells := 0, slots := 0, locals := 69 })
def y_Mo_isField : MethodName := ⟨"TamedClassSetModel", "isField", "(IZ)Z"⟩
abbrev c_Mo_isField : ByteArray := prog_9_method_19_code
abbrev mi_Mo_isField : String × ByteArray × Nat × Option FieldType × Room := ("TamedClassSetModel", c_Mo_isField, 3, some .boolean, { frames := 1, cells := 0, slots := 0, locals := 21 })
def y_Mo_fielded : MethodName := ⟨"TamedClassSetModel", "fielded", "(III)I"⟩
abbrev c_Mo_fielded : ByteArray := prog_9_method_30_code
abbrev mi_Mo_fielded : String × ByteArray × Nat × Option FieldType × Room := ("TamedClassSetModel", c_Mo_fielded, 6, some .int, { frames := 3, cells := 0, slots := 0, locals := 69 })
def y_Mo_calls : MethodName := ⟨"TamedClassSetModel", "calls", "(II)I"⟩
abbrev c_Mo_calls : ByteArray := prog_9_method_29_code
abbrev mi_Mo_calls : String × ByteArray × Nat × Option FieldType × Room := ("TamedClassSetModel", c_Mo_calls, 4, some .int, { frames := 3, cells := 0, slots := 0, locals := 69 })
def y_Mo_takeThing : MethodName := ⟨"TamedClassSetModel", "takeThing", "(I)I"⟩
abbrev c_Mo_takeThing : ByteArray := prog_9_method_24_code
abbrev mi_Mo_takeThing : String × ByteArray × Nat × Option FieldType × Room := ("TamedClassSetModel", c_Mo_takeThing, 2, some .int, { frames := 2, cells := 0, slots := 0, locals := 43 })
def y_Mo_after : MethodName := ⟨"TamedClassSetModel", "after", "(II)I"⟩
abbrev c_Mo_after : ByteArray := prog_9_method_31_code
abbrev mi_Mo_after : String × ByteArray × Nat × Option FieldType × Room := ("TamedClassSetModel", c_Mo_after, 6, some .int, { frames := 4, cells := 0, slots := 0, locals := 94 })
def y_Mo_onward : MethodName := ⟨"TamedClassSetModel", "onward", "(II)Z"⟩
abbrev c_Mo_onward : ByteArray := prog_9_method_33_code
abbrev mi_Mo_onward : String × ByteArray × Nat × Option FieldType × Room := ("TamedClassSetModel", c_Mo_onward, 6, some .boolean, { frames := 5, cells := 0, slots := 0, locals := 119 })
def y_Mo_fitsTypes : MethodName := ⟨"TamedClassSetModel", "fitsTypes", "(I)Z"⟩
abbrev c_Mo_fitsTypes : ByteArray := prog_9_method_34_code
abbrev mi_Mo_fitsTypes : String × ByteArray × Nat × Option FieldType × Room := ("TamedClassSetModel", c_Mo_fitsTypes, 7, some .boolean, { frames := 6, cells := 0, slots := 0, locals := 144 })
def y_Mo_wild : MethodName := ⟨"TamedClassSetModel", "wild", "(II)Z"⟩
abbrev c_Mo_wild : ByteArray := prog_9_method_38_code
abbrev mi_Mo_wild : String × ByteArray × Nat × Option FieldType × Room := ("TamedClassSetModel", c_Mo_wild, 5, some .boolean, { frames := 3, cells := 0, slots := 0, locals := 69 })
def y_Mo_broken : MethodName := ⟨"TamedClassSetModel", "broken", "()I"⟩
abbrev c_Mo_broken : ByteArray := prog_9_method_39_code
abbrev mi_Mo_broken : String × ByteArray × Nat × Option FieldType × Room := ("TamedClassSetModel", c_Mo_broken, 4, some .int, { frames := 7, cells := 0, slots := 0, locals := 170 })
def y_Mo_check : MethodName := ⟨"TamedClassSetModel", "check", "()I"⟩
abbrev c_Mo_check : ByteArray := prog_9_method_40_code
abbrev mi_Mo_check : String × ByteArray × Nat × Option FieldType × Room := ("TamedClassSetModel", c_Mo_check, 2, some .int, { frames := 8, cells := 0, slots := 0, locals := 193 })
def y_Mo_typesAt : MethodName := ⟨"TamedClassSetModel", "typesAt", "(II)I"⟩
abbrev c_Mo_typesAt : ByteArray := prog_9_method_41_code
abbrev mi_Mo_typesAt : String × ByteArray × Nat × Option FieldType × Room := ("TamedClassSetModel", c_Mo_typesAt, 3, some .int, { frames := 1, cells := 0, slots := 0, locals := 21 })
def y_Mo_holds : MethodName := ⟨"TamedClassSetModel", "holds", "(I)Z"⟩
abbrev c_Mo_holds : ByteArray := prog_9_method_54_code
abbrev mi_Mo_holds : String × ByteArray × Nat × Option FieldType × Room := ("TamedClassSetModel", c_Mo_holds, 2, some .boolean, { frames := 0, cells := 0, slots := 0, locals := 0 })
def y_Mo_refuses : MethodName := ⟨"TamedClassSetModel", "refuses", "(III)Z"⟩
abbrev c_Mo_refuses : ByteArray := prog_9_method_56_code
abbrev mi_Mo_refuses : String × ByteArray × Nat × Option FieldType × Room := ("TamedClassSetModel", c_Mo_refuses, 5, some .boolean, { frames := 2, cells := 0, slots := 0, locals := 46 })
def y_Mo_chosen : MethodName := ⟨"TamedClassSetModel", "chosen", "(II)I"⟩
abbrev c_Mo_chosen : ByteArray := prog_9_method_44_code
abbrev mi_Mo_chosen : String × ByteArray × Nat × Option FieldType × Room := ("TamedClassSetModel", c_Mo_chosen, 6, some .int, { frames := 1, cells := 0, slots := 0, locals := 23 })
def y_Mo_enter : MethodName := ⟨"TamedClassSetModel", "enter", "(III)V"⟩
abbrev c_Mo_enter : ByteArray := prog_9_method_45_code
abbrev mi_Mo_enter : String × ByteArray × Nat × Option FieldType × Room := ("TamedClassSetModel", c_Mo_enter, 5, none, { frames := 0, cells := 0, slots := 0, locals := 0 })
def y_Mo_pop : MethodName := ⟨"TamedClassSetModel", "pop", "()I"⟩
abbrev c_Mo_pop : ByteArray := prog_9_method_43_code
abbrev mi_Mo_pop : String × ByteArray × Nat × Option FieldType × Room := ("TamedClassSetModel", c_Mo_pop, 2, some .int, { frames := 0, cells := 0, slots := 0, locals := 0 })
def y_Mo_push : MethodName := ⟨"TamedClassSetModel", "push", "(I)V"⟩
abbrev c_Mo_push : ByteArray := prog_9_method_42_code
abbrev mi_Mo_push : String × ByteArray × Nat × Option FieldType × Room := ("TamedClassSetModel", c_Mo_push, 3, none, { frames := 0, cells := 0, slots := 0, locals := 0 })
def y_Mo_make : MethodName := ⟨"TamedClassSetModel", "make", "(I)I"⟩
abbrev c_Mo_make : ByteArray := prog_9_method_47_code
abbrev mi_Mo_make : String × ByteArray × Nat × Option FieldType × Room := ("TamedClassSetModel", c_Mo_make, 3, some .int, { frames := 2, cells := 0, slots := 0, locals := 46 })
def y_Mo_slotted : MethodName := ⟨"TamedClassSetModel", "slotted", "(ZI)I"⟩
abbrev c_Mo_slotted : ByteArray := prog_9_method_48_code
abbrev mi_Mo_slotted : String × ByteArray × Nat × Option FieldType × Room := ("TamedClassSetModel", c_Mo_slotted, 6, some .int, { frames := 1, cells := 0, slots := 0, locals := 22 })
def y_Mo_call : MethodName := ⟨"TamedClassSetModel", "call", "(I)I"⟩
abbrev c_Mo_call : ByteArray := prog_9_method_46_code
abbrev mi_Mo_call : String × ByteArray × Nat × Option FieldType × Room := ("TamedClassSetModel", c_Mo_call, 4, some .int, { frames := 2, cells := 0, slots := 0, locals := 48 })
def y_Mo_sum : MethodName := ⟨"TamedClassSetModel", "sum", "(I)V"⟩
abbrev c_Mo_sum : ByteArray := prog_9_method_50_code
abbrev mi_Mo_sum : String × ByteArray × Nat × Option FieldType × Room := ("TamedClassSetModel", c_Mo_sum, 4, none, { frames := 1, cells := 0, slots := 0, locals := 22 })
def y_Mo_bits : MethodName := ⟨"TamedClassSetModel", "bits", "(I)I"⟩
abbrev c_Mo_bits : ByteArray := prog_9_method_49_code
abbrev mi_Mo_bits : String × ByteArray × Nat × Option FieldType × Room := ("TamedClassSetModel", c_Mo_bits, 3, some .int, { frames := 0, cells := 0, slots := 0, locals := 0 })
def y_Mo_library : MethodName := ⟨"TamedClassSetModel", "library", "(I)V"⟩
abbrev c_Mo_library : ByteArray := prog_9_method_51_code
abbrev mi_Mo_library : String × ByteArray × Nat × Option FieldType × Room := ("TamedClassSetModel", c_Mo_library, 3, none, { frames := 1, cells := 0, slots := 0, locals := 22 })
def y_Mo_back : MethodName := ⟨"TamedClassSetModel", "back", "()V"⟩
abbrev c_Mo_back : ByteArray := prog_9_method_52_code
abbrev mi_Mo_back : String × ByteArray × Nat × Option FieldType × Room := ("TamedClassSetModel", c_Mo_back, 2, none, { frames := 1, cells := 0, slots := 0, locals := 22 })
def y_Mo_once : MethodName := ⟨"TamedClassSetModel", "once", "()I"⟩
abbrev c_Mo_once : ByteArray := prog_9_method_53_code
abbrev mi_Mo_once : String × ByteArray × Nat × Option FieldType × Room := ("TamedClassSetModel", c_Mo_once, 6, some .int, { frames := 3, cells := 0, slots := 0, locals := 71 })
def y_Mo_shown : MethodName := ⟨"TamedClassSetModel", "shown", "(I)J"⟩
abbrev c_Mo_shown : ByteArray := prog_9_method_55_code
abbrev mi_Mo_shown : String × ByteArray × Nat × Option FieldType × Room := ("TamedClassSetModel", c_Mo_shown, 3, some .long, { frames := 0, cells := 0, slots := 0, locals := 0 })
def y_Mo_run : MethodName := ⟨"TamedClassSetModel", "run", "(III)J"⟩
abbrev c_Mo_run : ByteArray := prog_9_method_57_code
abbrev mi_Mo_run : String × ByteArray × Nat × Option FieldType × Room := ("TamedClassSetModel", c_Mo_run, 7, some .long, { frames := 4, cells := 0, slots := 0, locals := 96 })
def y_Mo_look : MethodName := ⟨"TamedClassSetModel", "look", "(II)J"⟩
abbrev c_Mo_look : ByteArray := prog_9_method_58_code
abbrev mi_Mo_look : String × ByteArray × Nat × Option FieldType × Room := ("TamedClassSetModel", c_Mo_look, 6, some .long, { frames := 2, cells := 0, slots := 0, locals := 46 })
def y_Mo_held : MethodName := ⟨"TamedClassSetModel", "held", "(I)I"⟩
abbrev c_Mo_held : ByteArray := prog_9_method_59_code
abbrev mi_Mo_held : String × ByteArray × Nat × Option FieldType × Room := ("TamedClassSetModel", c_Mo_held, 2, some .int, { frames := 1, cells := 0, slots := 0, locals := 21 })
def y_Mo_runs : MethodName := ⟨"TamedClassSetModel", "runs", "()I"⟩
abbrev c_Mo_runs : ByteArray := prog_9_method_60_code
abbrev mi_Mo_runs : String × ByteArray × Nat × Option FieldType × Room := ("TamedClassSetModel", c_Mo_runs, 1, some .int, { frames := 0, cells := 0, slots := 0, locals := 0 })
def y_Mo_steps : MethodName := ⟨"TamedClassSetModel", "steps", "()I"⟩
abbrev c_Mo_steps : ByteArray := prog_9_method_61_code
abbrev mi_Mo_steps : String × ByteArray × Nat × Option FieldType × Room := ("TamedClassSetModel", c_Mo_steps, 1, some .int, { frames := 0, cells := 0, slots := 0, locals := 0 })
end
section
theorem tw_1_1 : Jvm.Cond.initialized "TamedClassSet" ∈ tx_ws := List.mem_filter.mpr ⟨List.mem_append_right _ (List.mem_append_left _ (List.mem_of_getElem? (i := 1) rfl)), rfl⟩
theorem tw_1_2 : Jvm.Cond.initialized "TamedClassSet$Plan" ∈ tx_ws := List.mem_filter.mpr ⟨List.mem_append_right _ (List.mem_append_left _ (List.mem_of_getElem? (i := 2) rfl)), rfl⟩
theorem tw_1_3 : Jvm.Cond.initialized "TamedClassSet$Fitting" ∈ tx_ws := List.mem_filter.mpr ⟨List.mem_append_right _ (List.mem_append_left _ (List.mem_of_getElem? (i := 3) rfl)), rfl⟩
theorem tw_1_4 : Jvm.Cond.initialized "TamedClassSet$Rules" ∈ tx_ws := List.mem_filter.mpr ⟨List.mem_append_right _ (List.mem_append_left _ (List.mem_of_getElem? (i := 4) rfl)), rfl⟩
theorem tw_1_5 : Jvm.Cond.initialized "TamedClassSet$Heap" ∈ tx_ws := List.mem_filter.mpr ⟨List.mem_append_right _ (List.mem_append_left _ (List.mem_of_getElem? (i := 5) rfl)), rfl⟩
theorem tw_1_6 : Jvm.Cond.initialized "TamedClassSet$Machine" ∈ tx_ws := List.mem_filter.mpr ⟨List.mem_append_right _ (List.mem_append_left _ (List.mem_of_getElem? (i := 6) rfl)), rfl⟩
theorem tw_1_7 : Jvm.Cond.initialized "TamedClassSet$Frame" ∈ tx_ws := List.mem_filter.mpr ⟨List.mem_append_right _ (List.mem_append_left _ (List.mem_of_getElem? (i := 7) rfl)), rfl⟩
theorem tw_1_8 : Jvm.Cond.initialized "TamedClassSetModel" ∈ tx_ws := List.mem_filter.mpr ⟨List.mem_append_right _ (List.mem_append_left _ (List.mem_of_getElem? (i := 8) rfl)), rfl⟩
theorem tw_1_9 : Jvm.Cond.initialized "java/util/Arrays" ∈ tx_ws := List.mem_filter.mpr ⟨List.mem_append_right _ (List.mem_append_left _ (List.mem_of_getElem? (i := 9) rfl)), rfl⟩
theorem tw_1_10 : Jvm.Cond.initialized "java/lang/Math" ∈ tx_ws := List.mem_filter.mpr ⟨List.mem_append_right _ (List.mem_append_left _ (List.mem_of_getElem? (i := 10) rfl)), rfl⟩
theorem tw_1_11 : Jvm.Cond.initialized "java/lang/Integer" ∈ tx_ws := List.mem_filter.mpr ⟨List.mem_append_right _ (List.mem_append_left _ (List.mem_of_getElem? (i := 11) rfl)), rfl⟩
theorem tw_1_26 : Jvm.Cond.fieldLink "TamedClassSet$Plan" (51 : Nat) "TamedClassSet$Plan" "classCount" "I" ∈ tx_ws := List.mem_filter.mpr ⟨List.mem_append_right _ (List.mem_append_left _ (List.mem_of_getElem? (i := 26) rfl)), rfl⟩
theorem tw_1_27 : Jvm.Cond.fieldLink "TamedClassSet" (65 : Nat) "TamedClassSet$Plan" "classCount" "I" ∈ tx_ws := List.mem_filter.mpr ⟨List.mem_append_right _ (List.mem_append_left _ (List.mem_of_getElem? (i := 27) rfl)), rfl⟩
theorem tw_1_28 : Jvm.Cond.fieldLink "TamedClassSet$Rules" (66 : Nat) "TamedClassSet$Plan" "classCount" "I" ∈ tx_ws := List.mem_filter.mpr ⟨List.mem_append_right _ (List.mem_append_left _ (List.mem_of_getElem? (i := 28) rfl)), rfl⟩
theorem tw_1_29 : Jvm.Cond.fieldLink "TamedClassSet$Rules" (19 : Nat) "TamedClassSet$Plan" "fieldCount" "I" ∈ tx_ws := List.mem_filter.mpr ⟨List.mem_append_right _ (List.mem_append_left _ (List.mem_of_getElem? (i := 29) rfl)), rfl⟩
theorem tw_1_30 : Jvm.Cond.fieldLink "TamedClassSet$Plan" (55 : Nat) "TamedClassSet$Plan" "fieldCount" "I" ∈ tx_ws := List.mem_filter.mpr ⟨List.mem_append_right _ (List.mem_append_left _ (List.mem_of_getElem? (i := 30) rfl)), rfl⟩
theorem tw_1_31 : Jvm.Cond.fieldLink "TamedClassSet" (75 : Nat) "TamedClassSet$Plan" "fieldCount" "I" ∈ tx_ws := List.mem_filter.mpr ⟨List.mem_append_right _ (List.mem_append_left _ (List.mem_of_getElem? (i := 31) rfl)), rfl⟩
theorem tw_1_32 : Jvm.Cond.fieldLink "TamedClassSet$Machine" (116 : Nat) "TamedClassSet$Plan" "fieldCount" "I" ∈ tx_ws := List.mem_filter.mpr ⟨List.mem_append_right _ (List.mem_append_left _ (List.mem_of_getElem? (i := 32) rfl)), rfl⟩
theorem tw_1_33 : Jvm.Cond.fieldLink "TamedClassSet$Fitting" (147 : Nat) "TamedClassSet$Plan" "fieldCount" "I" ∈ tx_ws := List.mem_filter.mpr ⟨List.mem_append_right _ (List.mem_append_left _ (List.mem_of_getElem? (i := 33) rfl)), rfl⟩
theorem tw_1_34 : Jvm.Cond.fieldLink "TamedClassSet$Rules" (32 : Nat) "TamedClassSet$Plan" "methodCount" "I" ∈ tx_ws := List.mem_filter.mpr ⟨List.mem_append_right _ (List.mem_append_left _ (List.mem_of_getElem? (i := 34) rfl)), rfl⟩
theorem tw_1_35 : Jvm.Cond.fieldLink "TamedClassSet$Plan" (58 : Nat) "TamedClassSet$Plan" "methodCount" "I" ∈ tx_ws := List.mem_filter.mpr ⟨List.mem_append_right _ (List.mem_append_left _ (List.mem_of_getElem? (i := 35) rfl)), rfl⟩
theorem tw_1_36 : Jvm.Cond.fieldLink "TamedClassSet" (85 : Nat) "TamedClassSet$Plan" "methodCount" "I" ∈ tx_ws := List.mem_filter.mpr ⟨List.mem_append_right _ (List.mem_append_left _ (List.mem_of_getElem? (i := 36) rfl)), rfl⟩
theorem tw_1_37 : Jvm.Cond.fieldLink "TamedClassSet$Plan" (9 : Nat) "TamedClassSet$Plan" "lines" "[I" ∈ tx_ws := List.mem_filter.mpr ⟨List.mem_append_right _ (List.mem_append_left _ (List.mem_of_getElem? (i := 37) rfl)), rfl⟩
theorem tw_1_38 : Jvm.Cond.fieldLink "TamedClassSet$Plan" (15 : Nat) "TamedClassSet$Plan" "lineMarks" "[I" ∈ tx_ws := List.mem_filter.mpr ⟨List.mem_append_right _ (List.mem_append_left _ (List.mem_of_getElem? (i := 38) rfl)), rfl⟩
theorem tw_1_39 : Jvm.Cond.fieldLink "TamedClassSet$Plan" (18 : Nat) "TamedClassSet$Plan" "fieldClass" "[I" ∈ tx_ws := List.mem_filter.mpr ⟨List.mem_append_right _ (List.mem_append_left _ (List.mem_of_getElem? (i := 39) rfl)), rfl⟩
theorem tw_1_40 : Jvm.Cond.fieldLink "TamedClassSet$Fitting" (162 : Nat) "TamedClassSet$Plan" "fieldClass" "[I" ∈ tx_ws := List.mem_filter.mpr ⟨List.mem_append_right _ (List.mem_append_left _ (List.mem_of_getElem? (i := 40) rfl)), rfl⟩
theorem tw_1_41 : Jvm.Cond.fieldLink "TamedClassSet$Plan" (21 : Nat) "TamedClassSet$Plan" "fieldHow" "[I" ∈ tx_ws := List.mem_filter.mpr ⟨List.mem_append_right _ (List.mem_append_left _ (List.mem_of_getElem? (i := 41) rfl)), rfl⟩
theorem tw_1_42 : Jvm.Cond.fieldLink "TamedClassSet$Plan" (24 : Nat) "TamedClassSet$Plan" "fieldType" "[I" ∈ tx_ws := List.mem_filter.mpr ⟨List.mem_append_right _ (List.mem_append_left _ (List.mem_of_getElem? (i := 42) rfl)), rfl⟩
theorem tw_1_43 : Jvm.Cond.fieldLink "TamedClassSet$Rules" (57 : Nat) "TamedClassSet$Plan" "fieldType" "[I" ∈ tx_ws := List.mem_filter.mpr ⟨List.mem_append_right _ (List.mem_append_left _ (List.mem_of_getElem? (i := 43) rfl)), rfl⟩
theorem tw_1_44 : Jvm.Cond.fieldLink "TamedClassSet" (165 : Nat) "TamedClassSet$Plan" "fieldType" "[I" ∈ tx_ws := List.mem_filter.mpr ⟨List.mem_append_right _ (List.mem_append_left _ (List.mem_of_getElem? (i := 44) rfl)), rfl⟩
theorem tw_1_45 : Jvm.Cond.fieldLink "TamedClassSet$Fitting" (153 : Nat) "TamedClassSet$Plan" "fieldType" "[I" ∈ tx_ws := List.mem_filter.mpr ⟨List.mem_append_right _ (List.mem_append_left _ (List.mem_of_getElem? (i := 45) rfl)), rfl⟩
theorem tw_1_46 : Jvm.Cond.fieldLink "TamedClassSet$Plan" (27 : Nat) "TamedClassSet$Plan" "methodClass" "[I" ∈ tx_ws := List.mem_filter.mpr ⟨List.mem_append_right _ (List.mem_append_left _ (List.mem_of_getElem? (i := 46) rfl)), rfl⟩
theorem tw_1_47 : Jvm.Cond.fieldLink "TamedClassSet$Fitting" (87 : Nat) "TamedClassSet$Plan" "methodClass" "[I" ∈ tx_ws := List.mem_filter.mpr ⟨List.mem_append_right _ (List.mem_append_left _ (List.mem_of_getElem? (i := 47) rfl)), rfl⟩
theorem tw_1_48 : Jvm.Cond.fieldLink "TamedClassSet$Rules" (73 : Nat) "TamedClassSet$Plan" "methodClass" "[I" ∈ tx_ws := List.mem_filter.mpr ⟨List.mem_append_right _ (List.mem_append_left _ (List.mem_of_getElem? (i := 48) rfl)), rfl⟩
theorem tw_1_49 : Jvm.Cond.fieldLink "TamedClassSet" (174 : Nat) "TamedClassSet$Plan" "methodClass" "[I" ∈ tx_ws := List.mem_filter.mpr ⟨List.mem_append_right _ (List.mem_append_left _ (List.mem_of_getElem? (i := 49) rfl)), rfl⟩
theorem tw_1_50 : Jvm.Cond.fieldLink "TamedClassSet$Plan" (30 : Nat) "TamedClassSet$Plan" "methodHow" "[I" ∈ tx_ws := List.mem_filter.mpr ⟨List.mem_append_right _ (List.mem_append_left _ (List.mem_of_getElem? (i := 50) rfl)), rfl⟩
theorem tw_1_51 : Jvm.Cond.fieldLink "TamedClassSet$Plan" (33 : Nat) "TamedClassSet$Plan" "methodName" "[I" ∈ tx_ws := List.mem_filter.mpr ⟨List.mem_append_right _ (List.mem_append_left _ (List.mem_of_getElem? (i := 51) rfl)), rfl⟩
theorem tw_1_52 : Jvm.Cond.fieldLink "TamedClassSet$Rules" (79 : Nat) "TamedClassSet$Plan" "methodName" "[I" ∈ tx_ws := List.mem_filter.mpr ⟨List.mem_append_right _ (List.mem_append_left _ (List.mem_of_getElem? (i := 52) rfl)), rfl⟩
theorem tw_1_53 : Jvm.Cond.fieldLink "TamedClassSet$Plan" (36 : Nat) "TamedClassSet$Plan" "methodParam" "[I" ∈ tx_ws := List.mem_filter.mpr ⟨List.mem_append_right _ (List.mem_append_left _ (List.mem_of_getElem? (i := 53) rfl)), rfl⟩
theorem tw_1_54 : Jvm.Cond.fieldLink "TamedClassSet$Fitting" (90 : Nat) "TamedClassSet$Plan" "methodParam" "[I" ∈ tx_ws := List.mem_filter.mpr ⟨List.mem_append_right _ (List.mem_append_left _ (List.mem_of_getElem? (i := 54) rfl)), rfl⟩
theorem tw_1_55 : Jvm.Cond.fieldLink "TamedClassSet$Rules" (88 : Nat) "TamedClassSet$Plan" "methodParam" "[I" ∈ tx_ws := List.mem_filter.mpr ⟨List.mem_append_right _ (List.mem_append_left _ (List.mem_of_getElem? (i := 55) rfl)), rfl⟩
theorem tw_1_56 : Jvm.Cond.fieldLink "TamedClassSet" (125 : Nat) "TamedClassSet$Plan" "methodParam" "[I" ∈ tx_ws := List.mem_filter.mpr ⟨List.mem_append_right _ (List.mem_append_left _ (List.mem_of_getElem? (i := 56) rfl)), rfl⟩
theorem tw_1_57 : Jvm.Cond.fieldLink "TamedClassSet$Machine" (128 : Nat) "TamedClassSet$Plan" "methodParam" "[I" ∈ tx_ws := List.mem_filter.mpr ⟨List.mem_append_right _ (List.mem_append_left _ (List.mem_of_getElem? (i := 57) rfl)), rfl⟩
theorem tw_1_58 : Jvm.Cond.fieldLink "TamedClassSet$Plan" (39 : Nat) "TamedClassSet$Plan" "methodResult" "[I" ∈ tx_ws := List.mem_filter.mpr ⟨List.mem_append_right _ (List.mem_append_left _ (List.mem_of_getElem? (i := 58) rfl)), rfl⟩
theorem tw_1_59 : Jvm.Cond.fieldLink "TamedClassSet$Rules" (91 : Nat) "TamedClassSet$Plan" "methodResult" "[I" ∈ tx_ws := List.mem_filter.mpr ⟨List.mem_append_right _ (List.mem_append_left _ (List.mem_of_getElem? (i := 59) rfl)), rfl⟩
theorem tw_1_60 : Jvm.Cond.fieldLink "TamedClassSet" (139 : Nat) "TamedClassSet$Plan" "methodResult" "[I" ∈ tx_ws := List.mem_filter.mpr ⟨List.mem_append_right _ (List.mem_append_left _ (List.mem_of_getElem? (i := 60) rfl)), rfl⟩
theorem tw_1_61 : Jvm.Cond.fieldLink "TamedClassSet$Fitting" (135 : Nat) "TamedClassSet$Plan" "methodResult" "[I" ∈ tx_ws := List.mem_filter.mpr ⟨List.mem_append_right _ (List.mem_append_left _ (List.mem_of_getElem? (i := 61) rfl)), rfl⟩
theorem tw_1_62 : Jvm.Cond.fieldLink "TamedClassSet$Plan" (42 : Nat) "TamedClassSet$Plan" "codeLength" "[I" ∈ tx_ws := List.mem_filter.mpr ⟨List.mem_append_right _ (List.mem_append_left _ (List.mem_of_getElem? (i := 62) rfl)), rfl⟩
theorem tw_1_63 : Jvm.Cond.fieldLink "TamedClassSet$Rules" (43 : Nat) "TamedClassSet$Plan" "codeLength" "[I" ∈ tx_ws := List.mem_filter.mpr ⟨List.mem_append_right _ (List.mem_append_left _ (List.mem_of_getElem? (i := 63) rfl)), rfl⟩
theorem tw_1_64 : Jvm.Cond.fieldLink "TamedClassSet$Fitting" (65 : Nat) "TamedClassSet$Plan" "codeLength" "[I" ∈ tx_ws := List.mem_filter.mpr ⟨List.mem_append_right _ (List.mem_append_left _ (List.mem_of_getElem? (i := 64) rfl)), rfl⟩
theorem tw_1_65 : Jvm.Cond.fieldLink "TamedClassSet" (95 : Nat) "TamedClassSet$Plan" "codeLength" "[I" ∈ tx_ws := List.mem_filter.mpr ⟨List.mem_append_right _ (List.mem_append_left _ (List.mem_of_getElem? (i := 65) rfl)), rfl⟩
theorem tw_1_66 : Jvm.Cond.fieldLink "TamedClassSet$Plan" (45 : Nat) "TamedClassSet$Plan" "ops" "[I" ∈ tx_ws := List.mem_filter.mpr ⟨List.mem_append_right _ (List.mem_append_left _ (List.mem_of_getElem? (i := 66) rfl)), rfl⟩
theorem tw_1_67 : Jvm.Cond.fieldLink "TamedClassSet$Fitting" (49 : Nat) "TamedClassSet$Plan" "ops" "[I" ∈ tx_ws := List.mem_filter.mpr ⟨List.mem_append_right _ (List.mem_append_left _ (List.mem_of_getElem? (i := 67) rfl)), rfl⟩
theorem tw_1_68 : Jvm.Cond.fieldLink "TamedClassSet$Machine" (73 : Nat) "TamedClassSet$Plan" "ops" "[I" ∈ tx_ws := List.mem_filter.mpr ⟨List.mem_append_right _ (List.mem_append_left _ (List.mem_of_getElem? (i := 68) rfl)), rfl⟩
theorem tw_1_69 : Jvm.Cond.fieldLink "TamedClassSet$Rules" (94 : Nat) "TamedClassSet$Plan" "ops" "[I" ∈ tx_ws := List.mem_filter.mpr ⟨List.mem_append_right _ (List.mem_append_left _ (List.mem_of_getElem? (i := 69) rfl)), rfl⟩
theorem tw_1_70 : Jvm.Cond.fieldLink "TamedClassSet$Plan" (48 : Nat) "TamedClassSet$Plan" "operands" "[I" ∈ tx_ws := List.mem_filter.mpr ⟨List.mem_append_right _ (List.mem_append_left _ (List.mem_of_getElem? (i := 70) rfl)), rfl⟩
theorem tw_1_71 : Jvm.Cond.fieldLink "TamedClassSet$Fitting" (54 : Nat) "TamedClassSet$Plan" "operands" "[I" ∈ tx_ws := List.mem_filter.mpr ⟨List.mem_append_right _ (List.mem_append_left _ (List.mem_of_getElem? (i := 71) rfl)), rfl⟩
theorem tw_1_72 : Jvm.Cond.fieldLink "TamedClassSet$Machine" (76 : Nat) "TamedClassSet$Plan" "operands" "[I" ∈ tx_ws := List.mem_filter.mpr ⟨List.mem_append_right _ (List.mem_append_left _ (List.mem_of_getElem? (i := 72) rfl)), rfl⟩
theorem tw_1_73 : Jvm.Cond.fieldLink "TamedClassSet$Rules" (97 : Nat) "TamedClassSet$Plan" "operands" "[I" ∈ tx_ws := List.mem_filter.mpr ⟨List.mem_append_right _ (List.mem_append_left _ (List.mem_of_getElem? (i := 73) rfl)), rfl⟩
theorem tw_1_74 : Jvm.Cond.lays "TamedClassSet$Plan" "TamedClassSet$Plan" "classCount" "I" ∈ tx_ws := List.mem_filter.mpr ⟨List.mem_append_right _ (List.mem_append_left _ (List.mem_of_getElem? (i := 74) rfl)), rfl⟩
theorem tw_1_76 : Jvm.Cond.lays "TamedClassSet$Plan" "TamedClassSet$Plan" "fieldCount" "I" ∈ tx_ws := List.mem_filter.mpr ⟨List.mem_append_right _ (List.mem_append_left _ (List.mem_of_getElem? (i := 76) rfl)), rfl⟩
theorem tw_1_78 : Jvm.Cond.lays "TamedClassSet$Plan" "TamedClassSet$Plan" "methodCount" "I" ∈ tx_ws := List.mem_filter.mpr ⟨List.mem_append_right _ (List.mem_append_left _ (List.mem_of_getElem? (i := 78) rfl)), rfl⟩
theorem tw_1_80 : Jvm.Cond.laysFinal "TamedClassSet$Plan" "TamedClassSet$Plan" "lines" "[I" ∈ tx_ws := List.mem_filter.mpr ⟨List.mem_append_right _ (List.mem_append_left _ (List.mem_of_getElem? (i := 80) rfl)), rfl⟩
theorem tw_1_82 : Jvm.Cond.laysFinal "TamedClassSet$Plan" "TamedClassSet$Plan" "lineMarks" "[I" ∈ tx_ws := List.mem_filter.mpr ⟨List.mem_append_right _ (List.mem_append_left _ (List.mem_of_getElem? (i := 82) rfl)), rfl⟩
theorem tw_1_84 : Jvm.Cond.laysFinal "TamedClassSet$Plan" "TamedClassSet$Plan" "fieldClass" "[I" ∈ tx_ws := List.mem_filter.mpr ⟨List.mem_append_right _ (List.mem_append_left _ (List.mem_of_getElem? (i := 84) rfl)), rfl⟩
theorem tw_1_86 : Jvm.Cond.laysFinal "TamedClassSet$Plan" "TamedClassSet$Plan" "fieldHow" "[I" ∈ tx_ws := List.mem_filter.mpr ⟨List.mem_append_right _ (List.mem_append_left _ (List.mem_of_getElem? (i := 86) rfl)), rfl⟩
theorem tw_1_88 : Jvm.Cond.laysFinal "TamedClassSet$Plan" "TamedClassSet$Plan" "fieldType" "[I" ∈ tx_ws := List.mem_filter.mpr ⟨List.mem_append_right _ (List.mem_append_left _ (List.mem_of_getElem? (i := 88) rfl)), rfl⟩
theorem tw_1_90 : Jvm.Cond.laysFinal "TamedClassSet$Plan" "TamedClassSet$Plan" "methodClass" "[I" ∈ tx_ws := List.mem_filter.mpr ⟨List.mem_append_right _ (List.mem_append_left _ (List.mem_of_getElem? (i := 90) rfl)), rfl⟩
theorem tw_1_92 : Jvm.Cond.laysFinal "TamedClassSet$Plan" "TamedClassSet$Plan" "methodHow" "[I" ∈ tx_ws := List.mem_filter.mpr ⟨List.mem_append_right _ (List.mem_append_left _ (List.mem_of_getElem? (i := 92) rfl)), rfl⟩
theorem tw_1_94 : Jvm.Cond.laysFinal "TamedClassSet$Plan" "TamedClassSet$Plan" "methodName" "[I" ∈ tx_ws := List.mem_filter.mpr ⟨List.mem_append_right _ (List.mem_append_left _ (List.mem_of_getElem? (i := 94) rfl)), rfl⟩
theorem tw_1_96 : Jvm.Cond.laysFinal "TamedClassSet$Plan" "TamedClassSet$Plan" "methodParam" "[I" ∈ tx_ws := List.mem_filter.mpr ⟨List.mem_append_right _ (List.mem_append_left _ (List.mem_of_getElem? (i := 96) rfl)), rfl⟩
theorem tw_1_98 : Jvm.Cond.laysFinal "TamedClassSet$Plan" "TamedClassSet$Plan" "methodResult" "[I" ∈ tx_ws := List.mem_filter.mpr ⟨List.mem_append_right _ (List.mem_append_left _ (List.mem_of_getElem? (i := 98) rfl)), rfl⟩
theorem tw_1_100 : Jvm.Cond.laysFinal "TamedClassSet$Plan" "TamedClassSet$Plan" "codeLength" "[I" ∈ tx_ws := List.mem_filter.mpr ⟨List.mem_append_right _ (List.mem_append_left _ (List.mem_of_getElem? (i := 100) rfl)), rfl⟩
theorem tw_1_102 : Jvm.Cond.laysFinal "TamedClassSet$Plan" "TamedClassSet$Plan" "ops" "[I" ∈ tx_ws := List.mem_filter.mpr ⟨List.mem_append_right _ (List.mem_append_left _ (List.mem_of_getElem? (i := 102) rfl)), rfl⟩
theorem tw_1_104 : Jvm.Cond.laysFinal "TamedClassSet$Plan" "TamedClassSet$Plan" "operands" "[I" ∈ tx_ws := List.mem_filter.mpr ⟨List.mem_append_right _ (List.mem_append_left _ (List.mem_of_getElem? (i := 104) rfl)), rfl⟩
theorem tw_1_114 : Jvm.Cond.fieldLink "TamedClassSet$Fitting" (9 : Nat) "TamedClassSet$Fitting" "before" "[I" ∈ tx_ws := List.mem_filter.mpr ⟨List.mem_append_right _ (List.mem_append_left _ (List.mem_of_getElem? (i := 114) rfl)), rfl⟩
theorem tw_1_115 : Jvm.Cond.fieldLink "TamedClassSet" (114 : Nat) "TamedClassSet$Fitting" "before" "[I" ∈ tx_ws := List.mem_filter.mpr ⟨List.mem_append_right _ (List.mem_append_left _ (List.mem_of_getElem? (i := 115) rfl)), rfl⟩
theorem tw_1_116 : Jvm.Cond.fieldLink "TamedClassSet$Fitting" (24 : Nat) "TamedClassSet$Fitting" "plan" "LTamedClassSet$Plan;" ∈ tx_ws := List.mem_filter.mpr ⟨List.mem_append_right _ (List.mem_append_left _ (List.mem_of_getElem? (i := 116) rfl)), rfl⟩
theorem tw_1_117 : Jvm.Cond.fieldLink "TamedClassSet$Fitting" (15 : Nat) "TamedClassSet$Fitting" "stack" "[I" ∈ tx_ws := List.mem_filter.mpr ⟨List.mem_append_right _ (List.mem_append_left _ (List.mem_of_getElem? (i := 117) rfl)), rfl⟩
theorem tw_1_118 : Jvm.Cond.fieldLink "TamedClassSet$Fitting" (18 : Nat) "TamedClassSet$Fitting" "locals" "[I" ∈ tx_ws := List.mem_filter.mpr ⟨List.mem_append_right _ (List.mem_append_left _ (List.mem_of_getElem? (i := 118) rfl)), rfl⟩
theorem tw_1_119 : Jvm.Cond.fieldLink "TamedClassSet$Fitting" (21 : Nat) "TamedClassSet$Fitting" "reached" "[I" ∈ tx_ws := List.mem_filter.mpr ⟨List.mem_append_right _ (List.mem_append_left _ (List.mem_of_getElem? (i := 119) rfl)), rfl⟩
theorem tw_1_120 : Jvm.Cond.fieldLink "TamedClassSet$Fitting" (35 : Nat) "TamedClassSet$Fitting" "reachedCount" "I" ∈ tx_ws := List.mem_filter.mpr ⟨List.mem_append_right _ (List.mem_append_left _ (List.mem_of_getElem? (i := 120) rfl)), rfl⟩
theorem tw_1_121 : Jvm.Cond.fieldLink "TamedClassSet$Fitting" (68 : Nat) "TamedClassSet$Fitting" "depth" "I" ∈ tx_ws := List.mem_filter.mpr ⟨List.mem_append_right _ (List.mem_append_left _ (List.mem_of_getElem? (i := 121) rfl)), rfl⟩
theorem tw_1_122 : Jvm.Cond.fieldLink "TamedClassSet$Fitting" (43 : Nat) "TamedClassSet$Fitting" "method" "I" ∈ tx_ws := List.mem_filter.mpr ⟨List.mem_append_right _ (List.mem_append_left _ (List.mem_of_getElem? (i := 122) rfl)), rfl⟩
theorem tw_1_123 : Jvm.Cond.fieldLink "TamedClassSet$Fitting" (39 : Nat) "TamedClassSet$Fitting" "good" "Z" ∈ tx_ws := List.mem_filter.mpr ⟨List.mem_append_right _ (List.mem_append_left _ (List.mem_of_getElem? (i := 123) rfl)), rfl⟩
theorem tw_1_124 : Jvm.Cond.laysFinal "TamedClassSet$Fitting" "TamedClassSet$Fitting" "before" "[I" ∈ tx_ws := List.mem_filter.mpr ⟨List.mem_append_right _ (List.mem_append_left _ (List.mem_of_getElem? (i := 124) rfl)), rfl⟩
theorem tw_1_126 : Jvm.Cond.laysFinal "TamedClassSet$Fitting" "TamedClassSet$Fitting" "plan" "LTamedClassSet$Plan;" ∈ tx_ws := List.mem_filter.mpr ⟨List.mem_append_right _ (List.mem_append_left _ (List.mem_of_getElem? (i := 126) rfl)), rfl⟩
theorem tw_1_128 : Jvm.Cond.laysFinal "TamedClassSet$Fitting" "TamedClassSet$Fitting" "stack" "[I" ∈ tx_ws := List.mem_filter.mpr ⟨List.mem_append_right _ (List.mem_append_left _ (List.mem_of_getElem? (i := 128) rfl)), rfl⟩
theorem tw_1_130 : Jvm.Cond.laysFinal "TamedClassSet$Fitting" "TamedClassSet$Fitting" "locals" "[I" ∈ tx_ws := List.mem_filter.mpr ⟨List.mem_append_right _ (List.mem_append_left _ (List.mem_of_getElem? (i := 130) rfl)), rfl⟩
theorem tw_1_132 : Jvm.Cond.laysFinal "TamedClassSet$Fitting" "TamedClassSet$Fitting" "reached" "[I" ∈ tx_ws := List.mem_filter.mpr ⟨List.mem_append_right _ (List.mem_append_left _ (List.mem_of_getElem? (i := 132) rfl)), rfl⟩
theorem tw_1_134 : Jvm.Cond.lays "TamedClassSet$Fitting" "TamedClassSet$Fitting" "reachedCount" "I" ∈ tx_ws := List.mem_filter.mpr ⟨List.mem_append_right _ (List.mem_append_left _ (List.mem_of_getElem? (i := 134) rfl)), rfl⟩
theorem tw_1_136 : Jvm.Cond.lays "TamedClassSet$Fitting" "TamedClassSet$Fitting" "depth" "I" ∈ tx_ws := List.mem_filter.mpr ⟨List.mem_append_right _ (List.mem_append_left _ (List.mem_of_getElem? (i := 136) rfl)), rfl⟩
theorem tw_1_138 : Jvm.Cond.lays "TamedClassSet$Fitting" "TamedClassSet$Fitting" "method" "I" ∈ tx_ws := List.mem_filter.mpr ⟨List.mem_append_right _ (List.mem_append_left _ (List.mem_of_getElem? (i := 138) rfl)), rfl⟩
theorem tw_1_140 : Jvm.Cond.lays "TamedClassSet$Fitting" "TamedClassSet$Fitting" "good" "Z" ∈ tx_ws := List.mem_filter.mpr ⟨List.mem_append_right _ (List.mem_append_left _ (List.mem_of_getElem? (i := 140) rfl)), rfl⟩
theorem tw_1_149 : Jvm.Cond.fieldLink "TamedClassSet$Rules" (9 : Nat) "TamedClassSet$Rules" "plan" "LTamedClassSet$Plan;" ∈ tx_ws := List.mem_filter.mpr ⟨List.mem_append_right _ (List.mem_append_left _ (List.mem_of_getElem? (i := 149) rfl)), rfl⟩
theorem tw_1_150 : Jvm.Cond.fieldLink "TamedClassSet$Rules" (15 : Nat) "TamedClassSet$Rules" "fitting" "LTamedClassSet$Fitting;" ∈ tx_ws := List.mem_filter.mpr ⟨List.mem_append_right _ (List.mem_append_left _ (List.mem_of_getElem? (i := 150) rfl)), rfl⟩
theorem tw_1_151 : Jvm.Cond.laysFinal "TamedClassSet$Rules" "TamedClassSet$Rules" "plan" "LTamedClassSet$Plan;" ∈ tx_ws := List.mem_filter.mpr ⟨List.mem_append_right _ (List.mem_append_left _ (List.mem_of_getElem? (i := 151) rfl)), rfl⟩
theorem tw_1_153 : Jvm.Cond.laysFinal "TamedClassSet$Rules" "TamedClassSet$Rules" "fitting" "LTamedClassSet$Fitting;" ∈ tx_ws := List.mem_filter.mpr ⟨List.mem_append_right _ (List.mem_append_left _ (List.mem_of_getElem? (i := 153) rfl)), rfl⟩
theorem tw_1_162 : Jvm.Cond.fieldLink "TamedClassSet$Heap" (9 : Nat) "TamedClassSet$Heap" "types" "[I" ∈ tx_ws := List.mem_filter.mpr ⟨List.mem_append_right _ (List.mem_append_left _ (List.mem_of_getElem? (i := 162) rfl)), rfl⟩
theorem tw_1_163 : Jvm.Cond.fieldLink "TamedClassSet$Machine" (58 : Nat) "TamedClassSet$Heap" "types" "[I" ∈ tx_ws := List.mem_filter.mpr ⟨List.mem_append_right _ (List.mem_append_left _ (List.mem_of_getElem? (i := 163) rfl)), rfl⟩
theorem tw_1_164 : Jvm.Cond.fieldLink "TamedClassSet" (153 : Nat) "TamedClassSet$Heap" "types" "[I" ∈ tx_ws := List.mem_filter.mpr ⟨List.mem_append_right _ (List.mem_append_left _ (List.mem_of_getElem? (i := 164) rfl)), rfl⟩
theorem tw_1_165 : Jvm.Cond.fieldLink "TamedClassSet$Heap" (15 : Nat) "TamedClassSet$Heap" "slots" "[I" ∈ tx_ws := List.mem_filter.mpr ⟨List.mem_append_right _ (List.mem_append_left _ (List.mem_of_getElem? (i := 165) rfl)), rfl⟩
theorem tw_1_166 : Jvm.Cond.fieldLink "TamedClassSet$Heap" (18 : Nat) "TamedClassSet$Heap" "handles" "[I" ∈ tx_ws := List.mem_filter.mpr ⟨List.mem_append_right _ (List.mem_append_left _ (List.mem_of_getElem? (i := 166) rfl)), rfl⟩
theorem tw_1_167 : Jvm.Cond.fieldLink "TamedClassSet$Heap" (21 : Nat) "TamedClassSet$Heap" "made" "I" ∈ tx_ws := List.mem_filter.mpr ⟨List.mem_append_right _ (List.mem_append_left _ (List.mem_of_getElem? (i := 167) rfl)), rfl⟩
theorem tw_1_168 : Jvm.Cond.fieldLink "TamedClassSet$Heap" (25 : Nat) "TamedClassSet$Heap" "handleCount" "I" ∈ tx_ws := List.mem_filter.mpr ⟨List.mem_append_right _ (List.mem_append_left _ (List.mem_of_getElem? (i := 168) rfl)), rfl⟩
theorem tw_1_169 : Jvm.Cond.laysFinal "TamedClassSet$Heap" "TamedClassSet$Heap" "types" "[I" ∈ tx_ws := List.mem_filter.mpr ⟨List.mem_append_right _ (List.mem_append_left _ (List.mem_of_getElem? (i := 169) rfl)), rfl⟩
theorem tw_1_171 : Jvm.Cond.laysFinal "TamedClassSet$Heap" "TamedClassSet$Heap" "slots" "[I" ∈ tx_ws := List.mem_filter.mpr ⟨List.mem_append_right _ (List.mem_append_left _ (List.mem_of_getElem? (i := 171) rfl)), rfl⟩
theorem tw_1_173 : Jvm.Cond.laysFinal "TamedClassSet$Heap" "TamedClassSet$Heap" "handles" "[I" ∈ tx_ws := List.mem_filter.mpr ⟨List.mem_append_right _ (List.mem_append_left _ (List.mem_of_getElem? (i := 173) rfl)), rfl⟩
theorem tw_1_175 : Jvm.Cond.lays "TamedClassSet$Heap" "TamedClassSet$Heap" "made" "I" ∈ tx_ws := List.mem_filter.mpr ⟨List.mem_append_right _ (List.mem_append_left _ (List.mem_of_getElem? (i := 175) rfl)), rfl⟩
theorem tw_1_177 : Jvm.Cond.lays "TamedClassSet$Heap" "TamedClassSet$Heap" "handleCount" "I" ∈ tx_ws := List.mem_filter.mpr ⟨List.mem_append_right _ (List.mem_append_left _ (List.mem_of_getElem? (i := 177) rfl)), rfl⟩
theorem tw_1_193 : Jvm.Cond.fieldLink "TamedClassSet$Frame" (18 : Nat) "TamedClassSet$Frame" "method" "I" ∈ tx_ws := List.mem_filter.mpr ⟨List.mem_append_right _ (List.mem_append_left _ (List.mem_of_getElem? (i := 193) rfl)), rfl⟩
theorem tw_1_194 : Jvm.Cond.fieldLink "TamedClassSet$Machine" (67 : Nat) "TamedClassSet$Frame" "method" "I" ∈ tx_ws := List.mem_filter.mpr ⟨List.mem_append_right _ (List.mem_append_left _ (List.mem_of_getElem? (i := 194) rfl)), rfl⟩
theorem tw_1_195 : Jvm.Cond.fieldLink "TamedClassSet$Frame" (22 : Nat) "TamedClassSet$Frame" "next" "I" ∈ tx_ws := List.mem_filter.mpr ⟨List.mem_append_right _ (List.mem_append_left _ (List.mem_of_getElem? (i := 195) rfl)), rfl⟩
theorem tw_1_196 : Jvm.Cond.fieldLink "TamedClassSet$Machine" (70 : Nat) "TamedClassSet$Frame" "next" "I" ∈ tx_ws := List.mem_filter.mpr ⟨List.mem_append_right _ (List.mem_append_left _ (List.mem_of_getElem? (i := 196) rfl)), rfl⟩
theorem tw_1_198 : Jvm.Cond.fieldLink "TamedClassSet$Machine" (54 : Nat) "TamedClassSet$Frame" "locals" "[I" ∈ tx_ws := List.mem_filter.mpr ⟨List.mem_append_right _ (List.mem_append_left _ (List.mem_of_getElem? (i := 198) rfl)), rfl⟩
theorem tw_1_199 : Jvm.Cond.fieldLink "TamedClassSet$Frame" (15 : Nat) "TamedClassSet$Frame" "stack" "[I" ∈ tx_ws := List.mem_filter.mpr ⟨List.mem_append_right _ (List.mem_append_left _ (List.mem_of_getElem? (i := 199) rfl)), rfl⟩
theorem tw_1_200 : Jvm.Cond.fieldLink "TamedClassSet$Frame" (25 : Nat) "TamedClassSet$Frame" "depth" "I" ∈ tx_ws := List.mem_filter.mpr ⟨List.mem_append_right _ (List.mem_append_left _ (List.mem_of_getElem? (i := 200) rfl)), rfl⟩
theorem tw_1_201 : Jvm.Cond.lays "TamedClassSet$Frame" "TamedClassSet$Frame" "method" "I" ∈ tx_ws := List.mem_filter.mpr ⟨List.mem_append_right _ (List.mem_append_left _ (List.mem_of_getElem? (i := 201) rfl)), rfl⟩
theorem tw_1_203 : Jvm.Cond.lays "TamedClassSet$Frame" "TamedClassSet$Frame" "next" "I" ∈ tx_ws := List.mem_filter.mpr ⟨List.mem_append_right _ (List.mem_append_left _ (List.mem_of_getElem? (i := 203) rfl)), rfl⟩
theorem tw_1_205 : Jvm.Cond.laysFinal "TamedClassSet$Frame" "TamedClassSet$Frame" "locals" "[I" ∈ tx_ws := List.mem_filter.mpr ⟨List.mem_append_right _ (List.mem_append_left _ (List.mem_of_getElem? (i := 205) rfl)), rfl⟩
theorem tw_1_207 : Jvm.Cond.laysFinal "TamedClassSet$Frame" "TamedClassSet$Frame" "stack" "[I" ∈ tx_ws := List.mem_filter.mpr ⟨List.mem_append_right _ (List.mem_append_left _ (List.mem_of_getElem? (i := 207) rfl)), rfl⟩
theorem tw_1_209 : Jvm.Cond.lays "TamedClassSet$Frame" "TamedClassSet$Frame" "depth" "I" ∈ tx_ws := List.mem_filter.mpr ⟨List.mem_append_right _ (List.mem_append_left _ (List.mem_of_getElem? (i := 209) rfl)), rfl⟩
theorem tw_1_212 : Jvm.Cond.fieldLink "TamedClassSet$Machine" (37 : Nat) "TamedClassSet$Machine" "stepCount" "I" ∈ tx_ws := List.mem_filter.mpr ⟨List.mem_append_right _ (List.mem_append_left _ (List.mem_of_getElem? (i := 212) rfl)), rfl⟩
theorem tw_1_213 : Jvm.Cond.fieldLink "TamedClassSet" (134 : Nat) "TamedClassSet$Machine" "stepCount" "I" ∈ tx_ws := List.mem_filter.mpr ⟨List.mem_append_right _ (List.mem_append_left _ (List.mem_of_getElem? (i := 213) rfl)), rfl⟩
theorem tw_1_214 : Jvm.Cond.fieldLink "TamedClassSet" (142 : Nat) "TamedClassSet$Machine" "outcome" "I" ∈ tx_ws := List.mem_filter.mpr ⟨List.mem_append_right _ (List.mem_append_left _ (List.mem_of_getElem? (i := 214) rfl)), rfl⟩
theorem tw_1_215 : Jvm.Cond.fieldLink "TamedClassSet$Machine" (141 : Nat) "TamedClassSet$Machine" "outcome" "I" ∈ tx_ws := List.mem_filter.mpr ⟨List.mem_append_right _ (List.mem_append_left _ (List.mem_of_getElem? (i := 215) rfl)), rfl⟩
theorem tw_1_216 : Jvm.Cond.fieldLink "TamedClassSet$Machine" (17 : Nat) "TamedClassSet$Machine" "plan" "LTamedClassSet$Plan;" ∈ tx_ws := List.mem_filter.mpr ⟨List.mem_append_right _ (List.mem_append_left _ (List.mem_of_getElem? (i := 216) rfl)), rfl⟩
theorem tw_1_217 : Jvm.Cond.fieldLink "TamedClassSet$Machine" (21 : Nat) "TamedClassSet$Machine" "heap" "LTamedClassSet$Heap;" ∈ tx_ws := List.mem_filter.mpr ⟨List.mem_append_right _ (List.mem_append_left _ (List.mem_of_getElem? (i := 217) rfl)), rfl⟩
theorem tw_1_218 : Jvm.Cond.fieldLink "TamedClassSet$Machine" (11 : Nat) "TamedClassSet$Machine" "frames" "[LTamedClassSet$Frame;" ∈ tx_ws := List.mem_filter.mpr ⟨List.mem_append_right _ (List.mem_append_left _ (List.mem_of_getElem? (i := 218) rfl)), rfl⟩
theorem tw_1_219 : Jvm.Cond.fieldLink "TamedClassSet$Machine" (26 : Nat) "TamedClassSet$Machine" "underWay" "I" ∈ tx_ws := List.mem_filter.mpr ⟨List.mem_append_right _ (List.mem_append_left _ (List.mem_of_getElem? (i := 219) rfl)), rfl⟩
theorem tw_1_220 : Jvm.Cond.fieldLink "TamedClassSet$Machine" (30 : Nat) "TamedClassSet$Machine" "madeCount" "I" ∈ tx_ws := List.mem_filter.mpr ⟨List.mem_append_right _ (List.mem_append_left _ (List.mem_of_getElem? (i := 220) rfl)), rfl⟩
theorem tw_1_221 : Jvm.Cond.lays "TamedClassSet$Machine" "TamedClassSet$Machine" "stepCount" "I" ∈ tx_ws := List.mem_filter.mpr ⟨List.mem_append_right _ (List.mem_append_left _ (List.mem_of_getElem? (i := 221) rfl)), rfl⟩
theorem tw_1_223 : Jvm.Cond.lays "TamedClassSet$Machine" "TamedClassSet$Machine" "outcome" "I" ∈ tx_ws := List.mem_filter.mpr ⟨List.mem_append_right _ (List.mem_append_left _ (List.mem_of_getElem? (i := 223) rfl)), rfl⟩
theorem tw_1_225 : Jvm.Cond.laysFinal "TamedClassSet$Machine" "TamedClassSet$Machine" "plan" "LTamedClassSet$Plan;" ∈ tx_ws := List.mem_filter.mpr ⟨List.mem_append_right _ (List.mem_append_left _ (List.mem_of_getElem? (i := 225) rfl)), rfl⟩
theorem tw_1_227 : Jvm.Cond.laysFinal "TamedClassSet$Machine" "TamedClassSet$Machine" "heap" "LTamedClassSet$Heap;" ∈ tx_ws := List.mem_filter.mpr ⟨List.mem_append_right _ (List.mem_append_left _ (List.mem_of_getElem? (i := 227) rfl)), rfl⟩
theorem tw_1_229 : Jvm.Cond.laysFinal "TamedClassSet$Machine" "TamedClassSet$Machine" "frames" "[LTamedClassSet$Frame;" ∈ tx_ws := List.mem_filter.mpr ⟨List.mem_append_right _ (List.mem_append_left _ (List.mem_of_getElem? (i := 229) rfl)), rfl⟩
theorem tw_1_231 : Jvm.Cond.lays "TamedClassSet$Machine" "TamedClassSet$Machine" "underWay" "I" ∈ tx_ws := List.mem_filter.mpr ⟨List.mem_append_right _ (List.mem_append_left _ (List.mem_of_getElem? (i := 231) rfl)), rfl⟩
theorem tw_1_233 : Jvm.Cond.lays "TamedClassSet$Machine" "TamedClassSet$Machine" "madeCount" "I" ∈ tx_ws := List.mem_filter.mpr ⟨List.mem_append_right _ (List.mem_append_left _ (List.mem_of_getElem? (i := 233) rfl)), rfl⟩
theorem tw_1_236 : Jvm.Cond.fieldLink "TamedClassSet" (10 : Nat) "TamedClassSet" "plan" "LTamedClassSet$Plan;" ∈ tx_ws := List.mem_filter.mpr ⟨List.mem_append_right _ (List.mem_append_left _ (List.mem_of_getElem? (i := 236) rfl)), rfl⟩
theorem tw_1_237 : Jvm.Cond.fieldLink "TamedClassSet" (21 : Nat) "TamedClassSet" "fitting" "LTamedClassSet$Fitting;" ∈ tx_ws := List.mem_filter.mpr ⟨List.mem_append_right _ (List.mem_append_left _ (List.mem_of_getElem? (i := 237) rfl)), rfl⟩
theorem tw_1_238 : Jvm.Cond.fieldLink "TamedClassSet" (30 : Nat) "TamedClassSet" "rules" "LTamedClassSet$Rules;" ∈ tx_ws := List.mem_filter.mpr ⟨List.mem_append_right _ (List.mem_append_left _ (List.mem_of_getElem? (i := 238) rfl)), rfl⟩
theorem tw_1_239 : Jvm.Cond.fieldLink "TamedClassSet" (37 : Nat) "TamedClassSet" "heap" "LTamedClassSet$Heap;" ∈ tx_ws := List.mem_filter.mpr ⟨List.mem_append_right _ (List.mem_append_left _ (List.mem_of_getElem? (i := 239) rfl)), rfl⟩
theorem tw_2_0 : Jvm.Cond.fieldLink "TamedClassSet" (46 : Nat) "TamedClassSet" "machine" "LTamedClassSet$Machine;" ∈ tx_ws := List.mem_filter.mpr ⟨List.mem_append_right _ (List.mem_append_right _ (List.mem_append_left _ (List.mem_of_getElem? (i := 0) rfl))), rfl⟩
theorem tw_2_1 : Jvm.Cond.fieldLink "TamedClassSet" (50 : Nat) "TamedClassSet" "sealed" "Z" ∈ tx_ws := List.mem_filter.mpr ⟨List.mem_append_right _ (List.mem_append_right _ (List.mem_append_left _ (List.mem_of_getElem? (i := 1) rfl))), rfl⟩
theorem tw_2_2 : Jvm.Cond.fieldLink "TamedClassSet" (54 : Nat) "TamedClassSet" "runCount" "I" ∈ tx_ws := List.mem_filter.mpr ⟨List.mem_append_right _ (List.mem_append_right _ (List.mem_append_left _ (List.mem_of_getElem? (i := 2) rfl))), rfl⟩
theorem tw_2_3 : Jvm.Cond.fieldLink "TamedClassSet" (58 : Nat) "TamedClassSet" "latestSteps" "I" ∈ tx_ws := List.mem_filter.mpr ⟨List.mem_append_right _ (List.mem_append_right _ (List.mem_append_left _ (List.mem_of_getElem? (i := 3) rfl))), rfl⟩
theorem tw_2_4 : Jvm.Cond.laysFinal "TamedClassSet" "TamedClassSet" "plan" "LTamedClassSet$Plan;" ∈ tx_ws := List.mem_filter.mpr ⟨List.mem_append_right _ (List.mem_append_right _ (List.mem_append_left _ (List.mem_of_getElem? (i := 4) rfl))), rfl⟩
theorem tw_2_6 : Jvm.Cond.laysFinal "TamedClassSet" "TamedClassSet" "fitting" "LTamedClassSet$Fitting;" ∈ tx_ws := List.mem_filter.mpr ⟨List.mem_append_right _ (List.mem_append_right _ (List.mem_append_left _ (List.mem_of_getElem? (i := 6) rfl))), rfl⟩
theorem tw_2_8 : Jvm.Cond.laysFinal "TamedClassSet" "TamedClassSet" "rules" "LTamedClassSet$Rules;" ∈ tx_ws := List.mem_filter.mpr ⟨List.mem_append_right _ (List.mem_append_right _ (List.mem_append_left _ (List.mem_of_getElem? (i := 8) rfl))), rfl⟩
theorem tw_2_10 : Jvm.Cond.laysFinal "TamedClassSet" "TamedClassSet" "heap" "LTamedClassSet$Heap;" ∈ tx_ws := List.mem_filter.mpr ⟨List.mem_append_right _ (List.mem_append_right _ (List.mem_append_left _ (List.mem_of_getElem? (i := 10) rfl))), rfl⟩
theorem tw_2_12 : Jvm.Cond.laysFinal "TamedClassSet" "TamedClassSet" "machine" "LTamedClassSet$Machine;" ∈ tx_ws := List.mem_filter.mpr ⟨List.mem_append_right _ (List.mem_append_right _ (List.mem_append_left _ (List.mem_of_getElem? (i := 12) rfl))), rfl⟩
theorem tw_2_14 : Jvm.Cond.lays "TamedClassSet" "TamedClassSet" "sealed" "Z" ∈ tx_ws := List.mem_filter.mpr ⟨List.mem_append_right _ (List.mem_append_right _ (List.mem_append_left _ (List.mem_of_getElem? (i := 14) rfl))), rfl⟩
theorem tw_2_16 : Jvm.Cond.lays "TamedClassSet" "TamedClassSet" "runCount" "I" ∈ tx_ws := List.mem_filter.mpr ⟨List.mem_append_right _ (List.mem_append_right _ (List.mem_append_left _ (List.mem_of_getElem? (i := 16) rfl))), rfl⟩
theorem tw_2_18 : Jvm.Cond.lays "TamedClassSet" "TamedClassSet" "latestSteps" "I" ∈ tx_ws := List.mem_filter.mpr ⟨List.mem_append_right _ (List.mem_append_right _ (List.mem_append_left _ (List.mem_of_getElem? (i := 18) rfl))), rfl⟩
theorem tw_2_22 : Jvm.Cond.instanceMethod ({ cls := "TamedClassSet", name := "addClass", desc := "(II)I" } : Jvm.MethodName) ∈ tx_ws := List.mem_filter.mpr ⟨List.mem_append_right _ (List.mem_append_right _ (List.mem_append_left _ (List.mem_of_getElem? (i := 22) rfl))), rfl⟩
theorem tw_2_23 : Jvm.Cond.selects "TamedClassSet" ({ cls := "TamedClassSet", name := "addClass", desc := "(II)I" } : Jvm.MethodName) ({ cls := "TamedClassSet", name := "addClass", desc := "(II)I" } : Jvm.MethodName) ∈ tx_ws := List.mem_filter.mpr ⟨List.mem_append_right _ (List.mem_append_right _ (List.mem_append_left _ (List.mem_of_getElem? (i := 23) rfl))), rfl⟩
theorem tw_2_24 : Jvm.Cond.code ({ cls := "TamedClassSet", name := "addClass", desc := "(II)I" } : Jvm.MethodName) prog_1_method_2_code (4 : Nat) (Option.some Jvm.ClassFile.FieldType.int) ∈ tx_ws := List.mem_filter.mpr ⟨List.mem_append_right _ (List.mem_append_right _ (List.mem_append_left _ (List.mem_of_getElem? (i := 24) rfl))), rfl⟩
theorem tw_2_25 : Jvm.Cond.methodLink "TamedClassSet" (61 : Nat) ({ cls := "TamedClassSet$Plan", name := "isClass", desc := "(I)Z" } : Jvm.MethodName) ∈ tx_ws := List.mem_filter.mpr ⟨List.mem_append_right _ (List.mem_append_right _ (List.mem_append_left _ (List.mem_of_getElem? (i := 25) rfl))), rfl⟩
theorem tw_2_26 : Jvm.Cond.instanceMethod ({ cls := "TamedClassSet$Plan", name := "isClass", desc := "(I)Z" } : Jvm.MethodName) ∈ tx_ws := List.mem_filter.mpr ⟨List.mem_append_right _ (List.mem_append_right _ (List.mem_append_left _ (List.mem_of_getElem? (i := 26) rfl))), rfl⟩
theorem tw_2_27 : Jvm.Cond.selects "TamedClassSet$Plan" ({ cls := "TamedClassSet$Plan", name := "isClass", desc := "(I)Z" } : Jvm.MethodName) ({ cls := "TamedClassSet$Plan", name := "isClass", desc := "(I)Z" } : Jvm.MethodName) ∈ tx_ws := List.mem_filter.mpr ⟨List.mem_append_right _ (List.mem_append_right _ (List.mem_append_left _ (List.mem_of_getElem? (i := 27) rfl))), rfl⟩
theorem tw_2_28 : Jvm.Cond.code ({ cls := "TamedClassSet$Plan", name := "isClass", desc := "(I)Z" } : Jvm.MethodName) prog_6_method_7_code (2 : Nat) (Option.some Jvm.ClassFile.FieldType.boolean) ∈ tx_ws := List.mem_filter.mpr ⟨List.mem_append_right _ (List.mem_append_right _ (List.mem_append_left _ (List.mem_of_getElem? (i := 28) rfl))), rfl⟩
theorem tw_2_29 : Jvm.Cond.methodLink "TamedClassSet" (68 : Nat) ({ cls := "TamedClassSet$Plan", name := "newClass", desc := "(II)I" } : Jvm.MethodName) ∈ tx_ws := List.mem_filter.mpr ⟨List.mem_append_right _ (List.mem_append_right _ (List.mem_append_left _ (List.mem_of_getElem? (i := 29) rfl))), rfl⟩
theorem tw_2_30 : Jvm.Cond.instanceMethod ({ cls := "TamedClassSet$Plan", name := "newClass", desc := "(II)I" } : Jvm.MethodName) ∈ tx_ws := List.mem_filter.mpr ⟨List.mem_append_right _ (List.mem_append_right _ (List.mem_append_left _ (List.mem_of_getElem? (i := 30) rfl))), rfl⟩
theorem tw_2_31 : Jvm.Cond.selects "TamedClassSet$Plan" ({ cls := "TamedClassSet$Plan", name := "newClass", desc := "(II)I" } : Jvm.MethodName) ({ cls := "TamedClassSet$Plan", name := "newClass", desc := "(II)I" } : Jvm.MethodName) ∈ tx_ws := List.mem_filter.mpr ⟨List.mem_append_right _ (List.mem_append_right _ (List.mem_append_left _ (List.mem_of_getElem? (i := 31) rfl))), rfl⟩
theorem tw_2_32 : Jvm.Cond.code ({ cls := "TamedClassSet$Plan", name := "newClass", desc := "(II)I" } : Jvm.MethodName) prog_6_method_2_code (6 : Nat) (Option.some Jvm.ClassFile.FieldType.int) ∈ tx_ws := List.mem_filter.mpr ⟨List.mem_append_right _ (List.mem_append_right _ (List.mem_append_left _ (List.mem_of_getElem? (i := 32) rfl))), rfl⟩
theorem tw_2_34 : Jvm.Cond.instanceMethod ({ cls := "TamedClassSet", name := "addField", desc := "(III)I" } : Jvm.MethodName) ∈ tx_ws := List.mem_filter.mpr ⟨List.mem_append_right _ (List.mem_append_right _ (List.mem_append_left _ (List.mem_of_getElem? (i := 34) rfl))), rfl⟩
theorem tw_2_35 : Jvm.Cond.selects "TamedClassSet" ({ cls := "TamedClassSet", name := "addField", desc := "(III)I" } : Jvm.MethodName) ({ cls := "TamedClassSet", name := "addField", desc := "(III)I" } : Jvm.MethodName) ∈ tx_ws := List.mem_filter.mpr ⟨List.mem_append_right _ (List.mem_append_right _ (List.mem_append_left _ (List.mem_of_getElem? (i := 35) rfl))), rfl⟩
theorem tw_2_36 : Jvm.Cond.code ({ cls := "TamedClassSet", name := "addField", desc := "(III)I" } : Jvm.MethodName) prog_1_method_3_code (4 : Nat) (Option.some Jvm.ClassFile.FieldType.int) ∈ tx_ws := List.mem_filter.mpr ⟨List.mem_append_right _ (List.mem_append_right _ (List.mem_append_left _ (List.mem_of_getElem? (i := 36) rfl))), rfl⟩
theorem tw_2_37 : Jvm.Cond.methodLink "TamedClassSet" (72 : Nat) ({ cls := "TamedClassSet$Plan", name := "isType", desc := "(I)Z" } : Jvm.MethodName) ∈ tx_ws := List.mem_filter.mpr ⟨List.mem_append_right _ (List.mem_append_right _ (List.mem_append_left _ (List.mem_of_getElem? (i := 37) rfl))), rfl⟩
theorem tw_2_38 : Jvm.Cond.instanceMethod ({ cls := "TamedClassSet$Plan", name := "isType", desc := "(I)Z" } : Jvm.MethodName) ∈ tx_ws := List.mem_filter.mpr ⟨List.mem_append_right _ (List.mem_append_right _ (List.mem_append_left _ (List.mem_of_getElem? (i := 38) rfl))), rfl⟩
theorem tw_2_39 : Jvm.Cond.selects "TamedClassSet$Plan" ({ cls := "TamedClassSet$Plan", name := "isType", desc := "(I)Z" } : Jvm.MethodName) ({ cls := "TamedClassSet$Plan", name := "isType", desc := "(I)Z" } : Jvm.MethodName) ∈ tx_ws := List.mem_filter.mpr ⟨List.mem_append_right _ (List.mem_append_right _ (List.mem_append_left _ (List.mem_of_getElem? (i := 39) rfl))), rfl⟩
theorem tw_2_40 : Jvm.Cond.code ({ cls := "TamedClassSet$Plan", name := "isType", desc := "(I)Z" } : Jvm.MethodName) prog_6_method_8_code (2 : Nat) (Option.some Jvm.ClassFile.FieldType.boolean) ∈ tx_ws := List.mem_filter.mpr ⟨List.mem_append_right _ (List.mem_append_right _ (List.mem_append_left _ (List.mem_of_getElem? (i := 40) rfl))), rfl⟩
theorem tw_2_41 : Jvm.Cond.methodLink "TamedClassSet" (78 : Nat) ({ cls := "TamedClassSet$Plan", name := "newField", desc := "(III)I" } : Jvm.MethodName) ∈ tx_ws := List.mem_filter.mpr ⟨List.mem_append_right _ (List.mem_append_right _ (List.mem_append_left _ (List.mem_of_getElem? (i := 41) rfl))), rfl⟩
theorem tw_2_42 : Jvm.Cond.instanceMethod ({ cls := "TamedClassSet$Plan", name := "newField", desc := "(III)I" } : Jvm.MethodName) ∈ tx_ws := List.mem_filter.mpr ⟨List.mem_append_right _ (List.mem_append_right _ (List.mem_append_left _ (List.mem_of_getElem? (i := 42) rfl))), rfl⟩
theorem tw_2_43 : Jvm.Cond.selects "TamedClassSet$Plan" ({ cls := "TamedClassSet$Plan", name := "newField", desc := "(III)I" } : Jvm.MethodName) ({ cls := "TamedClassSet$Plan", name := "newField", desc := "(III)I" } : Jvm.MethodName) ∈ tx_ws := List.mem_filter.mpr ⟨List.mem_append_right _ (List.mem_append_right _ (List.mem_append_left _ (List.mem_of_getElem? (i := 43) rfl))), rfl⟩
theorem tw_2_44 : Jvm.Cond.code ({ cls := "TamedClassSet$Plan", name := "newField", desc := "(III)I" } : Jvm.MethodName) prog_6_method_3_code (5 : Nat) (Option.some Jvm.ClassFile.FieldType.int) ∈ tx_ws := List.mem_filter.mpr ⟨List.mem_append_right _ (List.mem_append_right _ (List.mem_append_left _ (List.mem_of_getElem? (i := 44) rfl))), rfl⟩
theorem tw_2_46 : Jvm.Cond.instanceMethod ({ cls := "TamedClassSet", name := "addMethod", desc := "(IIIII)I" } : Jvm.MethodName) ∈ tx_ws := List.mem_filter.mpr ⟨List.mem_append_right _ (List.mem_append_right _ (List.mem_append_left _ (List.mem_of_getElem? (i := 46) rfl))), rfl⟩
theorem tw_2_47 : Jvm.Cond.selects "TamedClassSet" ({ cls := "TamedClassSet", name := "addMethod", desc := "(IIIII)I" } : Jvm.MethodName) ({ cls := "TamedClassSet", name := "addMethod", desc := "(IIIII)I" } : Jvm.MethodName) ∈ tx_ws := List.mem_filter.mpr ⟨List.mem_append_right _ (List.mem_append_right _ (List.mem_append_left _ (List.mem_of_getElem? (i := 47) rfl))), rfl⟩
theorem tw_2_48 : Jvm.Cond.code ({ cls := "TamedClassSet", name := "addMethod", desc := "(IIIII)I" } : Jvm.MethodName) prog_1_method_4_code (7 : Nat) (Option.some Jvm.ClassFile.FieldType.int) ∈ tx_ws := List.mem_filter.mpr ⟨List.mem_append_right _ (List.mem_append_right _ (List.mem_append_left _ (List.mem_of_getElem? (i := 48) rfl))), rfl⟩
theorem tw_2_49 : Jvm.Cond.methodLink "TamedClassSet" (82 : Nat) ({ cls := "TamedClassSet$Plan", name := "methodNamed", desc := "(II)I" } : Jvm.MethodName) ∈ tx_ws := List.mem_filter.mpr ⟨List.mem_append_right _ (List.mem_append_right _ (List.mem_append_left _ (List.mem_of_getElem? (i := 49) rfl))), rfl⟩
theorem tw_2_50 : Jvm.Cond.instanceMethod ({ cls := "TamedClassSet$Plan", name := "methodNamed", desc := "(II)I" } : Jvm.MethodName) ∈ tx_ws := List.mem_filter.mpr ⟨List.mem_append_right _ (List.mem_append_right _ (List.mem_append_left _ (List.mem_of_getElem? (i := 50) rfl))), rfl⟩
theorem tw_2_51 : Jvm.Cond.selects "TamedClassSet$Plan" ({ cls := "TamedClassSet$Plan", name := "methodNamed", desc := "(II)I" } : Jvm.MethodName) ({ cls := "TamedClassSet$Plan", name := "methodNamed", desc := "(II)I" } : Jvm.MethodName) ∈ tx_ws := List.mem_filter.mpr ⟨List.mem_append_right _ (List.mem_append_right _ (List.mem_append_left _ (List.mem_of_getElem? (i := 51) rfl))), rfl⟩
theorem tw_2_52 : Jvm.Cond.code ({ cls := "TamedClassSet$Plan", name := "methodNamed", desc := "(II)I" } : Jvm.MethodName) prog_6_method_21_code (4 : Nat) (Option.some Jvm.ClassFile.FieldType.int) ∈ tx_ws := List.mem_filter.mpr ⟨List.mem_append_right _ (List.mem_append_right _ (List.mem_append_left _ (List.mem_of_getElem? (i := 52) rfl))), rfl⟩
theorem tw_2_53 : Jvm.Cond.methodLink "TamedClassSet" (88 : Nat) ({ cls := "TamedClassSet$Plan", name := "newMethod", desc := "(IIIII)I" } : Jvm.MethodName) ∈ tx_ws := List.mem_filter.mpr ⟨List.mem_append_right _ (List.mem_append_right _ (List.mem_append_left _ (List.mem_of_getElem? (i := 53) rfl))), rfl⟩
theorem tw_2_54 : Jvm.Cond.instanceMethod ({ cls := "TamedClassSet$Plan", name := "newMethod", desc := "(IIIII)I" } : Jvm.MethodName) ∈ tx_ws := List.mem_filter.mpr ⟨List.mem_append_right _ (List.mem_append_right _ (List.mem_append_left _ (List.mem_of_getElem? (i := 54) rfl))), rfl⟩
theorem tw_2_55 : Jvm.Cond.selects "TamedClassSet$Plan" ({ cls := "TamedClassSet$Plan", name := "newMethod", desc := "(IIIII)I" } : Jvm.MethodName) ({ cls := "TamedClassSet$Plan", name := "newMethod", desc := "(IIIII)I" } : Jvm.MethodName) ∈ tx_ws := List.mem_filter.mpr ⟨List.mem_append_right _ (List.mem_append_right _ (List.mem_append_left _ (List.mem_of_getElem? (i := 55) rfl))), rfl⟩
theorem tw_2_56 : Jvm.Cond.code ({ cls := "TamedClassSet$Plan", name := "newMethod", desc := "(IIIII)I" } : Jvm.MethodName) prog_6_method_4_code (7 : Nat) (Option.some Jvm.ClassFile.FieldType.int) ∈ tx_ws := List.mem_filter.mpr ⟨List.mem_append_right _ (List.mem_append_right _ (List.mem_append_left _ (List.mem_of_getElem? (i := 56) rfl))), rfl⟩
theorem tw_2_58 : Jvm.Cond.instanceMethod ({ cls := "TamedClassSet", name := "emit", desc := "(III)I" } : Jvm.MethodName) ∈ tx_ws := List.mem_filter.mpr ⟨List.mem_append_right _ (List.mem_append_right _ (List.mem_append_left _ (List.mem_of_getElem? (i := 58) rfl))), rfl⟩
theorem tw_2_59 : Jvm.Cond.selects "TamedClassSet" ({ cls := "TamedClassSet", name := "emit", desc := "(III)I" } : Jvm.MethodName) ({ cls := "TamedClassSet", name := "emit", desc := "(III)I" } : Jvm.MethodName) ∈ tx_ws := List.mem_filter.mpr ⟨List.mem_append_right _ (List.mem_append_right _ (List.mem_append_left _ (List.mem_of_getElem? (i := 59) rfl))), rfl⟩
theorem tw_2_60 : Jvm.Cond.code ({ cls := "TamedClassSet", name := "emit", desc := "(III)I" } : Jvm.MethodName) prog_1_method_5_code (4 : Nat) (Option.some Jvm.ClassFile.FieldType.int) ∈ tx_ws := List.mem_filter.mpr ⟨List.mem_append_right _ (List.mem_append_right _ (List.mem_append_left _ (List.mem_of_getElem? (i := 60) rfl))), rfl⟩
theorem tw_2_61 : Jvm.Cond.methodLink "TamedClassSet" (92 : Nat) ({ cls := "TamedClassSet$Plan", name := "isMethod", desc := "(I)Z" } : Jvm.MethodName) ∈ tx_ws := List.mem_filter.mpr ⟨List.mem_append_right _ (List.mem_append_right _ (List.mem_append_left _ (List.mem_of_getElem? (i := 61) rfl))), rfl⟩
theorem tw_2_62 : Jvm.Cond.instanceMethod ({ cls := "TamedClassSet$Plan", name := "isMethod", desc := "(I)Z" } : Jvm.MethodName) ∈ tx_ws := List.mem_filter.mpr ⟨List.mem_append_right _ (List.mem_append_right _ (List.mem_append_left _ (List.mem_of_getElem? (i := 62) rfl))), rfl⟩
theorem tw_2_63 : Jvm.Cond.selects "TamedClassSet$Plan" ({ cls := "TamedClassSet$Plan", name := "isMethod", desc := "(I)Z" } : Jvm.MethodName) ({ cls := "TamedClassSet$Plan", name := "isMethod", desc := "(I)Z" } : Jvm.MethodName) ∈ tx_ws := List.mem_filter.mpr ⟨List.mem_append_right _ (List.mem_append_right _ (List.mem_append_left _ (List.mem_of_getElem? (i := 63) rfl))), rfl⟩
theorem tw_2_64 : Jvm.Cond.code ({ cls := "TamedClassSet$Plan", name := "isMethod", desc := "(I)Z" } : Jvm.MethodName) prog_6_method_10_code (2 : Nat) (Option.some Jvm.ClassFile.FieldType.boolean) ∈ tx_ws := List.mem_filter.mpr ⟨List.mem_append_right _ (List.mem_append_right _ (List.mem_append_left _ (List.mem_of_getElem? (i := 64) rfl))), rfl⟩
theorem tw_2_65 : Jvm.Cond.methodLink "TamedClassSet" (99 : Nat) ({ cls := "TamedClassSet$Plan", name := "newInstruction", desc := "(III)I" } : Jvm.MethodName) ∈ tx_ws := List.mem_filter.mpr ⟨List.mem_append_right _ (List.mem_append_right _ (List.mem_append_left _ (List.mem_of_getElem? (i := 65) rfl))), rfl⟩
theorem tw_2_66 : Jvm.Cond.instanceMethod ({ cls := "TamedClassSet$Plan", name := "newInstruction", desc := "(III)I" } : Jvm.MethodName) ∈ tx_ws := List.mem_filter.mpr ⟨List.mem_append_right _ (List.mem_append_right _ (List.mem_append_left _ (List.mem_of_getElem? (i := 66) rfl))), rfl⟩
theorem tw_2_67 : Jvm.Cond.selects "TamedClassSet$Plan" ({ cls := "TamedClassSet$Plan", name := "newInstruction", desc := "(III)I" } : Jvm.MethodName) ({ cls := "TamedClassSet$Plan", name := "newInstruction", desc := "(III)I" } : Jvm.MethodName) ∈ tx_ws := List.mem_filter.mpr ⟨List.mem_append_right _ (List.mem_append_right _ (List.mem_append_left _ (List.mem_of_getElem? (i := 67) rfl))), rfl⟩
theorem tw_2_68 : Jvm.Cond.code ({ cls := "TamedClassSet$Plan", name := "newInstruction", desc := "(III)I" } : Jvm.MethodName) prog_6_method_5_code (5 : Nat) (Option.some Jvm.ClassFile.FieldType.int) ∈ tx_ws := List.mem_filter.mpr ⟨List.mem_append_right _ (List.mem_append_right _ (List.mem_append_left _ (List.mem_of_getElem? (i := 68) rfl))), rfl⟩
theorem tw_2_70 : Jvm.Cond.instanceMethod ({ cls := "TamedClassSet", name := "check", desc := "()I" } : Jvm.MethodName) ∈ tx_ws := List.mem_filter.mpr ⟨List.mem_append_right _ (List.mem_append_right _ (List.mem_append_left _ (List.mem_of_getElem? (i := 70) rfl))), rfl⟩
theorem tw_2_71 : Jvm.Cond.selects "TamedClassSet" ({ cls := "TamedClassSet", name := "check", desc := "()I" } : Jvm.MethodName) ({ cls := "TamedClassSet", name := "check", desc := "()I" } : Jvm.MethodName) ∈ tx_ws := List.mem_filter.mpr ⟨List.mem_append_right _ (List.mem_append_right _ (List.mem_append_left _ (List.mem_of_getElem? (i := 71) rfl))), rfl⟩
theorem tw_2_72 : Jvm.Cond.code ({ cls := "TamedClassSet", name := "check", desc := "()I" } : Jvm.MethodName) prog_1_method_6_code (3 : Nat) (Option.some Jvm.ClassFile.FieldType.int) ∈ tx_ws := List.mem_filter.mpr ⟨List.mem_append_right _ (List.mem_append_right _ (List.mem_append_left _ (List.mem_of_getElem? (i := 72) rfl))), rfl⟩
theorem tw_2_73 : Jvm.Cond.methodLink "TamedClassSet" (102 : Nat) ({ cls := "TamedClassSet$Rules", name := "firstBreach", desc := "(I)I" } : Jvm.MethodName) ∈ tx_ws := List.mem_filter.mpr ⟨List.mem_append_right _ (List.mem_append_right _ (List.mem_append_left _ (List.mem_of_getElem? (i := 73) rfl))), rfl⟩
theorem tw_2_74 : Jvm.Cond.instanceMethod ({ cls := "TamedClassSet$Rules", name := "firstBreach", desc := "(I)I" } : Jvm.MethodName) ∈ tx_ws := List.mem_filter.mpr ⟨List.mem_append_right _ (List.mem_append_right _ (List.mem_append_left _ (List.mem_of_getElem? (i := 74) rfl))), rfl⟩
theorem tw_2_75 : Jvm.Cond.selects "TamedClassSet$Rules" ({ cls := "TamedClassSet$Rules", name := "firstBreach", desc := "(I)I" } : Jvm.MethodName) ({ cls := "TamedClassSet$Rules", name := "firstBreach", desc := "(I)I" } : Jvm.MethodName) ∈ tx_ws := List.mem_filter.mpr ⟨List.mem_append_right _ (List.mem_append_right _ (List.mem_append_left _ (List.mem_of_getElem? (i := 75) rfl))), rfl⟩
theorem tw_2_76 : Jvm.Cond.code ({ cls := "TamedClassSet$Rules", name := "firstBreach", desc := "(I)I" } : Jvm.MethodName) prog_7_method_2_code (4 : Nat) (Option.some Jvm.ClassFile.FieldType.int) ∈ tx_ws := List.mem_filter.mpr ⟨List.mem_append_right _ (List.mem_append_right _ (List.mem_append_left _ (List.mem_of_getElem? (i := 76) rfl))), rfl⟩
theorem tw_2_77 : Jvm.Cond.methodLink "TamedClassSet$Rules" (25 : Nat) ({ cls := "TamedClassSet$Rules", name := "changesForAll", desc := "(I)Z" } : Jvm.MethodName) ∈ tx_ws := List.mem_filter.mpr ⟨List.mem_append_right _ (List.mem_append_right _ (List.mem_append_left _ (List.mem_of_getElem? (i := 77) rfl))), rfl⟩
theorem tw_2_79 : Jvm.Cond.instanceMethod ({ cls := "TamedClassSet$Rules", name := "changesForAll", desc := "(I)Z" } : Jvm.MethodName) ∈ tx_ws := List.mem_filter.mpr ⟨List.mem_append_right _ (List.mem_append_right _ (List.mem_append_left _ (List.mem_of_getElem? (i := 79) rfl))), rfl⟩
theorem tw_2_80 : Jvm.Cond.code ({ cls := "TamedClassSet$Rules", name := "changesForAll", desc := "(I)Z" } : Jvm.MethodName) prog_7_method_3_code (2 : Nat) (Option.some Jvm.ClassFile.FieldType.boolean) ∈ tx_ws := List.mem_filter.mpr ⟨List.mem_append_right _ (List.mem_append_right _ (List.mem_append_left _ (List.mem_of_getElem? (i := 80) rfl))), rfl⟩
theorem tw_2_81 : Jvm.Cond.methodLink "TamedClassSet$Rules" (51 : Nat) ({ cls := "TamedClassSet$Plan", name := "isStaticField", desc := "(I)Z" } : Jvm.MethodName) ∈ tx_ws := List.mem_filter.mpr ⟨List.mem_append_right _ (List.mem_append_right _ (List.mem_append_left _ (List.mem_of_getElem? (i := 81) rfl))), rfl⟩
theorem tw_2_82 : Jvm.Cond.instanceMethod ({ cls := "TamedClassSet$Plan", name := "isStaticField", desc := "(I)Z" } : Jvm.MethodName) ∈ tx_ws := List.mem_filter.mpr ⟨List.mem_append_right _ (List.mem_append_right _ (List.mem_append_left _ (List.mem_of_getElem? (i := 82) rfl))), rfl⟩
theorem tw_2_83 : Jvm.Cond.selects "TamedClassSet$Plan" ({ cls := "TamedClassSet$Plan", name := "isStaticField", desc := "(I)Z" } : Jvm.MethodName) ({ cls := "TamedClassSet$Plan", name := "isStaticField", desc := "(I)Z" } : Jvm.MethodName) ∈ tx_ws := List.mem_filter.mpr ⟨List.mem_append_right _ (List.mem_append_right _ (List.mem_append_left _ (List.mem_of_getElem? (i := 83) rfl))), rfl⟩
theorem tw_2_84 : Jvm.Cond.code ({ cls := "TamedClassSet$Plan", name := "isStaticField", desc := "(I)Z" } : Jvm.MethodName) prog_6_method_12_code (2 : Nat) (Option.some Jvm.ClassFile.FieldType.boolean) ∈ tx_ws := List.mem_filter.mpr ⟨List.mem_append_right _ (List.mem_append_right _ (List.mem_append_left _ (List.mem_of_getElem? (i := 84) rfl))), rfl⟩
theorem tw_2_85 : Jvm.Cond.methodLink "TamedClassSet$Rules" (54 : Nat) ({ cls := "TamedClassSet$Plan", name := "isFinalField", desc := "(I)Z" } : Jvm.MethodName) ∈ tx_ws := List.mem_filter.mpr ⟨List.mem_append_right _ (List.mem_append_right _ (List.mem_append_left _ (List.mem_of_getElem? (i := 85) rfl))), rfl⟩
theorem tw_2_86 : Jvm.Cond.instanceMethod ({ cls := "TamedClassSet$Plan", name := "isFinalField", desc := "(I)Z" } : Jvm.MethodName) ∈ tx_ws := List.mem_filter.mpr ⟨List.mem_append_right _ (List.mem_append_right _ (List.mem_append_left _ (List.mem_of_getElem? (i := 86) rfl))), rfl⟩
theorem tw_2_87 : Jvm.Cond.selects "TamedClassSet$Plan" ({ cls := "TamedClassSet$Plan", name := "isFinalField", desc := "(I)Z" } : Jvm.MethodName) ({ cls := "TamedClassSet$Plan", name := "isFinalField", desc := "(I)Z" } : Jvm.MethodName) ∈ tx_ws := List.mem_filter.mpr ⟨List.mem_append_right _ (List.mem_append_right _ (List.mem_append_left _ (List.mem_of_getElem? (i := 87) rfl))), rfl⟩
theorem tw_2_88 : Jvm.Cond.code ({ cls := "TamedClassSet$Plan", name := "isFinalField", desc := "(I)Z" } : Jvm.MethodName) prog_6_method_13_code (2 : Nat) (Option.some Jvm.ClassFile.FieldType.boolean) ∈ tx_ws := List.mem_filter.mpr ⟨List.mem_append_right _ (List.mem_append_right _ (List.mem_append_left _ (List.mem_of_getElem? (i := 88) rfl))), rfl⟩
theorem tw_2_89 : Jvm.Cond.methodLink "TamedClassSet$Rules" (60 : Nat) ({ cls := "TamedClassSet$Plan", name := "isPowerless", desc := "(I)Z" } : Jvm.MethodName) ∈ tx_ws := List.mem_filter.mpr ⟨List.mem_append_right _ (List.mem_append_right _ (List.mem_append_left _ (List.mem_of_getElem? (i := 89) rfl))), rfl⟩
theorem tw_2_90 : Jvm.Cond.instanceMethod ({ cls := "TamedClassSet$Plan", name := "isPowerless", desc := "(I)Z" } : Jvm.MethodName) ∈ tx_ws := List.mem_filter.mpr ⟨List.mem_append_right _ (List.mem_append_right _ (List.mem_append_left _ (List.mem_of_getElem? (i := 90) rfl))), rfl⟩
theorem tw_2_91 : Jvm.Cond.selects "TamedClassSet$Plan" ({ cls := "TamedClassSet$Plan", name := "isPowerless", desc := "(I)Z" } : Jvm.MethodName) ({ cls := "TamedClassSet$Plan", name := "isPowerless", desc := "(I)Z" } : Jvm.MethodName) ∈ tx_ws := List.mem_filter.mpr ⟨List.mem_append_right _ (List.mem_append_right _ (List.mem_append_left _ (List.mem_of_getElem? (i := 91) rfl))), rfl⟩
theorem tw_2_92 : Jvm.Cond.code ({ cls := "TamedClassSet$Plan", name := "isPowerless", desc := "(I)Z" } : Jvm.MethodName) prog_6_method_18_code (2 : Nat) (Option.some Jvm.ClassFile.FieldType.boolean) ∈ tx_ws := List.mem_filter.mpr ⟨List.mem_append_right _ (List.mem_append_right _ (List.mem_append_left _ (List.mem_of_getElem? (i := 92) rfl))), rfl⟩
theorem tw_2_93 : Jvm.Cond.methodLink "TamedClassSet$Rules" (29 : Nat) ({ cls := "TamedClassSet$Rules", name := "changesImmutable", desc := "(I)Z" } : Jvm.MethodName) ∈ tx_ws := List.mem_filter.mpr ⟨List.mem_append_right _ (List.mem_append_right _ (List.mem_append_left _ (List.mem_of_getElem? (i := 93) rfl))), rfl⟩
theorem tw_2_95 : Jvm.Cond.instanceMethod ({ cls := "TamedClassSet$Rules", name := "changesImmutable", desc := "(I)Z" } : Jvm.MethodName) ∈ tx_ws := List.mem_filter.mpr ⟨List.mem_append_right _ (List.mem_append_right _ (List.mem_append_left _ (List.mem_of_getElem? (i := 95) rfl))), rfl⟩
theorem tw_2_96 : Jvm.Cond.code ({ cls := "TamedClassSet$Rules", name := "changesImmutable", desc := "(I)Z" } : Jvm.MethodName) prog_7_method_4_code (6 : Nat) (Option.some Jvm.ClassFile.FieldType.boolean) ∈ tx_ws := List.mem_filter.mpr ⟨List.mem_append_right _ (List.mem_append_right _ (List.mem_append_left _ (List.mem_of_getElem? (i := 96) rfl))), rfl⟩
theorem tw_2_97 : Jvm.Cond.methodLink "TamedClassSet$Rules" (63 : Nat) ({ cls := "TamedClassSet$Plan", name := "isImmutable", desc := "(I)Z" } : Jvm.MethodName) ∈ tx_ws := List.mem_filter.mpr ⟨List.mem_append_right _ (List.mem_append_right _ (List.mem_append_left _ (List.mem_of_getElem? (i := 97) rfl))), rfl⟩
theorem tw_2_98 : Jvm.Cond.instanceMethod ({ cls := "TamedClassSet$Plan", name := "isImmutable", desc := "(I)Z" } : Jvm.MethodName) ∈ tx_ws := List.mem_filter.mpr ⟨List.mem_append_right _ (List.mem_append_right _ (List.mem_append_left _ (List.mem_of_getElem? (i := 98) rfl))), rfl⟩
theorem tw_2_99 : Jvm.Cond.selects "TamedClassSet$Plan" ({ cls := "TamedClassSet$Plan", name := "isImmutable", desc := "(I)Z" } : Jvm.MethodName) ({ cls := "TamedClassSet$Plan", name := "isImmutable", desc := "(I)Z" } : Jvm.MethodName) ∈ tx_ws := List.mem_filter.mpr ⟨List.mem_append_right _ (List.mem_append_right _ (List.mem_append_left _ (List.mem_of_getElem? (i := 99) rfl))), rfl⟩
theorem tw_2_100 : Jvm.Cond.code ({ cls := "TamedClassSet$Plan", name := "isImmutable", desc := "(I)Z" } : Jvm.MethodName) prog_6_method_17_code (2 : Nat) (Option.some Jvm.ClassFile.FieldType.boolean) ∈ tx_ws := List.mem_filter.mpr ⟨List.mem_append_right _ (List.mem_append_right _ (List.mem_append_left _ (List.mem_of_getElem? (i := 100) rfl))), rfl⟩
theorem tw_2_101 : Jvm.Cond.methodLink "TamedClassSet$Rules" (69 : Nat) ({ cls := "TamedClassSet$Plan", name := "owns", desc := "(II)Z" } : Jvm.MethodName) ∈ tx_ws := List.mem_filter.mpr ⟨List.mem_append_right _ (List.mem_append_right _ (List.mem_append_left _ (List.mem_of_getElem? (i := 101) rfl))), rfl⟩
theorem tw_2_102 : Jvm.Cond.instanceMethod ({ cls := "TamedClassSet$Plan", name := "owns", desc := "(II)Z" } : Jvm.MethodName) ∈ tx_ws := List.mem_filter.mpr ⟨List.mem_append_right _ (List.mem_append_right _ (List.mem_append_left _ (List.mem_of_getElem? (i := 102) rfl))), rfl⟩
theorem tw_2_103 : Jvm.Cond.selects "TamedClassSet$Plan" ({ cls := "TamedClassSet$Plan", name := "owns", desc := "(II)Z" } : Jvm.MethodName) ({ cls := "TamedClassSet$Plan", name := "owns", desc := "(II)Z" } : Jvm.MethodName) ∈ tx_ws := List.mem_filter.mpr ⟨List.mem_append_right _ (List.mem_append_right _ (List.mem_append_left _ (List.mem_of_getElem? (i := 103) rfl))), rfl⟩
theorem tw_2_104 : Jvm.Cond.code ({ cls := "TamedClassSet$Plan", name := "owns", desc := "(II)Z" } : Jvm.MethodName) prog_6_method_19_code (3 : Nat) (Option.some Jvm.ClassFile.FieldType.boolean) ∈ tx_ws := List.mem_filter.mpr ⟨List.mem_append_right _ (List.mem_append_right _ (List.mem_append_left _ (List.mem_of_getElem? (i := 104) rfl))), rfl⟩
theorem tw_2_105 : Jvm.Cond.methodLink "TamedClassSet$Plan" (61 : Nat) ({ cls := "TamedClassSet$Plan", name := "isStaticField", desc := "(I)Z" } : Jvm.MethodName) ∈ tx_ws := List.mem_filter.mpr ⟨List.mem_append_right _ (List.mem_append_right _ (List.mem_append_left _ (List.mem_of_getElem? (i := 105) rfl))), rfl⟩
theorem tw_2_106 : Jvm.Cond.methodLink "TamedClassSet$Plan" (65 : Nat) ({ cls := "TamedClassSet$Plan", name := "isUnder", desc := "(II)Z" } : Jvm.MethodName) ∈ tx_ws := List.mem_filter.mpr ⟨List.mem_append_right _ (List.mem_append_right _ (List.mem_append_left _ (List.mem_of_getElem? (i := 106) rfl))), rfl⟩
theorem tw_2_107 : Jvm.Cond.instanceMethod ({ cls := "TamedClassSet$Plan", name := "isUnder", desc := "(II)Z" } : Jvm.MethodName) ∈ tx_ws := List.mem_filter.mpr ⟨List.mem_append_right _ (List.mem_append_right _ (List.mem_append_left _ (List.mem_of_getElem? (i := 107) rfl))), rfl⟩
theorem tw_2_108 : Jvm.Cond.selects "TamedClassSet$Plan" ({ cls := "TamedClassSet$Plan", name := "isUnder", desc := "(II)Z" } : Jvm.MethodName) ({ cls := "TamedClassSet$Plan", name := "isUnder", desc := "(II)Z" } : Jvm.MethodName) ∈ tx_ws := List.mem_filter.mpr ⟨List.mem_append_right _ (List.mem_append_right _ (List.mem_append_left _ (List.mem_of_getElem? (i := 108) rfl))), rfl⟩
theorem tw_2_109 : Jvm.Cond.code ({ cls := "TamedClassSet$Plan", name := "isUnder", desc := "(II)Z" } : Jvm.MethodName) prog_6_method_15_code (3 : Nat) (Option.some Jvm.ClassFile.FieldType.boolean) ∈ tx_ws := List.mem_filter.mpr ⟨List.mem_append_right _ (List.mem_append_right _ (List.mem_append_left _ (List.mem_of_getElem? (i := 109) rfl))), rfl⟩
theorem tw_2_110 : Jvm.Cond.methodLink "TamedClassSet$Rules" (35 : Nat) ({ cls := "TamedClassSet$Rules", name := "overridesBadly", desc := "(I)Z" } : Jvm.MethodName) ∈ tx_ws := List.mem_filter.mpr ⟨List.mem_append_right _ (List.mem_append_right _ (List.mem_append_left _ (List.mem_of_getElem? (i := 110) rfl))), rfl⟩
theorem tw_2_112 : Jvm.Cond.instanceMethod ({ cls := "TamedClassSet$Rules", name := "overridesBadly", desc := "(I)Z" } : Jvm.MethodName) ∈ tx_ws := List.mem_filter.mpr ⟨List.mem_append_right _ (List.mem_append_right _ (List.mem_append_left _ (List.mem_of_getElem? (i := 112) rfl))), rfl⟩
theorem tw_2_113 : Jvm.Cond.code ({ cls := "TamedClassSet$Rules", name := "overridesBadly", desc := "(I)Z" } : Jvm.MethodName) prog_7_method_5_code (6 : Nat) (Option.some Jvm.ClassFile.FieldType.boolean) ∈ tx_ws := List.mem_filter.mpr ⟨List.mem_append_right _ (List.mem_append_right _ (List.mem_append_left _ (List.mem_of_getElem? (i := 113) rfl))), rfl⟩
theorem tw_2_114 : Jvm.Cond.methodLink "TamedClassSet$Rules" (76 : Nat) ({ cls := "TamedClassSet$Plan", name := "isUnder", desc := "(II)Z" } : Jvm.MethodName) ∈ tx_ws := List.mem_filter.mpr ⟨List.mem_append_right _ (List.mem_append_right _ (List.mem_append_left _ (List.mem_of_getElem? (i := 114) rfl))), rfl⟩
theorem tw_2_115 : Jvm.Cond.methodLink "TamedClassSet$Rules" (82 : Nat) ({ cls := "TamedClassSet$Rules", name := "agree", desc := "(II)Z" } : Jvm.MethodName) ∈ tx_ws := List.mem_filter.mpr ⟨List.mem_append_right _ (List.mem_append_right _ (List.mem_append_left _ (List.mem_of_getElem? (i := 115) rfl))), rfl⟩
theorem tw_2_117 : Jvm.Cond.instanceMethod ({ cls := "TamedClassSet$Rules", name := "agree", desc := "(II)Z" } : Jvm.MethodName) ∈ tx_ws := List.mem_filter.mpr ⟨List.mem_append_right _ (List.mem_append_right _ (List.mem_append_left _ (List.mem_of_getElem? (i := 117) rfl))), rfl⟩
theorem tw_2_118 : Jvm.Cond.code ({ cls := "TamedClassSet$Rules", name := "agree", desc := "(II)Z" } : Jvm.MethodName) prog_7_method_6_code (3 : Nat) (Option.some Jvm.ClassFile.FieldType.boolean) ∈ tx_ws := List.mem_filter.mpr ⟨List.mem_append_right _ (List.mem_append_right _ (List.mem_append_left _ (List.mem_of_getElem? (i := 118) rfl))), rfl⟩
theorem tw_2_119 : Jvm.Cond.methodLink "TamedClassSet$Rules" (85 : Nat) ({ cls := "TamedClassSet$Plan", name := "isStaticMethod", desc := "(I)Z" } : Jvm.MethodName) ∈ tx_ws := List.mem_filter.mpr ⟨List.mem_append_right _ (List.mem_append_right _ (List.mem_append_left _ (List.mem_of_getElem? (i := 119) rfl))), rfl⟩
theorem tw_2_120 : Jvm.Cond.instanceMethod ({ cls := "TamedClassSet$Plan", name := "isStaticMethod", desc := "(I)Z" } : Jvm.MethodName) ∈ tx_ws := List.mem_filter.mpr ⟨List.mem_append_right _ (List.mem_append_right _ (List.mem_append_left _ (List.mem_of_getElem? (i := 120) rfl))), rfl⟩
theorem tw_2_121 : Jvm.Cond.selects "TamedClassSet$Plan" ({ cls := "TamedClassSet$Plan", name := "isStaticMethod", desc := "(I)Z" } : Jvm.MethodName) ({ cls := "TamedClassSet$Plan", name := "isStaticMethod", desc := "(I)Z" } : Jvm.MethodName) ∈ tx_ws := List.mem_filter.mpr ⟨List.mem_append_right _ (List.mem_append_right _ (List.mem_append_left _ (List.mem_of_getElem? (i := 121) rfl))), rfl⟩
theorem tw_2_122 : Jvm.Cond.code ({ cls := "TamedClassSet$Plan", name := "isStaticMethod", desc := "(I)Z" } : Jvm.MethodName) prog_6_method_14_code (2 : Nat) (Option.some Jvm.ClassFile.FieldType.boolean) ∈ tx_ws := List.mem_filter.mpr ⟨List.mem_append_right _ (List.mem_append_right _ (List.mem_append_left _ (List.mem_of_getElem? (i := 122) rfl))), rfl⟩
theorem tw_2_123 : Jvm.Cond.methodLink "TamedClassSet$Rules" (38 : Nat) ({ cls := "TamedClassSet$Fitting", name := "codeFits", desc := "(I)Z" } : Jvm.MethodName) ∈ tx_ws := List.mem_filter.mpr ⟨List.mem_append_right _ (List.mem_append_right _ (List.mem_append_left _ (List.mem_of_getElem? (i := 123) rfl))), rfl⟩
theorem tw_2_124 : Jvm.Cond.instanceMethod ({ cls := "TamedClassSet$Fitting", name := "codeFits", desc := "(I)Z" } : Jvm.MethodName) ∈ tx_ws := List.mem_filter.mpr ⟨List.mem_append_right _ (List.mem_append_right _ (List.mem_append_left _ (List.mem_of_getElem? (i := 124) rfl))), rfl⟩
theorem tw_2_125 : Jvm.Cond.selects "TamedClassSet$Fitting" ({ cls := "TamedClassSet$Fitting", name := "codeFits", desc := "(I)Z" } : Jvm.MethodName) ({ cls := "TamedClassSet$Fitting", name := "codeFits", desc := "(I)Z" } : Jvm.MethodName) ∈ tx_ws := List.mem_filter.mpr ⟨List.mem_append_right _ (List.mem_append_right _ (List.mem_append_left _ (List.mem_of_getElem? (i := 125) rfl))), rfl⟩
theorem tw_2_126 : Jvm.Cond.code ({ cls := "TamedClassSet$Fitting", name := "codeFits", desc := "(I)Z" } : Jvm.MethodName) prog_2_method_2_code (5 : Nat) (Option.some Jvm.ClassFile.FieldType.boolean) ∈ tx_ws := List.mem_filter.mpr ⟨List.mem_append_right _ (List.mem_append_right _ (List.mem_append_left _ (List.mem_of_getElem? (i := 126) rfl))), rfl⟩
theorem tw_2_127 : Jvm.Cond.methodLink "TamedClassSet$Fitting" (28 : Nat) ({ cls := "TamedClassSet$Fitting", name := "begin", desc := "(I)V" } : Jvm.MethodName) ∈ tx_ws := List.mem_filter.mpr ⟨List.mem_append_right _ (List.mem_append_right _ (List.mem_append_left _ (List.mem_of_getElem? (i := 127) rfl))), rfl⟩
theorem tw_2_129 : Jvm.Cond.instanceMethod ({ cls := "TamedClassSet$Fitting", name := "begin", desc := "(I)V" } : Jvm.MethodName) ∈ tx_ws := List.mem_filter.mpr ⟨List.mem_append_right _ (List.mem_append_right _ (List.mem_append_left _ (List.mem_of_getElem? (i := 129) rfl))), rfl⟩
theorem tw_2_130 : Jvm.Cond.code ({ cls := "TamedClassSet$Fitting", name := "begin", desc := "(I)V" } : Jvm.MethodName) prog_2_method_4_code (3 : Nat) (Option.none : Option Jvm.ClassFile.FieldType) ∈ tx_ws := List.mem_filter.mpr ⟨List.mem_append_right _ (List.mem_append_right _ (List.mem_append_left _ (List.mem_of_getElem? (i := 130) rfl))), rfl⟩
theorem tw_2_131 : Jvm.Cond.methodLink "TamedClassSet$Fitting" (75 : Nat) ({ cls := "java/util/Arrays", name := "fill", desc := "([IIII)V" } : Jvm.MethodName) ∈ tx_ws := List.mem_filter.mpr ⟨List.mem_append_right _ (List.mem_append_right _ (List.mem_append_left _ (List.mem_of_getElem? (i := 131) rfl))), rfl⟩
theorem tw_2_132 : Jvm.Cond.static ({ cls := "java/util/Arrays", name := "fill", desc := "([IIII)V" } : Jvm.MethodName) ∈ tx_ws := List.mem_filter.mpr ⟨List.mem_append_right _ (List.mem_append_right _ (List.mem_append_left _ (List.mem_of_getElem? (i := 132) rfl))), rfl⟩
theorem tw_2_133 : Jvm.Cond.code ({ cls := "java/util/Arrays", name := "fill", desc := "([IIII)V" } : Jvm.MethodName) prog_12_method_104_code (5 : Nat) (Option.none : Option Jvm.ClassFile.FieldType) ∈ tx_ws := List.mem_filter.mpr ⟨List.mem_append_right _ (List.mem_append_right _ (List.mem_append_left _ (List.mem_of_getElem? (i := 133) rfl))), rfl⟩
theorem tw_2_134 : Jvm.Cond.methodLink "java/util/Arrays" (13 : Nat) ({ cls := "java/util/Arrays", name := "rangeCheck", desc := "(III)V" } : Jvm.MethodName) ∈ tx_ws := List.mem_filter.mpr ⟨List.mem_append_right _ (List.mem_append_right _ (List.mem_append_left _ (List.mem_of_getElem? (i := 134) rfl))), rfl⟩
theorem tw_2_135 : Jvm.Cond.static ({ cls := "java/util/Arrays", name := "rangeCheck", desc := "(III)V" } : Jvm.MethodName) ∈ tx_ws := List.mem_filter.mpr ⟨List.mem_append_right _ (List.mem_append_right _ (List.mem_append_left _ (List.mem_of_getElem? (i := 135) rfl))), rfl⟩
theorem tw_2_136 : Jvm.Cond.code ({ cls := "java/util/Arrays", name := "rangeCheck", desc := "(III)V" } : Jvm.MethodName) prog_12_method_30_code (3 : Nat) (Option.none : Option Jvm.ClassFile.FieldType) ∈ tx_ws := List.mem_filter.mpr ⟨List.mem_append_right _ (List.mem_append_right _ (List.mem_append_left _ (List.mem_of_getElem? (i := 136) rfl))), rfl⟩
theorem tw_2_137 : Jvm.Cond.methodLink "TamedClassSet$Fitting" (81 : Nat) ({ cls := "java/util/Arrays", name := "fill", desc := "([II)V" } : Jvm.MethodName) ∈ tx_ws := List.mem_filter.mpr ⟨List.mem_append_right _ (List.mem_append_right _ (List.mem_append_left _ (List.mem_of_getElem? (i := 137) rfl))), rfl⟩
theorem tw_2_138 : Jvm.Cond.static ({ cls := "java/util/Arrays", name := "fill", desc := "([II)V" } : Jvm.MethodName) ∈ tx_ws := List.mem_filter.mpr ⟨List.mem_append_right _ (List.mem_append_right _ (List.mem_append_left _ (List.mem_of_getElem? (i := 138) rfl))), rfl⟩
theorem tw_2_139 : Jvm.Cond.code ({ cls := "java/util/Arrays", name := "fill", desc := "([II)V" } : Jvm.MethodName) prog_12_method_103_code (4 : Nat) (Option.none : Option Jvm.ClassFile.FieldType) ∈ tx_ws := List.mem_filter.mpr ⟨List.mem_append_right _ (List.mem_append_right _ (List.mem_append_left _ (List.mem_of_getElem? (i := 139) rfl))), rfl⟩
theorem tw_2_140 : Jvm.Cond.methodLink "TamedClassSet$Fitting" (84 : Nat) ({ cls := "TamedClassSet$Plan", name := "isStaticMethod", desc := "(I)Z" } : Jvm.MethodName) ∈ tx_ws := List.mem_filter.mpr ⟨List.mem_append_right _ (List.mem_append_right _ (List.mem_append_left _ (List.mem_of_getElem? (i := 140) rfl))), rfl⟩
theorem tw_2_141 : Jvm.Cond.methodLink "TamedClassSet$Fitting" (32 : Nat) ({ cls := "TamedClassSet$Fitting", name := "arriveAt", desc := "(I)V" } : Jvm.MethodName) ∈ tx_ws := List.mem_filter.mpr ⟨List.mem_append_right _ (List.mem_append_right _ (List.mem_append_left _ (List.mem_of_getElem? (i := 141) rfl))), rfl⟩
theorem tw_2_143 : Jvm.Cond.instanceMethod ({ cls := "TamedClassSet$Fitting", name := "arriveAt", desc := "(I)V" } : Jvm.MethodName) ∈ tx_ws := List.mem_filter.mpr ⟨List.mem_append_right _ (List.mem_append_right _ (List.mem_append_left _ (List.mem_of_getElem? (i := 143) rfl))), rfl⟩
theorem tw_2_144 : Jvm.Cond.code ({ cls := "TamedClassSet$Fitting", name := "arriveAt", desc := "(I)V" } : Jvm.MethodName) prog_2_method_7_code (4 : Nat) (Option.none : Option Jvm.ClassFile.FieldType) ∈ tx_ws := List.mem_filter.mpr ⟨List.mem_append_right _ (List.mem_append_right _ (List.mem_append_left _ (List.mem_of_getElem? (i := 144) rfl))), rfl⟩
theorem tw_2_145 : Jvm.Cond.methodLink "TamedClassSet$Fitting" (93 : Nat) ({ cls := "TamedClassSet$Plan", name := "isInstruction", desc := "(II)Z" } : Jvm.MethodName) ∈ tx_ws := List.mem_filter.mpr ⟨List.mem_append_right _ (List.mem_append_right _ (List.mem_append_left _ (List.mem_of_getElem? (i := 145) rfl))), rfl⟩
theorem tw_2_146 : Jvm.Cond.instanceMethod ({ cls := "TamedClassSet$Plan", name := "isInstruction", desc := "(II)Z" } : Jvm.MethodName) ∈ tx_ws := List.mem_filter.mpr ⟨List.mem_append_right _ (List.mem_append_right _ (List.mem_append_left _ (List.mem_of_getElem? (i := 146) rfl))), rfl⟩
theorem tw_2_147 : Jvm.Cond.selects "TamedClassSet$Plan" ({ cls := "TamedClassSet$Plan", name := "isInstruction", desc := "(II)Z" } : Jvm.MethodName) ({ cls := "TamedClassSet$Plan", name := "isInstruction", desc := "(II)Z" } : Jvm.MethodName) ∈ tx_ws := List.mem_filter.mpr ⟨List.mem_append_right _ (List.mem_append_right _ (List.mem_append_left _ (List.mem_of_getElem? (i := 147) rfl))), rfl⟩
theorem tw_2_148 : Jvm.Cond.code ({ cls := "TamedClassSet$Plan", name := "isInstruction", desc := "(II)Z" } : Jvm.MethodName) prog_6_method_11_code (3 : Nat) (Option.some Jvm.ClassFile.FieldType.boolean) ∈ tx_ws := List.mem_filter.mpr ⟨List.mem_append_right _ (List.mem_append_right _ (List.mem_append_left _ (List.mem_of_getElem? (i := 148) rfl))), rfl⟩
theorem tw_2_149 : Jvm.Cond.methodLink "TamedClassSet$Fitting" (97 : Nat) ({ cls := "TamedClassSet$Fitting", name := "packed", desc := "()I" } : Jvm.MethodName) ∈ tx_ws := List.mem_filter.mpr ⟨List.mem_append_right _ (List.mem_append_right _ (List.mem_append_left _ (List.mem_of_getElem? (i := 149) rfl))), rfl⟩
theorem tw_2_151 : Jvm.Cond.instanceMethod ({ cls := "TamedClassSet$Fitting", name := "packed", desc := "()I" } : Jvm.MethodName) ∈ tx_ws := List.mem_filter.mpr ⟨List.mem_append_right _ (List.mem_append_right _ (List.mem_append_left _ (List.mem_of_getElem? (i := 151) rfl))), rfl⟩
theorem tw_2_152 : Jvm.Cond.code ({ cls := "TamedClassSet$Fitting", name := "packed", desc := "()I" } : Jvm.MethodName) prog_2_method_5_code (3 : Nat) (Option.some Jvm.ClassFile.FieldType.int) ∈ tx_ws := List.mem_filter.mpr ⟨List.mem_append_right _ (List.mem_append_right _ (List.mem_append_left _ (List.mem_of_getElem? (i := 152) rfl))), rfl⟩
theorem tw_2_153 : Jvm.Cond.methodLink "TamedClassSet$Fitting" (46 : Nat) ({ cls := "TamedClassSet$Fitting", name := "unpack", desc := "(I)V" } : Jvm.MethodName) ∈ tx_ws := List.mem_filter.mpr ⟨List.mem_append_right _ (List.mem_append_right _ (List.mem_append_left _ (List.mem_of_getElem? (i := 153) rfl))), rfl⟩
theorem tw_2_155 : Jvm.Cond.instanceMethod ({ cls := "TamedClassSet$Fitting", name := "unpack", desc := "(I)V" } : Jvm.MethodName) ∈ tx_ws := List.mem_filter.mpr ⟨List.mem_append_right _ (List.mem_append_right _ (List.mem_append_left _ (List.mem_of_getElem? (i := 155) rfl))), rfl⟩
theorem tw_2_156 : Jvm.Cond.code ({ cls := "TamedClassSet$Fitting", name := "unpack", desc := "(I)V" } : Jvm.MethodName) prog_2_method_6_code (3 : Nat) (Option.none : Option Jvm.ClassFile.FieldType) ∈ tx_ws := List.mem_filter.mpr ⟨List.mem_append_right _ (List.mem_append_right _ (List.mem_append_left _ (List.mem_of_getElem? (i := 156) rfl))), rfl⟩
theorem tw_2_157 : Jvm.Cond.methodLink "TamedClassSet$Fitting" (57 : Nat) ({ cls := "TamedClassSet$Fitting", name := "apply", desc := "(II)V" } : Jvm.MethodName) ∈ tx_ws := List.mem_filter.mpr ⟨List.mem_append_right _ (List.mem_append_right _ (List.mem_append_left _ (List.mem_of_getElem? (i := 157) rfl))), rfl⟩
theorem tw_2_159 : Jvm.Cond.instanceMethod ({ cls := "TamedClassSet$Fitting", name := "apply", desc := "(II)V" } : Jvm.MethodName) ∈ tx_ws := List.mem_filter.mpr ⟨List.mem_append_right _ (List.mem_append_right _ (List.mem_append_left _ (List.mem_of_getElem? (i := 159) rfl))), rfl⟩
theorem tw_2_160 : Jvm.Cond.code ({ cls := "TamedClassSet$Fitting", name := "apply", desc := "(II)V" } : Jvm.MethodName) prog_2_method_9_code (3 : Nat) (Option.none : Option Jvm.ClassFile.FieldType) ∈ tx_ws := List.mem_filter.mpr ⟨List.mem_append_right _ (List.mem_append_right _ (List.mem_append_left _ (List.mem_of_getElem? (i := 160) rfl))), rfl⟩
theorem tw_2_161 : Jvm.Cond.methodLink "TamedClassSet$Fitting" (101 : Nat) ({ cls := "TamedClassSet$Fitting", name := "put", desc := "(I)V" } : Jvm.MethodName) ∈ tx_ws := List.mem_filter.mpr ⟨List.mem_append_right _ (List.mem_append_right _ (List.mem_append_left _ (List.mem_of_getElem? (i := 161) rfl))), rfl⟩
theorem tw_2_163 : Jvm.Cond.instanceMethod ({ cls := "TamedClassSet$Fitting", name := "put", desc := "(I)V" } : Jvm.MethodName) ∈ tx_ws := List.mem_filter.mpr ⟨List.mem_append_right _ (List.mem_append_right _ (List.mem_append_left _ (List.mem_of_getElem? (i := 163) rfl))), rfl⟩
theorem tw_2_164 : Jvm.Cond.code ({ cls := "TamedClassSet$Fitting", name := "put", desc := "(I)V" } : Jvm.MethodName) prog_2_method_11_code (2 : Nat) (Option.none : Option Jvm.ClassFile.FieldType) ∈ tx_ws := List.mem_filter.mpr ⟨List.mem_append_right _ (List.mem_append_right _ (List.mem_append_left _ (List.mem_of_getElem? (i := 164) rfl))), rfl⟩
theorem tw_2_165 : Jvm.Cond.methodLink "TamedClassSet$Fitting" (104 : Nat) ({ cls := "TamedClassSet$Fitting", name := "load", desc := "(I)V" } : Jvm.MethodName) ∈ tx_ws := List.mem_filter.mpr ⟨List.mem_append_right _ (List.mem_append_right _ (List.mem_append_left _ (List.mem_of_getElem? (i := 165) rfl))), rfl⟩
theorem tw_2_167 : Jvm.Cond.instanceMethod ({ cls := "TamedClassSet$Fitting", name := "load", desc := "(I)V" } : Jvm.MethodName) ∈ tx_ws := List.mem_filter.mpr ⟨List.mem_append_right _ (List.mem_append_right _ (List.mem_append_left _ (List.mem_of_getElem? (i := 167) rfl))), rfl⟩
theorem tw_2_168 : Jvm.Cond.code ({ cls := "TamedClassSet$Fitting", name := "load", desc := "(I)V" } : Jvm.MethodName) prog_2_method_16_code (2 : Nat) (Option.none : Option Jvm.ClassFile.FieldType) ∈ tx_ws := List.mem_filter.mpr ⟨List.mem_append_right _ (List.mem_append_right _ (List.mem_append_left _ (List.mem_of_getElem? (i := 168) rfl))), rfl⟩
theorem tw_2_169 : Jvm.Cond.methodLink "TamedClassSet$Fitting" (131 : Nat) ({ cls := "TamedClassSet$Fitting", name := "demand", desc := "(Z)V" } : Jvm.MethodName) ∈ tx_ws := List.mem_filter.mpr ⟨List.mem_append_right _ (List.mem_append_right _ (List.mem_append_left _ (List.mem_of_getElem? (i := 169) rfl))), rfl⟩
theorem tw_2_171 : Jvm.Cond.instanceMethod ({ cls := "TamedClassSet$Fitting", name := "demand", desc := "(Z)V" } : Jvm.MethodName) ∈ tx_ws := List.mem_filter.mpr ⟨List.mem_append_right _ (List.mem_append_right _ (List.mem_append_left _ (List.mem_of_getElem? (i := 171) rfl))), rfl⟩
theorem tw_2_172 : Jvm.Cond.code ({ cls := "TamedClassSet$Fitting", name := "demand", desc := "(Z)V" } : Jvm.MethodName) prog_2_method_10_code (2 : Nat) (Option.none : Option Jvm.ClassFile.FieldType) ∈ tx_ws := List.mem_filter.mpr ⟨List.mem_append_right _ (List.mem_append_right _ (List.mem_append_left _ (List.mem_of_getElem? (i := 172) rfl))), rfl⟩
theorem tw_2_173 : Jvm.Cond.methodLink "TamedClassSet$Fitting" (107 : Nat) ({ cls := "TamedClassSet$Fitting", name := "store", desc := "(I)V" } : Jvm.MethodName) ∈ tx_ws := List.mem_filter.mpr ⟨List.mem_append_right _ (List.mem_append_right _ (List.mem_append_left _ (List.mem_of_getElem? (i := 173) rfl))), rfl⟩
theorem tw_2_175 : Jvm.Cond.instanceMethod ({ cls := "TamedClassSet$Fitting", name := "store", desc := "(I)V" } : Jvm.MethodName) ∈ tx_ws := List.mem_filter.mpr ⟨List.mem_append_right _ (List.mem_append_right _ (List.mem_append_left _ (List.mem_of_getElem? (i := 175) rfl))), rfl⟩
theorem tw_2_176 : Jvm.Cond.code ({ cls := "TamedClassSet$Fitting", name := "store", desc := "(I)V" } : Jvm.MethodName) prog_2_method_17_code (3 : Nat) (Option.none : Option Jvm.ClassFile.FieldType) ∈ tx_ws := List.mem_filter.mpr ⟨List.mem_append_right _ (List.mem_append_right _ (List.mem_append_left _ (List.mem_of_getElem? (i := 176) rfl))), rfl⟩
theorem tw_2_177 : Jvm.Cond.methodLink "TamedClassSet$Fitting" (141 : Nat) ({ cls := "TamedClassSet$Fitting", name := "takeAny", desc := "()I" } : Jvm.MethodName) ∈ tx_ws := List.mem_filter.mpr ⟨List.mem_append_right _ (List.mem_append_right _ (List.mem_append_left _ (List.mem_of_getElem? (i := 177) rfl))), rfl⟩
theorem tw_2_179 : Jvm.Cond.instanceMethod ({ cls := "TamedClassSet$Fitting", name := "takeAny", desc := "()I" } : Jvm.MethodName) ∈ tx_ws := List.mem_filter.mpr ⟨List.mem_append_right _ (List.mem_append_right _ (List.mem_append_left _ (List.mem_of_getElem? (i := 179) rfl))), rfl⟩
theorem tw_2_180 : Jvm.Cond.code ({ cls := "TamedClassSet$Fitting", name := "takeAny", desc := "()I" } : Jvm.MethodName) prog_2_method_13_code (1 : Nat) (Option.some Jvm.ClassFile.FieldType.int) ∈ tx_ws := List.mem_filter.mpr ⟨List.mem_append_right _ (List.mem_append_right _ (List.mem_append_left _ (List.mem_of_getElem? (i := 180) rfl))), rfl⟩
theorem tw_2_181 : Jvm.Cond.methodLink "TamedClassSet$Fitting" (110 : Nat) ({ cls := "TamedClassSet$Fitting", name := "take", desc := "(I)V" } : Jvm.MethodName) ∈ tx_ws := List.mem_filter.mpr ⟨List.mem_append_right _ (List.mem_append_right _ (List.mem_append_left _ (List.mem_of_getElem? (i := 181) rfl))), rfl⟩
theorem tw_2_183 : Jvm.Cond.instanceMethod ({ cls := "TamedClassSet$Fitting", name := "take", desc := "(I)V" } : Jvm.MethodName) ∈ tx_ws := List.mem_filter.mpr ⟨List.mem_append_right _ (List.mem_append_right _ (List.mem_append_left _ (List.mem_of_getElem? (i := 183) rfl))), rfl⟩
theorem tw_2_184 : Jvm.Cond.code ({ cls := "TamedClassSet$Fitting", name := "take", desc := "(I)V" } : Jvm.MethodName) prog_2_method_14_code (2 : Nat) (Option.none : Option Jvm.ClassFile.FieldType) ∈ tx_ws := List.mem_filter.mpr ⟨List.mem_append_right _ (List.mem_append_right _ (List.mem_append_left _ (List.mem_of_getElem? (i := 184) rfl))), rfl⟩
theorem tw_2_185 : Jvm.Cond.methodLink "TamedClassSet$Fitting" (144 : Nat) ({ cls := "TamedClassSet$Plan", name := "fits", desc := "(II)Z" } : Jvm.MethodName) ∈ tx_ws := List.mem_filter.mpr ⟨List.mem_append_right _ (List.mem_append_right _ (List.mem_append_left _ (List.mem_of_getElem? (i := 185) rfl))), rfl⟩
theorem tw_2_186 : Jvm.Cond.instanceMethod ({ cls := "TamedClassSet$Plan", name := "fits", desc := "(II)Z" } : Jvm.MethodName) ∈ tx_ws := List.mem_filter.mpr ⟨List.mem_append_right _ (List.mem_append_right _ (List.mem_append_left _ (List.mem_of_getElem? (i := 186) rfl))), rfl⟩
theorem tw_2_187 : Jvm.Cond.selects "TamedClassSet$Plan" ({ cls := "TamedClassSet$Plan", name := "fits", desc := "(II)Z" } : Jvm.MethodName) ({ cls := "TamedClassSet$Plan", name := "fits", desc := "(II)Z" } : Jvm.MethodName) ∈ tx_ws := List.mem_filter.mpr ⟨List.mem_append_right _ (List.mem_append_right _ (List.mem_append_left _ (List.mem_of_getElem? (i := 187) rfl))), rfl⟩
theorem tw_2_188 : Jvm.Cond.code ({ cls := "TamedClassSet$Plan", name := "fits", desc := "(II)Z" } : Jvm.MethodName) prog_6_method_16_code (4 : Nat) (Option.some Jvm.ClassFile.FieldType.boolean) ∈ tx_ws := List.mem_filter.mpr ⟨List.mem_append_right _ (List.mem_append_right _ (List.mem_append_left _ (List.mem_of_getElem? (i := 188) rfl))), rfl⟩
theorem tw_2_189 : Jvm.Cond.methodLink "TamedClassSet$Fitting" (113 : Nat) ({ cls := "TamedClassSet$Fitting", name := "make", desc := "(I)V" } : Jvm.MethodName) ∈ tx_ws := List.mem_filter.mpr ⟨List.mem_append_right _ (List.mem_append_right _ (List.mem_append_left _ (List.mem_of_getElem? (i := 189) rfl))), rfl⟩
theorem tw_2_191 : Jvm.Cond.instanceMethod ({ cls := "TamedClassSet$Fitting", name := "make", desc := "(I)V" } : Jvm.MethodName) ∈ tx_ws := List.mem_filter.mpr ⟨List.mem_append_right _ (List.mem_append_right _ (List.mem_append_left _ (List.mem_of_getElem? (i := 191) rfl))), rfl⟩
theorem tw_2_192 : Jvm.Cond.code ({ cls := "TamedClassSet$Fitting", name := "make", desc := "(I)V" } : Jvm.MethodName) prog_2_method_18_code (3 : Nat) (Option.none : Option Jvm.ClassFile.FieldType) ∈ tx_ws := List.mem_filter.mpr ⟨List.mem_append_right _ (List.mem_append_right _ (List.mem_append_left _ (List.mem_of_getElem? (i := 192) rfl))), rfl⟩
theorem tw_2_193 : Jvm.Cond.methodLink "TamedClassSet$Fitting" (138 : Nat) ({ cls := "TamedClassSet$Plan", name := "isClass", desc := "(I)Z" } : Jvm.MethodName) ∈ tx_ws := List.mem_filter.mpr ⟨List.mem_append_right _ (List.mem_append_right _ (List.mem_append_left _ (List.mem_of_getElem? (i := 193) rfl))), rfl⟩
theorem tw_2_194 : Jvm.Cond.methodLink "TamedClassSet$Fitting" (150 : Nat) ({ cls := "TamedClassSet$Plan", name := "owns", desc := "(II)Z" } : Jvm.MethodName) ∈ tx_ws := List.mem_filter.mpr ⟨List.mem_append_right _ (List.mem_append_right _ (List.mem_append_left _ (List.mem_of_getElem? (i := 194) rfl))), rfl⟩
theorem tw_2_195 : Jvm.Cond.methodLink "TamedClassSet$Fitting" (116 : Nat) ({ cls := "TamedClassSet$Fitting", name := "useField", desc := "(II)V" } : Jvm.MethodName) ∈ tx_ws := List.mem_filter.mpr ⟨List.mem_append_right _ (List.mem_append_right _ (List.mem_append_left _ (List.mem_of_getElem? (i := 195) rfl))), rfl⟩
theorem tw_2_197 : Jvm.Cond.instanceMethod ({ cls := "TamedClassSet$Fitting", name := "useField", desc := "(II)V" } : Jvm.MethodName) ∈ tx_ws := List.mem_filter.mpr ⟨List.mem_append_right _ (List.mem_append_right _ (List.mem_append_left _ (List.mem_of_getElem? (i := 197) rfl))), rfl⟩
theorem tw_2_198 : Jvm.Cond.code ({ cls := "TamedClassSet$Fitting", name := "useField", desc := "(II)V" } : Jvm.MethodName) prog_2_method_19_code (3 : Nat) (Option.none : Option Jvm.ClassFile.FieldType) ∈ tx_ws := List.mem_filter.mpr ⟨List.mem_append_right _ (List.mem_append_right _ (List.mem_append_left _ (List.mem_of_getElem? (i := 198) rfl))), rfl⟩
theorem tw_2_199 : Jvm.Cond.methodLink "TamedClassSet$Fitting" (156 : Nat) ({ cls := "TamedClassSet$Plan", name := "isField", desc := "(I)Z" } : Jvm.MethodName) ∈ tx_ws := List.mem_filter.mpr ⟨List.mem_append_right _ (List.mem_append_right _ (List.mem_append_left _ (List.mem_of_getElem? (i := 199) rfl))), rfl⟩
theorem tw_2_200 : Jvm.Cond.instanceMethod ({ cls := "TamedClassSet$Plan", name := "isField", desc := "(I)Z" } : Jvm.MethodName) ∈ tx_ws := List.mem_filter.mpr ⟨List.mem_append_right _ (List.mem_append_right _ (List.mem_append_left _ (List.mem_of_getElem? (i := 200) rfl))), rfl⟩
theorem tw_2_201 : Jvm.Cond.selects "TamedClassSet$Plan" ({ cls := "TamedClassSet$Plan", name := "isField", desc := "(I)Z" } : Jvm.MethodName) ({ cls := "TamedClassSet$Plan", name := "isField", desc := "(I)Z" } : Jvm.MethodName) ∈ tx_ws := List.mem_filter.mpr ⟨List.mem_append_right _ (List.mem_append_right _ (List.mem_append_left _ (List.mem_of_getElem? (i := 201) rfl))), rfl⟩
theorem tw_2_202 : Jvm.Cond.code ({ cls := "TamedClassSet$Plan", name := "isField", desc := "(I)Z" } : Jvm.MethodName) prog_6_method_9_code (2 : Nat) (Option.some Jvm.ClassFile.FieldType.boolean) ∈ tx_ws := List.mem_filter.mpr ⟨List.mem_append_right _ (List.mem_append_right _ (List.mem_append_left _ (List.mem_of_getElem? (i := 202) rfl))), rfl⟩
theorem tw_2_203 : Jvm.Cond.methodLink "TamedClassSet$Fitting" (159 : Nat) ({ cls := "TamedClassSet$Plan", name := "isStaticField", desc := "(I)Z" } : Jvm.MethodName) ∈ tx_ws := List.mem_filter.mpr ⟨List.mem_append_right _ (List.mem_append_right _ (List.mem_append_left _ (List.mem_of_getElem? (i := 203) rfl))), rfl⟩
theorem tw_2_204 : Jvm.Cond.methodLink "TamedClassSet$Fitting" (119 : Nat) ({ cls := "TamedClassSet$Fitting", name := "useStaticField", desc := "(II)V" } : Jvm.MethodName) ∈ tx_ws := List.mem_filter.mpr ⟨List.mem_append_right _ (List.mem_append_right _ (List.mem_append_left _ (List.mem_of_getElem? (i := 204) rfl))), rfl⟩
theorem tw_2_206 : Jvm.Cond.instanceMethod ({ cls := "TamedClassSet$Fitting", name := "useStaticField", desc := "(II)V" } : Jvm.MethodName) ∈ tx_ws := List.mem_filter.mpr ⟨List.mem_append_right _ (List.mem_append_right _ (List.mem_append_left _ (List.mem_of_getElem? (i := 206) rfl))), rfl⟩
theorem tw_2_207 : Jvm.Cond.code ({ cls := "TamedClassSet$Fitting", name := "useStaticField", desc := "(II)V" } : Jvm.MethodName) prog_2_method_20_code (3 : Nat) (Option.none : Option Jvm.ClassFile.FieldType) ∈ tx_ws := List.mem_filter.mpr ⟨List.mem_append_right _ (List.mem_append_right _ (List.mem_append_left _ (List.mem_of_getElem? (i := 207) rfl))), rfl⟩
theorem tw_2_208 : Jvm.Cond.methodLink "TamedClassSet$Fitting" (122 : Nat) ({ cls := "TamedClassSet$Fitting", name := "callMethod", desc := "(I)V" } : Jvm.MethodName) ∈ tx_ws := List.mem_filter.mpr ⟨List.mem_append_right _ (List.mem_append_right _ (List.mem_append_left _ (List.mem_of_getElem? (i := 208) rfl))), rfl⟩
theorem tw_2_210 : Jvm.Cond.instanceMethod ({ cls := "TamedClassSet$Fitting", name := "callMethod", desc := "(I)V" } : Jvm.MethodName) ∈ tx_ws := List.mem_filter.mpr ⟨List.mem_append_right _ (List.mem_append_right _ (List.mem_append_left _ (List.mem_of_getElem? (i := 210) rfl))), rfl⟩
theorem tw_2_211 : Jvm.Cond.code ({ cls := "TamedClassSet$Fitting", name := "callMethod", desc := "(I)V" } : Jvm.MethodName) prog_2_method_21_code (2 : Nat) (Option.none : Option Jvm.ClassFile.FieldType) ∈ tx_ws := List.mem_filter.mpr ⟨List.mem_append_right _ (List.mem_append_right _ (List.mem_append_left _ (List.mem_of_getElem? (i := 211) rfl))), rfl⟩
theorem tw_2_212 : Jvm.Cond.methodLink "TamedClassSet$Fitting" (165 : Nat) ({ cls := "TamedClassSet$Plan", name := "isMethod", desc := "(I)Z" } : Jvm.MethodName) ∈ tx_ws := List.mem_filter.mpr ⟨List.mem_append_right _ (List.mem_append_right _ (List.mem_append_left _ (List.mem_of_getElem? (i := 212) rfl))), rfl⟩
theorem tw_2_213 : Jvm.Cond.methodLink "TamedClassSet$Fitting" (125 : Nat) ({ cls := "TamedClassSet$Fitting", name := "takeReference", desc := "()V" } : Jvm.MethodName) ∈ tx_ws := List.mem_filter.mpr ⟨List.mem_append_right _ (List.mem_append_right _ (List.mem_append_left _ (List.mem_of_getElem? (i := 213) rfl))), rfl⟩
theorem tw_2_215 : Jvm.Cond.instanceMethod ({ cls := "TamedClassSet$Fitting", name := "takeReference", desc := "()V" } : Jvm.MethodName) ∈ tx_ws := List.mem_filter.mpr ⟨List.mem_append_right _ (List.mem_append_right _ (List.mem_append_left _ (List.mem_of_getElem? (i := 215) rfl))), rfl⟩
theorem tw_2_216 : Jvm.Cond.code ({ cls := "TamedClassSet$Fitting", name := "takeReference", desc := "()V" } : Jvm.MethodName) prog_2_method_15_code (1 : Nat) (Option.none : Option Jvm.ClassFile.FieldType) ∈ tx_ws := List.mem_filter.mpr ⟨List.mem_append_right _ (List.mem_append_right _ (List.mem_append_left _ (List.mem_of_getElem? (i := 216) rfl))), rfl⟩
theorem tw_2_217 : Jvm.Cond.methodLink "TamedClassSet$Fitting" (128 : Nat) ({ cls := "TamedClassSet$Fitting", name := "putClass", desc := "(I)V" } : Jvm.MethodName) ∈ tx_ws := List.mem_filter.mpr ⟨List.mem_append_right _ (List.mem_append_right _ (List.mem_append_left _ (List.mem_of_getElem? (i := 217) rfl))), rfl⟩
theorem tw_2_219 : Jvm.Cond.instanceMethod ({ cls := "TamedClassSet$Fitting", name := "putClass", desc := "(I)V" } : Jvm.MethodName) ∈ tx_ws := List.mem_filter.mpr ⟨List.mem_append_right _ (List.mem_append_right _ (List.mem_append_left _ (List.mem_of_getElem? (i := 219) rfl))), rfl⟩
theorem tw_2_220 : Jvm.Cond.code ({ cls := "TamedClassSet$Fitting", name := "putClass", desc := "(I)V" } : Jvm.MethodName) prog_2_method_12_code (2 : Nat) (Option.none : Option Jvm.ClassFile.FieldType) ∈ tx_ws := List.mem_filter.mpr ⟨List.mem_append_right _ (List.mem_append_right _ (List.mem_append_left _ (List.mem_of_getElem? (i := 220) rfl))), rfl⟩
theorem tw_2_221 : Jvm.Cond.methodLink "TamedClassSet$Fitting" (61 : Nat) ({ cls := "TamedClassSet$Fitting", name := "leave", desc := "(III)V" } : Jvm.MethodName) ∈ tx_ws := List.mem_filter.mpr ⟨List.mem_append_right _ (List.mem_append_right _ (List.mem_append_left _ (List.mem_of_getElem? (i := 221) rfl))), rfl⟩
theorem tw_2_223 : Jvm.Cond.instanceMethod ({ cls := "TamedClassSet$Fitting", name := "leave", desc := "(III)V" } : Jvm.MethodName) ∈ tx_ws := List.mem_filter.mpr ⟨List.mem_append_right _ (List.mem_append_right _ (List.mem_append_left _ (List.mem_of_getElem? (i := 223) rfl))), rfl⟩
theorem tw_2_224 : Jvm.Cond.code ({ cls := "TamedClassSet$Fitting", name := "leave", desc := "(III)V" } : Jvm.MethodName) prog_2_method_8_code (4 : Nat) (Option.none : Option Jvm.ClassFile.FieldType) ∈ tx_ws := List.mem_filter.mpr ⟨List.mem_append_right _ (List.mem_append_right _ (List.mem_append_left _ (List.mem_of_getElem? (i := 224) rfl))), rfl⟩
theorem tw_2_225 : Jvm.Cond.methodLink "TamedClassSet$Rules" (47 : Nat) ({ cls := "TamedClassSet$Rules", name := "breaks", desc := "(III)Z" } : Jvm.MethodName) ∈ tx_ws := List.mem_filter.mpr ⟨List.mem_append_right _ (List.mem_append_right _ (List.mem_append_left _ (List.mem_of_getElem? (i := 225) rfl))), rfl⟩
theorem tw_2_227 : Jvm.Cond.instanceMethod ({ cls := "TamedClassSet$Rules", name := "breaks", desc := "(III)Z" } : Jvm.MethodName) ∈ tx_ws := List.mem_filter.mpr ⟨List.mem_append_right _ (List.mem_append_right _ (List.mem_append_left _ (List.mem_of_getElem? (i := 227) rfl))), rfl⟩
theorem tw_2_228 : Jvm.Cond.code ({ cls := "TamedClassSet$Rules", name := "breaks", desc := "(III)Z" } : Jvm.MethodName) prog_7_method_7_code (6 : Nat) (Option.some Jvm.ClassFile.FieldType.boolean) ∈ tx_ws := List.mem_filter.mpr ⟨List.mem_append_right _ (List.mem_append_right _ (List.mem_append_left _ (List.mem_of_getElem? (i := 228) rfl))), rfl⟩
theorem tw_2_229 : Jvm.Cond.methodLink "TamedClassSet$Rules" (100 : Nat) ({ cls := "TamedClassSet$Fitting", name := "comparesImmutable", desc := "(II)Z" } : Jvm.MethodName) ∈ tx_ws := List.mem_filter.mpr ⟨List.mem_append_right _ (List.mem_append_right _ (List.mem_append_left _ (List.mem_of_getElem? (i := 229) rfl))), rfl⟩
theorem tw_2_230 : Jvm.Cond.instanceMethod ({ cls := "TamedClassSet$Fitting", name := "comparesImmutable", desc := "(II)Z" } : Jvm.MethodName) ∈ tx_ws := List.mem_filter.mpr ⟨List.mem_append_right _ (List.mem_append_right _ (List.mem_append_left _ (List.mem_of_getElem? (i := 230) rfl))), rfl⟩
theorem tw_2_231 : Jvm.Cond.selects "TamedClassSet$Fitting" ({ cls := "TamedClassSet$Fitting", name := "comparesImmutable", desc := "(II)Z" } : Jvm.MethodName) ({ cls := "TamedClassSet$Fitting", name := "comparesImmutable", desc := "(II)Z" } : Jvm.MethodName) ∈ tx_ws := List.mem_filter.mpr ⟨List.mem_append_right _ (List.mem_append_right _ (List.mem_append_left _ (List.mem_of_getElem? (i := 231) rfl))), rfl⟩
theorem tw_2_232 : Jvm.Cond.code ({ cls := "TamedClassSet$Fitting", name := "comparesImmutable", desc := "(II)Z" } : Jvm.MethodName) prog_2_method_3_code (3 : Nat) (Option.some Jvm.ClassFile.FieldType.boolean) ∈ tx_ws := List.mem_filter.mpr ⟨List.mem_append_right _ (List.mem_append_right _ (List.mem_append_left _ (List.mem_of_getElem? (i := 232) rfl))), rfl⟩
theorem tw_2_233 : Jvm.Cond.methodLink "TamedClassSet$Fitting" (71 : Nat) ({ cls := "TamedClassSet$Plan", name := "isImmutable", desc := "(I)Z" } : Jvm.MethodName) ∈ tx_ws := List.mem_filter.mpr ⟨List.mem_append_right _ (List.mem_append_right _ (List.mem_append_left _ (List.mem_of_getElem? (i := 233) rfl))), rfl⟩
theorem tw_2_235 : Jvm.Cond.instanceMethod ({ cls := "TamedClassSet", name := "clear", desc := "()V" } : Jvm.MethodName) ∈ tx_ws := List.mem_filter.mpr ⟨List.mem_append_right _ (List.mem_append_right _ (List.mem_append_left _ (List.mem_of_getElem? (i := 235) rfl))), rfl⟩
theorem tw_2_236 : Jvm.Cond.selects "TamedClassSet" ({ cls := "TamedClassSet", name := "clear", desc := "()V" } : Jvm.MethodName) ({ cls := "TamedClassSet", name := "clear", desc := "()V" } : Jvm.MethodName) ∈ tx_ws := List.mem_filter.mpr ⟨List.mem_append_right _ (List.mem_append_right _ (List.mem_append_left _ (List.mem_of_getElem? (i := 236) rfl))), rfl⟩
theorem tw_2_237 : Jvm.Cond.code ({ cls := "TamedClassSet", name := "clear", desc := "()V" } : Jvm.MethodName) prog_1_method_7_code (1 : Nat) (Option.none : Option Jvm.ClassFile.FieldType) ∈ tx_ws := List.mem_filter.mpr ⟨List.mem_append_right _ (List.mem_append_right _ (List.mem_append_left _ (List.mem_of_getElem? (i := 237) rfl))), rfl⟩
theorem tw_2_238 : Jvm.Cond.methodLink "TamedClassSet" (106 : Nat) ({ cls := "TamedClassSet$Plan", name := "forgetAll", desc := "()V" } : Jvm.MethodName) ∈ tx_ws := List.mem_filter.mpr ⟨List.mem_append_right _ (List.mem_append_right _ (List.mem_append_left _ (List.mem_of_getElem? (i := 238) rfl))), rfl⟩
theorem tw_2_239 : Jvm.Cond.instanceMethod ({ cls := "TamedClassSet$Plan", name := "forgetAll", desc := "()V" } : Jvm.MethodName) ∈ tx_ws := List.mem_filter.mpr ⟨List.mem_append_right _ (List.mem_append_right _ (List.mem_append_left _ (List.mem_of_getElem? (i := 239) rfl))), rfl⟩
theorem tw_3_0 : Jvm.Cond.selects "TamedClassSet$Plan" ({ cls := "TamedClassSet$Plan", name := "forgetAll", desc := "()V" } : Jvm.MethodName) ({ cls := "TamedClassSet$Plan", name := "forgetAll", desc := "()V" } : Jvm.MethodName) ∈ tx_ws := List.mem_filter.mpr ⟨List.mem_append_right _ (List.mem_append_right _ (List.mem_append_right _ (List.mem_append_left _ (List.mem_of_getElem? (i := 0) rfl)))), rfl⟩
theorem tw_3_1 : Jvm.Cond.code ({ cls := "TamedClassSet$Plan", name := "forgetAll", desc := "()V" } : Jvm.MethodName) prog_6_method_6_code (1 : Nat) (Option.none : Option Jvm.ClassFile.FieldType) ∈ tx_ws := List.mem_filter.mpr ⟨List.mem_append_right _ (List.mem_append_right _ (List.mem_append_right _ (List.mem_append_left _ (List.mem_of_getElem? (i := 1) rfl)))), rfl⟩
theorem tw_3_2 : Jvm.Cond.methodLink "TamedClassSet" (109 : Nat) ({ cls := "TamedClassSet$Heap", name := "forgetAll", desc := "()V" } : Jvm.MethodName) ∈ tx_ws := List.mem_filter.mpr ⟨List.mem_append_right _ (List.mem_append_right _ (List.mem_append_right _ (List.mem_append_left _ (List.mem_of_getElem? (i := 2) rfl)))), rfl⟩
theorem tw_3_3 : Jvm.Cond.instanceMethod ({ cls := "TamedClassSet$Heap", name := "forgetAll", desc := "()V" } : Jvm.MethodName) ∈ tx_ws := List.mem_filter.mpr ⟨List.mem_append_right _ (List.mem_append_right _ (List.mem_append_right _ (List.mem_append_left _ (List.mem_of_getElem? (i := 3) rfl)))), rfl⟩
theorem tw_3_4 : Jvm.Cond.selects "TamedClassSet$Heap" ({ cls := "TamedClassSet$Heap", name := "forgetAll", desc := "()V" } : Jvm.MethodName) ({ cls := "TamedClassSet$Heap", name := "forgetAll", desc := "()V" } : Jvm.MethodName) ∈ tx_ws := List.mem_filter.mpr ⟨List.mem_append_right _ (List.mem_append_right _ (List.mem_append_right _ (List.mem_append_left _ (List.mem_of_getElem? (i := 4) rfl)))), rfl⟩
theorem tw_3_5 : Jvm.Cond.code ({ cls := "TamedClassSet$Heap", name := "forgetAll", desc := "()V" } : Jvm.MethodName) prog_4_method_2_code (1 : Nat) (Option.none : Option Jvm.ClassFile.FieldType) ∈ tx_ws := List.mem_filter.mpr ⟨List.mem_append_right _ (List.mem_append_right _ (List.mem_append_right _ (List.mem_append_left _ (List.mem_of_getElem? (i := 5) rfl)))), rfl⟩
theorem tw_3_7 : Jvm.Cond.instanceMethod ({ cls := "TamedClassSet", name := "typesAt", desc := "(II)I" } : Jvm.MethodName) ∈ tx_ws := List.mem_filter.mpr ⟨List.mem_append_right _ (List.mem_append_right _ (List.mem_append_right _ (List.mem_append_left _ (List.mem_of_getElem? (i := 7) rfl)))), rfl⟩
theorem tw_3_8 : Jvm.Cond.selects "TamedClassSet" ({ cls := "TamedClassSet", name := "typesAt", desc := "(II)I" } : Jvm.MethodName) ({ cls := "TamedClassSet", name := "typesAt", desc := "(II)I" } : Jvm.MethodName) ∈ tx_ws := List.mem_filter.mpr ⟨List.mem_append_right _ (List.mem_append_right _ (List.mem_append_right _ (List.mem_append_left _ (List.mem_of_getElem? (i := 8) rfl)))), rfl⟩
theorem tw_3_9 : Jvm.Cond.code ({ cls := "TamedClassSet", name := "typesAt", desc := "(II)I" } : Jvm.MethodName) prog_1_method_8_code (3 : Nat) (Option.some Jvm.ClassFile.FieldType.int) ∈ tx_ws := List.mem_filter.mpr ⟨List.mem_append_right _ (List.mem_append_right _ (List.mem_append_right _ (List.mem_append_left _ (List.mem_of_getElem? (i := 9) rfl)))), rfl⟩
theorem tw_3_10 : Jvm.Cond.methodLink "TamedClassSet" (110 : Nat) ({ cls := "TamedClassSet$Plan", name := "isInstruction", desc := "(II)Z" } : Jvm.MethodName) ∈ tx_ws := List.mem_filter.mpr ⟨List.mem_append_right _ (List.mem_append_right _ (List.mem_append_right _ (List.mem_append_left _ (List.mem_of_getElem? (i := 10) rfl)))), rfl⟩
theorem tw_3_12 : Jvm.Cond.instanceMethod ({ cls := "TamedClassSet", name := "run", desc := "(III)J" } : Jvm.MethodName) ∈ tx_ws := List.mem_filter.mpr ⟨List.mem_append_right _ (List.mem_append_right _ (List.mem_append_right _ (List.mem_append_left _ (List.mem_of_getElem? (i := 12) rfl)))), rfl⟩
theorem tw_3_13 : Jvm.Cond.selects "TamedClassSet" ({ cls := "TamedClassSet", name := "run", desc := "(III)J" } : Jvm.MethodName) ({ cls := "TamedClassSet", name := "run", desc := "(III)J" } : Jvm.MethodName) ∈ tx_ws := List.mem_filter.mpr ⟨List.mem_append_right _ (List.mem_append_right _ (List.mem_append_right _ (List.mem_append_left _ (List.mem_of_getElem? (i := 13) rfl)))), rfl⟩
theorem tw_3_14 : Jvm.Cond.code ({ cls := "TamedClassSet", name := "run", desc := "(III)J" } : Jvm.MethodName) prog_1_method_9_code (8 : Nat) (Option.some Jvm.ClassFile.FieldType.long) ∈ tx_ws := List.mem_filter.mpr ⟨List.mem_append_right _ (List.mem_append_right _ (List.mem_append_right _ (List.mem_append_left _ (List.mem_of_getElem? (i := 14) rfl)))), rfl⟩
theorem tw_3_15 : Jvm.Cond.constantLong "TamedClassSet" (117 : Nat) (68719476736 : Int64) ∈ tx_ws := List.mem_filter.mpr ⟨List.mem_append_right _ (List.mem_append_right _ (List.mem_append_right _ (List.mem_append_left _ (List.mem_of_getElem? (i := 15) rfl)))), rfl⟩
theorem tw_3_16 : Jvm.Cond.methodLink "TamedClassSet" (119 : Nat) ({ cls := "TamedClassSet", name := "receiverFits", desc := "(II)Z" } : Jvm.MethodName) ∈ tx_ws := List.mem_filter.mpr ⟨List.mem_append_right _ (List.mem_append_right _ (List.mem_append_right _ (List.mem_append_left _ (List.mem_of_getElem? (i := 16) rfl)))), rfl⟩
theorem tw_3_18 : Jvm.Cond.instanceMethod ({ cls := "TamedClassSet", name := "receiverFits", desc := "(II)Z" } : Jvm.MethodName) ∈ tx_ws := List.mem_filter.mpr ⟨List.mem_append_right _ (List.mem_append_right _ (List.mem_append_right _ (List.mem_append_left _ (List.mem_of_getElem? (i := 18) rfl)))), rfl⟩
theorem tw_3_19 : Jvm.Cond.code ({ cls := "TamedClassSet", name := "receiverFits", desc := "(II)Z" } : Jvm.MethodName) prog_1_method_14_code (4 : Nat) (Option.some Jvm.ClassFile.FieldType.boolean) ∈ tx_ws := List.mem_filter.mpr ⟨List.mem_append_right _ (List.mem_append_right _ (List.mem_append_right _ (List.mem_append_left _ (List.mem_of_getElem? (i := 19) rfl)))), rfl⟩
theorem tw_3_20 : Jvm.Cond.methodLink "TamedClassSet" (171 : Nat) ({ cls := "TamedClassSet$Plan", name := "isStaticMethod", desc := "(I)Z" } : Jvm.MethodName) ∈ tx_ws := List.mem_filter.mpr ⟨List.mem_append_right _ (List.mem_append_right _ (List.mem_append_right _ (List.mem_append_left _ (List.mem_of_getElem? (i := 20) rfl)))), rfl⟩
theorem tw_3_21 : Jvm.Cond.methodLink "TamedClassSet" (128 : Nat) ({ cls := "TamedClassSet$Heap", name := "inHandle", desc := "(I)I" } : Jvm.MethodName) ∈ tx_ws := List.mem_filter.mpr ⟨List.mem_append_right _ (List.mem_append_right _ (List.mem_append_right _ (List.mem_append_left _ (List.mem_of_getElem? (i := 21) rfl)))), rfl⟩
theorem tw_3_22 : Jvm.Cond.instanceMethod ({ cls := "TamedClassSet$Heap", name := "inHandle", desc := "(I)I" } : Jvm.MethodName) ∈ tx_ws := List.mem_filter.mpr ⟨List.mem_append_right _ (List.mem_append_right _ (List.mem_append_right _ (List.mem_append_left _ (List.mem_of_getElem? (i := 22) rfl)))), rfl⟩
theorem tw_3_23 : Jvm.Cond.selects "TamedClassSet$Heap" ({ cls := "TamedClassSet$Heap", name := "inHandle", desc := "(I)I" } : Jvm.MethodName) ({ cls := "TamedClassSet$Heap", name := "inHandle", desc := "(I)I" } : Jvm.MethodName) ∈ tx_ws := List.mem_filter.mpr ⟨List.mem_append_right _ (List.mem_append_right _ (List.mem_append_right _ (List.mem_append_left _ (List.mem_of_getElem? (i := 23) rfl)))), rfl⟩
theorem tw_3_24 : Jvm.Cond.code ({ cls := "TamedClassSet$Heap", name := "inHandle", desc := "(I)I" } : Jvm.MethodName) prog_4_method_6_code (2 : Nat) (Option.some Jvm.ClassFile.FieldType.int) ∈ tx_ws := List.mem_filter.mpr ⟨List.mem_append_right _ (List.mem_append_right _ (List.mem_append_right _ (List.mem_append_left _ (List.mem_of_getElem? (i := 24) rfl)))), rfl⟩
theorem tw_3_25 : Jvm.Cond.methodLink "TamedClassSet" (177 : Nat) ({ cls := "TamedClassSet$Plan", name := "fits", desc := "(II)Z" } : Jvm.MethodName) ∈ tx_ws := List.mem_filter.mpr ⟨List.mem_append_right _ (List.mem_append_right _ (List.mem_append_right _ (List.mem_append_left _ (List.mem_of_getElem? (i := 25) rfl)))), rfl⟩
theorem tw_3_26 : Jvm.Cond.methodLink "TamedClassSet" (122 : Nat) ({ cls := "TamedClassSet", name := "argumentFits", desc := "(II)Z" } : Jvm.MethodName) ∈ tx_ws := List.mem_filter.mpr ⟨List.mem_append_right _ (List.mem_append_right _ (List.mem_append_right _ (List.mem_append_left _ (List.mem_of_getElem? (i := 26) rfl)))), rfl⟩
theorem tw_3_28 : Jvm.Cond.instanceMethod ({ cls := "TamedClassSet", name := "argumentFits", desc := "(II)Z" } : Jvm.MethodName) ∈ tx_ws := List.mem_filter.mpr ⟨List.mem_append_right _ (List.mem_append_right _ (List.mem_append_right _ (List.mem_append_left _ (List.mem_of_getElem? (i := 28) rfl)))), rfl⟩
theorem tw_3_29 : Jvm.Cond.code ({ cls := "TamedClassSet", name := "argumentFits", desc := "(II)Z" } : Jvm.MethodName) prog_1_method_15_code (4 : Nat) (Option.some Jvm.ClassFile.FieldType.boolean) ∈ tx_ws := List.mem_filter.mpr ⟨List.mem_append_right _ (List.mem_append_right _ (List.mem_append_right _ (List.mem_append_left _ (List.mem_of_getElem? (i := 29) rfl)))), rfl⟩
theorem tw_3_30 : Jvm.Cond.methodLink "TamedClassSet" (131 : Nat) ({ cls := "TamedClassSet$Machine", name := "execute", desc := "(III)I" } : Jvm.MethodName) ∈ tx_ws := List.mem_filter.mpr ⟨List.mem_append_right _ (List.mem_append_right _ (List.mem_append_right _ (List.mem_append_left _ (List.mem_of_getElem? (i := 30) rfl)))), rfl⟩
theorem tw_3_31 : Jvm.Cond.instanceMethod ({ cls := "TamedClassSet$Machine", name := "execute", desc := "(III)I" } : Jvm.MethodName) ∈ tx_ws := List.mem_filter.mpr ⟨List.mem_append_right _ (List.mem_append_right _ (List.mem_append_right _ (List.mem_append_left _ (List.mem_of_getElem? (i := 31) rfl)))), rfl⟩
theorem tw_3_32 : Jvm.Cond.selects "TamedClassSet$Machine" ({ cls := "TamedClassSet$Machine", name := "execute", desc := "(III)I" } : Jvm.MethodName) ({ cls := "TamedClassSet$Machine", name := "execute", desc := "(III)I" } : Jvm.MethodName) ∈ tx_ws := List.mem_filter.mpr ⟨List.mem_append_right _ (List.mem_append_right _ (List.mem_append_right _ (List.mem_append_left _ (List.mem_of_getElem? (i := 32) rfl)))), rfl⟩
theorem tw_3_33 : Jvm.Cond.code ({ cls := "TamedClassSet$Machine", name := "execute", desc := "(III)I" } : Jvm.MethodName) prog_5_method_2_code (5 : Nat) (Option.some Jvm.ClassFile.FieldType.int) ∈ tx_ws := List.mem_filter.mpr ⟨List.mem_append_right _ (List.mem_append_right _ (List.mem_append_right _ (List.mem_append_left _ (List.mem_of_getElem? (i := 33) rfl)))), rfl⟩
theorem tw_3_34 : Jvm.Cond.methodLink "TamedClassSet$Machine" (33 : Nat) ({ cls := "TamedClassSet$Machine", name := "enter", desc := "(III)V" } : Jvm.MethodName) ∈ tx_ws := List.mem_filter.mpr ⟨List.mem_append_right _ (List.mem_append_right _ (List.mem_append_right _ (List.mem_append_left _ (List.mem_of_getElem? (i := 34) rfl)))), rfl⟩
theorem tw_3_36 : Jvm.Cond.instanceMethod ({ cls := "TamedClassSet$Machine", name := "enter", desc := "(III)V" } : Jvm.MethodName) ∈ tx_ws := List.mem_filter.mpr ⟨List.mem_append_right _ (List.mem_append_right _ (List.mem_append_right _ (List.mem_append_left _ (List.mem_of_getElem? (i := 36) rfl)))), rfl⟩
theorem tw_3_37 : Jvm.Cond.code ({ cls := "TamedClassSet$Machine", name := "enter", desc := "(III)V" } : Jvm.MethodName) prog_5_method_3_code (6 : Nat) (Option.none : Option Jvm.ClassFile.FieldType) ∈ tx_ws := List.mem_filter.mpr ⟨List.mem_append_right _ (List.mem_append_right _ (List.mem_append_right _ (List.mem_append_left _ (List.mem_of_getElem? (i := 37) rfl)))), rfl⟩
theorem tw_3_38 : Jvm.Cond.methodLink "TamedClassSet$Machine" (44 : Nat) ({ cls := "TamedClassSet$Plan", name := "isStaticMethod", desc := "(I)Z" } : Jvm.MethodName) ∈ tx_ws := List.mem_filter.mpr ⟨List.mem_append_right _ (List.mem_append_right _ (List.mem_append_right _ (List.mem_append_left _ (List.mem_of_getElem? (i := 38) rfl)))), rfl⟩
theorem tw_3_39 : Jvm.Cond.methodLink "TamedClassSet$Machine" (50 : Nat) ({ cls := "TamedClassSet$Frame", name := "begin", desc := "(I)V" } : Jvm.MethodName) ∈ tx_ws := List.mem_filter.mpr ⟨List.mem_append_right _ (List.mem_append_right _ (List.mem_append_right _ (List.mem_append_left _ (List.mem_of_getElem? (i := 39) rfl)))), rfl⟩
theorem tw_3_40 : Jvm.Cond.instanceMethod ({ cls := "TamedClassSet$Frame", name := "begin", desc := "(I)V" } : Jvm.MethodName) ∈ tx_ws := List.mem_filter.mpr ⟨List.mem_append_right _ (List.mem_append_right _ (List.mem_append_right _ (List.mem_append_left _ (List.mem_of_getElem? (i := 40) rfl)))), rfl⟩
theorem tw_3_41 : Jvm.Cond.selects "TamedClassSet$Frame" ({ cls := "TamedClassSet$Frame", name := "begin", desc := "(I)V" } : Jvm.MethodName) ({ cls := "TamedClassSet$Frame", name := "begin", desc := "(I)V" } : Jvm.MethodName) ∈ tx_ws := List.mem_filter.mpr ⟨List.mem_append_right _ (List.mem_append_right _ (List.mem_append_right _ (List.mem_append_left _ (List.mem_of_getElem? (i := 41) rfl)))), rfl⟩
theorem tw_3_42 : Jvm.Cond.code ({ cls := "TamedClassSet$Frame", name := "begin", desc := "(I)V" } : Jvm.MethodName) prog_3_method_2_code (2 : Nat) (Option.none : Option Jvm.ClassFile.FieldType) ∈ tx_ws := List.mem_filter.mpr ⟨List.mem_append_right _ (List.mem_append_right _ (List.mem_append_right _ (List.mem_append_left _ (List.mem_of_getElem? (i := 42) rfl)))), rfl⟩
theorem tw_3_43 : Jvm.Cond.methodLink "TamedClassSet$Machine" (63 : Nat) ({ cls := "TamedClassSet$Plan", name := "chosenMethod", desc := "(II)I" } : Jvm.MethodName) ∈ tx_ws := List.mem_filter.mpr ⟨List.mem_append_right _ (List.mem_append_right _ (List.mem_append_right _ (List.mem_append_left _ (List.mem_of_getElem? (i := 43) rfl)))), rfl⟩
theorem tw_3_44 : Jvm.Cond.instanceMethod ({ cls := "TamedClassSet$Plan", name := "chosenMethod", desc := "(II)I" } : Jvm.MethodName) ∈ tx_ws := List.mem_filter.mpr ⟨List.mem_append_right _ (List.mem_append_right _ (List.mem_append_right _ (List.mem_append_left _ (List.mem_of_getElem? (i := 44) rfl)))), rfl⟩
theorem tw_3_45 : Jvm.Cond.selects "TamedClassSet$Plan" ({ cls := "TamedClassSet$Plan", name := "chosenMethod", desc := "(II)I" } : Jvm.MethodName) ({ cls := "TamedClassSet$Plan", name := "chosenMethod", desc := "(II)I" } : Jvm.MethodName) ∈ tx_ws := List.mem_filter.mpr ⟨List.mem_append_right _ (List.mem_append_right _ (List.mem_append_right _ (List.mem_append_left _ (List.mem_of_getElem? (i := 45) rfl)))), rfl⟩
theorem tw_3_46 : Jvm.Cond.code ({ cls := "TamedClassSet$Plan", name := "chosenMethod", desc := "(II)I" } : Jvm.MethodName) prog_6_method_22_code (5 : Nat) (Option.some Jvm.ClassFile.FieldType.int) ∈ tx_ws := List.mem_filter.mpr ⟨List.mem_append_right _ (List.mem_append_right _ (List.mem_append_right _ (List.mem_append_left _ (List.mem_of_getElem? (i := 46) rfl)))), rfl⟩
theorem tw_3_47 : Jvm.Cond.methodLink "TamedClassSet$Plan" (72 : Nat) ({ cls := "TamedClassSet$Plan", name := "methodNamed", desc := "(II)I" } : Jvm.MethodName) ∈ tx_ws := List.mem_filter.mpr ⟨List.mem_append_right _ (List.mem_append_right _ (List.mem_append_right _ (List.mem_append_left _ (List.mem_of_getElem? (i := 47) rfl)))), rfl⟩
theorem tw_3_48 : Jvm.Cond.methodLink "TamedClassSet$Machine" (40 : Nat) ({ cls := "TamedClassSet$Machine", name := "step", desc := "(LTamedClassSet$Frame;)I" } : Jvm.MethodName) ∈ tx_ws := List.mem_filter.mpr ⟨List.mem_append_right _ (List.mem_append_right _ (List.mem_append_right _ (List.mem_append_left _ (List.mem_of_getElem? (i := 48) rfl)))), rfl⟩
theorem tw_3_50 : Jvm.Cond.instanceMethod ({ cls := "TamedClassSet$Machine", name := "step", desc := "(LTamedClassSet$Frame;)I" } : Jvm.MethodName) ∈ tx_ws := List.mem_filter.mpr ⟨List.mem_append_right _ (List.mem_append_right _ (List.mem_append_right _ (List.mem_append_left _ (List.mem_of_getElem? (i := 50) rfl)))), rfl⟩
theorem tw_3_51 : Jvm.Cond.code ({ cls := "TamedClassSet$Machine", name := "step", desc := "(LTamedClassSet$Frame;)I" } : Jvm.MethodName) prog_5_method_4_code (5 : Nat) (Option.some Jvm.ClassFile.FieldType.int) ∈ tx_ws := List.mem_filter.mpr ⟨List.mem_append_right _ (List.mem_append_right _ (List.mem_append_right _ (List.mem_append_left _ (List.mem_of_getElem? (i := 51) rfl)))), rfl⟩
theorem tw_3_52 : Jvm.Cond.methodLink "TamedClassSet$Machine" (79 : Nat) ({ cls := "TamedClassSet$Frame", name := "push", desc := "(I)V" } : Jvm.MethodName) ∈ tx_ws := List.mem_filter.mpr ⟨List.mem_append_right _ (List.mem_append_right _ (List.mem_append_right _ (List.mem_append_left _ (List.mem_of_getElem? (i := 52) rfl)))), rfl⟩
theorem tw_3_53 : Jvm.Cond.instanceMethod ({ cls := "TamedClassSet$Frame", name := "push", desc := "(I)V" } : Jvm.MethodName) ∈ tx_ws := List.mem_filter.mpr ⟨List.mem_append_right _ (List.mem_append_right _ (List.mem_append_right _ (List.mem_append_left _ (List.mem_of_getElem? (i := 53) rfl)))), rfl⟩
theorem tw_3_54 : Jvm.Cond.selects "TamedClassSet$Frame" ({ cls := "TamedClassSet$Frame", name := "push", desc := "(I)V" } : Jvm.MethodName) ({ cls := "TamedClassSet$Frame", name := "push", desc := "(I)V" } : Jvm.MethodName) ∈ tx_ws := List.mem_filter.mpr ⟨List.mem_append_right _ (List.mem_append_right _ (List.mem_append_right _ (List.mem_append_left _ (List.mem_of_getElem? (i := 54) rfl)))), rfl⟩
theorem tw_3_55 : Jvm.Cond.code ({ cls := "TamedClassSet$Frame", name := "push", desc := "(I)V" } : Jvm.MethodName) prog_3_method_3_code (2 : Nat) (Option.none : Option Jvm.ClassFile.FieldType) ∈ tx_ws := List.mem_filter.mpr ⟨List.mem_append_right _ (List.mem_append_right _ (List.mem_append_right _ (List.mem_append_left _ (List.mem_of_getElem? (i := 55) rfl)))), rfl⟩
theorem tw_3_56 : Jvm.Cond.methodLink "TamedClassSet$Machine" (82 : Nat) ({ cls := "TamedClassSet$Frame", name := "pop", desc := "()I" } : Jvm.MethodName) ∈ tx_ws := List.mem_filter.mpr ⟨List.mem_append_right _ (List.mem_append_right _ (List.mem_append_right _ (List.mem_append_left _ (List.mem_of_getElem? (i := 56) rfl)))), rfl⟩
theorem tw_3_57 : Jvm.Cond.instanceMethod ({ cls := "TamedClassSet$Frame", name := "pop", desc := "()I" } : Jvm.MethodName) ∈ tx_ws := List.mem_filter.mpr ⟨List.mem_append_right _ (List.mem_append_right _ (List.mem_append_right _ (List.mem_append_left _ (List.mem_of_getElem? (i := 57) rfl)))), rfl⟩
theorem tw_3_58 : Jvm.Cond.selects "TamedClassSet$Frame" ({ cls := "TamedClassSet$Frame", name := "pop", desc := "()I" } : Jvm.MethodName) ({ cls := "TamedClassSet$Frame", name := "pop", desc := "()I" } : Jvm.MethodName) ∈ tx_ws := List.mem_filter.mpr ⟨List.mem_append_right _ (List.mem_append_right _ (List.mem_append_right _ (List.mem_append_left _ (List.mem_of_getElem? (i := 58) rfl)))), rfl⟩
theorem tw_3_59 : Jvm.Cond.code ({ cls := "TamedClassSet$Frame", name := "pop", desc := "()I" } : Jvm.MethodName) prog_3_method_4_code (1 : Nat) (Option.some Jvm.ClassFile.FieldType.int) ∈ tx_ws := List.mem_filter.mpr ⟨List.mem_append_right _ (List.mem_append_right _ (List.mem_append_right _ (List.mem_append_left _ (List.mem_of_getElem? (i := 59) rfl)))), rfl⟩
theorem tw_3_60 : Jvm.Cond.methodLink "TamedClassSet$Machine" (86 : Nat) ({ cls := "TamedClassSet$Machine", name := "combine", desc := "(LTamedClassSet$Frame;I)I" } : Jvm.MethodName) ∈ tx_ws := List.mem_filter.mpr ⟨List.mem_append_right _ (List.mem_append_right _ (List.mem_append_right _ (List.mem_append_left _ (List.mem_of_getElem? (i := 60) rfl)))), rfl⟩
theorem tw_3_62 : Jvm.Cond.instanceMethod ({ cls := "TamedClassSet$Machine", name := "combine", desc := "(LTamedClassSet$Frame;I)I" } : Jvm.MethodName) ∈ tx_ws := List.mem_filter.mpr ⟨List.mem_append_right _ (List.mem_append_right _ (List.mem_append_right _ (List.mem_append_left _ (List.mem_of_getElem? (i := 62) rfl)))), rfl⟩
theorem tw_3_63 : Jvm.Cond.code ({ cls := "TamedClassSet$Machine", name := "combine", desc := "(LTamedClassSet$Frame;I)I" } : Jvm.MethodName) prog_5_method_5_code (5 : Nat) (Option.some Jvm.ClassFile.FieldType.int) ∈ tx_ws := List.mem_filter.mpr ⟨List.mem_append_right _ (List.mem_append_right _ (List.mem_append_right _ (List.mem_append_left _ (List.mem_of_getElem? (i := 63) rfl)))), rfl⟩
theorem tw_3_64 : Jvm.Cond.methodLink "TamedClassSet$Machine" (90 : Nat) ({ cls := "TamedClassSet$Machine", name := "make", desc := "(LTamedClassSet$Frame;I)I" } : Jvm.MethodName) ∈ tx_ws := List.mem_filter.mpr ⟨List.mem_append_right _ (List.mem_append_right _ (List.mem_append_right _ (List.mem_append_left _ (List.mem_of_getElem? (i := 64) rfl)))), rfl⟩
theorem tw_3_66 : Jvm.Cond.instanceMethod ({ cls := "TamedClassSet$Machine", name := "make", desc := "(LTamedClassSet$Frame;I)I" } : Jvm.MethodName) ∈ tx_ws := List.mem_filter.mpr ⟨List.mem_append_right _ (List.mem_append_right _ (List.mem_append_right _ (List.mem_append_left _ (List.mem_of_getElem? (i := 66) rfl)))), rfl⟩
theorem tw_3_67 : Jvm.Cond.code ({ cls := "TamedClassSet$Machine", name := "make", desc := "(LTamedClassSet$Frame;I)I" } : Jvm.MethodName) prog_5_method_6_code (6 : Nat) (Option.some Jvm.ClassFile.FieldType.int) ∈ tx_ws := List.mem_filter.mpr ⟨List.mem_append_right _ (List.mem_append_right _ (List.mem_append_right _ (List.mem_append_left _ (List.mem_of_getElem? (i := 67) rfl)))), rfl⟩
theorem tw_3_68 : Jvm.Cond.methodLink "TamedClassSet$Machine" (112 : Nat) ({ cls := "TamedClassSet$Heap", name := "newThing", desc := "(I)I" } : Jvm.MethodName) ∈ tx_ws := List.mem_filter.mpr ⟨List.mem_append_right _ (List.mem_append_right _ (List.mem_append_right _ (List.mem_append_left _ (List.mem_of_getElem? (i := 68) rfl)))), rfl⟩
theorem tw_3_69 : Jvm.Cond.instanceMethod ({ cls := "TamedClassSet$Heap", name := "newThing", desc := "(I)I" } : Jvm.MethodName) ∈ tx_ws := List.mem_filter.mpr ⟨List.mem_append_right _ (List.mem_append_right _ (List.mem_append_right _ (List.mem_append_left _ (List.mem_of_getElem? (i := 69) rfl)))), rfl⟩
theorem tw_3_70 : Jvm.Cond.selects "TamedClassSet$Heap" ({ cls := "TamedClassSet$Heap", name := "newThing", desc := "(I)I" } : Jvm.MethodName) ({ cls := "TamedClassSet$Heap", name := "newThing", desc := "(I)I" } : Jvm.MethodName) ∈ tx_ws := List.mem_filter.mpr ⟨List.mem_append_right _ (List.mem_append_right _ (List.mem_append_right _ (List.mem_append_left _ (List.mem_of_getElem? (i := 70) rfl)))), rfl⟩
theorem tw_3_71 : Jvm.Cond.code ({ cls := "TamedClassSet$Heap", name := "newThing", desc := "(I)I" } : Jvm.MethodName) prog_4_method_3_code (2 : Nat) (Option.some Jvm.ClassFile.FieldType.int) ∈ tx_ws := List.mem_filter.mpr ⟨List.mem_append_right _ (List.mem_append_right _ (List.mem_append_right _ (List.mem_append_left _ (List.mem_of_getElem? (i := 71) rfl)))), rfl⟩
theorem tw_3_72 : Jvm.Cond.methodLink "TamedClassSet$Machine" (119 : Nat) ({ cls := "TamedClassSet$Plan", name := "slotOf", desc := "(II)I" } : Jvm.MethodName) ∈ tx_ws := List.mem_filter.mpr ⟨List.mem_append_right _ (List.mem_append_right _ (List.mem_append_right _ (List.mem_append_left _ (List.mem_of_getElem? (i := 72) rfl)))), rfl⟩
theorem tw_3_73 : Jvm.Cond.instanceMethod ({ cls := "TamedClassSet$Plan", name := "slotOf", desc := "(II)I" } : Jvm.MethodName) ∈ tx_ws := List.mem_filter.mpr ⟨List.mem_append_right _ (List.mem_append_right _ (List.mem_append_right _ (List.mem_append_left _ (List.mem_of_getElem? (i := 73) rfl)))), rfl⟩
theorem tw_3_74 : Jvm.Cond.selects "TamedClassSet$Plan" ({ cls := "TamedClassSet$Plan", name := "slotOf", desc := "(II)I" } : Jvm.MethodName) ({ cls := "TamedClassSet$Plan", name := "slotOf", desc := "(II)I" } : Jvm.MethodName) ∈ tx_ws := List.mem_filter.mpr ⟨List.mem_append_right _ (List.mem_append_right _ (List.mem_append_right _ (List.mem_append_left _ (List.mem_of_getElem? (i := 74) rfl)))), rfl⟩
theorem tw_3_75 : Jvm.Cond.code ({ cls := "TamedClassSet$Plan", name := "slotOf", desc := "(II)I" } : Jvm.MethodName) prog_6_method_20_code (5 : Nat) (Option.some Jvm.ClassFile.FieldType.int) ∈ tx_ws := List.mem_filter.mpr ⟨List.mem_append_right _ (List.mem_append_right _ (List.mem_append_right _ (List.mem_append_left _ (List.mem_of_getElem? (i := 75) rfl)))), rfl⟩
theorem tw_3_76 : Jvm.Cond.methodLink "TamedClassSet$Plan" (69 : Nat) ({ cls := "TamedClassSet$Plan", name := "owns", desc := "(II)Z" } : Jvm.MethodName) ∈ tx_ws := List.mem_filter.mpr ⟨List.mem_append_right _ (List.mem_append_right _ (List.mem_append_right _ (List.mem_append_left _ (List.mem_of_getElem? (i := 76) rfl)))), rfl⟩
theorem tw_3_77 : Jvm.Cond.methodLink "TamedClassSet$Machine" (122 : Nat) ({ cls := "TamedClassSet$Heap", name := "setSlot", desc := "(III)V" } : Jvm.MethodName) ∈ tx_ws := List.mem_filter.mpr ⟨List.mem_append_right _ (List.mem_append_right _ (List.mem_append_right _ (List.mem_append_left _ (List.mem_of_getElem? (i := 77) rfl)))), rfl⟩
theorem tw_3_78 : Jvm.Cond.instanceMethod ({ cls := "TamedClassSet$Heap", name := "setSlot", desc := "(III)V" } : Jvm.MethodName) ∈ tx_ws := List.mem_filter.mpr ⟨List.mem_append_right _ (List.mem_append_right _ (List.mem_append_right _ (List.mem_append_left _ (List.mem_of_getElem? (i := 78) rfl)))), rfl⟩
theorem tw_3_79 : Jvm.Cond.selects "TamedClassSet$Heap" ({ cls := "TamedClassSet$Heap", name := "setSlot", desc := "(III)V" } : Jvm.MethodName) ({ cls := "TamedClassSet$Heap", name := "setSlot", desc := "(III)V" } : Jvm.MethodName) ∈ tx_ws := List.mem_filter.mpr ⟨List.mem_append_right _ (List.mem_append_right _ (List.mem_append_right _ (List.mem_append_left _ (List.mem_of_getElem? (i := 79) rfl)))), rfl⟩
theorem tw_3_80 : Jvm.Cond.code ({ cls := "TamedClassSet$Heap", name := "setSlot", desc := "(III)V" } : Jvm.MethodName) prog_4_method_5_code (4 : Nat) (Option.none : Option Jvm.ClassFile.FieldType) ∈ tx_ws := List.mem_filter.mpr ⟨List.mem_append_right _ (List.mem_append_right _ (List.mem_append_right _ (List.mem_append_left _ (List.mem_of_getElem? (i := 80) rfl)))), rfl⟩
theorem tw_3_81 : Jvm.Cond.methodLink "TamedClassSet$Machine" (93 : Nat) ({ cls := "TamedClassSet$Machine", name := "useField", desc := "(LTamedClassSet$Frame;II)I" } : Jvm.MethodName) ∈ tx_ws := List.mem_filter.mpr ⟨List.mem_append_right _ (List.mem_append_right _ (List.mem_append_right _ (List.mem_append_left _ (List.mem_of_getElem? (i := 81) rfl)))), rfl⟩
theorem tw_3_83 : Jvm.Cond.instanceMethod ({ cls := "TamedClassSet$Machine", name := "useField", desc := "(LTamedClassSet$Frame;II)I" } : Jvm.MethodName) ∈ tx_ws := List.mem_filter.mpr ⟨List.mem_append_right _ (List.mem_append_right _ (List.mem_append_right _ (List.mem_append_left _ (List.mem_of_getElem? (i := 83) rfl)))), rfl⟩
theorem tw_3_84 : Jvm.Cond.code ({ cls := "TamedClassSet$Machine", name := "useField", desc := "(LTamedClassSet$Frame;II)I" } : Jvm.MethodName) prog_5_method_8_code (7 : Nat) (Option.some Jvm.ClassFile.FieldType.int) ∈ tx_ws := List.mem_filter.mpr ⟨List.mem_append_right _ (List.mem_append_right _ (List.mem_append_right _ (List.mem_append_left _ (List.mem_of_getElem? (i := 84) rfl)))), rfl⟩
theorem tw_3_85 : Jvm.Cond.methodLink "TamedClassSet$Machine" (125 : Nat) ({ cls := "TamedClassSet$Heap", name := "slotValue", desc := "(II)I" } : Jvm.MethodName) ∈ tx_ws := List.mem_filter.mpr ⟨List.mem_append_right _ (List.mem_append_right _ (List.mem_append_right _ (List.mem_append_left _ (List.mem_of_getElem? (i := 85) rfl)))), rfl⟩
theorem tw_3_86 : Jvm.Cond.instanceMethod ({ cls := "TamedClassSet$Heap", name := "slotValue", desc := "(II)I" } : Jvm.MethodName) ∈ tx_ws := List.mem_filter.mpr ⟨List.mem_append_right _ (List.mem_append_right _ (List.mem_append_right _ (List.mem_append_left _ (List.mem_of_getElem? (i := 86) rfl)))), rfl⟩
theorem tw_3_87 : Jvm.Cond.selects "TamedClassSet$Heap" ({ cls := "TamedClassSet$Heap", name := "slotValue", desc := "(II)I" } : Jvm.MethodName) ({ cls := "TamedClassSet$Heap", name := "slotValue", desc := "(II)I" } : Jvm.MethodName) ∈ tx_ws := List.mem_filter.mpr ⟨List.mem_append_right _ (List.mem_append_right _ (List.mem_append_right _ (List.mem_append_left _ (List.mem_of_getElem? (i := 87) rfl)))), rfl⟩
theorem tw_3_88 : Jvm.Cond.code ({ cls := "TamedClassSet$Heap", name := "slotValue", desc := "(II)I" } : Jvm.MethodName) prog_4_method_4_code (3 : Nat) (Option.some Jvm.ClassFile.FieldType.int) ∈ tx_ws := List.mem_filter.mpr ⟨List.mem_append_right _ (List.mem_append_right _ (List.mem_append_right _ (List.mem_append_left _ (List.mem_of_getElem? (i := 88) rfl)))), rfl⟩
theorem tw_3_89 : Jvm.Cond.methodLink "TamedClassSet$Machine" (97 : Nat) ({ cls := "TamedClassSet$Machine", name := "callMethod", desc := "(LTamedClassSet$Frame;I)I" } : Jvm.MethodName) ∈ tx_ws := List.mem_filter.mpr ⟨List.mem_append_right _ (List.mem_append_right _ (List.mem_append_right _ (List.mem_append_left _ (List.mem_of_getElem? (i := 89) rfl)))), rfl⟩
theorem tw_3_91 : Jvm.Cond.instanceMethod ({ cls := "TamedClassSet$Machine", name := "callMethod", desc := "(LTamedClassSet$Frame;I)I" } : Jvm.MethodName) ∈ tx_ws := List.mem_filter.mpr ⟨List.mem_append_right _ (List.mem_append_right _ (List.mem_append_right _ (List.mem_append_left _ (List.mem_of_getElem? (i := 91) rfl)))), rfl⟩
theorem tw_3_92 : Jvm.Cond.code ({ cls := "TamedClassSet$Machine", name := "callMethod", desc := "(LTamedClassSet$Frame;I)I" } : Jvm.MethodName) prog_5_method_10_code (6 : Nat) (Option.some Jvm.ClassFile.FieldType.int) ∈ tx_ws := List.mem_filter.mpr ⟨List.mem_append_right _ (List.mem_append_right _ (List.mem_append_right _ (List.mem_append_left _ (List.mem_of_getElem? (i := 92) rfl)))), rfl⟩
theorem tw_3_93 : Jvm.Cond.methodLink "TamedClassSet$Machine" (100 : Nat) ({ cls := "TamedClassSet$Machine", name := "makeCell", desc := "(LTamedClassSet$Frame;)I" } : Jvm.MethodName) ∈ tx_ws := List.mem_filter.mpr ⟨List.mem_append_right _ (List.mem_append_right _ (List.mem_append_right _ (List.mem_append_left _ (List.mem_of_getElem? (i := 93) rfl)))), rfl⟩
theorem tw_3_95 : Jvm.Cond.instanceMethod ({ cls := "TamedClassSet$Machine", name := "makeCell", desc := "(LTamedClassSet$Frame;)I" } : Jvm.MethodName) ∈ tx_ws := List.mem_filter.mpr ⟨List.mem_append_right _ (List.mem_append_right _ (List.mem_append_right _ (List.mem_append_left _ (List.mem_of_getElem? (i := 95) rfl)))), rfl⟩
theorem tw_3_96 : Jvm.Cond.code ({ cls := "TamedClassSet$Machine", name := "makeCell", desc := "(LTamedClassSet$Frame;)I" } : Jvm.MethodName) prog_5_method_7_code (3 : Nat) (Option.some Jvm.ClassFile.FieldType.int) ∈ tx_ws := List.mem_filter.mpr ⟨List.mem_append_right _ (List.mem_append_right _ (List.mem_append_right _ (List.mem_append_left _ (List.mem_of_getElem? (i := 96) rfl)))), rfl⟩
theorem tw_3_97 : Jvm.Cond.methodLink "TamedClassSet$Machine" (103 : Nat) ({ cls := "TamedClassSet$Machine", name := "useCell", desc := "(LTamedClassSet$Frame;I)I" } : Jvm.MethodName) ∈ tx_ws := List.mem_filter.mpr ⟨List.mem_append_right _ (List.mem_append_right _ (List.mem_append_right _ (List.mem_append_left _ (List.mem_of_getElem? (i := 97) rfl)))), rfl⟩
theorem tw_3_99 : Jvm.Cond.instanceMethod ({ cls := "TamedClassSet$Machine", name := "useCell", desc := "(LTamedClassSet$Frame;I)I" } : Jvm.MethodName) ∈ tx_ws := List.mem_filter.mpr ⟨List.mem_append_right _ (List.mem_append_right _ (List.mem_append_right _ (List.mem_append_left _ (List.mem_of_getElem? (i := 99) rfl)))), rfl⟩
theorem tw_3_100 : Jvm.Cond.code ({ cls := "TamedClassSet$Machine", name := "useCell", desc := "(LTamedClassSet$Frame;I)I" } : Jvm.MethodName) prog_5_method_9_code (5 : Nat) (Option.some Jvm.ClassFile.FieldType.int) ∈ tx_ws := List.mem_filter.mpr ⟨List.mem_append_right _ (List.mem_append_right _ (List.mem_append_right _ (List.mem_append_left _ (List.mem_of_getElem? (i := 100) rfl)))), rfl⟩
theorem tw_3_101 : Jvm.Cond.methodLink "TamedClassSet$Machine" (106 : Nat) ({ cls := "TamedClassSet$Machine", name := "library", desc := "(LTamedClassSet$Frame;I)I" } : Jvm.MethodName) ∈ tx_ws := List.mem_filter.mpr ⟨List.mem_append_right _ (List.mem_append_right _ (List.mem_append_right _ (List.mem_append_left _ (List.mem_of_getElem? (i := 101) rfl)))), rfl⟩
theorem tw_3_103 : Jvm.Cond.instanceMethod ({ cls := "TamedClassSet$Machine", name := "library", desc := "(LTamedClassSet$Frame;I)I" } : Jvm.MethodName) ∈ tx_ws := List.mem_filter.mpr ⟨List.mem_append_right _ (List.mem_append_right _ (List.mem_append_right _ (List.mem_append_left _ (List.mem_of_getElem? (i := 103) rfl)))), rfl⟩
theorem tw_3_104 : Jvm.Cond.code ({ cls := "TamedClassSet$Machine", name := "library", desc := "(LTamedClassSet$Frame;I)I" } : Jvm.MethodName) prog_5_method_11_code (4 : Nat) (Option.some Jvm.ClassFile.FieldType.int) ∈ tx_ws := List.mem_filter.mpr ⟨List.mem_append_right _ (List.mem_append_right _ (List.mem_append_right _ (List.mem_append_left _ (List.mem_of_getElem? (i := 104) rfl)))), rfl⟩
theorem tw_3_105 : Jvm.Cond.methodLink "TamedClassSet$Machine" (131 : Nat) ({ cls := "java/lang/Math", name := "abs", desc := "(I)I" } : Jvm.MethodName) ∈ tx_ws := List.mem_filter.mpr ⟨List.mem_append_right _ (List.mem_append_right _ (List.mem_append_right _ (List.mem_append_left _ (List.mem_of_getElem? (i := 105) rfl)))), rfl⟩
theorem tw_3_106 : Jvm.Cond.static ({ cls := "java/lang/Math", name := "abs", desc := "(I)I" } : Jvm.MethodName) ∈ tx_ws := List.mem_filter.mpr ⟨List.mem_append_right _ (List.mem_append_right _ (List.mem_append_right _ (List.mem_append_left _ (List.mem_of_getElem? (i := 106) rfl)))), rfl⟩
theorem tw_3_107 : Jvm.Cond.code ({ cls := "java/lang/Math", name := "abs", desc := "(I)I" } : Jvm.MethodName) prog_11_method_59_code (1 : Nat) (Option.some Jvm.ClassFile.FieldType.int) ∈ tx_ws := List.mem_filter.mpr ⟨List.mem_append_right _ (List.mem_append_right _ (List.mem_append_right _ (List.mem_append_left _ (List.mem_of_getElem? (i := 107) rfl)))), rfl⟩
theorem tw_3_108 : Jvm.Cond.methodLink "TamedClassSet$Machine" (136 : Nat) ({ cls := "java/lang/Integer", name := "bitCount", desc := "(I)I" } : Jvm.MethodName) ∈ tx_ws := List.mem_filter.mpr ⟨List.mem_append_right _ (List.mem_append_right _ (List.mem_append_right _ (List.mem_append_left _ (List.mem_of_getElem? (i := 108) rfl)))), rfl⟩
theorem tw_3_109 : Jvm.Cond.static ({ cls := "java/lang/Integer", name := "bitCount", desc := "(I)I" } : Jvm.MethodName) ∈ tx_ws := List.mem_filter.mpr ⟨List.mem_append_right _ (List.mem_append_right _ (List.mem_append_right _ (List.mem_append_left _ (List.mem_of_getElem? (i := 109) rfl)))), rfl⟩
theorem tw_3_110 : Jvm.Cond.code ({ cls := "java/lang/Integer", name := "bitCount", desc := "(I)I" } : Jvm.MethodName) prog_10_method_49_code (1 : Nat) (Option.some Jvm.ClassFile.FieldType.int) ∈ tx_ws := List.mem_filter.mpr ⟨List.mem_append_right _ (List.mem_append_right _ (List.mem_append_right _ (List.mem_append_left _ (List.mem_of_getElem? (i := 110) rfl)))), rfl⟩
theorem tw_3_113 : Jvm.Cond.constant "java/lang/Integer" (267 : Nat) (252645135 : Int32) ∈ tx_ws := List.mem_filter.mpr ⟨List.mem_append_right _ (List.mem_append_right _ (List.mem_append_right _ (List.mem_append_left _ (List.mem_of_getElem? (i := 113) rfl)))), rfl⟩
theorem tw_3_114 : Jvm.Cond.methodLink "TamedClassSet$Machine" (109 : Nat) ({ cls := "TamedClassSet$Machine", name := "leave", desc := "(LTamedClassSet$Frame;)I" } : Jvm.MethodName) ∈ tx_ws := List.mem_filter.mpr ⟨List.mem_append_right _ (List.mem_append_right _ (List.mem_append_right _ (List.mem_append_left _ (List.mem_of_getElem? (i := 114) rfl)))), rfl⟩
theorem tw_3_116 : Jvm.Cond.instanceMethod ({ cls := "TamedClassSet$Machine", name := "leave", desc := "(LTamedClassSet$Frame;)I" } : Jvm.MethodName) ∈ tx_ws := List.mem_filter.mpr ⟨List.mem_append_right _ (List.mem_append_right _ (List.mem_append_right _ (List.mem_append_left _ (List.mem_of_getElem? (i := 116) rfl)))), rfl⟩
theorem tw_3_117 : Jvm.Cond.code ({ cls := "TamedClassSet$Machine", name := "leave", desc := "(LTamedClassSet$Frame;)I" } : Jvm.MethodName) prog_5_method_12_code (2 : Nat) (Option.some Jvm.ClassFile.FieldType.int) ∈ tx_ws := List.mem_filter.mpr ⟨List.mem_append_right _ (List.mem_append_right _ (List.mem_append_right _ (List.mem_append_left _ (List.mem_of_getElem? (i := 117) rfl)))), rfl⟩
theorem tw_3_118 : Jvm.Cond.constantLong "TamedClassSet" (137 : Nat) (17179869184 : Int64) ∈ tx_ws := List.mem_filter.mpr ⟨List.mem_append_right _ (List.mem_append_right _ (List.mem_append_right _ (List.mem_append_left _ (List.mem_of_getElem? (i := 118) rfl)))), rfl⟩
theorem tw_3_119 : Jvm.Cond.methodLink "TamedClassSet" (145 : Nat) ({ cls := "TamedClassSet$Heap", name := "hold", desc := "(I)V" } : Jvm.MethodName) ∈ tx_ws := List.mem_filter.mpr ⟨List.mem_append_right _ (List.mem_append_right _ (List.mem_append_right _ (List.mem_append_left _ (List.mem_of_getElem? (i := 119) rfl)))), rfl⟩
theorem tw_3_120 : Jvm.Cond.instanceMethod ({ cls := "TamedClassSet$Heap", name := "hold", desc := "(I)V" } : Jvm.MethodName) ∈ tx_ws := List.mem_filter.mpr ⟨List.mem_append_right _ (List.mem_append_right _ (List.mem_append_right _ (List.mem_append_left _ (List.mem_of_getElem? (i := 120) rfl)))), rfl⟩
theorem tw_3_121 : Jvm.Cond.selects "TamedClassSet$Heap" ({ cls := "TamedClassSet$Heap", name := "hold", desc := "(I)V" } : Jvm.MethodName) ({ cls := "TamedClassSet$Heap", name := "hold", desc := "(I)V" } : Jvm.MethodName) ∈ tx_ws := List.mem_filter.mpr ⟨List.mem_append_right _ (List.mem_append_right _ (List.mem_append_right _ (List.mem_append_left _ (List.mem_of_getElem? (i := 121) rfl)))), rfl⟩
theorem tw_3_122 : Jvm.Cond.code ({ cls := "TamedClassSet$Heap", name := "hold", desc := "(I)V" } : Jvm.MethodName) prog_4_method_8_code (3 : Nat) (Option.none : Option Jvm.ClassFile.FieldType) ∈ tx_ws := List.mem_filter.mpr ⟨List.mem_append_right _ (List.mem_append_right _ (List.mem_append_right _ (List.mem_append_left _ (List.mem_of_getElem? (i := 122) rfl)))), rfl⟩
theorem tw_3_123 : Jvm.Cond.methodLink "TamedClassSet$Heap" (28 : Nat) ({ cls := "TamedClassSet$Heap", name := "handleOf", desc := "(I)I" } : Jvm.MethodName) ∈ tx_ws := List.mem_filter.mpr ⟨List.mem_append_right _ (List.mem_append_right _ (List.mem_append_right _ (List.mem_append_left _ (List.mem_of_getElem? (i := 123) rfl)))), rfl⟩
theorem tw_3_124 : Jvm.Cond.instanceMethod ({ cls := "TamedClassSet$Heap", name := "handleOf", desc := "(I)I" } : Jvm.MethodName) ∈ tx_ws := List.mem_filter.mpr ⟨List.mem_append_right _ (List.mem_append_right _ (List.mem_append_right _ (List.mem_append_left _ (List.mem_of_getElem? (i := 124) rfl)))), rfl⟩
theorem tw_3_125 : Jvm.Cond.selects "TamedClassSet$Heap" ({ cls := "TamedClassSet$Heap", name := "handleOf", desc := "(I)I" } : Jvm.MethodName) ({ cls := "TamedClassSet$Heap", name := "handleOf", desc := "(I)I" } : Jvm.MethodName) ∈ tx_ws := List.mem_filter.mpr ⟨List.mem_append_right _ (List.mem_append_right _ (List.mem_append_right _ (List.mem_append_left _ (List.mem_of_getElem? (i := 125) rfl)))), rfl⟩
theorem tw_3_126 : Jvm.Cond.code ({ cls := "TamedClassSet$Heap", name := "handleOf", desc := "(I)I" } : Jvm.MethodName) prog_4_method_7_code (3 : Nat) (Option.some Jvm.ClassFile.FieldType.int) ∈ tx_ws := List.mem_filter.mpr ⟨List.mem_append_right _ (List.mem_append_right _ (List.mem_append_right _ (List.mem_append_left _ (List.mem_of_getElem? (i := 126) rfl)))), rfl⟩
theorem tw_3_127 : Jvm.Cond.methodLink "TamedClassSet" (149 : Nat) ({ cls := "TamedClassSet", name := "answerOf", desc := "(II)J" } : Jvm.MethodName) ∈ tx_ws := List.mem_filter.mpr ⟨List.mem_append_right _ (List.mem_append_right _ (List.mem_append_right _ (List.mem_append_left _ (List.mem_of_getElem? (i := 127) rfl)))), rfl⟩
theorem tw_3_129 : Jvm.Cond.instanceMethod ({ cls := "TamedClassSet", name := "answerOf", desc := "(II)J" } : Jvm.MethodName) ∈ tx_ws := List.mem_filter.mpr ⟨List.mem_append_right _ (List.mem_append_right _ (List.mem_append_right _ (List.mem_append_left _ (List.mem_of_getElem? (i := 129) rfl)))), rfl⟩
theorem tw_3_130 : Jvm.Cond.code ({ cls := "TamedClassSet", name := "answerOf", desc := "(II)J" } : Jvm.MethodName) prog_1_method_16_code (4 : Nat) (Option.some Jvm.ClassFile.FieldType.long) ∈ tx_ws := List.mem_filter.mpr ⟨List.mem_append_right _ (List.mem_append_right _ (List.mem_append_right _ (List.mem_append_left _ (List.mem_of_getElem? (i := 130) rfl)))), rfl⟩
theorem tw_3_131 : Jvm.Cond.constantLong "TamedClassSet" (180 : Nat) (4294967296 : Int64) ∈ tx_ws := List.mem_filter.mpr ⟨List.mem_append_right _ (List.mem_append_right _ (List.mem_append_right _ (List.mem_append_left _ (List.mem_of_getElem? (i := 131) rfl)))), rfl⟩
theorem tw_3_132 : Jvm.Cond.methodLink "TamedClassSet" (182 : Nat) ({ cls := "TamedClassSet$Heap", name := "handleOf", desc := "(I)I" } : Jvm.MethodName) ∈ tx_ws := List.mem_filter.mpr ⟨List.mem_append_right _ (List.mem_append_right _ (List.mem_append_right _ (List.mem_append_left _ (List.mem_of_getElem? (i := 132) rfl)))), rfl⟩
theorem tw_3_133 : Jvm.Cond.constantLong "TamedClassSet" (185 : Nat) (34359738368 : Int64) ∈ tx_ws := List.mem_filter.mpr ⟨List.mem_append_right _ (List.mem_append_right _ (List.mem_append_right _ (List.mem_append_left _ (List.mem_of_getElem? (i := 133) rfl)))), rfl⟩
theorem tw_3_134 : Jvm.Cond.constantLong "TamedClassSet" (187 : Nat) (8589934592 : Int64) ∈ tx_ws := List.mem_filter.mpr ⟨List.mem_append_right _ (List.mem_append_right _ (List.mem_append_right _ (List.mem_append_left _ (List.mem_of_getElem? (i := 134) rfl)))), rfl⟩
theorem tw_3_136 : Jvm.Cond.instanceMethod ({ cls := "TamedClassSet", name := "look", desc := "(II)J" } : Jvm.MethodName) ∈ tx_ws := List.mem_filter.mpr ⟨List.mem_append_right _ (List.mem_append_right _ (List.mem_append_right _ (List.mem_append_left _ (List.mem_of_getElem? (i := 136) rfl)))), rfl⟩
theorem tw_3_137 : Jvm.Cond.selects "TamedClassSet" ({ cls := "TamedClassSet", name := "look", desc := "(II)J" } : Jvm.MethodName) ({ cls := "TamedClassSet", name := "look", desc := "(II)J" } : Jvm.MethodName) ∈ tx_ws := List.mem_filter.mpr ⟨List.mem_append_right _ (List.mem_append_right _ (List.mem_append_right _ (List.mem_append_left _ (List.mem_of_getElem? (i := 137) rfl)))), rfl⟩
theorem tw_3_138 : Jvm.Cond.code ({ cls := "TamedClassSet", name := "look", desc := "(II)J" } : Jvm.MethodName) prog_1_method_10_code (6 : Nat) (Option.some Jvm.ClassFile.FieldType.long) ∈ tx_ws := List.mem_filter.mpr ⟨List.mem_append_right _ (List.mem_append_right _ (List.mem_append_right _ (List.mem_append_left _ (List.mem_of_getElem? (i := 138) rfl)))), rfl⟩
theorem tw_3_139 : Jvm.Cond.methodLink "TamedClassSet" (156 : Nat) ({ cls := "TamedClassSet$Heap", name := "slotValue", desc := "(II)I" } : Jvm.MethodName) ∈ tx_ws := List.mem_filter.mpr ⟨List.mem_append_right _ (List.mem_append_right _ (List.mem_append_right _ (List.mem_append_left _ (List.mem_of_getElem? (i := 139) rfl)))), rfl⟩
theorem tw_3_140 : Jvm.Cond.methodLink "TamedClassSet" (159 : Nat) ({ cls := "TamedClassSet$Plan", name := "isField", desc := "(I)Z" } : Jvm.MethodName) ∈ tx_ws := List.mem_filter.mpr ⟨List.mem_append_right _ (List.mem_append_right _ (List.mem_append_right _ (List.mem_append_left _ (List.mem_of_getElem? (i := 140) rfl)))), rfl⟩
theorem tw_3_141 : Jvm.Cond.methodLink "TamedClassSet" (162 : Nat) ({ cls := "TamedClassSet$Plan", name := "owns", desc := "(II)Z" } : Jvm.MethodName) ∈ tx_ws := List.mem_filter.mpr ⟨List.mem_append_right _ (List.mem_append_right _ (List.mem_append_right _ (List.mem_append_left _ (List.mem_of_getElem? (i := 141) rfl)))), rfl⟩
theorem tw_3_142 : Jvm.Cond.methodLink "TamedClassSet" (168 : Nat) ({ cls := "TamedClassSet$Plan", name := "slotOf", desc := "(II)I" } : Jvm.MethodName) ∈ tx_ws := List.mem_filter.mpr ⟨List.mem_append_right _ (List.mem_append_right _ (List.mem_append_right _ (List.mem_append_left _ (List.mem_of_getElem? (i := 142) rfl)))), rfl⟩
theorem tw_3_144 : Jvm.Cond.instanceMethod ({ cls := "TamedClassSet", name := "held", desc := "(I)I" } : Jvm.MethodName) ∈ tx_ws := List.mem_filter.mpr ⟨List.mem_append_right _ (List.mem_append_right _ (List.mem_append_right _ (List.mem_append_left _ (List.mem_of_getElem? (i := 144) rfl)))), rfl⟩
theorem tw_3_145 : Jvm.Cond.selects "TamedClassSet" ({ cls := "TamedClassSet", name := "held", desc := "(I)I" } : Jvm.MethodName) ({ cls := "TamedClassSet", name := "held", desc := "(I)I" } : Jvm.MethodName) ∈ tx_ws := List.mem_filter.mpr ⟨List.mem_append_right _ (List.mem_append_right _ (List.mem_append_right _ (List.mem_append_left _ (List.mem_of_getElem? (i := 145) rfl)))), rfl⟩
theorem tw_3_146 : Jvm.Cond.code ({ cls := "TamedClassSet", name := "held", desc := "(I)I" } : Jvm.MethodName) prog_1_method_11_code (3 : Nat) (Option.some Jvm.ClassFile.FieldType.int) ∈ tx_ws := List.mem_filter.mpr ⟨List.mem_append_right _ (List.mem_append_right _ (List.mem_append_right _ (List.mem_append_left _ (List.mem_of_getElem? (i := 146) rfl)))), rfl⟩
theorem tw_3_148 : Jvm.Cond.instanceMethod ({ cls := "TamedClassSet", name := "runs", desc := "()I" } : Jvm.MethodName) ∈ tx_ws := List.mem_filter.mpr ⟨List.mem_append_right _ (List.mem_append_right _ (List.mem_append_right _ (List.mem_append_left _ (List.mem_of_getElem? (i := 148) rfl)))), rfl⟩
theorem tw_3_149 : Jvm.Cond.selects "TamedClassSet" ({ cls := "TamedClassSet", name := "runs", desc := "()I" } : Jvm.MethodName) ({ cls := "TamedClassSet", name := "runs", desc := "()I" } : Jvm.MethodName) ∈ tx_ws := List.mem_filter.mpr ⟨List.mem_append_right _ (List.mem_append_right _ (List.mem_append_right _ (List.mem_append_left _ (List.mem_of_getElem? (i := 149) rfl)))), rfl⟩
theorem tw_3_150 : Jvm.Cond.code ({ cls := "TamedClassSet", name := "runs", desc := "()I" } : Jvm.MethodName) prog_1_method_12_code (1 : Nat) (Option.some Jvm.ClassFile.FieldType.int) ∈ tx_ws := List.mem_filter.mpr ⟨List.mem_append_right _ (List.mem_append_right _ (List.mem_append_right _ (List.mem_append_left _ (List.mem_of_getElem? (i := 150) rfl)))), rfl⟩
theorem tw_3_152 : Jvm.Cond.instanceMethod ({ cls := "TamedClassSet", name := "steps", desc := "()I" } : Jvm.MethodName) ∈ tx_ws := List.mem_filter.mpr ⟨List.mem_append_right _ (List.mem_append_right _ (List.mem_append_right _ (List.mem_append_left _ (List.mem_of_getElem? (i := 152) rfl)))), rfl⟩
theorem tw_3_153 : Jvm.Cond.selects "TamedClassSet" ({ cls := "TamedClassSet", name := "steps", desc := "()I" } : Jvm.MethodName) ({ cls := "TamedClassSet", name := "steps", desc := "()I" } : Jvm.MethodName) ∈ tx_ws := List.mem_filter.mpr ⟨List.mem_append_right _ (List.mem_append_right _ (List.mem_append_right _ (List.mem_append_left _ (List.mem_of_getElem? (i := 153) rfl)))), rfl⟩
theorem tw_3_154 : Jvm.Cond.code ({ cls := "TamedClassSet", name := "steps", desc := "()I" } : Jvm.MethodName) prog_1_method_13_code (1 : Nat) (Option.some Jvm.ClassFile.FieldType.int) ∈ tx_ws := List.mem_filter.mpr ⟨List.mem_append_right _ (List.mem_append_right _ (List.mem_append_right _ (List.mem_append_left _ (List.mem_of_getElem? (i := 154) rfl)))), rfl⟩
theorem tw_3_161 : Jvm.Cond.fieldLink "TamedClassSetModel" (84 : Nat) "TamedClassSetModel" "classes" "I" ∈ tx_ws := List.mem_filter.mpr ⟨List.mem_append_right _ (List.mem_append_right _ (List.mem_append_right _ (List.mem_append_left _ (List.mem_of_getElem? (i := 161) rfl)))), rfl⟩
theorem tw_3_162 : Jvm.Cond.fieldLink "TamedClassSetModel" (7 : Nat) "TamedClassSetModel" "parent" "[I" ∈ tx_ws := List.mem_filter.mpr ⟨List.mem_append_right _ (List.mem_append_right _ (List.mem_append_right _ (List.mem_append_left _ (List.mem_of_getElem? (i := 162) rfl)))), rfl⟩
theorem tw_3_163 : Jvm.Cond.fieldLink "TamedClassSetModel" (13 : Nat) "TamedClassSetModel" "marks" "[I" ∈ tx_ws := List.mem_filter.mpr ⟨List.mem_append_right _ (List.mem_append_right _ (List.mem_append_right _ (List.mem_append_left _ (List.mem_of_getElem? (i := 163) rfl)))), rfl⟩
theorem tw_3_164 : Jvm.Cond.fieldLink "TamedClassSetModel" (101 : Nat) "TamedClassSetModel" "fields" "I" ∈ tx_ws := List.mem_filter.mpr ⟨List.mem_append_right _ (List.mem_append_right _ (List.mem_append_right _ (List.mem_append_left _ (List.mem_of_getElem? (i := 164) rfl)))), rfl⟩
theorem tw_3_165 : Jvm.Cond.fieldLink "TamedClassSetModel" (16 : Nat) "TamedClassSetModel" "fieldClass" "[I" ∈ tx_ws := List.mem_filter.mpr ⟨List.mem_append_right _ (List.mem_append_right _ (List.mem_append_right _ (List.mem_append_left _ (List.mem_of_getElem? (i := 165) rfl)))), rfl⟩
theorem tw_3_166 : Jvm.Cond.fieldLink "TamedClassSetModel" (19 : Nat) "TamedClassSetModel" "fieldHow" "[I" ∈ tx_ws := List.mem_filter.mpr ⟨List.mem_append_right _ (List.mem_append_right _ (List.mem_append_right _ (List.mem_append_left _ (List.mem_of_getElem? (i := 166) rfl)))), rfl⟩
theorem tw_3_167 : Jvm.Cond.fieldLink "TamedClassSetModel" (22 : Nat) "TamedClassSetModel" "fieldType" "[I" ∈ tx_ws := List.mem_filter.mpr ⟨List.mem_append_right _ (List.mem_append_right _ (List.mem_append_right _ (List.mem_append_left _ (List.mem_of_getElem? (i := 167) rfl)))), rfl⟩
theorem tw_3_168 : Jvm.Cond.fieldLink "TamedClassSetModel" (91 : Nat) "TamedClassSetModel" "methods" "I" ∈ tx_ws := List.mem_filter.mpr ⟨List.mem_append_right _ (List.mem_append_right _ (List.mem_append_right _ (List.mem_append_left _ (List.mem_of_getElem? (i := 168) rfl)))), rfl⟩
theorem tw_3_169 : Jvm.Cond.fieldLink "TamedClassSetModel" (25 : Nat) "TamedClassSetModel" "methodClass" "[I" ∈ tx_ws := List.mem_filter.mpr ⟨List.mem_append_right _ (List.mem_append_right _ (List.mem_append_right _ (List.mem_append_left _ (List.mem_of_getElem? (i := 169) rfl)))), rfl⟩
theorem tw_3_170 : Jvm.Cond.fieldLink "TamedClassSetModel" (28 : Nat) "TamedClassSetModel" "methodHow" "[I" ∈ tx_ws := List.mem_filter.mpr ⟨List.mem_append_right _ (List.mem_append_right _ (List.mem_append_right _ (List.mem_append_left _ (List.mem_of_getElem? (i := 170) rfl)))), rfl⟩
theorem tw_3_171 : Jvm.Cond.fieldLink "TamedClassSetModel" (31 : Nat) "TamedClassSetModel" "methodName" "[I" ∈ tx_ws := List.mem_filter.mpr ⟨List.mem_append_right _ (List.mem_append_right _ (List.mem_append_right _ (List.mem_append_left _ (List.mem_of_getElem? (i := 171) rfl)))), rfl⟩
theorem tw_3_172 : Jvm.Cond.fieldLink "TamedClassSetModel" (34 : Nat) "TamedClassSetModel" "methodParam" "[I" ∈ tx_ws := List.mem_filter.mpr ⟨List.mem_append_right _ (List.mem_append_right _ (List.mem_append_right _ (List.mem_append_left _ (List.mem_of_getElem? (i := 172) rfl)))), rfl⟩
theorem tw_3_173 : Jvm.Cond.fieldLink "TamedClassSetModel" (37 : Nat) "TamedClassSetModel" "methodResult" "[I" ∈ tx_ws := List.mem_filter.mpr ⟨List.mem_append_right _ (List.mem_append_right _ (List.mem_append_right _ (List.mem_append_left _ (List.mem_of_getElem? (i := 173) rfl)))), rfl⟩
theorem tw_3_174 : Jvm.Cond.fieldLink "TamedClassSetModel" (40 : Nat) "TamedClassSetModel" "length" "[I" ∈ tx_ws := List.mem_filter.mpr ⟨List.mem_append_right _ (List.mem_append_right _ (List.mem_append_right _ (List.mem_append_left _ (List.mem_of_getElem? (i := 174) rfl)))), rfl⟩
theorem tw_3_175 : Jvm.Cond.fieldLink "TamedClassSetModel" (43 : Nat) "TamedClassSetModel" "code" "[I" ∈ tx_ws := List.mem_filter.mpr ⟨List.mem_append_right _ (List.mem_append_right _ (List.mem_append_right _ (List.mem_append_left _ (List.mem_of_getElem? (i := 175) rfl)))), rfl⟩
theorem tw_3_176 : Jvm.Cond.fieldLink "TamedClassSetModel" (46 : Nat) "TamedClassSetModel" "number" "[I" ∈ tx_ws := List.mem_filter.mpr ⟨List.mem_append_right _ (List.mem_append_right _ (List.mem_append_right _ (List.mem_append_left _ (List.mem_of_getElem? (i := 176) rfl)))), rfl⟩
theorem tw_3_177 : Jvm.Cond.fieldLink "TamedClassSetModel" (94 : Nat) "TamedClassSetModel" "sealed" "Z" ∈ tx_ws := List.mem_filter.mpr ⟨List.mem_append_right _ (List.mem_append_right _ (List.mem_append_right _ (List.mem_append_left _ (List.mem_of_getElem? (i := 177) rfl)))), rfl⟩
theorem tw_3_178 : Jvm.Cond.fieldLink "TamedClassSetModel" (49 : Nat) "TamedClassSetModel" "state" "[I" ∈ tx_ws := List.mem_filter.mpr ⟨List.mem_append_right _ (List.mem_append_right _ (List.mem_append_right _ (List.mem_append_left _ (List.mem_of_getElem? (i := 178) rfl)))), rfl⟩
theorem tw_3_179 : Jvm.Cond.fieldLink "TamedClassSetModel" (52 : Nat) "TamedClassSetModel" "reached" "[Z" ∈ tx_ws := List.mem_filter.mpr ⟨List.mem_append_right _ (List.mem_append_right _ (List.mem_append_right _ (List.mem_append_left _ (List.mem_of_getElem? (i := 179) rfl)))), rfl⟩
theorem tw_3_180 : Jvm.Cond.fieldLink "TamedClassSetModel" (169 : Nat) "TamedClassSetModel" "more" "Z" ∈ tx_ws := List.mem_filter.mpr ⟨List.mem_append_right _ (List.mem_append_right _ (List.mem_append_right _ (List.mem_append_left _ (List.mem_of_getElem? (i := 180) rfl)))), rfl⟩
theorem tw_3_181 : Jvm.Cond.fieldLink "TamedClassSetModel" (226 : Nat) "TamedClassSetModel" "objects" "I" ∈ tx_ws := List.mem_filter.mpr ⟨List.mem_append_right _ (List.mem_append_right _ (List.mem_append_right _ (List.mem_append_left _ (List.mem_of_getElem? (i := 181) rfl)))), rfl⟩
theorem tw_3_182 : Jvm.Cond.fieldLink "TamedClassSetModel" (56 : Nat) "TamedClassSetModel" "kind" "[I" ∈ tx_ws := List.mem_filter.mpr ⟨List.mem_append_right _ (List.mem_append_right _ (List.mem_append_right _ (List.mem_append_left _ (List.mem_of_getElem? (i := 182) rfl)))), rfl⟩
theorem tw_3_183 : Jvm.Cond.fieldLink "TamedClassSetModel" (59 : Nat) "TamedClassSetModel" "slot" "[I" ∈ tx_ws := List.mem_filter.mpr ⟨List.mem_append_right _ (List.mem_append_right _ (List.mem_append_right _ (List.mem_append_left _ (List.mem_of_getElem? (i := 183) rfl)))), rfl⟩
theorem tw_3_184 : Jvm.Cond.fieldLink "TamedClassSetModel" (111 : Nat) "TamedClassSetModel" "handles" "I" ∈ tx_ws := List.mem_filter.mpr ⟨List.mem_append_right _ (List.mem_append_right _ (List.mem_append_right _ (List.mem_append_left _ (List.mem_of_getElem? (i := 184) rfl)))), rfl⟩
theorem tw_3_185 : Jvm.Cond.fieldLink "TamedClassSetModel" (62 : Nat) "TamedClassSetModel" "handle" "[I" ∈ tx_ws := List.mem_filter.mpr ⟨List.mem_append_right _ (List.mem_append_right _ (List.mem_append_right _ (List.mem_append_left _ (List.mem_of_getElem? (i := 185) rfl)))), rfl⟩
theorem tw_3_186 : Jvm.Cond.fieldLink "TamedClassSetModel" (264 : Nat) "TamedClassSetModel" "runs" "I" ∈ tx_ws := List.mem_filter.mpr ⟨List.mem_append_right _ (List.mem_append_right _ (List.mem_append_right _ (List.mem_append_left _ (List.mem_of_getElem? (i := 186) rfl)))), rfl⟩
theorem tw_3_187 : Jvm.Cond.fieldLink "TamedClassSetModel" (65 : Nat) "TamedClassSetModel" "steps" "I" ∈ tx_ws := List.mem_filter.mpr ⟨List.mem_append_right _ (List.mem_append_right _ (List.mem_append_right _ (List.mem_append_left _ (List.mem_of_getElem? (i := 187) rfl)))), rfl⟩
theorem tw_3_188 : Jvm.Cond.fieldLink "TamedClassSetModel" (223 : Nat) "TamedClassSetModel" "made" "I" ∈ tx_ws := List.mem_filter.mpr ⟨List.mem_append_right _ (List.mem_append_right _ (List.mem_append_right _ (List.mem_append_left _ (List.mem_of_getElem? (i := 188) rfl)))), rfl⟩
theorem tw_3_189 : Jvm.Cond.fieldLink "TamedClassSetModel" (210 : Nat) "TamedClassSetModel" "under" "I" ∈ tx_ws := List.mem_filter.mpr ⟨List.mem_append_right _ (List.mem_append_right _ (List.mem_append_right _ (List.mem_append_left _ (List.mem_of_getElem? (i := 189) rfl)))), rfl⟩
theorem tw_3_190 : Jvm.Cond.fieldLink "TamedClassSetModel" (69 : Nat) "TamedClassSetModel" "doing" "[I" ∈ tx_ws := List.mem_filter.mpr ⟨List.mem_append_right _ (List.mem_append_right _ (List.mem_append_right _ (List.mem_append_left _ (List.mem_of_getElem? (i := 190) rfl)))), rfl⟩
theorem tw_3_191 : Jvm.Cond.fieldLink "TamedClassSetModel" (72 : Nat) "TamedClassSetModel" "at" "[I" ∈ tx_ws := List.mem_filter.mpr ⟨List.mem_append_right _ (List.mem_append_right _ (List.mem_append_right _ (List.mem_append_left _ (List.mem_of_getElem? (i := 191) rfl)))), rfl⟩
theorem tw_3_192 : Jvm.Cond.fieldLink "TamedClassSetModel" (75 : Nat) "TamedClassSetModel" "height" "[I" ∈ tx_ws := List.mem_filter.mpr ⟨List.mem_append_right _ (List.mem_append_right _ (List.mem_append_right _ (List.mem_append_left _ (List.mem_of_getElem? (i := 192) rfl)))), rfl⟩
theorem tw_3_193 : Jvm.Cond.fieldLink "TamedClassSetModel" (78 : Nat) "TamedClassSetModel" "stack" "[I" ∈ tx_ws := List.mem_filter.mpr ⟨List.mem_append_right _ (List.mem_append_right _ (List.mem_append_right _ (List.mem_append_left _ (List.mem_of_getElem? (i := 193) rfl)))), rfl⟩
theorem tw_3_194 : Jvm.Cond.fieldLink "TamedClassSetModel" (81 : Nat) "TamedClassSetModel" "local" "[I" ∈ tx_ws := List.mem_filter.mpr ⟨List.mem_append_right _ (List.mem_append_right _ (List.mem_append_right _ (List.mem_append_left _ (List.mem_of_getElem? (i := 194) rfl)))), rfl⟩
theorem tw_3_195 : Jvm.Cond.fieldLink "TamedClassSetModel" (236 : Nat) "TamedClassSetModel" "result" "I" ∈ tx_ws := List.mem_filter.mpr ⟨List.mem_append_right _ (List.mem_append_right _ (List.mem_append_right _ (List.mem_append_left _ (List.mem_of_getElem? (i := 195) rfl)))), rfl⟩
theorem tw_3_196 : Jvm.Cond.lays "TamedClassSetModel" "TamedClassSetModel" "classes" "I" ∈ tx_ws := List.mem_filter.mpr ⟨List.mem_append_right _ (List.mem_append_right _ (List.mem_append_right _ (List.mem_append_left _ (List.mem_of_getElem? (i := 196) rfl)))), rfl⟩
theorem tw_3_198 : Jvm.Cond.laysFinal "TamedClassSetModel" "TamedClassSetModel" "parent" "[I" ∈ tx_ws := List.mem_filter.mpr ⟨List.mem_append_right _ (List.mem_append_right _ (List.mem_append_right _ (List.mem_append_left _ (List.mem_of_getElem? (i := 198) rfl)))), rfl⟩
theorem tw_3_200 : Jvm.Cond.laysFinal "TamedClassSetModel" "TamedClassSetModel" "marks" "[I" ∈ tx_ws := List.mem_filter.mpr ⟨List.mem_append_right _ (List.mem_append_right _ (List.mem_append_right _ (List.mem_append_left _ (List.mem_of_getElem? (i := 200) rfl)))), rfl⟩
theorem tw_3_202 : Jvm.Cond.lays "TamedClassSetModel" "TamedClassSetModel" "fields" "I" ∈ tx_ws := List.mem_filter.mpr ⟨List.mem_append_right _ (List.mem_append_right _ (List.mem_append_right _ (List.mem_append_left _ (List.mem_of_getElem? (i := 202) rfl)))), rfl⟩
theorem tw_3_204 : Jvm.Cond.laysFinal "TamedClassSetModel" "TamedClassSetModel" "fieldClass" "[I" ∈ tx_ws := List.mem_filter.mpr ⟨List.mem_append_right _ (List.mem_append_right _ (List.mem_append_right _ (List.mem_append_left _ (List.mem_of_getElem? (i := 204) rfl)))), rfl⟩
theorem tw_3_206 : Jvm.Cond.laysFinal "TamedClassSetModel" "TamedClassSetModel" "fieldHow" "[I" ∈ tx_ws := List.mem_filter.mpr ⟨List.mem_append_right _ (List.mem_append_right _ (List.mem_append_right _ (List.mem_append_left _ (List.mem_of_getElem? (i := 206) rfl)))), rfl⟩
theorem tw_3_208 : Jvm.Cond.laysFinal "TamedClassSetModel" "TamedClassSetModel" "fieldType" "[I" ∈ tx_ws := List.mem_filter.mpr ⟨List.mem_append_right _ (List.mem_append_right _ (List.mem_append_right _ (List.mem_append_left _ (List.mem_of_getElem? (i := 208) rfl)))), rfl⟩
theorem tw_3_210 : Jvm.Cond.lays "TamedClassSetModel" "TamedClassSetModel" "methods" "I" ∈ tx_ws := List.mem_filter.mpr ⟨List.mem_append_right _ (List.mem_append_right _ (List.mem_append_right _ (List.mem_append_left _ (List.mem_of_getElem? (i := 210) rfl)))), rfl⟩
theorem tw_3_212 : Jvm.Cond.laysFinal "TamedClassSetModel" "TamedClassSetModel" "methodClass" "[I" ∈ tx_ws := List.mem_filter.mpr ⟨List.mem_append_right _ (List.mem_append_right _ (List.mem_append_right _ (List.mem_append_left _ (List.mem_of_getElem? (i := 212) rfl)))), rfl⟩
theorem tw_3_214 : Jvm.Cond.laysFinal "TamedClassSetModel" "TamedClassSetModel" "methodHow" "[I" ∈ tx_ws := List.mem_filter.mpr ⟨List.mem_append_right _ (List.mem_append_right _ (List.mem_append_right _ (List.mem_append_left _ (List.mem_of_getElem? (i := 214) rfl)))), rfl⟩
theorem tw_3_216 : Jvm.Cond.laysFinal "TamedClassSetModel" "TamedClassSetModel" "methodName" "[I" ∈ tx_ws := List.mem_filter.mpr ⟨List.mem_append_right _ (List.mem_append_right _ (List.mem_append_right _ (List.mem_append_left _ (List.mem_of_getElem? (i := 216) rfl)))), rfl⟩
theorem tw_3_218 : Jvm.Cond.laysFinal "TamedClassSetModel" "TamedClassSetModel" "methodParam" "[I" ∈ tx_ws := List.mem_filter.mpr ⟨List.mem_append_right _ (List.mem_append_right _ (List.mem_append_right _ (List.mem_append_left _ (List.mem_of_getElem? (i := 218) rfl)))), rfl⟩
theorem tw_3_220 : Jvm.Cond.laysFinal "TamedClassSetModel" "TamedClassSetModel" "methodResult" "[I" ∈ tx_ws := List.mem_filter.mpr ⟨List.mem_append_right _ (List.mem_append_right _ (List.mem_append_right _ (List.mem_append_left _ (List.mem_of_getElem? (i := 220) rfl)))), rfl⟩
theorem tw_3_222 : Jvm.Cond.laysFinal "TamedClassSetModel" "TamedClassSetModel" "length" "[I" ∈ tx_ws := List.mem_filter.mpr ⟨List.mem_append_right _ (List.mem_append_right _ (List.mem_append_right _ (List.mem_append_left _ (List.mem_of_getElem? (i := 222) rfl)))), rfl⟩
theorem tw_3_224 : Jvm.Cond.laysFinal "TamedClassSetModel" "TamedClassSetModel" "code" "[I" ∈ tx_ws := List.mem_filter.mpr ⟨List.mem_append_right _ (List.mem_append_right _ (List.mem_append_right _ (List.mem_append_left _ (List.mem_of_getElem? (i := 224) rfl)))), rfl⟩
theorem tw_3_226 : Jvm.Cond.laysFinal "TamedClassSetModel" "TamedClassSetModel" "number" "[I" ∈ tx_ws := List.mem_filter.mpr ⟨List.mem_append_right _ (List.mem_append_right _ (List.mem_append_right _ (List.mem_append_left _ (List.mem_of_getElem? (i := 226) rfl)))), rfl⟩
theorem tw_3_228 : Jvm.Cond.lays "TamedClassSetModel" "TamedClassSetModel" "sealed" "Z" ∈ tx_ws := List.mem_filter.mpr ⟨List.mem_append_right _ (List.mem_append_right _ (List.mem_append_right _ (List.mem_append_left _ (List.mem_of_getElem? (i := 228) rfl)))), rfl⟩
theorem tw_3_230 : Jvm.Cond.laysFinal "TamedClassSetModel" "TamedClassSetModel" "state" "[I" ∈ tx_ws := List.mem_filter.mpr ⟨List.mem_append_right _ (List.mem_append_right _ (List.mem_append_right _ (List.mem_append_left _ (List.mem_of_getElem? (i := 230) rfl)))), rfl⟩
theorem tw_3_232 : Jvm.Cond.laysFinal "TamedClassSetModel" "TamedClassSetModel" "reached" "[Z" ∈ tx_ws := List.mem_filter.mpr ⟨List.mem_append_right _ (List.mem_append_right _ (List.mem_append_right _ (List.mem_append_left _ (List.mem_of_getElem? (i := 232) rfl)))), rfl⟩
theorem tw_3_234 : Jvm.Cond.lays "TamedClassSetModel" "TamedClassSetModel" "more" "Z" ∈ tx_ws := List.mem_filter.mpr ⟨List.mem_append_right _ (List.mem_append_right _ (List.mem_append_right _ (List.mem_append_left _ (List.mem_of_getElem? (i := 234) rfl)))), rfl⟩
theorem tw_3_236 : Jvm.Cond.lays "TamedClassSetModel" "TamedClassSetModel" "objects" "I" ∈ tx_ws := List.mem_filter.mpr ⟨List.mem_append_right _ (List.mem_append_right _ (List.mem_append_right _ (List.mem_append_left _ (List.mem_of_getElem? (i := 236) rfl)))), rfl⟩
theorem tw_3_238 : Jvm.Cond.laysFinal "TamedClassSetModel" "TamedClassSetModel" "kind" "[I" ∈ tx_ws := List.mem_filter.mpr ⟨List.mem_append_right _ (List.mem_append_right _ (List.mem_append_right _ (List.mem_append_left _ (List.mem_of_getElem? (i := 238) rfl)))), rfl⟩
theorem tw_4_0 : Jvm.Cond.laysFinal "TamedClassSetModel" "TamedClassSetModel" "slot" "[I" ∈ tx_ws := List.mem_filter.mpr ⟨List.mem_append_right _ (List.mem_append_right _ (List.mem_append_right _ (List.mem_append_right _ (List.mem_append_left _ (List.mem_of_getElem? (i := 0) rfl))))), rfl⟩
theorem tw_4_2 : Jvm.Cond.lays "TamedClassSetModel" "TamedClassSetModel" "handles" "I" ∈ tx_ws := List.mem_filter.mpr ⟨List.mem_append_right _ (List.mem_append_right _ (List.mem_append_right _ (List.mem_append_right _ (List.mem_append_left _ (List.mem_of_getElem? (i := 2) rfl))))), rfl⟩
theorem tw_4_4 : Jvm.Cond.laysFinal "TamedClassSetModel" "TamedClassSetModel" "handle" "[I" ∈ tx_ws := List.mem_filter.mpr ⟨List.mem_append_right _ (List.mem_append_right _ (List.mem_append_right _ (List.mem_append_right _ (List.mem_append_left _ (List.mem_of_getElem? (i := 4) rfl))))), rfl⟩
theorem tw_4_6 : Jvm.Cond.lays "TamedClassSetModel" "TamedClassSetModel" "runs" "I" ∈ tx_ws := List.mem_filter.mpr ⟨List.mem_append_right _ (List.mem_append_right _ (List.mem_append_right _ (List.mem_append_right _ (List.mem_append_left _ (List.mem_of_getElem? (i := 6) rfl))))), rfl⟩
theorem tw_4_8 : Jvm.Cond.lays "TamedClassSetModel" "TamedClassSetModel" "steps" "I" ∈ tx_ws := List.mem_filter.mpr ⟨List.mem_append_right _ (List.mem_append_right _ (List.mem_append_right _ (List.mem_append_right _ (List.mem_append_left _ (List.mem_of_getElem? (i := 8) rfl))))), rfl⟩
theorem tw_4_10 : Jvm.Cond.lays "TamedClassSetModel" "TamedClassSetModel" "made" "I" ∈ tx_ws := List.mem_filter.mpr ⟨List.mem_append_right _ (List.mem_append_right _ (List.mem_append_right _ (List.mem_append_right _ (List.mem_append_left _ (List.mem_of_getElem? (i := 10) rfl))))), rfl⟩
theorem tw_4_12 : Jvm.Cond.lays "TamedClassSetModel" "TamedClassSetModel" "under" "I" ∈ tx_ws := List.mem_filter.mpr ⟨List.mem_append_right _ (List.mem_append_right _ (List.mem_append_right _ (List.mem_append_right _ (List.mem_append_left _ (List.mem_of_getElem? (i := 12) rfl))))), rfl⟩
theorem tw_4_14 : Jvm.Cond.laysFinal "TamedClassSetModel" "TamedClassSetModel" "doing" "[I" ∈ tx_ws := List.mem_filter.mpr ⟨List.mem_append_right _ (List.mem_append_right _ (List.mem_append_right _ (List.mem_append_right _ (List.mem_append_left _ (List.mem_of_getElem? (i := 14) rfl))))), rfl⟩
theorem tw_4_16 : Jvm.Cond.laysFinal "TamedClassSetModel" "TamedClassSetModel" "at" "[I" ∈ tx_ws := List.mem_filter.mpr ⟨List.mem_append_right _ (List.mem_append_right _ (List.mem_append_right _ (List.mem_append_right _ (List.mem_append_left _ (List.mem_of_getElem? (i := 16) rfl))))), rfl⟩
theorem tw_4_18 : Jvm.Cond.laysFinal "TamedClassSetModel" "TamedClassSetModel" "height" "[I" ∈ tx_ws := List.mem_filter.mpr ⟨List.mem_append_right _ (List.mem_append_right _ (List.mem_append_right _ (List.mem_append_right _ (List.mem_append_left _ (List.mem_of_getElem? (i := 18) rfl))))), rfl⟩
theorem tw_4_20 : Jvm.Cond.laysFinal "TamedClassSetModel" "TamedClassSetModel" "stack" "[I" ∈ tx_ws := List.mem_filter.mpr ⟨List.mem_append_right _ (List.mem_append_right _ (List.mem_append_right _ (List.mem_append_right _ (List.mem_append_left _ (List.mem_of_getElem? (i := 20) rfl))))), rfl⟩
theorem tw_4_22 : Jvm.Cond.laysFinal "TamedClassSetModel" "TamedClassSetModel" "local" "[I" ∈ tx_ws := List.mem_filter.mpr ⟨List.mem_append_right _ (List.mem_append_right _ (List.mem_append_right _ (List.mem_append_right _ (List.mem_append_left _ (List.mem_of_getElem? (i := 22) rfl))))), rfl⟩
theorem tw_4_24 : Jvm.Cond.lays "TamedClassSetModel" "TamedClassSetModel" "result" "I" ∈ tx_ws := List.mem_filter.mpr ⟨List.mem_append_right _ (List.mem_append_right _ (List.mem_append_right _ (List.mem_append_right _ (List.mem_append_left _ (List.mem_of_getElem? (i := 24) rfl))))), rfl⟩
theorem tw_4_29 : Jvm.Cond.instanceMethod ({ cls := "TamedClassSetModel", name := "addClass", desc := "(II)I" } : Jvm.MethodName) ∈ tx_ws := List.mem_filter.mpr ⟨List.mem_append_right _ (List.mem_append_right _ (List.mem_append_right _ (List.mem_append_right _ (List.mem_append_left _ (List.mem_of_getElem? (i := 29) rfl))))), rfl⟩
theorem tw_4_30 : Jvm.Cond.selects "TamedClassSetModel" ({ cls := "TamedClassSetModel", name := "addClass", desc := "(II)I" } : Jvm.MethodName) ({ cls := "TamedClassSetModel", name := "addClass", desc := "(II)I" } : Jvm.MethodName) ∈ tx_ws := List.mem_filter.mpr ⟨List.mem_append_right _ (List.mem_append_right _ (List.mem_append_right _ (List.mem_append_right _ (List.mem_append_left _ (List.mem_of_getElem? (i := 30) rfl))))), rfl⟩
theorem tw_4_31 : Jvm.Cond.code ({ cls := "TamedClassSetModel", name := "addClass", desc := "(II)I" } : Jvm.MethodName) prog_9_method_5_code (3 : Nat) (Option.some Jvm.ClassFile.FieldType.int) ∈ tx_ws := List.mem_filter.mpr ⟨List.mem_append_right _ (List.mem_append_right _ (List.mem_append_right _ (List.mem_append_right _ (List.mem_append_left _ (List.mem_of_getElem? (i := 31) rfl))))), rfl⟩
theorem tw_4_32 : Jvm.Cond.methodLink "TamedClassSetModel" (87 : Nat) ({ cls := "TamedClassSetModel", name := "isClass", desc := "(I)Z" } : Jvm.MethodName) ∈ tx_ws := List.mem_filter.mpr ⟨List.mem_append_right _ (List.mem_append_right _ (List.mem_append_right _ (List.mem_append_right _ (List.mem_append_left _ (List.mem_of_getElem? (i := 32) rfl))))), rfl⟩
theorem tw_4_34 : Jvm.Cond.instanceMethod ({ cls := "TamedClassSetModel", name := "isClass", desc := "(I)Z" } : Jvm.MethodName) ∈ tx_ws := List.mem_filter.mpr ⟨List.mem_append_right _ (List.mem_append_right _ (List.mem_append_right _ (List.mem_append_right _ (List.mem_append_left _ (List.mem_of_getElem? (i := 34) rfl))))), rfl⟩
theorem tw_4_35 : Jvm.Cond.code ({ cls := "TamedClassSetModel", name := "isClass", desc := "(I)Z" } : Jvm.MethodName) prog_9_method_2_code (2 : Nat) (Option.some Jvm.ClassFile.FieldType.boolean) ∈ tx_ws := List.mem_filter.mpr ⟨List.mem_append_right _ (List.mem_append_right _ (List.mem_append_right _ (List.mem_append_right _ (List.mem_append_left _ (List.mem_of_getElem? (i := 35) rfl))))), rfl⟩
theorem tw_4_37 : Jvm.Cond.instanceMethod ({ cls := "TamedClassSetModel", name := "addField", desc := "(III)I" } : Jvm.MethodName) ∈ tx_ws := List.mem_filter.mpr ⟨List.mem_append_right _ (List.mem_append_right _ (List.mem_append_right _ (List.mem_append_right _ (List.mem_append_left _ (List.mem_of_getElem? (i := 37) rfl))))), rfl⟩
theorem tw_4_38 : Jvm.Cond.selects "TamedClassSetModel" ({ cls := "TamedClassSetModel", name := "addField", desc := "(III)I" } : Jvm.MethodName) ({ cls := "TamedClassSetModel", name := "addField", desc := "(III)I" } : Jvm.MethodName) ∈ tx_ws := List.mem_filter.mpr ⟨List.mem_append_right _ (List.mem_append_right _ (List.mem_append_right _ (List.mem_append_right _ (List.mem_append_left _ (List.mem_of_getElem? (i := 38) rfl))))), rfl⟩
theorem tw_4_39 : Jvm.Cond.code ({ cls := "TamedClassSetModel", name := "addField", desc := "(III)I" } : Jvm.MethodName) prog_9_method_6_code (4 : Nat) (Option.some Jvm.ClassFile.FieldType.int) ∈ tx_ws := List.mem_filter.mpr ⟨List.mem_append_right _ (List.mem_append_right _ (List.mem_append_right _ (List.mem_append_right _ (List.mem_append_left _ (List.mem_of_getElem? (i := 39) rfl))))), rfl⟩
theorem tw_4_40 : Jvm.Cond.methodLink "TamedClassSetModel" (98 : Nat) ({ cls := "TamedClassSetModel", name := "isType", desc := "(I)Z" } : Jvm.MethodName) ∈ tx_ws := List.mem_filter.mpr ⟨List.mem_append_right _ (List.mem_append_right _ (List.mem_append_right _ (List.mem_append_right _ (List.mem_append_left _ (List.mem_of_getElem? (i := 40) rfl))))), rfl⟩
theorem tw_4_42 : Jvm.Cond.instanceMethod ({ cls := "TamedClassSetModel", name := "isType", desc := "(I)Z" } : Jvm.MethodName) ∈ tx_ws := List.mem_filter.mpr ⟨List.mem_append_right _ (List.mem_append_right _ (List.mem_append_right _ (List.mem_append_right _ (List.mem_append_left _ (List.mem_of_getElem? (i := 42) rfl))))), rfl⟩
theorem tw_4_43 : Jvm.Cond.code ({ cls := "TamedClassSetModel", name := "isType", desc := "(I)Z" } : Jvm.MethodName) prog_9_method_3_code (2 : Nat) (Option.some Jvm.ClassFile.FieldType.boolean) ∈ tx_ws := List.mem_filter.mpr ⟨List.mem_append_right _ (List.mem_append_right _ (List.mem_append_right _ (List.mem_append_right _ (List.mem_append_left _ (List.mem_of_getElem? (i := 43) rfl))))), rfl⟩
theorem tw_4_45 : Jvm.Cond.instanceMethod ({ cls := "TamedClassSetModel", name := "addMethod", desc := "(IIIII)I" } : Jvm.MethodName) ∈ tx_ws := List.mem_filter.mpr ⟨List.mem_append_right _ (List.mem_append_right _ (List.mem_append_right _ (List.mem_append_right _ (List.mem_append_left _ (List.mem_of_getElem? (i := 45) rfl))))), rfl⟩
theorem tw_4_46 : Jvm.Cond.selects "TamedClassSetModel" ({ cls := "TamedClassSetModel", name := "addMethod", desc := "(IIIII)I" } : Jvm.MethodName) ({ cls := "TamedClassSetModel", name := "addMethod", desc := "(IIIII)I" } : Jvm.MethodName) ∈ tx_ws := List.mem_filter.mpr ⟨List.mem_append_right _ (List.mem_append_right _ (List.mem_append_right _ (List.mem_append_right _ (List.mem_append_left _ (List.mem_of_getElem? (i := 46) rfl))))), rfl⟩
theorem tw_4_47 : Jvm.Cond.code ({ cls := "TamedClassSetModel", name := "addMethod", desc := "(IIIII)I" } : Jvm.MethodName) prog_9_method_7_code (6 : Nat) (Option.some Jvm.ClassFile.FieldType.int) ∈ tx_ws := List.mem_filter.mpr ⟨List.mem_append_right _ (List.mem_append_right _ (List.mem_append_right _ (List.mem_append_right _ (List.mem_append_left _ (List.mem_of_getElem? (i := 47) rfl))))), rfl⟩
theorem tw_4_48 : Jvm.Cond.methodLink "TamedClassSetModel" (104 : Nat) ({ cls := "TamedClassSetModel", name := "methodOf", desc := "(II)I" } : Jvm.MethodName) ∈ tx_ws := List.mem_filter.mpr ⟨List.mem_append_right _ (List.mem_append_right _ (List.mem_append_right _ (List.mem_append_right _ (List.mem_append_left _ (List.mem_of_getElem? (i := 48) rfl))))), rfl⟩
theorem tw_4_50 : Jvm.Cond.instanceMethod ({ cls := "TamedClassSetModel", name := "methodOf", desc := "(II)I" } : Jvm.MethodName) ∈ tx_ws := List.mem_filter.mpr ⟨List.mem_append_right _ (List.mem_append_right _ (List.mem_append_right _ (List.mem_append_right _ (List.mem_append_left _ (List.mem_of_getElem? (i := 50) rfl))))), rfl⟩
theorem tw_4_51 : Jvm.Cond.code ({ cls := "TamedClassSetModel", name := "methodOf", desc := "(II)I" } : Jvm.MethodName) prog_9_method_8_code (4 : Nat) (Option.some Jvm.ClassFile.FieldType.int) ∈ tx_ws := List.mem_filter.mpr ⟨List.mem_append_right _ (List.mem_append_right _ (List.mem_append_right _ (List.mem_append_right _ (List.mem_append_left _ (List.mem_of_getElem? (i := 51) rfl))))), rfl⟩
theorem tw_4_53 : Jvm.Cond.instanceMethod ({ cls := "TamedClassSetModel", name := "emit", desc := "(III)I" } : Jvm.MethodName) ∈ tx_ws := List.mem_filter.mpr ⟨List.mem_append_right _ (List.mem_append_right _ (List.mem_append_right _ (List.mem_append_right _ (List.mem_append_left _ (List.mem_of_getElem? (i := 53) rfl))))), rfl⟩
theorem tw_4_54 : Jvm.Cond.selects "TamedClassSetModel" ({ cls := "TamedClassSetModel", name := "emit", desc := "(III)I" } : Jvm.MethodName) ({ cls := "TamedClassSetModel", name := "emit", desc := "(III)I" } : Jvm.MethodName) ∈ tx_ws := List.mem_filter.mpr ⟨List.mem_append_right _ (List.mem_append_right _ (List.mem_append_right _ (List.mem_append_right _ (List.mem_append_left _ (List.mem_of_getElem? (i := 54) rfl))))), rfl⟩
theorem tw_4_55 : Jvm.Cond.code ({ cls := "TamedClassSetModel", name := "emit", desc := "(III)I" } : Jvm.MethodName) prog_9_method_9_code (5 : Nat) (Option.some Jvm.ClassFile.FieldType.int) ∈ tx_ws := List.mem_filter.mpr ⟨List.mem_append_right _ (List.mem_append_right _ (List.mem_append_right _ (List.mem_append_right _ (List.mem_append_left _ (List.mem_of_getElem? (i := 55) rfl))))), rfl⟩
theorem tw_4_56 : Jvm.Cond.methodLink "TamedClassSetModel" (108 : Nat) ({ cls := "TamedClassSetModel", name := "isMethod", desc := "(I)Z" } : Jvm.MethodName) ∈ tx_ws := List.mem_filter.mpr ⟨List.mem_append_right _ (List.mem_append_right _ (List.mem_append_right _ (List.mem_append_right _ (List.mem_append_left _ (List.mem_of_getElem? (i := 56) rfl))))), rfl⟩
theorem tw_4_58 : Jvm.Cond.instanceMethod ({ cls := "TamedClassSetModel", name := "isMethod", desc := "(I)Z" } : Jvm.MethodName) ∈ tx_ws := List.mem_filter.mpr ⟨List.mem_append_right _ (List.mem_append_right _ (List.mem_append_right _ (List.mem_append_right _ (List.mem_append_left _ (List.mem_of_getElem? (i := 58) rfl))))), rfl⟩
theorem tw_4_59 : Jvm.Cond.code ({ cls := "TamedClassSetModel", name := "isMethod", desc := "(I)Z" } : Jvm.MethodName) prog_9_method_4_code (2 : Nat) (Option.some Jvm.ClassFile.FieldType.boolean) ∈ tx_ws := List.mem_filter.mpr ⟨List.mem_append_right _ (List.mem_append_right _ (List.mem_append_right _ (List.mem_append_right _ (List.mem_append_left _ (List.mem_of_getElem? (i := 59) rfl))))), rfl⟩
theorem tw_4_61 : Jvm.Cond.instanceMethod ({ cls := "TamedClassSetModel", name := "clear", desc := "()V" } : Jvm.MethodName) ∈ tx_ws := List.mem_filter.mpr ⟨List.mem_append_right _ (List.mem_append_right _ (List.mem_append_right _ (List.mem_append_right _ (List.mem_append_left _ (List.mem_of_getElem? (i := 61) rfl))))), rfl⟩
theorem tw_4_62 : Jvm.Cond.selects "TamedClassSetModel" ({ cls := "TamedClassSetModel", name := "clear", desc := "()V" } : Jvm.MethodName) ({ cls := "TamedClassSetModel", name := "clear", desc := "()V" } : Jvm.MethodName) ∈ tx_ws := List.mem_filter.mpr ⟨List.mem_append_right _ (List.mem_append_right _ (List.mem_append_right _ (List.mem_append_right _ (List.mem_append_left _ (List.mem_of_getElem? (i := 62) rfl))))), rfl⟩
theorem tw_4_63 : Jvm.Cond.code ({ cls := "TamedClassSetModel", name := "clear", desc := "()V" } : Jvm.MethodName) prog_9_method_10_code (1 : Nat) (Option.none : Option Jvm.ClassFile.FieldType) ∈ tx_ws := List.mem_filter.mpr ⟨List.mem_append_right _ (List.mem_append_right _ (List.mem_append_right _ (List.mem_append_right _ (List.mem_append_left _ (List.mem_of_getElem? (i := 63) rfl))))), rfl⟩
theorem tw_4_65 : Jvm.Cond.instanceMethod ({ cls := "TamedClassSetModel", name := "check", desc := "()I" } : Jvm.MethodName) ∈ tx_ws := List.mem_filter.mpr ⟨List.mem_append_right _ (List.mem_append_right _ (List.mem_append_right _ (List.mem_append_right _ (List.mem_append_left _ (List.mem_of_getElem? (i := 65) rfl))))), rfl⟩
theorem tw_4_66 : Jvm.Cond.selects "TamedClassSetModel" ({ cls := "TamedClassSetModel", name := "check", desc := "()I" } : Jvm.MethodName) ({ cls := "TamedClassSetModel", name := "check", desc := "()I" } : Jvm.MethodName) ∈ tx_ws := List.mem_filter.mpr ⟨List.mem_append_right _ (List.mem_append_right _ (List.mem_append_right _ (List.mem_append_right _ (List.mem_append_left _ (List.mem_of_getElem? (i := 66) rfl))))), rfl⟩
theorem tw_4_67 : Jvm.Cond.code ({ cls := "TamedClassSetModel", name := "check", desc := "()I" } : Jvm.MethodName) prog_9_method_40_code (2 : Nat) (Option.some Jvm.ClassFile.FieldType.int) ∈ tx_ws := List.mem_filter.mpr ⟨List.mem_append_right _ (List.mem_append_right _ (List.mem_append_right _ (List.mem_append_right _ (List.mem_append_left _ (List.mem_of_getElem? (i := 67) rfl))))), rfl⟩
theorem tw_4_68 : Jvm.Cond.methodLink "TamedClassSetModel" (206 : Nat) ({ cls := "TamedClassSetModel", name := "broken", desc := "()I" } : Jvm.MethodName) ∈ tx_ws := List.mem_filter.mpr ⟨List.mem_append_right _ (List.mem_append_right _ (List.mem_append_right _ (List.mem_append_right _ (List.mem_append_left _ (List.mem_of_getElem? (i := 68) rfl))))), rfl⟩
theorem tw_4_70 : Jvm.Cond.instanceMethod ({ cls := "TamedClassSetModel", name := "broken", desc := "()I" } : Jvm.MethodName) ∈ tx_ws := List.mem_filter.mpr ⟨List.mem_append_right _ (List.mem_append_right _ (List.mem_append_right _ (List.mem_append_right _ (List.mem_append_left _ (List.mem_of_getElem? (i := 70) rfl))))), rfl⟩
theorem tw_4_71 : Jvm.Cond.code ({ cls := "TamedClassSetModel", name := "broken", desc := "()I" } : Jvm.MethodName) prog_9_method_39_code (4 : Nat) (Option.some Jvm.ClassFile.FieldType.int) ∈ tx_ws := List.mem_filter.mpr ⟨List.mem_append_right _ (List.mem_append_right _ (List.mem_append_right _ (List.mem_append_right _ (List.mem_append_left _ (List.mem_of_getElem? (i := 71) rfl))))), rfl⟩
theorem tw_4_72 : Jvm.Cond.methodLink "TamedClassSetModel" (191 : Nat) ({ cls := "TamedClassSetModel", name := "looseStatic", desc := "(I)Z" } : Jvm.MethodName) ∈ tx_ws := List.mem_filter.mpr ⟨List.mem_append_right _ (List.mem_append_right _ (List.mem_append_right _ (List.mem_append_right _ (List.mem_append_left _ (List.mem_of_getElem? (i := 72) rfl))))), rfl⟩
theorem tw_4_74 : Jvm.Cond.instanceMethod ({ cls := "TamedClassSetModel", name := "looseStatic", desc := "(I)Z" } : Jvm.MethodName) ∈ tx_ws := List.mem_filter.mpr ⟨List.mem_append_right _ (List.mem_append_right _ (List.mem_append_right _ (List.mem_append_right _ (List.mem_append_left _ (List.mem_of_getElem? (i := 74) rfl))))), rfl⟩
theorem tw_4_75 : Jvm.Cond.code ({ cls := "TamedClassSetModel", name := "looseStatic", desc := "(I)Z" } : Jvm.MethodName) prog_9_method_35_code (2 : Nat) (Option.some Jvm.ClassFile.FieldType.boolean) ∈ tx_ws := List.mem_filter.mpr ⟨List.mem_append_right _ (List.mem_append_right _ (List.mem_append_right _ (List.mem_append_right _ (List.mem_append_left _ (List.mem_of_getElem? (i := 75) rfl))))), rfl⟩
theorem tw_4_76 : Jvm.Cond.methodLink "TamedClassSetModel" (121 : Nat) ({ cls := "TamedClassSetModel", name := "isStatic", desc := "(I)Z" } : Jvm.MethodName) ∈ tx_ws := List.mem_filter.mpr ⟨List.mem_append_right _ (List.mem_append_right _ (List.mem_append_right _ (List.mem_append_right _ (List.mem_append_left _ (List.mem_of_getElem? (i := 76) rfl))))), rfl⟩
theorem tw_4_78 : Jvm.Cond.instanceMethod ({ cls := "TamedClassSetModel", name := "isStatic", desc := "(I)Z" } : Jvm.MethodName) ∈ tx_ws := List.mem_filter.mpr ⟨List.mem_append_right _ (List.mem_append_right _ (List.mem_append_right _ (List.mem_append_right _ (List.mem_append_left _ (List.mem_of_getElem? (i := 78) rfl))))), rfl⟩
theorem tw_4_79 : Jvm.Cond.code ({ cls := "TamedClassSetModel", name := "isStatic", desc := "(I)Z" } : Jvm.MethodName) prog_9_method_16_code (2 : Nat) (Option.some Jvm.ClassFile.FieldType.boolean) ∈ tx_ws := List.mem_filter.mpr ⟨List.mem_append_right _ (List.mem_append_right _ (List.mem_append_right _ (List.mem_append_right _ (List.mem_append_left _ (List.mem_of_getElem? (i := 79) rfl))))), rfl⟩
theorem tw_4_80 : Jvm.Cond.methodLink "TamedClassSetModel" (182 : Nat) ({ cls := "TamedClassSetModel", name := "isFinal", desc := "(I)Z" } : Jvm.MethodName) ∈ tx_ws := List.mem_filter.mpr ⟨List.mem_append_right _ (List.mem_append_right _ (List.mem_append_right _ (List.mem_append_right _ (List.mem_append_left _ (List.mem_of_getElem? (i := 80) rfl))))), rfl⟩
theorem tw_4_82 : Jvm.Cond.instanceMethod ({ cls := "TamedClassSetModel", name := "isFinal", desc := "(I)Z" } : Jvm.MethodName) ∈ tx_ws := List.mem_filter.mpr ⟨List.mem_append_right _ (List.mem_append_right _ (List.mem_append_right _ (List.mem_append_right _ (List.mem_append_left _ (List.mem_of_getElem? (i := 82) rfl))))), rfl⟩
theorem tw_4_83 : Jvm.Cond.code ({ cls := "TamedClassSetModel", name := "isFinal", desc := "(I)Z" } : Jvm.MethodName) prog_9_method_17_code (2 : Nat) (Option.some Jvm.ClassFile.FieldType.boolean) ∈ tx_ws := List.mem_filter.mpr ⟨List.mem_append_right _ (List.mem_append_right _ (List.mem_append_right _ (List.mem_append_right _ (List.mem_append_left _ (List.mem_of_getElem? (i := 83) rfl))))), rfl⟩
theorem tw_4_84 : Jvm.Cond.methodLink "TamedClassSetModel" (185 : Nat) ({ cls := "TamedClassSetModel", name := "powerless", desc := "(I)Z" } : Jvm.MethodName) ∈ tx_ws := List.mem_filter.mpr ⟨List.mem_append_right _ (List.mem_append_right _ (List.mem_append_right _ (List.mem_append_right _ (List.mem_append_left _ (List.mem_of_getElem? (i := 84) rfl))))), rfl⟩
theorem tw_4_86 : Jvm.Cond.instanceMethod ({ cls := "TamedClassSetModel", name := "powerless", desc := "(I)Z" } : Jvm.MethodName) ∈ tx_ws := List.mem_filter.mpr ⟨List.mem_append_right _ (List.mem_append_right _ (List.mem_append_right _ (List.mem_append_right _ (List.mem_append_left _ (List.mem_of_getElem? (i := 86) rfl))))), rfl⟩
theorem tw_4_87 : Jvm.Cond.code ({ cls := "TamedClassSetModel", name := "powerless", desc := "(I)Z" } : Jvm.MethodName) prog_9_method_14_code (2 : Nat) (Option.some Jvm.ClassFile.FieldType.boolean) ∈ tx_ws := List.mem_filter.mpr ⟨List.mem_append_right _ (List.mem_append_right _ (List.mem_append_right _ (List.mem_append_right _ (List.mem_append_left _ (List.mem_of_getElem? (i := 87) rfl))))), rfl⟩
theorem tw_4_88 : Jvm.Cond.methodLink "TamedClassSetModel" (118 : Nat) ({ cls := "TamedClassSetModel", name := "marked", desc := "(II)Z" } : Jvm.MethodName) ∈ tx_ws := List.mem_filter.mpr ⟨List.mem_append_right _ (List.mem_append_right _ (List.mem_append_right _ (List.mem_append_right _ (List.mem_append_left _ (List.mem_of_getElem? (i := 88) rfl))))), rfl⟩
theorem tw_4_90 : Jvm.Cond.instanceMethod ({ cls := "TamedClassSetModel", name := "marked", desc := "(II)Z" } : Jvm.MethodName) ∈ tx_ws := List.mem_filter.mpr ⟨List.mem_append_right _ (List.mem_append_right _ (List.mem_append_right _ (List.mem_append_right _ (List.mem_append_left _ (List.mem_of_getElem? (i := 90) rfl))))), rfl⟩
theorem tw_4_91 : Jvm.Cond.code ({ cls := "TamedClassSetModel", name := "marked", desc := "(II)Z" } : Jvm.MethodName) prog_9_method_12_code (5 : Nat) (Option.some Jvm.ClassFile.FieldType.boolean) ∈ tx_ws := List.mem_filter.mpr ⟨List.mem_append_right _ (List.mem_append_right _ (List.mem_append_right _ (List.mem_append_right _ (List.mem_append_left _ (List.mem_of_getElem? (i := 91) rfl))))), rfl⟩
theorem tw_4_92 : Jvm.Cond.methodLink "TamedClassSetModel" (114 : Nat) ({ cls := "TamedClassSetModel", name := "inLine", desc := "(II)Z" } : Jvm.MethodName) ∈ tx_ws := List.mem_filter.mpr ⟨List.mem_append_right _ (List.mem_append_right _ (List.mem_append_right _ (List.mem_append_right _ (List.mem_append_left _ (List.mem_of_getElem? (i := 92) rfl))))), rfl⟩
theorem tw_4_94 : Jvm.Cond.instanceMethod ({ cls := "TamedClassSetModel", name := "inLine", desc := "(II)Z" } : Jvm.MethodName) ∈ tx_ws := List.mem_filter.mpr ⟨List.mem_append_right _ (List.mem_append_right _ (List.mem_append_right _ (List.mem_append_right _ (List.mem_append_left _ (List.mem_of_getElem? (i := 94) rfl))))), rfl⟩
theorem tw_4_95 : Jvm.Cond.code ({ cls := "TamedClassSetModel", name := "inLine", desc := "(II)Z" } : Jvm.MethodName) prog_9_method_11_code (5 : Nat) (Option.some Jvm.ClassFile.FieldType.boolean) ∈ tx_ws := List.mem_filter.mpr ⟨List.mem_append_right _ (List.mem_append_right _ (List.mem_append_right _ (List.mem_append_right _ (List.mem_append_left _ (List.mem_of_getElem? (i := 95) rfl))))), rfl⟩
theorem tw_4_96 : Jvm.Cond.methodLink "TamedClassSetModel" (194 : Nat) ({ cls := "TamedClassSetModel", name := "looseField", desc := "(I)Z" } : Jvm.MethodName) ∈ tx_ws := List.mem_filter.mpr ⟨List.mem_append_right _ (List.mem_append_right _ (List.mem_append_right _ (List.mem_append_right _ (List.mem_append_left _ (List.mem_of_getElem? (i := 96) rfl))))), rfl⟩
theorem tw_4_98 : Jvm.Cond.instanceMethod ({ cls := "TamedClassSetModel", name := "looseField", desc := "(I)Z" } : Jvm.MethodName) ∈ tx_ws := List.mem_filter.mpr ⟨List.mem_append_right _ (List.mem_append_right _ (List.mem_append_right _ (List.mem_append_right _ (List.mem_append_left _ (List.mem_of_getElem? (i := 98) rfl))))), rfl⟩
theorem tw_4_99 : Jvm.Cond.code ({ cls := "TamedClassSetModel", name := "looseField", desc := "(I)Z" } : Jvm.MethodName) prog_9_method_36_code (4 : Nat) (Option.some Jvm.ClassFile.FieldType.boolean) ∈ tx_ws := List.mem_filter.mpr ⟨List.mem_append_right _ (List.mem_append_right _ (List.mem_append_right _ (List.mem_append_right _ (List.mem_append_left _ (List.mem_of_getElem? (i := 99) rfl))))), rfl⟩
theorem tw_4_100 : Jvm.Cond.methodLink "TamedClassSetModel" (140 : Nat) ({ cls := "TamedClassSetModel", name := "owns", desc := "(II)Z" } : Jvm.MethodName) ∈ tx_ws := List.mem_filter.mpr ⟨List.mem_append_right _ (List.mem_append_right _ (List.mem_append_right _ (List.mem_append_right _ (List.mem_append_left _ (List.mem_of_getElem? (i := 100) rfl))))), rfl⟩
theorem tw_4_102 : Jvm.Cond.instanceMethod ({ cls := "TamedClassSetModel", name := "owns", desc := "(II)Z" } : Jvm.MethodName) ∈ tx_ws := List.mem_filter.mpr ⟨List.mem_append_right _ (List.mem_append_right _ (List.mem_append_right _ (List.mem_append_right _ (List.mem_append_left _ (List.mem_of_getElem? (i := 102) rfl))))), rfl⟩
theorem tw_4_103 : Jvm.Cond.code ({ cls := "TamedClassSetModel", name := "owns", desc := "(II)Z" } : Jvm.MethodName) prog_9_method_18_code (3 : Nat) (Option.some Jvm.ClassFile.FieldType.boolean) ∈ tx_ws := List.mem_filter.mpr ⟨List.mem_append_right _ (List.mem_append_right _ (List.mem_append_right _ (List.mem_append_right _ (List.mem_append_left _ (List.mem_of_getElem? (i := 103) rfl))))), rfl⟩
theorem tw_4_104 : Jvm.Cond.methodLink "TamedClassSetModel" (188 : Nat) ({ cls := "TamedClassSetModel", name := "immutable", desc := "(I)Z" } : Jvm.MethodName) ∈ tx_ws := List.mem_filter.mpr ⟨List.mem_append_right _ (List.mem_append_right _ (List.mem_append_right _ (List.mem_append_right _ (List.mem_append_left _ (List.mem_of_getElem? (i := 104) rfl))))), rfl⟩
theorem tw_4_106 : Jvm.Cond.instanceMethod ({ cls := "TamedClassSetModel", name := "immutable", desc := "(I)Z" } : Jvm.MethodName) ∈ tx_ws := List.mem_filter.mpr ⟨List.mem_append_right _ (List.mem_append_right _ (List.mem_append_right _ (List.mem_append_right _ (List.mem_append_left _ (List.mem_of_getElem? (i := 106) rfl))))), rfl⟩
theorem tw_4_107 : Jvm.Cond.code ({ cls := "TamedClassSetModel", name := "immutable", desc := "(I)Z" } : Jvm.MethodName) prog_9_method_13_code (2 : Nat) (Option.some Jvm.ClassFile.FieldType.boolean) ∈ tx_ws := List.mem_filter.mpr ⟨List.mem_append_right _ (List.mem_append_right _ (List.mem_append_right _ (List.mem_append_right _ (List.mem_append_left _ (List.mem_of_getElem? (i := 107) rfl))))), rfl⟩
theorem tw_4_108 : Jvm.Cond.methodLink "TamedClassSetModel" (197 : Nat) ({ cls := "TamedClassSetModel", name := "unlike", desc := "(I)Z" } : Jvm.MethodName) ∈ tx_ws := List.mem_filter.mpr ⟨List.mem_append_right _ (List.mem_append_right _ (List.mem_append_right _ (List.mem_append_right _ (List.mem_append_left _ (List.mem_of_getElem? (i := 108) rfl))))), rfl⟩
theorem tw_4_110 : Jvm.Cond.instanceMethod ({ cls := "TamedClassSetModel", name := "unlike", desc := "(I)Z" } : Jvm.MethodName) ∈ tx_ws := List.mem_filter.mpr ⟨List.mem_append_right _ (List.mem_append_right _ (List.mem_append_right _ (List.mem_append_right _ (List.mem_append_left _ (List.mem_of_getElem? (i := 110) rfl))))), rfl⟩
theorem tw_4_111 : Jvm.Cond.code ({ cls := "TamedClassSetModel", name := "unlike", desc := "(I)Z" } : Jvm.MethodName) prog_9_method_37_code (6 : Nat) (Option.some Jvm.ClassFile.FieldType.boolean) ∈ tx_ws := List.mem_filter.mpr ⟨List.mem_append_right _ (List.mem_append_right _ (List.mem_append_right _ (List.mem_append_right _ (List.mem_append_left _ (List.mem_of_getElem? (i := 111) rfl))))), rfl⟩
theorem tw_4_112 : Jvm.Cond.methodLink "TamedClassSetModel" (200 : Nat) ({ cls := "TamedClassSetModel", name := "fitsTypes", desc := "(I)Z" } : Jvm.MethodName) ∈ tx_ws := List.mem_filter.mpr ⟨List.mem_append_right _ (List.mem_append_right _ (List.mem_append_right _ (List.mem_append_right _ (List.mem_append_left _ (List.mem_of_getElem? (i := 112) rfl))))), rfl⟩
theorem tw_4_114 : Jvm.Cond.instanceMethod ({ cls := "TamedClassSetModel", name := "fitsTypes", desc := "(I)Z" } : Jvm.MethodName) ∈ tx_ws := List.mem_filter.mpr ⟨List.mem_append_right _ (List.mem_append_right _ (List.mem_append_right _ (List.mem_append_right _ (List.mem_append_left _ (List.mem_of_getElem? (i := 114) rfl))))), rfl⟩
theorem tw_4_115 : Jvm.Cond.code ({ cls := "TamedClassSetModel", name := "fitsTypes", desc := "(I)Z" } : Jvm.MethodName) prog_9_method_34_code (7 : Nat) (Option.some Jvm.ClassFile.FieldType.boolean) ∈ tx_ws := List.mem_filter.mpr ⟨List.mem_append_right _ (List.mem_append_right _ (List.mem_append_right _ (List.mem_append_right _ (List.mem_append_left _ (List.mem_of_getElem? (i := 115) rfl))))), rfl⟩
theorem tw_4_116 : Jvm.Cond.methodLink "TamedClassSetModel" (175 : Nat) ({ cls := "TamedClassSetModel", name := "led", desc := "(III)Z" } : Jvm.MethodName) ∈ tx_ws := List.mem_filter.mpr ⟨List.mem_append_right _ (List.mem_append_right _ (List.mem_append_right _ (List.mem_append_right _ (List.mem_append_left _ (List.mem_of_getElem? (i := 116) rfl))))), rfl⟩
theorem tw_4_118 : Jvm.Cond.instanceMethod ({ cls := "TamedClassSetModel", name := "led", desc := "(III)Z" } : Jvm.MethodName) ∈ tx_ws := List.mem_filter.mpr ⟨List.mem_append_right _ (List.mem_append_right _ (List.mem_append_right _ (List.mem_append_right _ (List.mem_append_left _ (List.mem_of_getElem? (i := 118) rfl))))), rfl⟩
theorem tw_4_119 : Jvm.Cond.code ({ cls := "TamedClassSetModel", name := "led", desc := "(III)Z" } : Jvm.MethodName) prog_9_method_32_code (5 : Nat) (Option.some Jvm.ClassFile.FieldType.boolean) ∈ tx_ws := List.mem_filter.mpr ⟨List.mem_append_right _ (List.mem_append_right _ (List.mem_append_right _ (List.mem_append_right _ (List.mem_append_left _ (List.mem_of_getElem? (i := 119) rfl))))), rfl⟩
theorem tw_4_120 : Jvm.Cond.methodLink "TamedClassSetModel" (179 : Nat) ({ cls := "TamedClassSetModel", name := "onward", desc := "(II)Z" } : Jvm.MethodName) ∈ tx_ws := List.mem_filter.mpr ⟨List.mem_append_right _ (List.mem_append_right _ (List.mem_append_right _ (List.mem_append_right _ (List.mem_append_left _ (List.mem_of_getElem? (i := 120) rfl))))), rfl⟩
theorem tw_4_122 : Jvm.Cond.instanceMethod ({ cls := "TamedClassSetModel", name := "onward", desc := "(II)Z" } : Jvm.MethodName) ∈ tx_ws := List.mem_filter.mpr ⟨List.mem_append_right _ (List.mem_append_right _ (List.mem_append_right _ (List.mem_append_right _ (List.mem_append_left _ (List.mem_of_getElem? (i := 122) rfl))))), rfl⟩
theorem tw_4_123 : Jvm.Cond.code ({ cls := "TamedClassSetModel", name := "onward", desc := "(II)Z" } : Jvm.MethodName) prog_9_method_33_code (6 : Nat) (Option.some Jvm.ClassFile.FieldType.boolean) ∈ tx_ws := List.mem_filter.mpr ⟨List.mem_append_right _ (List.mem_append_right _ (List.mem_append_right _ (List.mem_append_right _ (List.mem_append_left _ (List.mem_of_getElem? (i := 123) rfl))))), rfl⟩
theorem tw_4_124 : Jvm.Cond.methodLink "TamedClassSetModel" (172 : Nat) ({ cls := "TamedClassSetModel", name := "after", desc := "(II)I" } : Jvm.MethodName) ∈ tx_ws := List.mem_filter.mpr ⟨List.mem_append_right _ (List.mem_append_right _ (List.mem_append_right _ (List.mem_append_right _ (List.mem_append_left _ (List.mem_of_getElem? (i := 124) rfl))))), rfl⟩
theorem tw_4_126 : Jvm.Cond.instanceMethod ({ cls := "TamedClassSetModel", name := "after", desc := "(II)I" } : Jvm.MethodName) ∈ tx_ws := List.mem_filter.mpr ⟨List.mem_append_right _ (List.mem_append_right _ (List.mem_append_right _ (List.mem_append_right _ (List.mem_append_left _ (List.mem_of_getElem? (i := 126) rfl))))), rfl⟩
theorem tw_4_127 : Jvm.Cond.code ({ cls := "TamedClassSetModel", name := "after", desc := "(II)I" } : Jvm.MethodName) prog_9_method_31_code (6 : Nat) (Option.some Jvm.ClassFile.FieldType.int) ∈ tx_ws := List.mem_filter.mpr ⟨List.mem_append_right _ (List.mem_append_right _ (List.mem_append_right _ (List.mem_append_right _ (List.mem_append_left _ (List.mem_of_getElem? (i := 127) rfl))))), rfl⟩
theorem tw_4_128 : Jvm.Cond.methodLink "TamedClassSetModel" (137 : Nat) ({ cls := "TamedClassSetModel", name := "give", desc := "(II)I" } : Jvm.MethodName) ∈ tx_ws := List.mem_filter.mpr ⟨List.mem_append_right _ (List.mem_append_right _ (List.mem_append_right _ (List.mem_append_right _ (List.mem_append_left _ (List.mem_of_getElem? (i := 128) rfl))))), rfl⟩
theorem tw_4_129 : Jvm.Cond.static ({ cls := "TamedClassSetModel", name := "give", desc := "(II)I" } : Jvm.MethodName) ∈ tx_ws := List.mem_filter.mpr ⟨List.mem_append_right _ (List.mem_append_right _ (List.mem_append_right _ (List.mem_append_right _ (List.mem_append_left _ (List.mem_of_getElem? (i := 129) rfl))))), rfl⟩
theorem tw_4_130 : Jvm.Cond.code ({ cls := "TamedClassSetModel", name := "give", desc := "(II)I" } : Jvm.MethodName) prog_9_method_25_code (3 : Nat) (Option.some Jvm.ClassFile.FieldType.int) ∈ tx_ws := List.mem_filter.mpr ⟨List.mem_append_right _ (List.mem_append_right _ (List.mem_append_right _ (List.mem_append_right _ (List.mem_append_left _ (List.mem_of_getElem? (i := 130) rfl))))), rfl⟩
theorem tw_4_131 : Jvm.Cond.methodLink "TamedClassSetModel" (124 : Nat) ({ cls := "TamedClassSetModel", name := "depth", desc := "(I)I" } : Jvm.MethodName) ∈ tx_ws := List.mem_filter.mpr ⟨List.mem_append_right _ (List.mem_append_right _ (List.mem_append_right _ (List.mem_append_right _ (List.mem_append_left _ (List.mem_of_getElem? (i := 131) rfl))))), rfl⟩
theorem tw_4_132 : Jvm.Cond.static ({ cls := "TamedClassSetModel", name := "depth", desc := "(I)I" } : Jvm.MethodName) ∈ tx_ws := List.mem_filter.mpr ⟨List.mem_append_right _ (List.mem_append_right _ (List.mem_append_right _ (List.mem_append_right _ (List.mem_append_left _ (List.mem_of_getElem? (i := 132) rfl))))), rfl⟩
theorem tw_4_133 : Jvm.Cond.code ({ cls := "TamedClassSetModel", name := "depth", desc := "(I)I" } : Jvm.MethodName) prog_9_method_20_code (2 : Nat) (Option.some Jvm.ClassFile.FieldType.int) ∈ tx_ws := List.mem_filter.mpr ⟨List.mem_append_right _ (List.mem_append_right _ (List.mem_append_right _ (List.mem_append_right _ (List.mem_append_left _ (List.mem_of_getElem? (i := 133) rfl))))), rfl⟩
theorem tw_4_134 : Jvm.Cond.methodLink "TamedClassSetModel" (150 : Nat) ({ cls := "TamedClassSetModel", name := "loaded", desc := "(II)I" } : Jvm.MethodName) ∈ tx_ws := List.mem_filter.mpr ⟨List.mem_append_right _ (List.mem_append_right _ (List.mem_append_right _ (List.mem_append_right _ (List.mem_append_left _ (List.mem_of_getElem? (i := 134) rfl))))), rfl⟩
theorem tw_4_136 : Jvm.Cond.instanceMethod ({ cls := "TamedClassSetModel", name := "loaded", desc := "(II)I" } : Jvm.MethodName) ∈ tx_ws := List.mem_filter.mpr ⟨List.mem_append_right _ (List.mem_append_right _ (List.mem_append_right _ (List.mem_append_right _ (List.mem_append_left _ (List.mem_of_getElem? (i := 136) rfl))))), rfl⟩
theorem tw_4_137 : Jvm.Cond.code ({ cls := "TamedClassSetModel", name := "loaded", desc := "(II)I" } : Jvm.MethodName) prog_9_method_26_code (4 : Nat) (Option.some Jvm.ClassFile.FieldType.int) ∈ tx_ws := List.mem_filter.mpr ⟨List.mem_append_right _ (List.mem_append_right _ (List.mem_append_right _ (List.mem_append_right _ (List.mem_append_left _ (List.mem_of_getElem? (i := 137) rfl))))), rfl⟩
theorem tw_4_138 : Jvm.Cond.methodLink "TamedClassSetModel" (153 : Nat) ({ cls := "TamedClassSetModel", name := "stored", desc := "(II)I" } : Jvm.MethodName) ∈ tx_ws := List.mem_filter.mpr ⟨List.mem_append_right _ (List.mem_append_right _ (List.mem_append_right _ (List.mem_append_right _ (List.mem_append_left _ (List.mem_of_getElem? (i := 138) rfl))))), rfl⟩
theorem tw_4_140 : Jvm.Cond.instanceMethod ({ cls := "TamedClassSetModel", name := "stored", desc := "(II)I" } : Jvm.MethodName) ∈ tx_ws := List.mem_filter.mpr ⟨List.mem_append_right _ (List.mem_append_right _ (List.mem_append_right _ (List.mem_append_right _ (List.mem_append_left _ (List.mem_of_getElem? (i := 140) rfl))))), rfl⟩
theorem tw_4_141 : Jvm.Cond.code ({ cls := "TamedClassSetModel", name := "stored", desc := "(II)I" } : Jvm.MethodName) prog_9_method_27_code (5 : Nat) (Option.some Jvm.ClassFile.FieldType.int) ∈ tx_ws := List.mem_filter.mpr ⟨List.mem_append_right _ (List.mem_append_right _ (List.mem_append_right _ (List.mem_append_right _ (List.mem_append_left _ (List.mem_of_getElem? (i := 141) rfl))))), rfl⟩
theorem tw_4_142 : Jvm.Cond.methodLink "TamedClassSetModel" (128 : Nat) ({ cls := "TamedClassSetModel", name := "typeAt", desc := "(II)I" } : Jvm.MethodName) ∈ tx_ws := List.mem_filter.mpr ⟨List.mem_append_right _ (List.mem_append_right _ (List.mem_append_right _ (List.mem_append_right _ (List.mem_append_left _ (List.mem_of_getElem? (i := 142) rfl))))), rfl⟩
theorem tw_4_143 : Jvm.Cond.static ({ cls := "TamedClassSetModel", name := "typeAt", desc := "(II)I" } : Jvm.MethodName) ∈ tx_ws := List.mem_filter.mpr ⟨List.mem_append_right _ (List.mem_append_right _ (List.mem_append_right _ (List.mem_append_right _ (List.mem_append_left _ (List.mem_of_getElem? (i := 143) rfl))))), rfl⟩
theorem tw_4_144 : Jvm.Cond.code ({ cls := "TamedClassSetModel", name := "typeAt", desc := "(II)I" } : Jvm.MethodName) prog_9_method_21_code (3 : Nat) (Option.some Jvm.ClassFile.FieldType.int) ∈ tx_ws := List.mem_filter.mpr ⟨List.mem_append_right _ (List.mem_append_right _ (List.mem_append_right _ (List.mem_append_right _ (List.mem_append_left _ (List.mem_of_getElem? (i := 144) rfl))))), rfl⟩
theorem tw_4_145 : Jvm.Cond.methodLink "TamedClassSetModel" (134 : Nat) ({ cls := "TamedClassSetModel", name := "drop", desc := "(I)I" } : Jvm.MethodName) ∈ tx_ws := List.mem_filter.mpr ⟨List.mem_append_right _ (List.mem_append_right _ (List.mem_append_right _ (List.mem_append_right _ (List.mem_append_left _ (List.mem_of_getElem? (i := 145) rfl))))), rfl⟩
theorem tw_4_146 : Jvm.Cond.static ({ cls := "TamedClassSetModel", name := "drop", desc := "(I)I" } : Jvm.MethodName) ∈ tx_ws := List.mem_filter.mpr ⟨List.mem_append_right _ (List.mem_append_right _ (List.mem_append_right _ (List.mem_append_right _ (List.mem_append_left _ (List.mem_of_getElem? (i := 146) rfl))))), rfl⟩
theorem tw_4_147 : Jvm.Cond.code ({ cls := "TamedClassSetModel", name := "drop", desc := "(I)I" } : Jvm.MethodName) prog_9_method_22_code (2 : Nat) (Option.some Jvm.ClassFile.FieldType.int) ∈ tx_ws := List.mem_filter.mpr ⟨List.mem_append_right _ (List.mem_append_right _ (List.mem_append_right _ (List.mem_append_right _ (List.mem_append_left _ (List.mem_of_getElem? (i := 147) rfl))))), rfl⟩
theorem tw_4_148 : Jvm.Cond.methodLink "TamedClassSetModel" (143 : Nat) ({ cls := "TamedClassSetModel", name := "take", desc := "(II)I" } : Jvm.MethodName) ∈ tx_ws := List.mem_filter.mpr ⟨List.mem_append_right _ (List.mem_append_right _ (List.mem_append_right _ (List.mem_append_right _ (List.mem_append_left _ (List.mem_of_getElem? (i := 148) rfl))))), rfl⟩
theorem tw_4_150 : Jvm.Cond.instanceMethod ({ cls := "TamedClassSetModel", name := "take", desc := "(II)I" } : Jvm.MethodName) ∈ tx_ws := List.mem_filter.mpr ⟨List.mem_append_right _ (List.mem_append_right _ (List.mem_append_right _ (List.mem_append_right _ (List.mem_append_left _ (List.mem_of_getElem? (i := 150) rfl))))), rfl⟩
theorem tw_4_151 : Jvm.Cond.code ({ cls := "TamedClassSetModel", name := "take", desc := "(II)I" } : Jvm.MethodName) prog_9_method_23_code (4 : Nat) (Option.some Jvm.ClassFile.FieldType.int) ∈ tx_ws := List.mem_filter.mpr ⟨List.mem_append_right _ (List.mem_append_right _ (List.mem_append_right _ (List.mem_append_right _ (List.mem_append_left _ (List.mem_of_getElem? (i := 151) rfl))))), rfl⟩
theorem tw_4_152 : Jvm.Cond.methodLink "TamedClassSetModel" (131 : Nat) ({ cls := "TamedClassSetModel", name := "fits", desc := "(II)Z" } : Jvm.MethodName) ∈ tx_ws := List.mem_filter.mpr ⟨List.mem_append_right _ (List.mem_append_right _ (List.mem_append_right _ (List.mem_append_right _ (List.mem_append_left _ (List.mem_of_getElem? (i := 152) rfl))))), rfl⟩
theorem tw_4_154 : Jvm.Cond.instanceMethod ({ cls := "TamedClassSetModel", name := "fits", desc := "(II)Z" } : Jvm.MethodName) ∈ tx_ws := List.mem_filter.mpr ⟨List.mem_append_right _ (List.mem_append_right _ (List.mem_append_right _ (List.mem_append_right _ (List.mem_append_left _ (List.mem_of_getElem? (i := 154) rfl))))), rfl⟩
theorem tw_4_155 : Jvm.Cond.code ({ cls := "TamedClassSetModel", name := "fits", desc := "(II)Z" } : Jvm.MethodName) prog_9_method_15_code (3 : Nat) (Option.some Jvm.ClassFile.FieldType.boolean) ∈ tx_ws := List.mem_filter.mpr ⟨List.mem_append_right _ (List.mem_append_right _ (List.mem_append_right _ (List.mem_append_right _ (List.mem_append_left _ (List.mem_of_getElem? (i := 155) rfl))))), rfl⟩
theorem tw_4_156 : Jvm.Cond.methodLink "TamedClassSetModel" (156 : Nat) ({ cls := "TamedClassSetModel", name := "makes", desc := "(II)I" } : Jvm.MethodName) ∈ tx_ws := List.mem_filter.mpr ⟨List.mem_append_right _ (List.mem_append_right _ (List.mem_append_right _ (List.mem_append_right _ (List.mem_append_left _ (List.mem_of_getElem? (i := 156) rfl))))), rfl⟩
theorem tw_4_158 : Jvm.Cond.instanceMethod ({ cls := "TamedClassSetModel", name := "makes", desc := "(II)I" } : Jvm.MethodName) ∈ tx_ws := List.mem_filter.mpr ⟨List.mem_append_right _ (List.mem_append_right _ (List.mem_append_right _ (List.mem_append_right _ (List.mem_append_left _ (List.mem_of_getElem? (i := 158) rfl))))), rfl⟩
theorem tw_4_159 : Jvm.Cond.code ({ cls := "TamedClassSetModel", name := "makes", desc := "(II)I" } : Jvm.MethodName) prog_9_method_28_code (5 : Nat) (Option.some Jvm.ClassFile.FieldType.int) ∈ tx_ws := List.mem_filter.mpr ⟨List.mem_append_right _ (List.mem_append_right _ (List.mem_append_right _ (List.mem_append_right _ (List.mem_append_left _ (List.mem_of_getElem? (i := 159) rfl))))), rfl⟩
theorem tw_4_160 : Jvm.Cond.methodLink "TamedClassSetModel" (159 : Nat) ({ cls := "TamedClassSetModel", name := "fielded", desc := "(III)I" } : Jvm.MethodName) ∈ tx_ws := List.mem_filter.mpr ⟨List.mem_append_right _ (List.mem_append_right _ (List.mem_append_right _ (List.mem_append_right _ (List.mem_append_left _ (List.mem_of_getElem? (i := 160) rfl))))), rfl⟩
theorem tw_4_162 : Jvm.Cond.instanceMethod ({ cls := "TamedClassSetModel", name := "fielded", desc := "(III)I" } : Jvm.MethodName) ∈ tx_ws := List.mem_filter.mpr ⟨List.mem_append_right _ (List.mem_append_right _ (List.mem_append_right _ (List.mem_append_right _ (List.mem_append_left _ (List.mem_of_getElem? (i := 162) rfl))))), rfl⟩
theorem tw_4_163 : Jvm.Cond.code ({ cls := "TamedClassSetModel", name := "fielded", desc := "(III)I" } : Jvm.MethodName) prog_9_method_30_code (6 : Nat) (Option.some Jvm.ClassFile.FieldType.int) ∈ tx_ws := List.mem_filter.mpr ⟨List.mem_append_right _ (List.mem_append_right _ (List.mem_append_right _ (List.mem_append_right _ (List.mem_append_left _ (List.mem_of_getElem? (i := 163) rfl))))), rfl⟩
theorem tw_4_164 : Jvm.Cond.methodLink "TamedClassSetModel" (146 : Nat) ({ cls := "TamedClassSetModel", name := "isField", desc := "(IZ)Z" } : Jvm.MethodName) ∈ tx_ws := List.mem_filter.mpr ⟨List.mem_append_right _ (List.mem_append_right _ (List.mem_append_right _ (List.mem_append_right _ (List.mem_append_left _ (List.mem_of_getElem? (i := 164) rfl))))), rfl⟩
theorem tw_4_166 : Jvm.Cond.instanceMethod ({ cls := "TamedClassSetModel", name := "isField", desc := "(IZ)Z" } : Jvm.MethodName) ∈ tx_ws := List.mem_filter.mpr ⟨List.mem_append_right _ (List.mem_append_right _ (List.mem_append_right _ (List.mem_append_right _ (List.mem_append_left _ (List.mem_of_getElem? (i := 166) rfl))))), rfl⟩
theorem tw_4_167 : Jvm.Cond.code ({ cls := "TamedClassSetModel", name := "isField", desc := "(IZ)Z" } : Jvm.MethodName) prog_9_method_19_code (3 : Nat) (Option.some Jvm.ClassFile.FieldType.boolean) ∈ tx_ws := List.mem_filter.mpr ⟨List.mem_append_right _ (List.mem_append_right _ (List.mem_append_right _ (List.mem_append_right _ (List.mem_append_left _ (List.mem_of_getElem? (i := 167) rfl))))), rfl⟩
theorem tw_4_168 : Jvm.Cond.methodLink "TamedClassSetModel" (163 : Nat) ({ cls := "TamedClassSetModel", name := "calls", desc := "(II)I" } : Jvm.MethodName) ∈ tx_ws := List.mem_filter.mpr ⟨List.mem_append_right _ (List.mem_append_right _ (List.mem_append_right _ (List.mem_append_right _ (List.mem_append_left _ (List.mem_of_getElem? (i := 168) rfl))))), rfl⟩
theorem tw_4_170 : Jvm.Cond.instanceMethod ({ cls := "TamedClassSetModel", name := "calls", desc := "(II)I" } : Jvm.MethodName) ∈ tx_ws := List.mem_filter.mpr ⟨List.mem_append_right _ (List.mem_append_right _ (List.mem_append_right _ (List.mem_append_right _ (List.mem_append_left _ (List.mem_of_getElem? (i := 170) rfl))))), rfl⟩
theorem tw_4_171 : Jvm.Cond.code ({ cls := "TamedClassSetModel", name := "calls", desc := "(II)I" } : Jvm.MethodName) prog_9_method_29_code (4 : Nat) (Option.some Jvm.ClassFile.FieldType.int) ∈ tx_ws := List.mem_filter.mpr ⟨List.mem_append_right _ (List.mem_append_right _ (List.mem_append_right _ (List.mem_append_right _ (List.mem_append_left _ (List.mem_of_getElem? (i := 171) rfl))))), rfl⟩
theorem tw_4_172 : Jvm.Cond.methodLink "TamedClassSetModel" (166 : Nat) ({ cls := "TamedClassSetModel", name := "takeThing", desc := "(I)I" } : Jvm.MethodName) ∈ tx_ws := List.mem_filter.mpr ⟨List.mem_append_right _ (List.mem_append_right _ (List.mem_append_right _ (List.mem_append_right _ (List.mem_append_left _ (List.mem_of_getElem? (i := 172) rfl))))), rfl⟩
theorem tw_4_174 : Jvm.Cond.instanceMethod ({ cls := "TamedClassSetModel", name := "takeThing", desc := "(I)I" } : Jvm.MethodName) ∈ tx_ws := List.mem_filter.mpr ⟨List.mem_append_right _ (List.mem_append_right _ (List.mem_append_right _ (List.mem_append_right _ (List.mem_append_left _ (List.mem_of_getElem? (i := 174) rfl))))), rfl⟩
theorem tw_4_175 : Jvm.Cond.code ({ cls := "TamedClassSetModel", name := "takeThing", desc := "(I)I" } : Jvm.MethodName) prog_9_method_24_code (2 : Nat) (Option.some Jvm.ClassFile.FieldType.int) ∈ tx_ws := List.mem_filter.mpr ⟨List.mem_append_right _ (List.mem_append_right _ (List.mem_append_right _ (List.mem_append_right _ (List.mem_append_left _ (List.mem_of_getElem? (i := 175) rfl))))), rfl⟩
theorem tw_4_176 : Jvm.Cond.methodLink "TamedClassSetModel" (203 : Nat) ({ cls := "TamedClassSetModel", name := "wild", desc := "(II)Z" } : Jvm.MethodName) ∈ tx_ws := List.mem_filter.mpr ⟨List.mem_append_right _ (List.mem_append_right _ (List.mem_append_right _ (List.mem_append_right _ (List.mem_append_left _ (List.mem_of_getElem? (i := 176) rfl))))), rfl⟩
theorem tw_4_178 : Jvm.Cond.instanceMethod ({ cls := "TamedClassSetModel", name := "wild", desc := "(II)Z" } : Jvm.MethodName) ∈ tx_ws := List.mem_filter.mpr ⟨List.mem_append_right _ (List.mem_append_right _ (List.mem_append_right _ (List.mem_append_right _ (List.mem_append_left _ (List.mem_of_getElem? (i := 178) rfl))))), rfl⟩
theorem tw_4_179 : Jvm.Cond.code ({ cls := "TamedClassSetModel", name := "wild", desc := "(II)Z" } : Jvm.MethodName) prog_9_method_38_code (5 : Nat) (Option.some Jvm.ClassFile.FieldType.boolean) ∈ tx_ws := List.mem_filter.mpr ⟨List.mem_append_right _ (List.mem_append_right _ (List.mem_append_right _ (List.mem_append_right _ (List.mem_append_left _ (List.mem_of_getElem? (i := 179) rfl))))), rfl⟩
theorem tw_4_181 : Jvm.Cond.instanceMethod ({ cls := "TamedClassSetModel", name := "typesAt", desc := "(II)I" } : Jvm.MethodName) ∈ tx_ws := List.mem_filter.mpr ⟨List.mem_append_right _ (List.mem_append_right _ (List.mem_append_right _ (List.mem_append_right _ (List.mem_append_left _ (List.mem_of_getElem? (i := 181) rfl))))), rfl⟩
theorem tw_4_182 : Jvm.Cond.selects "TamedClassSetModel" ({ cls := "TamedClassSetModel", name := "typesAt", desc := "(II)I" } : Jvm.MethodName) ({ cls := "TamedClassSetModel", name := "typesAt", desc := "(II)I" } : Jvm.MethodName) ∈ tx_ws := List.mem_filter.mpr ⟨List.mem_append_right _ (List.mem_append_right _ (List.mem_append_right _ (List.mem_append_right _ (List.mem_append_left _ (List.mem_of_getElem? (i := 182) rfl))))), rfl⟩
theorem tw_4_183 : Jvm.Cond.code ({ cls := "TamedClassSetModel", name := "typesAt", desc := "(II)I" } : Jvm.MethodName) prog_9_method_41_code (3 : Nat) (Option.some Jvm.ClassFile.FieldType.int) ∈ tx_ws := List.mem_filter.mpr ⟨List.mem_append_right _ (List.mem_append_right _ (List.mem_append_right _ (List.mem_append_right _ (List.mem_append_left _ (List.mem_of_getElem? (i := 183) rfl))))), rfl⟩
theorem tw_4_185 : Jvm.Cond.instanceMethod ({ cls := "TamedClassSetModel", name := "run", desc := "(III)J" } : Jvm.MethodName) ∈ tx_ws := List.mem_filter.mpr ⟨List.mem_append_right _ (List.mem_append_right _ (List.mem_append_right _ (List.mem_append_right _ (List.mem_append_left _ (List.mem_of_getElem? (i := 185) rfl))))), rfl⟩
theorem tw_4_186 : Jvm.Cond.selects "TamedClassSetModel" ({ cls := "TamedClassSetModel", name := "run", desc := "(III)J" } : Jvm.MethodName) ({ cls := "TamedClassSetModel", name := "run", desc := "(III)J" } : Jvm.MethodName) ∈ tx_ws := List.mem_filter.mpr ⟨List.mem_append_right _ (List.mem_append_right _ (List.mem_append_right _ (List.mem_append_right _ (List.mem_append_left _ (List.mem_of_getElem? (i := 186) rfl))))), rfl⟩
theorem tw_4_187 : Jvm.Cond.code ({ cls := "TamedClassSetModel", name := "run", desc := "(III)J" } : Jvm.MethodName) prog_9_method_57_code (7 : Nat) (Option.some Jvm.ClassFile.FieldType.long) ∈ tx_ws := List.mem_filter.mpr ⟨List.mem_append_right _ (List.mem_append_right _ (List.mem_append_right _ (List.mem_append_right _ (List.mem_append_left _ (List.mem_of_getElem? (i := 187) rfl))))), rfl⟩
theorem tw_4_188 : Jvm.Cond.methodLink "TamedClassSetModel" (270 : Nat) ({ cls := "TamedClassSetModel", name := "refuses", desc := "(III)Z" } : Jvm.MethodName) ∈ tx_ws := List.mem_filter.mpr ⟨List.mem_append_right _ (List.mem_append_right _ (List.mem_append_right _ (List.mem_append_right _ (List.mem_append_left _ (List.mem_of_getElem? (i := 188) rfl))))), rfl⟩
theorem tw_4_190 : Jvm.Cond.instanceMethod ({ cls := "TamedClassSetModel", name := "refuses", desc := "(III)Z" } : Jvm.MethodName) ∈ tx_ws := List.mem_filter.mpr ⟨List.mem_append_right _ (List.mem_append_right _ (List.mem_append_right _ (List.mem_append_right _ (List.mem_append_left _ (List.mem_of_getElem? (i := 190) rfl))))), rfl⟩
theorem tw_4_191 : Jvm.Cond.code ({ cls := "TamedClassSetModel", name := "refuses", desc := "(III)Z" } : Jvm.MethodName) prog_9_method_56_code (5 : Nat) (Option.some Jvm.ClassFile.FieldType.boolean) ∈ tx_ws := List.mem_filter.mpr ⟨List.mem_append_right _ (List.mem_append_right _ (List.mem_append_right _ (List.mem_append_right _ (List.mem_append_left _ (List.mem_of_getElem? (i := 191) rfl))))), rfl⟩
theorem tw_4_192 : Jvm.Cond.methodLink "TamedClassSetModel" (267 : Nat) ({ cls := "TamedClassSetModel", name := "holds", desc := "(I)Z" } : Jvm.MethodName) ∈ tx_ws := List.mem_filter.mpr ⟨List.mem_append_right _ (List.mem_append_right _ (List.mem_append_right _ (List.mem_append_right _ (List.mem_append_left _ (List.mem_of_getElem? (i := 192) rfl))))), rfl⟩
theorem tw_4_194 : Jvm.Cond.instanceMethod ({ cls := "TamedClassSetModel", name := "holds", desc := "(I)Z" } : Jvm.MethodName) ∈ tx_ws := List.mem_filter.mpr ⟨List.mem_append_right _ (List.mem_append_right _ (List.mem_append_right _ (List.mem_append_right _ (List.mem_append_left _ (List.mem_of_getElem? (i := 194) rfl))))), rfl⟩
theorem tw_4_195 : Jvm.Cond.code ({ cls := "TamedClassSetModel", name := "holds", desc := "(I)Z" } : Jvm.MethodName) prog_9_method_54_code (2 : Nat) (Option.some Jvm.ClassFile.FieldType.boolean) ∈ tx_ws := List.mem_filter.mpr ⟨List.mem_append_right _ (List.mem_append_right _ (List.mem_append_right _ (List.mem_append_right _ (List.mem_append_left _ (List.mem_of_getElem? (i := 195) rfl))))), rfl⟩
theorem tw_4_196 : Jvm.Cond.constantLong "TamedClassSetModel" (273 : Nat) (68719476736 : Int64) ∈ tx_ws := List.mem_filter.mpr ⟨List.mem_append_right _ (List.mem_append_right _ (List.mem_append_right _ (List.mem_append_right _ (List.mem_append_left _ (List.mem_of_getElem? (i := 196) rfl))))), rfl⟩
theorem tw_4_197 : Jvm.Cond.methodLink "TamedClassSetModel" (216 : Nat) ({ cls := "TamedClassSetModel", name := "chosen", desc := "(II)I" } : Jvm.MethodName) ∈ tx_ws := List.mem_filter.mpr ⟨List.mem_append_right _ (List.mem_append_right _ (List.mem_append_right _ (List.mem_append_right _ (List.mem_append_left _ (List.mem_of_getElem? (i := 197) rfl))))), rfl⟩
theorem tw_4_199 : Jvm.Cond.instanceMethod ({ cls := "TamedClassSetModel", name := "chosen", desc := "(II)I" } : Jvm.MethodName) ∈ tx_ws := List.mem_filter.mpr ⟨List.mem_append_right _ (List.mem_append_right _ (List.mem_append_right _ (List.mem_append_right _ (List.mem_append_left _ (List.mem_of_getElem? (i := 199) rfl))))), rfl⟩
theorem tw_4_200 : Jvm.Cond.code ({ cls := "TamedClassSetModel", name := "chosen", desc := "(II)I" } : Jvm.MethodName) prog_9_method_44_code (6 : Nat) (Option.some Jvm.ClassFile.FieldType.int) ∈ tx_ws := List.mem_filter.mpr ⟨List.mem_append_right _ (List.mem_append_right _ (List.mem_append_right _ (List.mem_append_right _ (List.mem_append_left _ (List.mem_of_getElem? (i := 200) rfl))))), rfl⟩
theorem tw_4_201 : Jvm.Cond.methodLink "TamedClassSetModel" (219 : Nat) ({ cls := "TamedClassSetModel", name := "enter", desc := "(III)V" } : Jvm.MethodName) ∈ tx_ws := List.mem_filter.mpr ⟨List.mem_append_right _ (List.mem_append_right _ (List.mem_append_right _ (List.mem_append_right _ (List.mem_append_left _ (List.mem_of_getElem? (i := 201) rfl))))), rfl⟩
theorem tw_4_203 : Jvm.Cond.instanceMethod ({ cls := "TamedClassSetModel", name := "enter", desc := "(III)V" } : Jvm.MethodName) ∈ tx_ws := List.mem_filter.mpr ⟨List.mem_append_right _ (List.mem_append_right _ (List.mem_append_right _ (List.mem_append_right _ (List.mem_append_left _ (List.mem_of_getElem? (i := 203) rfl))))), rfl⟩
theorem tw_4_204 : Jvm.Cond.code ({ cls := "TamedClassSetModel", name := "enter", desc := "(III)V" } : Jvm.MethodName) prog_9_method_45_code (5 : Nat) (Option.none : Option Jvm.ClassFile.FieldType) ∈ tx_ws := List.mem_filter.mpr ⟨List.mem_append_right _ (List.mem_append_right _ (List.mem_append_right _ (List.mem_append_right _ (List.mem_append_left _ (List.mem_of_getElem? (i := 204) rfl))))), rfl⟩
theorem tw_4_205 : Jvm.Cond.constantLong "TamedClassSetModel" (275 : Nat) (17179869186 : Int64) ∈ tx_ws := List.mem_filter.mpr ⟨List.mem_append_right _ (List.mem_append_right _ (List.mem_append_right _ (List.mem_append_right _ (List.mem_append_left _ (List.mem_of_getElem? (i := 205) rfl))))), rfl⟩
theorem tw_4_206 : Jvm.Cond.methodLink "TamedClassSetModel" (277 : Nat) ({ cls := "TamedClassSetModel", name := "once", desc := "()I" } : Jvm.MethodName) ∈ tx_ws := List.mem_filter.mpr ⟨List.mem_append_right _ (List.mem_append_right _ (List.mem_append_right _ (List.mem_append_right _ (List.mem_append_left _ (List.mem_of_getElem? (i := 206) rfl))))), rfl⟩
theorem tw_4_208 : Jvm.Cond.instanceMethod ({ cls := "TamedClassSetModel", name := "once", desc := "()I" } : Jvm.MethodName) ∈ tx_ws := List.mem_filter.mpr ⟨List.mem_append_right _ (List.mem_append_right _ (List.mem_append_right _ (List.mem_append_right _ (List.mem_append_left _ (List.mem_of_getElem? (i := 208) rfl))))), rfl⟩
theorem tw_4_209 : Jvm.Cond.code ({ cls := "TamedClassSetModel", name := "once", desc := "()I" } : Jvm.MethodName) prog_9_method_53_code (6 : Nat) (Option.some Jvm.ClassFile.FieldType.int) ∈ tx_ws := List.mem_filter.mpr ⟨List.mem_append_right _ (List.mem_append_right _ (List.mem_append_right _ (List.mem_append_right _ (List.mem_append_left _ (List.mem_of_getElem? (i := 209) rfl))))), rfl⟩
theorem tw_4_210 : Jvm.Cond.methodLink "TamedClassSetModel" (239 : Nat) ({ cls := "TamedClassSetModel", name := "make", desc := "(I)I" } : Jvm.MethodName) ∈ tx_ws := List.mem_filter.mpr ⟨List.mem_append_right _ (List.mem_append_right _ (List.mem_append_right _ (List.mem_append_right _ (List.mem_append_left _ (List.mem_of_getElem? (i := 210) rfl))))), rfl⟩
theorem tw_4_212 : Jvm.Cond.instanceMethod ({ cls := "TamedClassSetModel", name := "make", desc := "(I)I" } : Jvm.MethodName) ∈ tx_ws := List.mem_filter.mpr ⟨List.mem_append_right _ (List.mem_append_right _ (List.mem_append_right _ (List.mem_append_right _ (List.mem_append_left _ (List.mem_of_getElem? (i := 212) rfl))))), rfl⟩
theorem tw_4_213 : Jvm.Cond.code ({ cls := "TamedClassSetModel", name := "make", desc := "(I)I" } : Jvm.MethodName) prog_9_method_47_code (3 : Nat) (Option.some Jvm.ClassFile.FieldType.int) ∈ tx_ws := List.mem_filter.mpr ⟨List.mem_append_right _ (List.mem_append_right _ (List.mem_append_right _ (List.mem_append_right _ (List.mem_append_left _ (List.mem_of_getElem? (i := 213) rfl))))), rfl⟩
theorem tw_4_214 : Jvm.Cond.methodLink "TamedClassSetModel" (213 : Nat) ({ cls := "TamedClassSetModel", name := "pop", desc := "()I" } : Jvm.MethodName) ∈ tx_ws := List.mem_filter.mpr ⟨List.mem_append_right _ (List.mem_append_right _ (List.mem_append_right _ (List.mem_append_right _ (List.mem_append_left _ (List.mem_of_getElem? (i := 214) rfl))))), rfl⟩
theorem tw_4_216 : Jvm.Cond.instanceMethod ({ cls := "TamedClassSetModel", name := "pop", desc := "()I" } : Jvm.MethodName) ∈ tx_ws := List.mem_filter.mpr ⟨List.mem_append_right _ (List.mem_append_right _ (List.mem_append_right _ (List.mem_append_right _ (List.mem_append_left _ (List.mem_of_getElem? (i := 216) rfl))))), rfl⟩
theorem tw_4_217 : Jvm.Cond.code ({ cls := "TamedClassSetModel", name := "pop", desc := "()I" } : Jvm.MethodName) prog_9_method_43_code (2 : Nat) (Option.some Jvm.ClassFile.FieldType.int) ∈ tx_ws := List.mem_filter.mpr ⟨List.mem_append_right _ (List.mem_append_right _ (List.mem_append_right _ (List.mem_append_right _ (List.mem_append_left _ (List.mem_of_getElem? (i := 217) rfl))))), rfl⟩
theorem tw_4_218 : Jvm.Cond.methodLink "TamedClassSetModel" (229 : Nat) ({ cls := "TamedClassSetModel", name := "push", desc := "(I)V" } : Jvm.MethodName) ∈ tx_ws := List.mem_filter.mpr ⟨List.mem_append_right _ (List.mem_append_right _ (List.mem_append_right _ (List.mem_append_right _ (List.mem_append_left _ (List.mem_of_getElem? (i := 218) rfl))))), rfl⟩
theorem tw_4_220 : Jvm.Cond.instanceMethod ({ cls := "TamedClassSetModel", name := "push", desc := "(I)V" } : Jvm.MethodName) ∈ tx_ws := List.mem_filter.mpr ⟨List.mem_append_right _ (List.mem_append_right _ (List.mem_append_right _ (List.mem_append_right _ (List.mem_append_left _ (List.mem_of_getElem? (i := 220) rfl))))), rfl⟩
theorem tw_4_221 : Jvm.Cond.code ({ cls := "TamedClassSetModel", name := "push", desc := "(I)V" } : Jvm.MethodName) prog_9_method_42_code (3 : Nat) (Option.none : Option Jvm.ClassFile.FieldType) ∈ tx_ws := List.mem_filter.mpr ⟨List.mem_append_right _ (List.mem_append_right _ (List.mem_append_right _ (List.mem_append_right _ (List.mem_append_left _ (List.mem_of_getElem? (i := 221) rfl))))), rfl⟩
theorem tw_4_222 : Jvm.Cond.methodLink "TamedClassSetModel" (242 : Nat) ({ cls := "TamedClassSetModel", name := "slotted", desc := "(ZI)I" } : Jvm.MethodName) ∈ tx_ws := List.mem_filter.mpr ⟨List.mem_append_right _ (List.mem_append_right _ (List.mem_append_right _ (List.mem_append_right _ (List.mem_append_left _ (List.mem_of_getElem? (i := 222) rfl))))), rfl⟩
theorem tw_4_224 : Jvm.Cond.instanceMethod ({ cls := "TamedClassSetModel", name := "slotted", desc := "(ZI)I" } : Jvm.MethodName) ∈ tx_ws := List.mem_filter.mpr ⟨List.mem_append_right _ (List.mem_append_right _ (List.mem_append_right _ (List.mem_append_right _ (List.mem_append_left _ (List.mem_of_getElem? (i := 224) rfl))))), rfl⟩
theorem tw_4_225 : Jvm.Cond.code ({ cls := "TamedClassSetModel", name := "slotted", desc := "(ZI)I" } : Jvm.MethodName) prog_9_method_48_code (6 : Nat) (Option.some Jvm.ClassFile.FieldType.int) ∈ tx_ws := List.mem_filter.mpr ⟨List.mem_append_right _ (List.mem_append_right _ (List.mem_append_right _ (List.mem_append_right _ (List.mem_append_left _ (List.mem_of_getElem? (i := 225) rfl))))), rfl⟩
theorem tw_4_226 : Jvm.Cond.methodLink "TamedClassSetModel" (246 : Nat) ({ cls := "TamedClassSetModel", name := "call", desc := "(I)I" } : Jvm.MethodName) ∈ tx_ws := List.mem_filter.mpr ⟨List.mem_append_right _ (List.mem_append_right _ (List.mem_append_right _ (List.mem_append_right _ (List.mem_append_left _ (List.mem_of_getElem? (i := 226) rfl))))), rfl⟩
theorem tw_4_228 : Jvm.Cond.instanceMethod ({ cls := "TamedClassSetModel", name := "call", desc := "(I)I" } : Jvm.MethodName) ∈ tx_ws := List.mem_filter.mpr ⟨List.mem_append_right _ (List.mem_append_right _ (List.mem_append_right _ (List.mem_append_right _ (List.mem_append_left _ (List.mem_of_getElem? (i := 228) rfl))))), rfl⟩
theorem tw_4_229 : Jvm.Cond.code ({ cls := "TamedClassSetModel", name := "call", desc := "(I)I" } : Jvm.MethodName) prog_9_method_46_code (4 : Nat) (Option.some Jvm.ClassFile.FieldType.int) ∈ tx_ws := List.mem_filter.mpr ⟨List.mem_append_right _ (List.mem_append_right _ (List.mem_append_right _ (List.mem_append_right _ (List.mem_append_left _ (List.mem_of_getElem? (i := 229) rfl))))), rfl⟩
theorem tw_4_230 : Jvm.Cond.methodLink "TamedClassSetModel" (249 : Nat) ({ cls := "TamedClassSetModel", name := "sum", desc := "(I)V" } : Jvm.MethodName) ∈ tx_ws := List.mem_filter.mpr ⟨List.mem_append_right _ (List.mem_append_right _ (List.mem_append_right _ (List.mem_append_right _ (List.mem_append_left _ (List.mem_of_getElem? (i := 230) rfl))))), rfl⟩
theorem tw_4_232 : Jvm.Cond.instanceMethod ({ cls := "TamedClassSetModel", name := "sum", desc := "(I)V" } : Jvm.MethodName) ∈ tx_ws := List.mem_filter.mpr ⟨List.mem_append_right _ (List.mem_append_right _ (List.mem_append_right _ (List.mem_append_right _ (List.mem_append_left _ (List.mem_of_getElem? (i := 232) rfl))))), rfl⟩
theorem tw_4_233 : Jvm.Cond.code ({ cls := "TamedClassSetModel", name := "sum", desc := "(I)V" } : Jvm.MethodName) prog_9_method_50_code (4 : Nat) (Option.none : Option Jvm.ClassFile.FieldType) ∈ tx_ws := List.mem_filter.mpr ⟨List.mem_append_right _ (List.mem_append_right _ (List.mem_append_right _ (List.mem_append_right _ (List.mem_append_left _ (List.mem_of_getElem? (i := 233) rfl))))), rfl⟩
theorem tw_4_234 : Jvm.Cond.methodLink "TamedClassSetModel" (252 : Nat) ({ cls := "TamedClassSetModel", name := "library", desc := "(I)V" } : Jvm.MethodName) ∈ tx_ws := List.mem_filter.mpr ⟨List.mem_append_right _ (List.mem_append_right _ (List.mem_append_right _ (List.mem_append_right _ (List.mem_append_left _ (List.mem_of_getElem? (i := 234) rfl))))), rfl⟩
theorem tw_4_236 : Jvm.Cond.instanceMethod ({ cls := "TamedClassSetModel", name := "library", desc := "(I)V" } : Jvm.MethodName) ∈ tx_ws := List.mem_filter.mpr ⟨List.mem_append_right _ (List.mem_append_right _ (List.mem_append_right _ (List.mem_append_right _ (List.mem_append_left _ (List.mem_of_getElem? (i := 236) rfl))))), rfl⟩
theorem tw_4_237 : Jvm.Cond.code ({ cls := "TamedClassSetModel", name := "library", desc := "(I)V" } : Jvm.MethodName) prog_9_method_51_code (3 : Nat) (Option.none : Option Jvm.ClassFile.FieldType) ∈ tx_ws := List.mem_filter.mpr ⟨List.mem_append_right _ (List.mem_append_right _ (List.mem_append_right _ (List.mem_append_right _ (List.mem_append_left _ (List.mem_of_getElem? (i := 237) rfl))))), rfl⟩
theorem tw_4_238 : Jvm.Cond.methodLink "TamedClassSetModel" (233 : Nat) ({ cls := "TamedClassSetModel", name := "bits", desc := "(I)I" } : Jvm.MethodName) ∈ tx_ws := List.mem_filter.mpr ⟨List.mem_append_right _ (List.mem_append_right _ (List.mem_append_right _ (List.mem_append_right _ (List.mem_append_left _ (List.mem_of_getElem? (i := 238) rfl))))), rfl⟩
theorem tw_4_239 : Jvm.Cond.static ({ cls := "TamedClassSetModel", name := "bits", desc := "(I)I" } : Jvm.MethodName) ∈ tx_ws := List.mem_filter.mpr ⟨List.mem_append_right _ (List.mem_append_right _ (List.mem_append_right _ (List.mem_append_right _ (List.mem_append_left _ (List.mem_of_getElem? (i := 239) rfl))))), rfl⟩
theorem tw_5_0 : Jvm.Cond.code ({ cls := "TamedClassSetModel", name := "bits", desc := "(I)I" } : Jvm.MethodName) prog_9_method_49_code (3 : Nat) (Option.some Jvm.ClassFile.FieldType.int) ∈ tx_ws := List.mem_filter.mpr ⟨List.mem_append_right _ (List.mem_append_right _ (List.mem_append_right _ (List.mem_append_right _ (List.mem_append_right _ (List.mem_of_getElem? (i := 0) rfl))))), rfl⟩
theorem tw_5_1 : Jvm.Cond.methodLink "TamedClassSetModel" (255 : Nat) ({ cls := "TamedClassSetModel", name := "back", desc := "()V" } : Jvm.MethodName) ∈ tx_ws := List.mem_filter.mpr ⟨List.mem_append_right _ (List.mem_append_right _ (List.mem_append_right _ (List.mem_append_right _ (List.mem_append_right _ (List.mem_of_getElem? (i := 1) rfl))))), rfl⟩
theorem tw_5_3 : Jvm.Cond.instanceMethod ({ cls := "TamedClassSetModel", name := "back", desc := "()V" } : Jvm.MethodName) ∈ tx_ws := List.mem_filter.mpr ⟨List.mem_append_right _ (List.mem_append_right _ (List.mem_append_right _ (List.mem_append_right _ (List.mem_append_right _ (List.mem_of_getElem? (i := 3) rfl))))), rfl⟩
theorem tw_5_4 : Jvm.Cond.code ({ cls := "TamedClassSetModel", name := "back", desc := "()V" } : Jvm.MethodName) prog_9_method_52_code (2 : Nat) (Option.none : Option Jvm.ClassFile.FieldType) ∈ tx_ws := List.mem_filter.mpr ⟨List.mem_append_right _ (List.mem_append_right _ (List.mem_append_right _ (List.mem_append_right _ (List.mem_append_right _ (List.mem_of_getElem? (i := 4) rfl))))), rfl⟩
theorem tw_5_5 : Jvm.Cond.constantLong "TamedClassSetModel" (280 : Nat) (17179869184 : Int64) ∈ tx_ws := List.mem_filter.mpr ⟨List.mem_append_right _ (List.mem_append_right _ (List.mem_append_right _ (List.mem_append_right _ (List.mem_append_right _ (List.mem_of_getElem? (i := 5) rfl))))), rfl⟩
theorem tw_5_6 : Jvm.Cond.methodLink "TamedClassSetModel" (282 : Nat) ({ cls := "TamedClassSetModel", name := "shown", desc := "(I)J" } : Jvm.MethodName) ∈ tx_ws := List.mem_filter.mpr ⟨List.mem_append_right _ (List.mem_append_right _ (List.mem_append_right _ (List.mem_append_right _ (List.mem_append_right _ (List.mem_of_getElem? (i := 6) rfl))))), rfl⟩
theorem tw_5_8 : Jvm.Cond.instanceMethod ({ cls := "TamedClassSetModel", name := "shown", desc := "(I)J" } : Jvm.MethodName) ∈ tx_ws := List.mem_filter.mpr ⟨List.mem_append_right _ (List.mem_append_right _ (List.mem_append_right _ (List.mem_append_right _ (List.mem_append_right _ (List.mem_of_getElem? (i := 8) rfl))))), rfl⟩
theorem tw_5_9 : Jvm.Cond.code ({ cls := "TamedClassSetModel", name := "shown", desc := "(I)J" } : Jvm.MethodName) prog_9_method_55_code (3 : Nat) (Option.some Jvm.ClassFile.FieldType.long) ∈ tx_ws := List.mem_filter.mpr ⟨List.mem_append_right _ (List.mem_append_right _ (List.mem_append_right _ (List.mem_append_right _ (List.mem_append_right _ (List.mem_of_getElem? (i := 9) rfl))))), rfl⟩
theorem tw_5_10 : Jvm.Cond.constantLong "TamedClassSetModel" (258 : Nat) (4294967296 : Int64) ∈ tx_ws := List.mem_filter.mpr ⟨List.mem_append_right _ (List.mem_append_right _ (List.mem_append_right _ (List.mem_append_right _ (List.mem_append_right _ (List.mem_of_getElem? (i := 10) rfl))))), rfl⟩
theorem tw_5_11 : Jvm.Cond.constantLong "TamedClassSetModel" (260 : Nat) (8589934592 : Int64) ∈ tx_ws := List.mem_filter.mpr ⟨List.mem_append_right _ (List.mem_append_right _ (List.mem_append_right _ (List.mem_append_right _ (List.mem_append_right _ (List.mem_of_getElem? (i := 11) rfl))))), rfl⟩
theorem tw_5_12 : Jvm.Cond.constantLong "TamedClassSetModel" (262 : Nat) (34359738368 : Int64) ∈ tx_ws := List.mem_filter.mpr ⟨List.mem_append_right _ (List.mem_append_right _ (List.mem_append_right _ (List.mem_append_right _ (List.mem_append_right _ (List.mem_of_getElem? (i := 12) rfl))))), rfl⟩
theorem tw_5_14 : Jvm.Cond.instanceMethod ({ cls := "TamedClassSetModel", name := "look", desc := "(II)J" } : Jvm.MethodName) ∈ tx_ws := List.mem_filter.mpr ⟨List.mem_append_right _ (List.mem_append_right _ (List.mem_append_right _ (List.mem_append_right _ (List.mem_append_right _ (List.mem_of_getElem? (i := 14) rfl))))), rfl⟩
theorem tw_5_15 : Jvm.Cond.selects "TamedClassSetModel" ({ cls := "TamedClassSetModel", name := "look", desc := "(II)J" } : Jvm.MethodName) ({ cls := "TamedClassSetModel", name := "look", desc := "(II)J" } : Jvm.MethodName) ∈ tx_ws := List.mem_filter.mpr ⟨List.mem_append_right _ (List.mem_append_right _ (List.mem_append_right _ (List.mem_append_right _ (List.mem_append_right _ (List.mem_of_getElem? (i := 15) rfl))))), rfl⟩
theorem tw_5_16 : Jvm.Cond.code ({ cls := "TamedClassSetModel", name := "look", desc := "(II)J" } : Jvm.MethodName) prog_9_method_58_code (6 : Nat) (Option.some Jvm.ClassFile.FieldType.long) ∈ tx_ws := List.mem_filter.mpr ⟨List.mem_append_right _ (List.mem_append_right _ (List.mem_append_right _ (List.mem_append_right _ (List.mem_append_right _ (List.mem_of_getElem? (i := 16) rfl))))), rfl⟩
theorem tw_5_18 : Jvm.Cond.instanceMethod ({ cls := "TamedClassSetModel", name := "held", desc := "(I)I" } : Jvm.MethodName) ∈ tx_ws := List.mem_filter.mpr ⟨List.mem_append_right _ (List.mem_append_right _ (List.mem_append_right _ (List.mem_append_right _ (List.mem_append_right _ (List.mem_of_getElem? (i := 18) rfl))))), rfl⟩
theorem tw_5_19 : Jvm.Cond.selects "TamedClassSetModel" ({ cls := "TamedClassSetModel", name := "held", desc := "(I)I" } : Jvm.MethodName) ({ cls := "TamedClassSetModel", name := "held", desc := "(I)I" } : Jvm.MethodName) ∈ tx_ws := List.mem_filter.mpr ⟨List.mem_append_right _ (List.mem_append_right _ (List.mem_append_right _ (List.mem_append_right _ (List.mem_append_right _ (List.mem_of_getElem? (i := 19) rfl))))), rfl⟩
theorem tw_5_20 : Jvm.Cond.code ({ cls := "TamedClassSetModel", name := "held", desc := "(I)I" } : Jvm.MethodName) prog_9_method_59_code (2 : Nat) (Option.some Jvm.ClassFile.FieldType.int) ∈ tx_ws := List.mem_filter.mpr ⟨List.mem_append_right _ (List.mem_append_right _ (List.mem_append_right _ (List.mem_append_right _ (List.mem_append_right _ (List.mem_of_getElem? (i := 20) rfl))))), rfl⟩
theorem tw_5_22 : Jvm.Cond.instanceMethod ({ cls := "TamedClassSetModel", name := "runs", desc := "()I" } : Jvm.MethodName) ∈ tx_ws := List.mem_filter.mpr ⟨List.mem_append_right _ (List.mem_append_right _ (List.mem_append_right _ (List.mem_append_right _ (List.mem_append_right _ (List.mem_of_getElem? (i := 22) rfl))))), rfl⟩
theorem tw_5_23 : Jvm.Cond.selects "TamedClassSetModel" ({ cls := "TamedClassSetModel", name := "runs", desc := "()I" } : Jvm.MethodName) ({ cls := "TamedClassSetModel", name := "runs", desc := "()I" } : Jvm.MethodName) ∈ tx_ws := List.mem_filter.mpr ⟨List.mem_append_right _ (List.mem_append_right _ (List.mem_append_right _ (List.mem_append_right _ (List.mem_append_right _ (List.mem_of_getElem? (i := 23) rfl))))), rfl⟩
theorem tw_5_24 : Jvm.Cond.code ({ cls := "TamedClassSetModel", name := "runs", desc := "()I" } : Jvm.MethodName) prog_9_method_60_code (1 : Nat) (Option.some Jvm.ClassFile.FieldType.int) ∈ tx_ws := List.mem_filter.mpr ⟨List.mem_append_right _ (List.mem_append_right _ (List.mem_append_right _ (List.mem_append_right _ (List.mem_append_right _ (List.mem_of_getElem? (i := 24) rfl))))), rfl⟩
theorem tw_5_26 : Jvm.Cond.instanceMethod ({ cls := "TamedClassSetModel", name := "steps", desc := "()I" } : Jvm.MethodName) ∈ tx_ws := List.mem_filter.mpr ⟨List.mem_append_right _ (List.mem_append_right _ (List.mem_append_right _ (List.mem_append_right _ (List.mem_append_right _ (List.mem_of_getElem? (i := 26) rfl))))), rfl⟩
theorem tw_5_27 : Jvm.Cond.selects "TamedClassSetModel" ({ cls := "TamedClassSetModel", name := "steps", desc := "()I" } : Jvm.MethodName) ({ cls := "TamedClassSetModel", name := "steps", desc := "()I" } : Jvm.MethodName) ∈ tx_ws := List.mem_filter.mpr ⟨List.mem_append_right _ (List.mem_append_right _ (List.mem_append_right _ (List.mem_append_right _ (List.mem_append_right _ (List.mem_of_getElem? (i := 27) rfl))))), rfl⟩
theorem tw_5_28 : Jvm.Cond.code ({ cls := "TamedClassSetModel", name := "steps", desc := "()I" } : Jvm.MethodName) prog_9_method_61_code (1 : Nat) (Option.some Jvm.ClassFile.FieldType.int) ∈ tx_ws := List.mem_filter.mpr ⟨List.mem_append_right _ (List.mem_append_right _ (List.mem_append_right _ (List.mem_append_right _ (List.mem_append_right _ (List.mem_of_getElem? (i := 28) rfl))))), rfl⟩
theorem tw_p_0 : Cond.selects "TamedClassSet$Rules" (⟨"TamedClassSet$Rules", "changesForAll", "(I)Z"⟩ : MethodName) (⟨"TamedClassSet$Rules", "changesForAll", "(I)Z"⟩ : MethodName) ∈ tx_ws := List.mem_filter.mpr ⟨List.mem_append_left _ (List.mem_of_getElem? (i := 0) rfl), rfl⟩
theorem tw_p_1 : Cond.selects "TamedClassSet$Rules" (⟨"TamedClassSet$Rules", "changesImmutable", "(I)Z"⟩ : MethodName) (⟨"TamedClassSet$Rules", "changesImmutable", "(I)Z"⟩ : MethodName) ∈ tx_ws := List.mem_filter.mpr ⟨List.mem_append_left _ (List.mem_of_getElem? (i := 1) rfl), rfl⟩
theorem tw_p_2 : Cond.selects "TamedClassSet$Rules" (⟨"TamedClassSet$Rules", "overridesBadly", "(I)Z"⟩ : MethodName) (⟨"TamedClassSet$Rules", "overridesBadly", "(I)Z"⟩ : MethodName) ∈ tx_ws := List.mem_filter.mpr ⟨List.mem_append_left _ (List.mem_of_getElem? (i := 2) rfl), rfl⟩
theorem tw_p_3 : Cond.selects "TamedClassSet$Rules" (⟨"TamedClassSet$Rules", "agree", "(II)Z"⟩ : MethodName) (⟨"TamedClassSet$Rules", "agree", "(II)Z"⟩ : MethodName) ∈ tx_ws := List.mem_filter.mpr ⟨List.mem_append_left _ (List.mem_of_getElem? (i := 3) rfl), rfl⟩
theorem tw_p_4 : Cond.selects "TamedClassSet$Fitting" (⟨"TamedClassSet$Fitting", "begin", "(I)V"⟩ : MethodName) (⟨"TamedClassSet$Fitting", "begin", "(I)V"⟩ : MethodName) ∈ tx_ws := List.mem_filter.mpr ⟨List.mem_append_left _ (List.mem_of_getElem? (i := 4) rfl), rfl⟩
theorem tw_p_5 : Cond.selects "TamedClassSet$Fitting" (⟨"TamedClassSet$Fitting", "arriveAt", "(I)V"⟩ : MethodName) (⟨"TamedClassSet$Fitting", "arriveAt", "(I)V"⟩ : MethodName) ∈ tx_ws := List.mem_filter.mpr ⟨List.mem_append_left _ (List.mem_of_getElem? (i := 5) rfl), rfl⟩
theorem tw_p_6 : Cond.selects "TamedClassSet$Fitting" (⟨"TamedClassSet$Fitting", "packed", "()I"⟩ : MethodName) (⟨"TamedClassSet$Fitting", "packed", "()I"⟩ : MethodName) ∈ tx_ws := List.mem_filter.mpr ⟨List.mem_append_left _ (List.mem_of_getElem? (i := 6) rfl), rfl⟩
theorem tw_p_7 : Cond.selects "TamedClassSet$Fitting" (⟨"TamedClassSet$Fitting", "unpack", "(I)V"⟩ : MethodName) (⟨"TamedClassSet$Fitting", "unpack", "(I)V"⟩ : MethodName) ∈ tx_ws := List.mem_filter.mpr ⟨List.mem_append_left _ (List.mem_of_getElem? (i := 7) rfl), rfl⟩
theorem tw_p_8 : Cond.selects "TamedClassSet$Fitting" (⟨"TamedClassSet$Fitting", "apply", "(II)V"⟩ : MethodName) (⟨"TamedClassSet$Fitting", "apply", "(II)V"⟩ : MethodName) ∈ tx_ws := List.mem_filter.mpr ⟨List.mem_append_left _ (List.mem_of_getElem? (i := 8) rfl), rfl⟩
theorem tw_p_9 : Cond.selects "TamedClassSet$Fitting" (⟨"TamedClassSet$Fitting", "put", "(I)V"⟩ : MethodName) (⟨"TamedClassSet$Fitting", "put", "(I)V"⟩ : MethodName) ∈ tx_ws := List.mem_filter.mpr ⟨List.mem_append_left _ (List.mem_of_getElem? (i := 9) rfl), rfl⟩
theorem tw_p_10 : Cond.selects "TamedClassSet$Fitting" (⟨"TamedClassSet$Fitting", "load", "(I)V"⟩ : MethodName) (⟨"TamedClassSet$Fitting", "load", "(I)V"⟩ : MethodName) ∈ tx_ws := List.mem_filter.mpr ⟨List.mem_append_left _ (List.mem_of_getElem? (i := 10) rfl), rfl⟩
theorem tw_p_11 : Cond.selects "TamedClassSet$Fitting" (⟨"TamedClassSet$Fitting", "demand", "(Z)V"⟩ : MethodName) (⟨"TamedClassSet$Fitting", "demand", "(Z)V"⟩ : MethodName) ∈ tx_ws := List.mem_filter.mpr ⟨List.mem_append_left _ (List.mem_of_getElem? (i := 11) rfl), rfl⟩
theorem tw_p_12 : Cond.selects "TamedClassSet$Fitting" (⟨"TamedClassSet$Fitting", "store", "(I)V"⟩ : MethodName) (⟨"TamedClassSet$Fitting", "store", "(I)V"⟩ : MethodName) ∈ tx_ws := List.mem_filter.mpr ⟨List.mem_append_left _ (List.mem_of_getElem? (i := 12) rfl), rfl⟩
theorem tw_p_13 : Cond.selects "TamedClassSet$Fitting" (⟨"TamedClassSet$Fitting", "takeAny", "()I"⟩ : MethodName) (⟨"TamedClassSet$Fitting", "takeAny", "()I"⟩ : MethodName) ∈ tx_ws := List.mem_filter.mpr ⟨List.mem_append_left _ (List.mem_of_getElem? (i := 13) rfl), rfl⟩
theorem tw_p_14 : Cond.selects "TamedClassSet$Fitting" (⟨"TamedClassSet$Fitting", "take", "(I)V"⟩ : MethodName) (⟨"TamedClassSet$Fitting", "take", "(I)V"⟩ : MethodName) ∈ tx_ws := List.mem_filter.mpr ⟨List.mem_append_left _ (List.mem_of_getElem? (i := 14) rfl), rfl⟩
theorem tw_p_15 : Cond.selects "TamedClassSet$Fitting" (⟨"TamedClassSet$Fitting", "make", "(I)V"⟩ : MethodName) (⟨"TamedClassSet$Fitting", "make", "(I)V"⟩ : MethodName) ∈ tx_ws := List.mem_filter.mpr ⟨List.mem_append_left _ (List.mem_of_getElem? (i := 15) rfl), rfl⟩
theorem tw_p_16 : Cond.selects "TamedClassSet$Fitting" (⟨"TamedClassSet$Fitting", "useField", "(II)V"⟩ : MethodName) (⟨"TamedClassSet$Fitting", "useField", "(II)V"⟩ : MethodName) ∈ tx_ws := List.mem_filter.mpr ⟨List.mem_append_left _ (List.mem_of_getElem? (i := 16) rfl), rfl⟩
theorem tw_p_17 : Cond.selects "TamedClassSet$Fitting" (⟨"TamedClassSet$Fitting", "useStaticField", "(II)V"⟩ : MethodName) (⟨"TamedClassSet$Fitting", "useStaticField", "(II)V"⟩ : MethodName) ∈ tx_ws := List.mem_filter.mpr ⟨List.mem_append_left _ (List.mem_of_getElem? (i := 17) rfl), rfl⟩
theorem tw_p_18 : Cond.selects "TamedClassSet$Fitting" (⟨"TamedClassSet$Fitting", "callMethod", "(I)V"⟩ : MethodName) (⟨"TamedClassSet$Fitting", "callMethod", "(I)V"⟩ : MethodName) ∈ tx_ws := List.mem_filter.mpr ⟨List.mem_append_left _ (List.mem_of_getElem? (i := 18) rfl), rfl⟩
theorem tw_p_19 : Cond.selects "TamedClassSet$Fitting" (⟨"TamedClassSet$Fitting", "takeReference", "()V"⟩ : MethodName) (⟨"TamedClassSet$Fitting", "takeReference", "()V"⟩ : MethodName) ∈ tx_ws := List.mem_filter.mpr ⟨List.mem_append_left _ (List.mem_of_getElem? (i := 19) rfl), rfl⟩
theorem tw_p_20 : Cond.selects "TamedClassSet$Fitting" (⟨"TamedClassSet$Fitting", "putClass", "(I)V"⟩ : MethodName) (⟨"TamedClassSet$Fitting", "putClass", "(I)V"⟩ : MethodName) ∈ tx_ws := List.mem_filter.mpr ⟨List.mem_append_left _ (List.mem_of_getElem? (i := 20) rfl), rfl⟩
theorem tw_p_21 : Cond.selects "TamedClassSet$Fitting" (⟨"TamedClassSet$Fitting", "leave", "(III)V"⟩ : MethodName) (⟨"TamedClassSet$Fitting", "leave", "(III)V"⟩ : MethodName) ∈ tx_ws := List.mem_filter.mpr ⟨List.mem_append_left _ (List.mem_of_getElem? (i := 21) rfl), rfl⟩
theorem tw_p_22 : Cond.selects "TamedClassSet$Rules" (⟨"TamedClassSet$Rules", "breaks", "(III)Z"⟩ : MethodName) (⟨"TamedClassSet$Rules", "breaks", "(III)Z"⟩ : MethodName) ∈ tx_ws := List.mem_filter.mpr ⟨List.mem_append_left _ (List.mem_of_getElem? (i := 22) rfl), rfl⟩
theorem tw_p_23 : Cond.selects "TamedClassSet" (⟨"TamedClassSet", "receiverFits", "(II)Z"⟩ : MethodName) (⟨"TamedClassSet", "receiverFits", "(II)Z"⟩ : MethodName) ∈ tx_ws := List.mem_filter.mpr ⟨List.mem_append_left _ (List.mem_of_getElem? (i := 23) rfl), rfl⟩
theorem tw_p_24 : Cond.selects "TamedClassSet" (⟨"TamedClassSet", "argumentFits", "(II)Z"⟩ : MethodName) (⟨"TamedClassSet", "argumentFits", "(II)Z"⟩ : MethodName) ∈ tx_ws := List.mem_filter.mpr ⟨List.mem_append_left _ (List.mem_of_getElem? (i := 24) rfl), rfl⟩
theorem tw_p_25 : Cond.selects "TamedClassSet$Machine" (⟨"TamedClassSet$Machine", "enter", "(III)V"⟩ : MethodName) (⟨"TamedClassSet$Machine", "enter", "(III)V"⟩ : MethodName) ∈ tx_ws := List.mem_filter.mpr ⟨List.mem_append_left _ (List.mem_of_getElem? (i := 25) rfl), rfl⟩
theorem tw_p_26 : Cond.selects "TamedClassSet$Machine" (⟨"TamedClassSet$Machine", "step", "(LTamedClassSet$Frame;)I"⟩ : MethodName) (⟨"TamedClassSet$Machine", "step", "(LTamedClassSet$Frame;)I"⟩ : MethodName) ∈ tx_ws := List.mem_filter.mpr ⟨List.mem_append_left _ (List.mem_of_getElem? (i := 26) rfl), rfl⟩
theorem tw_p_27 : Cond.selects "TamedClassSet$Machine" (⟨"TamedClassSet$Machine", "combine", "(LTamedClassSet$Frame;I)I"⟩ : MethodName) (⟨"TamedClassSet$Machine", "combine", "(LTamedClassSet$Frame;I)I"⟩ : MethodName) ∈ tx_ws := List.mem_filter.mpr ⟨List.mem_append_left _ (List.mem_of_getElem? (i := 27) rfl), rfl⟩
theorem tw_p_28 : Cond.selects "TamedClassSet$Machine" (⟨"TamedClassSet$Machine", "make", "(LTamedClassSet$Frame;I)I"⟩ : MethodName) (⟨"TamedClassSet$Machine", "make", "(LTamedClassSet$Frame;I)I"⟩ : MethodName) ∈ tx_ws := List.mem_filter.mpr ⟨List.mem_append_left _ (List.mem_of_getElem? (i := 28) rfl), rfl⟩
theorem tw_p_29 : Cond.selects "TamedClassSet$Machine" (⟨"TamedClassSet$Machine", "useField", "(LTamedClassSet$Frame;II)I"⟩ : MethodName) (⟨"TamedClassSet$Machine", "useField", "(LTamedClassSet$Frame;II)I"⟩ : MethodName) ∈ tx_ws := List.mem_filter.mpr ⟨List.mem_append_left _ (List.mem_of_getElem? (i := 29) rfl), rfl⟩
theorem tw_p_30 : Cond.selects "TamedClassSet$Machine" (⟨"TamedClassSet$Machine", "callMethod", "(LTamedClassSet$Frame;I)I"⟩ : MethodName) (⟨"TamedClassSet$Machine", "callMethod", "(LTamedClassSet$Frame;I)I"⟩ : MethodName) ∈ tx_ws := List.mem_filter.mpr ⟨List.mem_append_left _ (List.mem_of_getElem? (i := 30) rfl), rfl⟩
theorem tw_p_31 : Cond.selects "TamedClassSet$Machine" (⟨"TamedClassSet$Machine", "makeCell", "(LTamedClassSet$Frame;)I"⟩ : MethodName) (⟨"TamedClassSet$Machine", "makeCell", "(LTamedClassSet$Frame;)I"⟩ : MethodName) ∈ tx_ws := List.mem_filter.mpr ⟨List.mem_append_left _ (List.mem_of_getElem? (i := 31) rfl), rfl⟩
theorem tw_p_32 : Cond.selects "TamedClassSet$Machine" (⟨"TamedClassSet$Machine", "useCell", "(LTamedClassSet$Frame;I)I"⟩ : MethodName) (⟨"TamedClassSet$Machine", "useCell", "(LTamedClassSet$Frame;I)I"⟩ : MethodName) ∈ tx_ws := List.mem_filter.mpr ⟨List.mem_append_left _ (List.mem_of_getElem? (i := 32) rfl), rfl⟩
theorem tw_p_33 : Cond.selects "TamedClassSet$Machine" (⟨"TamedClassSet$Machine", "library", "(LTamedClassSet$Frame;I)I"⟩ : MethodName) (⟨"TamedClassSet$Machine", "library", "(LTamedClassSet$Frame;I)I"⟩ : MethodName) ∈ tx_ws := List.mem_filter.mpr ⟨List.mem_append_left _ (List.mem_of_getElem? (i := 33) rfl), rfl⟩
theorem tw_p_34 : Cond.selects "TamedClassSet$Machine" (⟨"TamedClassSet$Machine", "leave", "(LTamedClassSet$Frame;)I"⟩ : MethodName) (⟨"TamedClassSet$Machine", "leave", "(LTamedClassSet$Frame;)I"⟩ : MethodName) ∈ tx_ws := List.mem_filter.mpr ⟨List.mem_append_left _ (List.mem_of_getElem? (i := 34) rfl), rfl⟩
theorem tw_p_35 : Cond.selects "TamedClassSet" (⟨"TamedClassSet", "answerOf", "(II)J"⟩ : MethodName) (⟨"TamedClassSet", "answerOf", "(II)J"⟩ : MethodName) ∈ tx_ws := List.mem_filter.mpr ⟨List.mem_append_left _ (List.mem_of_getElem? (i := 35) rfl), rfl⟩
theorem tw_p_36 : Cond.selects "TamedClassSetModel" (⟨"TamedClassSetModel", "isClass", "(I)Z"⟩ : MethodName) (⟨"TamedClassSetModel", "isClass", "(I)Z"⟩ : MethodName) ∈ tx_ws := List.mem_filter.mpr ⟨List.mem_append_left _ (List.mem_of_getElem? (i := 36) rfl), rfl⟩
theorem tw_p_37 : Cond.selects "TamedClassSetModel" (⟨"TamedClassSetModel", "isType", "(I)Z"⟩ : MethodName) (⟨"TamedClassSetModel", "isType", "(I)Z"⟩ : MethodName) ∈ tx_ws := List.mem_filter.mpr ⟨List.mem_append_left _ (List.mem_of_getElem? (i := 37) rfl), rfl⟩
theorem tw_p_38 : Cond.selects "TamedClassSetModel" (⟨"TamedClassSetModel", "methodOf", "(II)I"⟩ : MethodName) (⟨"TamedClassSetModel", "methodOf", "(II)I"⟩ : MethodName) ∈ tx_ws := List.mem_filter.mpr ⟨List.mem_append_left _ (List.mem_of_getElem? (i := 38) rfl), rfl⟩
theorem tw_p_39 : Cond.selects "TamedClassSetModel" (⟨"TamedClassSetModel", "isMethod", "(I)Z"⟩ : MethodName) (⟨"TamedClassSetModel", "isMethod", "(I)Z"⟩ : MethodName) ∈ tx_ws := List.mem_filter.mpr ⟨List.mem_append_left _ (List.mem_of_getElem? (i := 39) rfl), rfl⟩
theorem tw_p_40 : Cond.selects "TamedClassSetModel" (⟨"TamedClassSetModel", "broken", "()I"⟩ : MethodName) (⟨"TamedClassSetModel", "broken", "()I"⟩ : MethodName) ∈ tx_ws := List.mem_filter.mpr ⟨List.mem_append_left _ (List.mem_of_getElem? (i := 40) rfl), rfl⟩
theorem tw_p_41 : Cond.selects "TamedClassSetModel" (⟨"TamedClassSetModel", "looseStatic", "(I)Z"⟩ : MethodName) (⟨"TamedClassSetModel", "looseStatic", "(I)Z"⟩ : MethodName) ∈ tx_ws := List.mem_filter.mpr ⟨List.mem_append_left _ (List.mem_of_getElem? (i := 41) rfl), rfl⟩
theorem tw_p_42 : Cond.selects "TamedClassSetModel" (⟨"TamedClassSetModel", "isStatic", "(I)Z"⟩ : MethodName) (⟨"TamedClassSetModel", "isStatic", "(I)Z"⟩ : MethodName) ∈ tx_ws := List.mem_filter.mpr ⟨List.mem_append_left _ (List.mem_of_getElem? (i := 42) rfl), rfl⟩
theorem tw_p_43 : Cond.selects "TamedClassSetModel" (⟨"TamedClassSetModel", "isFinal", "(I)Z"⟩ : MethodName) (⟨"TamedClassSetModel", "isFinal", "(I)Z"⟩ : MethodName) ∈ tx_ws := List.mem_filter.mpr ⟨List.mem_append_left _ (List.mem_of_getElem? (i := 43) rfl), rfl⟩
theorem tw_p_44 : Cond.selects "TamedClassSetModel" (⟨"TamedClassSetModel", "powerless", "(I)Z"⟩ : MethodName) (⟨"TamedClassSetModel", "powerless", "(I)Z"⟩ : MethodName) ∈ tx_ws := List.mem_filter.mpr ⟨List.mem_append_left _ (List.mem_of_getElem? (i := 44) rfl), rfl⟩
theorem tw_p_45 : Cond.selects "TamedClassSetModel" (⟨"TamedClassSetModel", "marked", "(II)Z"⟩ : MethodName) (⟨"TamedClassSetModel", "marked", "(II)Z"⟩ : MethodName) ∈ tx_ws := List.mem_filter.mpr ⟨List.mem_append_left _ (List.mem_of_getElem? (i := 45) rfl), rfl⟩
theorem tw_p_46 : Cond.selects "TamedClassSetModel" (⟨"TamedClassSetModel", "inLine", "(II)Z"⟩ : MethodName) (⟨"TamedClassSetModel", "inLine", "(II)Z"⟩ : MethodName) ∈ tx_ws := List.mem_filter.mpr ⟨List.mem_append_left _ (List.mem_of_getElem? (i := 46) rfl), rfl⟩
theorem tw_p_47 : Cond.selects "TamedClassSetModel" (⟨"TamedClassSetModel", "looseField", "(I)Z"⟩ : MethodName) (⟨"TamedClassSetModel", "looseField", "(I)Z"⟩ : MethodName) ∈ tx_ws := List.mem_filter.mpr ⟨List.mem_append_left _ (List.mem_of_getElem? (i := 47) rfl), rfl⟩
theorem tw_p_48 : Cond.selects "TamedClassSetModel" (⟨"TamedClassSetModel", "owns", "(II)Z"⟩ : MethodName) (⟨"TamedClassSetModel", "owns", "(II)Z"⟩ : MethodName) ∈ tx_ws := List.mem_filter.mpr ⟨List.mem_append_left _ (List.mem_of_getElem? (i := 48) rfl), rfl⟩
theorem tw_p_49 : Cond.selects "TamedClassSetModel" (⟨"TamedClassSetModel", "immutable", "(I)Z"⟩ : MethodName) (⟨"TamedClassSetModel", "immutable", "(I)Z"⟩ : MethodName) ∈ tx_ws := List.mem_filter.mpr ⟨List.mem_append_left _ (List.mem_of_getElem? (i := 49) rfl), rfl⟩
theorem tw_p_50 : Cond.selects "TamedClassSetModel" (⟨"TamedClassSetModel", "unlike", "(I)Z"⟩ : MethodName) (⟨"TamedClassSetModel", "unlike", "(I)Z"⟩ : MethodName) ∈ tx_ws := List.mem_filter.mpr ⟨List.mem_append_left _ (List.mem_of_getElem? (i := 50) rfl), rfl⟩
theorem tw_p_51 : Cond.selects "TamedClassSetModel" (⟨"TamedClassSetModel", "fitsTypes", "(I)Z"⟩ : MethodName) (⟨"TamedClassSetModel", "fitsTypes", "(I)Z"⟩ : MethodName) ∈ tx_ws := List.mem_filter.mpr ⟨List.mem_append_left _ (List.mem_of_getElem? (i := 51) rfl), rfl⟩
theorem tw_p_52 : Cond.selects "TamedClassSetModel" (⟨"TamedClassSetModel", "led", "(III)Z"⟩ : MethodName) (⟨"TamedClassSetModel", "led", "(III)Z"⟩ : MethodName) ∈ tx_ws := List.mem_filter.mpr ⟨List.mem_append_left _ (List.mem_of_getElem? (i := 52) rfl), rfl⟩
theorem tw_p_53 : Cond.selects "TamedClassSetModel" (⟨"TamedClassSetModel", "onward", "(II)Z"⟩ : MethodName) (⟨"TamedClassSetModel", "onward", "(II)Z"⟩ : MethodName) ∈ tx_ws := List.mem_filter.mpr ⟨List.mem_append_left _ (List.mem_of_getElem? (i := 53) rfl), rfl⟩
theorem tw_p_54 : Cond.selects "TamedClassSetModel" (⟨"TamedClassSetModel", "after", "(II)I"⟩ : MethodName) (⟨"TamedClassSetModel", "after", "(II)I"⟩ : MethodName) ∈ tx_ws := List.mem_filter.mpr ⟨List.mem_append_left _ (List.mem_of_getElem? (i := 54) rfl), rfl⟩
theorem tw_p_55 : Cond.selects "TamedClassSetModel" (⟨"TamedClassSetModel", "loaded", "(II)I"⟩ : MethodName) (⟨"TamedClassSetModel", "loaded", "(II)I"⟩ : MethodName) ∈ tx_ws := List.mem_filter.mpr ⟨List.mem_append_left _ (List.mem_of_getElem? (i := 55) rfl), rfl⟩
theorem tw_p_56 : Cond.selects "TamedClassSetModel" (⟨"TamedClassSetModel", "stored", "(II)I"⟩ : MethodName) (⟨"TamedClassSetModel", "stored", "(II)I"⟩ : MethodName) ∈ tx_ws := List.mem_filter.mpr ⟨List.mem_append_left _ (List.mem_of_getElem? (i := 56) rfl), rfl⟩
theorem tw_p_57 : Cond.selects "TamedClassSetModel" (⟨"TamedClassSetModel", "take", "(II)I"⟩ : MethodName) (⟨"TamedClassSetModel", "take", "(II)I"⟩ : MethodName) ∈ tx_ws := List.mem_filter.mpr ⟨List.mem_append_left _ (List.mem_of_getElem? (i := 57) rfl), rfl⟩
theorem tw_p_58 : Cond.selects "TamedClassSetModel" (⟨"TamedClassSetModel", "fits", "(II)Z"⟩ : MethodName) (⟨"TamedClassSetModel", "fits", "(II)Z"⟩ : MethodName) ∈ tx_ws := List.mem_filter.mpr ⟨List.mem_append_left _ (List.mem_of_getElem? (i := 58) rfl), rfl⟩
theorem tw_p_59 : Cond.selects "TamedClassSetModel" (⟨"TamedClassSetModel", "makes", "(II)I"⟩ : MethodName) (⟨"TamedClassSetModel", "makes", "(II)I"⟩ : MethodName) ∈ tx_ws := List.mem_filter.mpr ⟨List.mem_append_left _ (List.mem_of_getElem? (i := 59) rfl), rfl⟩
theorem tw_p_60 : Cond.selects "TamedClassSetModel" (⟨"TamedClassSetModel", "fielded", "(III)I"⟩ : MethodName) (⟨"TamedClassSetModel", "fielded", "(III)I"⟩ : MethodName) ∈ tx_ws := List.mem_filter.mpr ⟨List.mem_append_left _ (List.mem_of_getElem? (i := 60) rfl), rfl⟩
theorem tw_p_61 : Cond.selects "TamedClassSetModel" (⟨"TamedClassSetModel", "isField", "(IZ)Z"⟩ : MethodName) (⟨"TamedClassSetModel", "isField", "(IZ)Z"⟩ : MethodName) ∈ tx_ws := List.mem_filter.mpr ⟨List.mem_append_left _ (List.mem_of_getElem? (i := 61) rfl), rfl⟩
theorem tw_p_62 : Cond.selects "TamedClassSetModel" (⟨"TamedClassSetModel", "calls", "(II)I"⟩ : MethodName) (⟨"TamedClassSetModel", "calls", "(II)I"⟩ : MethodName) ∈ tx_ws := List.mem_filter.mpr ⟨List.mem_append_left _ (List.mem_of_getElem? (i := 62) rfl), rfl⟩
theorem tw_p_63 : Cond.selects "TamedClassSetModel" (⟨"TamedClassSetModel", "takeThing", "(I)I"⟩ : MethodName) (⟨"TamedClassSetModel", "takeThing", "(I)I"⟩ : MethodName) ∈ tx_ws := List.mem_filter.mpr ⟨List.mem_append_left _ (List.mem_of_getElem? (i := 63) rfl), rfl⟩
theorem tw_p_64 : Cond.selects "TamedClassSetModel" (⟨"TamedClassSetModel", "wild", "(II)Z"⟩ : MethodName) (⟨"TamedClassSetModel", "wild", "(II)Z"⟩ : MethodName) ∈ tx_ws := List.mem_filter.mpr ⟨List.mem_append_left _ (List.mem_of_getElem? (i := 64) rfl), rfl⟩
theorem tw_p_65 : Cond.selects "TamedClassSetModel" (⟨"TamedClassSetModel", "refuses", "(III)Z"⟩ : MethodName) (⟨"TamedClassSetModel", "refuses", "(III)Z"⟩ : MethodName) ∈ tx_ws := List.mem_filter.mpr ⟨List.mem_append_left _ (List.mem_of_getElem? (i := 65) rfl), rfl⟩
theorem tw_p_66 : Cond.selects "TamedClassSetModel" (⟨"TamedClassSetModel", "holds", "(I)Z"⟩ : MethodName) (⟨"TamedClassSetModel", "holds", "(I)Z"⟩ : MethodName) ∈ tx_ws := List.mem_filter.mpr ⟨List.mem_append_left _ (List.mem_of_getElem? (i := 66) rfl), rfl⟩
theorem tw_p_67 : Cond.selects "TamedClassSetModel" (⟨"TamedClassSetModel", "chosen", "(II)I"⟩ : MethodName) (⟨"TamedClassSetModel", "chosen", "(II)I"⟩ : MethodName) ∈ tx_ws := List.mem_filter.mpr ⟨List.mem_append_left _ (List.mem_of_getElem? (i := 67) rfl), rfl⟩
theorem tw_p_68 : Cond.selects "TamedClassSetModel" (⟨"TamedClassSetModel", "enter", "(III)V"⟩ : MethodName) (⟨"TamedClassSetModel", "enter", "(III)V"⟩ : MethodName) ∈ tx_ws := List.mem_filter.mpr ⟨List.mem_append_left _ (List.mem_of_getElem? (i := 68) rfl), rfl⟩
theorem tw_p_69 : Cond.selects "TamedClassSetModel" (⟨"TamedClassSetModel", "once", "()I"⟩ : MethodName) (⟨"TamedClassSetModel", "once", "()I"⟩ : MethodName) ∈ tx_ws := List.mem_filter.mpr ⟨List.mem_append_left _ (List.mem_of_getElem? (i := 69) rfl), rfl⟩
theorem tw_p_70 : Cond.selects "TamedClassSetModel" (⟨"TamedClassSetModel", "make", "(I)I"⟩ : MethodName) (⟨"TamedClassSetModel", "make", "(I)I"⟩ : MethodName) ∈ tx_ws := List.mem_filter.mpr ⟨List.mem_append_left _ (List.mem_of_getElem? (i := 70) rfl), rfl⟩
theorem tw_p_71 : Cond.selects "TamedClassSetModel" (⟨"TamedClassSetModel", "pop", "()I"⟩ : MethodName) (⟨"TamedClassSetModel", "pop", "()I"⟩ : MethodName) ∈ tx_ws := List.mem_filter.mpr ⟨List.mem_append_left _ (List.mem_of_getElem? (i := 71) rfl), rfl⟩
theorem tw_p_72 : Cond.selects "TamedClassSetModel" (⟨"TamedClassSetModel", "push", "(I)V"⟩ : MethodName) (⟨"TamedClassSetModel", "push", "(I)V"⟩ : MethodName) ∈ tx_ws := List.mem_filter.mpr ⟨List.mem_append_left _ (List.mem_of_getElem? (i := 72) rfl), rfl⟩
theorem tw_p_73 : Cond.selects "TamedClassSetModel" (⟨"TamedClassSetModel", "slotted", "(ZI)I"⟩ : MethodName) (⟨"TamedClassSetModel", "slotted", "(ZI)I"⟩ : MethodName) ∈ tx_ws := List.mem_filter.mpr ⟨List.mem_append_left _ (List.mem_of_getElem? (i := 73) rfl), rfl⟩
theorem tw_p_74 : Cond.selects "TamedClassSetModel" (⟨"TamedClassSetModel", "call", "(I)I"⟩ : MethodName) (⟨"TamedClassSetModel", "call", "(I)I"⟩ : MethodName) ∈ tx_ws := List.mem_filter.mpr ⟨List.mem_append_left _ (List.mem_of_getElem? (i := 74) rfl), rfl⟩
theorem tw_p_75 : Cond.selects "TamedClassSetModel" (⟨"TamedClassSetModel", "sum", "(I)V"⟩ : MethodName) (⟨"TamedClassSetModel", "sum", "(I)V"⟩ : MethodName) ∈ tx_ws := List.mem_filter.mpr ⟨List.mem_append_left _ (List.mem_of_getElem? (i := 75) rfl), rfl⟩
theorem tw_p_76 : Cond.selects "TamedClassSetModel" (⟨"TamedClassSetModel", "library", "(I)V"⟩ : MethodName) (⟨"TamedClassSetModel", "library", "(I)V"⟩ : MethodName) ∈ tx_ws := List.mem_filter.mpr ⟨List.mem_append_left _ (List.mem_of_getElem? (i := 76) rfl), rfl⟩
theorem tw_p_77 : Cond.selects "TamedClassSetModel" (⟨"TamedClassSetModel", "back", "()V"⟩ : MethodName) (⟨"TamedClassSetModel", "back", "()V"⟩ : MethodName) ∈ tx_ws := List.mem_filter.mpr ⟨List.mem_append_left _ (List.mem_of_getElem? (i := 77) rfl), rfl⟩
theorem tw_p_78 : Cond.selects "TamedClassSetModel" (⟨"TamedClassSetModel", "shown", "(I)J"⟩ : MethodName) (⟨"TamedClassSetModel", "shown", "(I)J"⟩ : MethodName) ∈ tx_ws := List.mem_filter.mpr ⟨List.mem_append_left _ (List.mem_of_getElem? (i := 78) rfl), rfl⟩
end
section
/-! The packaged judgement: gx says of a frame, with the whole world at the numbers σ, that its method returns T.1 and leaves the world at T.2. -/
abbrev tx_St : Type := Nat → Nat → Int32
abbrev tx_E : Type := (Nat → Nat) × va_G × ClassId × ClassId × ClassId
abbrev tx_M : Type := String × ByteArray × Nat × Option FieldType × Room
abbrev tx_R : Type := Option Value × tx_St
def tx_sh (k : Nat) : Nat × Nat × List (Option Nat) := tx_shl.getD k (0, 0, [])
def tx_fv (E : tx_E) (σ : tx_St) (k j : Nat) : Option Nat → Value
  | none => .int (σ k j)
  | some q => .ref (E.1 q)
def tx_fs (E : tx_E) (σ : tx_St) (k : Nat) (fs : List (Option Nat)) : List Value := fs.mapIdx (fun j f => tx_fv E σ k j f)
def tx_cell (E : tx_E) (σ : tx_St) (k : Nat) : va_E := match tx_sh k with
  | (0, n, _) => .inl (E.2.2.1, n, .inl (σ k))
  | (1, n, _) => .inl (E.2.2.2.1, n, .inl (σ k))
  | (2, n, fs) => .inl (E.2.2.2.2, n, .inr (.inr (.inr (.inr (fun j => (fs.getD j none).map E.1)))))
  | (c + 3, _, fs) => .inr (c, tx_fs E σ k fs)
def tx_w (E : tx_E) (σ : tx_St) : va_W := (List.range 69).map (fun k => (E.1 k, tx_cell E σ k))
def tx_up (σ : tx_St) (k j : Nat) (x : Int32) : tx_St := fun c => if c = k then upd (σ k) j x else σ c
def tx_ty (E : tx_E) : List (ClassId × FieldType) := [(E.2.2.1, .int), (E.2.2.2.1, .boolean), (E.2.2.2.2, .object tx_Fr)]
def tx_J (E : tx_E) : Prop := ∀ i j, i < 69 → j < 69 → E.1 i = E.1 j → i = j
def tx_A (E : tx_E) : Nat → Prop := fun q => ∃ k, k < 69 ∧ q = E.1 k
theorem tx_up_at (σ : tx_St) (k j : Nat) (x : Int32) : tx_up σ k j x k = upd (σ k) j x := by simp [tx_up]
theorem tx_up_ne (σ : tx_St) {k c : Nat} (j : Nat) (x : Int32) (h : c ≠ k) : tx_up σ k j x c = σ c := by simp [tx_up, h]
theorem tx_w_at (E : tx_E) (σ : tx_St) {k : Nat} (hk : k < 69) : (tx_w E σ)[k]? = some (E.1 k, tx_cell E σ k) := by
  simp [tx_w, List.getElem?_map, List.getElem?_range hk]
theorem tx_w_len (E : tx_E) (σ : tx_St) : (tx_w E σ).length = 69 := by simp [tx_w]
theorem tx_fs_congr {E : tx_E} {σ σ' : tx_St} {k : Nat} {fs : List (Option Nat)} (h : σ' k = σ k) : tx_fs E σ' k fs = tx_fs E σ k fs := by
  unfold tx_fs
  congr 1
  funext j f
  cases f <;> simp [tx_fv, h]
theorem tx_cell_congr {E : tx_E} {σ σ' : tx_St} {k : Nat} (h : σ' k = σ k) : tx_cell E σ' k = tx_cell E σ k := by
  unfold tx_cell
  rw [h]
  split <;> first | rfl | rw [tx_fs_congr h]
theorem tx_w_set {E : tx_E} {σ σ' : tx_St} {k : Nat} {e : va_E} (hk : k < 69) (h : ∀ j, j ≠ k → σ' j = σ j) (he : e = tx_cell E σ' k) : (tx_w E σ).set k (E.1 k, e) = tx_w E σ' := by
  apply List.ext_getElem?
  intro i
  by_cases hi : i = k
  · subst hi
    rw [List.getElem?_set_self (by rw [tx_w_len]; exact hk), tx_w_at E σ' hk, he]
  · rw [List.getElem?_set_ne (Ne.symm hi)]
    by_cases hl : i < 69
    · rw [tx_w_at E σ hl, tx_w_at E σ' hl, tx_cell_congr (h i hi)]
    · rw [List.getElem?_eq_none (by rw [tx_w_len]; omega), List.getElem?_eq_none (by rw [tx_w_len]; omega)]
theorem tx_D {E : tx_E} (h : tx_J E) (σ : tx_St) : va_D (tx_A E) (tx_w E σ) := by
  have key : ∀ (k : Nat) (q : Nat × va_E), (tx_w E σ)[k]? = some q → k < 69 ∧ q.1 = E.1 k := by
    intro k q hk
    have hl : k < 69 := by
      have := (List.getElem?_eq_some_iff.mp hk).1
      rw [tx_w_len] at this
      exact this
    rw [tx_w_at E σ hl] at hk
    cases hk
    exact ⟨hl, rfl⟩
  refine ⟨fun i j p q hi hj hpq => ?_, fun k q hk => ?_⟩
  · obtain ⟨h1, h2⟩ := key i p hi
    obtain ⟨h3, h4⟩ := key j q hj
    exact h i j h1 h3 (h2.symm.trans (hpq.trans h4))
  · obtain ⟨h1, h2⟩ := key k q hk
    exact ⟨k, h1, h2⟩
theorem tx_fs_get {E : tx_E} {σ : tx_St} {k j : Nat} {fs : List (Option Nat)} {f : Option Nat} (h : fs[j]? = some f) : (tx_fs E σ k fs)[j]? = some (tx_fv E σ k j f) := by
  simp [tx_fs, List.getElem?_mapIdx, h]
theorem tx_fs_set {E : tx_E} {σ : tx_St} {k j : Nat} {fs : List (Option Nat)} {x : Int32} (h : fs[j]? = some none) : (tx_fs E σ k fs).set j (.int x) = tx_fs E (tx_up σ k j x) k fs := by
  have hl := (List.getElem?_eq_some_iff.mp h).1
  apply List.ext_getElem?
  intro i
  by_cases hi : i = j
  · subst hi
    rw [List.getElem?_set_self (by simpa [tx_fs] using hl), tx_fs_get h]
    simp [upd, tx_fv, tx_up_at]
  · rw [List.getElem?_set_ne (Ne.symm hi)]
    cases hf : fs[i]? with
    | none => simp [tx_fs, List.getElem?_mapIdx, hf]
    | some f =>
      rw [tx_fs_get hf, tx_fs_get hf]
      cases f <;> simp [upd, hi, tx_fv, tx_up_at]
/-- what a method's walk may lean on -/
def tx_Cx (E : tx_E) (M : tx_M) (p : Program) (s : State) (m : MethodId) (args : Array Value) (meth : Method) (c : Code) : Prop :=
  p.tables.exec = Jvm.exec ∧ c.code = M.2.1 ∧ c.maxLocals = M.2.2.1 ∧ s.vm.findClass M.1 = some m.cls ∧ (∀ w ∈ tx_ws, w.before args s = true) ∧ va_K E.2.1 tx_cl (tx_ty E) s ∧ meth.sig.returnType = M.2.2.2.1 ∧ meth.locks = false ∧ tx_J E
def tx_Q (E : tx_E) (T : tx_R) : Array Value → State → Outcome → State → Prop := fun _ st oc t =>
  oc = .returned T.1 ∧ va_P E.2.1 tx_cl (tx_w E T.2) t.heap ∧ va_K E.2.1 tx_cl (tx_ty E) t ∧ va_F (tx_A E) st t
def gx (l : Launch) (E : tx_E) (M : tx_M) (T : tx_R) (σ : tx_St) (L : List (Nat × Value)) (pc : Nat) (st : List Value) : Prop :=
  ∀ (p : Program) (e : Env) (s : State) (m : MethodId) (args : Array Value) (below : List Frame) (meth : Method) (c : Code), tx_Cx E M p s m args meth c →
    ∀ (H : Heap) (locs : List Loc) (ls : Array Slot), va_P E.2.1 tx_cl (tx_w E σ) H → va_S (tx_A E) s.heap H locs → lv_has ls M.2.2.1 L →
      W p l e M.2.2.2.2 s m args below meth c H locs 0 0 (MQ below (tx_Q E T) args s 0 0 (tx_A E)) (F0 m pc ls st)
/-- a method's contract: from the world at σ, with these arguments, it answers T.1 and leaves the world at T.2 -/
def tx_MX (l : Launch) (E : tx_E) (y : MethodName) (M : tx_M) (T : tx_R) (av : List Value) (σ : tx_St) : Prop :=
  Met l y (Cond.code y M.2.1 M.2.2.1 M.2.2.2.1 :: tx_ws) M.2.2.2.2 (va_Pc av (fun U => tx_J E ∧ va_P E.2.1 tx_cl (tx_w E σ) U.heap ∧ va_K E.2.1 tx_cl (tx_ty E) U)) (tx_Q E T) 0 0 (tx_A E)
theorem tx_MX_of {l : Launch} {E : tx_E} {y : MethodName} {M : tx_M} {T : tx_R} {av : List Value} {σ : tx_St} (hy : plainName y.cls = true) (ho : M.1 = y.cls) (hlen : (lg_sl av).length ≤ M.2.2.1) (h : gx l E M T σ (lv_args 0 av) 0 []) : tx_MX l E y M T av σ := by
  refine Met.ofW (cc := M.2.1) (maxL := M.2.2.1) (ret := M.2.2.2.1) hy rfl ?_
  intro p e s m args below meth c s₁ B hml hv
  obtain ⟨rfl, hJ, hP, hK⟩ := hv
  rw [lg_entry_eq]
  exact h p e s m _ below meth c ⟨B.exec, B.bytes, hml, by rw [ho]; exact findClass_of_methodNamed B.named, fun w hw => atoms_spec B.pre w (List.mem_cons_of_mem _ hw), hK, B.returns, B.notSynchronized, hJ⟩ s.heap [] _ hP va_S.rf (lv_entry av hlen)
end
section
section GX
variable {l : Launch} {E : tx_E} {M : tx_M} {T : tx_R} {σ : tx_St} {L : List (Nat × Value)} {pc : Nat} {st : List Value}
theorem gx_iadd {x y : Int32} (hd : decode M.2.1 pc = .ok (.iadd, 1))  (k : gx l E M T σ L (pc + 1) (.int (x + y) :: st)) : gx l E M T σ L pc (.int y :: .int x :: st) := fun p e s m args below meth c hC H locs ls hP hS hL => lv_iadd hC.1 hC.2.1 hd (k p e s m args below meth c hC H locs ls hP hS hL)
theorem gx_isub {x y : Int32} (hd : decode M.2.1 pc = .ok (.isub, 1))  (k : gx l E M T σ L (pc + 1) (.int (x - y) :: st)) : gx l E M T σ L pc (.int y :: .int x :: st) := fun p e s m args below meth c hC H locs ls hP hS hL => lv_isub hC.1 hC.2.1 hd (k p e s m args below meth c hC H locs ls hP hS hL)
theorem gx_imul {x y : Int32} (hd : decode M.2.1 pc = .ok (.imul, 1))  (k : gx l E M T σ L (pc + 1) (.int (x * y) :: st)) : gx l E M T σ L pc (.int y :: .int x :: st) := fun p e s m args below meth c hC H locs ls hP hS hL => lv_imul hC.1 hC.2.1 hd (k p e s m args below meth c hC H locs ls hP hS hL)
theorem gx_iand {x y : Int32} (hd : decode M.2.1 pc = .ok (.iand, 1))  (k : gx l E M T σ L (pc + 1) (.int (x &&& y) :: st)) : gx l E M T σ L pc (.int y :: .int x :: st) := fun p e s m args below meth c hC H locs ls hP hS hL => lv_iand hC.1 hC.2.1 hd (k p e s m args below meth c hC H locs ls hP hS hL)
theorem gx_ior {x y : Int32} (hd : decode M.2.1 pc = .ok (.ior, 1))  (k : gx l E M T σ L (pc + 1) (.int (x ||| y) :: st)) : gx l E M T σ L pc (.int y :: .int x :: st) := fun p e s m args below meth c hC H locs ls hP hS hL => lv_ior hC.1 hC.2.1 hd (k p e s m args below meth c hC H locs ls hP hS hL)
theorem gx_ixor {x y : Int32} (hd : decode M.2.1 pc = .ok (.ixor, 1))  (k : gx l E M T σ L (pc + 1) (.int (x ^^^ y) :: st)) : gx l E M T σ L pc (.int y :: .int x :: st) := fun p e s m args below meth c hC H locs ls hP hS hL => lv_ixor hC.1 hC.2.1 hd (k p e s m args below meth c hC H locs ls hP hS hL)
theorem gx_ishl {x y : Int32} (hd : decode M.2.1 pc = .ok (.ishl, 1))  (k : gx l E M T σ L (pc + 1) (.int (x <<< (y &&& 31)) :: st)) : gx l E M T σ L pc (.int y :: .int x :: st) := fun p e s m args below meth c hC H locs ls hP hS hL => lv_ishl hC.1 hC.2.1 hd (k p e s m args below meth c hC H locs ls hP hS hL)
theorem gx_ishr {x y : Int32} (hd : decode M.2.1 pc = .ok (.ishr, 1))  (k : gx l E M T σ L (pc + 1) (.int (x >>> (y &&& 31)) :: st)) : gx l E M T σ L pc (.int y :: .int x :: st) := fun p e s m args below meth c hC H locs ls hP hS hL => lv_ishr hC.1 hC.2.1 hd (k p e s m args below meth c hC H locs ls hP hS hL)
theorem gx_iushr {x y : Int32} (hd : decode M.2.1 pc = .ok (.iushr, 1))  (k : gx l E M T σ L (pc + 1) (.int ((x.toUInt32 >>> (y.toUInt32 &&& Int32.toUInt32 31)).toInt32) :: st)) : gx l E M T σ L pc (.int y :: .int x :: st) := fun p e s m args below meth c hC H locs ls hP hS hL => lv_iushr hC.1 hC.2.1 hd rfl (k p e s m args below meth c hC H locs ls hP hS hL)
theorem gx_ineg {x : Int32} (hd : decode M.2.1 pc = .ok (.ineg, 1))  (k : gx l E M T σ L (pc + 1) (.int (-x) :: st)) : gx l E M T σ L pc (.int x :: st) := fun p e s m args below meth c hC H locs ls hP hS hL => lv_ineg hC.1 hC.2.1 hd (k p e s m args below meth c hC H locs ls hP hS hL)
theorem gx_ladd {x y : Int64} (hd : decode M.2.1 pc = .ok (.ladd, 1))  (k : gx l E M T σ L (pc + 1) (.long (x + y) :: st)) : gx l E M T σ L pc (.long y :: .long x :: st) := fun p e s m args below meth c hC H locs ls hP hS hL => lv_ladd hC.1 hC.2.1 hd (k p e s m args below meth c hC H locs ls hP hS hL)
theorem gx_i2l {x : Int32} (hd : decode M.2.1 pc = .ok (.i2l, 1))  (k : gx l E M T σ L (pc + 1) (.long x.toInt64 :: st)) : gx l E M T σ L pc (.int x :: st) := fun p e s m args below meth c hC H locs ls hP hS hL => lv_i2l hC.1 hC.2.1 hd rfl (k p e s m args below meth c hC H locs ls hP hS hL)
theorem gx_lcmp {x y : Int64} (hd : decode M.2.1 pc = .ok (.lcmp, 1))  (k : gx l E M T σ L (pc + 1) (.int (lg_cmp x y) :: st)) : gx l E M T σ L pc (.long y :: .long x :: st) := fun p e s m args below meth c hC H locs ls hP hS hL => W.lcmp hC.1 hC.2.1 hd (k p e s m args below meth c hC H locs ls hP hS hL)
theorem gx_dup {v : Value} (hd : decode M.2.1 pc = .ok (.dup, 1)) (hv : v.category = 1) (k : gx l E M T σ L (pc + 1) (v :: v :: st)) : gx l E M T σ L pc (v :: st) := fun p e s m args below meth c hC H locs ls hP hS hL => lv_dup hC.1 hC.2.1 hd hv (k p e s m args below meth c hC H locs ls hP hS hL)
theorem gx_pop {v : Value} (hd : decode M.2.1 pc = .ok (.pop, 1)) (hv : v.category = 1) (k : gx l E M T σ L (pc + 1) st) : gx l E M T σ L pc (v :: st) := fun p e s m args below meth c hC H locs ls hP hS hL => lv_pop hC.1 hC.2.1 hd hv (k p e s m args below meth c hC H locs ls hP hS hL)
theorem gx_dup_x1 {v u : Value} (hd : decode M.2.1 pc = .ok (.dup_x1, 1)) (hv : v.category = 1) (hu : u.category = 1) (k : gx l E M T σ L (pc + 1) (v :: u :: v :: st)) : gx l E M T σ L pc (v :: u :: st) := fun p e s m args below meth c hC H locs ls hP hS hL => lv_dup_x1 hC.1 hC.2.1 hd hv hu (k p e s m args below meth c hC H locs ls hP hS hL)
theorem gx_dup_x2 {v u w : Value} (hd : decode M.2.1 pc = .ok (.dup_x2, 1)) (hv : v.category = 1) (hu : u.category = 1) (hw : w.category = 1) (k : gx l E M T σ L (pc + 1) (v :: u :: w :: v :: st)) : gx l E M T σ L pc (v :: u :: w :: st) := fun p e s m args below meth c hC H locs ls hP hS hL => lv_dup_x2 hC.1 hC.2.1 hd hv hu hw (k p e s m args below meth c hC H locs ls hP hS hL)
theorem gx_dup2 {v u : Value} (hd : decode M.2.1 pc = .ok (.dup2, 1)) (hv : v.category = 1) (hu : u.category = 1) (k : gx l E M T σ L (pc + 1) (v :: u :: v :: u :: st)) : gx l E M T σ L pc (v :: u :: st) := fun p e s m args below meth c hC H locs ls hP hS hL => lv_dup2_11 hC.1 hC.2.1 hd hv hu (k p e s m args below meth c hC H locs ls hP hS hL)
theorem gx_iconst {n : Int} (v : Int32) (hd : decode M.2.1 pc = .ok (.iconst n, 1)) (hv : Int32.ofInt n = v) (k : gx l E M T σ L (pc + 1) (.int v :: st)) : gx l E M T σ L pc st := fun p e s m args below meth c hC H locs ls hP hS hL => lv_iconst hC.1 hC.2.1 hd hv (k p e s m args below meth c hC H locs ls hP hS hL)
theorem gx_bipush {n : Int} (v : Int32) (hd : decode M.2.1 pc = .ok (.bipush n, 2)) (hv : (Int8.ofInt n).toInt32 = v) (k : gx l E M T σ L (pc + 2) (.int v :: st)) : gx l E M T σ L pc st := fun p e s m args below meth c hC H locs ls hP hS hL => lv_bipush hC.1 hC.2.1 hd hv (k p e s m args below meth c hC H locs ls hP hS hL)
theorem gx_sipush {n : Int} (v : Int32) (hd : decode M.2.1 pc = .ok (.sipush n, 3)) (hv : (Int16.ofInt n).toInt32 = v) (k : gx l E M T σ L (pc + 3) (.int v :: st)) : gx l E M T σ L pc st := fun p e s m args below meth c hC H locs ls hP hS hL => lv_sipush hC.1 hC.2.1 hd hv (k p e s m args below meth c hC H locs ls hP hS hL)
theorem gx_lconst {n : Fin 2} (v : Int64) (hd : decode M.2.1 pc = .ok (.lconst n, 1)) (hv : Int64.ofNat (n : Nat) = v) (k : gx l E M T σ L (pc + 1) (.long v :: st)) : gx l E M T σ L pc st := fun p e s m args below meth c hC H locs ls hP hS hL => lv_lconst hC.1 hC.2.1 hd hv (k p e s m args below meth c hC H locs ls hP hS hL)
theorem gx_ldc {i : Nat} {v : Int32} (hd : decode M.2.1 pc = .ok (.ldc i, 2)) (hw : Cond.constant M.1 i v ∈ tx_ws) (k : gx l E M T σ L (pc + 2) (.int v :: st)) : gx l E M T σ L pc st := fun p e s m args below meth c hC H locs ls hP hS hL => lv_ldc hC.1 hC.2.1 hC.2.2.2.1 (hC.2.2.2.2.1 _ hw) hd (k p e s m args below meth c hC H locs ls hP hS hL)
theorem gx_ldcw {i : Nat} {v : Int32} (hd : decode M.2.1 pc = .ok (.ldc_w i, 3)) (hw : Cond.constant M.1 i v ∈ tx_ws) (k : gx l E M T σ L (pc + 3) (.int v :: st)) : gx l E M T σ L pc st := fun p e s m args below meth c hC H locs ls hP hS hL => lv_ldcw hC.1 hC.2.1 hC.2.2.2.1 (hC.2.2.2.2.1 _ hw) hd (k p e s m args below meth c hC H locs ls hP hS hL)
theorem gx_ldc2 {i : Nat} {v : Int64} (hd : decode M.2.1 pc = .ok (.ldc2_w i, 3)) (hw : Cond.constantLong M.1 i v ∈ tx_ws) (k : gx l E M T σ L (pc + 3) (.long v :: st)) : gx l E M T σ L pc st := fun p e s m args below meth c hC H locs ls hP hS hL => lv_ldc2 hC.1 hC.2.1 hC.2.2.2.1 (hC.2.2.2.2.1 _ hw) hd (k p e s m args below meth c hC H locs ls hP hS hL)
theorem gx_iload_n {k : Fin 4} {i : Nat} {x : Int32} (q : Nat) (hd : decode M.2.1 pc = .ok (.iload_n k, 1)) (hi : (k : Nat) = i) (hq : L[q]? = some (i, .int x)) (kk : gx l E M T σ L (pc + 1) (.int x :: st)) : gx l E M T σ L pc st := fun p e s m args below meth c hC H locs ls hP hS hL => lv_iload_n hC.1 hC.2.1 hd hi (lv_at hL q hq) (kk p e s m args below meth c hC H locs ls hP hS hL)
theorem gx_iload {i : Nat} {x : Int32} (q : Nat) (hd : decode M.2.1 pc = .ok (.iload i, 2)) (hq : L[q]? = some (i, .int x)) (kk : gx l E M T σ L (pc + 2) (.int x :: st)) : gx l E M T σ L pc st := fun p e s m args below meth c hC H locs ls hP hS hL => lv_iload hC.1 hC.2.1 hd (lv_at hL q hq) (kk p e s m args below meth c hC H locs ls hP hS hL)
theorem gx_istore_n {k : Fin 4} {i : Nat} {x : Int32} (L2 : List (Nat × Value)) (hd : decode M.2.1 pc = .ok (.istore_n k, 1)) (hi : (k : Nat) = i) (hn : i < M.2.2.1) (hl : (i, Value.int x) :: L.filter (fun q => !(q.1 == i) && !(q.1 + 1 == i && q.2.category == 2)) = L2) (kk : gx l E M T σ L2 (pc + 1) st) : gx l E M T σ L pc (.int x :: st) := fun p e s m args below meth c hC H locs ls hP hS hL => lv_istore_n hC.1 hC.2.1 hd hi hL hn hl (fun ls2 hL2 => kk p e s m args below meth c hC H locs ls2 hP hS hL2)
theorem gx_istore {i : Nat} {x : Int32} (L2 : List (Nat × Value)) (hd : decode M.2.1 pc = .ok (.istore i, 2)) (hn : i < M.2.2.1) (hl : (i, Value.int x) :: L.filter (fun q => !(q.1 == i) && !(q.1 + 1 == i && q.2.category == 2)) = L2) (kk : gx l E M T σ L2 (pc + 2) st) : gx l E M T σ L pc (.int x :: st) := fun p e s m args below meth c hC H locs ls hP hS hL => lv_istore hC.1 hC.2.1 hd hL hn hl (fun ls2 hL2 => kk p e s m args below meth c hC H locs ls2 hP hS hL2)
theorem gx_lload_n {k : Fin 4} {i : Nat} {x : Int64} (q : Nat) (hd : decode M.2.1 pc = .ok (.lload_n k, 1)) (hi : (k : Nat) = i) (hq : L[q]? = some (i, .long x)) (kk : gx l E M T σ L (pc + 1) (.long x :: st)) : gx l E M T σ L pc st := fun p e s m args below meth c hC H locs ls hP hS hL => lv_lload_n hC.1 hC.2.1 hd hi (lv_at hL q hq) (kk p e s m args below meth c hC H locs ls hP hS hL)
theorem gx_lload {i : Nat} {x : Int64} (q : Nat) (hd : decode M.2.1 pc = .ok (.lload i, 2)) (hq : L[q]? = some (i, .long x)) (kk : gx l E M T σ L (pc + 2) (.long x :: st)) : gx l E M T σ L pc st := fun p e s m args below meth c hC H locs ls hP hS hL => lv_lload hC.1 hC.2.1 hd (lv_at hL q hq) (kk p e s m args below meth c hC H locs ls hP hS hL)
theorem gx_lstore_n {k : Fin 4} {i : Nat} {x : Int64} (L2 : List (Nat × Value)) (hd : decode M.2.1 pc = .ok (.lstore_n k, 1)) (hi : (k : Nat) = i) (hn : i + 1 < M.2.2.1) (hl : (i, Value.long x) :: L.filter (fun q => !(q.1 == i) && (!(q.1 == i + 1) && !(q.1 + 1 == i && q.2.category == 2))) = L2) (kk : gx l E M T σ L2 (pc + 1) st) : gx l E M T σ L pc (.long x :: st) := fun p e s m args below meth c hC H locs ls hP hS hL => lv_lstore_n hC.1 hC.2.1 hd hi hL hn hl (fun ls2 hL2 => kk p e s m args below meth c hC H locs ls2 hP hS hL2)
theorem gx_lstore {i : Nat} {x : Int64} (L2 : List (Nat × Value)) (hd : decode M.2.1 pc = .ok (.lstore i, 2)) (hn : i + 1 < M.2.2.1) (hl : (i, Value.long x) :: L.filter (fun q => !(q.1 == i) && (!(q.1 == i + 1) && !(q.1 + 1 == i && q.2.category == 2))) = L2) (kk : gx l E M T σ L2 (pc + 2) st) : gx l E M T σ L pc (.long x :: st) := fun p e s m args below meth c hC H locs ls hP hS hL => lv_lstore hC.1 hC.2.1 hd hL hn hl (fun ls2 hL2 => kk p e s m args below meth c hC H locs ls2 hP hS hL2)
theorem gx_aload_n {k : Fin 4} {i : Nat} {x : Nat} (q : Nat) (hd : decode M.2.1 pc = .ok (.aload_n k, 1)) (hi : (k : Nat) = i) (hq : L[q]? = some (i, .ref x)) (kk : gx l E M T σ L (pc + 1) (.ref x :: st)) : gx l E M T σ L pc st := fun p e s m args below meth c hC H locs ls hP hS hL => lv_aload_n hC.1 hC.2.1 hd hi (lv_at hL q hq) (kk p e s m args below meth c hC H locs ls hP hS hL)
theorem gx_aload {i : Nat} {x : Nat} (q : Nat) (hd : decode M.2.1 pc = .ok (.aload i, 2)) (hq : L[q]? = some (i, .ref x)) (kk : gx l E M T σ L (pc + 2) (.ref x :: st)) : gx l E M T σ L pc st := fun p e s m args below meth c hC H locs ls hP hS hL => lv_aload hC.1 hC.2.1 hd (lv_at hL q hq) (kk p e s m args below meth c hC H locs ls hP hS hL)
theorem gx_astore_n {k : Fin 4} {i : Nat} {x : Nat} (L2 : List (Nat × Value)) (hd : decode M.2.1 pc = .ok (.astore_n k, 1)) (hi : (k : Nat) = i) (hn : i < M.2.2.1) (hl : (i, Value.ref x) :: L.filter (fun q => !(q.1 == i) && !(q.1 + 1 == i && q.2.category == 2)) = L2) (kk : gx l E M T σ L2 (pc + 1) st) : gx l E M T σ L pc (.ref x :: st) := fun p e s m args below meth c hC H locs ls hP hS hL => lv_astore_n hC.1 hC.2.1 hd hi hL hn hl (fun ls2 hL2 => kk p e s m args below meth c hC H locs ls2 hP hS hL2)
theorem gx_astore {i : Nat} {x : Nat} (L2 : List (Nat × Value)) (hd : decode M.2.1 pc = .ok (.astore i, 2)) (hn : i < M.2.2.1) (hl : (i, Value.ref x) :: L.filter (fun q => !(q.1 == i) && !(q.1 + 1 == i && q.2.category == 2)) = L2) (kk : gx l E M T σ L2 (pc + 2) st) : gx l E M T σ L pc (.ref x :: st) := fun p e s m args below meth c hC H locs ls hP hS hL => lv_astore hC.1 hC.2.1 hd hL hn hl (fun ls2 hL2 => kk p e s m args below meth c hC H locs ls2 hP hS hL2)
theorem gx_iinc {i : Nat} {n : Int} {x : Int32} (v : Int32) (q : Nat) (L2 : List (Nat × Value)) (hd : decode M.2.1 pc = .ok (.iinc i n, 3)) (hq : L[q]? = some (i, .int x)) (hv : x + Int32.ofInt n = v) (hn : i < M.2.2.1) (hl : (i, Value.int v) :: L.filter (fun q => !(q.1 == i) && !(q.1 + 1 == i && q.2.category == 2)) = L2) (kk : gx l E M T σ L2 (pc + 3) st) : gx l E M T σ L pc st := fun p e s m args below meth c hC H locs ls hP hS hL => lv_iinc hC.1 hC.2.1 hd hL hq hv hn hl (fun ls2 hL2 => kk p e s m args below meth c hC H locs ls2 hP hS hL2)
theorem gx_sub {L2 : List (Nat × Value)} (ks : List Nat) (hl : lv_pick L ks = L2) (k : gx l E M T σ L2 pc st) : gx l E M T σ L pc st := fun p e s m args below meth c hC H locs ls hP hS hL => k p e s m args below meth c hC H locs ls hP hS (lv_sub hL ks hl)
theorem gx_topi {x : Int32} (y : Int32) (h : x = y) (k : gx l E M T σ L pc (.int y :: st)) : gx l E M T σ L pc (.int x :: st) := h ▸ k
theorem gx_if_eq {x : Int32} {off : Int} (tgt : Nat) (hd : decode M.2.1 pc = .ok (.ifCond .eq off, 3)) (ht : (pc : Int) + off = (tgt : Int)) (kt : x = 0 → gx l E M T σ L tgt st) (kf : ¬ x = 0 → gx l E M T σ L (pc + 3) st) : gx l E M T σ L pc (.int x :: st) := fun p e s m args below meth c hC H locs ls hP hS hL => lv_if_eq hC.1 hC.2.1 hd ht (fun h => kt h p e s m args below meth c hC H locs ls hP hS hL) (fun h => kf h p e s m args below meth c hC H locs ls hP hS hL)
theorem gx_if_ne {x : Int32} {off : Int} (tgt : Nat) (hd : decode M.2.1 pc = .ok (.ifCond .ne off, 3)) (ht : (pc : Int) + off = (tgt : Int)) (kt : ¬ x = 0 → gx l E M T σ L tgt st) (kf : x = 0 → gx l E M T σ L (pc + 3) st) : gx l E M T σ L pc (.int x :: st) := fun p e s m args below meth c hC H locs ls hP hS hL => lv_if_ne hC.1 hC.2.1 hd ht (fun h => kt h p e s m args below meth c hC H locs ls hP hS hL) (fun h => kf h p e s m args below meth c hC H locs ls hP hS hL)
theorem gx_if_lt {x : Int32} {off : Int} (tgt : Nat) (hd : decode M.2.1 pc = .ok (.ifCond .lt off, 3)) (ht : (pc : Int) + off = (tgt : Int)) (kt : x < 0 → gx l E M T σ L tgt st) (kf : ¬ x < 0 → gx l E M T σ L (pc + 3) st) : gx l E M T σ L pc (.int x :: st) := fun p e s m args below meth c hC H locs ls hP hS hL => lv_if_lt hC.1 hC.2.1 hd ht (fun h => kt h p e s m args below meth c hC H locs ls hP hS hL) (fun h => kf h p e s m args below meth c hC H locs ls hP hS hL)
theorem gx_if_ge {x : Int32} {off : Int} (tgt : Nat) (hd : decode M.2.1 pc = .ok (.ifCond .ge off, 3)) (ht : (pc : Int) + off = (tgt : Int)) (kt : 0 ≤ x → gx l E M T σ L tgt st) (kf : ¬ 0 ≤ x → gx l E M T σ L (pc + 3) st) : gx l E M T σ L pc (.int x :: st) := fun p e s m args below meth c hC H locs ls hP hS hL => lv_if_ge hC.1 hC.2.1 hd ht (fun h => kt h p e s m args below meth c hC H locs ls hP hS hL) (fun h => kf h p e s m args below meth c hC H locs ls hP hS hL)
theorem gx_if_gt {x : Int32} {off : Int} (tgt : Nat) (hd : decode M.2.1 pc = .ok (.ifCond .gt off, 3)) (ht : (pc : Int) + off = (tgt : Int)) (kt : 0 < x → gx l E M T σ L tgt st) (kf : ¬ 0 < x → gx l E M T σ L (pc + 3) st) : gx l E M T σ L pc (.int x :: st) := fun p e s m args below meth c hC H locs ls hP hS hL => lv_if_gt hC.1 hC.2.1 hd ht (fun h => kt h p e s m args below meth c hC H locs ls hP hS hL) (fun h => kf h p e s m args below meth c hC H locs ls hP hS hL)
theorem gx_if_le {x : Int32} {off : Int} (tgt : Nat) (hd : decode M.2.1 pc = .ok (.ifCond .le off, 3)) (ht : (pc : Int) + off = (tgt : Int)) (kt : x ≤ 0 → gx l E M T σ L tgt st) (kf : ¬ x ≤ 0 → gx l E M T σ L (pc + 3) st) : gx l E M T σ L pc (.int x :: st) := fun p e s m args below meth c hC H locs ls hP hS hL => lv_if_le hC.1 hC.2.1 hd ht (fun h => kt h p e s m args below meth c hC H locs ls hP hS hL) (fun h => kf h p e s m args below meth c hC H locs ls hP hS hL)
theorem gx_icmp_eq {x y : Int32} {off : Int} (tgt : Nat) (hd : decode M.2.1 pc = .ok (.if_icmp .eq off, 3)) (ht : (pc : Int) + off = (tgt : Int)) (kt : x = y → gx l E M T σ L tgt st) (kf : ¬ x = y → gx l E M T σ L (pc + 3) st) : gx l E M T σ L pc (.int y :: .int x :: st) := fun p e s m args below meth c hC H locs ls hP hS hL => lv_icmp_eq hC.1 hC.2.1 hd ht (fun h => kt h p e s m args below meth c hC H locs ls hP hS hL) (fun h => kf h p e s m args below meth c hC H locs ls hP hS hL)
theorem gx_icmp_ne {x y : Int32} {off : Int} (tgt : Nat) (hd : decode M.2.1 pc = .ok (.if_icmp .ne off, 3)) (ht : (pc : Int) + off = (tgt : Int)) (kt : ¬ x = y → gx l E M T σ L tgt st) (kf : x = y → gx l E M T σ L (pc + 3) st) : gx l E M T σ L pc (.int y :: .int x :: st) := fun p e s m args below meth c hC H locs ls hP hS hL => lv_icmp_ne hC.1 hC.2.1 hd ht (fun h => kt h p e s m args below meth c hC H locs ls hP hS hL) (fun h => kf h p e s m args below meth c hC H locs ls hP hS hL)
theorem gx_icmp_lt {x y : Int32} {off : Int} (tgt : Nat) (hd : decode M.2.1 pc = .ok (.if_icmp .lt off, 3)) (ht : (pc : Int) + off = (tgt : Int)) (kt : x < y → gx l E M T σ L tgt st) (kf : ¬ x < y → gx l E M T σ L (pc + 3) st) : gx l E M T σ L pc (.int y :: .int x :: st) := fun p e s m args below meth c hC H locs ls hP hS hL => lv_icmp_lt hC.1 hC.2.1 hd ht (fun h => kt h p e s m args below meth c hC H locs ls hP hS hL) (fun h => kf h p e s m args below meth c hC H locs ls hP hS hL)
theorem gx_icmp_ge {x y : Int32} {off : Int} (tgt : Nat) (hd : decode M.2.1 pc = .ok (.if_icmp .ge off, 3)) (ht : (pc : Int) + off = (tgt : Int)) (kt : y ≤ x → gx l E M T σ L tgt st) (kf : ¬ y ≤ x → gx l E M T σ L (pc + 3) st) : gx l E M T σ L pc (.int y :: .int x :: st) := fun p e s m args below meth c hC H locs ls hP hS hL => lv_icmp_ge hC.1 hC.2.1 hd ht (fun h => kt h p e s m args below meth c hC H locs ls hP hS hL) (fun h => kf h p e s m args below meth c hC H locs ls hP hS hL)
theorem gx_icmp_gt {x y : Int32} {off : Int} (tgt : Nat) (hd : decode M.2.1 pc = .ok (.if_icmp .gt off, 3)) (ht : (pc : Int) + off = (tgt : Int)) (kt : y < x → gx l E M T σ L tgt st) (kf : ¬ y < x → gx l E M T σ L (pc + 3) st) : gx l E M T σ L pc (.int y :: .int x :: st) := fun p e s m args below meth c hC H locs ls hP hS hL => lv_icmp_gt hC.1 hC.2.1 hd ht (fun h => kt h p e s m args below meth c hC H locs ls hP hS hL) (fun h => kf h p e s m args below meth c hC H locs ls hP hS hL)
theorem gx_icmp_le {x y : Int32} {off : Int} (tgt : Nat) (hd : decode M.2.1 pc = .ok (.if_icmp .le off, 3)) (ht : (pc : Int) + off = (tgt : Int)) (kt : x ≤ y → gx l E M T σ L tgt st) (kf : ¬ x ≤ y → gx l E M T σ L (pc + 3) st) : gx l E M T σ L pc (.int y :: .int x :: st) := fun p e s m args below meth c hC H locs ls hP hS hL => lv_icmp_le hC.1 hC.2.1 hd ht (fun h => kt h p e s m args below meth c hC H locs ls hP hS hL) (fun h => kf h p e s m args below meth c hC H locs ls hP hS hL)
theorem gx_goto {off : Int} (tgt : Nat) (hd : decode M.2.1 pc = .ok (.goto off, 3)) (ht : (pc : Int) + off = (tgt : Int)) (k : gx l E M T σ L tgt st) : gx l E M T σ L pc st := fun p e s m args below meth c hC H locs ls hP hS hL => lv_goto hC.1 hC.2.1 hd ht (k p e s m args below meth c hC H locs ls hP hS hL)
theorem gx_tabIn {dflt lo hi : Int} {offs : Array Int} {len : Nat} {x : Int32} {off : Int} (tgt : Nat) (hd : decode M.2.1 pc = .ok (.tableswitch dflt lo hi offs, len)) (h1 : ¬ x.toInt < lo) (h2 : ¬ hi < x.toInt) (ho : offs[(x.toInt - lo).toNat]? = some off) (ht : (pc : Int) + off = (tgt : Int)) (k : gx l E M T σ L tgt st) : gx l E M T σ L pc (.int x :: st) := fun p e s m args below meth c hC H locs ls hP hS hL => lv_tableIn hC.1 hC.2.1 hd h1 h2 ho ht (k p e s m args below meth c hC H locs ls hP hS hL)
theorem gx_tabOut {dflt lo hi : Int} {offs : Array Int} {len : Nat} {x : Int32} (tgt : Nat) (hd : decode M.2.1 pc = .ok (.tableswitch dflt lo hi offs, len)) (h : x.toInt < lo ∨ hi < x.toInt) (ht : (pc : Int) + dflt = (tgt : Int)) (k : gx l E M T σ L tgt st) : gx l E M T σ L pc (.int x :: st) := fun p e s m args below meth c hC H locs ls hP hS hL => lv_tableOut hC.1 hC.2.1 hd h ht (k p e s m args below meth c hC H locs ls hP hS hL)
theorem gx_iret {v : Int32} (hd : decode M.2.1 pc = .ok (.ireturn, 1)) (hr : M.2.2.2.1 = some .int) (hT : T = (some (.int v), σ)) : gx l E M T σ L pc [.int v] := fun p e s m args below meth c hC H locs ls hP hS hL => W.iret hC.1 hC.2.1 (hC.2.2.2.2.2.2.1.trans hr) (fun t ht hW => ⟨by rw [hT], by rw [ht, hT]; exact hP, va_K.moved hW.alike hC.2.2.2.2.2.1, hS.F ht⟩) hS.2.2 hd hC.2.2.2.2.2.2.2.1
theorem gx_zret {v : Int32} (hd : decode M.2.1 pc = .ok (.ireturn, 1)) (hr : M.2.2.2.1 = some .boolean) (hv : v = 0 ∨ v = 1) (hT : T = (some (.int v), σ)) : gx l E M T σ L pc [.int v] := fun p e s m args below meth c hC H locs ls hP hS hL => W.zret hC.1 hC.2.1 (hC.2.2.2.2.2.2.1.trans hr) (by rcases hv with rfl | rfl <;> rfl) (fun t ht hW => ⟨by rw [hT], by rw [ht, hT]; exact hP, va_K.moved hW.alike hC.2.2.2.2.2.1, hS.F ht⟩) hS.2.2 hd hC.2.2.2.2.2.2.2.1
theorem gx_lret {v : Int64} (hd : decode M.2.1 pc = .ok (.lreturn, 1)) (hr : M.2.2.2.1 = some .long) (hT : T = (some (.long v), σ)) : gx l E M T σ L pc [.long v] := fun p e s m args below meth c hC H locs ls hP hS hL => W.lret hC.1 hC.2.1 (hC.2.2.2.2.2.2.1.trans hr) (fun t ht hW => ⟨by rw [hT], by rw [ht, hT]; exact hP, va_K.moved hW.alike hC.2.2.2.2.2.1, hS.F ht⟩) hS.2.2 hd hC.2.2.2.2.2.2.2.1
theorem gx_vret (hd : decode M.2.1 pc = .ok (.return_, 1)) (hr : M.2.2.2.1 = none) (hT : T = (none, σ)) : gx l E M T σ L pc [] := fun p e s m args below meth c hC H locs ls hP hS hL => W.vret hC.1 hC.2.1 (hC.2.2.2.2.2.2.1.trans hr) (fun t ht hW => ⟨by rw [hT], by rw [ht, hT]; exact hP, va_K.moved hW.alike hC.2.2.2.2.2.1, hS.F ht⟩) hS.2.2 hd hC.2.2.2.2.2.2.2.1
/-- the field that a link names: class ci of tx_cl, its j'th field -/
def tx_FL (own : String) (idx ci j : Nat) : Prop := ∃ (C : String) (F : u_T) (N : Nat), tx_cl[ci]? = some (C, F, N) ∧ j < N ∧ (∀ w ∈ u_ws C F N, w ∈ tx_ws) ∧ (F j).1 = C ∧ (Cond.fieldLink own idx C (F j).2.1 (F j).2.2.1 ∈ tx_ws ∨ ∃ host, Cond.fieldLinkNest own idx C (F j).2.1 (F j).2.2.1 host ∈ tx_ws)
def tx_FP (own : String) (idx ci j : Nat) (ty : FieldType) : Prop := ∃ (C : String) (F : u_T) (N : Nat) (ty0 : Nat → FieldType), tx_cl[ci]? = some (C, F, N) ∧ j < N ∧ (∀ w ∈ u_ws C F N, w ∈ tx_ws) ∧ (F j).1 = C ∧ (Cond.fieldLink own idx C (F j).2.1 (F j).2.2.1 ∈ tx_ws ∨ ∃ host, Cond.fieldLinkNest own idx C (F j).2.1 (F j).2.2.1 host ∈ tx_ws) ∧
  (∀ k, k < N → parseFieldDescriptor (F k).2.2.1 = some (ty0 k)) ∧ (∀ a, a < N → ∀ b, b < N → a ≠ b → (F a).2.1 ≠ (F b).2.1) ∧ (F j).2.2.2 = false ∧ parseFieldDescriptor (F j).2.2.1 = some ty
theorem tx_cell_o {E : tx_E} {σ : tx_St} {k ci N : Nat} {fs : List (Option Nat)} (h : tx_sh k = (ci + 3, N, fs)) : tx_cell E σ k = .inr (ci, tx_fs E σ k fs) := by
  unfold tx_cell
  rw [h]
theorem tx_cell_i {E : tx_E} {σ : tx_St} {k n : Nat} {fs : List (Option Nat)} (h : tx_sh k = (0, n, fs)) : tx_cell E σ k = .inl (E.2.2.1, n, .inl (σ k)) := by
  unfold tx_cell
  rw [h]
theorem tx_cell_z {E : tx_E} {σ : tx_St} {k n : Nat} {fs : List (Option Nat)} (h : tx_sh k = (1, n, fs)) : tx_cell E σ k = .inl (E.2.2.2.1, n, .inl (σ k)) := by
  unfold tx_cell
  rw [h]
theorem tx_cell_f {E : tx_E} {σ : tx_St} {k n : Nat} {fs : List (Option Nat)} (h : tx_sh k = (2, n, fs)) : tx_cell E σ k = .inl (E.2.2.2.2, n, .inr (.inr (.inr (.inr (fun j => (fs.getD j none).map E.1))))) := by
  unfold tx_cell
  rw [h]
theorem tx_sh_lt {k : Nat} {c N : Nat} {fs : List (Option Nat)} (h : tx_sh k = (c, N, fs)) (hN : N ≠ 0) : k < 69 := by
  by_cases hk : k < 69
  · exact hk
  · exfalso
    have : tx_sh k = (0, 0, []) := by
      unfold tx_sh
      have h2 : tx_shl.length = 69 := rfl
      rw [List.getD_eq_getElem?_getD, List.getElem?_eq_none (by omega)]
      rfl
    rw [this] at h
    cases h
    exact hN rfl
theorem tx_w_o {E : tx_E} {σ : tx_St} {k ci N : Nat} {fs : List (Option Nat)} (h : tx_sh k = (ci + 3, N, fs)) (hN : N ≠ 0) : (tx_w E σ)[k]? = some (E.1 k, .inr (ci, tx_fs E σ k fs)) := by rw [tx_w_at E σ (tx_sh_lt h hN), tx_cell_o h]
theorem tx_w_i {E : tx_E} {σ : tx_St} {k n : Nat} {fs : List (Option Nat)} (h : tx_sh k = (0, n, fs)) (hN : n ≠ 0) : (tx_w E σ)[k]? = some (E.1 k, .inl (E.2.2.1, n, .inl (σ k))) := by rw [tx_w_at E σ (tx_sh_lt h hN), tx_cell_i h]
theorem tx_w_z {E : tx_E} {σ : tx_St} {k n : Nat} {fs : List (Option Nat)} (h : tx_sh k = (1, n, fs)) (hN : n ≠ 0) : (tx_w E σ)[k]? = some (E.1 k, .inl (E.2.2.2.1, n, .inl (σ k))) := by rw [tx_w_at E σ (tx_sh_lt h hN), tx_cell_z h]
theorem tx_w_f {E : tx_E} {σ : tx_St} {k n : Nat} {fs : List (Option Nat)} (h : tx_sh k = (2, n, fs)) (hN : n ≠ 0) : (tx_w E σ)[k]? = some (E.1 k, .inl (E.2.2.2.2, n, .inr (.inr (.inr (.inr (fun j => (fs.getD j none).map E.1)))))) := by rw [tx_w_at E σ (tx_sh_lt h hN), tx_cell_f h]
theorem gx_get0 {idx ci j k N : Nat} {fs : List (Option Nat)} {v : Value} (fl : tx_FL M.1 idx ci j) (hd : decode M.2.1 pc = .ok (.getfield idx, 3)) (hs : tx_sh k = (ci + 3, N, fs)) (hN : N ≠ 0) (hv : (tx_fs E σ k fs)[j]? = some v) (kk : gx l E M T σ L (pc + 3) (v :: st)) : gx l E M T σ L pc (.ref (E.1 k) :: st) := by
  intro p e s m args below meth c hC H locs ls hP hS hL
  obtain ⟨C, F, N2, hc, hj, hin, hown, hl⟩ := fl
  rcases hl with hl | ⟨host, hl⟩
  · exact va_get hC.1 hC.2.1 hC.2.2.2.2.1 hin hC.2.2.2.1 hC.2.2.2.2.2.1 hP k (tx_w_o hs hN) hc j hj (hC.2.2.2.2.1 _ hl) (fun x h => hown ▸ h) hv hd (kk p e s m args below meth c hC H locs ls hP hS hL)
  · exact va_getN hC.1 hC.2.1 hC.2.2.2.2.1 hin hC.2.2.2.1 hC.2.2.2.2.2.1 hP k (tx_w_o hs hN) hc j hj (hC.2.2.2.2.1 _ hl) (fun x h => hown ▸ h) hv hd (kk p e s m args below meth c hC H locs ls hP hS hL)
theorem gx_getI {idx ci j k N : Nat} {fs : List (Option Nat)} (v : Int32) (fl : tx_FL M.1 idx ci j) (hd : decode M.2.1 pc = .ok (.getfield idx, 3)) (hs : tx_sh k = (ci + 3, N, fs)) (hN : N ≠ 0) (hf : fs[j]? = some none) (hv : σ k j = v) (kk : gx l E M T σ L (pc + 3) (.int v :: st)) : gx l E M T σ L pc (.ref (E.1 k) :: st) :=
  gx_get0 (v := .int v) fl hd hs hN (by rw [tx_fs_get hf, ← hv]; rfl) kk
theorem gx_getR {idx ci j k N : Nat} {fs : List (Option Nat)} (q : Nat) (fl : tx_FL M.1 idx ci j) (hd : decode M.2.1 pc = .ok (.getfield idx, 3)) (hs : tx_sh k = (ci + 3, N, fs)) (hN : N ≠ 0) (hf : fs[j]? = some (some q)) (kk : gx l E M T σ L (pc + 3) (.ref (E.1 q) :: st)) : gx l E M T σ L pc (.ref (E.1 k) :: st) :=
  gx_get0 fl hd hs hN (tx_fs_get hf) kk
theorem gx_put {idx ci j k N : Nat} {fs : List (Option Nat)} {x : Int32} {ty : FieldType} (fl : tx_FP M.1 idx ci j ty) (hd : decode M.2.1 pc = .ok (.putfield idx, 3)) (hs : tx_sh k = (ci + 3, N, fs)) (hN : N ≠ 0) (hf : fs[j]? = some none) (hx : narrow ty (.int x) = .int x) (hx2 : fits ty (.int x) = true) (kk : gx l E M T (tx_up σ k j x) L (pc + 3) st) : gx l E M T σ L pc (.int x :: .ref (E.1 k) :: st) := by
  intro p e s m args below meth c hC H locs ls hP hS hL
  obtain ⟨C, F, N2, ty0, hc, hj, hin, hown, hl, ht0, hnm, hfin, hty⟩ := fl
  have hlen : j < (tx_fs E σ k fs).length := by
    have := (List.getElem?_eq_some_iff.mp hf).1
    simpa [tx_fs] using this
  have hset : (tx_w E σ).set k (E.1 k, .inr (ci, (tx_fs E σ k fs).set j (.int x))) = tx_w E (tx_up σ k j x) :=
    tx_w_set (tx_sh_lt hs hN) (fun c h => tx_up_ne σ j x h) (by rw [tx_cell_o hs, tx_fs_set hf])
  have go : ∀ (H1 : Heap) (locs1 : List Loc), va_P E.2.1 tx_cl ((tx_w E σ).set k (E.1 k, .inr (ci, (tx_fs E σ k fs).set j (.int x)))) H1 → va_D (tx_A E) ((tx_w E σ).set k (E.1 k, .inr (ci, (tx_fs E σ k fs).set j (.int x)))) → va_S (tx_A E) s.heap H1 locs1 → W p l e M.2.2.2.2 s m args below meth c H1 locs1 0 0 (MQ below (tx_Q E T) args s 0 0 (tx_A E)) (F0 m (pc + 3) ls st) := by
    intro H1 locs1 hP1 _ hS1
    rw [hset] at hP1
    exact kk p e s m args below meth c hC H1 locs1 ls hP1 hS1 hL
  rcases hl with hl | ⟨host, hl⟩
  · exact va_put hC.1 hC.2.1 hC.2.2.2.2.1 hin ty0 ht0 hnm hC.2.2.2.1 hC.2.2.2.2.2.1 hP (tx_D hC.2.2.2.2.2.2.2.2 σ) hS k (tx_w_o hs hN) hc j hj (hC.2.2.2.2.1 _ hl) (fun x h => hown ▸ h) hfin hty hx hx2 hlen hd go
  · exact va_putN hC.1 hC.2.1 hC.2.2.2.2.1 hin ty0 ht0 hnm hC.2.2.2.1 hC.2.2.2.2.2.1 hP (tx_D hC.2.2.2.2.2.2.2.2 σ) hS k (tx_w_o hs hN) hc j hj (hC.2.2.2.2.1 _ hl) (fun x h => hown ▸ h) hfin hty hx hx2 hlen hd go
theorem gx_putI {idx ci j k N : Nat} {fs : List (Option Nat)} {x : Int32} (fl : tx_FP M.1 idx ci j .int) (hd : decode M.2.1 pc = .ok (.putfield idx, 3)) (hs : tx_sh k = (ci + 3, N, fs)) (hN : N ≠ 0) (hf : fs[j]? = some none) (kk : gx l E M T (tx_up σ k j x) L (pc + 3) st) : gx l E M T σ L pc (.int x :: .ref (E.1 k) :: st) :=
  gx_put fl hd hs hN hf rfl rfl kk
theorem gx_putZ {idx ci j k N : Nat} {fs : List (Option Nat)} {x : Int32} (fl : tx_FP M.1 idx ci j .boolean) (hd : decode M.2.1 pc = .ok (.putfield idx, 3)) (hs : tx_sh k = (ci + 3, N, fs)) (hN : N ≠ 0) (hf : fs[j]? = some none) (hv : x = 0 ∨ x = 1) (kk : gx l E M T (tx_up σ k j x) L (pc + 3) st) : gx l E M T σ L pc (.int x :: .ref (E.1 k) :: st) :=
  gx_put fl hd hs hN hf (by rcases hv with rfl | rfl <;> rfl) (by rcases hv with rfl | rfl <;> rfl) kk
theorem gx_iald {k n : Nat} {fs : List (Option Nat)} {i : Int32} (v : Int32) (hd : decode M.2.1 pc = .ok (.iaload, 1)) (hs : tx_sh k = (0, n, fs)) (hin : vp_in i n) (hv : σ k i.toNatClampNeg = v) (kk : gx l E M T σ L (pc + 1) (.int v :: st)) : gx l E M T σ L pc (.int i :: .ref (E.1 k) :: st) := by
  intro p e s m args below meth c hC H locs ls hP hS hL
  have hN : n ≠ 0 := fun h => hin (Or.inr (by omega))
  refine va_iald hC.1 hC.2.1 hC.2.2.2.2.2.1 hP k 0 (tx_w_i hs hN) rfl hin hd ?_
  rw [hv]
  exact kk p e s m args below meth c hC H locs ls hP hS hL
theorem gx_zald {k n : Nat} {fs : List (Option Nat)} {i : Int32} (v : Int32) (hd : decode M.2.1 pc = .ok (.baload, 1)) (hs : tx_sh k = (1, n, fs)) (hin : vp_in i n) (hv : σ k i.toNatClampNeg = v) (kk : gx l E M T σ L (pc + 1) (.int v :: st)) : gx l E M T σ L pc (.int i :: .ref (E.1 k) :: st) := by
  intro p e s m args below meth c hC H locs ls hP hS hL
  have hN : n ≠ 0 := fun h => hin (Or.inr (by omega))
  refine va_zald hC.1 hC.2.1 hC.2.2.2.2.2.1 hP k 1 (tx_w_z hs hN) rfl hin hd ?_
  rw [hv]
  exact kk p e s m args below meth c hC H locs ls hP hS hL
theorem gx_iast {k n : Nat} {fs : List (Option Nat)} {i x : Int32} (hd : decode M.2.1 pc = .ok (.iastore, 1)) (hs : tx_sh k = (0, n, fs)) (hin : vp_in i n) (kk : gx l E M T (tx_up σ k i.toNatClampNeg x) L (pc + 1) st) : gx l E M T σ L pc (.int x :: .int i :: .ref (E.1 k) :: st) := by
  intro p e s m args below meth c hC H locs ls hP hS hL
  have hN : n ≠ 0 := fun h => hin (Or.inr (by omega))
  refine va_iast hC.1 hC.2.1 hC.2.2.2.2.2.1 hP (tx_D hC.2.2.2.2.2.2.2.2 σ) hS k 0 (tx_w_i hs hN) rfl hin hd (fun H1 locs1 hP1 _ hS1 => ?_)
  rw [tx_w_set (σ' := tx_up σ k i.toNatClampNeg x) (tx_sh_lt hs hN) (fun c h => tx_up_ne σ _ x h) (by rw [tx_cell_i hs, tx_up_at])] at hP1
  exact kk p e s m args below meth c hC H1 locs1 ls hP1 hS1 hL
theorem gx_zast {k n : Nat} {fs : List (Option Nat)} {i x : Int32} (hd : decode M.2.1 pc = .ok (.bastore, 1)) (hs : tx_sh k = (1, n, fs)) (hin : vp_in i n) (hv : x = 0 ∨ x = 1) (kk : gx l E M T (tx_up σ k i.toNatClampNeg x) L (pc + 1) st) : gx l E M T σ L pc (.int x :: .int i :: .ref (E.1 k) :: st) := by
  intro p e s m args below meth c hC H locs ls hP hS hL
  have hN : n ≠ 0 := fun h => hin (Or.inr (by omega))
  have hx : vp_nar .boolean x = x := by rcases hv with rfl | rfl <;> rfl
  refine va_zast hC.1 hC.2.1 hC.2.2.2.2.2.1 hP (tx_D hC.2.2.2.2.2.2.2.2 σ) hS k 1 (tx_w_z hs hN) rfl hin hd (fun H1 locs1 hP1 _ hS1 => ?_)
  rw [hx, tx_w_set (σ' := tx_up σ k i.toNatClampNeg x) (tx_sh_lt hs hN) (fun c h => tx_up_ne σ _ x h) (by rw [tx_cell_z hs, tx_up_at])] at hP1
  exact kk p e s m args below meth c hC H1 locs1 ls hP1 hS1 hL
theorem gx_aald {k n q : Nat} {fs : List (Option Nat)} {i : Int32} (hd : decode M.2.1 pc = .ok (.aaload, 1)) (hs : tx_sh k = (2, n, fs)) (hin : vp_in i n) (hq : fs.getD i.toNatClampNeg none = some q) (kk : gx l E M T σ L (pc + 1) (.ref (E.1 q) :: st)) : gx l E M T σ L pc (.int i :: .ref (E.1 k) :: st) := by
  intro p e s m args below meth c hC H locs ls hP hS hL
  have hN : n ≠ 0 := fun h => hin (Or.inr (by omega))
  refine va_aldq hC.1 hC.2.1 hC.2.2.2.2.2.1 hP k 2 (tx_w_f hs hN) rfl hin hd ?_
  rw [hq]
  exact kk p e s m args below meth c hC H locs ls hP hS hL
theorem gx_alen {k n : Nat} {fs : List (Option Nat)} (v : Int32) (hd : decode M.2.1 pc = .ok (.arraylength, 1)) (hs : tx_sh k = (0, n, fs)) (hN : n ≠ 0) (hv : Int32.ofNat n = v) (kk : gx l E M T σ L (pc + 1) (.int v :: st)) : gx l E M T σ L pc (.ref (E.1 k) :: st) := by
  intro p e s m args below meth c hC H locs ls hP hS hL
  exact va_alen hC.1 hC.2.1 hC.2.2.2.2.2.1 hP k 0 (tx_w_i hs hN) rfl hv hd (kk p e s m args below meth c hC H locs ls hP hS hL)
/-- a room by its height -/
def tx_fit (My M : tx_M) : Prop := My.2.2.2.2.cells = 0 ∧ My.2.2.2.2.slots = 0 ∧ My.2.2.2.2.frames + 1 ≤ M.2.2.2.2.frames ∧ 8 + (My.2.2.1 + 11) + My.2.2.2.2.locals ≤ M.2.2.2.2.locals
theorem tx_blind {E : tx_E} {σ : tx_St} {av : List Value} : FrameBlind (va_Pc av (fun U => tx_J E ∧ va_P E.2.1 tx_cl (tx_w E σ) U.heap ∧ va_K E.2.1 tx_cl (tx_ty E) U)) := fun a U g mk q => by
  obtain ⟨q0, q1, q2, q3⟩ := q
  exact ⟨q0, q1, q2, va_K.moved (u := U) (U := U.calling g mk a) (Vm.Alike.refl U.vm) q3⟩
theorem tx_good (h : ∀ w ∈ tx_ws, goodWord w = true) {y : MethodName} {b : ByteArray} {n : Nat} {r : Option FieldType} (hc : Cond.code y b n r ∈ tx_ws) : GoodIn tx_ws (Cond.code y b n r :: tx_ws) := by
  intro w hw
  rcases List.mem_cons.mp hw with rfl | hw
  · exact ⟨hc, Or.inl rfl⟩
  · exact ⟨hw, good_of_word (h w hw)⟩
/-- behind a call: the world as the callee left it -/
theorem tx_run {p : Program} {e : Env} {R : Room} {s : State} {m : MethodId} {args : Array Value} {below : List Frame} {meth : Method} {c : Code} {H : Heap} {locs : List Loc} {Q : State → Prop} {l : Launch} {E : tx_E} {Ty : tx_R} {pc : Nat} {ls : Array Slot} {rest st0 : List Value} {a : Array Value}
    (hr : va_Run p l e R s m args below meth c H locs 0 0 0 0 (F0 m pc ls st0) rest (tx_Q E Ty a) (tx_A E)) (hS : va_S (tx_A E) s.heap H locs)
    (kk : ∀ (H1 : Heap) (locs1 : List Loc), va_P E.2.1 tx_cl (tx_w E Ty.2) H1 → va_S (tx_A E) s.heap H1 locs1 → W p l e R s m args below meth c H1 locs1 0 0 Q (F0 m (pc + 3) ls (Ty.1.toList ++ rest))) : W p l e R s m args below meth c H locs 0 0 Q (F0 m pc ls st0) := by
  intro T hT X
  obtain ⟨v, st₀, t, T', L, h0, X', hL, e1, e2, ⟨hv, hp, hb, hz, hk⟩, st⟩ := hr T hT X
  cases hv
  rw [h0] at hz hk
  obtain ⟨t2, a1, b1⟩ := kk T'.heap (locs ++ L) (by rw [e1]; exact hp)
    ⟨Nat.le_trans hS.1 (by rw [e1]; exact hz), fun q h1 h2 => by rw [e1, hk q (Nat.lt_of_lt_of_le h1 hS.1) h2]; exact hS.2.1 q h1 h2, fun q hq => by
      rcases List.mem_append.mp hq with h | h
      · exact hS.2.2 q h
      · exact hL q h⟩ T' rfl X'
  exact ⟨t2, st t2 a1, b1⟩

/-- what the tables say of a method that is called -/
def tx_CM (y : MethodName) (My : tx_M) (n : Nat) : Prop := My.1 = y.cls ∧ Cond.code y My.2.1 My.2.2.1 My.2.2.2.1 ∈ tx_ws ∧ Cond.initialized y.cls ∈ tx_ws ∧ (y.cls ≠ "java/lang/invoke/MethodHandle" ∧ y.cls ≠ "java/lang/invoke/VarHandle" ∧ (parseMethodDescriptor y.desc).map (fun d => d.parameters.length) = some n)
def tx_CV (y : MethodName) (My : tx_M) (n ci : Nat) : Prop := tx_CM y My n ∧ Cond.instanceMethod y ∈ tx_ws ∧ Cond.selects y.cls y y ∈ tx_ws ∧ ∃ (F : u_T) (N : Nat), tx_cl[ci]? = some (y.cls, F, N)
def tx_CS (y : MethodName) (My : tx_M) (n : Nat) : Prop := tx_CM y My n ∧ Cond.static y ∈ tx_ws
def tx_LK (own : String) (idx : Nat) (y : MethodName) : Prop := Cond.methodLink own idx y ∈ tx_ws ∨ ∃ host, Cond.methodLinkNest own idx y host ∈ tx_ws
theorem tx_ws_good : ∀ w ∈ tx_ws, goodWord w = true := fun w hw => (List.mem_filter.mp hw).2
theorem gx_callV {idx n ci k N : Nat} {y : MethodName} {My : tx_M} {Ty : tx_R} {As rest st0 : List Value} {fs : List (Option Nat)} (cm : tx_CV y My n ci) (lk : tx_LK M.1 idx y) (hM : tx_MX l E y My Ty (.ref (E.1 k) :: As) σ) (hs : tx_sh k = (ci + 3, N, fs)) (hN : N ≠ 0) (hn : As.length = n) (hst : st0 = As.reverse ++ .ref (E.1 k) :: rest) (hfit : tx_fit My M) (hW : (rest.map fun v => v.category).sum ≤ 8) (hd : decode M.2.1 pc = .ok (.invokevirtual idx, 3)) (kk : gx l E M T Ty.2 L (pc + 3) (Ty.1.toList ++ rest)) : gx l E M T σ L pc st0 := by
  intro p e s m args below meth c hC H locs ls hP hS hL
  subst hst
  obtain ⟨⟨hcl, hcode, hini, hd1, hd2, hpn⟩, hinst, hsel, F, N2, hci⟩ := cm
  obtain ⟨f1, f2, f3, f4⟩ := hfit
  have hts := hC.2.2.2.2.1
  have hpre : PreV s H y.cls (E.1 k) (va_Pc (.ref (E.1 k) :: As) (fun U => tx_J E ∧ va_P E.2.1 tx_cl (tx_w E σ) U.heap ∧ va_K E.2.1 tx_cl (tx_ty E) U)) As :=
    ⟨tx_blind, va_recv hC.2.2.2.2.2.1 hP hci (tx_w_o hs hN), fun U hU hW => ⟨rfl, hC.2.2.2.2.2.2.2.2, by rw [hU]; exact hP, va_K.moved hW.alike hC.2.2.2.2.2.1⟩⟩
  rcases lk with lk | ⟨host, lk⟩
  · exact tx_run (va_runV (As := As) (rest := rest) ⟨hC.1, hC.2.1, hC.2.2.1, hC.2.2.2.1, hts⟩ hM ⟨callB_of n hts (tx_good tx_ws_good hcode) rfl f1 f2 (hts _ hini) (hts _ lk) ⟨hd1, hd2, hpn⟩ ⟨f3, f4⟩, hts _ hinst, hts _ hsel⟩ hpre rfl hn hL.1 rfl (lv_room hW) hd ⟨Nat.zero_le _, Nat.zero_le _⟩) hS (fun H1 locs1 hP1 hS1 => kk p e s m args below meth c hC H1 locs1 ls hP1 hS1 hL)
  · exact tx_run (va_runVN (As := As) (rest := rest) ⟨hC.1, hC.2.1, hC.2.2.1, hC.2.2.2.1, hts⟩ hM ⟨va_cnB n hts (tx_good tx_ws_good hcode) rfl f1 f2 (va_Nw.of rfl (hts _ lk)) (hts _ hini) ⟨hd1, hd2, hpn⟩ ⟨f3, f4⟩, hts _ hinst, hts _ hsel⟩ hpre rfl hn hL.1 rfl (lv_room hW) hd ⟨Nat.zero_le _, Nat.zero_le _⟩) hS (fun H1 locs1 hP1 hS1 => kk p e s m args below meth c hC H1 locs1 ls hP1 hS1 hL)
theorem gx_callS {idx n : Nat} {y : MethodName} {My : tx_M} {Ty : tx_R} {As rest st0 : List Value} (cm : tx_CS y My n) (lk : tx_LK M.1 idx y) (hM : tx_MX l E y My Ty As σ) (hn : As.length = n) (hst : st0 = As.reverse ++ rest) (hfit : tx_fit My M) (hW : (rest.map fun v => v.category).sum ≤ 8) (hd : decode M.2.1 pc = .ok (.invokestatic idx, 3)) (kk : gx l E M T Ty.2 L (pc + 3) (Ty.1.toList ++ rest)) : gx l E M T σ L pc st0 := by
  intro p e s m args below meth c hC H locs ls hP hS hL
  subst hst
  obtain ⟨⟨hcl, hcode, hini, hd1, hd2, hpn⟩, hstat⟩ := cm
  obtain ⟨f1, f2, f3, f4⟩ := hfit
  have hts := hC.2.2.2.2.1
  have hpre : PreS s H (va_Pc As (fun U => tx_J E ∧ va_P E.2.1 tx_cl (tx_w E σ) U.heap ∧ va_K E.2.1 tx_cl (tx_ty E) U)) As :=
    ⟨tx_blind, fun U hU hW => ⟨rfl, hC.2.2.2.2.2.2.2.2, by rw [hU]; exact hP, va_K.moved hW.alike hC.2.2.2.2.2.1⟩⟩
  rcases lk with lk | ⟨host, lk⟩
  · exact tx_run (va_runS (As := As) (rest := rest) ⟨hC.1, hC.2.1, hC.2.2.1, hC.2.2.2.1, hts⟩ hM ⟨callB_of n hts (tx_good tx_ws_good hcode) rfl f1 f2 (hts _ hini) (hts _ lk) ⟨hd1, hd2, hpn⟩ ⟨f3, f4⟩, hts _ hstat⟩ hpre rfl hn hL.1 rfl (lv_room hW) hd ⟨Nat.zero_le _, Nat.zero_le _⟩) hS (fun H1 locs1 hP1 hS1 => kk p e s m args below meth c hC H1 locs1 ls hP1 hS1 hL)
  · exact tx_run (va_runSN (As := As) (rest := rest) ⟨hC.1, hC.2.1, hC.2.2.1, hC.2.2.2.1, hts⟩ hM ⟨va_cnB n hts (tx_good tx_ws_good hcode) rfl f1 f2 (va_Nw.of rfl (hts _ lk)) (hts _ hini) ⟨hd1, hd2, hpn⟩ ⟨f3, f4⟩, hts _ hstat, trivial⟩ hpre rfl hn hL.1 rfl (lv_room hW) hd ⟨Nat.zero_le _, Nat.zero_le _⟩) hS (fun H1 locs1 hP1 hS1 => kk p e s m args below meth c hC H1 locs1 ls hP1 hS1 hL)

end GX
end
section
/-! The words in which the printed functions are written, and what 'some' says of each. -/
def tx_fu : Nat := 400
def tx_rd {β : Type} (σ : tx_St) (c n : Nat) (i : Int32) (k : Int32 → Option β) : Option β := if i < 0 ∨ n ≤ i.toNatClampNeg then none else k (σ c i.toNatClampNeg)
def tx_wr {β : Type} (σ : tx_St) (c n : Nat) (i x : Int32) (k : tx_St → Option β) : Option β := if i < 0 ∨ n ≤ i.toNatClampNeg then none else k (tx_up σ c i.toNatClampNeg x)
def tx_wz {β : Type} (σ : tx_St) (c n : Nat) (i x : Int32) (k : tx_St → Option β) : Option β := if i < 0 ∨ n ≤ i.toNatClampNeg then none else if x = 0 ∨ x = 1 then k (tx_up σ c i.toNatClampNeg x) else none
def tx_pt {β : Type} (σ : tx_St) (c j : Nat) (x : Int32) (k : tx_St → Option β) : Option β := k (tx_up σ c j x)
def tx_pz {β : Type} (σ : tx_St) (c j : Nat) (x : Int32) (k : tx_St → Option β) : Option β := if x = 0 ∨ x = 1 then k (tx_up σ c j x) else none
def tx_rf {β : Type} (i : Int32) (k : Nat → Option β) : Option β := if i < 0 ∨ 6 ≤ i.toNatClampNeg then none else k (27 + 3 * i.toNatClampNeg)
def tx_ci {β : Type} (o : Option (Int32 × tx_St)) (k : Int32 → tx_St → Option β) : Option β := match o with
  | none => none
  | some t => k t.1 t.2
def tx_cl8 {β : Type} (o : Option (Int64 × tx_St)) (k : Int64 → tx_St → Option β) : Option β := match o with
  | none => none
  | some t => k t.1 t.2
def tx_cv {β : Type} (o : Option tx_St) (k : tx_St → Option β) : Option β := match o with
  | none => none
  | some t => k t
def tx_rz (v : Int32) (σ : tx_St) : Option (Int32 × tx_St) := if v = 0 ∨ v = 1 then some (v, σ) else none
theorem tx_ifp {c : Prop} [Decidable c] {α : Type} {a b t : α} (h : c) (hT : (if c then a else b) = t) : a = t := by rwa [if_pos h] at hT
theorem tx_ifn {c : Prop} [Decidable c] {α : Type} {a b t : α} (h : ¬ c) (hT : (if c then a else b) = t) : b = t := by rwa [if_neg h] at hT
theorem tx_inc {x c : Int32} {n : Int} (h : Int32.ofInt n = c) : x + Int32.ofInt n = x + c := by rw [h]
theorem tx_rd_some {β : Type} {σ : tx_St} {c n : Nat} {i : Int32} {k : Int32 → Option β} {t : β} (h : tx_rd σ c n i k = some t) : ∃ v, σ c i.toNatClampNeg = v ∧ vp_in i n ∧ k v = some t := by
  unfold tx_rd at h
  split at h
  · cases h
  · rename_i hn
    exact ⟨_, rfl, hn, h⟩
theorem tx_wr_some {β : Type} {σ : tx_St} {c n : Nat} {i x : Int32} {k : tx_St → Option β} {t : β} (h : tx_wr σ c n i x k = some t) : ∃ s, tx_up σ c i.toNatClampNeg x = s ∧ vp_in i n ∧ k s = some t := by
  unfold tx_wr at h
  split at h
  · cases h
  · rename_i hn
    exact ⟨_, rfl, hn, h⟩
theorem tx_wz_some {β : Type} {σ : tx_St} {c n : Nat} {i x : Int32} {k : tx_St → Option β} {t : β} (h : tx_wz σ c n i x k = some t) : ∃ s, tx_up σ c i.toNatClampNeg x = s ∧ vp_in i n ∧ (x = 0 ∨ x = 1) ∧ k s = some t := by
  unfold tx_wz at h
  split at h
  · cases h
  · rename_i hn
    split at h
    · rename_i hx
      exact ⟨_, rfl, hn, hx, h⟩
    · cases h
theorem tx_pt_some {β : Type} {σ : tx_St} {c j : Nat} {x : Int32} {k : tx_St → Option β} {t : β} (h : tx_pt σ c j x k = some t) : ∃ s, tx_up σ c j x = s ∧ k s = some t := ⟨_, rfl, h⟩
theorem tx_pz_some {β : Type} {σ : tx_St} {c j : Nat} {x : Int32} {k : tx_St → Option β} {t : β} (h : tx_pz σ c j x k = some t) : ∃ s, tx_up σ c j x = s ∧ (x = 0 ∨ x = 1) ∧ k s = some t := by
  unfold tx_pz at h
  split at h
  · rename_i hx
    exact ⟨_, rfl, hx, h⟩
  · cases h
theorem tx_rz_some {v : Int32} {σ : tx_St} {t : Int32 × tx_St} (h : tx_rz v σ = some t) : (v = 0 ∨ v = 1) ∧ some (v, σ) = some t := by
  unfold tx_rz at h
  split at h
  · rename_i hx
    exact ⟨hx, h⟩
  · cases h
theorem tx_ci_some {β : Type} {o : Option (Int32 × tx_St)} {k : Int32 → tx_St → Option β} {t : β} (h : tx_ci o k = some t) : ∃ r s, o = some (r, s) ∧ k r s = some t := by
  cases o with
  | none => cases h
  | some q => exact ⟨q.1, q.2, rfl, h⟩
theorem tx_cl_some {β : Type} {o : Option (Int64 × tx_St)} {k : Int64 → tx_St → Option β} {t : β} (h : tx_cl8 o k = some t) : ∃ r s, o = some (r, s) ∧ k r s = some t := by
  cases o with
  | none => cases h
  | some q => exact ⟨q.1, q.2, rfl, h⟩
theorem tx_cv_some {β : Type} {o : Option tx_St} {k : tx_St → Option β} {t : β} (h : tx_cv o k = some t) : ∃ s, o = some s ∧ k s = some t := by
  cases o with
  | none => cases h
  | some q => exact ⟨q, rfl, h⟩
/-- the six frames' places -/
def tx_isFr (q : Nat) : Prop := q = 27 ∨ q = 30 ∨ q = 33 ∨ q = 36 ∨ q = 39 ∨ q = 42
theorem tx_fr0 {q : Nat} (h : tx_isFr q) : tx_sh q = (tx_cFr + 3, 5, [none, none, some (q + 1), some (q + 2), none]) := by rcases h with rfl | rfl | rfl | rfl | rfl | rfl <;> rfl
theorem tx_fr1 {q : Nat} (h : tx_isFr q) : tx_sh (q + 1) = (0, 3, []) := by rcases h with rfl | rfl | rfl | rfl | rfl | rfl <;> rfl
theorem tx_fr2 {q : Nat} (h : tx_isFr q) : tx_sh (q + 2) = (0, 4, []) := by rcases h with rfl | rfl | rfl | rfl | rfl | rfl <;> rfl
def tx_frs : List (Option Nat) := [some 27, some 30, some 33, some 36, some 39, some 42]
theorem tx_frs_at {i : Nat} (h : i < 6) : tx_frs.getD i none = some (27 + 3 * i) ∧ tx_isFr (27 + 3 * i) := by
  rcases (by omega : i = 0 ∨ i = 1 ∨ i = 2 ∨ i = 3 ∨ i = 4 ∨ i = 5) with rfl | rfl | rfl | rfl | rfl | rfl <;> exact ⟨rfl, by simp [tx_isFr]⟩
theorem tx_rf_some {β : Type} {i : Int32} {k : Nat → Option β} {t : β} (h : tx_rf i k = some t) : ∃ q, tx_frs.getD i.toNatClampNeg none = some q ∧ vp_in i 6 ∧ tx_isFr q ∧ k q = some t := by
  unfold tx_rf at h
  split at h
  · cases h
  · rename_i hn
    have hl : i.toNatClampNeg < 6 := Nat.not_le.mp fun z => hn (Or.inr z)
    exact ⟨_, (tx_frs_at hl).1, hn, (tx_frs_at hl).2, h⟩
end
section
theorem tx_in_u {C : String} {F : u_T} {N : Nat} (h : ∀ k, k < N → u_lay C F k ∈ tx_ws) : ∀ w ∈ u_ws C F N, w ∈ tx_ws := by
  intro w hw
  obtain ⟨k, hk, rfl⟩ := List.mem_map.mp hw
  exact h k (List.mem_range.mp hk)
theorem in_X : ∀ w ∈ u_ws R_X F_X 8, w ∈ tx_ws := tx_in_u (fun k hk => match k, hk with
  | 0, _ => tw_2_4
  | 1, _ => tw_2_6
  | 2, _ => tw_2_8
  | 3, _ => tw_2_10
  | 4, _ => tw_2_12
  | 5, _ => tw_2_14
  | 6, _ => tw_2_16
  | 7, _ => tw_2_18
  | q + 8, h => absurd h (by omega))
theorem in_Plan : ∀ w ∈ u_ws R_Plan F_Plan 16, w ∈ tx_ws := tx_in_u (fun k hk => match k, hk with
  | 0, _ => tw_1_74
  | 1, _ => tw_1_76
  | 2, _ => tw_1_78
  | 3, _ => tw_1_80
  | 4, _ => tw_1_82
  | 5, _ => tw_1_84
  | 6, _ => tw_1_86
  | 7, _ => tw_1_88
  | 8, _ => tw_1_90
  | 9, _ => tw_1_92
  | 10, _ => tw_1_94
  | 11, _ => tw_1_96
  | 12, _ => tw_1_98
  | 13, _ => tw_1_100
  | 14, _ => tw_1_102
  | 15, _ => tw_1_104
  | q + 16, h => absurd h (by omega))
theorem in_Fitting : ∀ w ∈ u_ws R_Fitting F_Fitting 9, w ∈ tx_ws := tx_in_u (fun k hk => match k, hk with
  | 0, _ => tw_1_124
  | 1, _ => tw_1_126
  | 2, _ => tw_1_128
  | 3, _ => tw_1_130
  | 4, _ => tw_1_132
  | 5, _ => tw_1_134
  | 6, _ => tw_1_136
  | 7, _ => tw_1_138
  | 8, _ => tw_1_140
  | q + 9, h => absurd h (by omega))
theorem in_Rules : ∀ w ∈ u_ws R_Rules F_Rules 2, w ∈ tx_ws := tx_in_u (fun k hk => match k, hk with
  | 0, _ => tw_1_151
  | 1, _ => tw_1_153
  | q + 2, h => absurd h (by omega))
theorem in_Heap : ∀ w ∈ u_ws R_Heap F_Heap 5, w ∈ tx_ws := tx_in_u (fun k hk => match k, hk with
  | 0, _ => tw_1_169
  | 1, _ => tw_1_171
  | 2, _ => tw_1_173
  | 3, _ => tw_1_175
  | 4, _ => tw_1_177
  | q + 5, h => absurd h (by omega))
theorem in_Machine : ∀ w ∈ u_ws R_Machine F_Machine 7, w ∈ tx_ws := tx_in_u (fun k hk => match k, hk with
  | 0, _ => tw_1_221
  | 1, _ => tw_1_223
  | 2, _ => tw_1_225
  | 3, _ => tw_1_227
  | 4, _ => tw_1_229
  | 5, _ => tw_1_231
  | 6, _ => tw_1_233
  | q + 7, h => absurd h (by omega))
theorem in_Frame : ∀ w ∈ u_ws R_Frame F_Frame 5, w ∈ tx_ws := tx_in_u (fun k hk => match k, hk with
  | 0, _ => tw_1_201
  | 1, _ => tw_1_203
  | 2, _ => tw_1_205
  | 3, _ => tw_1_207
  | 4, _ => tw_1_209
  | q + 5, h => absurd h (by omega))
theorem in_Mo : ∀ w ∈ u_ws R_Mo F_Mo 35, w ∈ tx_ws := tx_in_u (fun k hk => match k, hk with
  | 0, _ => tw_3_196
  | 1, _ => tw_3_198
  | 2, _ => tw_3_200
  | 3, _ => tw_3_202
  | 4, _ => tw_3_204
  | 5, _ => tw_3_206
  | 6, _ => tw_3_208
  | 7, _ => tw_3_210
  | 8, _ => tw_3_212
  | 9, _ => tw_3_214
  | 10, _ => tw_3_216
  | 11, _ => tw_3_218
  | 12, _ => tw_3_220
  | 13, _ => tw_3_222
  | 14, _ => tw_3_224
  | 15, _ => tw_3_226
  | 16, _ => tw_3_228
  | 17, _ => tw_3_230
  | 18, _ => tw_3_232
  | 19, _ => tw_3_234
  | 20, _ => tw_3_236
  | 21, _ => tw_3_238
  | 22, _ => tw_4_0
  | 23, _ => tw_4_2
  | 24, _ => tw_4_4
  | 25, _ => tw_4_6
  | 26, _ => tw_4_8
  | 27, _ => tw_4_10
  | 28, _ => tw_4_12
  | 29, _ => tw_4_14
  | 30, _ => tw_4_16
  | 31, _ => tw_4_18
  | 32, _ => tw_4_20
  | 33, _ => tw_4_22
  | 34, _ => tw_4_24
  | q + 35, h => absurd h (by omega))
theorem fl_Fitting_135 : tx_FL "TamedClassSet$Fitting" 135 1 12 := ⟨R_Plan, F_Plan, 16, rfl, by decide, in_Plan, rfl, Or.inl tw_1_61⟩
theorem fl_Fitting_147 : tx_FL "TamedClassSet$Fitting" 147 1 1 := ⟨R_Plan, F_Plan, 16, rfl, by decide, in_Plan, rfl, Or.inl tw_1_33⟩
theorem fl_Fitting_15 : tx_FL "TamedClassSet$Fitting" 15 2 2 := ⟨R_Fitting, F_Fitting, 9, rfl, by decide, in_Fitting, rfl, Or.inl tw_1_117⟩
theorem fl_Fitting_153 : tx_FL "TamedClassSet$Fitting" 153 1 7 := ⟨R_Plan, F_Plan, 16, rfl, by decide, in_Plan, rfl, Or.inl tw_1_45⟩
theorem fl_Fitting_162 : tx_FL "TamedClassSet$Fitting" 162 1 5 := ⟨R_Plan, F_Plan, 16, rfl, by decide, in_Plan, rfl, Or.inl tw_1_40⟩
theorem fl_Fitting_18 : tx_FL "TamedClassSet$Fitting" 18 2 3 := ⟨R_Fitting, F_Fitting, 9, rfl, by decide, in_Fitting, rfl, Or.inl tw_1_118⟩
theorem fl_Fitting_21 : tx_FL "TamedClassSet$Fitting" 21 2 4 := ⟨R_Fitting, F_Fitting, 9, rfl, by decide, in_Fitting, rfl, Or.inl tw_1_119⟩
theorem fl_Fitting_24 : tx_FL "TamedClassSet$Fitting" 24 2 1 := ⟨R_Fitting, F_Fitting, 9, rfl, by decide, in_Fitting, rfl, Or.inl tw_1_116⟩
theorem fl_Fitting_35 : tx_FL "TamedClassSet$Fitting" 35 2 5 := ⟨R_Fitting, F_Fitting, 9, rfl, by decide, in_Fitting, rfl, Or.inl tw_1_120⟩
theorem fl_Fitting_39 : tx_FL "TamedClassSet$Fitting" 39 2 8 := ⟨R_Fitting, F_Fitting, 9, rfl, by decide, in_Fitting, rfl, Or.inl tw_1_123⟩
theorem fl_Fitting_43 : tx_FL "TamedClassSet$Fitting" 43 2 7 := ⟨R_Fitting, F_Fitting, 9, rfl, by decide, in_Fitting, rfl, Or.inl tw_1_122⟩
theorem fl_Fitting_49 : tx_FL "TamedClassSet$Fitting" 49 1 14 := ⟨R_Plan, F_Plan, 16, rfl, by decide, in_Plan, rfl, Or.inl tw_1_67⟩
theorem fl_Fitting_54 : tx_FL "TamedClassSet$Fitting" 54 1 15 := ⟨R_Plan, F_Plan, 16, rfl, by decide, in_Plan, rfl, Or.inl tw_1_71⟩
theorem fl_Fitting_65 : tx_FL "TamedClassSet$Fitting" 65 1 13 := ⟨R_Plan, F_Plan, 16, rfl, by decide, in_Plan, rfl, Or.inl tw_1_64⟩
theorem fl_Fitting_68 : tx_FL "TamedClassSet$Fitting" 68 2 6 := ⟨R_Fitting, F_Fitting, 9, rfl, by decide, in_Fitting, rfl, Or.inl tw_1_121⟩
theorem fl_Fitting_87 : tx_FL "TamedClassSet$Fitting" 87 1 8 := ⟨R_Plan, F_Plan, 16, rfl, by decide, in_Plan, rfl, Or.inl tw_1_47⟩
theorem fl_Fitting_9 : tx_FL "TamedClassSet$Fitting" 9 2 0 := ⟨R_Fitting, F_Fitting, 9, rfl, by decide, in_Fitting, rfl, Or.inl tw_1_114⟩
theorem fl_Fitting_90 : tx_FL "TamedClassSet$Fitting" 90 1 11 := ⟨R_Plan, F_Plan, 16, rfl, by decide, in_Plan, rfl, Or.inl tw_1_54⟩
theorem fl_Frame_15 : tx_FL "TamedClassSet$Frame" 15 6 3 := ⟨R_Frame, F_Frame, 5, rfl, by decide, in_Frame, rfl, Or.inl tw_1_199⟩
theorem fl_Frame_18 : tx_FL "TamedClassSet$Frame" 18 6 0 := ⟨R_Frame, F_Frame, 5, rfl, by decide, in_Frame, rfl, Or.inl tw_1_193⟩
theorem fl_Frame_22 : tx_FL "TamedClassSet$Frame" 22 6 1 := ⟨R_Frame, F_Frame, 5, rfl, by decide, in_Frame, rfl, Or.inl tw_1_195⟩
theorem fl_Frame_25 : tx_FL "TamedClassSet$Frame" 25 6 4 := ⟨R_Frame, F_Frame, 5, rfl, by decide, in_Frame, rfl, Or.inl tw_1_200⟩
theorem fl_Heap_15 : tx_FL "TamedClassSet$Heap" 15 4 1 := ⟨R_Heap, F_Heap, 5, rfl, by decide, in_Heap, rfl, Or.inl tw_1_165⟩
theorem fl_Heap_18 : tx_FL "TamedClassSet$Heap" 18 4 2 := ⟨R_Heap, F_Heap, 5, rfl, by decide, in_Heap, rfl, Or.inl tw_1_166⟩
theorem fl_Heap_21 : tx_FL "TamedClassSet$Heap" 21 4 3 := ⟨R_Heap, F_Heap, 5, rfl, by decide, in_Heap, rfl, Or.inl tw_1_167⟩
theorem fl_Heap_25 : tx_FL "TamedClassSet$Heap" 25 4 4 := ⟨R_Heap, F_Heap, 5, rfl, by decide, in_Heap, rfl, Or.inl tw_1_168⟩
theorem fl_Heap_9 : tx_FL "TamedClassSet$Heap" 9 4 0 := ⟨R_Heap, F_Heap, 5, rfl, by decide, in_Heap, rfl, Or.inl tw_1_162⟩
theorem fl_Machine_11 : tx_FL "TamedClassSet$Machine" 11 5 4 := ⟨R_Machine, F_Machine, 7, rfl, by decide, in_Machine, rfl, Or.inl tw_1_218⟩
theorem fl_Machine_116 : tx_FL "TamedClassSet$Machine" 116 1 1 := ⟨R_Plan, F_Plan, 16, rfl, by decide, in_Plan, rfl, Or.inl tw_1_32⟩
theorem fl_Machine_128 : tx_FL "TamedClassSet$Machine" 128 1 11 := ⟨R_Plan, F_Plan, 16, rfl, by decide, in_Plan, rfl, Or.inl tw_1_57⟩
theorem fl_Machine_141 : tx_FL "TamedClassSet$Machine" 141 5 1 := ⟨R_Machine, F_Machine, 7, rfl, by decide, in_Machine, rfl, Or.inl tw_1_215⟩
theorem fl_Machine_17 : tx_FL "TamedClassSet$Machine" 17 5 2 := ⟨R_Machine, F_Machine, 7, rfl, by decide, in_Machine, rfl, Or.inl tw_1_216⟩
theorem fl_Machine_21 : tx_FL "TamedClassSet$Machine" 21 5 3 := ⟨R_Machine, F_Machine, 7, rfl, by decide, in_Machine, rfl, Or.inl tw_1_217⟩
theorem fl_Machine_26 : tx_FL "TamedClassSet$Machine" 26 5 5 := ⟨R_Machine, F_Machine, 7, rfl, by decide, in_Machine, rfl, Or.inl tw_1_219⟩
theorem fl_Machine_30 : tx_FL "TamedClassSet$Machine" 30 5 6 := ⟨R_Machine, F_Machine, 7, rfl, by decide, in_Machine, rfl, Or.inl tw_1_220⟩
theorem fl_Machine_37 : tx_FL "TamedClassSet$Machine" 37 5 0 := ⟨R_Machine, F_Machine, 7, rfl, by decide, in_Machine, rfl, Or.inl tw_1_212⟩
theorem fl_Machine_54 : tx_FL "TamedClassSet$Machine" 54 6 2 := ⟨R_Frame, F_Frame, 5, rfl, by decide, in_Frame, rfl, Or.inl tw_1_198⟩
theorem fl_Machine_58 : tx_FL "TamedClassSet$Machine" 58 4 0 := ⟨R_Heap, F_Heap, 5, rfl, by decide, in_Heap, rfl, Or.inl tw_1_163⟩
theorem fl_Machine_67 : tx_FL "TamedClassSet$Machine" 67 6 0 := ⟨R_Frame, F_Frame, 5, rfl, by decide, in_Frame, rfl, Or.inl tw_1_194⟩
theorem fl_Machine_70 : tx_FL "TamedClassSet$Machine" 70 6 1 := ⟨R_Frame, F_Frame, 5, rfl, by decide, in_Frame, rfl, Or.inl tw_1_196⟩
theorem fl_Machine_73 : tx_FL "TamedClassSet$Machine" 73 1 14 := ⟨R_Plan, F_Plan, 16, rfl, by decide, in_Plan, rfl, Or.inl tw_1_68⟩
theorem fl_Machine_76 : tx_FL "TamedClassSet$Machine" 76 1 15 := ⟨R_Plan, F_Plan, 16, rfl, by decide, in_Plan, rfl, Or.inl tw_1_72⟩
theorem fl_Mo_101 : tx_FL "TamedClassSetModel" 101 7 3 := ⟨R_Mo, F_Mo, 35, rfl, by decide, in_Mo, rfl, Or.inl tw_3_164⟩
theorem fl_Mo_111 : tx_FL "TamedClassSetModel" 111 7 23 := ⟨R_Mo, F_Mo, 35, rfl, by decide, in_Mo, rfl, Or.inl tw_3_184⟩
theorem fl_Mo_13 : tx_FL "TamedClassSetModel" 13 7 2 := ⟨R_Mo, F_Mo, 35, rfl, by decide, in_Mo, rfl, Or.inl tw_3_163⟩
theorem fl_Mo_16 : tx_FL "TamedClassSetModel" 16 7 4 := ⟨R_Mo, F_Mo, 35, rfl, by decide, in_Mo, rfl, Or.inl tw_3_165⟩
theorem fl_Mo_169 : tx_FL "TamedClassSetModel" 169 7 19 := ⟨R_Mo, F_Mo, 35, rfl, by decide, in_Mo, rfl, Or.inl tw_3_180⟩
theorem fl_Mo_19 : tx_FL "TamedClassSetModel" 19 7 5 := ⟨R_Mo, F_Mo, 35, rfl, by decide, in_Mo, rfl, Or.inl tw_3_166⟩
theorem fl_Mo_210 : tx_FL "TamedClassSetModel" 210 7 28 := ⟨R_Mo, F_Mo, 35, rfl, by decide, in_Mo, rfl, Or.inl tw_3_189⟩
theorem fl_Mo_22 : tx_FL "TamedClassSetModel" 22 7 6 := ⟨R_Mo, F_Mo, 35, rfl, by decide, in_Mo, rfl, Or.inl tw_3_167⟩
theorem fl_Mo_223 : tx_FL "TamedClassSetModel" 223 7 27 := ⟨R_Mo, F_Mo, 35, rfl, by decide, in_Mo, rfl, Or.inl tw_3_188⟩
theorem fl_Mo_226 : tx_FL "TamedClassSetModel" 226 7 20 := ⟨R_Mo, F_Mo, 35, rfl, by decide, in_Mo, rfl, Or.inl tw_3_181⟩
theorem fl_Mo_236 : tx_FL "TamedClassSetModel" 236 7 34 := ⟨R_Mo, F_Mo, 35, rfl, by decide, in_Mo, rfl, Or.inl tw_3_195⟩
theorem fl_Mo_25 : tx_FL "TamedClassSetModel" 25 7 8 := ⟨R_Mo, F_Mo, 35, rfl, by decide, in_Mo, rfl, Or.inl tw_3_169⟩
theorem fl_Mo_264 : tx_FL "TamedClassSetModel" 264 7 25 := ⟨R_Mo, F_Mo, 35, rfl, by decide, in_Mo, rfl, Or.inl tw_3_186⟩
theorem fl_Mo_28 : tx_FL "TamedClassSetModel" 28 7 9 := ⟨R_Mo, F_Mo, 35, rfl, by decide, in_Mo, rfl, Or.inl tw_3_170⟩
theorem fl_Mo_31 : tx_FL "TamedClassSetModel" 31 7 10 := ⟨R_Mo, F_Mo, 35, rfl, by decide, in_Mo, rfl, Or.inl tw_3_171⟩
theorem fl_Mo_34 : tx_FL "TamedClassSetModel" 34 7 11 := ⟨R_Mo, F_Mo, 35, rfl, by decide, in_Mo, rfl, Or.inl tw_3_172⟩
theorem fl_Mo_37 : tx_FL "TamedClassSetModel" 37 7 12 := ⟨R_Mo, F_Mo, 35, rfl, by decide, in_Mo, rfl, Or.inl tw_3_173⟩
theorem fl_Mo_40 : tx_FL "TamedClassSetModel" 40 7 13 := ⟨R_Mo, F_Mo, 35, rfl, by decide, in_Mo, rfl, Or.inl tw_3_174⟩
theorem fl_Mo_43 : tx_FL "TamedClassSetModel" 43 7 14 := ⟨R_Mo, F_Mo, 35, rfl, by decide, in_Mo, rfl, Or.inl tw_3_175⟩
theorem fl_Mo_46 : tx_FL "TamedClassSetModel" 46 7 15 := ⟨R_Mo, F_Mo, 35, rfl, by decide, in_Mo, rfl, Or.inl tw_3_176⟩
theorem fl_Mo_49 : tx_FL "TamedClassSetModel" 49 7 17 := ⟨R_Mo, F_Mo, 35, rfl, by decide, in_Mo, rfl, Or.inl tw_3_178⟩
theorem fl_Mo_52 : tx_FL "TamedClassSetModel" 52 7 18 := ⟨R_Mo, F_Mo, 35, rfl, by decide, in_Mo, rfl, Or.inl tw_3_179⟩
theorem fl_Mo_56 : tx_FL "TamedClassSetModel" 56 7 21 := ⟨R_Mo, F_Mo, 35, rfl, by decide, in_Mo, rfl, Or.inl tw_3_182⟩
theorem fl_Mo_59 : tx_FL "TamedClassSetModel" 59 7 22 := ⟨R_Mo, F_Mo, 35, rfl, by decide, in_Mo, rfl, Or.inl tw_3_183⟩
theorem fl_Mo_62 : tx_FL "TamedClassSetModel" 62 7 24 := ⟨R_Mo, F_Mo, 35, rfl, by decide, in_Mo, rfl, Or.inl tw_3_185⟩
theorem fl_Mo_65 : tx_FL "TamedClassSetModel" 65 7 26 := ⟨R_Mo, F_Mo, 35, rfl, by decide, in_Mo, rfl, Or.inl tw_3_187⟩
theorem fl_Mo_69 : tx_FL "TamedClassSetModel" 69 7 29 := ⟨R_Mo, F_Mo, 35, rfl, by decide, in_Mo, rfl, Or.inl tw_3_190⟩
theorem fl_Mo_7 : tx_FL "TamedClassSetModel" 7 7 1 := ⟨R_Mo, F_Mo, 35, rfl, by decide, in_Mo, rfl, Or.inl tw_3_162⟩
theorem fl_Mo_72 : tx_FL "TamedClassSetModel" 72 7 30 := ⟨R_Mo, F_Mo, 35, rfl, by decide, in_Mo, rfl, Or.inl tw_3_191⟩
theorem fl_Mo_75 : tx_FL "TamedClassSetModel" 75 7 31 := ⟨R_Mo, F_Mo, 35, rfl, by decide, in_Mo, rfl, Or.inl tw_3_192⟩
theorem fl_Mo_78 : tx_FL "TamedClassSetModel" 78 7 32 := ⟨R_Mo, F_Mo, 35, rfl, by decide, in_Mo, rfl, Or.inl tw_3_193⟩
theorem fl_Mo_81 : tx_FL "TamedClassSetModel" 81 7 33 := ⟨R_Mo, F_Mo, 35, rfl, by decide, in_Mo, rfl, Or.inl tw_3_194⟩
theorem fl_Mo_84 : tx_FL "TamedClassSetModel" 84 7 0 := ⟨R_Mo, F_Mo, 35, rfl, by decide, in_Mo, rfl, Or.inl tw_3_161⟩
theorem fl_Mo_91 : tx_FL "TamedClassSetModel" 91 7 7 := ⟨R_Mo, F_Mo, 35, rfl, by decide, in_Mo, rfl, Or.inl tw_3_168⟩
theorem fl_Mo_94 : tx_FL "TamedClassSetModel" 94 7 16 := ⟨R_Mo, F_Mo, 35, rfl, by decide, in_Mo, rfl, Or.inl tw_3_177⟩
theorem fl_Plan_15 : tx_FL "TamedClassSet$Plan" 15 1 4 := ⟨R_Plan, F_Plan, 16, rfl, by decide, in_Plan, rfl, Or.inl tw_1_38⟩
theorem fl_Plan_18 : tx_FL "TamedClassSet$Plan" 18 1 5 := ⟨R_Plan, F_Plan, 16, rfl, by decide, in_Plan, rfl, Or.inl tw_1_39⟩
theorem fl_Plan_21 : tx_FL "TamedClassSet$Plan" 21 1 6 := ⟨R_Plan, F_Plan, 16, rfl, by decide, in_Plan, rfl, Or.inl tw_1_41⟩
theorem fl_Plan_24 : tx_FL "TamedClassSet$Plan" 24 1 7 := ⟨R_Plan, F_Plan, 16, rfl, by decide, in_Plan, rfl, Or.inl tw_1_42⟩
theorem fl_Plan_27 : tx_FL "TamedClassSet$Plan" 27 1 8 := ⟨R_Plan, F_Plan, 16, rfl, by decide, in_Plan, rfl, Or.inl tw_1_46⟩
theorem fl_Plan_30 : tx_FL "TamedClassSet$Plan" 30 1 9 := ⟨R_Plan, F_Plan, 16, rfl, by decide, in_Plan, rfl, Or.inl tw_1_50⟩
theorem fl_Plan_33 : tx_FL "TamedClassSet$Plan" 33 1 10 := ⟨R_Plan, F_Plan, 16, rfl, by decide, in_Plan, rfl, Or.inl tw_1_51⟩
theorem fl_Plan_36 : tx_FL "TamedClassSet$Plan" 36 1 11 := ⟨R_Plan, F_Plan, 16, rfl, by decide, in_Plan, rfl, Or.inl tw_1_53⟩
theorem fl_Plan_39 : tx_FL "TamedClassSet$Plan" 39 1 12 := ⟨R_Plan, F_Plan, 16, rfl, by decide, in_Plan, rfl, Or.inl tw_1_58⟩
theorem fl_Plan_42 : tx_FL "TamedClassSet$Plan" 42 1 13 := ⟨R_Plan, F_Plan, 16, rfl, by decide, in_Plan, rfl, Or.inl tw_1_62⟩
theorem fl_Plan_45 : tx_FL "TamedClassSet$Plan" 45 1 14 := ⟨R_Plan, F_Plan, 16, rfl, by decide, in_Plan, rfl, Or.inl tw_1_66⟩
theorem fl_Plan_48 : tx_FL "TamedClassSet$Plan" 48 1 15 := ⟨R_Plan, F_Plan, 16, rfl, by decide, in_Plan, rfl, Or.inl tw_1_70⟩
theorem fl_Plan_51 : tx_FL "TamedClassSet$Plan" 51 1 0 := ⟨R_Plan, F_Plan, 16, rfl, by decide, in_Plan, rfl, Or.inl tw_1_26⟩
theorem fl_Plan_55 : tx_FL "TamedClassSet$Plan" 55 1 1 := ⟨R_Plan, F_Plan, 16, rfl, by decide, in_Plan, rfl, Or.inl tw_1_30⟩
theorem fl_Plan_58 : tx_FL "TamedClassSet$Plan" 58 1 2 := ⟨R_Plan, F_Plan, 16, rfl, by decide, in_Plan, rfl, Or.inl tw_1_35⟩
theorem fl_Plan_9 : tx_FL "TamedClassSet$Plan" 9 1 3 := ⟨R_Plan, F_Plan, 16, rfl, by decide, in_Plan, rfl, Or.inl tw_1_37⟩
theorem fl_Rules_15 : tx_FL "TamedClassSet$Rules" 15 3 1 := ⟨R_Rules, F_Rules, 2, rfl, by decide, in_Rules, rfl, Or.inl tw_1_150⟩
theorem fl_Rules_19 : tx_FL "TamedClassSet$Rules" 19 1 1 := ⟨R_Plan, F_Plan, 16, rfl, by decide, in_Plan, rfl, Or.inl tw_1_29⟩
theorem fl_Rules_32 : tx_FL "TamedClassSet$Rules" 32 1 2 := ⟨R_Plan, F_Plan, 16, rfl, by decide, in_Plan, rfl, Or.inl tw_1_34⟩
theorem fl_Rules_43 : tx_FL "TamedClassSet$Rules" 43 1 13 := ⟨R_Plan, F_Plan, 16, rfl, by decide, in_Plan, rfl, Or.inl tw_1_63⟩
theorem fl_Rules_57 : tx_FL "TamedClassSet$Rules" 57 1 7 := ⟨R_Plan, F_Plan, 16, rfl, by decide, in_Plan, rfl, Or.inl tw_1_43⟩
theorem fl_Rules_66 : tx_FL "TamedClassSet$Rules" 66 1 0 := ⟨R_Plan, F_Plan, 16, rfl, by decide, in_Plan, rfl, Or.inl tw_1_28⟩
theorem fl_Rules_73 : tx_FL "TamedClassSet$Rules" 73 1 8 := ⟨R_Plan, F_Plan, 16, rfl, by decide, in_Plan, rfl, Or.inl tw_1_48⟩
theorem fl_Rules_79 : tx_FL "TamedClassSet$Rules" 79 1 10 := ⟨R_Plan, F_Plan, 16, rfl, by decide, in_Plan, rfl, Or.inl tw_1_52⟩
theorem fl_Rules_88 : tx_FL "TamedClassSet$Rules" 88 1 11 := ⟨R_Plan, F_Plan, 16, rfl, by decide, in_Plan, rfl, Or.inl tw_1_55⟩
theorem fl_Rules_9 : tx_FL "TamedClassSet$Rules" 9 3 0 := ⟨R_Rules, F_Rules, 2, rfl, by decide, in_Rules, rfl, Or.inl tw_1_149⟩
theorem fl_Rules_91 : tx_FL "TamedClassSet$Rules" 91 1 12 := ⟨R_Plan, F_Plan, 16, rfl, by decide, in_Plan, rfl, Or.inl tw_1_59⟩
theorem fl_Rules_94 : tx_FL "TamedClassSet$Rules" 94 1 14 := ⟨R_Plan, F_Plan, 16, rfl, by decide, in_Plan, rfl, Or.inl tw_1_69⟩
theorem fl_Rules_97 : tx_FL "TamedClassSet$Rules" 97 1 15 := ⟨R_Plan, F_Plan, 16, rfl, by decide, in_Plan, rfl, Or.inl tw_1_73⟩
theorem fl_X_10 : tx_FL "TamedClassSet" 10 0 0 := ⟨R_X, F_X, 8, rfl, by decide, in_X, rfl, Or.inl tw_1_236⟩
theorem fl_X_114 : tx_FL "TamedClassSet" 114 2 0 := ⟨R_Fitting, F_Fitting, 9, rfl, by decide, in_Fitting, rfl, Or.inl tw_1_115⟩
theorem fl_X_125 : tx_FL "TamedClassSet" 125 1 11 := ⟨R_Plan, F_Plan, 16, rfl, by decide, in_Plan, rfl, Or.inl tw_1_56⟩
theorem fl_X_134 : tx_FL "TamedClassSet" 134 5 0 := ⟨R_Machine, F_Machine, 7, rfl, by decide, in_Machine, rfl, Or.inl tw_1_213⟩
theorem fl_X_139 : tx_FL "TamedClassSet" 139 1 12 := ⟨R_Plan, F_Plan, 16, rfl, by decide, in_Plan, rfl, Or.inl tw_1_60⟩
theorem fl_X_142 : tx_FL "TamedClassSet" 142 5 1 := ⟨R_Machine, F_Machine, 7, rfl, by decide, in_Machine, rfl, Or.inl tw_1_214⟩
theorem fl_X_153 : tx_FL "TamedClassSet" 153 4 0 := ⟨R_Heap, F_Heap, 5, rfl, by decide, in_Heap, rfl, Or.inl tw_1_164⟩
theorem fl_X_165 : tx_FL "TamedClassSet" 165 1 7 := ⟨R_Plan, F_Plan, 16, rfl, by decide, in_Plan, rfl, Or.inl tw_1_44⟩
theorem fl_X_174 : tx_FL "TamedClassSet" 174 1 8 := ⟨R_Plan, F_Plan, 16, rfl, by decide, in_Plan, rfl, Or.inl tw_1_49⟩
theorem fl_X_21 : tx_FL "TamedClassSet" 21 0 1 := ⟨R_X, F_X, 8, rfl, by decide, in_X, rfl, Or.inl tw_1_237⟩
theorem fl_X_30 : tx_FL "TamedClassSet" 30 0 2 := ⟨R_X, F_X, 8, rfl, by decide, in_X, rfl, Or.inl tw_1_238⟩
theorem fl_X_37 : tx_FL "TamedClassSet" 37 0 3 := ⟨R_X, F_X, 8, rfl, by decide, in_X, rfl, Or.inl tw_1_239⟩
theorem fl_X_46 : tx_FL "TamedClassSet" 46 0 4 := ⟨R_X, F_X, 8, rfl, by decide, in_X, rfl, Or.inl tw_2_0⟩
theorem fl_X_50 : tx_FL "TamedClassSet" 50 0 5 := ⟨R_X, F_X, 8, rfl, by decide, in_X, rfl, Or.inl tw_2_1⟩
theorem fl_X_54 : tx_FL "TamedClassSet" 54 0 6 := ⟨R_X, F_X, 8, rfl, by decide, in_X, rfl, Or.inl tw_2_2⟩
theorem fl_X_58 : tx_FL "TamedClassSet" 58 0 7 := ⟨R_X, F_X, 8, rfl, by decide, in_X, rfl, Or.inl tw_2_3⟩
theorem fl_X_65 : tx_FL "TamedClassSet" 65 1 0 := ⟨R_Plan, F_Plan, 16, rfl, by decide, in_Plan, rfl, Or.inl tw_1_27⟩
theorem fl_X_75 : tx_FL "TamedClassSet" 75 1 1 := ⟨R_Plan, F_Plan, 16, rfl, by decide, in_Plan, rfl, Or.inl tw_1_31⟩
theorem fl_X_85 : tx_FL "TamedClassSet" 85 1 2 := ⟨R_Plan, F_Plan, 16, rfl, by decide, in_Plan, rfl, Or.inl tw_1_36⟩
theorem fl_X_95 : tx_FL "TamedClassSet" 95 1 13 := ⟨R_Plan, F_Plan, 16, rfl, by decide, in_Plan, rfl, Or.inl tw_1_65⟩
theorem fp_Fitting_35 : tx_FP "TamedClassSet$Fitting" 35 2 5 .int := ⟨R_Fitting, F_Fitting, 9, t_Fitting, rfl, by decide, in_Fitting, rfl, Or.inl tw_1_120, k_Fitting, n_Fitting, rfl, by decide +kernel⟩
theorem fp_Fitting_39 : tx_FP "TamedClassSet$Fitting" 39 2 8 .boolean := ⟨R_Fitting, F_Fitting, 9, t_Fitting, rfl, by decide, in_Fitting, rfl, Or.inl tw_1_123, k_Fitting, n_Fitting, rfl, by decide +kernel⟩
theorem fp_Fitting_43 : tx_FP "TamedClassSet$Fitting" 43 2 7 .int := ⟨R_Fitting, F_Fitting, 9, t_Fitting, rfl, by decide, in_Fitting, rfl, Or.inl tw_1_122, k_Fitting, n_Fitting, rfl, by decide +kernel⟩
theorem fp_Fitting_68 : tx_FP "TamedClassSet$Fitting" 68 2 6 .int := ⟨R_Fitting, F_Fitting, 9, t_Fitting, rfl, by decide, in_Fitting, rfl, Or.inl tw_1_121, k_Fitting, n_Fitting, rfl, by decide +kernel⟩
theorem fp_Frame_18 : tx_FP "TamedClassSet$Frame" 18 6 0 .int := ⟨R_Frame, F_Frame, 5, t_Frame, rfl, by decide, in_Frame, rfl, Or.inl tw_1_193, k_Frame, n_Frame, rfl, by decide +kernel⟩
theorem fp_Frame_22 : tx_FP "TamedClassSet$Frame" 22 6 1 .int := ⟨R_Frame, F_Frame, 5, t_Frame, rfl, by decide, in_Frame, rfl, Or.inl tw_1_195, k_Frame, n_Frame, rfl, by decide +kernel⟩
theorem fp_Frame_25 : tx_FP "TamedClassSet$Frame" 25 6 4 .int := ⟨R_Frame, F_Frame, 5, t_Frame, rfl, by decide, in_Frame, rfl, Or.inl tw_1_200, k_Frame, n_Frame, rfl, by decide +kernel⟩
theorem fp_Heap_21 : tx_FP "TamedClassSet$Heap" 21 4 3 .int := ⟨R_Heap, F_Heap, 5, t_Heap, rfl, by decide, in_Heap, rfl, Or.inl tw_1_167, k_Heap, n_Heap, rfl, by decide +kernel⟩
theorem fp_Heap_25 : tx_FP "TamedClassSet$Heap" 25 4 4 .int := ⟨R_Heap, F_Heap, 5, t_Heap, rfl, by decide, in_Heap, rfl, Or.inl tw_1_168, k_Heap, n_Heap, rfl, by decide +kernel⟩
theorem fp_Machine_141 : tx_FP "TamedClassSet$Machine" 141 5 1 .int := ⟨R_Machine, F_Machine, 7, t_Machine, rfl, by decide, in_Machine, rfl, Or.inl tw_1_215, k_Machine, n_Machine, rfl, by decide +kernel⟩
theorem fp_Machine_26 : tx_FP "TamedClassSet$Machine" 26 5 5 .int := ⟨R_Machine, F_Machine, 7, t_Machine, rfl, by decide, in_Machine, rfl, Or.inl tw_1_219, k_Machine, n_Machine, rfl, by decide +kernel⟩
theorem fp_Machine_30 : tx_FP "TamedClassSet$Machine" 30 5 6 .int := ⟨R_Machine, F_Machine, 7, t_Machine, rfl, by decide, in_Machine, rfl, Or.inl tw_1_220, k_Machine, n_Machine, rfl, by decide +kernel⟩
theorem fp_Machine_37 : tx_FP "TamedClassSet$Machine" 37 5 0 .int := ⟨R_Machine, F_Machine, 7, t_Machine, rfl, by decide, in_Machine, rfl, Or.inl tw_1_212, k_Machine, n_Machine, rfl, by decide +kernel⟩
theorem fp_Machine_70 : tx_FP "TamedClassSet$Machine" 70 6 1 .int := ⟨R_Frame, F_Frame, 5, t_Frame, rfl, by decide, in_Frame, rfl, Or.inl tw_1_196, k_Frame, n_Frame, rfl, by decide +kernel⟩
theorem fp_Mo_101 : tx_FP "TamedClassSetModel" 101 7 3 .int := ⟨R_Mo, F_Mo, 35, t_Mo, rfl, by decide, in_Mo, rfl, Or.inl tw_3_164, k_Mo, n_Mo, rfl, by decide +kernel⟩
theorem fp_Mo_111 : tx_FP "TamedClassSetModel" 111 7 23 .int := ⟨R_Mo, F_Mo, 35, t_Mo, rfl, by decide, in_Mo, rfl, Or.inl tw_3_184, k_Mo, n_Mo, rfl, by decide +kernel⟩
theorem fp_Mo_169 : tx_FP "TamedClassSetModel" 169 7 19 .boolean := ⟨R_Mo, F_Mo, 35, t_Mo, rfl, by decide, in_Mo, rfl, Or.inl tw_3_180, k_Mo, n_Mo, rfl, by decide +kernel⟩
theorem fp_Mo_210 : tx_FP "TamedClassSetModel" 210 7 28 .int := ⟨R_Mo, F_Mo, 35, t_Mo, rfl, by decide, in_Mo, rfl, Or.inl tw_3_189, k_Mo, n_Mo, rfl, by decide +kernel⟩
theorem fp_Mo_223 : tx_FP "TamedClassSetModel" 223 7 27 .int := ⟨R_Mo, F_Mo, 35, t_Mo, rfl, by decide, in_Mo, rfl, Or.inl tw_3_188, k_Mo, n_Mo, rfl, by decide +kernel⟩
theorem fp_Mo_226 : tx_FP "TamedClassSetModel" 226 7 20 .int := ⟨R_Mo, F_Mo, 35, t_Mo, rfl, by decide, in_Mo, rfl, Or.inl tw_3_181, k_Mo, n_Mo, rfl, by decide +kernel⟩
theorem fp_Mo_236 : tx_FP "TamedClassSetModel" 236 7 34 .int := ⟨R_Mo, F_Mo, 35, t_Mo, rfl, by decide, in_Mo, rfl, Or.inl tw_3_195, k_Mo, n_Mo, rfl, by decide +kernel⟩
theorem fp_Mo_264 : tx_FP "TamedClassSetModel" 264 7 25 .int := ⟨R_Mo, F_Mo, 35, t_Mo, rfl, by decide, in_Mo, rfl, Or.inl tw_3_186, k_Mo, n_Mo, rfl, by decide +kernel⟩
theorem fp_Mo_65 : tx_FP "TamedClassSetModel" 65 7 26 .int := ⟨R_Mo, F_Mo, 35, t_Mo, rfl, by decide, in_Mo, rfl, Or.inl tw_3_187, k_Mo, n_Mo, rfl, by decide +kernel⟩
theorem fp_Mo_84 : tx_FP "TamedClassSetModel" 84 7 0 .int := ⟨R_Mo, F_Mo, 35, t_Mo, rfl, by decide, in_Mo, rfl, Or.inl tw_3_161, k_Mo, n_Mo, rfl, by decide +kernel⟩
theorem fp_Mo_91 : tx_FP "TamedClassSetModel" 91 7 7 .int := ⟨R_Mo, F_Mo, 35, t_Mo, rfl, by decide, in_Mo, rfl, Or.inl tw_3_168, k_Mo, n_Mo, rfl, by decide +kernel⟩
theorem fp_Mo_94 : tx_FP "TamedClassSetModel" 94 7 16 .boolean := ⟨R_Mo, F_Mo, 35, t_Mo, rfl, by decide, in_Mo, rfl, Or.inl tw_3_177, k_Mo, n_Mo, rfl, by decide +kernel⟩
theorem fp_Plan_51 : tx_FP "TamedClassSet$Plan" 51 1 0 .int := ⟨R_Plan, F_Plan, 16, t_Plan, rfl, by decide, in_Plan, rfl, Or.inl tw_1_26, k_Plan, n_Plan, rfl, by decide +kernel⟩
theorem fp_Plan_55 : tx_FP "TamedClassSet$Plan" 55 1 1 .int := ⟨R_Plan, F_Plan, 16, t_Plan, rfl, by decide, in_Plan, rfl, Or.inl tw_1_30, k_Plan, n_Plan, rfl, by decide +kernel⟩
theorem fp_Plan_58 : tx_FP "TamedClassSet$Plan" 58 1 2 .int := ⟨R_Plan, F_Plan, 16, t_Plan, rfl, by decide, in_Plan, rfl, Or.inl tw_1_35, k_Plan, n_Plan, rfl, by decide +kernel⟩
theorem fp_X_50 : tx_FP "TamedClassSet" 50 0 5 .boolean := ⟨R_X, F_X, 8, t_X, rfl, by decide, in_X, rfl, Or.inl tw_2_1, k_X, n_X, rfl, by decide +kernel⟩
theorem fp_X_54 : tx_FP "TamedClassSet" 54 0 6 .int := ⟨R_X, F_X, 8, t_X, rfl, by decide, in_X, rfl, Or.inl tw_2_2, k_X, n_X, rfl, by decide +kernel⟩
theorem fp_X_58 : tx_FP "TamedClassSet" 58 0 7 .int := ⟨R_X, F_X, 8, t_X, rfl, by decide, in_X, rfl, Or.inl tw_2_3, k_X, n_X, rfl, by decide +kernel⟩
theorem cm_Plan_isClass : tx_CV y_Plan_isClass mi_Plan_isClass 1 1 := ⟨⟨rfl, tw_2_28, tw_1_2, by decide, by decide, by decide +kernel⟩, tw_2_26, tw_2_27, F_Plan, 16, rfl⟩
theorem cm_Plan_newClass : tx_CV y_Plan_newClass mi_Plan_newClass 2 1 := ⟨⟨rfl, tw_2_32, tw_1_2, by decide, by decide, by decide +kernel⟩, tw_2_30, tw_2_31, F_Plan, 16, rfl⟩
theorem cm_X_addClass : tx_CV y_X_addClass mi_X_addClass 2 0 := ⟨⟨rfl, tw_2_24, tw_1_1, by decide, by decide, by decide +kernel⟩, tw_2_22, tw_2_23, F_X, 8, rfl⟩
theorem cm_Plan_isType : tx_CV y_Plan_isType mi_Plan_isType 1 1 := ⟨⟨rfl, tw_2_40, tw_1_2, by decide, by decide, by decide +kernel⟩, tw_2_38, tw_2_39, F_Plan, 16, rfl⟩
theorem cm_Plan_newField : tx_CV y_Plan_newField mi_Plan_newField 3 1 := ⟨⟨rfl, tw_2_44, tw_1_2, by decide, by decide, by decide +kernel⟩, tw_2_42, tw_2_43, F_Plan, 16, rfl⟩
theorem cm_X_addField : tx_CV y_X_addField mi_X_addField 3 0 := ⟨⟨rfl, tw_2_36, tw_1_1, by decide, by decide, by decide +kernel⟩, tw_2_34, tw_2_35, F_X, 8, rfl⟩
theorem cm_Plan_methodNamed : tx_CV y_Plan_methodNamed mi_Plan_methodNamed 2 1 := ⟨⟨rfl, tw_2_52, tw_1_2, by decide, by decide, by decide +kernel⟩, tw_2_50, tw_2_51, F_Plan, 16, rfl⟩
theorem cm_Plan_newMethod : tx_CV y_Plan_newMethod mi_Plan_newMethod 5 1 := ⟨⟨rfl, tw_2_56, tw_1_2, by decide, by decide, by decide +kernel⟩, tw_2_54, tw_2_55, F_Plan, 16, rfl⟩
theorem cm_X_addMethod : tx_CV y_X_addMethod mi_X_addMethod 5 0 := ⟨⟨rfl, tw_2_48, tw_1_1, by decide, by decide, by decide +kernel⟩, tw_2_46, tw_2_47, F_X, 8, rfl⟩
theorem cm_Plan_isMethod : tx_CV y_Plan_isMethod mi_Plan_isMethod 1 1 := ⟨⟨rfl, tw_2_64, tw_1_2, by decide, by decide, by decide +kernel⟩, tw_2_62, tw_2_63, F_Plan, 16, rfl⟩
theorem cm_Plan_newInstruction : tx_CV y_Plan_newInstruction mi_Plan_newInstruction 3 1 := ⟨⟨rfl, tw_2_68, tw_1_2, by decide, by decide, by decide +kernel⟩, tw_2_66, tw_2_67, F_Plan, 16, rfl⟩
theorem cm_X_emit : tx_CV y_X_emit mi_X_emit 3 0 := ⟨⟨rfl, tw_2_60, tw_1_1, by decide, by decide, by decide +kernel⟩, tw_2_58, tw_2_59, F_X, 8, rfl⟩
theorem cm_Plan_isStaticField : tx_CV y_Plan_isStaticField mi_Plan_isStaticField 1 1 := ⟨⟨rfl, tw_2_84, tw_1_2, by decide, by decide, by decide +kernel⟩, tw_2_82, tw_2_83, F_Plan, 16, rfl⟩
theorem cm_Plan_isFinalField : tx_CV y_Plan_isFinalField mi_Plan_isFinalField 1 1 := ⟨⟨rfl, tw_2_88, tw_1_2, by decide, by decide, by decide +kernel⟩, tw_2_86, tw_2_87, F_Plan, 16, rfl⟩
theorem cm_Plan_isPowerless : tx_CV y_Plan_isPowerless mi_Plan_isPowerless 1 1 := ⟨⟨rfl, tw_2_92, tw_1_2, by decide, by decide, by decide +kernel⟩, tw_2_90, tw_2_91, F_Plan, 16, rfl⟩
theorem cm_Rules_changesForAll : tx_CV y_Rules_changesForAll mi_Rules_changesForAll 1 3 := ⟨⟨rfl, tw_2_80, tw_1_4, by decide, by decide, by decide +kernel⟩, tw_2_79, tw_p_0, F_Rules, 2, rfl⟩
theorem cm_Plan_isImmutable : tx_CV y_Plan_isImmutable mi_Plan_isImmutable 1 1 := ⟨⟨rfl, tw_2_100, tw_1_2, by decide, by decide, by decide +kernel⟩, tw_2_98, tw_2_99, F_Plan, 16, rfl⟩
theorem cm_Plan_isUnder : tx_CV y_Plan_isUnder mi_Plan_isUnder 2 1 := ⟨⟨rfl, tw_2_109, tw_1_2, by decide, by decide, by decide +kernel⟩, tw_2_107, tw_2_108, F_Plan, 16, rfl⟩
theorem cm_Plan_owns : tx_CV y_Plan_owns mi_Plan_owns 2 1 := ⟨⟨rfl, tw_2_104, tw_1_2, by decide, by decide, by decide +kernel⟩, tw_2_102, tw_2_103, F_Plan, 16, rfl⟩
theorem cm_Rules_changesImmutable : tx_CV y_Rules_changesImmutable mi_Rules_changesImmutable 1 3 := ⟨⟨rfl, tw_2_96, tw_1_4, by decide, by decide, by decide +kernel⟩, tw_2_95, tw_p_1, F_Rules, 2, rfl⟩
theorem cm_Plan_isStaticMethod : tx_CV y_Plan_isStaticMethod mi_Plan_isStaticMethod 1 1 := ⟨⟨rfl, tw_2_122, tw_1_2, by decide, by decide, by decide +kernel⟩, tw_2_120, tw_2_121, F_Plan, 16, rfl⟩
theorem cm_Rules_agree : tx_CV y_Rules_agree mi_Rules_agree 2 3 := ⟨⟨rfl, tw_2_118, tw_1_4, by decide, by decide, by decide +kernel⟩, tw_2_117, tw_p_3, F_Rules, 2, rfl⟩
theorem cm_Rules_overridesBadly : tx_CV y_Rules_overridesBadly mi_Rules_overridesBadly 1 3 := ⟨⟨rfl, tw_2_113, tw_1_4, by decide, by decide, by decide +kernel⟩, tw_2_112, tw_p_2, F_Rules, 2, rfl⟩
theorem cm_Arr_rangeCheck : tx_CS y_Arr_rangeCheck mi_Arr_rangeCheck 3 := ⟨⟨rfl, tw_2_136, tw_1_9, by decide, by decide, by decide +kernel⟩, tw_2_135⟩
theorem cm_Arr_fill4 : tx_CS y_Arr_fill4 mi_Arr_fill4 4 := ⟨⟨rfl, tw_2_133, tw_1_9, by decide, by decide, by decide +kernel⟩, tw_2_132⟩
theorem cm_Arr_fill2 : tx_CS y_Arr_fill2 mi_Arr_fill2 2 := ⟨⟨rfl, tw_2_139, tw_1_9, by decide, by decide, by decide +kernel⟩, tw_2_138⟩
theorem cm_Fitting_begin : tx_CV y_Fitting_begin mi_Fitting_begin 1 2 := ⟨⟨rfl, tw_2_130, tw_1_3, by decide, by decide, by decide +kernel⟩, tw_2_129, tw_p_4, F_Fitting, 9, rfl⟩
theorem cm_Plan_isInstruction : tx_CV y_Plan_isInstruction mi_Plan_isInstruction 2 1 := ⟨⟨rfl, tw_2_148, tw_1_2, by decide, by decide, by decide +kernel⟩, tw_2_146, tw_2_147, F_Plan, 16, rfl⟩
theorem cm_Fitting_packed : tx_CV y_Fitting_packed mi_Fitting_packed 0 2 := ⟨⟨rfl, tw_2_152, tw_1_3, by decide, by decide, by decide +kernel⟩, tw_2_151, tw_p_6, F_Fitting, 9, rfl⟩
theorem cm_Fitting_arriveAt : tx_CV y_Fitting_arriveAt mi_Fitting_arriveAt 1 2 := ⟨⟨rfl, tw_2_144, tw_1_3, by decide, by decide, by decide +kernel⟩, tw_2_143, tw_p_5, F_Fitting, 9, rfl⟩
theorem cm_Fitting_unpack : tx_CV y_Fitting_unpack mi_Fitting_unpack 1 2 := ⟨⟨rfl, tw_2_156, tw_1_3, by decide, by decide, by decide +kernel⟩, tw_2_155, tw_p_7, F_Fitting, 9, rfl⟩
theorem cm_Fitting_put : tx_CV y_Fitting_put mi_Fitting_put 1 2 := ⟨⟨rfl, tw_2_164, tw_1_3, by decide, by decide, by decide +kernel⟩, tw_2_163, tw_p_9, F_Fitting, 9, rfl⟩
theorem cm_Fitting_demand : tx_CV y_Fitting_demand mi_Fitting_demand 1 2 := ⟨⟨rfl, tw_2_172, tw_1_3, by decide, by decide, by decide +kernel⟩, tw_2_171, tw_p_11, F_Fitting, 9, rfl⟩
theorem cm_Fitting_load : tx_CV y_Fitting_load mi_Fitting_load 1 2 := ⟨⟨rfl, tw_2_168, tw_1_3, by decide, by decide, by decide +kernel⟩, tw_2_167, tw_p_10, F_Fitting, 9, rfl⟩
theorem cm_Fitting_takeAny : tx_CV y_Fitting_takeAny mi_Fitting_takeAny 0 2 := ⟨⟨rfl, tw_2_180, tw_1_3, by decide, by decide, by decide +kernel⟩, tw_2_179, tw_p_13, F_Fitting, 9, rfl⟩
theorem cm_Fitting_store : tx_CV y_Fitting_store mi_Fitting_store 1 2 := ⟨⟨rfl, tw_2_176, tw_1_3, by decide, by decide, by decide +kernel⟩, tw_2_175, tw_p_12, F_Fitting, 9, rfl⟩
theorem cm_Plan_fits : tx_CV y_Plan_fits mi_Plan_fits 2 1 := ⟨⟨rfl, tw_2_188, tw_1_2, by decide, by decide, by decide +kernel⟩, tw_2_186, tw_2_187, F_Plan, 16, rfl⟩
theorem cm_Fitting_take : tx_CV y_Fitting_take mi_Fitting_take 1 2 := ⟨⟨rfl, tw_2_184, tw_1_3, by decide, by decide, by decide +kernel⟩, tw_2_183, tw_p_14, F_Fitting, 9, rfl⟩
theorem cm_Fitting_make : tx_CV y_Fitting_make mi_Fitting_make 1 2 := ⟨⟨rfl, tw_2_192, tw_1_3, by decide, by decide, by decide +kernel⟩, tw_2_191, tw_p_15, F_Fitting, 9, rfl⟩
theorem cm_Plan_isField : tx_CV y_Plan_isField mi_Plan_isField 1 1 := ⟨⟨rfl, tw_2_202, tw_1_2, by decide, by decide, by decide +kernel⟩, tw_2_200, tw_2_201, F_Plan, 16, rfl⟩
theorem cm_Fitting_useField : tx_CV y_Fitting_useField mi_Fitting_useField 2 2 := ⟨⟨rfl, tw_2_198, tw_1_3, by decide, by decide, by decide +kernel⟩, tw_2_197, tw_p_16, F_Fitting, 9, rfl⟩
theorem cm_Fitting_useStaticField : tx_CV y_Fitting_useStaticField mi_Fitting_useStaticField 2 2 := ⟨⟨rfl, tw_2_207, tw_1_3, by decide, by decide, by decide +kernel⟩, tw_2_206, tw_p_17, F_Fitting, 9, rfl⟩
theorem cm_Fitting_callMethod : tx_CV y_Fitting_callMethod mi_Fitting_callMethod 1 2 := ⟨⟨rfl, tw_2_211, tw_1_3, by decide, by decide, by decide +kernel⟩, tw_2_210, tw_p_18, F_Fitting, 9, rfl⟩
theorem cm_Fitting_takeReference : tx_CV y_Fitting_takeReference mi_Fitting_takeReference 0 2 := ⟨⟨rfl, tw_2_216, tw_1_3, by decide, by decide, by decide +kernel⟩, tw_2_215, tw_p_19, F_Fitting, 9, rfl⟩
theorem cm_Fitting_putClass : tx_CV y_Fitting_putClass mi_Fitting_putClass 1 2 := ⟨⟨rfl, tw_2_220, tw_1_3, by decide, by decide, by decide +kernel⟩, tw_2_219, tw_p_20, F_Fitting, 9, rfl⟩
theorem cm_Fitting_apply : tx_CV y_Fitting_apply mi_Fitting_apply 2 2 := ⟨⟨rfl, tw_2_160, tw_1_3, by decide, by decide, by decide +kernel⟩, tw_2_159, tw_p_8, F_Fitting, 9, rfl⟩
theorem cm_Fitting_leave : tx_CV y_Fitting_leave mi_Fitting_leave 3 2 := ⟨⟨rfl, tw_2_224, tw_1_3, by decide, by decide, by decide +kernel⟩, tw_2_223, tw_p_21, F_Fitting, 9, rfl⟩
theorem cm_Fitting_codeFits : tx_CV y_Fitting_codeFits mi_Fitting_codeFits 1 2 := ⟨⟨rfl, tw_2_126, tw_1_3, by decide, by decide, by decide +kernel⟩, tw_2_124, tw_2_125, F_Fitting, 9, rfl⟩
theorem cm_Fitting_comparesImmutable : tx_CV y_Fitting_comparesImmutable mi_Fitting_comparesImmutable 2 2 := ⟨⟨rfl, tw_2_232, tw_1_3, by decide, by decide, by decide +kernel⟩, tw_2_230, tw_2_231, F_Fitting, 9, rfl⟩
theorem cm_Rules_breaks : tx_CV y_Rules_breaks mi_Rules_breaks 3 3 := ⟨⟨rfl, tw_2_228, tw_1_4, by decide, by decide, by decide +kernel⟩, tw_2_227, tw_p_22, F_Rules, 2, rfl⟩
theorem cm_Rules_firstBreach : tx_CV y_Rules_firstBreach mi_Rules_firstBreach 1 3 := ⟨⟨rfl, tw_2_76, tw_1_4, by decide, by decide, by decide +kernel⟩, tw_2_74, tw_2_75, F_Rules, 2, rfl⟩
theorem cm_X_check : tx_CV y_X_check mi_X_check 0 0 := ⟨⟨rfl, tw_2_72, tw_1_1, by decide, by decide, by decide +kernel⟩, tw_2_70, tw_2_71, F_X, 8, rfl⟩
theorem cm_Plan_forgetAll : tx_CV y_Plan_forgetAll mi_Plan_forgetAll 0 1 := ⟨⟨rfl, tw_3_1, tw_1_2, by decide, by decide, by decide +kernel⟩, tw_2_239, tw_3_0, F_Plan, 16, rfl⟩
theorem cm_Heap_forgetAll : tx_CV y_Heap_forgetAll mi_Heap_forgetAll 0 4 := ⟨⟨rfl, tw_3_5, tw_1_5, by decide, by decide, by decide +kernel⟩, tw_3_3, tw_3_4, F_Heap, 5, rfl⟩
theorem cm_X_clear : tx_CV y_X_clear mi_X_clear 0 0 := ⟨⟨rfl, tw_2_237, tw_1_1, by decide, by decide, by decide +kernel⟩, tw_2_235, tw_2_236, F_X, 8, rfl⟩
theorem cm_X_typesAt : tx_CV y_X_typesAt mi_X_typesAt 2 0 := ⟨⟨rfl, tw_3_9, tw_1_1, by decide, by decide, by decide +kernel⟩, tw_3_7, tw_3_8, F_X, 8, rfl⟩
theorem cm_Heap_inHandle : tx_CV y_Heap_inHandle mi_Heap_inHandle 1 4 := ⟨⟨rfl, tw_3_24, tw_1_5, by decide, by decide, by decide +kernel⟩, tw_3_22, tw_3_23, F_Heap, 5, rfl⟩
theorem cm_X_receiverFits : tx_CV y_X_receiverFits mi_X_receiverFits 2 0 := ⟨⟨rfl, tw_3_19, tw_1_1, by decide, by decide, by decide +kernel⟩, tw_3_18, tw_p_23, F_X, 8, rfl⟩
theorem cm_X_argumentFits : tx_CV y_X_argumentFits mi_X_argumentFits 2 0 := ⟨⟨rfl, tw_3_29, tw_1_1, by decide, by decide, by decide +kernel⟩, tw_3_28, tw_p_24, F_X, 8, rfl⟩
theorem cm_Frame_begin : tx_CV y_Frame_begin mi_Frame_begin 1 6 := ⟨⟨rfl, tw_3_42, tw_1_7, by decide, by decide, by decide +kernel⟩, tw_3_40, tw_3_41, F_Frame, 5, rfl⟩
theorem cm_Plan_chosenMethod : tx_CV y_Plan_chosenMethod mi_Plan_chosenMethod 2 1 := ⟨⟨rfl, tw_3_46, tw_1_2, by decide, by decide, by decide +kernel⟩, tw_3_44, tw_3_45, F_Plan, 16, rfl⟩
theorem cm_Machine_enter : tx_CV y_Machine_enter mi_Machine_enter 3 5 := ⟨⟨rfl, tw_3_37, tw_1_6, by decide, by decide, by decide +kernel⟩, tw_3_36, tw_p_25, F_Machine, 7, rfl⟩
theorem cm_Frame_push : tx_CV y_Frame_push mi_Frame_push 1 6 := ⟨⟨rfl, tw_3_55, tw_1_7, by decide, by decide, by decide +kernel⟩, tw_3_53, tw_3_54, F_Frame, 5, rfl⟩
theorem cm_Frame_pop : tx_CV y_Frame_pop mi_Frame_pop 0 6 := ⟨⟨rfl, tw_3_59, tw_1_7, by decide, by decide, by decide +kernel⟩, tw_3_57, tw_3_58, F_Frame, 5, rfl⟩
theorem cm_Machine_combine : tx_CV y_Machine_combine mi_Machine_combine 2 5 := ⟨⟨rfl, tw_3_63, tw_1_6, by decide, by decide, by decide +kernel⟩, tw_3_62, tw_p_27, F_Machine, 7, rfl⟩
theorem cm_Heap_newThing : tx_CV y_Heap_newThing mi_Heap_newThing 1 4 := ⟨⟨rfl, tw_3_71, tw_1_5, by decide, by decide, by decide +kernel⟩, tw_3_69, tw_3_70, F_Heap, 5, rfl⟩
theorem cm_Plan_slotOf : tx_CV y_Plan_slotOf mi_Plan_slotOf 2 1 := ⟨⟨rfl, tw_3_75, tw_1_2, by decide, by decide, by decide +kernel⟩, tw_3_73, tw_3_74, F_Plan, 16, rfl⟩
theorem cm_Heap_setSlot : tx_CV y_Heap_setSlot mi_Heap_setSlot 3 4 := ⟨⟨rfl, tw_3_80, tw_1_5, by decide, by decide, by decide +kernel⟩, tw_3_78, tw_3_79, F_Heap, 5, rfl⟩
theorem cm_Machine_make : tx_CV y_Machine_make mi_Machine_make 2 5 := ⟨⟨rfl, tw_3_67, tw_1_6, by decide, by decide, by decide +kernel⟩, tw_3_66, tw_p_28, F_Machine, 7, rfl⟩
theorem cm_Heap_slotValue : tx_CV y_Heap_slotValue mi_Heap_slotValue 2 4 := ⟨⟨rfl, tw_3_88, tw_1_5, by decide, by decide, by decide +kernel⟩, tw_3_86, tw_3_87, F_Heap, 5, rfl⟩
theorem cm_Machine_useField : tx_CV y_Machine_useField mi_Machine_useField 3 5 := ⟨⟨rfl, tw_3_84, tw_1_6, by decide, by decide, by decide +kernel⟩, tw_3_83, tw_p_29, F_Machine, 7, rfl⟩
theorem cm_Machine_callMethod : tx_CV y_Machine_callMethod mi_Machine_callMethod 2 5 := ⟨⟨rfl, tw_3_92, tw_1_6, by decide, by decide, by decide +kernel⟩, tw_3_91, tw_p_30, F_Machine, 7, rfl⟩
theorem cm_Machine_makeCell : tx_CV y_Machine_makeCell mi_Machine_makeCell 1 5 := ⟨⟨rfl, tw_3_96, tw_1_6, by decide, by decide, by decide +kernel⟩, tw_3_95, tw_p_31, F_Machine, 7, rfl⟩
theorem cm_Machine_useCell : tx_CV y_Machine_useCell mi_Machine_useCell 2 5 := ⟨⟨rfl, tw_3_100, tw_1_6, by decide, by decide, by decide +kernel⟩, tw_3_99, tw_p_32, F_Machine, 7, rfl⟩
theorem cm_Math_abs : tx_CS y_Math_abs mi_Math_abs 1 := ⟨⟨rfl, tw_3_107, tw_1_10, by decide, by decide, by decide +kernel⟩, tw_3_106⟩
theorem cm_Int_bitCount : tx_CS y_Int_bitCount mi_Int_bitCount 1 := ⟨⟨rfl, tw_3_110, tw_1_11, by decide, by decide, by decide +kernel⟩, tw_3_109⟩
theorem cm_Machine_library : tx_CV y_Machine_library mi_Machine_library 2 5 := ⟨⟨rfl, tw_3_104, tw_1_6, by decide, by decide, by decide +kernel⟩, tw_3_103, tw_p_33, F_Machine, 7, rfl⟩
theorem cm_Machine_leave : tx_CV y_Machine_leave mi_Machine_leave 1 5 := ⟨⟨rfl, tw_3_117, tw_1_6, by decide, by decide, by decide +kernel⟩, tw_3_116, tw_p_34, F_Machine, 7, rfl⟩
theorem cm_Machine_step : tx_CV y_Machine_step mi_Machine_step 1 5 := ⟨⟨rfl, tw_3_51, tw_1_6, by decide, by decide, by decide +kernel⟩, tw_3_50, tw_p_26, F_Machine, 7, rfl⟩
theorem cm_Machine_execute : tx_CV y_Machine_execute mi_Machine_execute 3 5 := ⟨⟨rfl, tw_3_33, tw_1_6, by decide, by decide, by decide +kernel⟩, tw_3_31, tw_3_32, F_Machine, 7, rfl⟩
theorem cm_Heap_handleOf : tx_CV y_Heap_handleOf mi_Heap_handleOf 1 4 := ⟨⟨rfl, tw_3_126, tw_1_5, by decide, by decide, by decide +kernel⟩, tw_3_124, tw_3_125, F_Heap, 5, rfl⟩
theorem cm_Heap_hold : tx_CV y_Heap_hold mi_Heap_hold 1 4 := ⟨⟨rfl, tw_3_122, tw_1_5, by decide, by decide, by decide +kernel⟩, tw_3_120, tw_3_121, F_Heap, 5, rfl⟩
theorem cm_X_answerOf : tx_CV y_X_answerOf mi_X_answerOf 2 0 := ⟨⟨rfl, tw_3_130, tw_1_1, by decide, by decide, by decide +kernel⟩, tw_3_129, tw_p_35, F_X, 8, rfl⟩
theorem cm_X_run : tx_CV y_X_run mi_X_run 3 0 := ⟨⟨rfl, tw_3_14, tw_1_1, by decide, by decide, by decide +kernel⟩, tw_3_12, tw_3_13, F_X, 8, rfl⟩
theorem cm_X_look : tx_CV y_X_look mi_X_look 2 0 := ⟨⟨rfl, tw_3_138, tw_1_1, by decide, by decide, by decide +kernel⟩, tw_3_136, tw_3_137, F_X, 8, rfl⟩
theorem cm_X_held : tx_CV y_X_held mi_X_held 1 0 := ⟨⟨rfl, tw_3_146, tw_1_1, by decide, by decide, by decide +kernel⟩, tw_3_144, tw_3_145, F_X, 8, rfl⟩
theorem cm_X_runs : tx_CV y_X_runs mi_X_runs 0 0 := ⟨⟨rfl, tw_3_150, tw_1_1, by decide, by decide, by decide +kernel⟩, tw_3_148, tw_3_149, F_X, 8, rfl⟩
theorem cm_X_steps : tx_CV y_X_steps mi_X_steps 0 0 := ⟨⟨rfl, tw_3_154, tw_1_1, by decide, by decide, by decide +kernel⟩, tw_3_152, tw_3_153, F_X, 8, rfl⟩
theorem cm_Mo_isClass : tx_CV y_Mo_isClass mi_Mo_isClass 1 7 := ⟨⟨rfl, tw_4_35, tw_1_8, by decide, by decide, by decide +kernel⟩, tw_4_34, tw_p_36, F_Mo, 35, rfl⟩
theorem cm_Mo_addClass : tx_CV y_Mo_addClass mi_Mo_addClass 2 7 := ⟨⟨rfl, tw_4_31, tw_1_8, by decide, by decide, by decide +kernel⟩, tw_4_29, tw_4_30, F_Mo, 35, rfl⟩
theorem cm_Mo_isType : tx_CV y_Mo_isType mi_Mo_isType 1 7 := ⟨⟨rfl, tw_4_43, tw_1_8, by decide, by decide, by decide +kernel⟩, tw_4_42, tw_p_37, F_Mo, 35, rfl⟩
theorem cm_Mo_addField : tx_CV y_Mo_addField mi_Mo_addField 3 7 := ⟨⟨rfl, tw_4_39, tw_1_8, by decide, by decide, by decide +kernel⟩, tw_4_37, tw_4_38, F_Mo, 35, rfl⟩
theorem cm_Mo_methodOf : tx_CV y_Mo_methodOf mi_Mo_methodOf 2 7 := ⟨⟨rfl, tw_4_51, tw_1_8, by decide, by decide, by decide +kernel⟩, tw_4_50, tw_p_38, F_Mo, 35, rfl⟩
theorem cm_Mo_addMethod : tx_CV y_Mo_addMethod mi_Mo_addMethod 5 7 := ⟨⟨rfl, tw_4_47, tw_1_8, by decide, by decide, by decide +kernel⟩, tw_4_45, tw_4_46, F_Mo, 35, rfl⟩
theorem cm_Mo_isMethod : tx_CV y_Mo_isMethod mi_Mo_isMethod 1 7 := ⟨⟨rfl, tw_4_59, tw_1_8, by decide, by decide, by decide +kernel⟩, tw_4_58, tw_p_39, F_Mo, 35, rfl⟩
theorem cm_Mo_emit : tx_CV y_Mo_emit mi_Mo_emit 3 7 := ⟨⟨rfl, tw_4_55, tw_1_8, by decide, by decide, by decide +kernel⟩, tw_4_53, tw_4_54, F_Mo, 35, rfl⟩
theorem cm_Mo_clear : tx_CV y_Mo_clear mi_Mo_clear 0 7 := ⟨⟨rfl, tw_4_63, tw_1_8, by decide, by decide, by decide +kernel⟩, tw_4_61, tw_4_62, F_Mo, 35, rfl⟩
theorem cm_Mo_isStatic : tx_CV y_Mo_isStatic mi_Mo_isStatic 1 7 := ⟨⟨rfl, tw_4_79, tw_1_8, by decide, by decide, by decide +kernel⟩, tw_4_78, tw_p_42, F_Mo, 35, rfl⟩
theorem cm_Mo_isFinal : tx_CV y_Mo_isFinal mi_Mo_isFinal 1 7 := ⟨⟨rfl, tw_4_83, tw_1_8, by decide, by decide, by decide +kernel⟩, tw_4_82, tw_p_43, F_Mo, 35, rfl⟩
theorem cm_Mo_inLine : tx_CV y_Mo_inLine mi_Mo_inLine 2 7 := ⟨⟨rfl, tw_4_95, tw_1_8, by decide, by decide, by decide +kernel⟩, tw_4_94, tw_p_46, F_Mo, 35, rfl⟩
theorem cm_Mo_marked : tx_CV y_Mo_marked mi_Mo_marked 2 7 := ⟨⟨rfl, tw_4_91, tw_1_8, by decide, by decide, by decide +kernel⟩, tw_4_90, tw_p_45, F_Mo, 35, rfl⟩
theorem cm_Mo_powerless : tx_CV y_Mo_powerless mi_Mo_powerless 1 7 := ⟨⟨rfl, tw_4_87, tw_1_8, by decide, by decide, by decide +kernel⟩, tw_4_86, tw_p_44, F_Mo, 35, rfl⟩
theorem cm_Mo_looseStatic : tx_CV y_Mo_looseStatic mi_Mo_looseStatic 1 7 := ⟨⟨rfl, tw_4_75, tw_1_8, by decide, by decide, by decide +kernel⟩, tw_4_74, tw_p_41, F_Mo, 35, rfl⟩
theorem cm_Mo_owns : tx_CV y_Mo_owns mi_Mo_owns 2 7 := ⟨⟨rfl, tw_4_103, tw_1_8, by decide, by decide, by decide +kernel⟩, tw_4_102, tw_p_48, F_Mo, 35, rfl⟩
theorem cm_Mo_immutable : tx_CV y_Mo_immutable mi_Mo_immutable 1 7 := ⟨⟨rfl, tw_4_107, tw_1_8, by decide, by decide, by decide +kernel⟩, tw_4_106, tw_p_49, F_Mo, 35, rfl⟩
theorem cm_Mo_looseField : tx_CV y_Mo_looseField mi_Mo_looseField 1 7 := ⟨⟨rfl, tw_4_99, tw_1_8, by decide, by decide, by decide +kernel⟩, tw_4_98, tw_p_47, F_Mo, 35, rfl⟩
theorem cm_Mo_unlike : tx_CV y_Mo_unlike mi_Mo_unlike 1 7 := ⟨⟨rfl, tw_4_111, tw_1_8, by decide, by decide, by decide +kernel⟩, tw_4_110, tw_p_50, F_Mo, 35, rfl⟩
theorem cm_Mo_led : tx_CV y_Mo_led mi_Mo_led 3 7 := ⟨⟨rfl, tw_4_119, tw_1_8, by decide, by decide, by decide +kernel⟩, tw_4_118, tw_p_52, F_Mo, 35, rfl⟩
theorem cm_Mo_depth : tx_CS y_Mo_depth mi_Mo_depth 1 := ⟨⟨rfl, tw_4_133, tw_1_8, by decide, by decide, by decide +kernel⟩, tw_4_132⟩
theorem cm_Mo_give : tx_CS y_Mo_give mi_Mo_give 2 := ⟨⟨rfl, tw_4_130, tw_1_8, by decide, by decide, by decide +kernel⟩, tw_4_129⟩
theorem cm_Mo_loaded : tx_CV y_Mo_loaded mi_Mo_loaded 2 7 := ⟨⟨rfl, tw_4_137, tw_1_8, by decide, by decide, by decide +kernel⟩, tw_4_136, tw_p_55, F_Mo, 35, rfl⟩
theorem cm_Mo_typeAt : tx_CS y_Mo_typeAt mi_Mo_typeAt 2 := ⟨⟨rfl, tw_4_144, tw_1_8, by decide, by decide, by decide +kernel⟩, tw_4_143⟩
theorem cm_Mo_drop : tx_CS y_Mo_drop mi_Mo_drop 1 := ⟨⟨rfl, tw_4_147, tw_1_8, by decide, by decide, by decide +kernel⟩, tw_4_146⟩
theorem cm_Mo_stored : tx_CV y_Mo_stored mi_Mo_stored 2 7 := ⟨⟨rfl, tw_4_141, tw_1_8, by decide, by decide, by decide +kernel⟩, tw_4_140, tw_p_56, F_Mo, 35, rfl⟩
theorem cm_Mo_fits : tx_CV y_Mo_fits mi_Mo_fits 2 7 := ⟨⟨rfl, tw_4_155, tw_1_8, by decide, by decide, by decide +kernel⟩, tw_4_154, tw_p_58, F_Mo, 35, rfl⟩
theorem cm_Mo_take : tx_CV y_Mo_take mi_Mo_take 2 7 := ⟨⟨rfl, tw_4_151, tw_1_8, by decide, by decide, by decide +kernel⟩, tw_4_150, tw_p_57, F_Mo, 35, rfl⟩
theorem cm_Mo_makes : tx_CV y_Mo_makes mi_Mo_makes 2 7 := ⟨⟨rfl, tw_4_159, tw_1_8, by decide, by decide, by decide +kernel⟩, tw_4_158, tw_p_59, F_Mo, 35, rfl⟩
theorem cm_Mo_isField : tx_CV y_Mo_isField mi_Mo_isField 2 7 := ⟨⟨rfl, tw_4_167, tw_1_8, by decide, by decide, by decide +kernel⟩, tw_4_166, tw_p_61, F_Mo, 35, rfl⟩
theorem cm_Mo_fielded : tx_CV y_Mo_fielded mi_Mo_fielded 3 7 := ⟨⟨rfl, tw_4_163, tw_1_8, by decide, by decide, by decide +kernel⟩, tw_4_162, tw_p_60, F_Mo, 35, rfl⟩
theorem cm_Mo_calls : tx_CV y_Mo_calls mi_Mo_calls 2 7 := ⟨⟨rfl, tw_4_171, tw_1_8, by decide, by decide, by decide +kernel⟩, tw_4_170, tw_p_62, F_Mo, 35, rfl⟩
theorem cm_Mo_takeThing : tx_CV y_Mo_takeThing mi_Mo_takeThing 1 7 := ⟨⟨rfl, tw_4_175, tw_1_8, by decide, by decide, by decide +kernel⟩, tw_4_174, tw_p_63, F_Mo, 35, rfl⟩
theorem cm_Mo_after : tx_CV y_Mo_after mi_Mo_after 2 7 := ⟨⟨rfl, tw_4_127, tw_1_8, by decide, by decide, by decide +kernel⟩, tw_4_126, tw_p_54, F_Mo, 35, rfl⟩
theorem cm_Mo_onward : tx_CV y_Mo_onward mi_Mo_onward 2 7 := ⟨⟨rfl, tw_4_123, tw_1_8, by decide, by decide, by decide +kernel⟩, tw_4_122, tw_p_53, F_Mo, 35, rfl⟩
theorem cm_Mo_fitsTypes : tx_CV y_Mo_fitsTypes mi_Mo_fitsTypes 1 7 := ⟨⟨rfl, tw_4_115, tw_1_8, by decide, by decide, by decide +kernel⟩, tw_4_114, tw_p_51, F_Mo, 35, rfl⟩
theorem cm_Mo_wild : tx_CV y_Mo_wild mi_Mo_wild 2 7 := ⟨⟨rfl, tw_4_179, tw_1_8, by decide, by decide, by decide +kernel⟩, tw_4_178, tw_p_64, F_Mo, 35, rfl⟩
theorem cm_Mo_broken : tx_CV y_Mo_broken mi_Mo_broken 0 7 := ⟨⟨rfl, tw_4_71, tw_1_8, by decide, by decide, by decide +kernel⟩, tw_4_70, tw_p_40, F_Mo, 35, rfl⟩
theorem cm_Mo_check : tx_CV y_Mo_check mi_Mo_check 0 7 := ⟨⟨rfl, tw_4_67, tw_1_8, by decide, by decide, by decide +kernel⟩, tw_4_65, tw_4_66, F_Mo, 35, rfl⟩
theorem cm_Mo_typesAt : tx_CV y_Mo_typesAt mi_Mo_typesAt 2 7 := ⟨⟨rfl, tw_4_183, tw_1_8, by decide, by decide, by decide +kernel⟩, tw_4_181, tw_4_182, F_Mo, 35, rfl⟩
theorem cm_Mo_holds : tx_CV y_Mo_holds mi_Mo_holds 1 7 := ⟨⟨rfl, tw_4_195, tw_1_8, by decide, by decide, by decide +kernel⟩, tw_4_194, tw_p_66, F_Mo, 35, rfl⟩
theorem cm_Mo_refuses : tx_CV y_Mo_refuses mi_Mo_refuses 3 7 := ⟨⟨rfl, tw_4_191, tw_1_8, by decide, by decide, by decide +kernel⟩, tw_4_190, tw_p_65, F_Mo, 35, rfl⟩
theorem cm_Mo_chosen : tx_CV y_Mo_chosen mi_Mo_chosen 2 7 := ⟨⟨rfl, tw_4_200, tw_1_8, by decide, by decide, by decide +kernel⟩, tw_4_199, tw_p_67, F_Mo, 35, rfl⟩
theorem cm_Mo_enter : tx_CV y_Mo_enter mi_Mo_enter 3 7 := ⟨⟨rfl, tw_4_204, tw_1_8, by decide, by decide, by decide +kernel⟩, tw_4_203, tw_p_68, F_Mo, 35, rfl⟩
theorem cm_Mo_pop : tx_CV y_Mo_pop mi_Mo_pop 0 7 := ⟨⟨rfl, tw_4_217, tw_1_8, by decide, by decide, by decide +kernel⟩, tw_4_216, tw_p_71, F_Mo, 35, rfl⟩
theorem cm_Mo_push : tx_CV y_Mo_push mi_Mo_push 1 7 := ⟨⟨rfl, tw_4_221, tw_1_8, by decide, by decide, by decide +kernel⟩, tw_4_220, tw_p_72, F_Mo, 35, rfl⟩
theorem cm_Mo_make : tx_CV y_Mo_make mi_Mo_make 1 7 := ⟨⟨rfl, tw_4_213, tw_1_8, by decide, by decide, by decide +kernel⟩, tw_4_212, tw_p_70, F_Mo, 35, rfl⟩
theorem cm_Mo_slotted : tx_CV y_Mo_slotted mi_Mo_slotted 2 7 := ⟨⟨rfl, tw_4_225, tw_1_8, by decide, by decide, by decide +kernel⟩, tw_4_224, tw_p_73, F_Mo, 35, rfl⟩
theorem cm_Mo_call : tx_CV y_Mo_call mi_Mo_call 1 7 := ⟨⟨rfl, tw_4_229, tw_1_8, by decide, by decide, by decide +kernel⟩, tw_4_228, tw_p_74, F_Mo, 35, rfl⟩
theorem cm_Mo_sum : tx_CV y_Mo_sum mi_Mo_sum 1 7 := ⟨⟨rfl, tw_4_233, tw_1_8, by decide, by decide, by decide +kernel⟩, tw_4_232, tw_p_75, F_Mo, 35, rfl⟩
theorem cm_Mo_bits : tx_CS y_Mo_bits mi_Mo_bits 1 := ⟨⟨rfl, tw_5_0, tw_1_8, by decide, by decide, by decide +kernel⟩, tw_4_239⟩
theorem cm_Mo_library : tx_CV y_Mo_library mi_Mo_library 1 7 := ⟨⟨rfl, tw_4_237, tw_1_8, by decide, by decide, by decide +kernel⟩, tw_4_236, tw_p_76, F_Mo, 35, rfl⟩
theorem cm_Mo_back : tx_CV y_Mo_back mi_Mo_back 0 7 := ⟨⟨rfl, tw_5_4, tw_1_8, by decide, by decide, by decide +kernel⟩, tw_5_3, tw_p_77, F_Mo, 35, rfl⟩
theorem cm_Mo_once : tx_CV y_Mo_once mi_Mo_once 0 7 := ⟨⟨rfl, tw_4_209, tw_1_8, by decide, by decide, by decide +kernel⟩, tw_4_208, tw_p_69, F_Mo, 35, rfl⟩
theorem cm_Mo_shown : tx_CV y_Mo_shown mi_Mo_shown 1 7 := ⟨⟨rfl, tw_5_9, tw_1_8, by decide, by decide, by decide +kernel⟩, tw_5_8, tw_p_78, F_Mo, 35, rfl⟩
theorem cm_Mo_run : tx_CV y_Mo_run mi_Mo_run 3 7 := ⟨⟨rfl, tw_4_187, tw_1_8, by decide, by decide, by decide +kernel⟩, tw_4_185, tw_4_186, F_Mo, 35, rfl⟩
theorem cm_Mo_look : tx_CV y_Mo_look mi_Mo_look 2 7 := ⟨⟨rfl, tw_5_16, tw_1_8, by decide, by decide, by decide +kernel⟩, tw_5_14, tw_5_15, F_Mo, 35, rfl⟩
theorem cm_Mo_held : tx_CV y_Mo_held mi_Mo_held 1 7 := ⟨⟨rfl, tw_5_20, tw_1_8, by decide, by decide, by decide +kernel⟩, tw_5_18, tw_5_19, F_Mo, 35, rfl⟩
theorem cm_Mo_runs : tx_CV y_Mo_runs mi_Mo_runs 0 7 := ⟨⟨rfl, tw_5_24, tw_1_8, by decide, by decide, by decide +kernel⟩, tw_5_22, tw_5_23, F_Mo, 35, rfl⟩
theorem cm_Mo_steps : tx_CV y_Mo_steps mi_Mo_steps 0 7 := ⟨⟨rfl, tw_5_28, tw_1_8, by decide, by decide, by decide +kernel⟩, tw_5_26, tw_5_27, F_Mo, 35, rfl⟩
theorem lk_Arr_13 : tx_LK "java/util/Arrays" 13 y_Arr_rangeCheck := Or.inl tw_2_134
theorem lk_Fitting_101 : tx_LK "TamedClassSet$Fitting" 101 y_Fitting_put := Or.inl tw_2_161
theorem lk_Fitting_104 : tx_LK "TamedClassSet$Fitting" 104 y_Fitting_load := Or.inl tw_2_165
theorem lk_Fitting_107 : tx_LK "TamedClassSet$Fitting" 107 y_Fitting_store := Or.inl tw_2_173
theorem lk_Fitting_110 : tx_LK "TamedClassSet$Fitting" 110 y_Fitting_take := Or.inl tw_2_181
theorem lk_Fitting_113 : tx_LK "TamedClassSet$Fitting" 113 y_Fitting_make := Or.inl tw_2_189
theorem lk_Fitting_116 : tx_LK "TamedClassSet$Fitting" 116 y_Fitting_useField := Or.inl tw_2_195
theorem lk_Fitting_119 : tx_LK "TamedClassSet$Fitting" 119 y_Fitting_useStaticField := Or.inl tw_2_204
theorem lk_Fitting_122 : tx_LK "TamedClassSet$Fitting" 122 y_Fitting_callMethod := Or.inl tw_2_208
theorem lk_Fitting_125 : tx_LK "TamedClassSet$Fitting" 125 y_Fitting_takeReference := Or.inl tw_2_213
theorem lk_Fitting_128 : tx_LK "TamedClassSet$Fitting" 128 y_Fitting_putClass := Or.inl tw_2_217
theorem lk_Fitting_131 : tx_LK "TamedClassSet$Fitting" 131 y_Fitting_demand := Or.inl tw_2_169
theorem lk_Fitting_138 : tx_LK "TamedClassSet$Fitting" 138 y_Plan_isClass := Or.inl tw_2_193
theorem lk_Fitting_141 : tx_LK "TamedClassSet$Fitting" 141 y_Fitting_takeAny := Or.inl tw_2_177
theorem lk_Fitting_144 : tx_LK "TamedClassSet$Fitting" 144 y_Plan_fits := Or.inl tw_2_185
theorem lk_Fitting_150 : tx_LK "TamedClassSet$Fitting" 150 y_Plan_owns := Or.inl tw_2_194
theorem lk_Fitting_156 : tx_LK "TamedClassSet$Fitting" 156 y_Plan_isField := Or.inl tw_2_199
theorem lk_Fitting_159 : tx_LK "TamedClassSet$Fitting" 159 y_Plan_isStaticField := Or.inl tw_2_203
theorem lk_Fitting_165 : tx_LK "TamedClassSet$Fitting" 165 y_Plan_isMethod := Or.inl tw_2_212
theorem lk_Fitting_28 : tx_LK "TamedClassSet$Fitting" 28 y_Fitting_begin := Or.inl tw_2_127
theorem lk_Fitting_32 : tx_LK "TamedClassSet$Fitting" 32 y_Fitting_arriveAt := Or.inl tw_2_141
theorem lk_Fitting_46 : tx_LK "TamedClassSet$Fitting" 46 y_Fitting_unpack := Or.inl tw_2_153
theorem lk_Fitting_57 : tx_LK "TamedClassSet$Fitting" 57 y_Fitting_apply := Or.inl tw_2_157
theorem lk_Fitting_61 : tx_LK "TamedClassSet$Fitting" 61 y_Fitting_leave := Or.inl tw_2_221
theorem lk_Fitting_71 : tx_LK "TamedClassSet$Fitting" 71 y_Plan_isImmutable := Or.inl tw_2_233
theorem lk_Fitting_75 : tx_LK "TamedClassSet$Fitting" 75 y_Arr_fill4 := Or.inl tw_2_131
theorem lk_Fitting_81 : tx_LK "TamedClassSet$Fitting" 81 y_Arr_fill2 := Or.inl tw_2_137
theorem lk_Fitting_84 : tx_LK "TamedClassSet$Fitting" 84 y_Plan_isStaticMethod := Or.inl tw_2_140
theorem lk_Fitting_93 : tx_LK "TamedClassSet$Fitting" 93 y_Plan_isInstruction := Or.inl tw_2_145
theorem lk_Fitting_97 : tx_LK "TamedClassSet$Fitting" 97 y_Fitting_packed := Or.inl tw_2_149
theorem lk_Heap_28 : tx_LK "TamedClassSet$Heap" 28 y_Heap_handleOf := Or.inl tw_3_123
theorem lk_Machine_100 : tx_LK "TamedClassSet$Machine" 100 y_Machine_makeCell := Or.inl tw_3_93
theorem lk_Machine_103 : tx_LK "TamedClassSet$Machine" 103 y_Machine_useCell := Or.inl tw_3_97
theorem lk_Machine_106 : tx_LK "TamedClassSet$Machine" 106 y_Machine_library := Or.inl tw_3_101
theorem lk_Machine_109 : tx_LK "TamedClassSet$Machine" 109 y_Machine_leave := Or.inl tw_3_114
theorem lk_Machine_112 : tx_LK "TamedClassSet$Machine" 112 y_Heap_newThing := Or.inl tw_3_68
theorem lk_Machine_119 : tx_LK "TamedClassSet$Machine" 119 y_Plan_slotOf := Or.inl tw_3_72
theorem lk_Machine_122 : tx_LK "TamedClassSet$Machine" 122 y_Heap_setSlot := Or.inl tw_3_77
theorem lk_Machine_125 : tx_LK "TamedClassSet$Machine" 125 y_Heap_slotValue := Or.inl tw_3_85
theorem lk_Machine_131 : tx_LK "TamedClassSet$Machine" 131 y_Math_abs := Or.inl tw_3_105
theorem lk_Machine_136 : tx_LK "TamedClassSet$Machine" 136 y_Int_bitCount := Or.inl tw_3_108
theorem lk_Machine_33 : tx_LK "TamedClassSet$Machine" 33 y_Machine_enter := Or.inl tw_3_34
theorem lk_Machine_40 : tx_LK "TamedClassSet$Machine" 40 y_Machine_step := Or.inl tw_3_48
theorem lk_Machine_44 : tx_LK "TamedClassSet$Machine" 44 y_Plan_isStaticMethod := Or.inl tw_3_38
theorem lk_Machine_50 : tx_LK "TamedClassSet$Machine" 50 y_Frame_begin := Or.inl tw_3_39
theorem lk_Machine_63 : tx_LK "TamedClassSet$Machine" 63 y_Plan_chosenMethod := Or.inl tw_3_43
theorem lk_Machine_79 : tx_LK "TamedClassSet$Machine" 79 y_Frame_push := Or.inl tw_3_52
theorem lk_Machine_82 : tx_LK "TamedClassSet$Machine" 82 y_Frame_pop := Or.inl tw_3_56
theorem lk_Machine_86 : tx_LK "TamedClassSet$Machine" 86 y_Machine_combine := Or.inl tw_3_60
theorem lk_Machine_90 : tx_LK "TamedClassSet$Machine" 90 y_Machine_make := Or.inl tw_3_64
theorem lk_Machine_93 : tx_LK "TamedClassSet$Machine" 93 y_Machine_useField := Or.inl tw_3_81
theorem lk_Machine_97 : tx_LK "TamedClassSet$Machine" 97 y_Machine_callMethod := Or.inl tw_3_89
theorem lk_Mo_104 : tx_LK "TamedClassSetModel" 104 y_Mo_methodOf := Or.inl tw_4_48
theorem lk_Mo_108 : tx_LK "TamedClassSetModel" 108 y_Mo_isMethod := Or.inl tw_4_56
theorem lk_Mo_114 : tx_LK "TamedClassSetModel" 114 y_Mo_inLine := Or.inl tw_4_92
theorem lk_Mo_118 : tx_LK "TamedClassSetModel" 118 y_Mo_marked := Or.inl tw_4_88
theorem lk_Mo_121 : tx_LK "TamedClassSetModel" 121 y_Mo_isStatic := Or.inl tw_4_76
theorem lk_Mo_124 : tx_LK "TamedClassSetModel" 124 y_Mo_depth := Or.inl tw_4_131
theorem lk_Mo_128 : tx_LK "TamedClassSetModel" 128 y_Mo_typeAt := Or.inl tw_4_142
theorem lk_Mo_131 : tx_LK "TamedClassSetModel" 131 y_Mo_fits := Or.inl tw_4_152
theorem lk_Mo_134 : tx_LK "TamedClassSetModel" 134 y_Mo_drop := Or.inl tw_4_145
theorem lk_Mo_137 : tx_LK "TamedClassSetModel" 137 y_Mo_give := Or.inl tw_4_128
theorem lk_Mo_140 : tx_LK "TamedClassSetModel" 140 y_Mo_owns := Or.inl tw_4_100
theorem lk_Mo_143 : tx_LK "TamedClassSetModel" 143 y_Mo_take := Or.inl tw_4_148
theorem lk_Mo_146 : tx_LK "TamedClassSetModel" 146 y_Mo_isField := Or.inl tw_4_164
theorem lk_Mo_150 : tx_LK "TamedClassSetModel" 150 y_Mo_loaded := Or.inl tw_4_134
theorem lk_Mo_153 : tx_LK "TamedClassSetModel" 153 y_Mo_stored := Or.inl tw_4_138
theorem lk_Mo_156 : tx_LK "TamedClassSetModel" 156 y_Mo_makes := Or.inl tw_4_156
theorem lk_Mo_159 : tx_LK "TamedClassSetModel" 159 y_Mo_fielded := Or.inl tw_4_160
theorem lk_Mo_163 : tx_LK "TamedClassSetModel" 163 y_Mo_calls := Or.inl tw_4_168
theorem lk_Mo_166 : tx_LK "TamedClassSetModel" 166 y_Mo_takeThing := Or.inl tw_4_172
theorem lk_Mo_172 : tx_LK "TamedClassSetModel" 172 y_Mo_after := Or.inl tw_4_124
theorem lk_Mo_175 : tx_LK "TamedClassSetModel" 175 y_Mo_led := Or.inl tw_4_116
theorem lk_Mo_179 : tx_LK "TamedClassSetModel" 179 y_Mo_onward := Or.inl tw_4_120
theorem lk_Mo_182 : tx_LK "TamedClassSetModel" 182 y_Mo_isFinal := Or.inl tw_4_80
theorem lk_Mo_185 : tx_LK "TamedClassSetModel" 185 y_Mo_powerless := Or.inl tw_4_84
theorem lk_Mo_188 : tx_LK "TamedClassSetModel" 188 y_Mo_immutable := Or.inl tw_4_104
theorem lk_Mo_191 : tx_LK "TamedClassSetModel" 191 y_Mo_looseStatic := Or.inl tw_4_72
theorem lk_Mo_194 : tx_LK "TamedClassSetModel" 194 y_Mo_looseField := Or.inl tw_4_96
theorem lk_Mo_197 : tx_LK "TamedClassSetModel" 197 y_Mo_unlike := Or.inl tw_4_108
theorem lk_Mo_200 : tx_LK "TamedClassSetModel" 200 y_Mo_fitsTypes := Or.inl tw_4_112
theorem lk_Mo_203 : tx_LK "TamedClassSetModel" 203 y_Mo_wild := Or.inl tw_4_176
theorem lk_Mo_206 : tx_LK "TamedClassSetModel" 206 y_Mo_broken := Or.inl tw_4_68
theorem lk_Mo_213 : tx_LK "TamedClassSetModel" 213 y_Mo_pop := Or.inl tw_4_214
theorem lk_Mo_216 : tx_LK "TamedClassSetModel" 216 y_Mo_chosen := Or.inl tw_4_197
theorem lk_Mo_219 : tx_LK "TamedClassSetModel" 219 y_Mo_enter := Or.inl tw_4_201
theorem lk_Mo_229 : tx_LK "TamedClassSetModel" 229 y_Mo_push := Or.inl tw_4_218
theorem lk_Mo_233 : tx_LK "TamedClassSetModel" 233 y_Mo_bits := Or.inl tw_4_238
theorem lk_Mo_239 : tx_LK "TamedClassSetModel" 239 y_Mo_make := Or.inl tw_4_210
theorem lk_Mo_242 : tx_LK "TamedClassSetModel" 242 y_Mo_slotted := Or.inl tw_4_222
theorem lk_Mo_246 : tx_LK "TamedClassSetModel" 246 y_Mo_call := Or.inl tw_4_226
theorem lk_Mo_249 : tx_LK "TamedClassSetModel" 249 y_Mo_sum := Or.inl tw_4_230
theorem lk_Mo_252 : tx_LK "TamedClassSetModel" 252 y_Mo_library := Or.inl tw_4_234
theorem lk_Mo_255 : tx_LK "TamedClassSetModel" 255 y_Mo_back := Or.inl tw_5_1
theorem lk_Mo_267 : tx_LK "TamedClassSetModel" 267 y_Mo_holds := Or.inl tw_4_192
theorem lk_Mo_270 : tx_LK "TamedClassSetModel" 270 y_Mo_refuses := Or.inl tw_4_188
theorem lk_Mo_277 : tx_LK "TamedClassSetModel" 277 y_Mo_once := Or.inl tw_4_206
theorem lk_Mo_282 : tx_LK "TamedClassSetModel" 282 y_Mo_shown := Or.inl tw_5_6
theorem lk_Mo_87 : tx_LK "TamedClassSetModel" 87 y_Mo_isClass := Or.inl tw_4_32
theorem lk_Mo_98 : tx_LK "TamedClassSetModel" 98 y_Mo_isType := Or.inl tw_4_40
theorem lk_Plan_61 : tx_LK "TamedClassSet$Plan" 61 y_Plan_isStaticField := Or.inl tw_2_105
theorem lk_Plan_65 : tx_LK "TamedClassSet$Plan" 65 y_Plan_isUnder := Or.inl tw_2_106
theorem lk_Plan_69 : tx_LK "TamedClassSet$Plan" 69 y_Plan_owns := Or.inl tw_3_76
theorem lk_Plan_72 : tx_LK "TamedClassSet$Plan" 72 y_Plan_methodNamed := Or.inl tw_3_47
theorem lk_Rules_100 : tx_LK "TamedClassSet$Rules" 100 y_Fitting_comparesImmutable := Or.inl tw_2_229
theorem lk_Rules_25 : tx_LK "TamedClassSet$Rules" 25 y_Rules_changesForAll := Or.inl tw_2_77
theorem lk_Rules_29 : tx_LK "TamedClassSet$Rules" 29 y_Rules_changesImmutable := Or.inl tw_2_93
theorem lk_Rules_35 : tx_LK "TamedClassSet$Rules" 35 y_Rules_overridesBadly := Or.inl tw_2_110
theorem lk_Rules_38 : tx_LK "TamedClassSet$Rules" 38 y_Fitting_codeFits := Or.inl tw_2_123
theorem lk_Rules_47 : tx_LK "TamedClassSet$Rules" 47 y_Rules_breaks := Or.inl tw_2_225
theorem lk_Rules_51 : tx_LK "TamedClassSet$Rules" 51 y_Plan_isStaticField := Or.inl tw_2_81
theorem lk_Rules_54 : tx_LK "TamedClassSet$Rules" 54 y_Plan_isFinalField := Or.inl tw_2_85
theorem lk_Rules_60 : tx_LK "TamedClassSet$Rules" 60 y_Plan_isPowerless := Or.inl tw_2_89
theorem lk_Rules_63 : tx_LK "TamedClassSet$Rules" 63 y_Plan_isImmutable := Or.inl tw_2_97
theorem lk_Rules_69 : tx_LK "TamedClassSet$Rules" 69 y_Plan_owns := Or.inl tw_2_101
theorem lk_Rules_76 : tx_LK "TamedClassSet$Rules" 76 y_Plan_isUnder := Or.inl tw_2_114
theorem lk_Rules_82 : tx_LK "TamedClassSet$Rules" 82 y_Rules_agree := Or.inl tw_2_115
theorem lk_Rules_85 : tx_LK "TamedClassSet$Rules" 85 y_Plan_isStaticMethod := Or.inl tw_2_119
theorem lk_X_102 : tx_LK "TamedClassSet" 102 y_Rules_firstBreach := Or.inl tw_2_73
theorem lk_X_106 : tx_LK "TamedClassSet" 106 y_Plan_forgetAll := Or.inl tw_2_238
theorem lk_X_109 : tx_LK "TamedClassSet" 109 y_Heap_forgetAll := Or.inl tw_3_2
theorem lk_X_110 : tx_LK "TamedClassSet" 110 y_Plan_isInstruction := Or.inl tw_3_10
theorem lk_X_119 : tx_LK "TamedClassSet" 119 y_X_receiverFits := Or.inl tw_3_16
theorem lk_X_122 : tx_LK "TamedClassSet" 122 y_X_argumentFits := Or.inl tw_3_26
theorem lk_X_128 : tx_LK "TamedClassSet" 128 y_Heap_inHandle := Or.inl tw_3_21
theorem lk_X_131 : tx_LK "TamedClassSet" 131 y_Machine_execute := Or.inl tw_3_30
theorem lk_X_145 : tx_LK "TamedClassSet" 145 y_Heap_hold := Or.inl tw_3_119
theorem lk_X_149 : tx_LK "TamedClassSet" 149 y_X_answerOf := Or.inl tw_3_127
theorem lk_X_156 : tx_LK "TamedClassSet" 156 y_Heap_slotValue := Or.inl tw_3_139
theorem lk_X_159 : tx_LK "TamedClassSet" 159 y_Plan_isField := Or.inl tw_3_140
theorem lk_X_162 : tx_LK "TamedClassSet" 162 y_Plan_owns := Or.inl tw_3_141
theorem lk_X_168 : tx_LK "TamedClassSet" 168 y_Plan_slotOf := Or.inl tw_3_142
theorem lk_X_171 : tx_LK "TamedClassSet" 171 y_Plan_isStaticMethod := Or.inl tw_3_20
theorem lk_X_177 : tx_LK "TamedClassSet" 177 y_Plan_fits := Or.inl tw_3_25
theorem lk_X_182 : tx_LK "TamedClassSet" 182 y_Heap_handleOf := Or.inl tw_3_132
theorem lk_X_61 : tx_LK "TamedClassSet" 61 y_Plan_isClass := Or.inl tw_2_25
theorem lk_X_68 : tx_LK "TamedClassSet" 68 y_Plan_newClass := Or.inl tw_2_29
theorem lk_X_72 : tx_LK "TamedClassSet" 72 y_Plan_isType := Or.inl tw_2_37
theorem lk_X_78 : tx_LK "TamedClassSet" 78 y_Plan_newField := Or.inl tw_2_41
theorem lk_X_82 : tx_LK "TamedClassSet" 82 y_Plan_methodNamed := Or.inl tw_2_49
theorem lk_X_88 : tx_LK "TamedClassSet" 88 y_Plan_newMethod := Or.inl tw_2_53
theorem lk_X_92 : tx_LK "TamedClassSet" 92 y_Plan_isMethod := Or.inl tw_2_61
theorem lk_X_99 : tx_LK "TamedClassSet" 99 y_Plan_newInstruction := Or.inl tw_2_65
theorem tx_fi_Arr_fill4_Arr_rangeCheck : tx_fit mi_Arr_rangeCheck mi_Arr_fill4 := ⟨rfl, rfl, Nat.le_of_ble_eq_true rfl, Nat.le_of_ble_eq_true rfl⟩
theorem tx_fi_Fitting_apply_Fitting_callMethod : tx_fit mi_Fitting_callMethod mi_Fitting_apply := ⟨rfl, rfl, Nat.le_of_ble_eq_true rfl, Nat.le_of_ble_eq_true rfl⟩
theorem tx_fi_Fitting_apply_Fitting_demand : tx_fit mi_Fitting_demand mi_Fitting_apply := ⟨rfl, rfl, Nat.le_of_ble_eq_true rfl, Nat.le_of_ble_eq_true rfl⟩
theorem tx_fi_Fitting_apply_Fitting_load : tx_fit mi_Fitting_load mi_Fitting_apply := ⟨rfl, rfl, Nat.le_of_ble_eq_true rfl, Nat.le_of_ble_eq_true rfl⟩
theorem tx_fi_Fitting_apply_Fitting_make : tx_fit mi_Fitting_make mi_Fitting_apply := ⟨rfl, rfl, Nat.le_of_ble_eq_true rfl, Nat.le_of_ble_eq_true rfl⟩
theorem tx_fi_Fitting_apply_Fitting_put : tx_fit mi_Fitting_put mi_Fitting_apply := ⟨rfl, rfl, Nat.le_of_ble_eq_true rfl, Nat.le_of_ble_eq_true rfl⟩
theorem tx_fi_Fitting_apply_Fitting_putClass : tx_fit mi_Fitting_putClass mi_Fitting_apply := ⟨rfl, rfl, Nat.le_of_ble_eq_true rfl, Nat.le_of_ble_eq_true rfl⟩
theorem tx_fi_Fitting_apply_Fitting_store : tx_fit mi_Fitting_store mi_Fitting_apply := ⟨rfl, rfl, Nat.le_of_ble_eq_true rfl, Nat.le_of_ble_eq_true rfl⟩
theorem tx_fi_Fitting_apply_Fitting_take : tx_fit mi_Fitting_take mi_Fitting_apply := ⟨rfl, rfl, Nat.le_of_ble_eq_true rfl, Nat.le_of_ble_eq_true rfl⟩
theorem tx_fi_Fitting_apply_Fitting_takeReference : tx_fit mi_Fitting_takeReference mi_Fitting_apply := ⟨rfl, rfl, Nat.le_of_ble_eq_true rfl, Nat.le_of_ble_eq_true rfl⟩
theorem tx_fi_Fitting_apply_Fitting_useField : tx_fit mi_Fitting_useField mi_Fitting_apply := ⟨rfl, rfl, Nat.le_of_ble_eq_true rfl, Nat.le_of_ble_eq_true rfl⟩
theorem tx_fi_Fitting_apply_Fitting_useStaticField : tx_fit mi_Fitting_useStaticField mi_Fitting_apply := ⟨rfl, rfl, Nat.le_of_ble_eq_true rfl, Nat.le_of_ble_eq_true rfl⟩
theorem tx_fi_Fitting_arriveAt_Fitting_packed : tx_fit mi_Fitting_packed mi_Fitting_arriveAt := ⟨rfl, rfl, Nat.le_of_ble_eq_true rfl, Nat.le_of_ble_eq_true rfl⟩
theorem tx_fi_Fitting_arriveAt_Plan_isInstruction : tx_fit mi_Plan_isInstruction mi_Fitting_arriveAt := ⟨rfl, rfl, Nat.le_of_ble_eq_true rfl, Nat.le_of_ble_eq_true rfl⟩
theorem tx_fi_Fitting_begin_Arr_fill2 : tx_fit mi_Arr_fill2 mi_Fitting_begin := ⟨rfl, rfl, Nat.le_of_ble_eq_true rfl, Nat.le_of_ble_eq_true rfl⟩
theorem tx_fi_Fitting_begin_Arr_fill4 : tx_fit mi_Arr_fill4 mi_Fitting_begin := ⟨rfl, rfl, Nat.le_of_ble_eq_true rfl, Nat.le_of_ble_eq_true rfl⟩
theorem tx_fi_Fitting_begin_Plan_isStaticMethod : tx_fit mi_Plan_isStaticMethod mi_Fitting_begin := ⟨rfl, rfl, Nat.le_of_ble_eq_true rfl, Nat.le_of_ble_eq_true rfl⟩
theorem tx_fi_Fitting_callMethod_Fitting_demand : tx_fit mi_Fitting_demand mi_Fitting_callMethod := ⟨rfl, rfl, Nat.le_of_ble_eq_true rfl, Nat.le_of_ble_eq_true rfl⟩
theorem tx_fi_Fitting_callMethod_Fitting_put : tx_fit mi_Fitting_put mi_Fitting_callMethod := ⟨rfl, rfl, Nat.le_of_ble_eq_true rfl, Nat.le_of_ble_eq_true rfl⟩
theorem tx_fi_Fitting_callMethod_Fitting_take : tx_fit mi_Fitting_take mi_Fitting_callMethod := ⟨rfl, rfl, Nat.le_of_ble_eq_true rfl, Nat.le_of_ble_eq_true rfl⟩
theorem tx_fi_Fitting_callMethod_Plan_isMethod : tx_fit mi_Plan_isMethod mi_Fitting_callMethod := ⟨rfl, rfl, Nat.le_of_ble_eq_true rfl, Nat.le_of_ble_eq_true rfl⟩
theorem tx_fi_Fitting_callMethod_Plan_isStaticMethod : tx_fit mi_Plan_isStaticMethod mi_Fitting_callMethod := ⟨rfl, rfl, Nat.le_of_ble_eq_true rfl, Nat.le_of_ble_eq_true rfl⟩
theorem tx_fi_Fitting_codeFits_Fitting_apply : tx_fit mi_Fitting_apply mi_Fitting_codeFits := ⟨rfl, rfl, Nat.le_of_ble_eq_true rfl, Nat.le_of_ble_eq_true rfl⟩
theorem tx_fi_Fitting_codeFits_Fitting_arriveAt : tx_fit mi_Fitting_arriveAt mi_Fitting_codeFits := ⟨rfl, rfl, Nat.le_of_ble_eq_true rfl, Nat.le_of_ble_eq_true rfl⟩
theorem tx_fi_Fitting_codeFits_Fitting_begin : tx_fit mi_Fitting_begin mi_Fitting_codeFits := ⟨rfl, rfl, Nat.le_of_ble_eq_true rfl, Nat.le_of_ble_eq_true rfl⟩
theorem tx_fi_Fitting_codeFits_Fitting_leave : tx_fit mi_Fitting_leave mi_Fitting_codeFits := ⟨rfl, rfl, Nat.le_of_ble_eq_true rfl, Nat.le_of_ble_eq_true rfl⟩
theorem tx_fi_Fitting_codeFits_Fitting_unpack : tx_fit mi_Fitting_unpack mi_Fitting_codeFits := ⟨rfl, rfl, Nat.le_of_ble_eq_true rfl, Nat.le_of_ble_eq_true rfl⟩
theorem tx_fi_Fitting_comparesImmutable_Fitting_unpack : tx_fit mi_Fitting_unpack mi_Fitting_comparesImmutable := ⟨rfl, rfl, Nat.le_of_ble_eq_true rfl, Nat.le_of_ble_eq_true rfl⟩
theorem tx_fi_Fitting_comparesImmutable_Plan_isImmutable : tx_fit mi_Plan_isImmutable mi_Fitting_comparesImmutable := ⟨rfl, rfl, Nat.le_of_ble_eq_true rfl, Nat.le_of_ble_eq_true rfl⟩
theorem tx_fi_Fitting_leave_Fitting_arriveAt : tx_fit mi_Fitting_arriveAt mi_Fitting_leave := ⟨rfl, rfl, Nat.le_of_ble_eq_true rfl, Nat.le_of_ble_eq_true rfl⟩
theorem tx_fi_Fitting_load_Fitting_demand : tx_fit mi_Fitting_demand mi_Fitting_load := ⟨rfl, rfl, Nat.le_of_ble_eq_true rfl, Nat.le_of_ble_eq_true rfl⟩
theorem tx_fi_Fitting_load_Fitting_put : tx_fit mi_Fitting_put mi_Fitting_load := ⟨rfl, rfl, Nat.le_of_ble_eq_true rfl, Nat.le_of_ble_eq_true rfl⟩
theorem tx_fi_Fitting_make_Fitting_demand : tx_fit mi_Fitting_demand mi_Fitting_make := ⟨rfl, rfl, Nat.le_of_ble_eq_true rfl, Nat.le_of_ble_eq_true rfl⟩
theorem tx_fi_Fitting_make_Fitting_put : tx_fit mi_Fitting_put mi_Fitting_make := ⟨rfl, rfl, Nat.le_of_ble_eq_true rfl, Nat.le_of_ble_eq_true rfl⟩
theorem tx_fi_Fitting_make_Fitting_take : tx_fit mi_Fitting_take mi_Fitting_make := ⟨rfl, rfl, Nat.le_of_ble_eq_true rfl, Nat.le_of_ble_eq_true rfl⟩
theorem tx_fi_Fitting_make_Plan_isClass : tx_fit mi_Plan_isClass mi_Fitting_make := ⟨rfl, rfl, Nat.le_of_ble_eq_true rfl, Nat.le_of_ble_eq_true rfl⟩
theorem tx_fi_Fitting_make_Plan_owns : tx_fit mi_Plan_owns mi_Fitting_make := ⟨rfl, rfl, Nat.le_of_ble_eq_true rfl, Nat.le_of_ble_eq_true rfl⟩
theorem tx_fi_Fitting_putClass_Fitting_demand : tx_fit mi_Fitting_demand mi_Fitting_putClass := ⟨rfl, rfl, Nat.le_of_ble_eq_true rfl, Nat.le_of_ble_eq_true rfl⟩
theorem tx_fi_Fitting_putClass_Fitting_put : tx_fit mi_Fitting_put mi_Fitting_putClass := ⟨rfl, rfl, Nat.le_of_ble_eq_true rfl, Nat.le_of_ble_eq_true rfl⟩
theorem tx_fi_Fitting_putClass_Plan_isClass : tx_fit mi_Plan_isClass mi_Fitting_putClass := ⟨rfl, rfl, Nat.le_of_ble_eq_true rfl, Nat.le_of_ble_eq_true rfl⟩
theorem tx_fi_Fitting_store_Fitting_demand : tx_fit mi_Fitting_demand mi_Fitting_store := ⟨rfl, rfl, Nat.le_of_ble_eq_true rfl, Nat.le_of_ble_eq_true rfl⟩
theorem tx_fi_Fitting_store_Fitting_takeAny : tx_fit mi_Fitting_takeAny mi_Fitting_store := ⟨rfl, rfl, Nat.le_of_ble_eq_true rfl, Nat.le_of_ble_eq_true rfl⟩
theorem tx_fi_Fitting_take_Fitting_demand : tx_fit mi_Fitting_demand mi_Fitting_take := ⟨rfl, rfl, Nat.le_of_ble_eq_true rfl, Nat.le_of_ble_eq_true rfl⟩
theorem tx_fi_Fitting_take_Fitting_takeAny : tx_fit mi_Fitting_takeAny mi_Fitting_take := ⟨rfl, rfl, Nat.le_of_ble_eq_true rfl, Nat.le_of_ble_eq_true rfl⟩
theorem tx_fi_Fitting_take_Plan_fits : tx_fit mi_Plan_fits mi_Fitting_take := ⟨rfl, rfl, Nat.le_of_ble_eq_true rfl, Nat.le_of_ble_eq_true rfl⟩
theorem tx_fi_Fitting_takeReference_Fitting_demand : tx_fit mi_Fitting_demand mi_Fitting_takeReference := ⟨rfl, rfl, Nat.le_of_ble_eq_true rfl, Nat.le_of_ble_eq_true rfl⟩
theorem tx_fi_Fitting_takeReference_Fitting_takeAny : tx_fit mi_Fitting_takeAny mi_Fitting_takeReference := ⟨rfl, rfl, Nat.le_of_ble_eq_true rfl, Nat.le_of_ble_eq_true rfl⟩
theorem tx_fi_Fitting_useField_Fitting_demand : tx_fit mi_Fitting_demand mi_Fitting_useField := ⟨rfl, rfl, Nat.le_of_ble_eq_true rfl, Nat.le_of_ble_eq_true rfl⟩
theorem tx_fi_Fitting_useField_Fitting_put : tx_fit mi_Fitting_put mi_Fitting_useField := ⟨rfl, rfl, Nat.le_of_ble_eq_true rfl, Nat.le_of_ble_eq_true rfl⟩
theorem tx_fi_Fitting_useField_Fitting_take : tx_fit mi_Fitting_take mi_Fitting_useField := ⟨rfl, rfl, Nat.le_of_ble_eq_true rfl, Nat.le_of_ble_eq_true rfl⟩
theorem tx_fi_Fitting_useField_Plan_isField : tx_fit mi_Plan_isField mi_Fitting_useField := ⟨rfl, rfl, Nat.le_of_ble_eq_true rfl, Nat.le_of_ble_eq_true rfl⟩
theorem tx_fi_Fitting_useField_Plan_isStaticField : tx_fit mi_Plan_isStaticField mi_Fitting_useField := ⟨rfl, rfl, Nat.le_of_ble_eq_true rfl, Nat.le_of_ble_eq_true rfl⟩
theorem tx_fi_Fitting_useStaticField_Fitting_demand : tx_fit mi_Fitting_demand mi_Fitting_useStaticField := ⟨rfl, rfl, Nat.le_of_ble_eq_true rfl, Nat.le_of_ble_eq_true rfl⟩
theorem tx_fi_Fitting_useStaticField_Fitting_put : tx_fit mi_Fitting_put mi_Fitting_useStaticField := ⟨rfl, rfl, Nat.le_of_ble_eq_true rfl, Nat.le_of_ble_eq_true rfl⟩
theorem tx_fi_Fitting_useStaticField_Fitting_take : tx_fit mi_Fitting_take mi_Fitting_useStaticField := ⟨rfl, rfl, Nat.le_of_ble_eq_true rfl, Nat.le_of_ble_eq_true rfl⟩
theorem tx_fi_Fitting_useStaticField_Plan_isField : tx_fit mi_Plan_isField mi_Fitting_useStaticField := ⟨rfl, rfl, Nat.le_of_ble_eq_true rfl, Nat.le_of_ble_eq_true rfl⟩
theorem tx_fi_Fitting_useStaticField_Plan_isStaticField : tx_fit mi_Plan_isStaticField mi_Fitting_useStaticField := ⟨rfl, rfl, Nat.le_of_ble_eq_true rfl, Nat.le_of_ble_eq_true rfl⟩
theorem tx_fi_Heap_hold_Heap_handleOf : tx_fit mi_Heap_handleOf mi_Heap_hold := ⟨rfl, rfl, Nat.le_of_ble_eq_true rfl, Nat.le_of_ble_eq_true rfl⟩
theorem tx_fi_Machine_callMethod_Frame_pop : tx_fit mi_Frame_pop mi_Machine_callMethod := ⟨rfl, rfl, Nat.le_of_ble_eq_true rfl, Nat.le_of_ble_eq_true rfl⟩
theorem tx_fi_Machine_callMethod_Machine_enter : tx_fit mi_Machine_enter mi_Machine_callMethod := ⟨rfl, rfl, Nat.le_of_ble_eq_true rfl, Nat.le_of_ble_eq_true rfl⟩
theorem tx_fi_Machine_callMethod_Plan_isStaticMethod : tx_fit mi_Plan_isStaticMethod mi_Machine_callMethod := ⟨rfl, rfl, Nat.le_of_ble_eq_true rfl, Nat.le_of_ble_eq_true rfl⟩
theorem tx_fi_Machine_combine_Frame_pop : tx_fit mi_Frame_pop mi_Machine_combine := ⟨rfl, rfl, Nat.le_of_ble_eq_true rfl, Nat.le_of_ble_eq_true rfl⟩
theorem tx_fi_Machine_combine_Frame_push : tx_fit mi_Frame_push mi_Machine_combine := ⟨rfl, rfl, Nat.le_of_ble_eq_true rfl, Nat.le_of_ble_eq_true rfl⟩
theorem tx_fi_Machine_enter_Frame_begin : tx_fit mi_Frame_begin mi_Machine_enter := ⟨rfl, rfl, Nat.le_of_ble_eq_true rfl, Nat.le_of_ble_eq_true rfl⟩
theorem tx_fi_Machine_enter_Plan_chosenMethod : tx_fit mi_Plan_chosenMethod mi_Machine_enter := ⟨rfl, rfl, Nat.le_of_ble_eq_true rfl, Nat.le_of_ble_eq_true rfl⟩
theorem tx_fi_Machine_enter_Plan_isStaticMethod : tx_fit mi_Plan_isStaticMethod mi_Machine_enter := ⟨rfl, rfl, Nat.le_of_ble_eq_true rfl, Nat.le_of_ble_eq_true rfl⟩
theorem tx_fi_Machine_execute_Machine_enter : tx_fit mi_Machine_enter mi_Machine_execute := ⟨rfl, rfl, Nat.le_of_ble_eq_true rfl, Nat.le_of_ble_eq_true rfl⟩
theorem tx_fi_Machine_execute_Machine_step : tx_fit mi_Machine_step mi_Machine_execute := ⟨rfl, rfl, Nat.le_of_ble_eq_true rfl, Nat.le_of_ble_eq_true rfl⟩
theorem tx_fi_Machine_leave_Frame_pop : tx_fit mi_Frame_pop mi_Machine_leave := ⟨rfl, rfl, Nat.le_of_ble_eq_true rfl, Nat.le_of_ble_eq_true rfl⟩
theorem tx_fi_Machine_leave_Frame_push : tx_fit mi_Frame_push mi_Machine_leave := ⟨rfl, rfl, Nat.le_of_ble_eq_true rfl, Nat.le_of_ble_eq_true rfl⟩
theorem tx_fi_Machine_library_Frame_pop : tx_fit mi_Frame_pop mi_Machine_library := ⟨rfl, rfl, Nat.le_of_ble_eq_true rfl, Nat.le_of_ble_eq_true rfl⟩
theorem tx_fi_Machine_library_Frame_push : tx_fit mi_Frame_push mi_Machine_library := ⟨rfl, rfl, Nat.le_of_ble_eq_true rfl, Nat.le_of_ble_eq_true rfl⟩
theorem tx_fi_Machine_library_Int_bitCount : tx_fit mi_Int_bitCount mi_Machine_library := ⟨rfl, rfl, Nat.le_of_ble_eq_true rfl, Nat.le_of_ble_eq_true rfl⟩
theorem tx_fi_Machine_library_Math_abs : tx_fit mi_Math_abs mi_Machine_library := ⟨rfl, rfl, Nat.le_of_ble_eq_true rfl, Nat.le_of_ble_eq_true rfl⟩
theorem tx_fi_Machine_make_Frame_pop : tx_fit mi_Frame_pop mi_Machine_make := ⟨rfl, rfl, Nat.le_of_ble_eq_true rfl, Nat.le_of_ble_eq_true rfl⟩
theorem tx_fi_Machine_make_Frame_push : tx_fit mi_Frame_push mi_Machine_make := ⟨rfl, rfl, Nat.le_of_ble_eq_true rfl, Nat.le_of_ble_eq_true rfl⟩
theorem tx_fi_Machine_make_Heap_newThing : tx_fit mi_Heap_newThing mi_Machine_make := ⟨rfl, rfl, Nat.le_of_ble_eq_true rfl, Nat.le_of_ble_eq_true rfl⟩
theorem tx_fi_Machine_make_Heap_setSlot : tx_fit mi_Heap_setSlot mi_Machine_make := ⟨rfl, rfl, Nat.le_of_ble_eq_true rfl, Nat.le_of_ble_eq_true rfl⟩
theorem tx_fi_Machine_make_Plan_slotOf : tx_fit mi_Plan_slotOf mi_Machine_make := ⟨rfl, rfl, Nat.le_of_ble_eq_true rfl, Nat.le_of_ble_eq_true rfl⟩
theorem tx_fi_Machine_makeCell_Frame_pop : tx_fit mi_Frame_pop mi_Machine_makeCell := ⟨rfl, rfl, Nat.le_of_ble_eq_true rfl, Nat.le_of_ble_eq_true rfl⟩
theorem tx_fi_Machine_makeCell_Frame_push : tx_fit mi_Frame_push mi_Machine_makeCell := ⟨rfl, rfl, Nat.le_of_ble_eq_true rfl, Nat.le_of_ble_eq_true rfl⟩
theorem tx_fi_Machine_makeCell_Heap_newThing : tx_fit mi_Heap_newThing mi_Machine_makeCell := ⟨rfl, rfl, Nat.le_of_ble_eq_true rfl, Nat.le_of_ble_eq_true rfl⟩
theorem tx_fi_Machine_makeCell_Heap_setSlot : tx_fit mi_Heap_setSlot mi_Machine_makeCell := ⟨rfl, rfl, Nat.le_of_ble_eq_true rfl, Nat.le_of_ble_eq_true rfl⟩
theorem tx_fi_Machine_step_Frame_pop : tx_fit mi_Frame_pop mi_Machine_step := ⟨rfl, rfl, Nat.le_of_ble_eq_true rfl, Nat.le_of_ble_eq_true rfl⟩
theorem tx_fi_Machine_step_Frame_push : tx_fit mi_Frame_push mi_Machine_step := ⟨rfl, rfl, Nat.le_of_ble_eq_true rfl, Nat.le_of_ble_eq_true rfl⟩
theorem tx_fi_Machine_step_Machine_callMethod : tx_fit mi_Machine_callMethod mi_Machine_step := ⟨rfl, rfl, Nat.le_of_ble_eq_true rfl, Nat.le_of_ble_eq_true rfl⟩
theorem tx_fi_Machine_step_Machine_combine : tx_fit mi_Machine_combine mi_Machine_step := ⟨rfl, rfl, Nat.le_of_ble_eq_true rfl, Nat.le_of_ble_eq_true rfl⟩
theorem tx_fi_Machine_step_Machine_leave : tx_fit mi_Machine_leave mi_Machine_step := ⟨rfl, rfl, Nat.le_of_ble_eq_true rfl, Nat.le_of_ble_eq_true rfl⟩
theorem tx_fi_Machine_step_Machine_library : tx_fit mi_Machine_library mi_Machine_step := ⟨rfl, rfl, Nat.le_of_ble_eq_true rfl, Nat.le_of_ble_eq_true rfl⟩
theorem tx_fi_Machine_step_Machine_make : tx_fit mi_Machine_make mi_Machine_step := ⟨rfl, rfl, Nat.le_of_ble_eq_true rfl, Nat.le_of_ble_eq_true rfl⟩
theorem tx_fi_Machine_step_Machine_makeCell : tx_fit mi_Machine_makeCell mi_Machine_step := ⟨rfl, rfl, Nat.le_of_ble_eq_true rfl, Nat.le_of_ble_eq_true rfl⟩
theorem tx_fi_Machine_step_Machine_useCell : tx_fit mi_Machine_useCell mi_Machine_step := ⟨rfl, rfl, Nat.le_of_ble_eq_true rfl, Nat.le_of_ble_eq_true rfl⟩
theorem tx_fi_Machine_step_Machine_useField : tx_fit mi_Machine_useField mi_Machine_step := ⟨rfl, rfl, Nat.le_of_ble_eq_true rfl, Nat.le_of_ble_eq_true rfl⟩
theorem tx_fi_Machine_useCell_Frame_pop : tx_fit mi_Frame_pop mi_Machine_useCell := ⟨rfl, rfl, Nat.le_of_ble_eq_true rfl, Nat.le_of_ble_eq_true rfl⟩
theorem tx_fi_Machine_useCell_Frame_push : tx_fit mi_Frame_push mi_Machine_useCell := ⟨rfl, rfl, Nat.le_of_ble_eq_true rfl, Nat.le_of_ble_eq_true rfl⟩
theorem tx_fi_Machine_useCell_Heap_setSlot : tx_fit mi_Heap_setSlot mi_Machine_useCell := ⟨rfl, rfl, Nat.le_of_ble_eq_true rfl, Nat.le_of_ble_eq_true rfl⟩
theorem tx_fi_Machine_useCell_Heap_slotValue : tx_fit mi_Heap_slotValue mi_Machine_useCell := ⟨rfl, rfl, Nat.le_of_ble_eq_true rfl, Nat.le_of_ble_eq_true rfl⟩
theorem tx_fi_Machine_useField_Frame_pop : tx_fit mi_Frame_pop mi_Machine_useField := ⟨rfl, rfl, Nat.le_of_ble_eq_true rfl, Nat.le_of_ble_eq_true rfl⟩
theorem tx_fi_Machine_useField_Frame_push : tx_fit mi_Frame_push mi_Machine_useField := ⟨rfl, rfl, Nat.le_of_ble_eq_true rfl, Nat.le_of_ble_eq_true rfl⟩
theorem tx_fi_Machine_useField_Heap_setSlot : tx_fit mi_Heap_setSlot mi_Machine_useField := ⟨rfl, rfl, Nat.le_of_ble_eq_true rfl, Nat.le_of_ble_eq_true rfl⟩
theorem tx_fi_Machine_useField_Heap_slotValue : tx_fit mi_Heap_slotValue mi_Machine_useField := ⟨rfl, rfl, Nat.le_of_ble_eq_true rfl, Nat.le_of_ble_eq_true rfl⟩
theorem tx_fi_Machine_useField_Plan_slotOf : tx_fit mi_Plan_slotOf mi_Machine_useField := ⟨rfl, rfl, Nat.le_of_ble_eq_true rfl, Nat.le_of_ble_eq_true rfl⟩
theorem tx_fi_Mo_addClass_Mo_isClass : tx_fit mi_Mo_isClass mi_Mo_addClass := ⟨rfl, rfl, Nat.le_of_ble_eq_true rfl, Nat.le_of_ble_eq_true rfl⟩
theorem tx_fi_Mo_addField_Mo_isClass : tx_fit mi_Mo_isClass mi_Mo_addField := ⟨rfl, rfl, Nat.le_of_ble_eq_true rfl, Nat.le_of_ble_eq_true rfl⟩
theorem tx_fi_Mo_addField_Mo_isType : tx_fit mi_Mo_isType mi_Mo_addField := ⟨rfl, rfl, Nat.le_of_ble_eq_true rfl, Nat.le_of_ble_eq_true rfl⟩
theorem tx_fi_Mo_addMethod_Mo_isClass : tx_fit mi_Mo_isClass mi_Mo_addMethod := ⟨rfl, rfl, Nat.le_of_ble_eq_true rfl, Nat.le_of_ble_eq_true rfl⟩
theorem tx_fi_Mo_addMethod_Mo_isType : tx_fit mi_Mo_isType mi_Mo_addMethod := ⟨rfl, rfl, Nat.le_of_ble_eq_true rfl, Nat.le_of_ble_eq_true rfl⟩
theorem tx_fi_Mo_addMethod_Mo_methodOf : tx_fit mi_Mo_methodOf mi_Mo_addMethod := ⟨rfl, rfl, Nat.le_of_ble_eq_true rfl, Nat.le_of_ble_eq_true rfl⟩
theorem tx_fi_Mo_after_Mo_calls : tx_fit mi_Mo_calls mi_Mo_after := ⟨rfl, rfl, Nat.le_of_ble_eq_true rfl, Nat.le_of_ble_eq_true rfl⟩
theorem tx_fi_Mo_after_Mo_fielded : tx_fit mi_Mo_fielded mi_Mo_after := ⟨rfl, rfl, Nat.le_of_ble_eq_true rfl, Nat.le_of_ble_eq_true rfl⟩
theorem tx_fi_Mo_after_Mo_give : tx_fit mi_Mo_give mi_Mo_after := ⟨rfl, rfl, Nat.le_of_ble_eq_true rfl, Nat.le_of_ble_eq_true rfl⟩
theorem tx_fi_Mo_after_Mo_isClass : tx_fit mi_Mo_isClass mi_Mo_after := ⟨rfl, rfl, Nat.le_of_ble_eq_true rfl, Nat.le_of_ble_eq_true rfl⟩
theorem tx_fi_Mo_after_Mo_loaded : tx_fit mi_Mo_loaded mi_Mo_after := ⟨rfl, rfl, Nat.le_of_ble_eq_true rfl, Nat.le_of_ble_eq_true rfl⟩
theorem tx_fi_Mo_after_Mo_makes : tx_fit mi_Mo_makes mi_Mo_after := ⟨rfl, rfl, Nat.le_of_ble_eq_true rfl, Nat.le_of_ble_eq_true rfl⟩
theorem tx_fi_Mo_after_Mo_stored : tx_fit mi_Mo_stored mi_Mo_after := ⟨rfl, rfl, Nat.le_of_ble_eq_true rfl, Nat.le_of_ble_eq_true rfl⟩
theorem tx_fi_Mo_after_Mo_take : tx_fit mi_Mo_take mi_Mo_after := ⟨rfl, rfl, Nat.le_of_ble_eq_true rfl, Nat.le_of_ble_eq_true rfl⟩
theorem tx_fi_Mo_after_Mo_takeThing : tx_fit mi_Mo_takeThing mi_Mo_after := ⟨rfl, rfl, Nat.le_of_ble_eq_true rfl, Nat.le_of_ble_eq_true rfl⟩
theorem tx_fi_Mo_back_Mo_pop : tx_fit mi_Mo_pop mi_Mo_back := ⟨rfl, rfl, Nat.le_of_ble_eq_true rfl, Nat.le_of_ble_eq_true rfl⟩
theorem tx_fi_Mo_back_Mo_push : tx_fit mi_Mo_push mi_Mo_back := ⟨rfl, rfl, Nat.le_of_ble_eq_true rfl, Nat.le_of_ble_eq_true rfl⟩
theorem tx_fi_Mo_broken_Mo_fitsTypes : tx_fit mi_Mo_fitsTypes mi_Mo_broken := ⟨rfl, rfl, Nat.le_of_ble_eq_true rfl, Nat.le_of_ble_eq_true rfl⟩
theorem tx_fi_Mo_broken_Mo_looseField : tx_fit mi_Mo_looseField mi_Mo_broken := ⟨rfl, rfl, Nat.le_of_ble_eq_true rfl, Nat.le_of_ble_eq_true rfl⟩
theorem tx_fi_Mo_broken_Mo_looseStatic : tx_fit mi_Mo_looseStatic mi_Mo_broken := ⟨rfl, rfl, Nat.le_of_ble_eq_true rfl, Nat.le_of_ble_eq_true rfl⟩
theorem tx_fi_Mo_broken_Mo_unlike : tx_fit mi_Mo_unlike mi_Mo_broken := ⟨rfl, rfl, Nat.le_of_ble_eq_true rfl, Nat.le_of_ble_eq_true rfl⟩
theorem tx_fi_Mo_broken_Mo_wild : tx_fit mi_Mo_wild mi_Mo_broken := ⟨rfl, rfl, Nat.le_of_ble_eq_true rfl, Nat.le_of_ble_eq_true rfl⟩
theorem tx_fi_Mo_call_Mo_chosen : tx_fit mi_Mo_chosen mi_Mo_call := ⟨rfl, rfl, Nat.le_of_ble_eq_true rfl, Nat.le_of_ble_eq_true rfl⟩
theorem tx_fi_Mo_call_Mo_enter : tx_fit mi_Mo_enter mi_Mo_call := ⟨rfl, rfl, Nat.le_of_ble_eq_true rfl, Nat.le_of_ble_eq_true rfl⟩
theorem tx_fi_Mo_call_Mo_pop : tx_fit mi_Mo_pop mi_Mo_call := ⟨rfl, rfl, Nat.le_of_ble_eq_true rfl, Nat.le_of_ble_eq_true rfl⟩
theorem tx_fi_Mo_calls_Mo_give : tx_fit mi_Mo_give mi_Mo_calls := ⟨rfl, rfl, Nat.le_of_ble_eq_true rfl, Nat.le_of_ble_eq_true rfl⟩
theorem tx_fi_Mo_calls_Mo_isMethod : tx_fit mi_Mo_isMethod mi_Mo_calls := ⟨rfl, rfl, Nat.le_of_ble_eq_true rfl, Nat.le_of_ble_eq_true rfl⟩
theorem tx_fi_Mo_calls_Mo_take : tx_fit mi_Mo_take mi_Mo_calls := ⟨rfl, rfl, Nat.le_of_ble_eq_true rfl, Nat.le_of_ble_eq_true rfl⟩
theorem tx_fi_Mo_check_Mo_broken : tx_fit mi_Mo_broken mi_Mo_check := ⟨rfl, rfl, Nat.le_of_ble_eq_true rfl, Nat.le_of_ble_eq_true rfl⟩
theorem tx_fi_Mo_chosen_Mo_methodOf : tx_fit mi_Mo_methodOf mi_Mo_chosen := ⟨rfl, rfl, Nat.le_of_ble_eq_true rfl, Nat.le_of_ble_eq_true rfl⟩
theorem tx_fi_Mo_drop_Mo_depth : tx_fit mi_Mo_depth mi_Mo_drop := ⟨rfl, rfl, Nat.le_of_ble_eq_true rfl, Nat.le_of_ble_eq_true rfl⟩
theorem tx_fi_Mo_emit_Mo_isMethod : tx_fit mi_Mo_isMethod mi_Mo_emit := ⟨rfl, rfl, Nat.le_of_ble_eq_true rfl, Nat.le_of_ble_eq_true rfl⟩
theorem tx_fi_Mo_fielded_Mo_give : tx_fit mi_Mo_give mi_Mo_fielded := ⟨rfl, rfl, Nat.le_of_ble_eq_true rfl, Nat.le_of_ble_eq_true rfl⟩
theorem tx_fi_Mo_fielded_Mo_isField : tx_fit mi_Mo_isField mi_Mo_fielded := ⟨rfl, rfl, Nat.le_of_ble_eq_true rfl, Nat.le_of_ble_eq_true rfl⟩
theorem tx_fi_Mo_fielded_Mo_take : tx_fit mi_Mo_take mi_Mo_fielded := ⟨rfl, rfl, Nat.le_of_ble_eq_true rfl, Nat.le_of_ble_eq_true rfl⟩
theorem tx_fi_Mo_fits_Mo_inLine : tx_fit mi_Mo_inLine mi_Mo_fits := ⟨rfl, rfl, Nat.le_of_ble_eq_true rfl, Nat.le_of_ble_eq_true rfl⟩
theorem tx_fi_Mo_fitsTypes_Mo_led : tx_fit mi_Mo_led mi_Mo_fitsTypes := ⟨rfl, rfl, Nat.le_of_ble_eq_true rfl, Nat.le_of_ble_eq_true rfl⟩
theorem tx_fi_Mo_fitsTypes_Mo_onward : tx_fit mi_Mo_onward mi_Mo_fitsTypes := ⟨rfl, rfl, Nat.le_of_ble_eq_true rfl, Nat.le_of_ble_eq_true rfl⟩
theorem tx_fi_Mo_give_Mo_depth : tx_fit mi_Mo_depth mi_Mo_give := ⟨rfl, rfl, Nat.le_of_ble_eq_true rfl, Nat.le_of_ble_eq_true rfl⟩
theorem tx_fi_Mo_held_Mo_holds : tx_fit mi_Mo_holds mi_Mo_held := ⟨rfl, rfl, Nat.le_of_ble_eq_true rfl, Nat.le_of_ble_eq_true rfl⟩
theorem tx_fi_Mo_immutable_Mo_marked : tx_fit mi_Mo_marked mi_Mo_immutable := ⟨rfl, rfl, Nat.le_of_ble_eq_true rfl, Nat.le_of_ble_eq_true rfl⟩
theorem tx_fi_Mo_isField_Mo_isStatic : tx_fit mi_Mo_isStatic mi_Mo_isField := ⟨rfl, rfl, Nat.le_of_ble_eq_true rfl, Nat.le_of_ble_eq_true rfl⟩
theorem tx_fi_Mo_isType_Mo_isClass : tx_fit mi_Mo_isClass mi_Mo_isType := ⟨rfl, rfl, Nat.le_of_ble_eq_true rfl, Nat.le_of_ble_eq_true rfl⟩
theorem tx_fi_Mo_library_Mo_bits : tx_fit mi_Mo_bits mi_Mo_library := ⟨rfl, rfl, Nat.le_of_ble_eq_true rfl, Nat.le_of_ble_eq_true rfl⟩
theorem tx_fi_Mo_library_Mo_pop : tx_fit mi_Mo_pop mi_Mo_library := ⟨rfl, rfl, Nat.le_of_ble_eq_true rfl, Nat.le_of_ble_eq_true rfl⟩
theorem tx_fi_Mo_library_Mo_push : tx_fit mi_Mo_push mi_Mo_library := ⟨rfl, rfl, Nat.le_of_ble_eq_true rfl, Nat.le_of_ble_eq_true rfl⟩
theorem tx_fi_Mo_loaded_Mo_give : tx_fit mi_Mo_give mi_Mo_loaded := ⟨rfl, rfl, Nat.le_of_ble_eq_true rfl, Nat.le_of_ble_eq_true rfl⟩
theorem tx_fi_Mo_look_Mo_holds : tx_fit mi_Mo_holds mi_Mo_look := ⟨rfl, rfl, Nat.le_of_ble_eq_true rfl, Nat.le_of_ble_eq_true rfl⟩
theorem tx_fi_Mo_look_Mo_owns : tx_fit mi_Mo_owns mi_Mo_look := ⟨rfl, rfl, Nat.le_of_ble_eq_true rfl, Nat.le_of_ble_eq_true rfl⟩
theorem tx_fi_Mo_look_Mo_shown : tx_fit mi_Mo_shown mi_Mo_look := ⟨rfl, rfl, Nat.le_of_ble_eq_true rfl, Nat.le_of_ble_eq_true rfl⟩
theorem tx_fi_Mo_looseField_Mo_immutable : tx_fit mi_Mo_immutable mi_Mo_looseField := ⟨rfl, rfl, Nat.le_of_ble_eq_true rfl, Nat.le_of_ble_eq_true rfl⟩
theorem tx_fi_Mo_looseField_Mo_isFinal : tx_fit mi_Mo_isFinal mi_Mo_looseField := ⟨rfl, rfl, Nat.le_of_ble_eq_true rfl, Nat.le_of_ble_eq_true rfl⟩
theorem tx_fi_Mo_looseField_Mo_owns : tx_fit mi_Mo_owns mi_Mo_looseField := ⟨rfl, rfl, Nat.le_of_ble_eq_true rfl, Nat.le_of_ble_eq_true rfl⟩
theorem tx_fi_Mo_looseField_Mo_powerless : tx_fit mi_Mo_powerless mi_Mo_looseField := ⟨rfl, rfl, Nat.le_of_ble_eq_true rfl, Nat.le_of_ble_eq_true rfl⟩
theorem tx_fi_Mo_looseStatic_Mo_isFinal : tx_fit mi_Mo_isFinal mi_Mo_looseStatic := ⟨rfl, rfl, Nat.le_of_ble_eq_true rfl, Nat.le_of_ble_eq_true rfl⟩
theorem tx_fi_Mo_looseStatic_Mo_isStatic : tx_fit mi_Mo_isStatic mi_Mo_looseStatic := ⟨rfl, rfl, Nat.le_of_ble_eq_true rfl, Nat.le_of_ble_eq_true rfl⟩
theorem tx_fi_Mo_looseStatic_Mo_powerless : tx_fit mi_Mo_powerless mi_Mo_looseStatic := ⟨rfl, rfl, Nat.le_of_ble_eq_true rfl, Nat.le_of_ble_eq_true rfl⟩
theorem tx_fi_Mo_make_Mo_owns : tx_fit mi_Mo_owns mi_Mo_make := ⟨rfl, rfl, Nat.le_of_ble_eq_true rfl, Nat.le_of_ble_eq_true rfl⟩
theorem tx_fi_Mo_make_Mo_pop : tx_fit mi_Mo_pop mi_Mo_make := ⟨rfl, rfl, Nat.le_of_ble_eq_true rfl, Nat.le_of_ble_eq_true rfl⟩
theorem tx_fi_Mo_make_Mo_push : tx_fit mi_Mo_push mi_Mo_make := ⟨rfl, rfl, Nat.le_of_ble_eq_true rfl, Nat.le_of_ble_eq_true rfl⟩
theorem tx_fi_Mo_makes_Mo_give : tx_fit mi_Mo_give mi_Mo_makes := ⟨rfl, rfl, Nat.le_of_ble_eq_true rfl, Nat.le_of_ble_eq_true rfl⟩
theorem tx_fi_Mo_makes_Mo_isClass : tx_fit mi_Mo_isClass mi_Mo_makes := ⟨rfl, rfl, Nat.le_of_ble_eq_true rfl, Nat.le_of_ble_eq_true rfl⟩
theorem tx_fi_Mo_makes_Mo_owns : tx_fit mi_Mo_owns mi_Mo_makes := ⟨rfl, rfl, Nat.le_of_ble_eq_true rfl, Nat.le_of_ble_eq_true rfl⟩
theorem tx_fi_Mo_makes_Mo_take : tx_fit mi_Mo_take mi_Mo_makes := ⟨rfl, rfl, Nat.le_of_ble_eq_true rfl, Nat.le_of_ble_eq_true rfl⟩
theorem tx_fi_Mo_marked_Mo_inLine : tx_fit mi_Mo_inLine mi_Mo_marked := ⟨rfl, rfl, Nat.le_of_ble_eq_true rfl, Nat.le_of_ble_eq_true rfl⟩
theorem tx_fi_Mo_once_Mo_back : tx_fit mi_Mo_back mi_Mo_once := ⟨rfl, rfl, Nat.le_of_ble_eq_true rfl, Nat.le_of_ble_eq_true rfl⟩
theorem tx_fi_Mo_once_Mo_call : tx_fit mi_Mo_call mi_Mo_once := ⟨rfl, rfl, Nat.le_of_ble_eq_true rfl, Nat.le_of_ble_eq_true rfl⟩
theorem tx_fi_Mo_once_Mo_library : tx_fit mi_Mo_library mi_Mo_once := ⟨rfl, rfl, Nat.le_of_ble_eq_true rfl, Nat.le_of_ble_eq_true rfl⟩
theorem tx_fi_Mo_once_Mo_make : tx_fit mi_Mo_make mi_Mo_once := ⟨rfl, rfl, Nat.le_of_ble_eq_true rfl, Nat.le_of_ble_eq_true rfl⟩
theorem tx_fi_Mo_once_Mo_pop : tx_fit mi_Mo_pop mi_Mo_once := ⟨rfl, rfl, Nat.le_of_ble_eq_true rfl, Nat.le_of_ble_eq_true rfl⟩
theorem tx_fi_Mo_once_Mo_push : tx_fit mi_Mo_push mi_Mo_once := ⟨rfl, rfl, Nat.le_of_ble_eq_true rfl, Nat.le_of_ble_eq_true rfl⟩
theorem tx_fi_Mo_once_Mo_slotted : tx_fit mi_Mo_slotted mi_Mo_once := ⟨rfl, rfl, Nat.le_of_ble_eq_true rfl, Nat.le_of_ble_eq_true rfl⟩
theorem tx_fi_Mo_once_Mo_sum : tx_fit mi_Mo_sum mi_Mo_once := ⟨rfl, rfl, Nat.le_of_ble_eq_true rfl, Nat.le_of_ble_eq_true rfl⟩
theorem tx_fi_Mo_onward_Mo_after : tx_fit mi_Mo_after mi_Mo_onward := ⟨rfl, rfl, Nat.le_of_ble_eq_true rfl, Nat.le_of_ble_eq_true rfl⟩
theorem tx_fi_Mo_onward_Mo_led : tx_fit mi_Mo_led mi_Mo_onward := ⟨rfl, rfl, Nat.le_of_ble_eq_true rfl, Nat.le_of_ble_eq_true rfl⟩
theorem tx_fi_Mo_owns_Mo_inLine : tx_fit mi_Mo_inLine mi_Mo_owns := ⟨rfl, rfl, Nat.le_of_ble_eq_true rfl, Nat.le_of_ble_eq_true rfl⟩
theorem tx_fi_Mo_owns_Mo_isStatic : tx_fit mi_Mo_isStatic mi_Mo_owns := ⟨rfl, rfl, Nat.le_of_ble_eq_true rfl, Nat.le_of_ble_eq_true rfl⟩
theorem tx_fi_Mo_powerless_Mo_marked : tx_fit mi_Mo_marked mi_Mo_powerless := ⟨rfl, rfl, Nat.le_of_ble_eq_true rfl, Nat.le_of_ble_eq_true rfl⟩
theorem tx_fi_Mo_refuses_Mo_fits : tx_fit mi_Mo_fits mi_Mo_refuses := ⟨rfl, rfl, Nat.le_of_ble_eq_true rfl, Nat.le_of_ble_eq_true rfl⟩
theorem tx_fi_Mo_refuses_Mo_holds : tx_fit mi_Mo_holds mi_Mo_refuses := ⟨rfl, rfl, Nat.le_of_ble_eq_true rfl, Nat.le_of_ble_eq_true rfl⟩
theorem tx_fi_Mo_refuses_Mo_inLine : tx_fit mi_Mo_inLine mi_Mo_refuses := ⟨rfl, rfl, Nat.le_of_ble_eq_true rfl, Nat.le_of_ble_eq_true rfl⟩
theorem tx_fi_Mo_refuses_Mo_isMethod : tx_fit mi_Mo_isMethod mi_Mo_refuses := ⟨rfl, rfl, Nat.le_of_ble_eq_true rfl, Nat.le_of_ble_eq_true rfl⟩
theorem tx_fi_Mo_run_Mo_chosen : tx_fit mi_Mo_chosen mi_Mo_run := ⟨rfl, rfl, Nat.le_of_ble_eq_true rfl, Nat.le_of_ble_eq_true rfl⟩
theorem tx_fi_Mo_run_Mo_enter : tx_fit mi_Mo_enter mi_Mo_run := ⟨rfl, rfl, Nat.le_of_ble_eq_true rfl, Nat.le_of_ble_eq_true rfl⟩
theorem tx_fi_Mo_run_Mo_once : tx_fit mi_Mo_once mi_Mo_run := ⟨rfl, rfl, Nat.le_of_ble_eq_true rfl, Nat.le_of_ble_eq_true rfl⟩
theorem tx_fi_Mo_run_Mo_refuses : tx_fit mi_Mo_refuses mi_Mo_run := ⟨rfl, rfl, Nat.le_of_ble_eq_true rfl, Nat.le_of_ble_eq_true rfl⟩
theorem tx_fi_Mo_run_Mo_shown : tx_fit mi_Mo_shown mi_Mo_run := ⟨rfl, rfl, Nat.le_of_ble_eq_true rfl, Nat.le_of_ble_eq_true rfl⟩
theorem tx_fi_Mo_slotted_Mo_pop : tx_fit mi_Mo_pop mi_Mo_slotted := ⟨rfl, rfl, Nat.le_of_ble_eq_true rfl, Nat.le_of_ble_eq_true rfl⟩
theorem tx_fi_Mo_slotted_Mo_push : tx_fit mi_Mo_push mi_Mo_slotted := ⟨rfl, rfl, Nat.le_of_ble_eq_true rfl, Nat.le_of_ble_eq_true rfl⟩
theorem tx_fi_Mo_stored_Mo_drop : tx_fit mi_Mo_drop mi_Mo_stored := ⟨rfl, rfl, Nat.le_of_ble_eq_true rfl, Nat.le_of_ble_eq_true rfl⟩
theorem tx_fi_Mo_stored_Mo_typeAt : tx_fit mi_Mo_typeAt mi_Mo_stored := ⟨rfl, rfl, Nat.le_of_ble_eq_true rfl, Nat.le_of_ble_eq_true rfl⟩
theorem tx_fi_Mo_sum_Mo_pop : tx_fit mi_Mo_pop mi_Mo_sum := ⟨rfl, rfl, Nat.le_of_ble_eq_true rfl, Nat.le_of_ble_eq_true rfl⟩
theorem tx_fi_Mo_sum_Mo_push : tx_fit mi_Mo_push mi_Mo_sum := ⟨rfl, rfl, Nat.le_of_ble_eq_true rfl, Nat.le_of_ble_eq_true rfl⟩
theorem tx_fi_Mo_take_Mo_drop : tx_fit mi_Mo_drop mi_Mo_take := ⟨rfl, rfl, Nat.le_of_ble_eq_true rfl, Nat.le_of_ble_eq_true rfl⟩
theorem tx_fi_Mo_take_Mo_fits : tx_fit mi_Mo_fits mi_Mo_take := ⟨rfl, rfl, Nat.le_of_ble_eq_true rfl, Nat.le_of_ble_eq_true rfl⟩
theorem tx_fi_Mo_take_Mo_typeAt : tx_fit mi_Mo_typeAt mi_Mo_take := ⟨rfl, rfl, Nat.le_of_ble_eq_true rfl, Nat.le_of_ble_eq_true rfl⟩
theorem tx_fi_Mo_takeThing_Mo_drop : tx_fit mi_Mo_drop mi_Mo_takeThing := ⟨rfl, rfl, Nat.le_of_ble_eq_true rfl, Nat.le_of_ble_eq_true rfl⟩
theorem tx_fi_Mo_takeThing_Mo_typeAt : tx_fit mi_Mo_typeAt mi_Mo_takeThing := ⟨rfl, rfl, Nat.le_of_ble_eq_true rfl, Nat.le_of_ble_eq_true rfl⟩
theorem tx_fi_Mo_typeAt_Mo_depth : tx_fit mi_Mo_depth mi_Mo_typeAt := ⟨rfl, rfl, Nat.le_of_ble_eq_true rfl, Nat.le_of_ble_eq_true rfl⟩
theorem tx_fi_Mo_typesAt_Mo_isMethod : tx_fit mi_Mo_isMethod mi_Mo_typesAt := ⟨rfl, rfl, Nat.le_of_ble_eq_true rfl, Nat.le_of_ble_eq_true rfl⟩
theorem tx_fi_Mo_unlike_Mo_inLine : tx_fit mi_Mo_inLine mi_Mo_unlike := ⟨rfl, rfl, Nat.le_of_ble_eq_true rfl, Nat.le_of_ble_eq_true rfl⟩
theorem tx_fi_Mo_wild_Mo_immutable : tx_fit mi_Mo_immutable mi_Mo_wild := ⟨rfl, rfl, Nat.le_of_ble_eq_true rfl, Nat.le_of_ble_eq_true rfl⟩
theorem tx_fi_Mo_wild_Mo_isFinal : tx_fit mi_Mo_isFinal mi_Mo_wild := ⟨rfl, rfl, Nat.le_of_ble_eq_true rfl, Nat.le_of_ble_eq_true rfl⟩
theorem tx_fi_Mo_wild_Mo_typeAt : tx_fit mi_Mo_typeAt mi_Mo_wild := ⟨rfl, rfl, Nat.le_of_ble_eq_true rfl, Nat.le_of_ble_eq_true rfl⟩
theorem tx_fi_Plan_chosenMethod_Plan_isUnder : tx_fit mi_Plan_isUnder mi_Plan_chosenMethod := ⟨rfl, rfl, Nat.le_of_ble_eq_true rfl, Nat.le_of_ble_eq_true rfl⟩
theorem tx_fi_Plan_chosenMethod_Plan_methodNamed : tx_fit mi_Plan_methodNamed mi_Plan_chosenMethod := ⟨rfl, rfl, Nat.le_of_ble_eq_true rfl, Nat.le_of_ble_eq_true rfl⟩
theorem tx_fi_Plan_owns_Plan_isStaticField : tx_fit mi_Plan_isStaticField mi_Plan_owns := ⟨rfl, rfl, Nat.le_of_ble_eq_true rfl, Nat.le_of_ble_eq_true rfl⟩
theorem tx_fi_Plan_owns_Plan_isUnder : tx_fit mi_Plan_isUnder mi_Plan_owns := ⟨rfl, rfl, Nat.le_of_ble_eq_true rfl, Nat.le_of_ble_eq_true rfl⟩
theorem tx_fi_Plan_slotOf_Plan_owns : tx_fit mi_Plan_owns mi_Plan_slotOf := ⟨rfl, rfl, Nat.le_of_ble_eq_true rfl, Nat.le_of_ble_eq_true rfl⟩
theorem tx_fi_Rules_agree_Plan_isStaticMethod : tx_fit mi_Plan_isStaticMethod mi_Rules_agree := ⟨rfl, rfl, Nat.le_of_ble_eq_true rfl, Nat.le_of_ble_eq_true rfl⟩
theorem tx_fi_Rules_breaks_Fitting_comparesImmutable : tx_fit mi_Fitting_comparesImmutable mi_Rules_breaks := ⟨rfl, rfl, Nat.le_of_ble_eq_true rfl, Nat.le_of_ble_eq_true rfl⟩
theorem tx_fi_Rules_breaks_Plan_isFinalField : tx_fit mi_Plan_isFinalField mi_Rules_breaks := ⟨rfl, rfl, Nat.le_of_ble_eq_true rfl, Nat.le_of_ble_eq_true rfl⟩
theorem tx_fi_Rules_changesForAll_Plan_isFinalField : tx_fit mi_Plan_isFinalField mi_Rules_changesForAll := ⟨rfl, rfl, Nat.le_of_ble_eq_true rfl, Nat.le_of_ble_eq_true rfl⟩
theorem tx_fi_Rules_changesForAll_Plan_isPowerless : tx_fit mi_Plan_isPowerless mi_Rules_changesForAll := ⟨rfl, rfl, Nat.le_of_ble_eq_true rfl, Nat.le_of_ble_eq_true rfl⟩
theorem tx_fi_Rules_changesForAll_Plan_isStaticField : tx_fit mi_Plan_isStaticField mi_Rules_changesForAll := ⟨rfl, rfl, Nat.le_of_ble_eq_true rfl, Nat.le_of_ble_eq_true rfl⟩
theorem tx_fi_Rules_changesImmutable_Plan_isFinalField : tx_fit mi_Plan_isFinalField mi_Rules_changesImmutable := ⟨rfl, rfl, Nat.le_of_ble_eq_true rfl, Nat.le_of_ble_eq_true rfl⟩
theorem tx_fi_Rules_changesImmutable_Plan_isImmutable : tx_fit mi_Plan_isImmutable mi_Rules_changesImmutable := ⟨rfl, rfl, Nat.le_of_ble_eq_true rfl, Nat.le_of_ble_eq_true rfl⟩
theorem tx_fi_Rules_changesImmutable_Plan_isPowerless : tx_fit mi_Plan_isPowerless mi_Rules_changesImmutable := ⟨rfl, rfl, Nat.le_of_ble_eq_true rfl, Nat.le_of_ble_eq_true rfl⟩
theorem tx_fi_Rules_changesImmutable_Plan_owns : tx_fit mi_Plan_owns mi_Rules_changesImmutable := ⟨rfl, rfl, Nat.le_of_ble_eq_true rfl, Nat.le_of_ble_eq_true rfl⟩
theorem tx_fi_Rules_firstBreach_Fitting_codeFits : tx_fit mi_Fitting_codeFits mi_Rules_firstBreach := ⟨rfl, rfl, Nat.le_of_ble_eq_true rfl, Nat.le_of_ble_eq_true rfl⟩
theorem tx_fi_Rules_firstBreach_Rules_breaks : tx_fit mi_Rules_breaks mi_Rules_firstBreach := ⟨rfl, rfl, Nat.le_of_ble_eq_true rfl, Nat.le_of_ble_eq_true rfl⟩
theorem tx_fi_Rules_firstBreach_Rules_changesForAll : tx_fit mi_Rules_changesForAll mi_Rules_firstBreach := ⟨rfl, rfl, Nat.le_of_ble_eq_true rfl, Nat.le_of_ble_eq_true rfl⟩
theorem tx_fi_Rules_firstBreach_Rules_changesImmutable : tx_fit mi_Rules_changesImmutable mi_Rules_firstBreach := ⟨rfl, rfl, Nat.le_of_ble_eq_true rfl, Nat.le_of_ble_eq_true rfl⟩
theorem tx_fi_Rules_firstBreach_Rules_overridesBadly : tx_fit mi_Rules_overridesBadly mi_Rules_firstBreach := ⟨rfl, rfl, Nat.le_of_ble_eq_true rfl, Nat.le_of_ble_eq_true rfl⟩
theorem tx_fi_Rules_overridesBadly_Plan_isUnder : tx_fit mi_Plan_isUnder mi_Rules_overridesBadly := ⟨rfl, rfl, Nat.le_of_ble_eq_true rfl, Nat.le_of_ble_eq_true rfl⟩
theorem tx_fi_Rules_overridesBadly_Rules_agree : tx_fit mi_Rules_agree mi_Rules_overridesBadly := ⟨rfl, rfl, Nat.le_of_ble_eq_true rfl, Nat.le_of_ble_eq_true rfl⟩
theorem tx_fi_X_addClass_Plan_isClass : tx_fit mi_Plan_isClass mi_X_addClass := ⟨rfl, rfl, Nat.le_of_ble_eq_true rfl, Nat.le_of_ble_eq_true rfl⟩
theorem tx_fi_X_addClass_Plan_newClass : tx_fit mi_Plan_newClass mi_X_addClass := ⟨rfl, rfl, Nat.le_of_ble_eq_true rfl, Nat.le_of_ble_eq_true rfl⟩
theorem tx_fi_X_addField_Plan_isClass : tx_fit mi_Plan_isClass mi_X_addField := ⟨rfl, rfl, Nat.le_of_ble_eq_true rfl, Nat.le_of_ble_eq_true rfl⟩
theorem tx_fi_X_addField_Plan_isType : tx_fit mi_Plan_isType mi_X_addField := ⟨rfl, rfl, Nat.le_of_ble_eq_true rfl, Nat.le_of_ble_eq_true rfl⟩
theorem tx_fi_X_addField_Plan_newField : tx_fit mi_Plan_newField mi_X_addField := ⟨rfl, rfl, Nat.le_of_ble_eq_true rfl, Nat.le_of_ble_eq_true rfl⟩
theorem tx_fi_X_addMethod_Plan_isClass : tx_fit mi_Plan_isClass mi_X_addMethod := ⟨rfl, rfl, Nat.le_of_ble_eq_true rfl, Nat.le_of_ble_eq_true rfl⟩
theorem tx_fi_X_addMethod_Plan_isType : tx_fit mi_Plan_isType mi_X_addMethod := ⟨rfl, rfl, Nat.le_of_ble_eq_true rfl, Nat.le_of_ble_eq_true rfl⟩
theorem tx_fi_X_addMethod_Plan_methodNamed : tx_fit mi_Plan_methodNamed mi_X_addMethod := ⟨rfl, rfl, Nat.le_of_ble_eq_true rfl, Nat.le_of_ble_eq_true rfl⟩
theorem tx_fi_X_addMethod_Plan_newMethod : tx_fit mi_Plan_newMethod mi_X_addMethod := ⟨rfl, rfl, Nat.le_of_ble_eq_true rfl, Nat.le_of_ble_eq_true rfl⟩
theorem tx_fi_X_answerOf_Heap_handleOf : tx_fit mi_Heap_handleOf mi_X_answerOf := ⟨rfl, rfl, Nat.le_of_ble_eq_true rfl, Nat.le_of_ble_eq_true rfl⟩
theorem tx_fi_X_argumentFits_Heap_inHandle : tx_fit mi_Heap_inHandle mi_X_argumentFits := ⟨rfl, rfl, Nat.le_of_ble_eq_true rfl, Nat.le_of_ble_eq_true rfl⟩
theorem tx_fi_X_argumentFits_Plan_fits : tx_fit mi_Plan_fits mi_X_argumentFits := ⟨rfl, rfl, Nat.le_of_ble_eq_true rfl, Nat.le_of_ble_eq_true rfl⟩
theorem tx_fi_X_check_Rules_firstBreach : tx_fit mi_Rules_firstBreach mi_X_check := ⟨rfl, rfl, Nat.le_of_ble_eq_true rfl, Nat.le_of_ble_eq_true rfl⟩
theorem tx_fi_X_clear_Heap_forgetAll : tx_fit mi_Heap_forgetAll mi_X_clear := ⟨rfl, rfl, Nat.le_of_ble_eq_true rfl, Nat.le_of_ble_eq_true rfl⟩
theorem tx_fi_X_clear_Plan_forgetAll : tx_fit mi_Plan_forgetAll mi_X_clear := ⟨rfl, rfl, Nat.le_of_ble_eq_true rfl, Nat.le_of_ble_eq_true rfl⟩
theorem tx_fi_X_emit_Plan_isMethod : tx_fit mi_Plan_isMethod mi_X_emit := ⟨rfl, rfl, Nat.le_of_ble_eq_true rfl, Nat.le_of_ble_eq_true rfl⟩
theorem tx_fi_X_emit_Plan_newInstruction : tx_fit mi_Plan_newInstruction mi_X_emit := ⟨rfl, rfl, Nat.le_of_ble_eq_true rfl, Nat.le_of_ble_eq_true rfl⟩
theorem tx_fi_X_held_Heap_inHandle : tx_fit mi_Heap_inHandle mi_X_held := ⟨rfl, rfl, Nat.le_of_ble_eq_true rfl, Nat.le_of_ble_eq_true rfl⟩
theorem tx_fi_X_look_Heap_inHandle : tx_fit mi_Heap_inHandle mi_X_look := ⟨rfl, rfl, Nat.le_of_ble_eq_true rfl, Nat.le_of_ble_eq_true rfl⟩
theorem tx_fi_X_look_Heap_slotValue : tx_fit mi_Heap_slotValue mi_X_look := ⟨rfl, rfl, Nat.le_of_ble_eq_true rfl, Nat.le_of_ble_eq_true rfl⟩
theorem tx_fi_X_look_Plan_isField : tx_fit mi_Plan_isField mi_X_look := ⟨rfl, rfl, Nat.le_of_ble_eq_true rfl, Nat.le_of_ble_eq_true rfl⟩
theorem tx_fi_X_look_Plan_owns : tx_fit mi_Plan_owns mi_X_look := ⟨rfl, rfl, Nat.le_of_ble_eq_true rfl, Nat.le_of_ble_eq_true rfl⟩
theorem tx_fi_X_look_Plan_slotOf : tx_fit mi_Plan_slotOf mi_X_look := ⟨rfl, rfl, Nat.le_of_ble_eq_true rfl, Nat.le_of_ble_eq_true rfl⟩
theorem tx_fi_X_look_X_answerOf : tx_fit mi_X_answerOf mi_X_look := ⟨rfl, rfl, Nat.le_of_ble_eq_true rfl, Nat.le_of_ble_eq_true rfl⟩
theorem tx_fi_X_receiverFits_Heap_inHandle : tx_fit mi_Heap_inHandle mi_X_receiverFits := ⟨rfl, rfl, Nat.le_of_ble_eq_true rfl, Nat.le_of_ble_eq_true rfl⟩
theorem tx_fi_X_receiverFits_Plan_fits : tx_fit mi_Plan_fits mi_X_receiverFits := ⟨rfl, rfl, Nat.le_of_ble_eq_true rfl, Nat.le_of_ble_eq_true rfl⟩
theorem tx_fi_X_receiverFits_Plan_isStaticMethod : tx_fit mi_Plan_isStaticMethod mi_X_receiverFits := ⟨rfl, rfl, Nat.le_of_ble_eq_true rfl, Nat.le_of_ble_eq_true rfl⟩
theorem tx_fi_X_run_Heap_hold : tx_fit mi_Heap_hold mi_X_run := ⟨rfl, rfl, Nat.le_of_ble_eq_true rfl, Nat.le_of_ble_eq_true rfl⟩
theorem tx_fi_X_run_Heap_inHandle : tx_fit mi_Heap_inHandle mi_X_run := ⟨rfl, rfl, Nat.le_of_ble_eq_true rfl, Nat.le_of_ble_eq_true rfl⟩
theorem tx_fi_X_run_Machine_execute : tx_fit mi_Machine_execute mi_X_run := ⟨rfl, rfl, Nat.le_of_ble_eq_true rfl, Nat.le_of_ble_eq_true rfl⟩
theorem tx_fi_X_run_Plan_isMethod : tx_fit mi_Plan_isMethod mi_X_run := ⟨rfl, rfl, Nat.le_of_ble_eq_true rfl, Nat.le_of_ble_eq_true rfl⟩
theorem tx_fi_X_run_X_answerOf : tx_fit mi_X_answerOf mi_X_run := ⟨rfl, rfl, Nat.le_of_ble_eq_true rfl, Nat.le_of_ble_eq_true rfl⟩
theorem tx_fi_X_run_X_argumentFits : tx_fit mi_X_argumentFits mi_X_run := ⟨rfl, rfl, Nat.le_of_ble_eq_true rfl, Nat.le_of_ble_eq_true rfl⟩
theorem tx_fi_X_run_X_receiverFits : tx_fit mi_X_receiverFits mi_X_run := ⟨rfl, rfl, Nat.le_of_ble_eq_true rfl, Nat.le_of_ble_eq_true rfl⟩
theorem tx_fi_X_typesAt_Plan_isInstruction : tx_fit mi_Plan_isInstruction mi_X_typesAt := ⟨rfl, rfl, Nat.le_of_ble_eq_true rfl, Nat.le_of_ble_eq_true rfl⟩
theorem tx_fi_X_typesAt_Plan_isMethod : tx_fit mi_Plan_isMethod mi_X_typesAt := ⟨rfl, rfl, Nat.le_of_ble_eq_true rfl, Nat.le_of_ble_eq_true rfl⟩
end
