-- ===== PART A: goes FIRST, ahead of the names: the tables' words, and 'selects' of the private methods out of them =====
/-- a private method of a class that the tables say can be made, by its rows of tables_1 -/
def lw_okq (q : MethodName × Nat) : Prop := (q.1.cls ≠ "java/lang/invoke/MethodHandle" ∧ q.1.cls ≠ "java/lang/invoke/VarHandle") ∧ Cond.instantiable q.1.cls q.2 ∈ tables_1 ∧ Cond.privateMethod q.1 ∈ tables_1 ∧ Cond.instanceMethod q.1 ∈ tables_1
theorem lw_p0 : lw_okq (⟨"SolesByWhatIsTold$Reader", "take", "()V"⟩, 9) := ⟨⟨by decide +kernel, by decide +kernel⟩, List.mem_of_getElem? (i := 29) (by decide +kernel), List.mem_of_getElem? (i := 237) (by decide +kernel), List.mem_of_getElem? (i := 238) (by decide +kernel)⟩
theorem lw_p1 : lw_okq (⟨"SolesByWhatIsTold$Reader", "takeWord", "()V"⟩, 9) := ⟨⟨by decide +kernel, by decide +kernel⟩, List.mem_of_getElem? (i := 29) (by decide +kernel), List.mem_of_getElem? (i := 247) (by decide +kernel), List.mem_of_getElem? (i := 248) (by decide +kernel)⟩
theorem lw_p2 : lw_okq (⟨"SolesByWhatIsTold$Reader", "spells", "(Ljava/lang/String;)Z"⟩, 9) := ⟨⟨by decide +kernel, by decide +kernel⟩, List.mem_of_getElem? (i := 29) (by decide +kernel), List.mem_of_getElem? (i := 252) (by decide +kernel), List.mem_of_getElem? (i := 253) (by decide +kernel)⟩
theorem lw_p3 : lw_okq (⟨"SolesByWhatIsTold$Reader", "takeAmount", "()V"⟩, 9) := ⟨⟨by decide +kernel, by decide +kernel⟩, List.mem_of_getElem? (i := 29) (by decide +kernel), List.mem_of_getElem? (i := 272) (by decide +kernel), List.mem_of_getElem? (i := 273) (by decide +kernel)⟩
theorem lw_p4 : lw_okq (⟨"SolesByWhatIsTold$Reader", "expect", "(I)V"⟩, 9) := ⟨⟨by decide +kernel, by decide +kernel⟩, List.mem_of_getElem? (i := 29) (by decide +kernel), List.mem_of_getElem? (i := 279) (by decide +kernel), List.mem_of_getElem? (i := 280) (by decide +kernel)⟩
theorem lw_p5 : lw_okq (⟨"SolesByWhatIsTold$Reader", "fail", "()V"⟩, 9) := ⟨⟨by decide +kernel, by decide +kernel⟩, List.mem_of_getElem? (i := 29) (by decide +kernel), List.mem_of_getElem? (i := 283) (by decide +kernel), List.mem_of_getElem? (i := 284) (by decide +kernel)⟩
theorem lw_p6 : lw_okq (⟨"SolesByWhatIsTold$Reader", "readEither", "()V"⟩, 9) := ⟨⟨by decide +kernel, by decide +kernel⟩, List.mem_of_getElem? (i := 29) (by decide +kernel), List.mem_of_getElem? (i := 287) (by decide +kernel), List.mem_of_getElem? (i := 288) (by decide +kernel)⟩
theorem lw_p7 : lw_okq (⟨"SolesByWhatIsTold$Reader", "readBoth", "()V"⟩, 9) := ⟨⟨by decide +kernel, by decide +kernel⟩, List.mem_of_getElem? (i := 29) (by decide +kernel), List.mem_of_getElem? (i := 291) (by decide +kernel), List.mem_of_getElem? (i := 292) (by decide +kernel)⟩
theorem lw_p8 : lw_okq (⟨"SolesByWhatIsTold$Reader", "readNot", "()V"⟩, 9) := ⟨⟨by decide +kernel, by decide +kernel⟩, List.mem_of_getElem? (i := 29) (by decide +kernel), List.mem_of_getElem? (i := 295) (by decide +kernel), List.mem_of_getElem? (i := 296) (by decide +kernel)⟩
theorem lw_p9 : lw_okq (⟨"SolesByWhatIsTold$Reader", "takeOpening", "()Z"⟩, 9) := ⟨⟨by decide +kernel, by decide +kernel⟩, List.mem_of_getElem? (i := 29) (by decide +kernel), List.mem_of_getElem? (i := 299) (by decide +kernel), List.mem_of_getElem? (i := 300) (by decide +kernel)⟩
theorem lw_p10 : lw_okq (⟨"SolesByWhatIsTold$Reader", "readSum", "()V"⟩, 9) := ⟨⟨by decide +kernel, by decide +kernel⟩, List.mem_of_getElem? (i := 29) (by decide +kernel), List.mem_of_getElem? (i := 307) (by decide +kernel), List.mem_of_getElem? (i := 308) (by decide +kernel)⟩
theorem lw_p11 : lw_okq (⟨"SolesByWhatIsTold$Reader", "readTerm", "()V"⟩, 9) := ⟨⟨by decide +kernel, by decide +kernel⟩, List.mem_of_getElem? (i := 29) (by decide +kernel), List.mem_of_getElem? (i := 311) (by decide +kernel), List.mem_of_getElem? (i := 312) (by decide +kernel)⟩
theorem lw_p12 : lw_okq (⟨"SolesByWhatIsTold$Reader", "readOne", "()V"⟩, 9) := ⟨⟨by decide +kernel, by decide +kernel⟩, List.mem_of_getElem? (i := 29) (by decide +kernel), List.mem_of_getElem? (i := 315) (by decide +kernel), List.mem_of_getElem? (i := 316) (by decide +kernel)⟩
theorem lw_p13 : lw_okq (⟨"SolesByWhatIsTold", "names", "(II)Z"⟩, 13) := ⟨⟨by decide +kernel, by decide +kernel⟩, List.mem_of_getElem? (i := 17) (by decide +kernel), List.mem_of_getElem? (i := 415) (by decide +kernel), List.mem_of_getElem? (i := 416) (by decide +kernel)⟩
theorem lw_p14 : lw_okq (⟨"SolesByWhatIsTold", "walkerAt", "(I)LSolesByWhatIsTold$Walker;"⟩, 13) := ⟨⟨by decide +kernel, by decide +kernel⟩, List.mem_of_getElem? (i := 17) (by decide +kernel), List.mem_of_getElem? (i := 422) (by decide +kernel), List.mem_of_getElem? (i := 423) (by decide +kernel)⟩
theorem lw_p15 : lw_okq (⟨"SolesByWhatIsTold", "valueOf", "(II)I"⟩, 13) := ⟨⟨by decide +kernel, by decide +kernel⟩, List.mem_of_getElem? (i := 17) (by decide +kernel), List.mem_of_getElem? (i := 429) (by decide +kernel), List.mem_of_getElem? (i := 430) (by decide +kernel)⟩
def lw_privs_1 : List (MethodName × Nat) := [(⟨"SolesByWhatIsTold$Reader", "take", "()V"⟩, 9), (⟨"SolesByWhatIsTold$Reader", "takeWord", "()V"⟩, 9), (⟨"SolesByWhatIsTold$Reader", "spells", "(Ljava/lang/String;)Z"⟩, 9), (⟨"SolesByWhatIsTold$Reader", "takeAmount", "()V"⟩, 9), (⟨"SolesByWhatIsTold$Reader", "expect", "(I)V"⟩, 9), (⟨"SolesByWhatIsTold$Reader", "fail", "()V"⟩, 9), (⟨"SolesByWhatIsTold$Reader", "readEither", "()V"⟩, 9), (⟨"SolesByWhatIsTold$Reader", "readBoth", "()V"⟩, 9), (⟨"SolesByWhatIsTold$Reader", "readNot", "()V"⟩, 9), (⟨"SolesByWhatIsTold$Reader", "takeOpening", "()Z"⟩, 9), (⟨"SolesByWhatIsTold$Reader", "readSum", "()V"⟩, 9), (⟨"SolesByWhatIsTold$Reader", "readTerm", "()V"⟩, 9), (⟨"SolesByWhatIsTold$Reader", "readOne", "()V"⟩, 9), (⟨"SolesByWhatIsTold", "names", "(II)Z"⟩, 13), (⟨"SolesByWhatIsTold", "walkerAt", "(I)LSolesByWhatIsTold$Walker;"⟩, 13), (⟨"SolesByWhatIsTold", "valueOf", "(II)I"⟩, 13)]
theorem lw_r1 : ∀ q ∈ lw_privs_1, lw_okq q := List.forall_mem_cons.mpr ⟨lw_p0, List.forall_mem_cons.mpr ⟨lw_p1, List.forall_mem_cons.mpr ⟨lw_p2, List.forall_mem_cons.mpr ⟨lw_p3, List.forall_mem_cons.mpr ⟨lw_p4, List.forall_mem_cons.mpr ⟨lw_p5, List.forall_mem_cons.mpr ⟨lw_p6, List.forall_mem_cons.mpr ⟨lw_p7, List.forall_mem_cons.mpr ⟨lw_p8, List.forall_mem_cons.mpr ⟨lw_p9, List.forall_mem_cons.mpr ⟨lw_p10, List.forall_mem_cons.mpr ⟨lw_p11, List.forall_mem_cons.mpr ⟨lw_p12, List.forall_mem_cons.mpr ⟨lw_p13, List.forall_mem_cons.mpr ⟨lw_p14, List.forall_mem_cons.mpr ⟨lw_p15, fun _ h => absurd h List.not_mem_nil⟩⟩⟩⟩⟩⟩⟩⟩⟩⟩⟩⟩⟩⟩⟩⟩
theorem lw_p16 : lw_okq (⟨"SolesByWhatIsTold", "keep", "(III)V"⟩, 13) := ⟨⟨by decide +kernel, by decide +kernel⟩, List.mem_of_getElem? (i := 17) (by decide +kernel), List.mem_of_getElem? (i := 433) (by decide +kernel), List.mem_of_getElem? (i := 434) (by decide +kernel)⟩
theorem lw_p17 : lw_okq (⟨"SolesByWhatIsTold", "think", "(LSolesByWhatIsTold$Walker;)V"⟩, 13) := ⟨⟨by decide +kernel, by decide +kernel⟩, List.mem_of_getElem? (i := 17) (by decide +kernel), List.mem_of_getElem? (i := 452) (by decide +kernel), List.mem_of_getElem? (i := 453) (by decide +kernel)⟩
theorem lw_p18 : lw_okq (⟨"SolesByWhatIsTold", "thinkTold", "(LSolesByWhatIsTold$Walker;I)V"⟩, 13) := ⟨⟨by decide +kernel, by decide +kernel⟩, List.mem_of_getElem? (i := 17) (by decide +kernel), List.mem_of_getElem? (i := 456) (by decide +kernel), List.mem_of_getElem? (i := 457) (by decide +kernel)⟩
theorem lw_p19 : lw_okq (⟨"SolesByWhatIsTold$Thought", "valueOfPart", "(I)I"⟩, 9) := ⟨⟨by decide +kernel, by decide +kernel⟩, List.mem_of_getElem? (i := 323) (by decide +kernel), List.mem_of_getElem? (i := 475) (by decide +kernel), List.mem_of_getElem? (i := 476) (by decide +kernel)⟩
theorem lw_p20 : lw_okq (⟨"SolesByWhatIsTold$Thought", "ofNone", "(I)I"⟩, 9) := ⟨⟨by decide +kernel, by decide +kernel⟩, List.mem_of_getElem? (i := 323) (by decide +kernel), List.mem_of_getElem? (i := 496) (by decide +kernel), List.mem_of_getElem? (i := 497) (by decide +kernel)⟩
theorem lw_p21 : lw_okq (⟨"SolesByWhatIsTold$Thought", "lastsByKind", "(I)I"⟩, 9) := ⟨⟨by decide +kernel, by decide +kernel⟩, List.mem_of_getElem? (i := 323) (by decide +kernel), List.mem_of_getElem? (i := 507) (by decide +kernel), List.mem_of_getElem? (i := 508) (by decide +kernel)⟩
theorem lw_p22 : lw_okq (⟨"SolesByWhatIsTold$Thought", "paceByKind", "(I)I"⟩, 9) := ⟨⟨by decide +kernel, by decide +kernel⟩, List.mem_of_getElem? (i := 323) (by decide +kernel), List.mem_of_getElem? (i := 515) (by decide +kernel), List.mem_of_getElem? (i := 516) (by decide +kernel)⟩
theorem lw_p23 : lw_okq (⟨"SolesByWhatIsTold", "forgetSteps", "()V"⟩, 13) := ⟨⟨by decide +kernel, by decide +kernel⟩, List.mem_of_getElem? (i := 17) (by decide +kernel), List.mem_of_getElem? (i := 584) (by decide +kernel), List.mem_of_getElem? (i := 585) (by decide +kernel)⟩
theorem lw_p24 : lw_okq (⟨"SolesByWhatIsTold", "stepIfTold", "(LSolesByWhatIsTold$Walker;II)I"⟩, 13) := ⟨⟨by decide +kernel, by decide +kernel⟩, List.mem_of_getElem? (i := 17) (by decide +kernel), List.mem_of_getElem? (i := 591) (by decide +kernel), List.mem_of_getElem? (i := 592) (by decide +kernel)⟩
theorem lw_p25 : lw_okq (⟨"SolesByWhatIsTold", "weighAsNow", "()V"⟩, 13) := ⟨⟨by decide +kernel, by decide +kernel⟩, List.mem_of_getElem? (i := 17) (by decide +kernel), List.mem_of_getElem? (i := 603) (by decide +kernel), List.mem_of_getElem? (i := 604) (by decide +kernel)⟩
theorem lw_p26 : lw_okq (⟨"SolesByWhatIsTold", "thinkOtherwise", "(LSolesByWhatIsTold$Walker;)V"⟩, 13) := ⟨⟨by decide +kernel, by decide +kernel⟩, List.mem_of_getElem? (i := 17) (by decide +kernel), List.mem_of_getElem? (i := 610) (by decide +kernel), List.mem_of_getElem? (i := 611) (by decide +kernel)⟩
theorem lw_p27 : lw_okq (⟨"SolesByWhatIsTold", "stepsOfAll", "(I)I"⟩, 13) := ⟨⟨by decide +kernel, by decide +kernel⟩, List.mem_of_getElem? (i := 17) (by decide +kernel), List.mem_of_getElem? (i := 626) (by decide +kernel), List.mem_of_getElem? (i := 627) (by decide +kernel)⟩
theorem lw_p28 : lw_okq (⟨"SolesByWhatIsTold", "sheetAt", "(I)LSolesByWhatIsTold$Sheet;"⟩, 13) := ⟨⟨by decide +kernel, by decide +kernel⟩, List.mem_of_getElem? (i := 17) (by decide +kernel), List.mem_of_getElem? (i := 639) (by decide +kernel), List.mem_of_getElem? (i := 640) (by decide +kernel)⟩
theorem lw_p29 : lw_okq (⟨"SolesByWhatIsTold", "kindsBy", "(LSolesByWhatIsTold$Sheet;LSolesByWhatIsTold$Walker;)I"⟩, 13) := ⟨⟨by decide +kernel, by decide +kernel⟩, List.mem_of_getElem? (i := 17) (by decide +kernel), List.mem_of_getElem? (i := 651) (by decide +kernel), List.mem_of_getElem? (i := 652) (by decide +kernel)⟩
theorem lw_p30 : lw_okq (⟨"SolesByWhatIsTold", "numbersBy", "(LSolesByWhatIsTold$Sheet;LSolesByWhatIsTold$Walker;)I"⟩, 13) := ⟨⟨by decide +kernel, by decide +kernel⟩, List.mem_of_getElem? (i := 17) (by decide +kernel), List.mem_of_getElem? (i := 655) (by decide +kernel), List.mem_of_getElem? (i := 656) (by decide +kernel)⟩
theorem lw_p31 : lw_okq (⟨"SolesByWhatIsTold", "setsBy", "(LSolesByWhatIsTold$Sheet;LSolesByWhatIsTold$Walker;Z)I"⟩, 13) := ⟨⟨by decide +kernel, by decide +kernel⟩, List.mem_of_getElem? (i := 17) (by decide +kernel), List.mem_of_getElem? (i := 659) (by decide +kernel), List.mem_of_getElem? (i := 660) (by decide +kernel)⟩
def lw_privs_2 : List (MethodName × Nat) := [(⟨"SolesByWhatIsTold", "keep", "(III)V"⟩, 13), (⟨"SolesByWhatIsTold", "think", "(LSolesByWhatIsTold$Walker;)V"⟩, 13), (⟨"SolesByWhatIsTold", "thinkTold", "(LSolesByWhatIsTold$Walker;I)V"⟩, 13), (⟨"SolesByWhatIsTold$Thought", "valueOfPart", "(I)I"⟩, 9), (⟨"SolesByWhatIsTold$Thought", "ofNone", "(I)I"⟩, 9), (⟨"SolesByWhatIsTold$Thought", "lastsByKind", "(I)I"⟩, 9), (⟨"SolesByWhatIsTold$Thought", "paceByKind", "(I)I"⟩, 9), (⟨"SolesByWhatIsTold", "forgetSteps", "()V"⟩, 13), (⟨"SolesByWhatIsTold", "stepIfTold", "(LSolesByWhatIsTold$Walker;II)I"⟩, 13), (⟨"SolesByWhatIsTold", "weighAsNow", "()V"⟩, 13), (⟨"SolesByWhatIsTold", "thinkOtherwise", "(LSolesByWhatIsTold$Walker;)V"⟩, 13), (⟨"SolesByWhatIsTold", "stepsOfAll", "(I)I"⟩, 13), (⟨"SolesByWhatIsTold", "sheetAt", "(I)LSolesByWhatIsTold$Sheet;"⟩, 13), (⟨"SolesByWhatIsTold", "kindsBy", "(LSolesByWhatIsTold$Sheet;LSolesByWhatIsTold$Walker;)I"⟩, 13), (⟨"SolesByWhatIsTold", "numbersBy", "(LSolesByWhatIsTold$Sheet;LSolesByWhatIsTold$Walker;)I"⟩, 13), (⟨"SolesByWhatIsTold", "setsBy", "(LSolesByWhatIsTold$Sheet;LSolesByWhatIsTold$Walker;Z)I"⟩, 13)]
theorem lw_r2 : ∀ q ∈ lw_privs_2, lw_okq q := List.forall_mem_cons.mpr ⟨lw_p16, List.forall_mem_cons.mpr ⟨lw_p17, List.forall_mem_cons.mpr ⟨lw_p18, List.forall_mem_cons.mpr ⟨lw_p19, List.forall_mem_cons.mpr ⟨lw_p20, List.forall_mem_cons.mpr ⟨lw_p21, List.forall_mem_cons.mpr ⟨lw_p22, List.forall_mem_cons.mpr ⟨lw_p23, List.forall_mem_cons.mpr ⟨lw_p24, List.forall_mem_cons.mpr ⟨lw_p25, List.forall_mem_cons.mpr ⟨lw_p26, List.forall_mem_cons.mpr ⟨lw_p27, List.forall_mem_cons.mpr ⟨lw_p28, List.forall_mem_cons.mpr ⟨lw_p29, List.forall_mem_cons.mpr ⟨lw_p30, List.forall_mem_cons.mpr ⟨lw_p31, fun _ h => absurd h List.not_mem_nil⟩⟩⟩⟩⟩⟩⟩⟩⟩⟩⟩⟩⟩⟩⟩⟩
theorem lw_p32 : lw_okq (⟨"SolesByWhatIsTold", "textsBy", "(LSolesByWhatIsTold$Sheet;LSolesByWhatIsTold$Walker;)I"⟩, 13) := ⟨⟨by decide +kernel, by decide +kernel⟩, List.mem_of_getElem? (i := 17) (by decide +kernel), List.mem_of_getElem? (i := 663) (by decide +kernel), List.mem_of_getElem? (i := 664) (by decide +kernel)⟩
theorem lw_p33 : lw_okq (⟨"SolesByWhatIsTold", "stepsBy", "(LSolesByWhatIsTold$Sheet;LSolesByWhatIsTold$Walker;Z)I"⟩, 13) := ⟨⟨by decide +kernel, by decide +kernel⟩, List.mem_of_getElem? (i := 17) (by decide +kernel), List.mem_of_getElem? (i := 667) (by decide +kernel), List.mem_of_getElem? (i := 668) (by decide +kernel)⟩
theorem lw_p34 : lw_okq (⟨"SolesByWhatIsTold", "draw", "(I)V"⟩, 13) := ⟨⟨by decide +kernel, by decide +kernel⟩, List.mem_of_getElem? (i := 17) (by decide +kernel), List.mem_of_getElem? (i := 689) (by decide +kernel), List.mem_of_getElem? (i := 690) (by decide +kernel)⟩
theorem lw_p35 : lw_okq (⟨"SolesByWhatIsTold", "eachIsHeldUp", "()Z"⟩, 13) := ⟨⟨by decide +kernel, by decide +kernel⟩, List.mem_of_getElem? (i := 17) (by decide +kernel), List.mem_of_getElem? (i := 699) (by decide +kernel), List.mem_of_getElem? (i := 700) (by decide +kernel)⟩
theorem lw_p36 : lw_okq (⟨"SolesByWhatIsTold", "countInSocks", "()I"⟩, 13) := ⟨⟨by decide +kernel, by decide +kernel⟩, List.mem_of_getElem? (i := 17) (by decide +kernel), List.mem_of_getElem? (i := 726) (by decide +kernel), List.mem_of_getElem? (i := 727) (by decide +kernel)⟩
theorem lw_p37 : lw_okq (⟨"SolesByWhatIsTold", "countStopped", "()I"⟩, 13) := ⟨⟨by decide +kernel, by decide +kernel⟩, List.mem_of_getElem? (i := 17) (by decide +kernel), List.mem_of_getElem? (i := 730) (by decide +kernel), List.mem_of_getElem? (i := 731) (by decide +kernel)⟩
theorem lw_p38 : lw_okq (⟨"SolesByWhatIsToldModel", "spell", "(IIIIIIIII)V"⟩, 46) := ⟨⟨by decide +kernel, by decide +kernel⟩, List.mem_of_getElem? (i := 764) (by decide +kernel), List.mem_of_getElem? (i := 770) (by decide +kernel), List.mem_of_getElem? (i := 771) (by decide +kernel)⟩
theorem lw_p39 : lw_okq (⟨"SolesByWhatIsToldModel", "isOf", "(II)Z"⟩, 46) := ⟨⟨by decide +kernel, by decide +kernel⟩, List.mem_of_getElem? (i := 764) (by decide +kernel), List.mem_of_getElem? (i := 921) (by decide +kernel), List.mem_of_getElem? (i := 922) (by decide +kernel)⟩
theorem lw_p40 : lw_okq (⟨"SolesByWhatIsToldModel", "isOne", "(I)Z"⟩, 46) := ⟨⟨by decide +kernel, by decide +kernel⟩, List.mem_of_getElem? (i := 764) (by decide +kernel), List.mem_of_getElem? (i := 926) (by decide +kernel), List.mem_of_getElem? (i := 927) (by decide +kernel)⟩
theorem lw_p41 : lw_okq (⟨"SolesByWhatIsToldModel", "begins", "(I)V"⟩, 46) := ⟨⟨by decide +kernel, by decide +kernel⟩, List.mem_of_getElem? (i := 764) (by decide +kernel), List.mem_of_getElem? (i := 938) (by decide +kernel), List.mem_of_getElem? (i := 939) (by decide +kernel)⟩
theorem lw_p42 : lw_okq (⟨"SolesByWhatIsToldModel", "weightOf", "(I)I"⟩, 46) := ⟨⟨by decide +kernel, by decide +kernel⟩, List.mem_of_getElem? (i := 764) (by decide +kernel), List.mem_of_getElem? (i := 942) (by decide +kernel), List.mem_of_getElem? (i := 943) (by decide +kernel)⟩
theorem lw_p43 : lw_okq (⟨"SolesByWhatIsToldModel", "lastsOf", "(I)I"⟩, 46) := ⟨⟨by decide +kernel, by decide +kernel⟩, List.mem_of_getElem? (i := 764) (by decide +kernel), List.mem_of_getElem? (i := 946) (by decide +kernel), List.mem_of_getElem? (i := 947) (by decide +kernel)⟩
theorem lw_p44 : lw_okq (⟨"SolesByWhatIsToldModel", "asks", "(II)I"⟩, 46) := ⟨⟨by decide +kernel, by decide +kernel⟩, List.mem_of_getElem? (i := 764) (by decide +kernel), List.mem_of_getElem? (i := 950) (by decide +kernel), List.mem_of_getElem? (i := 951) (by decide +kernel)⟩
theorem lw_p45 : lw_okq (⟨"SolesByWhatIsToldModel", "read", "(II)I"⟩, 46) := ⟨⟨by decide +kernel, by decide +kernel⟩, List.mem_of_getElem? (i := 764) (by decide +kernel), List.mem_of_getElem? (i := 954) (by decide +kernel), List.mem_of_getElem? (i := 955) (by decide +kernel)⟩
theorem lw_p46 : lw_okq (⟨"SolesByWhatIsToldModel", "next", "()V"⟩, 46) := ⟨⟨by decide +kernel, by decide +kernel⟩, List.mem_of_getElem? (i := 764) (by decide +kernel), List.mem_of_getElem? (i := 958) (by decide +kernel), List.mem_of_getElem? (i := 959) (by decide +kernel)⟩
theorem lw_p47 : lw_okq (⟨"SolesByWhatIsToldModel", "byteAt", "(I)I"⟩, 46) := ⟨⟨by decide +kernel, by decide +kernel⟩, List.mem_of_getElem? (i := 764) (by decide +kernel), List.mem_of_getElem? (i := 962) (by decide +kernel), List.mem_of_getElem? (i := 963) (by decide +kernel)⟩
def lw_privs_3 : List (MethodName × Nat) := [(⟨"SolesByWhatIsTold", "textsBy", "(LSolesByWhatIsTold$Sheet;LSolesByWhatIsTold$Walker;)I"⟩, 13), (⟨"SolesByWhatIsTold", "stepsBy", "(LSolesByWhatIsTold$Sheet;LSolesByWhatIsTold$Walker;Z)I"⟩, 13), (⟨"SolesByWhatIsTold", "draw", "(I)V"⟩, 13), (⟨"SolesByWhatIsTold", "eachIsHeldUp", "()Z"⟩, 13), (⟨"SolesByWhatIsTold", "countInSocks", "()I"⟩, 13), (⟨"SolesByWhatIsTold", "countStopped", "()I"⟩, 13), (⟨"SolesByWhatIsToldModel", "spell", "(IIIIIIIII)V"⟩, 46), (⟨"SolesByWhatIsToldModel", "isOf", "(II)Z"⟩, 46), (⟨"SolesByWhatIsToldModel", "isOne", "(I)Z"⟩, 46), (⟨"SolesByWhatIsToldModel", "begins", "(I)V"⟩, 46), (⟨"SolesByWhatIsToldModel", "weightOf", "(I)I"⟩, 46), (⟨"SolesByWhatIsToldModel", "lastsOf", "(I)I"⟩, 46), (⟨"SolesByWhatIsToldModel", "asks", "(II)I"⟩, 46), (⟨"SolesByWhatIsToldModel", "read", "(II)I"⟩, 46), (⟨"SolesByWhatIsToldModel", "next", "()V"⟩, 46), (⟨"SolesByWhatIsToldModel", "byteAt", "(I)I"⟩, 46)]
theorem lw_r3 : ∀ q ∈ lw_privs_3, lw_okq q := List.forall_mem_cons.mpr ⟨lw_p32, List.forall_mem_cons.mpr ⟨lw_p33, List.forall_mem_cons.mpr ⟨lw_p34, List.forall_mem_cons.mpr ⟨lw_p35, List.forall_mem_cons.mpr ⟨lw_p36, List.forall_mem_cons.mpr ⟨lw_p37, List.forall_mem_cons.mpr ⟨lw_p38, List.forall_mem_cons.mpr ⟨lw_p39, List.forall_mem_cons.mpr ⟨lw_p40, List.forall_mem_cons.mpr ⟨lw_p41, List.forall_mem_cons.mpr ⟨lw_p42, List.forall_mem_cons.mpr ⟨lw_p43, List.forall_mem_cons.mpr ⟨lw_p44, List.forall_mem_cons.mpr ⟨lw_p45, List.forall_mem_cons.mpr ⟨lw_p46, List.forall_mem_cons.mpr ⟨lw_p47, fun _ h => absurd h List.not_mem_nil⟩⟩⟩⟩⟩⟩⟩⟩⟩⟩⟩⟩⟩⟩⟩⟩
theorem lw_p48 : lw_okq (⟨"SolesByWhatIsToldModel", "isWord", "(IIIIIIII)Z"⟩, 46) := ⟨⟨by decide +kernel, by decide +kernel⟩, List.mem_of_getElem? (i := 764) (by decide +kernel), List.mem_of_getElem? (i := 971) (by decide +kernel), List.mem_of_getElem? (i := 972) (by decide +kernel)⟩
theorem lw_p49 : lw_okq (⟨"SolesByWhatIsToldModel", "isLetter", "(II)Z"⟩, 46) := ⟨⟨by decide +kernel, by decide +kernel⟩, List.mem_of_getElem? (i := 764) (by decide +kernel), List.mem_of_getElem? (i := 975) (by decide +kernel), List.mem_of_getElem? (i := 976) (by decide +kernel)⟩
theorem lw_p50 : lw_okq (⟨"SolesByWhatIsToldModel", "part", "(Z)I"⟩, 46) := ⟨⟨by decide +kernel, by decide +kernel⟩, List.mem_of_getElem? (i := 764) (by decide +kernel), List.mem_of_getElem? (i := 979) (by decide +kernel), List.mem_of_getElem? (i := 980) (by decide +kernel)⟩
theorem lw_p51 : lw_okq (⟨"SolesByWhatIsToldModel", "fail", "()V"⟩, 46) := ⟨⟨by decide +kernel, by decide +kernel⟩, List.mem_of_getElem? (i := 764) (by decide +kernel), List.mem_of_getElem? (i := 983) (by decide +kernel), List.mem_of_getElem? (i := 984) (by decide +kernel)⟩
theorem lw_p52 : lw_okq (⟨"SolesByWhatIsToldModel", "either0", "()I"⟩, 46) := ⟨⟨by decide +kernel, by decide +kernel⟩, List.mem_of_getElem? (i := 764) (by decide +kernel), List.mem_of_getElem? (i := 987) (by decide +kernel), List.mem_of_getElem? (i := 988) (by decide +kernel)⟩
theorem lw_p53 : lw_okq (⟨"SolesByWhatIsToldModel", "both0", "()I"⟩, 46) := ⟨⟨by decide +kernel, by decide +kernel⟩, List.mem_of_getElem? (i := 764) (by decide +kernel), List.mem_of_getElem? (i := 991) (by decide +kernel), List.mem_of_getElem? (i := 992) (by decide +kernel)⟩
theorem lw_p54 : lw_okq (⟨"SolesByWhatIsToldModel", "not0", "()I"⟩, 46) := ⟨⟨by decide +kernel, by decide +kernel⟩, List.mem_of_getElem? (i := 764) (by decide +kernel), List.mem_of_getElem? (i := 995) (by decide +kernel), List.mem_of_getElem? (i := 996) (by decide +kernel)⟩
theorem lw_p55 : lw_okq (⟨"SolesByWhatIsToldModel", "opens", "()Z"⟩, 46) := ⟨⟨by decide +kernel, by decide +kernel⟩, List.mem_of_getElem? (i := 764) (by decide +kernel), List.mem_of_getElem? (i := 999) (by decide +kernel), List.mem_of_getElem? (i := 1000) (by decide +kernel)⟩
theorem lw_p56 : lw_okq (⟨"SolesByWhatIsToldModel", "not1", "()I"⟩, 46) := ⟨⟨by decide +kernel, by decide +kernel⟩, List.mem_of_getElem? (i := 764) (by decide +kernel), List.mem_of_getElem? (i := 1003) (by decide +kernel), List.mem_of_getElem? (i := 1004) (by decide +kernel)⟩
theorem lw_p57 : lw_okq (⟨"SolesByWhatIsToldModel", "not2", "()I"⟩, 46) := ⟨⟨by decide +kernel, by decide +kernel⟩, List.mem_of_getElem? (i := 764) (by decide +kernel), List.mem_of_getElem? (i := 1007) (by decide +kernel), List.mem_of_getElem? (i := 1008) (by decide +kernel)⟩
theorem lw_p58 : lw_okq (⟨"SolesByWhatIsToldModel", "not3", "()I"⟩, 46) := ⟨⟨by decide +kernel, by decide +kernel⟩, List.mem_of_getElem? (i := 764) (by decide +kernel), List.mem_of_getElem? (i := 1011) (by decide +kernel), List.mem_of_getElem? (i := 1012) (by decide +kernel)⟩
theorem lw_p59 : lw_okq (⟨"SolesByWhatIsToldModel", "not4", "()I"⟩, 46) := ⟨⟨by decide +kernel, by decide +kernel⟩, List.mem_of_getElem? (i := 764) (by decide +kernel), List.mem_of_getElem? (i := 1015) (by decide +kernel), List.mem_of_getElem? (i := 1016) (by decide +kernel)⟩
theorem lw_p60 : lw_okq (⟨"SolesByWhatIsToldModel", "not5", "()I"⟩, 46) := ⟨⟨by decide +kernel, by decide +kernel⟩, List.mem_of_getElem? (i := 764) (by decide +kernel), List.mem_of_getElem? (i := 1019) (by decide +kernel), List.mem_of_getElem? (i := 1020) (by decide +kernel)⟩
theorem lw_p61 : lw_okq (⟨"SolesByWhatIsToldModel", "added5", "()I"⟩, 46) := ⟨⟨by decide +kernel, by decide +kernel⟩, List.mem_of_getElem? (i := 764) (by decide +kernel), List.mem_of_getElem? (i := 1023) (by decide +kernel), List.mem_of_getElem? (i := 1024) (by decide +kernel)⟩
theorem lw_p62 : lw_okq (⟨"SolesByWhatIsToldModel", "term5", "()I"⟩, 46) := ⟨⟨by decide +kernel, by decide +kernel⟩, List.mem_of_getElem? (i := 764) (by decide +kernel), List.mem_of_getElem? (i := 1027) (by decide +kernel), List.mem_of_getElem? (i := 1028) (by decide +kernel)⟩
theorem lw_p63 : lw_okq (⟨"SolesByWhatIsToldModel", "atom5", "()I"⟩, 46) := ⟨⟨by decide +kernel, by decide +kernel⟩, List.mem_of_getElem? (i := 764) (by decide +kernel), List.mem_of_getElem? (i := 1031) (by decide +kernel), List.mem_of_getElem? (i := 1032) (by decide +kernel)⟩
def lw_privs_4 : List (MethodName × Nat) := [(⟨"SolesByWhatIsToldModel", "isWord", "(IIIIIIII)Z"⟩, 46), (⟨"SolesByWhatIsToldModel", "isLetter", "(II)Z"⟩, 46), (⟨"SolesByWhatIsToldModel", "part", "(Z)I"⟩, 46), (⟨"SolesByWhatIsToldModel", "fail", "()V"⟩, 46), (⟨"SolesByWhatIsToldModel", "either0", "()I"⟩, 46), (⟨"SolesByWhatIsToldModel", "both0", "()I"⟩, 46), (⟨"SolesByWhatIsToldModel", "not0", "()I"⟩, 46), (⟨"SolesByWhatIsToldModel", "opens", "()Z"⟩, 46), (⟨"SolesByWhatIsToldModel", "not1", "()I"⟩, 46), (⟨"SolesByWhatIsToldModel", "not2", "()I"⟩, 46), (⟨"SolesByWhatIsToldModel", "not3", "()I"⟩, 46), (⟨"SolesByWhatIsToldModel", "not4", "()I"⟩, 46), (⟨"SolesByWhatIsToldModel", "not5", "()I"⟩, 46), (⟨"SolesByWhatIsToldModel", "added5", "()I"⟩, 46), (⟨"SolesByWhatIsToldModel", "term5", "()I"⟩, 46), (⟨"SolesByWhatIsToldModel", "atom5", "()I"⟩, 46)]
theorem lw_r4 : ∀ q ∈ lw_privs_4, lw_okq q := List.forall_mem_cons.mpr ⟨lw_p48, List.forall_mem_cons.mpr ⟨lw_p49, List.forall_mem_cons.mpr ⟨lw_p50, List.forall_mem_cons.mpr ⟨lw_p51, List.forall_mem_cons.mpr ⟨lw_p52, List.forall_mem_cons.mpr ⟨lw_p53, List.forall_mem_cons.mpr ⟨lw_p54, List.forall_mem_cons.mpr ⟨lw_p55, List.forall_mem_cons.mpr ⟨lw_p56, List.forall_mem_cons.mpr ⟨lw_p57, List.forall_mem_cons.mpr ⟨lw_p58, List.forall_mem_cons.mpr ⟨lw_p59, List.forall_mem_cons.mpr ⟨lw_p60, List.forall_mem_cons.mpr ⟨lw_p61, List.forall_mem_cons.mpr ⟨lw_p62, List.forall_mem_cons.mpr ⟨lw_p63, fun _ h => absurd h List.not_mem_nil⟩⟩⟩⟩⟩⟩⟩⟩⟩⟩⟩⟩⟩⟩⟩⟩
theorem lw_p64 : lw_okq (⟨"SolesByWhatIsToldModel", "isSign", "(I)Z"⟩, 46) := ⟨⟨by decide +kernel, by decide +kernel⟩, List.mem_of_getElem? (i := 764) (by decide +kernel), List.mem_of_getElem? (i := 1035) (by decide +kernel), List.mem_of_getElem? (i := 1036) (by decide +kernel)⟩
theorem lw_p65 : lw_okq (⟨"SolesByWhatIsToldModel", "name", "()I"⟩, 46) := ⟨⟨by decide +kernel, by decide +kernel⟩, List.mem_of_getElem? (i := 764) (by decide +kernel), List.mem_of_getElem? (i := 1039) (by decide +kernel), List.mem_of_getElem? (i := 1040) (by decide +kernel)⟩
theorem lw_p66 : lw_okq (⟨"SolesByWhatIsToldModel", "added4", "()I"⟩, 46) := ⟨⟨by decide +kernel, by decide +kernel⟩, List.mem_of_getElem? (i := 764) (by decide +kernel), List.mem_of_getElem? (i := 1045) (by decide +kernel), List.mem_of_getElem? (i := 1046) (by decide +kernel)⟩
theorem lw_p67 : lw_okq (⟨"SolesByWhatIsToldModel", "term4", "()I"⟩, 46) := ⟨⟨by decide +kernel, by decide +kernel⟩, List.mem_of_getElem? (i := 764) (by decide +kernel), List.mem_of_getElem? (i := 1049) (by decide +kernel), List.mem_of_getElem? (i := 1050) (by decide +kernel)⟩
theorem lw_p68 : lw_okq (⟨"SolesByWhatIsToldModel", "atom4", "()I"⟩, 46) := ⟨⟨by decide +kernel, by decide +kernel⟩, List.mem_of_getElem? (i := 764) (by decide +kernel), List.mem_of_getElem? (i := 1053) (by decide +kernel), List.mem_of_getElem? (i := 1054) (by decide +kernel)⟩
theorem lw_p69 : lw_okq (⟨"SolesByWhatIsToldModel", "either5", "()I"⟩, 46) := ⟨⟨by decide +kernel, by decide +kernel⟩, List.mem_of_getElem? (i := 764) (by decide +kernel), List.mem_of_getElem? (i := 1057) (by decide +kernel), List.mem_of_getElem? (i := 1058) (by decide +kernel)⟩
theorem lw_p70 : lw_okq (⟨"SolesByWhatIsToldModel", "both5", "()I"⟩, 46) := ⟨⟨by decide +kernel, by decide +kernel⟩, List.mem_of_getElem? (i := 764) (by decide +kernel), List.mem_of_getElem? (i := 1061) (by decide +kernel), List.mem_of_getElem? (i := 1062) (by decide +kernel)⟩
theorem lw_p71 : lw_okq (⟨"SolesByWhatIsToldModel", "added3", "()I"⟩, 46) := ⟨⟨by decide +kernel, by decide +kernel⟩, List.mem_of_getElem? (i := 764) (by decide +kernel), List.mem_of_getElem? (i := 1065) (by decide +kernel), List.mem_of_getElem? (i := 1066) (by decide +kernel)⟩
theorem lw_p72 : lw_okq (⟨"SolesByWhatIsToldModel", "term3", "()I"⟩, 46) := ⟨⟨by decide +kernel, by decide +kernel⟩, List.mem_of_getElem? (i := 764) (by decide +kernel), List.mem_of_getElem? (i := 1069) (by decide +kernel), List.mem_of_getElem? (i := 1070) (by decide +kernel)⟩
theorem lw_p73 : lw_okq (⟨"SolesByWhatIsToldModel", "atom3", "()I"⟩, 46) := ⟨⟨by decide +kernel, by decide +kernel⟩, List.mem_of_getElem? (i := 764) (by decide +kernel), List.mem_of_getElem? (i := 1073) (by decide +kernel), List.mem_of_getElem? (i := 1074) (by decide +kernel)⟩
theorem lw_p74 : lw_okq (⟨"SolesByWhatIsToldModel", "either4", "()I"⟩, 46) := ⟨⟨by decide +kernel, by decide +kernel⟩, List.mem_of_getElem? (i := 764) (by decide +kernel), List.mem_of_getElem? (i := 1077) (by decide +kernel), List.mem_of_getElem? (i := 1078) (by decide +kernel)⟩
theorem lw_p75 : lw_okq (⟨"SolesByWhatIsToldModel", "both4", "()I"⟩, 46) := ⟨⟨by decide +kernel, by decide +kernel⟩, List.mem_of_getElem? (i := 764) (by decide +kernel), List.mem_of_getElem? (i := 1081) (by decide +kernel), List.mem_of_getElem? (i := 1082) (by decide +kernel)⟩
theorem lw_p76 : lw_okq (⟨"SolesByWhatIsToldModel", "added2", "()I"⟩, 46) := ⟨⟨by decide +kernel, by decide +kernel⟩, List.mem_of_getElem? (i := 764) (by decide +kernel), List.mem_of_getElem? (i := 1085) (by decide +kernel), List.mem_of_getElem? (i := 1086) (by decide +kernel)⟩
theorem lw_p77 : lw_okq (⟨"SolesByWhatIsToldModel", "term2", "()I"⟩, 46) := ⟨⟨by decide +kernel, by decide +kernel⟩, List.mem_of_getElem? (i := 764) (by decide +kernel), List.mem_of_getElem? (i := 1089) (by decide +kernel), List.mem_of_getElem? (i := 1090) (by decide +kernel)⟩
theorem lw_p78 : lw_okq (⟨"SolesByWhatIsToldModel", "atom2", "()I"⟩, 46) := ⟨⟨by decide +kernel, by decide +kernel⟩, List.mem_of_getElem? (i := 764) (by decide +kernel), List.mem_of_getElem? (i := 1093) (by decide +kernel), List.mem_of_getElem? (i := 1094) (by decide +kernel)⟩
theorem lw_p79 : lw_okq (⟨"SolesByWhatIsToldModel", "either3", "()I"⟩, 46) := ⟨⟨by decide +kernel, by decide +kernel⟩, List.mem_of_getElem? (i := 764) (by decide +kernel), List.mem_of_getElem? (i := 1097) (by decide +kernel), List.mem_of_getElem? (i := 1098) (by decide +kernel)⟩
def lw_privs_5 : List (MethodName × Nat) := [(⟨"SolesByWhatIsToldModel", "isSign", "(I)Z"⟩, 46), (⟨"SolesByWhatIsToldModel", "name", "()I"⟩, 46), (⟨"SolesByWhatIsToldModel", "added4", "()I"⟩, 46), (⟨"SolesByWhatIsToldModel", "term4", "()I"⟩, 46), (⟨"SolesByWhatIsToldModel", "atom4", "()I"⟩, 46), (⟨"SolesByWhatIsToldModel", "either5", "()I"⟩, 46), (⟨"SolesByWhatIsToldModel", "both5", "()I"⟩, 46), (⟨"SolesByWhatIsToldModel", "added3", "()I"⟩, 46), (⟨"SolesByWhatIsToldModel", "term3", "()I"⟩, 46), (⟨"SolesByWhatIsToldModel", "atom3", "()I"⟩, 46), (⟨"SolesByWhatIsToldModel", "either4", "()I"⟩, 46), (⟨"SolesByWhatIsToldModel", "both4", "()I"⟩, 46), (⟨"SolesByWhatIsToldModel", "added2", "()I"⟩, 46), (⟨"SolesByWhatIsToldModel", "term2", "()I"⟩, 46), (⟨"SolesByWhatIsToldModel", "atom2", "()I"⟩, 46), (⟨"SolesByWhatIsToldModel", "either3", "()I"⟩, 46)]
theorem lw_r5 : ∀ q ∈ lw_privs_5, lw_okq q := List.forall_mem_cons.mpr ⟨lw_p64, List.forall_mem_cons.mpr ⟨lw_p65, List.forall_mem_cons.mpr ⟨lw_p66, List.forall_mem_cons.mpr ⟨lw_p67, List.forall_mem_cons.mpr ⟨lw_p68, List.forall_mem_cons.mpr ⟨lw_p69, List.forall_mem_cons.mpr ⟨lw_p70, List.forall_mem_cons.mpr ⟨lw_p71, List.forall_mem_cons.mpr ⟨lw_p72, List.forall_mem_cons.mpr ⟨lw_p73, List.forall_mem_cons.mpr ⟨lw_p74, List.forall_mem_cons.mpr ⟨lw_p75, List.forall_mem_cons.mpr ⟨lw_p76, List.forall_mem_cons.mpr ⟨lw_p77, List.forall_mem_cons.mpr ⟨lw_p78, List.forall_mem_cons.mpr ⟨lw_p79, fun _ h => absurd h List.not_mem_nil⟩⟩⟩⟩⟩⟩⟩⟩⟩⟩⟩⟩⟩⟩⟩⟩
theorem lw_p80 : lw_okq (⟨"SolesByWhatIsToldModel", "both3", "()I"⟩, 46) := ⟨⟨by decide +kernel, by decide +kernel⟩, List.mem_of_getElem? (i := 764) (by decide +kernel), List.mem_of_getElem? (i := 1101) (by decide +kernel), List.mem_of_getElem? (i := 1102) (by decide +kernel)⟩
theorem lw_p81 : lw_okq (⟨"SolesByWhatIsToldModel", "added1", "()I"⟩, 46) := ⟨⟨by decide +kernel, by decide +kernel⟩, List.mem_of_getElem? (i := 764) (by decide +kernel), List.mem_of_getElem? (i := 1105) (by decide +kernel), List.mem_of_getElem? (i := 1106) (by decide +kernel)⟩
theorem lw_p82 : lw_okq (⟨"SolesByWhatIsToldModel", "term1", "()I"⟩, 46) := ⟨⟨by decide +kernel, by decide +kernel⟩, List.mem_of_getElem? (i := 764) (by decide +kernel), List.mem_of_getElem? (i := 1109) (by decide +kernel), List.mem_of_getElem? (i := 1110) (by decide +kernel)⟩
theorem lw_p83 : lw_okq (⟨"SolesByWhatIsToldModel", "atom1", "()I"⟩, 46) := ⟨⟨by decide +kernel, by decide +kernel⟩, List.mem_of_getElem? (i := 764) (by decide +kernel), List.mem_of_getElem? (i := 1113) (by decide +kernel), List.mem_of_getElem? (i := 1114) (by decide +kernel)⟩
theorem lw_p84 : lw_okq (⟨"SolesByWhatIsToldModel", "either2", "()I"⟩, 46) := ⟨⟨by decide +kernel, by decide +kernel⟩, List.mem_of_getElem? (i := 764) (by decide +kernel), List.mem_of_getElem? (i := 1117) (by decide +kernel), List.mem_of_getElem? (i := 1118) (by decide +kernel)⟩
theorem lw_p85 : lw_okq (⟨"SolesByWhatIsToldModel", "both2", "()I"⟩, 46) := ⟨⟨by decide +kernel, by decide +kernel⟩, List.mem_of_getElem? (i := 764) (by decide +kernel), List.mem_of_getElem? (i := 1121) (by decide +kernel), List.mem_of_getElem? (i := 1122) (by decide +kernel)⟩
theorem lw_p86 : lw_okq (⟨"SolesByWhatIsToldModel", "added0", "()I"⟩, 46) := ⟨⟨by decide +kernel, by decide +kernel⟩, List.mem_of_getElem? (i := 764) (by decide +kernel), List.mem_of_getElem? (i := 1125) (by decide +kernel), List.mem_of_getElem? (i := 1126) (by decide +kernel)⟩
theorem lw_p87 : lw_okq (⟨"SolesByWhatIsToldModel", "term0", "()I"⟩, 46) := ⟨⟨by decide +kernel, by decide +kernel⟩, List.mem_of_getElem? (i := 764) (by decide +kernel), List.mem_of_getElem? (i := 1129) (by decide +kernel), List.mem_of_getElem? (i := 1130) (by decide +kernel)⟩
theorem lw_p88 : lw_okq (⟨"SolesByWhatIsToldModel", "atom0", "()I"⟩, 46) := ⟨⟨by decide +kernel, by decide +kernel⟩, List.mem_of_getElem? (i := 764) (by decide +kernel), List.mem_of_getElem? (i := 1133) (by decide +kernel), List.mem_of_getElem? (i := 1134) (by decide +kernel)⟩
theorem lw_p89 : lw_okq (⟨"SolesByWhatIsToldModel", "either1", "()I"⟩, 46) := ⟨⟨by decide +kernel, by decide +kernel⟩, List.mem_of_getElem? (i := 764) (by decide +kernel), List.mem_of_getElem? (i := 1137) (by decide +kernel), List.mem_of_getElem? (i := 1138) (by decide +kernel)⟩
theorem lw_p90 : lw_okq (⟨"SolesByWhatIsToldModel", "both1", "()I"⟩, 46) := ⟨⟨by decide +kernel, by decide +kernel⟩, List.mem_of_getElem? (i := 764) (by decide +kernel), List.mem_of_getElem? (i := 1141) (by decide +kernel), List.mem_of_getElem? (i := 1142) (by decide +kernel)⟩
theorem lw_p91 : lw_okq (⟨"SolesByWhatIsToldModel", "paceOf", "(I)I"⟩, 46) := ⟨⟨by decide +kernel, by decide +kernel⟩, List.mem_of_getElem? (i := 764) (by decide +kernel), List.mem_of_getElem? (i := 1148) (by decide +kernel), List.mem_of_getElem? (i := 1149) (by decide +kernel)⟩
theorem lw_p92 : lw_okq (⟨"SolesByWhatIsToldModel", "isStopped", "(I)Z"⟩, 46) := ⟨⟨by decide +kernel, by decide +kernel⟩, List.mem_of_getElem? (i := 764) (by decide +kernel), List.mem_of_getElem? (i := 1152) (by decide +kernel), List.mem_of_getElem? (i := 1153) (by decide +kernel)⟩
theorem lw_p93 : lw_okq (⟨"SolesByWhatIsToldModel", "lays", "(III)V"⟩, 46) := ⟨⟨by decide +kernel, by decide +kernel⟩, List.mem_of_getElem? (i := 764) (by decide +kernel), List.mem_of_getElem? (i := 1156) (by decide +kernel), List.mem_of_getElem? (i := 1157) (by decide +kernel)⟩
theorem lw_p94 : lw_okq (⟨"SolesByWhatIsToldModel", "goes", "(I)Z"⟩, 46) := ⟨⟨by decide +kernel, by decide +kernel⟩, List.mem_of_getElem? (i := 764) (by decide +kernel), List.mem_of_getElem? (i := 1184) (by decide +kernel), List.mem_of_getElem? (i := 1185) (by decide +kernel)⟩
theorem lw_p95 : lw_okq (⟨"SolesByWhatIsToldModel", "lives", "(II)V"⟩, 46) := ⟨⟨by decide +kernel, by decide +kernel⟩, List.mem_of_getElem? (i := 764) (by decide +kernel), List.mem_of_getElem? (i := 1194) (by decide +kernel), List.mem_of_getElem? (i := 1195) (by decide +kernel)⟩
def lw_privs_6 : List (MethodName × Nat) := [(⟨"SolesByWhatIsToldModel", "both3", "()I"⟩, 46), (⟨"SolesByWhatIsToldModel", "added1", "()I"⟩, 46), (⟨"SolesByWhatIsToldModel", "term1", "()I"⟩, 46), (⟨"SolesByWhatIsToldModel", "atom1", "()I"⟩, 46), (⟨"SolesByWhatIsToldModel", "either2", "()I"⟩, 46), (⟨"SolesByWhatIsToldModel", "both2", "()I"⟩, 46), (⟨"SolesByWhatIsToldModel", "added0", "()I"⟩, 46), (⟨"SolesByWhatIsToldModel", "term0", "()I"⟩, 46), (⟨"SolesByWhatIsToldModel", "atom0", "()I"⟩, 46), (⟨"SolesByWhatIsToldModel", "either1", "()I"⟩, 46), (⟨"SolesByWhatIsToldModel", "both1", "()I"⟩, 46), (⟨"SolesByWhatIsToldModel", "paceOf", "(I)I"⟩, 46), (⟨"SolesByWhatIsToldModel", "isStopped", "(I)Z"⟩, 46), (⟨"SolesByWhatIsToldModel", "lays", "(III)V"⟩, 46), (⟨"SolesByWhatIsToldModel", "goes", "(I)Z"⟩, 46), (⟨"SolesByWhatIsToldModel", "lives", "(II)V"⟩, 46)]
theorem lw_r6 : ∀ q ∈ lw_privs_6, lw_okq q := List.forall_mem_cons.mpr ⟨lw_p80, List.forall_mem_cons.mpr ⟨lw_p81, List.forall_mem_cons.mpr ⟨lw_p82, List.forall_mem_cons.mpr ⟨lw_p83, List.forall_mem_cons.mpr ⟨lw_p84, List.forall_mem_cons.mpr ⟨lw_p85, List.forall_mem_cons.mpr ⟨lw_p86, List.forall_mem_cons.mpr ⟨lw_p87, List.forall_mem_cons.mpr ⟨lw_p88, List.forall_mem_cons.mpr ⟨lw_p89, List.forall_mem_cons.mpr ⟨lw_p90, List.forall_mem_cons.mpr ⟨lw_p91, List.forall_mem_cons.mpr ⟨lw_p92, List.forall_mem_cons.mpr ⟨lw_p93, List.forall_mem_cons.mpr ⟨lw_p94, List.forall_mem_cons.mpr ⟨lw_p95, fun _ h => absurd h List.not_mem_nil⟩⟩⟩⟩⟩⟩⟩⟩⟩⟩⟩⟩⟩⟩⟩⟩
theorem lw_p96 : lw_okq (⟨"SolesByWhatIsToldModel", "isInSocks", "(I)Z"⟩, 46) := ⟨⟨by decide +kernel, by decide +kernel⟩, List.mem_of_getElem? (i := 764) (by decide +kernel), List.mem_of_getElem? (i := 1198) (by decide +kernel), List.mem_of_getElem? (i := 1199) (by decide +kernel)⟩
theorem lw_p97 : lw_okq (⟨"SolesByWhatIsToldModel", "stepBehind", "(II)I"⟩, 46) := ⟨⟨by decide +kernel, by decide +kernel⟩, List.mem_of_getElem? (i := 764) (by decide +kernel), List.mem_of_getElem? (i := 1210) (by decide +kernel), List.mem_of_getElem? (i := 1211) (by decide +kernel)⟩
theorem lw_p98 : lw_okq (⟨"SolesByWhatIsToldModel", "isLighter", "(I)Z"⟩, 46) := ⟨⟨by decide +kernel, by decide +kernel⟩, List.mem_of_getElem? (i := 764) (by decide +kernel), List.mem_of_getElem? (i := 1214) (by decide +kernel), List.mem_of_getElem? (i := 1215) (by decide +kernel)⟩
theorem lw_p99 : lw_okq (⟨"SolesByWhatIsToldModel", "daysTill", "(II)I"⟩, 46) := ⟨⟨by decide +kernel, by decide +kernel⟩, List.mem_of_getElem? (i := 764) (by decide +kernel), List.mem_of_getElem? (i := 1231) (by decide +kernel), List.mem_of_getElem? (i := 1232) (by decide +kernel)⟩
theorem lw_p100 : lw_okq (⟨"SolesByWhatIsToldModel", "allBehind", "(I)I"⟩, 46) := ⟨⟨by decide +kernel, by decide +kernel⟩, List.mem_of_getElem? (i := 764) (by decide +kernel), List.mem_of_getElem? (i := 1239) (by decide +kernel), List.mem_of_getElem? (i := 1240) (by decide +kernel)⟩
theorem lw_p101 : lw_okq (⟨"SolesByWhatIsToldModel", "firstOther", "(II)I"⟩, 46) := ⟨⟨by decide +kernel, by decide +kernel⟩, List.mem_of_getElem? (i := 764) (by decide +kernel), List.mem_of_getElem? (i := 1254) (by decide +kernel), List.mem_of_getElem? (i := 1255) (by decide +kernel)⟩
theorem lw_p102 : lw_okq (⟨"SolesByWhatIsToldModel", "draws", "(I)V"⟩, 46) := ⟨⟨by decide +kernel, by decide +kernel⟩, List.mem_of_getElem? (i := 764) (by decide +kernel), List.mem_of_getElem? (i := 1272) (by decide +kernel), List.mem_of_getElem? (i := 1273) (by decide +kernel)⟩
theorem lw_p103 : lw_okq (⟨"SolesByWhatIsToldModel", "laysBack", "()V"⟩, 46) := ⟨⟨by decide +kernel, by decide +kernel⟩, List.mem_of_getElem? (i := 764) (by decide +kernel), List.mem_of_getElem? (i := 1277) (by decide +kernel), List.mem_of_getElem? (i := 1278) (by decide +kernel)⟩
def lw_privs_7 : List (MethodName × Nat) := [(⟨"SolesByWhatIsToldModel", "isInSocks", "(I)Z"⟩, 46), (⟨"SolesByWhatIsToldModel", "stepBehind", "(II)I"⟩, 46), (⟨"SolesByWhatIsToldModel", "isLighter", "(I)Z"⟩, 46), (⟨"SolesByWhatIsToldModel", "daysTill", "(II)I"⟩, 46), (⟨"SolesByWhatIsToldModel", "allBehind", "(I)I"⟩, 46), (⟨"SolesByWhatIsToldModel", "firstOther", "(II)I"⟩, 46), (⟨"SolesByWhatIsToldModel", "draws", "(I)V"⟩, 46), (⟨"SolesByWhatIsToldModel", "laysBack", "()V"⟩, 46)]
theorem lw_r7 : ∀ q ∈ lw_privs_7, lw_okq q := List.forall_mem_cons.mpr ⟨lw_p96, List.forall_mem_cons.mpr ⟨lw_p97, List.forall_mem_cons.mpr ⟨lw_p98, List.forall_mem_cons.mpr ⟨lw_p99, List.forall_mem_cons.mpr ⟨lw_p100, List.forall_mem_cons.mpr ⟨lw_p101, List.forall_mem_cons.mpr ⟨lw_p102, List.forall_mem_cons.mpr ⟨lw_p103, fun _ h => absurd h List.not_mem_nil⟩⟩⟩⟩⟩⟩⟩⟩
def lw_privs : List (MethodName × Nat) := lw_privs_1 ++ (lw_privs_2 ++ (lw_privs_3 ++ (lw_privs_4 ++ (lw_privs_5 ++ (lw_privs_6 ++ (lw_privs_7))))))
def lw_tbl : List Cond := k2_sels lw_privs ++ tables_1
theorem lw_privs_ok : ∀ q ∈ lw_privs, lw_okq q := by
  show ∀ q ∈ lw_privs_1 ++ (lw_privs_2 ++ (lw_privs_3 ++ (lw_privs_4 ++ (lw_privs_5 ++ (lw_privs_6 ++ (lw_privs_7)))))), lw_okq q
  exact List.forall_mem_append.mpr ⟨lw_r1, List.forall_mem_append.mpr ⟨lw_r2, List.forall_mem_append.mpr ⟨lw_r3, List.forall_mem_append.mpr ⟨lw_r4, List.forall_mem_append.mpr ⟨lw_r5, List.forall_mem_append.mpr ⟨lw_r6, lw_r7⟩⟩⟩⟩⟩⟩
-- names of classes, fields, methods (the printed ones)
def RX0 : String := "SolesByWhatIsTold$Image"
def TX0 : u_T := fun k => match k with
  | 0 => ("SolesByWhatIsTold$Image", "stands", "Z", false)
  | 1 => ("SolesByWhatIsTold$Image", "day", "I", false)
  | 2 => ("SolesByWhatIsTold$Image", "rule", "I", false)
  | 3 => ("SolesByWhatIsTold$Image", "walkerCount", "I", false)
  | 4 => ("SolesByWhatIsTold$Image", "weights", "[I", true)
  | _ => ("SolesByWhatIsTold$Image", "road", "[LSolesByWhatIsTold$Walker;", true)
def tyX0 : Nat → FieldType := fun k => match k with
  | 0 => .boolean
  | 1 => .int
  | 2 => .int
  | 3 => .int
  | 4 => .array .int
  | _ => .array (.object "SolesByWhatIsTold$Walker")
abbrev wsX00 : List Cond := u_ws RX0 TX0 6
theorem nmX0 : ∀ a, a < 6 → ∀ b, b < 6 → a ≠ b → (TX0 a).2.1 ≠ (TX0 b).2.1 := by decide +kernel
theorem tyX0_ok : ∀ k, k < 6 → parseFieldDescriptor (TX0 k).2.2.1 = some (tyX0 k) := by decide +kernel
abbrev cX0_init : ByteArray := prog_2_method_1_code
def yX0_init : MethodName := ⟨RX0, "<init>", "()V"⟩
def RX1 : String := "SolesByWhatIsTold$Reader"
def TX1 : u_T := fun k => match k with
  | 0 => ("SolesByWhatIsTold$Reader", "bytes", "[I", true)
  | 1 => ("SolesByWhatIsTold$Reader", "size", "I", false)
  | 2 => ("SolesByWhatIsTold$Reader", "at", "I", false)
  | 3 => ("SolesByWhatIsTold$Reader", "start", "I", false)
  | 4 => ("SolesByWhatIsTold$Reader", "token", "I", false)
  | 5 => ("SolesByWhatIsTold$Reader", "amount", "I", false)
  | 6 => ("SolesByWhatIsTold$Reader", "open", "I", false)
  | 7 => ("SolesByWhatIsTold$Reader", "fault", "I", false)
  | _ => ("SolesByWhatIsTold$Reader", "into", "LSolesByWhatIsTold$Text;", false)
def tyX1 : Nat → FieldType := fun k => match k with
  | 0 => .array .int
  | 1 => .int
  | 2 => .int
  | 3 => .int
  | 4 => .int
  | 5 => .int
  | 6 => .int
  | 7 => .int
  | _ => .object "SolesByWhatIsTold$Text"
abbrev wsX10 : List Cond := u_ws RX1 TX1 9
theorem nmX1 : ∀ a, a < 9 → ∀ b, b < 9 → a ≠ b → (TX1 a).2.1 ≠ (TX1 b).2.1 := by decide +kernel
theorem tyX1_ok : ∀ k, k < 9 → parseFieldDescriptor (TX1 k).2.2.1 = some (tyX1 k) := by decide +kernel
abbrev cX1_init : ByteArray := prog_3_method_1_code
def yX1_init : MethodName := ⟨RX1, "<init>", "()V"⟩
abbrev cX1_append : ByteArray := prog_3_method_2_code
def yX1_append : MethodName := ⟨RX1, "append", "(I)V"⟩
abbrev cX1_readInto : ByteArray := prog_3_method_3_code
def yX1_readInto : MethodName := ⟨RX1, "readInto", "(LSolesByWhatIsTold$Text;)I"⟩
abbrev cX1_fail : ByteArray := prog_3_method_4_code
def yX1_fail : MethodName := ⟨RX1, "fail", "()V"⟩
abbrev cX1_expect : ByteArray := prog_3_method_5_code
def yX1_expect : MethodName := ⟨RX1, "expect", "(I)V"⟩
abbrev cX1_takeOpening : ByteArray := prog_3_method_6_code
def yX1_takeOpening : MethodName := ⟨RX1, "takeOpening", "()Z"⟩
abbrev cX1_readEither : ByteArray := prog_3_method_7_code
def yX1_readEither : MethodName := ⟨RX1, "readEither", "()V"⟩
abbrev cX1_readBoth : ByteArray := prog_3_method_8_code
def yX1_readBoth : MethodName := ⟨RX1, "readBoth", "()V"⟩
abbrev cX1_readNot : ByteArray := prog_3_method_9_code
def yX1_readNot : MethodName := ⟨RX1, "readNot", "()V"⟩
abbrev cX1_readSum : ByteArray := prog_3_method_10_code
def yX1_readSum : MethodName := ⟨RX1, "readSum", "()V"⟩
abbrev cX1_readTerm : ByteArray := prog_3_method_11_code
def yX1_readTerm : MethodName := ⟨RX1, "readTerm", "()V"⟩
abbrev cX1_readOne : ByteArray := prog_3_method_12_code
def yX1_readOne : MethodName := ⟨RX1, "readOne", "()V"⟩
abbrev cX1_take : ByteArray := prog_3_method_13_code
def yX1_take : MethodName := ⟨RX1, "take", "()V"⟩
abbrev cX1_takeAmount : ByteArray := prog_3_method_14_code
def yX1_takeAmount : MethodName := ⟨RX1, "takeAmount", "()V"⟩
abbrev cX1_takeWord : ByteArray := prog_3_method_15_code
def yX1_takeWord : MethodName := ⟨RX1, "takeWord", "()V"⟩
abbrev cX1_spells : ByteArray := prog_3_method_16_code
def yX1_spells : MethodName := ⟨RX1, "spells", "(Ljava/lang/String;)Z"⟩
abbrev cX1_isBlank : ByteArray := prog_3_method_17_code
def yX1_isBlank : MethodName := ⟨RX1, "isBlank", "(I)Z"⟩
abbrev cX1_isLetter : ByteArray := prog_3_method_18_code
def yX1_isLetter : MethodName := ⟨RX1, "isLetter", "(I)Z"⟩
abbrev cX1_isDigit : ByteArray := prog_3_method_19_code
def yX1_isDigit : MethodName := ⟨RX1, "isDigit", "(I)Z"⟩
abbrev cX1_signOf : ByteArray := prog_3_method_20_code
def yX1_signOf : MethodName := ⟨RX1, "signOf", "(I)I"⟩
def RX2 : String := "SolesByWhatIsTold$Sheet"
def TX2 : u_T := fun k => match k with
  | 0 => ("SolesByWhatIsTold$Sheet", "items", "[I", true)
  | 1 => ("SolesByWhatIsTold$Sheet", "sort", "I", false)
  | _ => ("SolesByWhatIsTold$Sheet", "size", "I", false)
def tyX2 : Nat → FieldType := fun k => match k with
  | 0 => .array .int
  | 1 => .int
  | _ => .int
abbrev wsX20 : List Cond := u_ws RX2 TX2 3
theorem nmX2 : ∀ a, a < 3 → ∀ b, b < 3 → a ≠ b → (TX2 a).2.1 ≠ (TX2 b).2.1 := by decide +kernel
theorem tyX2_ok : ∀ k, k < 3 → parseFieldDescriptor (TX2 k).2.2.1 = some (tyX2 k) := by decide +kernel
abbrev cX2_init : ByteArray := prog_4_method_1_code
def yX2_init : MethodName := ⟨RX2, "<init>", "()V"⟩
abbrev cX2_isMissing : ByteArray := prog_4_method_2_code
def yX2_isMissing : MethodName := ⟨RX2, "isMissing", "()Z"⟩
abbrev cX2_becomeRow : ByteArray := prog_4_method_3_code
def yX2_becomeRow : MethodName := ⟨RX2, "becomeRow", "(II)V"⟩
abbrev cX2_holds : ByteArray := prog_4_method_4_code
def yX2_holds : MethodName := ⟨RX2, "holds", "(II)Z"⟩
abbrev cX2_put : ByteArray := prog_4_method_5_code
def yX2_put : MethodName := ⟨RX2, "put", "(II)V"⟩
def RX3 : String := "SolesByWhatIsTold$Text"
def TX3 : u_T := fun k => match k with
  | 0 => ("SolesByWhatIsTold$Text", "steps", "[I", true)
  | 1 => ("SolesByWhatIsTold$Text", "ends", "[I", true)
  | 2 => ("SolesByWhatIsTold$Text", "size", "I", false)
  | _ => ("SolesByWhatIsTold$Text", "tellsDay", "Z", false)
def tyX3 : Nat → FieldType := fun k => match k with
  | 0 => .array .int
  | 1 => .array .int
  | 2 => .int
  | _ => .boolean
abbrev wsX30 : List Cond := u_ws RX3 TX3 4
theorem nmX3 : ∀ a, a < 4 → ∀ b, b < 4 → a ≠ b → (TX3 a).2.1 ≠ (TX3 b).2.1 := by decide +kernel
theorem tyX3_ok : ∀ k, k < 4 → parseFieldDescriptor (TX3 k).2.2.1 = some (tyX3 k) := by decide +kernel
abbrev cX3_init : ByteArray := prog_5_method_1_code
def yX3_init : MethodName := ⟨RX3, "<init>", "()V"⟩
abbrev cX3_clear : ByteArray := prog_5_method_2_code
def yX3_clear : MethodName := ⟨RX3, "clear", "()V"⟩
abbrev cX3_append : ByteArray := prog_5_method_3_code
def yX3_append : MethodName := ⟨RX3, "append", "(I)V"⟩
abbrev cX3_endPart : ByteArray := prog_5_method_4_code
def yX3_endPart : MethodName := ⟨RX3, "endPart", "(I)V"⟩
abbrev cX3_startOf : ByteArray := prog_5_method_5_code
def yX3_startOf : MethodName := ⟨RX3, "startOf", "(I)I"⟩
abbrev cX3_endOf : ByteArray := prog_5_method_6_code
def yX3_endOf : MethodName := ⟨RX3, "endOf", "(I)I"⟩
def RX4 : String := "SolesByWhatIsTold$Thought"
def TX4 : u_T := fun k => match k with
  | 0 => ("SolesByWhatIsTold$Thought", "kind", "I", false)
  | 1 => ("SolesByWhatIsTold$Thought", "number", "I", false)
  | 2 => ("SolesByWhatIsTold$Thought", "toldWeight", "I", false)
  | 3 => ("SolesByWhatIsTold$Thought", "untoldWeight", "I", false)
  | 4 => ("SolesByWhatIsTold$Thought", "step", "I", false)
  | 5 => ("SolesByWhatIsTold$Thought", "worn", "I", false)
  | 6 => ("SolesByWhatIsTold$Thought", "day", "I", false)
  | 7 => ("SolesByWhatIsTold$Thought", "rule", "LSolesByWhatIsTold$Text;", false)
  | _ => ("SolesByWhatIsTold$Thought", "stack", "[I", true)
def tyX4 : Nat → FieldType := fun k => match k with
  | 0 => .int
  | 1 => .int
  | 2 => .int
  | 3 => .int
  | 4 => .int
  | 5 => .int
  | 6 => .int
  | 7 => .object "SolesByWhatIsTold$Text"
  | _ => .array .int
abbrev wsX40 : List Cond := u_ws RX4 TX4 9
theorem nmX4 : ∀ a, a < 9 → ∀ b, b < 9 → a ≠ b → (TX4 a).2.1 ≠ (TX4 b).2.1 := by decide +kernel
theorem tyX4_ok : ∀ k, k < 9 → parseFieldDescriptor (TX4 k).2.2.1 = some (tyX4 k) := by decide +kernel
abbrev cX4_init : ByteArray := prog_6_method_1_code
def yX4_init : MethodName := ⟨RX4, "<init>", "(LSolesByWhatIsTold$Text;)V"⟩
abbrev cX4_startAs : ByteArray := prog_6_method_2_code
def yX4_startAs : MethodName := ⟨RX4, "startAs", "(LSolesByWhatIsTold$Walker;LSolesByWhatIsTold$Text;I)V"⟩
abbrev cX4_weigh : ByteArray := prog_6_method_3_code
def yX4_weigh : MethodName := ⟨RX4, "weigh", "(II[I)V"⟩
abbrev cX4_lasts : ByteArray := prog_6_method_4_code
def yX4_lasts : MethodName := ⟨RX4, "lasts", "()I"⟩
abbrev cX4_lastsByKind : ByteArray := prog_6_method_5_code
def yX4_lastsByKind : MethodName := ⟨RX4, "lastsByKind", "(I)I"⟩
abbrev cX4_pace : ByteArray := prog_6_method_6_code
def yX4_pace : MethodName := ⟨RX4, "pace", "()I"⟩
abbrev cX4_paceByKind : ByteArray := prog_6_method_7_code
def yX4_paceByKind : MethodName := ⟨RX4, "paceByKind", "(I)I"⟩
abbrev cX4_isStopped : ByteArray := prog_6_method_8_code
def yX4_isStopped : MethodName := ⟨RX4, "isStopped", "()Z"⟩
abbrev cX4_isInSocks : ByteArray := prog_6_method_9_code
def yX4_isInSocks : MethodName := ⟨RX4, "isInSocks", "()Z"⟩
abbrev cX4_passDay : ByteArray := prog_6_method_10_code
def yX4_passDay : MethodName := ⟨RX4, "passDay", "()Z"⟩
abbrev cX4_stepBehind : ByteArray := prog_6_method_11_code
def yX4_stepBehind : MethodName := ⟨RX4, "stepBehind", "(I)I"⟩
abbrev cX4_wornBehind : ByteArray := prog_6_method_12_code
def yX4_wornBehind : MethodName := ⟨RX4, "wornBehind", "(I)I"⟩
abbrev cX4_firstInSocks : ByteArray := prog_6_method_13_code
def yX4_firstInSocks : MethodName := ⟨RX4, "firstInSocks", "(I)I"⟩
abbrev cX4_firstStay : ByteArray := prog_6_method_14_code
def yX4_firstStay : MethodName := ⟨RX4, "firstStay", "(I)I"⟩
abbrev cX4_isHeldUp : ByteArray := prog_6_method_15_code
def yX4_isHeldUp : MethodName := ⟨RX4, "isHeldUp", "(I)Z"⟩
abbrev cX4_daysTill : ByteArray := prog_6_method_16_code
def yX4_daysTill : MethodName := ⟨RX4, "daysTill", "(I)I"⟩
abbrev cX4_firstOtherwise : ByteArray := prog_6_method_17_code
def yX4_firstOtherwise : MethodName := ⟨RX4, "firstOtherwise", "(LSolesByWhatIsTold$Sheet;)I"⟩
abbrev cX4_valueOfPart : ByteArray := prog_6_method_18_code
def yX4_valueOfPart : MethodName := ⟨RX4, "valueOfPart", "(I)I"⟩
abbrev cX4_ofNone : ByteArray := prog_6_method_19_code
def yX4_ofNone : MethodName := ⟨RX4, "ofNone", "(I)I"⟩
abbrev cX4_ofTwo : ByteArray := prog_6_method_20_code
def yX4_ofTwo : MethodName := ⟨RX4, "ofTwo", "(III)I"⟩
def RX5 : String := "SolesByWhatIsTold$Walker"
def TX5 : u_T := fun k => match k with
  | 0 => ("SolesByWhatIsTold$Walker", "kind", "I", false)
  | 1 => ("SolesByWhatIsTold$Walker", "number", "I", false)
  | 2 => ("SolesByWhatIsTold$Walker", "ties", "I", false)
  | 3 => ("SolesByWhatIsTold$Walker", "told", "I", false)
  | 4 => ("SolesByWhatIsTold$Walker", "step", "I", false)
  | _ => ("SolesByWhatIsTold$Walker", "worn", "I", false)
def tyX5 : Nat → FieldType := fun k => match k with
  | 0 => .int
  | 1 => .int
  | 2 => .int
  | 3 => .int
  | 4 => .int
  | _ => .int
abbrev wsX50 : List Cond := u_ws RX5 TX5 6
theorem nmX5 : ∀ a, a < 6 → ∀ b, b < 6 → a ≠ b → (TX5 a).2.1 ≠ (TX5 b).2.1 := by decide +kernel
theorem tyX5_ok : ∀ k, k < 6 → parseFieldDescriptor (TX5 k).2.2.1 = some (tyX5 k) := by decide +kernel
abbrev cX5_init : ByteArray := prog_7_method_1_code
def yX5_init : MethodName := ⟨RX5, "<init>", "()V"⟩
abbrev cX5_comeAs : ByteArray := prog_7_method_2_code
def yX5_comeAs : MethodName := ⟨RX5, "comeAs", "(III)V"⟩
abbrev cX5_become : ByteArray := prog_7_method_3_code
def yX5_become : MethodName := ⟨RX5, "become", "(LSolesByWhatIsTold$Walker;)V"⟩
def RX6 : String := "SolesByWhatIsTold"
def TX6 : u_T := fun k => match k with
  | 0 => ("SolesByWhatIsTold", "weights", "[I", true)
  | 1 => ("SolesByWhatIsTold", "otherWeights", "[I", true)
  | 2 => ("SolesByWhatIsTold", "road", "[LSolesByWhatIsTold$Walker;", true)
  | 3 => ("SolesByWhatIsTold", "walkerCount", "I", false)
  | 4 => ("SolesByWhatIsTold", "today", "I", false)
  | 5 => ("SolesByWhatIsTold", "texts", "[LSolesByWhatIsTold$Text;", true)
  | 6 => ("SolesByWhatIsTold", "textCount", "I", false)
  | 7 => ("SolesByWhatIsTold", "rule", "I", false)
  | 8 => ("SolesByWhatIsTold", "reader", "LSolesByWhatIsTold$Reader;", true)
  | 9 => ("SolesByWhatIsTold", "thought", "LSolesByWhatIsTold$Thought;", true)
  | 10 => ("SolesByWhatIsTold", "stepByWeight", "[I", true)
  | 11 => ("SolesByWhatIsTold", "kept", "LSolesByWhatIsTold$Image;", true)
  | _ => ("SolesByWhatIsTold", "sheets", "[LSolesByWhatIsTold$Sheet;", true)
def tyX6 : Nat → FieldType := fun k => match k with
  | 0 => .array .int
  | 1 => .array .int
  | 2 => .array (.object "SolesByWhatIsTold$Walker")
  | 3 => .int
  | 4 => .int
  | 5 => .array (.object "SolesByWhatIsTold$Text")
  | 6 => .int
  | 7 => .int
  | 8 => .object "SolesByWhatIsTold$Reader"
  | 9 => .object "SolesByWhatIsTold$Thought"
  | 10 => .array .int
  | 11 => .object "SolesByWhatIsTold$Image"
  | _ => .array (.object "SolesByWhatIsTold$Sheet")
abbrev wsX60 : List Cond := u_ws RX6 TX6 13
theorem nmX6 : ∀ a, a < 13 → ∀ b, b < 13 → a ≠ b → (TX6 a).2.1 ≠ (TX6 b).2.1 := by decide +kernel
theorem tyX6_ok : ∀ k, k < 13 → parseFieldDescriptor (TX6 k).2.2.1 = some (tyX6 k) := by decide +kernel
abbrev cX6_init : ByteArray := prog_1_method_1_code
def yX6_init : MethodName := ⟨RX6, "<init>", "()V"⟩
abbrev cX6_set : ByteArray := prog_1_method_2_code
def yX6_set : MethodName := ⟨RX6, "set", "(III)I"⟩
abbrev cX6_walker : ByteArray := prog_1_method_3_code
def yX6_walker : MethodName := ⟨RX6, "walker", "(III)I"⟩
abbrev cX6_told : ByteArray := prog_1_method_4_code
def yX6_told : MethodName := ⟨RX6, "told", "(II)I"⟩
abbrev cX6_feed : ByteArray := prog_1_method_5_code
def yX6_feed : MethodName := ⟨RX6, "feed", "(I)I"⟩
abbrev cX6_text : ByteArray := prog_1_method_6_code
def yX6_text : MethodName := ⟨RX6, "text", "()I"⟩
abbrev cX6_force : ByteArray := prog_1_method_7_code
def yX6_force : MethodName := ⟨RX6, "force", "(I)I"⟩
abbrev cX6_day : ByteArray := prog_1_method_8_code
def yX6_day : MethodName := ⟨RX6, "day", "()I"⟩
abbrev cX6_run : ByteArray := prog_1_method_9_code
def yX6_run : MethodName := ⟨RX6, "run", "(III)I"⟩
abbrev cX6_mend : ByteArray := prog_1_method_10_code
def yX6_mend : MethodName := ⟨RX6, "mend", "(I)I"⟩
abbrev cX6_far : ByteArray := prog_1_method_11_code
def yX6_far : MethodName := ⟨RX6, "far", "(III)I"⟩
abbrev cX6_least : ByteArray := prog_1_method_12_code
def yX6_least : MethodName := ⟨RX6, "least", "(III)I"⟩
abbrev cX6_heaviest : ByteArray := prog_1_method_13_code
def yX6_heaviest : MethodName := ⟨RX6, "heaviest", "(III)I"⟩
abbrev cX6_away : ByteArray := prog_1_method_14_code
def yX6_away : MethodName := ⟨RX6, "away", "(II)I"⟩
abbrev cX6_keeper : ByteArray := prog_1_method_15_code
def yX6_keeper : MethodName := ⟨RX6, "keeper", "(II)I"⟩
abbrev cX6_spare : ByteArray := prog_1_method_16_code
def yX6_spare : MethodName := ⟨RX6, "spare", "(II)I"⟩
abbrev cX6_tells : ByteArray := prog_1_method_17_code
def yX6_tells : MethodName := ⟨RX6, "tells", "(III)I"⟩
abbrev cX6_film : ByteArray := prog_1_method_18_code
def yX6_film : MethodName := ⟨RX6, "film", "(III)I"⟩
abbrev cX6_drawn : ByteArray := prog_1_method_19_code
def yX6_drawn : MethodName := ⟨RX6, "drawn", "(II)I"⟩
abbrev cX6_chance : ByteArray := prog_1_method_20_code
def yX6_chance : MethodName := ⟨RX6, "chance", "(III)J"⟩
abbrev cX6_image : ByteArray := prog_1_method_21_code
def yX6_image : MethodName := ⟨RX6, "image", "()I"⟩
abbrev cX6_back : ByteArray := prog_1_method_22_code
def yX6_back : MethodName := ⟨RX6, "back", "()I"⟩
abbrev cX6_count : ByteArray := prog_1_method_23_code
def yX6_count : MethodName := ⟨RX6, "count", "(I)I"⟩
abbrev cX6_sheet : ByteArray := prog_1_method_24_code
def yX6_sheet : MethodName := ⟨RX6, "sheet", "(III)I"⟩
abbrev cX6_cell : ByteArray := prog_1_method_25_code
def yX6_cell : MethodName := ⟨RX6, "cell", "(III)I"⟩
abbrev cX6_copy : ByteArray := prog_1_method_26_code
def yX6_copy : MethodName := ⟨RX6, "copy", "(IIIII)I"⟩
abbrev cX6_walkers : ByteArray := prog_1_method_27_code
def yX6_walkers : MethodName := ⟨RX6, "walkers", "(IIII)I"⟩
abbrev cX6_taken : ByteArray := prog_1_method_28_code
def yX6_taken : MethodName := ⟨RX6, "taken", "(II)I"⟩
abbrev cX6_within : ByteArray := prog_1_method_29_code
def yX6_within : MethodName := ⟨RX6, "within", "(III)Z"⟩
abbrev cX6_bounded : ByteArray := prog_1_method_30_code
def yX6_bounded : MethodName := ⟨RX6, "bounded", "(II)I"⟩
abbrev cX6_bit : ByteArray := prog_1_method_31_code
def yX6_bit : MethodName := ⟨RX6, "bit", "(Z)I"⟩
abbrev cX6_has : ByteArray := prog_1_method_32_code
def yX6_has : MethodName := ⟨RX6, "has", "(II)Z"⟩
abbrev cX6_isPart : ByteArray := prog_1_method_33_code
def yX6_isPart : MethodName := ⟨RX6, "isPart", "(II)Z"⟩
abbrev cX6_isDays : ByteArray := prog_1_method_34_code
def yX6_isDays : MethodName := ⟨RX6, "isDays", "(I)Z"⟩
abbrev cX6_isThing : ByteArray := prog_1_method_35_code
def yX6_isThing : MethodName := ⟨RX6, "isThing", "(I)Z"⟩
abbrev cX6_isUnder : ByteArray := prog_1_method_36_code
def yX6_isUnder : MethodName := ⟨RX6, "isUnder", "(II)Z"⟩
abbrev cX6_commonDivisor : ByteArray := prog_1_method_37_code
def yX6_commonDivisor : MethodName := ⟨RX6, "commonDivisor", "(II)I"⟩
abbrev cX6_walkerAt : ByteArray := prog_1_method_38_code
def yX6_walkerAt : MethodName := ⟨RX6, "walkerAt", "(I)LSolesByWhatIsTold$Walker;"⟩
abbrev cX6_sheetAt : ByteArray := prog_1_method_39_code
def yX6_sheetAt : MethodName := ⟨RX6, "sheetAt", "(I)LSolesByWhatIsTold$Sheet;"⟩
abbrev cX6_isKept : ByteArray := prog_1_method_40_code
def yX6_isKept : MethodName := ⟨RX6, "isKept", "(I)Z"⟩
abbrev cX6_names : ByteArray := prog_1_method_41_code
def yX6_names : MethodName := ⟨RX6, "names", "(II)Z"⟩
abbrev cX6_mostOf : ByteArray := prog_1_method_42_code
def yX6_mostOf : MethodName := ⟨RX6, "mostOf", "(I)I"⟩
abbrev cX6_valueOf : ByteArray := prog_1_method_43_code
def yX6_valueOf : MethodName := ⟨RX6, "valueOf", "(II)I"⟩
abbrev cX6_keep : ByteArray := prog_1_method_44_code
def yX6_keep : MethodName := ⟨RX6, "keep", "(III)V"⟩
abbrev cX6_keepOfWalker : ByteArray := prog_1_method_45_code
def yX6_keepOfWalker : MethodName := ⟨RX6, "keepOfWalker", "(ILSolesByWhatIsTold$Walker;I)V"⟩
abbrev cX6_think : ByteArray := prog_1_method_46_code
def yX6_think : MethodName := ⟨RX6, "think", "(LSolesByWhatIsTold$Walker;)V"⟩
abbrev cX6_thinkTold : ByteArray := prog_1_method_47_code
def yX6_thinkTold : MethodName := ⟨RX6, "thinkTold", "(LSolesByWhatIsTold$Walker;I)V"⟩
abbrev cX6_thinkOtherwise : ByteArray := prog_1_method_48_code
def yX6_thinkOtherwise : MethodName := ⟨RX6, "thinkOtherwise", "(LSolesByWhatIsTold$Walker;)V"⟩
abbrev cX6_weighAsNow : ByteArray := prog_1_method_49_code
def yX6_weighAsNow : MethodName := ⟨RX6, "weighAsNow", "()V"⟩
abbrev cX6_draw : ByteArray := prog_1_method_50_code
def yX6_draw : MethodName := ⟨RX6, "draw", "(I)V"⟩
abbrev cX6_stepsOfAll : ByteArray := prog_1_method_51_code
def yX6_stepsOfAll : MethodName := ⟨RX6, "stepsOfAll", "(I)I"⟩
abbrev cX6_eachIsHeldUp : ByteArray := prog_1_method_52_code
def yX6_eachIsHeldUp : MethodName := ⟨RX6, "eachIsHeldUp", "()Z"⟩
abbrev cX6_forgetSteps : ByteArray := prog_1_method_53_code
def yX6_forgetSteps : MethodName := ⟨RX6, "forgetSteps", "()V"⟩
abbrev cX6_stepIfTold : ByteArray := prog_1_method_54_code
def yX6_stepIfTold : MethodName := ⟨RX6, "stepIfTold", "(LSolesByWhatIsTold$Walker;II)I"⟩
abbrev cX6_countInSocks : ByteArray := prog_1_method_55_code
def yX6_countInSocks : MethodName := ⟨RX6, "countInSocks", "()I"⟩
abbrev cX6_countStopped : ByteArray := prog_1_method_56_code
def yX6_countStopped : MethodName := ⟨RX6, "countStopped", "()I"⟩
abbrev cX6_kindsBy : ByteArray := prog_1_method_57_code
def yX6_kindsBy : MethodName := ⟨RX6, "kindsBy", "(LSolesByWhatIsTold$Sheet;LSolesByWhatIsTold$Walker;)I"⟩
abbrev cX6_numbersBy : ByteArray := prog_1_method_58_code
def yX6_numbersBy : MethodName := ⟨RX6, "numbersBy", "(LSolesByWhatIsTold$Sheet;LSolesByWhatIsTold$Walker;)I"⟩
abbrev cX6_setsBy : ByteArray := prog_1_method_59_code
def yX6_setsBy : MethodName := ⟨RX6, "setsBy", "(LSolesByWhatIsTold$Sheet;LSolesByWhatIsTold$Walker;Z)I"⟩
abbrev cX6_textsBy : ByteArray := prog_1_method_60_code
def yX6_textsBy : MethodName := ⟨RX6, "textsBy", "(LSolesByWhatIsTold$Sheet;LSolesByWhatIsTold$Walker;)I"⟩
abbrev cX6_stepsBy : ByteArray := prog_1_method_61_code
def yX6_stepsBy : MethodName := ⟨RX6, "stepsBy", "(LSolesByWhatIsTold$Sheet;LSolesByWhatIsTold$Walker;Z)I"⟩
def RX7 : String := "SolesByWhatIsToldModel"
def TX7 : u_T := fun k => match k with
  | 0 => ("SolesByWhatIsToldModel", "thrown", "I", false)
  | 1 => ("SolesByWhatIsToldModel", "texts", "[I", true)
  | 2 => ("SolesByWhatIsToldModel", "textSize", "[I", true)
  | 3 => ("SolesByWhatIsToldModel", "textCount", "I", false)
  | 4 => ("SolesByWhatIsToldModel", "rule", "I", false)
  | 5 => ("SolesByWhatIsToldModel", "tape", "[I", true)
  | 6 => ("SolesByWhatIsToldModel", "taped", "I", false)
  | 7 => ("SolesByWhatIsToldModel", "dayNow", "I", false)
  | 8 => ("SolesByWhatIsToldModel", "heavy", "[I", true)
  | 9 => ("SolesByWhatIsToldModel", "kinds", "[I", true)
  | 10 => ("SolesByWhatIsToldModel", "rows", "[I", true)
  | 11 => ("SolesByWhatIsToldModel", "many", "I", false)
  | 12 => ("SolesByWhatIsToldModel", "ofTold", "I", false)
  | 13 => ("SolesByWhatIsToldModel", "ofUntold", "I", false)
  | 14 => ("SolesByWhatIsToldModel", "ofStep", "I", false)
  | 15 => ("SolesByWhatIsToldModel", "ofNumber", "I", false)
  | 16 => ("SolesByWhatIsToldModel", "ofDay", "I", false)
  | 17 => ("SolesByWhatIsToldModel", "ofWorn", "I", false)
  | 18 => ("SolesByWhatIsToldModel", "from", "I", false)
  | 19 => ("SolesByWhatIsToldModel", "size", "I", false)
  | 20 => ("SolesByWhatIsToldModel", "here", "I", false)
  | 21 => ("SolesByWhatIsToldModel", "token", "I", false)
  | 22 => ("SolesByWhatIsToldModel", "tokenAt", "I", false)
  | 23 => ("SolesByWhatIsToldModel", "tokenWorth", "J", false)
  | 24 => ("SolesByWhatIsToldModel", "open", "I", false)
  | 25 => ("SolesByWhatIsToldModel", "bad", "Z", false)
  | 26 => ("SolesByWhatIsToldModel", "fault", "I", false)
  | 27 => ("SolesByWhatIsToldModel", "toldWeight", "I", false)
  | 28 => ("SolesByWhatIsToldModel", "untoldWeight", "I", false)
  | 29 => ("SolesByWhatIsToldModel", "step", "I", false)
  | 30 => ("SolesByWhatIsToldModel", "worn", "I", false)
  | 31 => ("SolesByWhatIsToldModel", "today", "I", false)
  | 32 => ("SolesByWhatIsToldModel", "firstSocks", "I", false)
  | 33 => ("SolesByWhatIsToldModel", "firstStay", "I", false)
  | 34 => ("SolesByWhatIsToldModel", "found", "I", false)
  | 35 => ("SolesByWhatIsToldModel", "value", "I", false)
  | 36 => ("SolesByWhatIsToldModel", "heavyWas", "[I", true)
  | 37 => ("SolesByWhatIsToldModel", "heavyKept", "[I", true)
  | 38 => ("SolesByWhatIsToldModel", "rowsKept", "[I", true)
  | 39 => ("SolesByWhatIsToldModel", "manyKept", "I", false)
  | 40 => ("SolesByWhatIsToldModel", "dayKept", "I", false)
  | 41 => ("SolesByWhatIsToldModel", "ruleKept", "I", false)
  | 42 => ("SolesByWhatIsToldModel", "isThere", "[Z", true)
  | 43 => ("SolesByWhatIsToldModel", "sorts", "[I", true)
  | 44 => ("SolesByWhatIsToldModel", "sheetSize", "[I", true)
  | _ => ("SolesByWhatIsToldModel", "items", "[I", true)
def tyX7 : Nat → FieldType := fun k => match k with
  | 0 => .int
  | 1 => .array .int
  | 2 => .array .int
  | 3 => .int
  | 4 => .int
  | 5 => .array .int
  | 6 => .int
  | 7 => .int
  | 8 => .array .int
  | 9 => .array .int
  | 10 => .array .int
  | 11 => .int
  | 12 => .int
  | 13 => .int
  | 14 => .int
  | 15 => .int
  | 16 => .int
  | 17 => .int
  | 18 => .int
  | 19 => .int
  | 20 => .int
  | 21 => .int
  | 22 => .int
  | 23 => .long
  | 24 => .int
  | 25 => .boolean
  | 26 => .int
  | 27 => .int
  | 28 => .int
  | 29 => .int
  | 30 => .int
  | 31 => .int
  | 32 => .int
  | 33 => .int
  | 34 => .int
  | 35 => .int
  | 36 => .array .int
  | 37 => .array .int
  | 38 => .array .int
  | 39 => .int
  | 40 => .int
  | 41 => .int
  | 42 => .array .boolean
  | 43 => .array .int
  | 44 => .array .int
  | _ => .array .int
abbrev wsX70 : List Cond := u_ws RX7 TX7 46
theorem nmX7 : ∀ a, a < 46 → ∀ b, b < 46 → a ≠ b → (TX7 a).2.1 ≠ (TX7 b).2.1 := by decide +kernel
theorem tyX7_ok : ∀ k, k < 46 → parseFieldDescriptor (TX7 k).2.2.1 = some (tyX7 k) := by decide +kernel
abbrev cX7_in : ByteArray := prog_9_method_2_code
def yX7_in : MethodName := ⟨RX7, "in", "(JJJ)Z"⟩
abbrev cX7_within : ByteArray := prog_9_method_3_code
def yX7_within : MethodName := ⟨RX7, "within", "(III)I"⟩
abbrev cX7_init : ByteArray := prog_9_method_4_code
def yX7_init : MethodName := ⟨RX7, "<init>", "()V"⟩
abbrev cX7_spell : ByteArray := prog_9_method_5_code
def yX7_spell : MethodName := ⟨RX7, "spell", "(IIIIIIIII)V"⟩
abbrev cX7_isOne : ByteArray := prog_9_method_6_code
def yX7_isOne : MethodName := ⟨RX7, "isOne", "(I)Z"⟩
abbrev cX7_mostOf : ByteArray := prog_9_method_7_code
def yX7_mostOf : MethodName := ⟨RX7, "mostOf", "(I)I"⟩
abbrev cX7_isOf : ByteArray := prog_9_method_8_code
def yX7_isOf : MethodName := ⟨RX7, "isOf", "(II)Z"⟩
abbrev cX7_set : ByteArray := prog_9_method_9_code
def yX7_set : MethodName := ⟨RX7, "set", "(III)I"⟩
abbrev cX7_lays : ByteArray := prog_9_method_10_code
def yX7_lays : MethodName := ⟨RX7, "lays", "(III)V"⟩
abbrev cX7_walker : ByteArray := prog_9_method_11_code
def yX7_walker : MethodName := ⟨RX7, "walker", "(III)I"⟩
abbrev cX7_told : ByteArray := prog_9_method_12_code
def yX7_told : MethodName := ⟨RX7, "told", "(II)I"⟩
abbrev cX7_feed : ByteArray := prog_9_method_13_code
def yX7_feed : MethodName := ⟨RX7, "feed", "(I)I"⟩
abbrev cX7_byteAt : ByteArray := prog_9_method_14_code
def yX7_byteAt : MethodName := ⟨RX7, "byteAt", "(I)I"⟩
abbrev cX7_next : ByteArray := prog_9_method_15_code
def yX7_next : MethodName := ⟨RX7, "next", "()V"⟩
abbrev cX7_fail : ByteArray := prog_9_method_16_code
def yX7_fail : MethodName := ⟨RX7, "fail", "()V"⟩
abbrev cX7_isLetter : ByteArray := prog_9_method_17_code
def yX7_isLetter : MethodName := ⟨RX7, "isLetter", "(II)Z"⟩
abbrev cX7_isWord : ByteArray := prog_9_method_18_code
def yX7_isWord : MethodName := ⟨RX7, "isWord", "(IIIIIIII)Z"⟩
abbrev cX7_isSign : ByteArray := prog_9_method_19_code
def yX7_isSign : MethodName := ⟨RX7, "isSign", "(I)Z"⟩
abbrev cX7_opens : ByteArray := prog_9_method_20_code
def yX7_opens : MethodName := ⟨RX7, "opens", "()Z"⟩
abbrev cX7_name : ByteArray := prog_9_method_21_code
def yX7_name : MethodName := ⟨RX7, "name", "()I"⟩
abbrev cX7_atom5 : ByteArray := prog_9_method_22_code
def yX7_atom5 : MethodName := ⟨RX7, "atom5", "()I"⟩
abbrev cX7_term5 : ByteArray := prog_9_method_23_code
def yX7_term5 : MethodName := ⟨RX7, "term5", "()I"⟩
abbrev cX7_added5 : ByteArray := prog_9_method_24_code
def yX7_added5 : MethodName := ⟨RX7, "added5", "()I"⟩
abbrev cX7_not5 : ByteArray := prog_9_method_25_code
def yX7_not5 : MethodName := ⟨RX7, "not5", "()I"⟩
abbrev cX7_both5 : ByteArray := prog_9_method_26_code
def yX7_both5 : MethodName := ⟨RX7, "both5", "()I"⟩
abbrev cX7_either5 : ByteArray := prog_9_method_27_code
def yX7_either5 : MethodName := ⟨RX7, "either5", "()I"⟩
abbrev cX7_atom4 : ByteArray := prog_9_method_28_code
def yX7_atom4 : MethodName := ⟨RX7, "atom4", "()I"⟩
abbrev cX7_term4 : ByteArray := prog_9_method_29_code
def yX7_term4 : MethodName := ⟨RX7, "term4", "()I"⟩
abbrev cX7_added4 : ByteArray := prog_9_method_30_code
def yX7_added4 : MethodName := ⟨RX7, "added4", "()I"⟩
abbrev cX7_not4 : ByteArray := prog_9_method_31_code
def yX7_not4 : MethodName := ⟨RX7, "not4", "()I"⟩
abbrev cX7_both4 : ByteArray := prog_9_method_32_code
def yX7_both4 : MethodName := ⟨RX7, "both4", "()I"⟩
abbrev cX7_either4 : ByteArray := prog_9_method_33_code
def yX7_either4 : MethodName := ⟨RX7, "either4", "()I"⟩
abbrev cX7_atom3 : ByteArray := prog_9_method_34_code
def yX7_atom3 : MethodName := ⟨RX7, "atom3", "()I"⟩
abbrev cX7_term3 : ByteArray := prog_9_method_35_code
def yX7_term3 : MethodName := ⟨RX7, "term3", "()I"⟩
abbrev cX7_added3 : ByteArray := prog_9_method_36_code
def yX7_added3 : MethodName := ⟨RX7, "added3", "()I"⟩
abbrev cX7_not3 : ByteArray := prog_9_method_37_code
def yX7_not3 : MethodName := ⟨RX7, "not3", "()I"⟩
abbrev cX7_both3 : ByteArray := prog_9_method_38_code
def yX7_both3 : MethodName := ⟨RX7, "both3", "()I"⟩
abbrev cX7_either3 : ByteArray := prog_9_method_39_code
def yX7_either3 : MethodName := ⟨RX7, "either3", "()I"⟩
abbrev cX7_atom2 : ByteArray := prog_9_method_40_code
def yX7_atom2 : MethodName := ⟨RX7, "atom2", "()I"⟩
abbrev cX7_term2 : ByteArray := prog_9_method_41_code
def yX7_term2 : MethodName := ⟨RX7, "term2", "()I"⟩
abbrev cX7_added2 : ByteArray := prog_9_method_42_code
def yX7_added2 : MethodName := ⟨RX7, "added2", "()I"⟩
abbrev cX7_not2 : ByteArray := prog_9_method_43_code
def yX7_not2 : MethodName := ⟨RX7, "not2", "()I"⟩
abbrev cX7_both2 : ByteArray := prog_9_method_44_code
def yX7_both2 : MethodName := ⟨RX7, "both2", "()I"⟩
abbrev cX7_either2 : ByteArray := prog_9_method_45_code
def yX7_either2 : MethodName := ⟨RX7, "either2", "()I"⟩
abbrev cX7_atom1 : ByteArray := prog_9_method_46_code
def yX7_atom1 : MethodName := ⟨RX7, "atom1", "()I"⟩
abbrev cX7_term1 : ByteArray := prog_9_method_47_code
def yX7_term1 : MethodName := ⟨RX7, "term1", "()I"⟩
abbrev cX7_added1 : ByteArray := prog_9_method_48_code
def yX7_added1 : MethodName := ⟨RX7, "added1", "()I"⟩
abbrev cX7_not1 : ByteArray := prog_9_method_49_code
def yX7_not1 : MethodName := ⟨RX7, "not1", "()I"⟩
abbrev cX7_both1 : ByteArray := prog_9_method_50_code
def yX7_both1 : MethodName := ⟨RX7, "both1", "()I"⟩
abbrev cX7_either1 : ByteArray := prog_9_method_51_code
def yX7_either1 : MethodName := ⟨RX7, "either1", "()I"⟩
abbrev cX7_atom0 : ByteArray := prog_9_method_52_code
def yX7_atom0 : MethodName := ⟨RX7, "atom0", "()I"⟩
abbrev cX7_term0 : ByteArray := prog_9_method_53_code
def yX7_term0 : MethodName := ⟨RX7, "term0", "()I"⟩
abbrev cX7_added0 : ByteArray := prog_9_method_54_code
def yX7_added0 : MethodName := ⟨RX7, "added0", "()I"⟩
abbrev cX7_not0 : ByteArray := prog_9_method_55_code
def yX7_not0 : MethodName := ⟨RX7, "not0", "()I"⟩
abbrev cX7_both0 : ByteArray := prog_9_method_56_code
def yX7_both0 : MethodName := ⟨RX7, "both0", "()I"⟩
abbrev cX7_either0 : ByteArray := prog_9_method_57_code
def yX7_either0 : MethodName := ⟨RX7, "either0", "()I"⟩
abbrev cX7_part : ByteArray := prog_9_method_58_code
def yX7_part : MethodName := ⟨RX7, "part", "(Z)I"⟩
abbrev cX7_read : ByteArray := prog_9_method_59_code
def yX7_read : MethodName := ⟨RX7, "read", "(II)I"⟩
abbrev cX7_text : ByteArray := prog_9_method_60_code
def yX7_text : MethodName := ⟨RX7, "text", "()I"⟩
abbrev cX7_force : ByteArray := prog_9_method_61_code
def yX7_force : MethodName := ⟨RX7, "force", "(I)I"⟩
abbrev cX7_weightOf : ByteArray := prog_9_method_62_code
def yX7_weightOf : MethodName := ⟨RX7, "weightOf", "(I)I"⟩
abbrev cX7_begins : ByteArray := prog_9_method_63_code
def yX7_begins : MethodName := ⟨RX7, "begins", "(I)V"⟩
abbrev cX7_asks : ByteArray := prog_9_method_64_code
def yX7_asks : MethodName := ⟨RX7, "asks", "(II)I"⟩
abbrev cX7_lastsOf : ByteArray := prog_9_method_65_code
def yX7_lastsOf : MethodName := ⟨RX7, "lastsOf", "(I)I"⟩
abbrev cX7_paceOf : ByteArray := prog_9_method_66_code
def yX7_paceOf : MethodName := ⟨RX7, "paceOf", "(I)I"⟩
abbrev cX7_isStopped : ByteArray := prog_9_method_67_code
def yX7_isStopped : MethodName := ⟨RX7, "isStopped", "(I)Z"⟩
abbrev cX7_isInSocks : ByteArray := prog_9_method_68_code
def yX7_isInSocks : MethodName := ⟨RX7, "isInSocks", "(I)Z"⟩
abbrev cX7_goes : ByteArray := prog_9_method_69_code
def yX7_goes : MethodName := ⟨RX7, "goes", "(I)Z"⟩
abbrev cX7_lives : ByteArray := prog_9_method_70_code
def yX7_lives : MethodName := ⟨RX7, "lives", "(II)V"⟩
abbrev cX7_day : ByteArray := prog_9_method_71_code
def yX7_day : MethodName := ⟨RX7, "day", "()I"⟩
abbrev cX7_run : ByteArray := prog_9_method_72_code
def yX7_run : MethodName := ⟨RX7, "run", "(III)I"⟩
abbrev cX7_mend : ByteArray := prog_9_method_73_code
def yX7_mend : MethodName := ⟨RX7, "mend", "(I)I"⟩
abbrev cX7_stepBehind : ByteArray := prog_9_method_74_code
def yX7_stepBehind : MethodName := ⟨RX7, "stepBehind", "(II)I"⟩
abbrev cX7_allBehind : ByteArray := prog_9_method_75_code
def yX7_allBehind : MethodName := ⟨RX7, "allBehind", "(I)I"⟩
abbrev cX7_isLighter : ByteArray := prog_9_method_76_code
def yX7_isLighter : MethodName := ⟨RX7, "isLighter", "(I)Z"⟩
abbrev cX7_far : ByteArray := prog_9_method_77_code
def yX7_far : MethodName := ⟨RX7, "far", "(III)I"⟩
abbrev cX7_least : ByteArray := prog_9_method_78_code
def yX7_least : MethodName := ⟨RX7, "least", "(III)I"⟩
abbrev cX7_heaviest : ByteArray := prog_9_method_79_code
def yX7_heaviest : MethodName := ⟨RX7, "heaviest", "(III)I"⟩
abbrev cX7_daysTill : ByteArray := prog_9_method_80_code
def yX7_daysTill : MethodName := ⟨RX7, "daysTill", "(II)I"⟩
abbrev cX7_away : ByteArray := prog_9_method_81_code
def yX7_away : MethodName := ⟨RX7, "away", "(II)I"⟩
abbrev cX7_keeper : ByteArray := prog_9_method_82_code
def yX7_keeper : MethodName := ⟨RX7, "keeper", "(II)I"⟩
abbrev cX7_spare : ByteArray := prog_9_method_83_code
def yX7_spare : MethodName := ⟨RX7, "spare", "(II)I"⟩
abbrev cX7_firstOther : ByteArray := prog_9_method_84_code
def yX7_firstOther : MethodName := ⟨RX7, "firstOther", "(II)I"⟩
abbrev cX7_tells : ByteArray := prog_9_method_85_code
def yX7_tells : MethodName := ⟨RX7, "tells", "(III)I"⟩
abbrev cX7_film : ByteArray := prog_9_method_86_code
def yX7_film : MethodName := ⟨RX7, "film", "(III)I"⟩
abbrev cX7_draws : ByteArray := prog_9_method_87_code
def yX7_draws : MethodName := ⟨RX7, "draws", "(I)V"⟩
abbrev cX7_laysBack : ByteArray := prog_9_method_88_code
def yX7_laysBack : MethodName := ⟨RX7, "laysBack", "()V"⟩
abbrev cX7_drawn : ByteArray := prog_9_method_89_code
def yX7_drawn : MethodName := ⟨RX7, "drawn", "(II)I"⟩
abbrev cX7_chance : ByteArray := prog_9_method_90_code
def yX7_chance : MethodName := ⟨RX7, "chance", "(III)J"⟩
abbrev cX7_image : ByteArray := prog_9_method_91_code
def yX7_image : MethodName := ⟨RX7, "image", "()I"⟩
abbrev cX7_back : ByteArray := prog_9_method_92_code
def yX7_back : MethodName := ⟨RX7, "back", "()I"⟩
abbrev cX7_count : ByteArray := prog_9_method_93_code
def yX7_count : MethodName := ⟨RX7, "count", "(I)I"⟩
abbrev cX7_isSheet : ByteArray := prog_9_method_94_code
def yX7_isSheet : MethodName := ⟨RX7, "isSheet", "(I)Z"⟩
abbrev cX7_sheet : ByteArray := prog_9_method_95_code
def yX7_sheet : MethodName := ⟨RX7, "sheet", "(III)I"⟩
abbrev cX7_cell : ByteArray := prog_9_method_96_code
def yX7_cell : MethodName := ⟨RX7, "cell", "(III)I"⟩
abbrev cX7_copy : ByteArray := prog_9_method_97_code
def yX7_copy : MethodName := ⟨RX7, "copy", "(IIIII)I"⟩
abbrev cX7_walkers : ByteArray := prog_9_method_98_code
def yX7_walkers : MethodName := ⟨RX7, "walkers", "(IIII)I"⟩
abbrev cX7_over : ByteArray := prog_9_method_99_code
def yX7_over : MethodName := ⟨RX7, "over", "(I)I"⟩
abbrev cX7_taken : ByteArray := prog_9_method_100_code
def yX7_taken : MethodName := ⟨RX7, "taken", "(II)I"⟩
def RJ9 : String := "java/lang/Math"
def TJ9 : u_T := fun k => match k with
  | _ => ("", "", "", false)
def tyJ9 : Nat → FieldType := fun k => match k with
  | _ => .int
theorem nmJ9 : ∀ a, a < 0 → ∀ b, b < 0 → a ≠ b → (TJ9 a).2.1 ≠ (TJ9 b).2.1 := by decide +kernel
theorem tyJ9_ok : ∀ k, k < 0 → parseFieldDescriptor (TJ9 k).2.2.1 = some (tyJ9 k) := by decide +kernel
abbrev cJ9_max_7cf53 : ByteArray := prog_10_method_65_code
def yJ9_max_7cf53 : MethodName := ⟨RJ9, "max", "(II)I"⟩
abbrev cJ9_min_7cf53 : ByteArray := prog_10_method_69_code
def yJ9_min_7cf53 : MethodName := ⟨RJ9, "min", "(II)I"⟩
def RJ0 : String := "java/lang/String"
def TJ0 : u_T := fun k => match k with
  | _ => ("", "", "", false)
def tyJ0 : Nat → FieldType := fun k => match k with
  | _ => .int
theorem nmJ0 : ∀ a, a < 0 → ∀ b, b < 0 → a ≠ b → (TJ0 a).2.1 ≠ (TJ0 b).2.1 := by decide +kernel
theorem tyJ0_ok : ∀ k, k < 0 → parseFieldDescriptor (TJ0 k).2.2.1 = some (tyJ0 k) := by decide +kernel
abbrev cJ0_length_8abf5 : ByteArray := prog_11_method_54_code
def yJ0_length_8abf5 : MethodName := ⟨RJ0, "length", "()I"⟩
abbrev cJ0_charAt_5068e : ByteArray := prog_11_method_56_code
def yJ0_charAt_5068e : MethodName := ⟨RJ0, "charAt", "(I)C"⟩
abbrev cJ0_coder_7d493 : ByteArray := prog_11_method_152_code
def yJ0_coder_7d493 : MethodName := ⟨RJ0, "coder", "()B"⟩
abbrev cJ0_isLatin1_aae02 : ByteArray := prog_11_method_154_code
def yJ0_isLatin1_aae02 : MethodName := ⟨RJ0, "isLatin1", "()Z"⟩
abbrev cJ0_checkIndex_df160 : ByteArray := prog_11_method_155_code
def yJ0_checkIndex_df160 : MethodName := ⟨RJ0, "checkIndex", "(II)V"⟩
def RJ1 : String := "java/lang/StringLatin1"
def TJ1 : u_T := fun k => match k with
  | _ => ("", "", "", false)
def tyJ1 : Nat → FieldType := fun k => match k with
  | _ => .int
theorem nmJ1 : ∀ a, a < 0 → ∀ b, b < 0 → a ≠ b → (TJ1 a).2.1 ≠ (TJ1 b).2.1 := by decide +kernel
theorem tyJ1_ok : ∀ k, k < 0 → parseFieldDescriptor (TJ1 k).2.2.1 = some (tyJ1 k) := by decide +kernel
abbrev cJ1_charAt_3b067 : ByteArray := prog_12_method_2_code
def yJ1_charAt_3b067 : MethodName := ⟨RJ1, "charAt", "([BI)C"⟩
def RJ2 : String := "java/lang/StringUTF16"
def TJ2 : u_T := fun k => match k with
  | _ => ("", "", "", false)
def tyJ2 : Nat → FieldType := fun k => match k with
  | _ => .int
theorem nmJ2 : ∀ a, a < 0 → ∀ b, b < 0 → a ≠ b → (TJ2 a).2.1 ≠ (TJ2 b).2.1 := by decide +kernel
theorem tyJ2_ok : ∀ k, k < 0 → parseFieldDescriptor (TJ2 k).2.2.1 = some (tyJ2 k) := by decide +kernel
abbrev cJ2_getChar_3b067 : ByteArray := prog_13_method_5_code
def yJ2_getChar_3b067 : MethodName := ⟨RJ2, "getChar", "([BI)C"⟩
abbrev cJ2_length_9d52b : ByteArray := prog_13_method_6_code
def yJ2_length_9d52b : MethodName := ⟨RJ2, "length", "([B)I"⟩
abbrev cJ2_charAt_3b067 : ByteArray := prog_13_method_83_code
def yJ2_charAt_3b067 : MethodName := ⟨RJ2, "charAt", "([BI)C"⟩
abbrev cJ2_checkIndex_2214a : ByteArray := prog_13_method_91_code
def yJ2_checkIndex_2214a : MethodName := ⟨RJ2, "checkIndex", "(I[B)V"⟩
def RJ10 : String := "java/lang/System"
def TJ10 : u_T := fun k => match k with
  | _ => ("", "", "", false)
def tyJ10 : Nat → FieldType := fun k => match k with
  | _ => .int
theorem nmJ10 : ∀ a, a < 0 → ∀ b, b < 0 → a ≠ b → (TJ10 a).2.1 ≠ (TJ10 b).2.1 := by decide +kernel
theorem tyJ10_ok : ∀ k, k < 0 → parseFieldDescriptor (TJ10 k).2.2.1 = some (tyJ10 k) := by decide +kernel
def RJ7 : String := "java/util/Arrays"
def TJ7 : u_T := fun k => match k with
  | _ => ("", "", "", false)
def tyJ7 : Nat → FieldType := fun k => match k with
  | _ => .int
theorem nmJ7 : ∀ a, a < 0 → ∀ b, b < 0 → a ≠ b → (TJ7 a).2.1 ≠ (TJ7 b).2.1 := by decide +kernel
theorem tyJ7_ok : ∀ k, k < 0 → parseFieldDescriptor (TJ7 k).2.2.1 = some (tyJ7 k) := by decide +kernel
abbrev cJ7_fill_53178 : ByteArray := prog_15_method_103_code
def yJ7_fill_53178 : MethodName := ⟨RJ7, "fill", "([II)V"⟩
def RJ3 : String := "jdk/internal/util/Preconditions"
def TJ3 : u_T := fun k => match k with
  | _ => ("", "", "", false)
def tyJ3 : Nat → FieldType := fun k => match k with
  | _ => .int
theorem nmJ3 : ∀ a, a < 0 → ∀ b, b < 0 → a ≠ b → (TJ3 a).2.1 ≠ (TJ3 b).2.1 := by decide +kernel
theorem tyJ3_ok : ∀ k, k < 0 → parseFieldDescriptor (TJ3 k).2.2.1 = some (tyJ3 k) := by decide +kernel
abbrev cJ3_checkIndex_8e157 : ByteArray := prog_16_method_11_code
def yJ3_checkIndex_8e157 : MethodName := ⟨RJ3, "checkIndex", "(IILjava/util/function/BiFunction;)I"⟩
def RL : String := "SolesByWhatIsToldLaw"
abbrev cL_law : ByteArray := code
def yL_law : MethodName := ⟨RL, "law", "([I)Z"⟩
abbrev vwCl : List vw_C := [(RX0, TX0, 6), (RX1, TX1, 9), (RX2, TX2, 3), (RX3, TX3, 4), (RX4, TX4, 9), (RX5, TX5, 6), (RX6, TX6, 13), (RX7, TX7, 46)]
/-- the words that every method is given: all good ones of the tables -/
def lw_U : List Cond := lw_tbl.filter goodWord
theorem lw_inU {w : Cond} (h : w ∈ lw_tbl) (hg : goodWord w = true) : w ∈ lw_U := List.mem_filter.mpr ⟨h, hg⟩
theorem lw_in1 (i : Nat) {w : Cond} (h : tables_1_1[i]? = some w) (hg : goodWord w = true) : w ∈ lw_U := lw_inU (List.mem_append_right _ (List.mem_append_left _ (List.mem_of_getElem? h))) hg
theorem lw_in2 (i : Nat) {w : Cond} (h : tables_1_2[i]? = some w) (hg : goodWord w = true) : w ∈ lw_U := lw_inU (List.mem_append_right _ (List.mem_append_right _ (List.mem_append_left _ (List.mem_of_getElem? h)))) hg
theorem lw_in3 (i : Nat) {w : Cond} (h : tables_1_3[i]? = some w) (hg : goodWord w = true) : w ∈ lw_U := lw_inU (List.mem_append_right _ (List.mem_append_right _ (List.mem_append_right _ (List.mem_append_left _ (List.mem_of_getElem? h))))) hg
theorem lw_in4 (i : Nat) {w : Cond} (h : tables_1_4[i]? = some w) (hg : goodWord w = true) : w ∈ lw_U := lw_inU (List.mem_append_right _ (List.mem_append_right _ (List.mem_append_right _ (List.mem_append_right _ (List.mem_append_left _ (List.mem_of_getElem? h)))))) hg
theorem lw_in5 (i : Nat) {w : Cond} (h : tables_1_5[i]? = some w) (hg : goodWord w = true) : w ∈ lw_U := lw_inU (List.mem_append_right _ (List.mem_append_right _ (List.mem_append_right _ (List.mem_append_right _ (List.mem_append_right _ (List.mem_append_left _ (List.mem_of_getElem? h))))))) hg
theorem lw_in6 (i : Nat) {w : Cond} (h : tables_1_6[i]? = some w) (hg : goodWord w = true) : w ∈ lw_U := lw_inU (List.mem_append_right _ (List.mem_append_right _ (List.mem_append_right _ (List.mem_append_right _ (List.mem_append_right _ (List.mem_append_right _ (List.mem_of_getElem? h))))))) hg
theorem lw_sel (i : Nat) {w : Cond} (h : (k2_sels lw_privs)[i]? = some w) (hg : goodWord w = true) : w ∈ lw_U := lw_inU (List.mem_append_left _ (List.mem_of_getElem? h)) hg
theorem lw_Ugood : ∀ w ∈ lw_U, w ∈ lw_tbl ∧ ((w.onTables && w.keeps) = true ∨ ∃ ty, w = .arrayClass ty) := fun w h => ⟨(List.mem_filter.mp h).1, good_of_word (List.mem_filter.mp h).2⟩
theorem lw_goodIn : GoodIn lw_U lw_U := fun w h => ⟨h, good_of_word (List.mem_filter.mp h).2⟩
