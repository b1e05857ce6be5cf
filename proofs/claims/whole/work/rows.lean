section
-- ===== PART A: goes FIRST, ahead of the names: the tables' words, and 'selects' of the private methods out of them =====
/-- a private method of a class that the tables say can be made, by its rows of tables_1 -/
def lw_okq (q : MethodName × Nat) : Prop := (q.1.cls ≠ "java/lang/invoke/MethodHandle" ∧ q.1.cls ≠ "java/lang/invoke/VarHandle") ∧ Cond.instantiable q.1.cls q.2 ∈ tables_1 ∧ Cond.privateMethod q.1 ∈ tables_1 ∧ Cond.instanceMethod q.1 ∈ tables_1
theorem lw_p0 : lw_okq (⟨"SolesByWhatIsTold$Reader", "take", "()V"⟩, 9) := ⟨⟨by decide +kernel, by decide +kernel⟩, List.mem_of_getElem? (i := 29) (by decide +kernel), List.mem_of_getElem? (i := 237) (by decide +kernel), List.mem_of_getElem? (i := 238) (by decide +kernel)⟩
theorem lw_p1 : lw_okq (⟨"SolesByWhatIsTold$Reader", "takeWord", "()V"⟩, 9) := ⟨⟨by decide +kernel, by decide +kernel⟩, List.mem_of_getElem? (i := 29) (by decide +kernel), List.mem_of_getElem? (i := 247) (by decide +kernel), List.mem_of_getElem? (i := 248) (by decide +kernel)⟩
theorem lw_p2 : lw_okq (⟨"SolesByWhatIsTold$Reader", "spells", "(Ljava/lang/String;)Z"⟩, 9) := ⟨⟨by decide +kernel, by decide +kernel⟩, List.mem_of_getElem? (i := 29) (by decide +kernel), List.mem_of_getElem? (i := 252) (by decide +kernel), List.mem_of_getElem? (i := 253) (by decide +kernel)⟩
theorem lw_p3 : lw_okq (⟨"SolesByWhatIsTold$Reader", "takeAmount", "()V"⟩, 9) := ⟨⟨by decide +kernel, by decide +kernel⟩, List.mem_of_getElem? (i := 29) (by decide +kernel), List.mem_of_getElem? (i := 272) (by decide +kernel), List.mem_of_getElem? (i := 273) (by decide +kernel)⟩
theorem lw_p4 : lw_okq (⟨"SolesByWhatIsTold$Reader", "expect", "(I)V"⟩, 9) := ⟨⟨by decide +kernel, by decide +kernel⟩, List.mem_of_getElem? (i := 29) (by decide +kernel), List.mem_of_getElem? (i := 279) (by decide +kernel), List.mem_of_getElem? (i := 280) (by decide +kernel)⟩
theorem lw_p5 : lw_okq (⟨"SolesByWhatIsTold$Reader", "fail", "()V"⟩, 9) := ⟨⟨by decide +kernel, by decide +kernel⟩, List.mem_of_getElem? (i := 29) (by decide +kernel), List.mem_of_getElem? (i := 283) (by decide +kernel), List.mem_of_getElem? (i := 284) (by decide +kernel)⟩
theorem lw_p6 : lw_okq (⟨"SolesByWhatIsTold$Reader", "readEither", "()V"⟩, 9) := ⟨⟨by decide +kernel, by decide +kernel⟩, List.mem_of_getElem? (i := 29) (by decide +kernel), List.mem_of_getElem? (i := 287) (by decide +kernel), List.mem_of_getElem? (i := 288) (by decide +kernel)⟩
theorem lw_p7 : lw_okq (⟨"SolesByWhatIsTold$Reader", "readBoth", "()V"⟩, 9) := ⟨⟨by decide +kernel, by decide +kernel⟩, List.mem_of_getElem? (i := 29) (by decide +kernel), List.mem_of_getElem? (i := 291) (by decide +kernel), List.mem_of_getElem? (i := 292) (by decide +kernel)⟩
theorem lw_p8 : lw_okq (⟨"SolesByWhatIsTold$Reader", "readNot", "()V"⟩, 9) := ⟨⟨by decide +kernel, by decide +kernel⟩, List.mem_of_getElem? (i := 29) (by decide +kernel), List.mem_of_getElem? (i := 295) (by decide +kernel), List.mem_of_getElem? (i := 296) (by decide +kernel)⟩
theorem lw_p9 : lw_okq (⟨"SolesByWhatIsTold$Reader", "takeOpening", "()Z"⟩, 9) := ⟨⟨by decide +kernel, by decide +kernel⟩, List.mem_of_getElem? (i := 29) (by decide +kernel), List.mem_of_getElem? (i := 299) (by decide +kernel), List.mem_of_getElem? (i := 300) (by decide +kernel)⟩
theorem lw_p10 : lw_okq (⟨"SolesByWhatIsTold$Reader", "readSum", "()V"⟩, 9) := ⟨⟨by decide +kernel, by decide +kernel⟩, List.mem_of_getElem? (i := 29) (by decide +kernel), List.mem_of_getElem? (i := 307) (by decide +kernel), List.mem_of_getElem? (i := 308) (by decide +kernel)⟩
theorem lw_p11 : lw_okq (⟨"SolesByWhatIsTold$Reader", "readTerm", "()V"⟩, 9) := ⟨⟨by decide +kernel, by decide +kernel⟩, List.mem_of_getElem? (i := 29) (by decide +kernel), List.mem_of_getElem? (i := 311) (by decide +kernel), List.mem_of_getElem? (i := 312) (by decide +kernel)⟩
theorem lw_p12 : lw_okq (⟨"SolesByWhatIsTold$Reader", "readOne", "()V"⟩, 9) := ⟨⟨by decide +kernel, by decide +kernel⟩, List.mem_of_getElem? (i := 29) (by decide +kernel), List.mem_of_getElem? (i := 315) (by decide +kernel), List.mem_of_getElem? (i := 316) (by decide +kernel)⟩
theorem lw_p13 : lw_okq (⟨"SolesByWhatIsTold", "names", "(II)Z"⟩, 13) := ⟨⟨by decide +kernel, by decide +kernel⟩, List.mem_of_getElem? (i := 17) (by decide +kernel), List.mem_of_getElem? (i := 415) (by decide +kernel), List.mem_of_getElem? (i := 416) (by decide +kernel)⟩
theorem lw_p14 : lw_okq (⟨"SolesByWhatIsTold", "walkerAt", "(I)LSolesByWhatIsTold$Walker;"⟩, 13) := ⟨⟨by decide +kernel, by decide +kernel⟩, List.mem_of_getElem? (i := 17) (by decide +kernel), List.mem_of_getElem? (i := 422) (by decide +kernel), List.mem_of_getElem? (i := 423) (by decide +kernel)⟩
theorem lw_p15 : lw_okq (⟨"SolesByWhatIsTold", "valueOf", "(II)I"⟩, 13) := ⟨⟨by decide +kernel, by decide +kernel⟩, List.mem_of_getElem? (i := 17) (by decide +kernel), List.mem_of_getElem? (i := 429) (by decide +kernel), List.mem_of_getElem? (i := 430) (by decide +kernel)⟩
def lw_privs_1 : List (MethodName × Nat) := [(⟨"SolesByWhatIsTold$Reader", "take", "()V"⟩, 9), (⟨"SolesByWhatIsTold$Reader", "takeWord", "()V"⟩, 9), (⟨"SolesByWhatIsTold$Reader", "spells", "(Ljava/lang/String;)Z"⟩, 9), (⟨"SolesByWhatIsTold$Reader", "takeAmount", "()V"⟩, 9), (⟨"SolesByWhatIsTold$Reader", "expect", "(I)V"⟩, 9), (⟨"SolesByWhatIsTold$Reader", "fail", "()V"⟩, 9), (⟨"SolesByWhatIsTold$Reader", "readEither", "()V"⟩, 9), (⟨"SolesByWhatIsTold$Reader", "readBoth", "()V"⟩, 9), (⟨"SolesByWhatIsTold$Reader", "readNot", "()V"⟩, 9), (⟨"SolesByWhatIsTold$Reader", "takeOpening", "()Z"⟩, 9), (⟨"SolesByWhatIsTold$Reader", "readSum", "()V"⟩, 9), (⟨"SolesByWhatIsTold$Reader", "readTerm", "()V"⟩, 9), (⟨"SolesByWhatIsTold$Reader", "readOne", "()V"⟩, 9), (⟨"SolesByWhatIsTold", "names", "(II)Z"⟩, 13), (⟨"SolesByWhatIsTold", "walkerAt", "(I)LSolesByWhatIsTold$Walker;"⟩, 13), (⟨"SolesByWhatIsTold", "valueOf", "(II)I"⟩, 13)]
theorem lw_r1 : ∀ q ∈ lw_privs_1, lw_okq q := List.forall_mem_cons.mpr ⟨lw_p0, List.forall_mem_cons.mpr ⟨lw_p1, List.forall_mem_cons.mpr ⟨lw_p2, List.forall_mem_cons.mpr ⟨lw_p3, List.forall_mem_cons.mpr ⟨lw_p4, List.forall_mem_cons.mpr ⟨lw_p5, List.forall_mem_cons.mpr ⟨lw_p6, List.forall_mem_cons.mpr ⟨lw_p7, List.forall_mem_cons.mpr ⟨lw_p8, List.forall_mem_cons.mpr ⟨lw_p9, List.forall_mem_cons.mpr ⟨lw_p10, List.forall_mem_cons.mpr ⟨lw_p11, List.forall_mem_cons.mpr ⟨lw_p12, List.forall_mem_cons.mpr ⟨lw_p13, List.forall_mem_cons.mpr ⟨lw_p14, List.forall_mem_cons.mpr ⟨lw_p15, fun _ h => absurd h List.not_mem_nil⟩⟩⟩⟩⟩⟩⟩⟩⟩⟩⟩⟩⟩⟩⟩⟩
theorem lw_p16 : lw_okq (⟨"SolesByWhatIsTold", "keep", "(III)V"⟩, 13) := ⟨⟨by decide +kernel, by decide +kernel⟩, List.mem_of_getElem? (i := 17) (by decide +kernel), List.mem_of_getElem? (i := 433) (by decide +kernel), List.mem_of_getElem? (i := 434) (by decide +kernel)⟩
theorem lw_p17 : lw_okq (⟨"SolesByWhatIsTold", "think", "(LSolesByWhatIsTold$Walker;)V"⟩, 13) := ⟨⟨by decide +kernel, by decide +kernel⟩, List.mem_of_getElem? (i := 17) (by decide +kernel), List.mem_of_getElem? (i := 452) (by decide +kernel), List.mem_of_getElem? (i := 453) (by decide +kernel)⟩
theorem lw_p18 : lw_okq (⟨"SolesByWhatIsTold", "thinkTold", "(LSolesByWhatIsTold$Walker;I)V"⟩, 13) := ⟨⟨by decide +kernel, by decide +kernel⟩, List.mem_of_getElem? (i := 17) (by decide +kernel), List.mem_of_getElem? (i := 456) (by decide +kernel), List.mem_of_getElem? (i := 457) (by decide +kernel)⟩
theorem lw_p19 : lw_okq (⟨"SolesByWhatIsTold$Thought", "valueOfPart", "(I)I"⟩, 9) := ⟨⟨by decide +kernel, by decide +kernel⟩, List.mem_of_getElem? (i := 323) (by decide +kernel), List.mem_of_getElem? (i := 475) (by decide +kernel), List.mem_of_getElem? (i := 476) (by decide +kernel)⟩
theorem lw_p20 : lw_okq (⟨"SolesByWhatIsTold$Thought", "ofNone", "(I)I"⟩, 9) := ⟨⟨by decide +kernel, by decide +kernel⟩, List.mem_of_getElem? (i := 323) (by decide +kernel), List.mem_of_getElem? (i := 496) (by decide +kernel), List.mem_of_getElem? (i := 497) (by decide +kernel)⟩
theorem lw_p21 : lw_okq (⟨"SolesByWhatIsTold$Thought", "lastsByKind", "(I)I"⟩, 9) := ⟨⟨by decide +kernel, by decide +kernel⟩, List.mem_of_getElem? (i := 323) (by decide +kernel), List.mem_of_getElem? (i := 507) (by decide +kernel), List.mem_of_getElem? (i := 508) (by decide +kernel)⟩
theorem lw_p22 : lw_okq (⟨"SolesByWhatIsTold$Thought", "paceByKind", "(I)I"⟩, 9) := ⟨⟨by decide +kernel, by decide +kernel⟩, List.mem_of_getElem? (i := 323) (by decide +kernel), List.mem_of_getElem? (i := 515) (by decide +kernel), List.mem_of_getElem? (i := 516) (by decide +kernel)⟩
theorem lw_p23 : lw_okq (⟨"SolesByWhatIsTold", "forgetSteps", "()V"⟩, 13) := ⟨⟨by decide +kernel, by decide +kernel⟩, List.mem_of_getElem? (i := 17) (by decide +kernel), List.mem_of_getElem? (i := 584) (by decide +kernel), List.mem_of_getElem? (i := 585) (by decide +kernel)⟩
theorem lw_p24 : lw_okq (⟨"SolesByWhatIsTold", "stepIfTold", "(LSolesByWhatIsTold$Walker;II)I"⟩, 13) := ⟨⟨by decide +kernel, by decide +kernel⟩, List.mem_of_getElem? (i := 17) (by decide +kernel), List.mem_of_getElem? (i := 591) (by decide +kernel), List.mem_of_getElem? (i := 592) (by decide +kernel)⟩
theorem lw_p25 : lw_okq (⟨"SolesByWhatIsTold", "weighAsNow", "()V"⟩, 13) := ⟨⟨by decide +kernel, by decide +kernel⟩, List.mem_of_getElem? (i := 17) (by decide +kernel), List.mem_of_getElem? (i := 603) (by decide +kernel), List.mem_of_getElem? (i := 604) (by decide +kernel)⟩
theorem lw_p26 : lw_okq (⟨"SolesByWhatIsTold", "thinkOtherwise", "(LSolesByWhatIsTold$Walker;)V"⟩, 13) := ⟨⟨by decide +kernel, by decide +kernel⟩, List.mem_of_getElem? (i := 17) (by decide +kernel), List.mem_of_getElem? (i := 610) (by decide +kernel), List.mem_of_getElem? (i := 611) (by decide +kernel)⟩
theorem lw_p27 : lw_okq (⟨"SolesByWhatIsTold", "stepsOfAll", "(I)I"⟩, 13) := ⟨⟨by decide +kernel, by decide +kernel⟩, List.mem_of_getElem? (i := 17) (by decide +kernel), List.mem_of_getElem? (i := 626) (by decide +kernel), List.mem_of_getElem? (i := 627) (by decide +kernel)⟩
theorem lw_p28 : lw_okq (⟨"SolesByWhatIsTold", "sheetAt", "(I)LSolesByWhatIsTold$Sheet;"⟩, 13) := ⟨⟨by decide +kernel, by decide +kernel⟩, List.mem_of_getElem? (i := 17) (by decide +kernel), List.mem_of_getElem? (i := 639) (by decide +kernel), List.mem_of_getElem? (i := 640) (by decide +kernel)⟩
theorem lw_p29 : lw_okq (⟨"SolesByWhatIsTold", "kindsBy", "(LSolesByWhatIsTold$Sheet;LSolesByWhatIsTold$Walker;)I"⟩, 13) := ⟨⟨by decide +kernel, by decide +kernel⟩, List.mem_of_getElem? (i := 17) (by decide +kernel), List.mem_of_getElem? (i := 651) (by decide +kernel), List.mem_of_getElem? (i := 652) (by decide +kernel)⟩
theorem lw_p30 : lw_okq (⟨"SolesByWhatIsTold", "numbersBy", "(LSolesByWhatIsTold$Sheet;LSolesByWhatIsTold$Walker;)I"⟩, 13) := ⟨⟨by decide +kernel, by decide +kernel⟩, List.mem_of_getElem? (i := 17) (by decide +kernel), List.mem_of_getElem? (i := 655) (by decide +kernel), List.mem_of_getElem? (i := 656) (by decide +kernel)⟩
theorem lw_p31 : lw_okq (⟨"SolesByWhatIsTold", "setsBy", "(LSolesByWhatIsTold$Sheet;LSolesByWhatIsTold$Walker;Z)I"⟩, 13) := ⟨⟨by decide +kernel, by decide +kernel⟩, List.mem_of_getElem? (i := 17) (by decide +kernel), List.mem_of_getElem? (i := 659) (by decide +kernel), List.mem_of_getElem? (i := 660) (by decide +kernel)⟩
def lw_privs_2 : List (MethodName × Nat) := [(⟨"SolesByWhatIsTold", "keep", "(III)V"⟩, 13), (⟨"SolesByWhatIsTold", "think", "(LSolesByWhatIsTold$Walker;)V"⟩, 13), (⟨"SolesByWhatIsTold", "thinkTold", "(LSolesByWhatIsTold$Walker;I)V"⟩, 13), (⟨"SolesByWhatIsTold$Thought", "valueOfPart", "(I)I"⟩, 9), (⟨"SolesByWhatIsTold$Thought", "ofNone", "(I)I"⟩, 9), (⟨"SolesByWhatIsTold$Thought", "lastsByKind", "(I)I"⟩, 9), (⟨"SolesByWhatIsTold$Thought", "paceByKind", "(I)I"⟩, 9), (⟨"SolesByWhatIsTold", "forgetSteps", "()V"⟩, 13), (⟨"SolesByWhatIsTold", "stepIfTold", "(LSolesByWhatIsTold$Walker;II)I"⟩, 13), (⟨"SolesByWhatIsTold", "weighAsNow", "()V"⟩, 13), (⟨"SolesByWhatIsTold", "thinkOtherwise", "(LSolesByWhatIsTold$Walker;)V"⟩, 13), (⟨"SolesByWhatIsTold", "stepsOfAll", "(I)I"⟩, 13), (⟨"SolesByWhatIsTold", "sheetAt", "(I)LSolesByWhatIsTold$Sheet;"⟩, 13), (⟨"SolesByWhatIsTold", "kindsBy", "(LSolesByWhatIsTold$Sheet;LSolesByWhatIsTold$Walker;)I"⟩, 13), (⟨"SolesByWhatIsTold", "numbersBy", "(LSolesByWhatIsTold$Sheet;LSolesByWhatIsTold$Walker;)I"⟩, 13), (⟨"SolesByWhatIsTold", "setsBy", "(LSolesByWhatIsTold$Sheet;LSolesByWhatIsTold$Walker;Z)I"⟩, 13)]
theorem lw_r2 : ∀ q ∈ lw_privs_2, lw_okq q := List.forall_mem_cons.mpr ⟨lw_p16, List.forall_mem_cons.mpr ⟨lw_p17, List.forall_mem_cons.mpr ⟨lw_p18, List.forall_mem_cons.mpr ⟨lw_p19, List.forall_mem_cons.mpr ⟨lw_p20, List.forall_mem_cons.mpr ⟨lw_p21, List.forall_mem_cons.mpr ⟨lw_p22, List.forall_mem_cons.mpr ⟨lw_p23, List.forall_mem_cons.mpr ⟨lw_p24, List.forall_mem_cons.mpr ⟨lw_p25, List.forall_mem_cons.mpr ⟨lw_p26, List.forall_mem_cons.mpr ⟨lw_p27, List.forall_mem_cons.mpr ⟨lw_p28, List.forall_mem_cons.mpr ⟨lw_p29, List.forall_mem_cons.mpr ⟨lw_p30, List.forall_mem_cons.mpr ⟨lw_p31, fun _ h => absurd h List.not_mem_nil⟩⟩⟩⟩⟩⟩⟩⟩⟩⟩⟩⟩⟩⟩⟩⟩
theorem lw_p32 : lw_okq (⟨"SolesByWhatIsTold", "textsBy", "(LSolesByWhatIsTold$Sheet;LSolesByWhatIsTold$Walker;)I"⟩, 13) := ⟨⟨by decide +kernel, by decide +kernel⟩, List.mem_of_getElem? (i := 17) (by decide +kernel), List.mem_of_getElem? (i := 663) (by decide +kernel), List.mem_of_getElem? (i := 664) (by decide +kernel)⟩
theorem lw_p33 : lw_okq (⟨"SolesByWhatIsTold", "stepsBy", "(LSolesByWhatIsTold$Sheet;LSolesByWhatIsTold$Walker;Z)I"⟩, 13) := ⟨⟨by decide +kernel, by decide +kernel⟩, List.mem_of_getElem? (i := 17) (by decide +kernel), List.mem_of_getElem? (i := 667) (by decide +kernel), List.mem_of_getElem? (i := 668) (by decide +kernel)⟩
theorem lw_p34 : lw_okq (⟨"SolesByWhatIsTold", "draw", "(I)V"⟩, 13) := ⟨⟨by decide +kernel, by decide +kernel⟩, List.mem_of_getElem? (i := 17) (by decide +kernel), List.mem_of_getElem? (i := 689) (by decide +kernel), List.mem_of_getElem? (i := 690) (by decide +kernel)⟩
theorem lw_p35 : lw_okq (⟨"SolesByWhatIsTold", "eachIsHeldUp", "()Z"⟩, 13) := ⟨⟨by decide +kernel, by decide +kernel⟩, List.mem_of_getElem? (i := 17) (by decide +kernel), List.mem_of_getElem? (i := 699) (by decide +kernel), List.mem_of_getElem? (i := 700) (by decide +kernel)⟩
theorem lw_p36 : lw_okq (⟨"SolesByWhatIsTold", "countInSocks", "()I"⟩, 13) := ⟨⟨by decide +kernel, by decide +kernel⟩, List.mem_of_getElem? (i := 17) (by decide +kernel), List.mem_of_getElem? (i := 726) (by decide +kernel), List.mem_of_getElem? (i := 727) (by decide +kernel)⟩
theorem lw_p37 : lw_okq (⟨"SolesByWhatIsTold", "countStopped", "()I"⟩, 13) := ⟨⟨by decide +kernel, by decide +kernel⟩, List.mem_of_getElem? (i := 17) (by decide +kernel), List.mem_of_getElem? (i := 730) (by decide +kernel), List.mem_of_getElem? (i := 731) (by decide +kernel)⟩
theorem lw_p38 : lw_okq (⟨"SolesByWhatIsToldModel", "spell", "(IIIIIIIII)V"⟩, 46) := ⟨⟨by decide +kernel, by decide +kernel⟩, List.mem_of_getElem? (i := 764) (by decide +kernel), List.mem_of_getElem? (i := 770) (by decide +kernel), List.mem_of_getElem? (i := 771) (by decide +kernel)⟩
theorem lw_p39 : lw_okq (⟨"SolesByWhatIsToldModel", "isOf", "(II)Z"⟩, 46) := ⟨⟨by decide +kernel, by decide +kernel⟩, List.mem_of_getElem? (i := 764) (by decide +kernel), List.mem_of_getElem? (i := 921) (by decide +kernel), List.mem_of_getElem? (i := 922) (by decide +kernel)⟩
theorem lw_p40 : lw_okq (⟨"SolesByWhatIsToldModel", "isOne", "(I)Z"⟩, 46) := ⟨⟨by decide +kernel, by decide +kernel⟩, List.mem_of_getElem? (i := 764) (by decide +kernel), List.mem_of_getElem? (i := 926) (by decide +kernel), List.mem_of_getElem? (i := 927) (by decide +kernel)⟩
theorem lw_p41 : lw_okq (⟨"SolesByWhatIsToldModel", "begins", "(I)V"⟩, 46) := ⟨⟨by decide +kernel, by decide +kernel⟩, List.mem_of_getElem? (i := 764) (by decide +kernel), List.mem_of_getElem? (i := 938) (by decide +kernel), List.mem_of_getElem? (i := 939) (by decide +kernel)⟩
theorem lw_p42 : lw_okq (⟨"SolesByWhatIsToldModel", "weightOf", "(I)I"⟩, 46) := ⟨⟨by decide +kernel, by decide +kernel⟩, List.mem_of_getElem? (i := 764) (by decide +kernel), List.mem_of_getElem? (i := 942) (by decide +kernel), List.mem_of_getElem? (i := 943) (by decide +kernel)⟩
theorem lw_p43 : lw_okq (⟨"SolesByWhatIsToldModel", "lastsOf", "(I)I"⟩, 46) := ⟨⟨by decide +kernel, by decide +kernel⟩, List.mem_of_getElem? (i := 764) (by decide +kernel), List.mem_of_getElem? (i := 946) (by decide +kernel), List.mem_of_getElem? (i := 947) (by decide +kernel)⟩
theorem lw_p44 : lw_okq (⟨"SolesByWhatIsToldModel", "asks", "(II)I"⟩, 46) := ⟨⟨by decide +kernel, by decide +kernel⟩, List.mem_of_getElem? (i := 764) (by decide +kernel), List.mem_of_getElem? (i := 950) (by decide +kernel), List.mem_of_getElem? (i := 951) (by decide +kernel)⟩
theorem lw_p45 : lw_okq (⟨"SolesByWhatIsToldModel", "read", "(II)I"⟩, 46) := ⟨⟨by decide +kernel, by decide +kernel⟩, List.mem_of_getElem? (i := 764) (by decide +kernel), List.mem_of_getElem? (i := 954) (by decide +kernel), List.mem_of_getElem? (i := 955) (by decide +kernel)⟩
theorem lw_p46 : lw_okq (⟨"SolesByWhatIsToldModel", "next", "()V"⟩, 46) := ⟨⟨by decide +kernel, by decide +kernel⟩, List.mem_of_getElem? (i := 764) (by decide +kernel), List.mem_of_getElem? (i := 958) (by decide +kernel), List.mem_of_getElem? (i := 959) (by decide +kernel)⟩
theorem lw_p47 : lw_okq (⟨"SolesByWhatIsToldModel", "byteAt", "(I)I"⟩, 46) := ⟨⟨by decide +kernel, by decide +kernel⟩, List.mem_of_getElem? (i := 764) (by decide +kernel), List.mem_of_getElem? (i := 962) (by decide +kernel), List.mem_of_getElem? (i := 963) (by decide +kernel)⟩
def lw_privs_3 : List (MethodName × Nat) := [(⟨"SolesByWhatIsTold", "textsBy", "(LSolesByWhatIsTold$Sheet;LSolesByWhatIsTold$Walker;)I"⟩, 13), (⟨"SolesByWhatIsTold", "stepsBy", "(LSolesByWhatIsTold$Sheet;LSolesByWhatIsTold$Walker;Z)I"⟩, 13), (⟨"SolesByWhatIsTold", "draw", "(I)V"⟩, 13), (⟨"SolesByWhatIsTold", "eachIsHeldUp", "()Z"⟩, 13), (⟨"SolesByWhatIsTold", "countInSocks", "()I"⟩, 13), (⟨"SolesByWhatIsTold", "countStopped", "()I"⟩, 13), (⟨"SolesByWhatIsToldModel", "spell", "(IIIIIIIII)V"⟩, 46), (⟨"SolesByWhatIsToldModel", "isOf", "(II)Z"⟩, 46), (⟨"SolesByWhatIsToldModel", "isOne", "(I)Z"⟩, 46), (⟨"SolesByWhatIsToldModel", "begins", "(I)V"⟩, 46), (⟨"SolesByWhatIsToldModel", "weightOf", "(I)I"⟩, 46), (⟨"SolesByWhatIsToldModel", "lastsOf", "(I)I"⟩, 46), (⟨"SolesByWhatIsToldModel", "asks", "(II)I"⟩, 46), (⟨"SolesByWhatIsToldModel", "read", "(II)I"⟩, 46), (⟨"SolesByWhatIsToldModel", "next", "()V"⟩, 46), (⟨"SolesByWhatIsToldModel", "byteAt", "(I)I"⟩, 46)]
theorem lw_r3 : ∀ q ∈ lw_privs_3, lw_okq q := List.forall_mem_cons.mpr ⟨lw_p32, List.forall_mem_cons.mpr ⟨lw_p33, List.forall_mem_cons.mpr ⟨lw_p34, List.forall_mem_cons.mpr ⟨lw_p35, List.forall_mem_cons.mpr ⟨lw_p36, List.forall_mem_cons.mpr ⟨lw_p37, List.forall_mem_cons.mpr ⟨lw_p38, List.forall_mem_cons.mpr ⟨lw_p39, List.forall_mem_cons.mpr ⟨lw_p40, List.forall_mem_cons.mpr ⟨lw_p41, List.forall_mem_cons.mpr ⟨lw_p42, List.forall_mem_cons.mpr ⟨lw_p43, List.forall_mem_cons.mpr ⟨lw_p44, List.forall_mem_cons.mpr ⟨lw_p45, List.forall_mem_cons.mpr ⟨lw_p46, List.forall_mem_cons.mpr ⟨lw_p47, fun _ h => absurd h List.not_mem_nil⟩⟩⟩⟩⟩⟩⟩⟩⟩⟩⟩⟩⟩⟩⟩⟩
theorem lw_p48 : lw_okq (⟨"SolesByWhatIsToldModel", "isWord", "(IIIIIIII)Z"⟩, 46) := ⟨⟨by decide +kernel, by decide +kernel⟩, List.mem_of_getElem? (i := 764) (by decide +kernel), List.mem_of_getElem? (i := 971) (by decide +kernel), List.mem_of_getElem? (i := 972) (by decide +kernel)⟩
theorem lw_p49 : lw_okq (⟨"SolesByWhatIsToldModel", "isLetter", "(II)Z"⟩, 46) := ⟨⟨by decide +kernel, by decide +kernel⟩, List.mem_of_getElem? (i := 764) (by decide +kernel), List.mem_of_getElem? (i := 975) (by decide +kernel), List.mem_of_getElem? (i := 976) (by decide +kernel)⟩
theorem lw_p50 : lw_okq (⟨"SolesByWhatIsToldModel", "part", "(Z)I"⟩, 46) := ⟨⟨by decide +kernel, by decide +kernel⟩, List.mem_of_getElem? (i := 764) (by decide +kernel), List.mem_of_getElem? (i := 979) (by decide +kernel), List.mem_of_getElem? (i := 980) (by decide +kernel)⟩
theorem lw_p51 : lw_okq (⟨"SolesByWhatIsToldModel", "fail", "()V"⟩, 46) := ⟨⟨by decide +kernel, by decide +kernel⟩, List.mem_of_getElem? (i := 764) (by decide +kernel), List.mem_of_getElem? (i := 983) (by decide +kernel), List.mem_of_getElem? (i := 984) (by decide +kernel)⟩
theorem lw_p52 : lw_okq (⟨"SolesByWhatIsToldModel", "either0", "()I"⟩, 46) := ⟨⟨by decide +kernel, by decide +kernel⟩, List.mem_of_getElem? (i := 764) (by decide +kernel), List.mem_of_getElem? (i := 987) (by decide +kernel), List.mem_of_getElem? (i := 988) (by decide +kernel)⟩
theorem lw_p53 : lw_okq (⟨"SolesByWhatIsToldModel", "both0", "()I"⟩, 46) := ⟨⟨by decide +kernel, by decide +kernel⟩, List.mem_of_getElem? (i := 764) (by decide +kernel), List.mem_of_getElem? (i := 991) (by decide +kernel), List.mem_of_getElem? (i := 992) (by decide +kernel)⟩
theorem lw_p54 : lw_okq (⟨"SolesByWhatIsToldModel", "not0", "()I"⟩, 46) := ⟨⟨by decide +kernel, by decide +kernel⟩, List.mem_of_getElem? (i := 764) (by decide +kernel), List.mem_of_getElem? (i := 995) (by decide +kernel), List.mem_of_getElem? (i := 996) (by decide +kernel)⟩
theorem lw_p55 : lw_okq (⟨"SolesByWhatIsToldModel", "opens", "()Z"⟩, 46) := ⟨⟨by decide +kernel, by decide +kernel⟩, List.mem_of_getElem? (i := 764) (by decide +kernel), List.mem_of_getElem? (i := 999) (by decide +kernel), List.mem_of_getElem? (i := 1000) (by decide +kernel)⟩
theorem lw_p56 : lw_okq (⟨"SolesByWhatIsToldModel", "not1", "()I"⟩, 46) := ⟨⟨by decide +kernel, by decide +kernel⟩, List.mem_of_getElem? (i := 764) (by decide +kernel), List.mem_of_getElem? (i := 1003) (by decide +kernel), List.mem_of_getElem? (i := 1004) (by decide +kernel)⟩
theorem lw_p57 : lw_okq (⟨"SolesByWhatIsToldModel", "not2", "()I"⟩, 46) := ⟨⟨by decide +kernel, by decide +kernel⟩, List.mem_of_getElem? (i := 764) (by decide +kernel), List.mem_of_getElem? (i := 1007) (by decide +kernel), List.mem_of_getElem? (i := 1008) (by decide +kernel)⟩
theorem lw_p58 : lw_okq (⟨"SolesByWhatIsToldModel", "not3", "()I"⟩, 46) := ⟨⟨by decide +kernel, by decide +kernel⟩, List.mem_of_getElem? (i := 764) (by decide +kernel), List.mem_of_getElem? (i := 1011) (by decide +kernel), List.mem_of_getElem? (i := 1012) (by decide +kernel)⟩
theorem lw_p59 : lw_okq (⟨"SolesByWhatIsToldModel", "not4", "()I"⟩, 46) := ⟨⟨by decide +kernel, by decide +kernel⟩, List.mem_of_getElem? (i := 764) (by decide +kernel), List.mem_of_getElem? (i := 1015) (by decide +kernel), List.mem_of_getElem? (i := 1016) (by decide +kernel)⟩
theorem lw_p60 : lw_okq (⟨"SolesByWhatIsToldModel", "not5", "()I"⟩, 46) := ⟨⟨by decide +kernel, by decide +kernel⟩, List.mem_of_getElem? (i := 764) (by decide +kernel), List.mem_of_getElem? (i := 1019) (by decide +kernel), List.mem_of_getElem? (i := 1020) (by decide +kernel)⟩
theorem lw_p61 : lw_okq (⟨"SolesByWhatIsToldModel", "added5", "()I"⟩, 46) := ⟨⟨by decide +kernel, by decide +kernel⟩, List.mem_of_getElem? (i := 764) (by decide +kernel), List.mem_of_getElem? (i := 1023) (by decide +kernel), List.mem_of_getElem? (i := 1024) (by decide +kernel)⟩
theorem lw_p62 : lw_okq (⟨"SolesByWhatIsToldModel", "term5", "()I"⟩, 46) := ⟨⟨by decide +kernel, by decide +kernel⟩, List.mem_of_getElem? (i := 764) (by decide +kernel), List.mem_of_getElem? (i := 1027) (by decide +kernel), List.mem_of_getElem? (i := 1028) (by decide +kernel)⟩
theorem lw_p63 : lw_okq (⟨"SolesByWhatIsToldModel", "atom5", "()I"⟩, 46) := ⟨⟨by decide +kernel, by decide +kernel⟩, List.mem_of_getElem? (i := 764) (by decide +kernel), List.mem_of_getElem? (i := 1031) (by decide +kernel), List.mem_of_getElem? (i := 1032) (by decide +kernel)⟩
def lw_privs_4 : List (MethodName × Nat) := [(⟨"SolesByWhatIsToldModel", "isWord", "(IIIIIIII)Z"⟩, 46), (⟨"SolesByWhatIsToldModel", "isLetter", "(II)Z"⟩, 46), (⟨"SolesByWhatIsToldModel", "part", "(Z)I"⟩, 46), (⟨"SolesByWhatIsToldModel", "fail", "()V"⟩, 46), (⟨"SolesByWhatIsToldModel", "either0", "()I"⟩, 46), (⟨"SolesByWhatIsToldModel", "both0", "()I"⟩, 46), (⟨"SolesByWhatIsToldModel", "not0", "()I"⟩, 46), (⟨"SolesByWhatIsToldModel", "opens", "()Z"⟩, 46), (⟨"SolesByWhatIsToldModel", "not1", "()I"⟩, 46), (⟨"SolesByWhatIsToldModel", "not2", "()I"⟩, 46), (⟨"SolesByWhatIsToldModel", "not3", "()I"⟩, 46), (⟨"SolesByWhatIsToldModel", "not4", "()I"⟩, 46), (⟨"SolesByWhatIsToldModel", "not5", "()I"⟩, 46), (⟨"SolesByWhatIsToldModel", "added5", "()I"⟩, 46), (⟨"SolesByWhatIsToldModel", "term5", "()I"⟩, 46), (⟨"SolesByWhatIsToldModel", "atom5", "()I"⟩, 46)]
theorem lw_r4 : ∀ q ∈ lw_privs_4, lw_okq q := List.forall_mem_cons.mpr ⟨lw_p48, List.forall_mem_cons.mpr ⟨lw_p49, List.forall_mem_cons.mpr ⟨lw_p50, List.forall_mem_cons.mpr ⟨lw_p51, List.forall_mem_cons.mpr ⟨lw_p52, List.forall_mem_cons.mpr ⟨lw_p53, List.forall_mem_cons.mpr ⟨lw_p54, List.forall_mem_cons.mpr ⟨lw_p55, List.forall_mem_cons.mpr ⟨lw_p56, List.forall_mem_cons.mpr ⟨lw_p57, List.forall_mem_cons.mpr ⟨lw_p58, List.forall_mem_cons.mpr ⟨lw_p59, List.forall_mem_cons.mpr ⟨lw_p60, List.forall_mem_cons.mpr ⟨lw_p61, List.forall_mem_cons.mpr ⟨lw_p62, List.forall_mem_cons.mpr ⟨lw_p63, fun _ h => absurd h List.not_mem_nil⟩⟩⟩⟩⟩⟩⟩⟩⟩⟩⟩⟩⟩⟩⟩⟩
theorem lw_p64 : lw_okq (⟨"SolesByWhatIsToldModel", "isSign", "(I)Z"⟩, 46) := ⟨⟨by decide +kernel, by decide +kernel⟩, List.mem_of_getElem? (i := 764) (by decide +kernel), List.mem_of_getElem? (i := 1035) (by decide +kernel), List.mem_of_getElem? (i := 1036) (by decide +kernel)⟩
theorem lw_p65 : lw_okq (⟨"SolesByWhatIsToldModel", "name", "()I"⟩, 46) := ⟨⟨by decide +kernel, by decide +kernel⟩, List.mem_of_getElem? (i := 764) (by decide +kernel), List.mem_of_getElem? (i := 1039) (by decide +kernel), List.mem_of_getElem? (i := 1040) (by decide +kernel)⟩
theorem lw_p66 : lw_okq (⟨"SolesByWhatIsToldModel", "added4", "()I"⟩, 46) := ⟨⟨by decide +kernel, by decide +kernel⟩, List.mem_of_getElem? (i := 764) (by decide +kernel), List.mem_of_getElem? (i := 1045) (by decide +kernel), List.mem_of_getElem? (i := 1046) (by decide +kernel)⟩
theorem lw_p67 : lw_okq (⟨"SolesByWhatIsToldModel", "term4", "()I"⟩, 46) := ⟨⟨by decide +kernel, by decide +kernel⟩, List.mem_of_getElem? (i := 764) (by decide +kernel), List.mem_of_getElem? (i := 1049) (by decide +kernel), List.mem_of_getElem? (i := 1050) (by decide +kernel)⟩
theorem lw_p68 : lw_okq (⟨"SolesByWhatIsToldModel", "atom4", "()I"⟩, 46) := ⟨⟨by decide +kernel, by decide +kernel⟩, List.mem_of_getElem? (i := 764) (by decide +kernel), List.mem_of_getElem? (i := 1053) (by decide +kernel), List.mem_of_getElem? (i := 1054) (by decide +kernel)⟩
theorem lw_p69 : lw_okq (⟨"SolesByWhatIsToldModel", "either5", "()I"⟩, 46) := ⟨⟨by decide +kernel, by decide +kernel⟩, List.mem_of_getElem? (i := 764) (by decide +kernel), List.mem_of_getElem? (i := 1057) (by decide +kernel), List.mem_of_getElem? (i := 1058) (by decide +kernel)⟩
theorem lw_p70 : lw_okq (⟨"SolesByWhatIsToldModel", "both5", "()I"⟩, 46) := ⟨⟨by decide +kernel, by decide +kernel⟩, List.mem_of_getElem? (i := 764) (by decide +kernel), List.mem_of_getElem? (i := 1061) (by decide +kernel), List.mem_of_getElem? (i := 1062) (by decide +kernel)⟩
theorem lw_p71 : lw_okq (⟨"SolesByWhatIsToldModel", "added3", "()I"⟩, 46) := ⟨⟨by decide +kernel, by decide +kernel⟩, List.mem_of_getElem? (i := 764) (by decide +kernel), List.mem_of_getElem? (i := 1065) (by decide +kernel), List.mem_of_getElem? (i := 1066) (by decide +kernel)⟩
theorem lw_p72 : lw_okq (⟨"SolesByWhatIsToldModel", "term3", "()I"⟩, 46) := ⟨⟨by decide +kernel, by decide +kernel⟩, List.mem_of_getElem? (i := 764) (by decide +kernel), List.mem_of_getElem? (i := 1069) (by decide +kernel), List.mem_of_getElem? (i := 1070) (by decide +kernel)⟩
theorem lw_p73 : lw_okq (⟨"SolesByWhatIsToldModel", "atom3", "()I"⟩, 46) := ⟨⟨by decide +kernel, by decide +kernel⟩, List.mem_of_getElem? (i := 764) (by decide +kernel), List.mem_of_getElem? (i := 1073) (by decide +kernel), List.mem_of_getElem? (i := 1074) (by decide +kernel)⟩
theorem lw_p74 : lw_okq (⟨"SolesByWhatIsToldModel", "either4", "()I"⟩, 46) := ⟨⟨by decide +kernel, by decide +kernel⟩, List.mem_of_getElem? (i := 764) (by decide +kernel), List.mem_of_getElem? (i := 1077) (by decide +kernel), List.mem_of_getElem? (i := 1078) (by decide +kernel)⟩
theorem lw_p75 : lw_okq (⟨"SolesByWhatIsToldModel", "both4", "()I"⟩, 46) := ⟨⟨by decide +kernel, by decide +kernel⟩, List.mem_of_getElem? (i := 764) (by decide +kernel), List.mem_of_getElem? (i := 1081) (by decide +kernel), List.mem_of_getElem? (i := 1082) (by decide +kernel)⟩
theorem lw_p76 : lw_okq (⟨"SolesByWhatIsToldModel", "added2", "()I"⟩, 46) := ⟨⟨by decide +kernel, by decide +kernel⟩, List.mem_of_getElem? (i := 764) (by decide +kernel), List.mem_of_getElem? (i := 1085) (by decide +kernel), List.mem_of_getElem? (i := 1086) (by decide +kernel)⟩
theorem lw_p77 : lw_okq (⟨"SolesByWhatIsToldModel", "term2", "()I"⟩, 46) := ⟨⟨by decide +kernel, by decide +kernel⟩, List.mem_of_getElem? (i := 764) (by decide +kernel), List.mem_of_getElem? (i := 1089) (by decide +kernel), List.mem_of_getElem? (i := 1090) (by decide +kernel)⟩
theorem lw_p78 : lw_okq (⟨"SolesByWhatIsToldModel", "atom2", "()I"⟩, 46) := ⟨⟨by decide +kernel, by decide +kernel⟩, List.mem_of_getElem? (i := 764) (by decide +kernel), List.mem_of_getElem? (i := 1093) (by decide +kernel), List.mem_of_getElem? (i := 1094) (by decide +kernel)⟩
theorem lw_p79 : lw_okq (⟨"SolesByWhatIsToldModel", "either3", "()I"⟩, 46) := ⟨⟨by decide +kernel, by decide +kernel⟩, List.mem_of_getElem? (i := 764) (by decide +kernel), List.mem_of_getElem? (i := 1097) (by decide +kernel), List.mem_of_getElem? (i := 1098) (by decide +kernel)⟩
def lw_privs_5 : List (MethodName × Nat) := [(⟨"SolesByWhatIsToldModel", "isSign", "(I)Z"⟩, 46), (⟨"SolesByWhatIsToldModel", "name", "()I"⟩, 46), (⟨"SolesByWhatIsToldModel", "added4", "()I"⟩, 46), (⟨"SolesByWhatIsToldModel", "term4", "()I"⟩, 46), (⟨"SolesByWhatIsToldModel", "atom4", "()I"⟩, 46), (⟨"SolesByWhatIsToldModel", "either5", "()I"⟩, 46), (⟨"SolesByWhatIsToldModel", "both5", "()I"⟩, 46), (⟨"SolesByWhatIsToldModel", "added3", "()I"⟩, 46), (⟨"SolesByWhatIsToldModel", "term3", "()I"⟩, 46), (⟨"SolesByWhatIsToldModel", "atom3", "()I"⟩, 46), (⟨"SolesByWhatIsToldModel", "either4", "()I"⟩, 46), (⟨"SolesByWhatIsToldModel", "both4", "()I"⟩, 46), (⟨"SolesByWhatIsToldModel", "added2", "()I"⟩, 46), (⟨"SolesByWhatIsToldModel", "term2", "()I"⟩, 46), (⟨"SolesByWhatIsToldModel", "atom2", "()I"⟩, 46), (⟨"SolesByWhatIsToldModel", "either3", "()I"⟩, 46)]
theorem lw_r5 : ∀ q ∈ lw_privs_5, lw_okq q := List.forall_mem_cons.mpr ⟨lw_p64, List.forall_mem_cons.mpr ⟨lw_p65, List.forall_mem_cons.mpr ⟨lw_p66, List.forall_mem_cons.mpr ⟨lw_p67, List.forall_mem_cons.mpr ⟨lw_p68, List.forall_mem_cons.mpr ⟨lw_p69, List.forall_mem_cons.mpr ⟨lw_p70, List.forall_mem_cons.mpr ⟨lw_p71, List.forall_mem_cons.mpr ⟨lw_p72, List.forall_mem_cons.mpr ⟨lw_p73, List.forall_mem_cons.mpr ⟨lw_p74, List.forall_mem_cons.mpr ⟨lw_p75, List.forall_mem_cons.mpr ⟨lw_p76, List.forall_mem_cons.mpr ⟨lw_p77, List.forall_mem_cons.mpr ⟨lw_p78, List.forall_mem_cons.mpr ⟨lw_p79, fun _ h => absurd h List.not_mem_nil⟩⟩⟩⟩⟩⟩⟩⟩⟩⟩⟩⟩⟩⟩⟩⟩
theorem lw_p80 : lw_okq (⟨"SolesByWhatIsToldModel", "both3", "()I"⟩, 46) := ⟨⟨by decide +kernel, by decide +kernel⟩, List.mem_of_getElem? (i := 764) (by decide +kernel), List.mem_of_getElem? (i := 1101) (by decide +kernel), List.mem_of_getElem? (i := 1102) (by decide +kernel)⟩
theorem lw_p81 : lw_okq (⟨"SolesByWhatIsToldModel", "added1", "()I"⟩, 46) := ⟨⟨by decide +kernel, by decide +kernel⟩, List.mem_of_getElem? (i := 764) (by decide +kernel), List.mem_of_getElem? (i := 1105) (by decide +kernel), List.mem_of_getElem? (i := 1106) (by decide +kernel)⟩
theorem lw_p82 : lw_okq (⟨"SolesByWhatIsToldModel", "term1", "()I"⟩, 46) := ⟨⟨by decide +kernel, by decide +kernel⟩, List.mem_of_getElem? (i := 764) (by decide +kernel), List.mem_of_getElem? (i := 1109) (by decide +kernel), List.mem_of_getElem? (i := 1110) (by decide +kernel)⟩
theorem lw_p83 : lw_okq (⟨"SolesByWhatIsToldModel", "atom1", "()I"⟩, 46) := ⟨⟨by decide +kernel, by decide +kernel⟩, List.mem_of_getElem? (i := 764) (by decide +kernel), List.mem_of_getElem? (i := 1113) (by decide +kernel), List.mem_of_getElem? (i := 1114) (by decide +kernel)⟩
theorem lw_p84 : lw_okq (⟨"SolesByWhatIsToldModel", "either2", "()I"⟩, 46) := ⟨⟨by decide +kernel, by decide +kernel⟩, List.mem_of_getElem? (i := 764) (by decide +kernel), List.mem_of_getElem? (i := 1117) (by decide +kernel), List.mem_of_getElem? (i := 1118) (by decide +kernel)⟩
theorem lw_p85 : lw_okq (⟨"SolesByWhatIsToldModel", "both2", "()I"⟩, 46) := ⟨⟨by decide +kernel, by decide +kernel⟩, List.mem_of_getElem? (i := 764) (by decide +kernel), List.mem_of_getElem? (i := 1121) (by decide +kernel), List.mem_of_getElem? (i := 1122) (by decide +kernel)⟩
theorem lw_p86 : lw_okq (⟨"SolesByWhatIsToldModel", "added0", "()I"⟩, 46) := ⟨⟨by decide +kernel, by decide +kernel⟩, List.mem_of_getElem? (i := 764) (by decide +kernel), List.mem_of_getElem? (i := 1125) (by decide +kernel), List.mem_of_getElem? (i := 1126) (by decide +kernel)⟩
theorem lw_p87 : lw_okq (⟨"SolesByWhatIsToldModel", "term0", "()I"⟩, 46) := ⟨⟨by decide +kernel, by decide +kernel⟩, List.mem_of_getElem? (i := 764) (by decide +kernel), List.mem_of_getElem? (i := 1129) (by decide +kernel), List.mem_of_getElem? (i := 1130) (by decide +kernel)⟩
theorem lw_p88 : lw_okq (⟨"SolesByWhatIsToldModel", "atom0", "()I"⟩, 46) := ⟨⟨by decide +kernel, by decide +kernel⟩, List.mem_of_getElem? (i := 764) (by decide +kernel), List.mem_of_getElem? (i := 1133) (by decide +kernel), List.mem_of_getElem? (i := 1134) (by decide +kernel)⟩
theorem lw_p89 : lw_okq (⟨"SolesByWhatIsToldModel", "either1", "()I"⟩, 46) := ⟨⟨by decide +kernel, by decide +kernel⟩, List.mem_of_getElem? (i := 764) (by decide +kernel), List.mem_of_getElem? (i := 1137) (by decide +kernel), List.mem_of_getElem? (i := 1138) (by decide +kernel)⟩
theorem lw_p90 : lw_okq (⟨"SolesByWhatIsToldModel", "both1", "()I"⟩, 46) := ⟨⟨by decide +kernel, by decide +kernel⟩, List.mem_of_getElem? (i := 764) (by decide +kernel), List.mem_of_getElem? (i := 1141) (by decide +kernel), List.mem_of_getElem? (i := 1142) (by decide +kernel)⟩
theorem lw_p91 : lw_okq (⟨"SolesByWhatIsToldModel", "paceOf", "(I)I"⟩, 46) := ⟨⟨by decide +kernel, by decide +kernel⟩, List.mem_of_getElem? (i := 764) (by decide +kernel), List.mem_of_getElem? (i := 1148) (by decide +kernel), List.mem_of_getElem? (i := 1149) (by decide +kernel)⟩
theorem lw_p92 : lw_okq (⟨"SolesByWhatIsToldModel", "isStopped", "(I)Z"⟩, 46) := ⟨⟨by decide +kernel, by decide +kernel⟩, List.mem_of_getElem? (i := 764) (by decide +kernel), List.mem_of_getElem? (i := 1152) (by decide +kernel), List.mem_of_getElem? (i := 1153) (by decide +kernel)⟩
theorem lw_p93 : lw_okq (⟨"SolesByWhatIsToldModel", "lays", "(III)V"⟩, 46) := ⟨⟨by decide +kernel, by decide +kernel⟩, List.mem_of_getElem? (i := 764) (by decide +kernel), List.mem_of_getElem? (i := 1156) (by decide +kernel), List.mem_of_getElem? (i := 1157) (by decide +kernel)⟩
theorem lw_p94 : lw_okq (⟨"SolesByWhatIsToldModel", "goes", "(I)Z"⟩, 46) := ⟨⟨by decide +kernel, by decide +kernel⟩, List.mem_of_getElem? (i := 764) (by decide +kernel), List.mem_of_getElem? (i := 1184) (by decide +kernel), List.mem_of_getElem? (i := 1185) (by decide +kernel)⟩
theorem lw_p95 : lw_okq (⟨"SolesByWhatIsToldModel", "lives", "(II)V"⟩, 46) := ⟨⟨by decide +kernel, by decide +kernel⟩, List.mem_of_getElem? (i := 764) (by decide +kernel), List.mem_of_getElem? (i := 1194) (by decide +kernel), List.mem_of_getElem? (i := 1195) (by decide +kernel)⟩
def lw_privs_6 : List (MethodName × Nat) := [(⟨"SolesByWhatIsToldModel", "both3", "()I"⟩, 46), (⟨"SolesByWhatIsToldModel", "added1", "()I"⟩, 46), (⟨"SolesByWhatIsToldModel", "term1", "()I"⟩, 46), (⟨"SolesByWhatIsToldModel", "atom1", "()I"⟩, 46), (⟨"SolesByWhatIsToldModel", "either2", "()I"⟩, 46), (⟨"SolesByWhatIsToldModel", "both2", "()I"⟩, 46), (⟨"SolesByWhatIsToldModel", "added0", "()I"⟩, 46), (⟨"SolesByWhatIsToldModel", "term0", "()I"⟩, 46), (⟨"SolesByWhatIsToldModel", "atom0", "()I"⟩, 46), (⟨"SolesByWhatIsToldModel", "either1", "()I"⟩, 46), (⟨"SolesByWhatIsToldModel", "both1", "()I"⟩, 46), (⟨"SolesByWhatIsToldModel", "paceOf", "(I)I"⟩, 46), (⟨"SolesByWhatIsToldModel", "isStopped", "(I)Z"⟩, 46), (⟨"SolesByWhatIsToldModel", "lays", "(III)V"⟩, 46), (⟨"SolesByWhatIsToldModel", "goes", "(I)Z"⟩, 46), (⟨"SolesByWhatIsToldModel", "lives", "(II)V"⟩, 46)]
theorem lw_r6 : ∀ q ∈ lw_privs_6, lw_okq q := List.forall_mem_cons.mpr ⟨lw_p80, List.forall_mem_cons.mpr ⟨lw_p81, List.forall_mem_cons.mpr ⟨lw_p82, List.forall_mem_cons.mpr ⟨lw_p83, List.forall_mem_cons.mpr ⟨lw_p84, List.forall_mem_cons.mpr ⟨lw_p85, List.forall_mem_cons.mpr ⟨lw_p86, List.forall_mem_cons.mpr ⟨lw_p87, List.forall_mem_cons.mpr ⟨lw_p88, List.forall_mem_cons.mpr ⟨lw_p89, List.forall_mem_cons.mpr ⟨lw_p90, List.forall_mem_cons.mpr ⟨lw_p91, List.forall_mem_cons.mpr ⟨lw_p92, List.forall_mem_cons.mpr ⟨lw_p93, List.forall_mem_cons.mpr ⟨lw_p94, List.forall_mem_cons.mpr ⟨lw_p95, fun _ h => absurd h List.not_mem_nil⟩⟩⟩⟩⟩⟩⟩⟩⟩⟩⟩⟩⟩⟩⟩⟩
theorem lw_p96 : lw_okq (⟨"SolesByWhatIsToldModel", "isInSocks", "(I)Z"⟩, 46) := ⟨⟨by decide +kernel, by decide +kernel⟩, List.mem_of_getElem? (i := 764) (by decide +kernel), List.mem_of_getElem? (i := 1198) (by decide +kernel), List.mem_of_getElem? (i := 1199) (by decide +kernel)⟩
theorem lw_p97 : lw_okq (⟨"SolesByWhatIsToldModel", "stepBehind", "(II)I"⟩, 46) := ⟨⟨by decide +kernel, by decide +kernel⟩, List.mem_of_getElem? (i := 764) (by decide +kernel), List.mem_of_getElem? (i := 1210) (by decide +kernel), List.mem_of_getElem? (i := 1211) (by decide +kernel)⟩
theorem lw_p98 : lw_okq (⟨"SolesByWhatIsToldModel", "isLighter", "(I)Z"⟩, 46) := ⟨⟨by decide +kernel, by decide +kernel⟩, List.mem_of_getElem? (i := 764) (by decide +kernel), List.mem_of_getElem? (i := 1214) (by decide +kernel), List.mem_of_getElem? (i := 1215) (by decide +kernel)⟩
theorem lw_p99 : lw_okq (⟨"SolesByWhatIsToldModel", "daysTill", "(II)I"⟩, 46) := ⟨⟨by decide +kernel, by decide +kernel⟩, List.mem_of_getElem? (i := 764) (by decide +kernel), List.mem_of_getElem? (i := 1231) (by decide +kernel), List.mem_of_getElem? (i := 1232) (by decide +kernel)⟩
theorem lw_p100 : lw_okq (⟨"SolesByWhatIsToldModel", "allBehind", "(I)I"⟩, 46) := ⟨⟨by decide +kernel, by decide +kernel⟩, List.mem_of_getElem? (i := 764) (by decide +kernel), List.mem_of_getElem? (i := 1239) (by decide +kernel), List.mem_of_getElem? (i := 1240) (by decide +kernel)⟩
theorem lw_p101 : lw_okq (⟨"SolesByWhatIsToldModel", "firstOther", "(II)I"⟩, 46) := ⟨⟨by decide +kernel, by decide +kernel⟩, List.mem_of_getElem? (i := 764) (by decide +kernel), List.mem_of_getElem? (i := 1254) (by decide +kernel), List.mem_of_getElem? (i := 1255) (by decide +kernel)⟩
theorem lw_p102 : lw_okq (⟨"SolesByWhatIsToldModel", "draws", "(I)V"⟩, 46) := ⟨⟨by decide +kernel, by decide +kernel⟩, List.mem_of_getElem? (i := 764) (by decide +kernel), List.mem_of_getElem? (i := 1272) (by decide +kernel), List.mem_of_getElem? (i := 1273) (by decide +kernel)⟩
theorem lw_p103 : lw_okq (⟨"SolesByWhatIsToldModel", "laysBack", "()V"⟩, 46) := ⟨⟨by decide +kernel, by decide +kernel⟩, List.mem_of_getElem? (i := 764) (by decide +kernel), List.mem_of_getElem? (i := 1277) (by decide +kernel), List.mem_of_getElem? (i := 1278) (by decide +kernel)⟩
def lw_privs_7 : List (MethodName × Nat) := [(⟨"SolesByWhatIsToldModel", "isInSocks", "(I)Z"⟩, 46), (⟨"SolesByWhatIsToldModel", "stepBehind", "(II)I"⟩, 46), (⟨"SolesByWhatIsToldModel", "isLighter", "(I)Z"⟩, 46), (⟨"SolesByWhatIsToldModel", "daysTill", "(II)I"⟩, 46), (⟨"SolesByWhatIsToldModel", "allBehind", "(I)I"⟩, 46), (⟨"SolesByWhatIsToldModel", "firstOther", "(II)I"⟩, 46), (⟨"SolesByWhatIsToldModel", "draws", "(I)V"⟩, 46), (⟨"SolesByWhatIsToldModel", "laysBack", "()V"⟩, 46)]
theorem lw_r7 : ∀ q ∈ lw_privs_7, lw_okq q := List.forall_mem_cons.mpr ⟨lw_p96, List.forall_mem_cons.mpr ⟨lw_p97, List.forall_mem_cons.mpr ⟨lw_p98, List.forall_mem_cons.mpr ⟨lw_p99, List.forall_mem_cons.mpr ⟨lw_p100, List.forall_mem_cons.mpr ⟨lw_p101, List.forall_mem_cons.mpr ⟨lw_p102, List.forall_mem_cons.mpr ⟨lw_p103, fun _ h => absurd h List.not_mem_nil⟩⟩⟩⟩⟩⟩⟩⟩
def lw_privs : List (MethodName × Nat) := lw_privs_1 ++ (lw_privs_2 ++ (lw_privs_3 ++ (lw_privs_4 ++ (lw_privs_5 ++ (lw_privs_6 ++ (lw_privs_7))))))
def lw_tbl : List Cond := k2_sels lw_privs ++ tables_1
theorem lw_privs_ok : ∀ q ∈ lw_privs, lw_okq q := by
  show ∀ q ∈ lw_privs_1 ++ (lw_privs_2 ++ (lw_privs_3 ++ (lw_privs_4 ++ (lw_privs_5 ++ (lw_privs_6 ++ (lw_privs_7)))))), lw_okq q
  exact List.forall_mem_append.mpr ⟨lw_r1, List.forall_mem_append.mpr ⟨lw_r2, List.forall_mem_append.mpr ⟨lw_r3, List.forall_mem_append.mpr ⟨lw_r4, List.forall_mem_append.mpr ⟨lw_r5, List.forall_mem_append.mpr ⟨lw_r6, lw_r7⟩⟩⟩⟩⟩⟩
-- names of classes, fields, methods (the printed ones)
def RX0 : String := "SolesByWhatIsTold$Image"
def TX0 : u_T := fun k => match k with
  | 0 => ("SolesByWhatIsTold$Image", "stands", "Z", false)
  | 1 => ("SolesByWhatIsTold$Image", "day", "I", false)
  | 2 => ("SolesByWhatIsTold$Image", "rule", "I", false)
  | 3 => ("SolesByWhatIsTold$Image", "walkerCount", "I", false)
  | 4 => ("SolesByWhatIsTold$Image", "weights", "[I", true)
  | _ => ("SolesByWhatIsTold$Image", "road", "[LSolesByWhatIsTold$Walker;", true)
def tyX0 : Nat → FieldType := fun k => match k with
  | 0 => .boolean
  | 1 => .int
  | 2 => .int
  | 3 => .int
  | 4 => .array .int
  | _ => .array (.object "SolesByWhatIsTold$Walker")
abbrev wsX00 : List Cond := u_ws RX0 TX0 6
theorem nmX0 : ∀ a, a < 6 → ∀ b, b < 6 → a ≠ b → (TX0 a).2.1 ≠ (TX0 b).2.1 := by decide +kernel
theorem tyX0_ok : ∀ k, k < 6 → parseFieldDescriptor (TX0 k).2.2.1 = some (tyX0 k) := by decide +kernel
abbrev cX0_init : ByteArray := prog_2_method_1_code
def yX0_init : MethodName := ⟨RX0, "<init>", "()V"⟩
def RX1 : String := "SolesByWhatIsTold$Reader"
def TX1 : u_T := fun k => match k with
  | 0 => ("SolesByWhatIsTold$Reader", "bytes", "[I", true)
  | 1 => ("SolesByWhatIsTold$Reader", "size", "I", false)
  | 2 => ("SolesByWhatIsTold$Reader", "at", "I", false)
  | 3 => ("SolesByWhatIsTold$Reader", "start", "I", false)
  | 4 => ("SolesByWhatIsTold$Reader", "token", "I", false)
  | 5 => ("SolesByWhatIsTold$Reader", "amount", "I", false)
  | 6 => ("SolesByWhatIsTold$Reader", "open", "I", false)
  | 7 => ("SolesByWhatIsTold$Reader", "fault", "I", false)
  | _ => ("SolesByWhatIsTold$Reader", "into", "LSolesByWhatIsTold$Text;", false)
def tyX1 : Nat → FieldType := fun k => match k with
  | 0 => .array .int
  | 1 => .int
  | 2 => .int
  | 3 => .int
  | 4 => .int
  | 5 => .int
  | 6 => .int
  | 7 => .int
  | _ => .object "SolesByWhatIsTold$Text"
abbrev wsX10 : List Cond := u_ws RX1 TX1 9
theorem nmX1 : ∀ a, a < 9 → ∀ b, b < 9 → a ≠ b → (TX1 a).2.1 ≠ (TX1 b).2.1 := by decide +kernel
theorem tyX1_ok : ∀ k, k < 9 → parseFieldDescriptor (TX1 k).2.2.1 = some (tyX1 k) := by decide +kernel
abbrev cX1_init : ByteArray := prog_3_method_1_code
def yX1_init : MethodName := ⟨RX1, "<init>", "()V"⟩
abbrev cX1_append : ByteArray := prog_3_method_2_code
def yX1_append : MethodName := ⟨RX1, "append", "(I)V"⟩
abbrev cX1_readInto : ByteArray := prog_3_method_3_code
def yX1_readInto : MethodName := ⟨RX1, "readInto", "(LSolesByWhatIsTold$Text;)I"⟩
abbrev cX1_fail : ByteArray := prog_3_method_4_code
def yX1_fail : MethodName := ⟨RX1, "fail", "()V"⟩
abbrev cX1_expect : ByteArray := prog_3_method_5_code
def yX1_expect : MethodName := ⟨RX1, "expect", "(I)V"⟩
abbrev cX1_takeOpening : ByteArray := prog_3_method_6_code
def yX1_takeOpening : MethodName := ⟨RX1, "takeOpening", "()Z"⟩
abbrev cX1_readEither : ByteArray := prog_3_method_7_code
def yX1_readEither : MethodName := ⟨RX1, "readEither", "()V"⟩
abbrev cX1_readBoth : ByteArray := prog_3_method_8_code
def yX1_readBoth : MethodName := ⟨RX1, "readBoth", "()V"⟩
abbrev cX1_readNot : ByteArray := prog_3_method_9_code
def yX1_readNot : MethodName := ⟨RX1, "readNot", "()V"⟩
abbrev cX1_readSum : ByteArray := prog_3_method_10_code
def yX1_readSum : MethodName := ⟨RX1, "readSum", "()V"⟩
abbrev cX1_readTerm : ByteArray := prog_3_method_11_code
def yX1_readTerm : MethodName := ⟨RX1, "readTerm", "()V"⟩
abbrev cX1_readOne : ByteArray := prog_3_method_12_code
def yX1_readOne : MethodName := ⟨RX1, "readOne", "()V"⟩
abbrev cX1_take : ByteArray := prog_3_method_13_code
def yX1_take : MethodName := ⟨RX1, "take", "()V"⟩
abbrev cX1_takeAmount : ByteArray := prog_3_method_14_code
def yX1_takeAmount : MethodName := ⟨RX1, "takeAmount", "()V"⟩
abbrev cX1_takeWord : ByteArray := prog_3_method_15_code
def yX1_takeWord : MethodName := ⟨RX1, "takeWord", "()V"⟩
abbrev cX1_spells : ByteArray := prog_3_method_16_code
def yX1_spells : MethodName := ⟨RX1, "spells", "(Ljava/lang/String;)Z"⟩
abbrev cX1_isBlank : ByteArray := prog_3_method_17_code
def yX1_isBlank : MethodName := ⟨RX1, "isBlank", "(I)Z"⟩
abbrev cX1_isLetter : ByteArray := prog_3_method_18_code
def yX1_isLetter : MethodName := ⟨RX1, "isLetter", "(I)Z"⟩
abbrev cX1_isDigit : ByteArray := prog_3_method_19_code
def yX1_isDigit : MethodName := ⟨RX1, "isDigit", "(I)Z"⟩
abbrev cX1_signOf : ByteArray := prog_3_method_20_code
def yX1_signOf : MethodName := ⟨RX1, "signOf", "(I)I"⟩
def RX2 : String := "SolesByWhatIsTold$Sheet"
def TX2 : u_T := fun k => match k with
  | 0 => ("SolesByWhatIsTold$Sheet", "items", "[I", true)
  | 1 => ("SolesByWhatIsTold$Sheet", "sort", "I", false)
  | _ => ("SolesByWhatIsTold$Sheet", "size", "I", false)
def tyX2 : Nat → FieldType := fun k => match k with
  | 0 => .array .int
  | 1 => .int
  | _ => .int
abbrev wsX20 : List Cond := u_ws RX2 TX2 3
theorem nmX2 : ∀ a, a < 3 → ∀ b, b < 3 → a ≠ b → (TX2 a).2.1 ≠ (TX2 b).2.1 := by decide +kernel
theorem tyX2_ok : ∀ k, k < 3 → parseFieldDescriptor (TX2 k).2.2.1 = some (tyX2 k) := by decide +kernel
abbrev cX2_init : ByteArray := prog_4_method_1_code
def yX2_init : MethodName := ⟨RX2, "<init>", "()V"⟩
abbrev cX2_isMissing : ByteArray := prog_4_method_2_code
def yX2_isMissing : MethodName := ⟨RX2, "isMissing", "()Z"⟩
abbrev cX2_becomeRow : ByteArray := prog_4_method_3_code
def yX2_becomeRow : MethodName := ⟨RX2, "becomeRow", "(II)V"⟩
abbrev cX2_holds : ByteArray := prog_4_method_4_code
def yX2_holds : MethodName := ⟨RX2, "holds", "(II)Z"⟩
abbrev cX2_put : ByteArray := prog_4_method_5_code
def yX2_put : MethodName := ⟨RX2, "put", "(II)V"⟩
def RX3 : String := "SolesByWhatIsTold$Text"
def TX3 : u_T := fun k => match k with
  | 0 => ("SolesByWhatIsTold$Text", "steps", "[I", true)
  | 1 => ("SolesByWhatIsTold$Text", "ends", "[I", true)
  | 2 => ("SolesByWhatIsTold$Text", "size", "I", false)
  | _ => ("SolesByWhatIsTold$Text", "tellsDay", "Z", false)
def tyX3 : Nat → FieldType := fun k => match k with
  | 0 => .array .int
  | 1 => .array .int
  | 2 => .int
  | _ => .boolean
abbrev wsX30 : List Cond := u_ws RX3 TX3 4
theorem nmX3 : ∀ a, a < 4 → ∀ b, b < 4 → a ≠ b → (TX3 a).2.1 ≠ (TX3 b).2.1 := by decide +kernel
theorem tyX3_ok : ∀ k, k < 4 → parseFieldDescriptor (TX3 k).2.2.1 = some (tyX3 k) := by decide +kernel
abbrev cX3_init : ByteArray := prog_5_method_1_code
def yX3_init : MethodName := ⟨RX3, "<init>", "()V"⟩
abbrev cX3_clear : ByteArray := prog_5_method_2_code
def yX3_clear : MethodName := ⟨RX3, "clear", "()V"⟩
abbrev cX3_append : ByteArray := prog_5_method_3_code
def yX3_append : MethodName := ⟨RX3, "append", "(I)V"⟩
abbrev cX3_endPart : ByteArray := prog_5_method_4_code
def yX3_endPart : MethodName := ⟨RX3, "endPart", "(I)V"⟩
abbrev cX3_startOf : ByteArray := prog_5_method_5_code
def yX3_startOf : MethodName := ⟨RX3, "startOf", "(I)I"⟩
abbrev cX3_endOf : ByteArray := prog_5_method_6_code
def yX3_endOf : MethodName := ⟨RX3, "endOf", "(I)I"⟩
def RX4 : String := "SolesByWhatIsTold$Thought"
def TX4 : u_T := fun k => match k with
  | 0 => ("SolesByWhatIsTold$Thought", "kind", "I", false)
  | 1 => ("SolesByWhatIsTold$Thought", "number", "I", false)
  | 2 => ("SolesByWhatIsTold$Thought", "toldWeight", "I", false)
  | 3 => ("SolesByWhatIsTold$Thought", "untoldWeight", "I", false)
  | 4 => ("SolesByWhatIsTold$Thought", "step", "I", false)
  | 5 => ("SolesByWhatIsTold$Thought", "worn", "I", false)
  | 6 => ("SolesByWhatIsTold$Thought", "day", "I", false)
  | 7 => ("SolesByWhatIsTold$Thought", "rule", "LSolesByWhatIsTold$Text;", false)
  | _ => ("SolesByWhatIsTold$Thought", "stack", "[I", true)
def tyX4 : Nat → FieldType := fun k => match k with
  | 0 => .int
  | 1 => .int
  | 2 => .int
  | 3 => .int
  | 4 => .int
  | 5 => .int
  | 6 => .int
  | 7 => .object "SolesByWhatIsTold$Text"
  | _ => .array .int
abbrev wsX40 : List Cond := u_ws RX4 TX4 9
theorem nmX4 : ∀ a, a < 9 → ∀ b, b < 9 → a ≠ b → (TX4 a).2.1 ≠ (TX4 b).2.1 := by decide +kernel
theorem tyX4_ok : ∀ k, k < 9 → parseFieldDescriptor (TX4 k).2.2.1 = some (tyX4 k) := by decide +kernel
abbrev cX4_init : ByteArray := prog_6_method_1_code
def yX4_init : MethodName := ⟨RX4, "<init>", "(LSolesByWhatIsTold$Text;)V"⟩
abbrev cX4_startAs : ByteArray := prog_6_method_2_code
def yX4_startAs : MethodName := ⟨RX4, "startAs", "(LSolesByWhatIsTold$Walker;LSolesByWhatIsTold$Text;I)V"⟩
abbrev cX4_weigh : ByteArray := prog_6_method_3_code
def yX4_weigh : MethodName := ⟨RX4, "weigh", "(II[I)V"⟩
abbrev cX4_lasts : ByteArray := prog_6_method_4_code
def yX4_lasts : MethodName := ⟨RX4, "lasts", "()I"⟩
abbrev cX4_lastsByKind : ByteArray := prog_6_method_5_code
def yX4_lastsByKind : MethodName := ⟨RX4, "lastsByKind", "(I)I"⟩
abbrev cX4_pace : ByteArray := prog_6_method_6_code
def yX4_pace : MethodName := ⟨RX4, "pace", "()I"⟩
abbrev cX4_paceByKind : ByteArray := prog_6_method_7_code
def yX4_paceByKind : MethodName := ⟨RX4, "paceByKind", "(I)I"⟩
abbrev cX4_isStopped : ByteArray := prog_6_method_8_code
def yX4_isStopped : MethodName := ⟨RX4, "isStopped", "()Z"⟩
abbrev cX4_isInSocks : ByteArray := prog_6_method_9_code
def yX4_isInSocks : MethodName := ⟨RX4, "isInSocks", "()Z"⟩
abbrev cX4_passDay : ByteArray := prog_6_method_10_code
def yX4_passDay : MethodName := ⟨RX4, "passDay", "()Z"⟩
abbrev cX4_stepBehind : ByteArray := prog_6_method_11_code
def yX4_stepBehind : MethodName := ⟨RX4, "stepBehind", "(I)I"⟩
abbrev cX4_wornBehind : ByteArray := prog_6_method_12_code
def yX4_wornBehind : MethodName := ⟨RX4, "wornBehind", "(I)I"⟩
abbrev cX4_firstInSocks : ByteArray := prog_6_method_13_code
def yX4_firstInSocks : MethodName := ⟨RX4, "firstInSocks", "(I)I"⟩
abbrev cX4_firstStay : ByteArray := prog_6_method_14_code
def yX4_firstStay : MethodName := ⟨RX4, "firstStay", "(I)I"⟩
abbrev cX4_isHeldUp : ByteArray := prog_6_method_15_code
def yX4_isHeldUp : MethodName := ⟨RX4, "isHeldUp", "(I)Z"⟩
abbrev cX4_daysTill : ByteArray := prog_6_method_16_code
def yX4_daysTill : MethodName := ⟨RX4, "daysTill", "(I)I"⟩
abbrev cX4_firstOtherwise : ByteArray := prog_6_method_17_code
def yX4_firstOtherwise : MethodName := ⟨RX4, "firstOtherwise", "(LSolesByWhatIsTold$Sheet;)I"⟩
abbrev cX4_valueOfPart : ByteArray := prog_6_method_18_code
def yX4_valueOfPart : MethodName := ⟨RX4, "valueOfPart", "(I)I"⟩
abbrev cX4_ofNone : ByteArray := prog_6_method_19_code
def yX4_ofNone : MethodName := ⟨RX4, "ofNone", "(I)I"⟩
abbrev cX4_ofTwo : ByteArray := prog_6_method_20_code
def yX4_ofTwo : MethodName := ⟨RX4, "ofTwo", "(III)I"⟩
def RX5 : String := "SolesByWhatIsTold$Walker"
def TX5 : u_T := fun k => match k with
  | 0 => ("SolesByWhatIsTold$Walker", "kind", "I", false)
  | 1 => ("SolesByWhatIsTold$Walker", "number", "I", false)
  | 2 => ("SolesByWhatIsTold$Walker", "ties", "I", false)
  | 3 => ("SolesByWhatIsTold$Walker", "told", "I", false)
  | 4 => ("SolesByWhatIsTold$Walker", "step", "I", false)
  | _ => ("SolesByWhatIsTold$Walker", "worn", "I", false)
def tyX5 : Nat → FieldType := fun k => match k with
  | 0 => .int
  | 1 => .int
  | 2 => .int
  | 3 => .int
  | 4 => .int
  | _ => .int
abbrev wsX50 : List Cond := u_ws RX5 TX5 6
theorem nmX5 : ∀ a, a < 6 → ∀ b, b < 6 → a ≠ b → (TX5 a).2.1 ≠ (TX5 b).2.1 := by decide +kernel
theorem tyX5_ok : ∀ k, k < 6 → parseFieldDescriptor (TX5 k).2.2.1 = some (tyX5 k) := by decide +kernel
abbrev cX5_init : ByteArray := prog_7_method_1_code
def yX5_init : MethodName := ⟨RX5, "<init>", "()V"⟩
abbrev cX5_comeAs : ByteArray := prog_7_method_2_code
def yX5_comeAs : MethodName := ⟨RX5, "comeAs", "(III)V"⟩
abbrev cX5_become : ByteArray := prog_7_method_3_code
def yX5_become : MethodName := ⟨RX5, "become", "(LSolesByWhatIsTold$Walker;)V"⟩
def RX6 : String := "SolesByWhatIsTold"
def TX6 : u_T := fun k => match k with
  | 0 => ("SolesByWhatIsTold", "weights", "[I", true)
  | 1 => ("SolesByWhatIsTold", "otherWeights", "[I", true)
  | 2 => ("SolesByWhatIsTold", "road", "[LSolesByWhatIsTold$Walker;", true)
  | 3 => ("SolesByWhatIsTold", "walkerCount", "I", false)
  | 4 => ("SolesByWhatIsTold", "today", "I", false)
  | 5 => ("SolesByWhatIsTold", "texts", "[LSolesByWhatIsTold$Text;", true)
  | 6 => ("SolesByWhatIsTold", "textCount", "I", false)
  | 7 => ("SolesByWhatIsTold", "rule", "I", false)
  | 8 => ("SolesByWhatIsTold", "reader", "LSolesByWhatIsTold$Reader;", true)
  | 9 => ("SolesByWhatIsTold", "thought", "LSolesByWhatIsTold$Thought;", true)
  | 10 => ("SolesByWhatIsTold", "stepByWeight", "[I", true)
  | 11 => ("SolesByWhatIsTold", "kept", "LSolesByWhatIsTold$Image;", true)
  | _ => ("SolesByWhatIsTold", "sheets", "[LSolesByWhatIsTold$Sheet;", true)
def tyX6 : Nat → FieldType := fun k => match k with
  | 0 => .array .int
  | 1 => .array .int
  | 2 => .array (.object "SolesByWhatIsTold$Walker")
  | 3 => .int
  | 4 => .int
  | 5 => .array (.object "SolesByWhatIsTold$Text")
  | 6 => .int
  | 7 => .int
  | 8 => .object "SolesByWhatIsTold$Reader"
  | 9 => .object "SolesByWhatIsTold$Thought"
  | 10 => .array .int
  | 11 => .object "SolesByWhatIsTold$Image"
  | _ => .array (.object "SolesByWhatIsTold$Sheet")
abbrev wsX60 : List Cond := u_ws RX6 TX6 13
theorem nmX6 : ∀ a, a < 13 → ∀ b, b < 13 → a ≠ b → (TX6 a).2.1 ≠ (TX6 b).2.1 := by decide +kernel
theorem tyX6_ok : ∀ k, k < 13 → parseFieldDescriptor (TX6 k).2.2.1 = some (tyX6 k) := by decide +kernel
abbrev cX6_init : ByteArray := prog_1_method_1_code
def yX6_init : MethodName := ⟨RX6, "<init>", "()V"⟩
abbrev cX6_set : ByteArray := prog_1_method_2_code
def yX6_set : MethodName := ⟨RX6, "set", "(III)I"⟩
abbrev cX6_walker : ByteArray := prog_1_method_3_code
def yX6_walker : MethodName := ⟨RX6, "walker", "(III)I"⟩
abbrev cX6_told : ByteArray := prog_1_method_4_code
def yX6_told : MethodName := ⟨RX6, "told", "(II)I"⟩
abbrev cX6_feed : ByteArray := prog_1_method_5_code
def yX6_feed : MethodName := ⟨RX6, "feed", "(I)I"⟩
abbrev cX6_text : ByteArray := prog_1_method_6_code
def yX6_text : MethodName := ⟨RX6, "text", "()I"⟩
abbrev cX6_force : ByteArray := prog_1_method_7_code
def yX6_force : MethodName := ⟨RX6, "force", "(I)I"⟩
abbrev cX6_day : ByteArray := prog_1_method_8_code
def yX6_day : MethodName := ⟨RX6, "day", "()I"⟩
abbrev cX6_run : ByteArray := prog_1_method_9_code
def yX6_run : MethodName := ⟨RX6, "run", "(III)I"⟩
abbrev cX6_mend : ByteArray := prog_1_method_10_code
def yX6_mend : MethodName := ⟨RX6, "mend", "(I)I"⟩
abbrev cX6_far : ByteArray := prog_1_method_11_code
def yX6_far : MethodName := ⟨RX6, "far", "(III)I"⟩
abbrev cX6_least : ByteArray := prog_1_method_12_code
def yX6_least : MethodName := ⟨RX6, "least", "(III)I"⟩
abbrev cX6_heaviest : ByteArray := prog_1_method_13_code
def yX6_heaviest : MethodName := ⟨RX6, "heaviest", "(III)I"⟩
abbrev cX6_away : ByteArray := prog_1_method_14_code
def yX6_away : MethodName := ⟨RX6, "away", "(II)I"⟩
abbrev cX6_keeper : ByteArray := prog_1_method_15_code
def yX6_keeper : MethodName := ⟨RX6, "keeper", "(II)I"⟩
abbrev cX6_spare : ByteArray := prog_1_method_16_code
def yX6_spare : MethodName := ⟨RX6, "spare", "(II)I"⟩
abbrev cX6_tells : ByteArray := prog_1_method_17_code
def yX6_tells : MethodName := ⟨RX6, "tells", "(III)I"⟩
abbrev cX6_film : ByteArray := prog_1_method_18_code
def yX6_film : MethodName := ⟨RX6, "film", "(III)I"⟩
abbrev cX6_drawn : ByteArray := prog_1_method_19_code
def yX6_drawn : MethodName := ⟨RX6, "drawn", "(II)I"⟩
abbrev cX6_chance : ByteArray := prog_1_method_20_code
def yX6_chance : MethodName := ⟨RX6, "chance", "(III)J"⟩
abbrev cX6_image : ByteArray := prog_1_method_21_code
def yX6_image : MethodName := ⟨RX6, "image", "()I"⟩
abbrev cX6_back : ByteArray := prog_1_method_22_code
def yX6_back : MethodName := ⟨RX6, "back", "()I"⟩
abbrev cX6_count : ByteArray := prog_1_method_23_code
def yX6_count : MethodName := ⟨RX6, "count", "(I)I"⟩
abbrev cX6_sheet : ByteArray := prog_1_method_24_code
def yX6_sheet : MethodName := ⟨RX6, "sheet", "(III)I"⟩
abbrev cX6_cell : ByteArray := prog_1_method_25_code
def yX6_cell : MethodName := ⟨RX6, "cell", "(III)I"⟩
abbrev cX6_copy : ByteArray := prog_1_method_26_code
def yX6_copy : MethodName := ⟨RX6, "copy", "(IIIII)I"⟩
abbrev cX6_walkers : ByteArray := prog_1_method_27_code
def yX6_walkers : MethodName := ⟨RX6, "walkers", "(IIII)I"⟩
abbrev cX6_taken : ByteArray := prog_1_method_28_code
def yX6_taken : MethodName := ⟨RX6, "taken", "(II)I"⟩
abbrev cX6_within : ByteArray := prog_1_method_29_code
def yX6_within : MethodName := ⟨RX6, "within", "(III)Z"⟩
abbrev cX6_bounded : ByteArray := prog_1_method_30_code
def yX6_bounded : MethodName := ⟨RX6, "bounded", "(II)I"⟩
abbrev cX6_bit : ByteArray := prog_1_method_31_code
def yX6_bit : MethodName := ⟨RX6, "bit", "(Z)I"⟩
abbrev cX6_has : ByteArray := prog_1_method_32_code
def yX6_has : MethodName := ⟨RX6, "has", "(II)Z"⟩
abbrev cX6_isPart : ByteArray := prog_1_method_33_code
def yX6_isPart : MethodName := ⟨RX6, "isPart", "(II)Z"⟩
abbrev cX6_isDays : ByteArray := prog_1_method_34_code
def yX6_isDays : MethodName := ⟨RX6, "isDays", "(I)Z"⟩
abbrev cX6_isThing : ByteArray := prog_1_method_35_code
def yX6_isThing : MethodName := ⟨RX6, "isThing", "(I)Z"⟩
abbrev cX6_isUnder : ByteArray := prog_1_method_36_code
def yX6_isUnder : MethodName := ⟨RX6, "isUnder", "(II)Z"⟩
abbrev cX6_commonDivisor : ByteArray := prog_1_method_37_code
def yX6_commonDivisor : MethodName := ⟨RX6, "commonDivisor", "(II)I"⟩
abbrev cX6_walkerAt : ByteArray := prog_1_method_38_code
def yX6_walkerAt : MethodName := ⟨RX6, "walkerAt", "(I)LSolesByWhatIsTold$Walker;"⟩
abbrev cX6_sheetAt : ByteArray := prog_1_method_39_code
def yX6_sheetAt : MethodName := ⟨RX6, "sheetAt", "(I)LSolesByWhatIsTold$Sheet;"⟩
abbrev cX6_isKept : ByteArray := prog_1_method_40_code
def yX6_isKept : MethodName := ⟨RX6, "isKept", "(I)Z"⟩
abbrev cX6_names : ByteArray := prog_1_method_41_code
def yX6_names : MethodName := ⟨RX6, "names", "(II)Z"⟩
abbrev cX6_mostOf : ByteArray := prog_1_method_42_code
def yX6_mostOf : MethodName := ⟨RX6, "mostOf", "(I)I"⟩
abbrev cX6_valueOf : ByteArray := prog_1_method_43_code
def yX6_valueOf : MethodName := ⟨RX6, "valueOf", "(II)I"⟩
abbrev cX6_keep : ByteArray := prog_1_method_44_code
def yX6_keep : MethodName := ⟨RX6, "keep", "(III)V"⟩
abbrev cX6_keepOfWalker : ByteArray := prog_1_method_45_code
def yX6_keepOfWalker : MethodName := ⟨RX6, "keepOfWalker", "(ILSolesByWhatIsTold$Walker;I)V"⟩
abbrev cX6_think : ByteArray := prog_1_method_46_code
def yX6_think : MethodName := ⟨RX6, "think", "(LSolesByWhatIsTold$Walker;)V"⟩
abbrev cX6_thinkTold : ByteArray := prog_1_method_47_code
def yX6_thinkTold : MethodName := ⟨RX6, "thinkTold", "(LSolesByWhatIsTold$Walker;I)V"⟩
abbrev cX6_thinkOtherwise : ByteArray := prog_1_method_48_code
def yX6_thinkOtherwise : MethodName := ⟨RX6, "thinkOtherwise", "(LSolesByWhatIsTold$Walker;)V"⟩
abbrev cX6_weighAsNow : ByteArray := prog_1_method_49_code
def yX6_weighAsNow : MethodName := ⟨RX6, "weighAsNow", "()V"⟩
abbrev cX6_draw : ByteArray := prog_1_method_50_code
def yX6_draw : MethodName := ⟨RX6, "draw", "(I)V"⟩
abbrev cX6_stepsOfAll : ByteArray := prog_1_method_51_code
def yX6_stepsOfAll : MethodName := ⟨RX6, "stepsOfAll", "(I)I"⟩
abbrev cX6_eachIsHeldUp : ByteArray := prog_1_method_52_code
def yX6_eachIsHeldUp : MethodName := ⟨RX6, "eachIsHeldUp", "()Z"⟩
abbrev cX6_forgetSteps : ByteArray := prog_1_method_53_code
def yX6_forgetSteps : MethodName := ⟨RX6, "forgetSteps", "()V"⟩
abbrev cX6_stepIfTold : ByteArray := prog_1_method_54_code
def yX6_stepIfTold : MethodName := ⟨RX6, "stepIfTold", "(LSolesByWhatIsTold$Walker;II)I"⟩
abbrev cX6_countInSocks : ByteArray := prog_1_method_55_code
def yX6_countInSocks : MethodName := ⟨RX6, "countInSocks", "()I"⟩
abbrev cX6_countStopped : ByteArray := prog_1_method_56_code
def yX6_countStopped : MethodName := ⟨RX6, "countStopped", "()I"⟩
abbrev cX6_kindsBy : ByteArray := prog_1_method_57_code
def yX6_kindsBy : MethodName := ⟨RX6, "kindsBy", "(LSolesByWhatIsTold$Sheet;LSolesByWhatIsTold$Walker;)I"⟩
abbrev cX6_numbersBy : ByteArray := prog_1_method_58_code
def yX6_numbersBy : MethodName := ⟨RX6, "numbersBy", "(LSolesByWhatIsTold$Sheet;LSolesByWhatIsTold$Walker;)I"⟩
abbrev cX6_setsBy : ByteArray := prog_1_method_59_code
def yX6_setsBy : MethodName := ⟨RX6, "setsBy", "(LSolesByWhatIsTold$Sheet;LSolesByWhatIsTold$Walker;Z)I"⟩
abbrev cX6_textsBy : ByteArray := prog_1_method_60_code
def yX6_textsBy : MethodName := ⟨RX6, "textsBy", "(LSolesByWhatIsTold$Sheet;LSolesByWhatIsTold$Walker;)I"⟩
abbrev cX6_stepsBy : ByteArray := prog_1_method_61_code
def yX6_stepsBy : MethodName := ⟨RX6, "stepsBy", "(LSolesByWhatIsTold$Sheet;LSolesByWhatIsTold$Walker;Z)I"⟩
def RX7 : String := "SolesByWhatIsToldModel"
def TX7 : u_T := fun k => match k with
  | 0 => ("SolesByWhatIsToldModel", "thrown", "I", false)
  | 1 => ("SolesByWhatIsToldModel", "texts", "[I", true)
  | 2 => ("SolesByWhatIsToldModel", "textSize", "[I", true)
  | 3 => ("SolesByWhatIsToldModel", "textCount", "I", false)
  | 4 => ("SolesByWhatIsToldModel", "rule", "I", false)
  | 5 => ("SolesByWhatIsToldModel", "tape", "[I", true)
  | 6 => ("SolesByWhatIsToldModel", "taped", "I", false)
  | 7 => ("SolesByWhatIsToldModel", "dayNow", "I", false)
  | 8 => ("SolesByWhatIsToldModel", "heavy", "[I", true)
  | 9 => ("SolesByWhatIsToldModel", "kinds", "[I", true)
  | 10 => ("SolesByWhatIsToldModel", "rows", "[I", true)
  | 11 => ("SolesByWhatIsToldModel", "many", "I", false)
  | 12 => ("SolesByWhatIsToldModel", "ofTold", "I", false)
  | 13 => ("SolesByWhatIsToldModel", "ofUntold", "I", false)
  | 14 => ("SolesByWhatIsToldModel", "ofStep", "I", false)
  | 15 => ("SolesByWhatIsToldModel", "ofNumber", "I", false)
  | 16 => ("SolesByWhatIsToldModel", "ofDay", "I", false)
  | 17 => ("SolesByWhatIsToldModel", "ofWorn", "I", false)
  | 18 => ("SolesByWhatIsToldModel", "from", "I", false)
  | 19 => ("SolesByWhatIsToldModel", "size", "I", false)
  | 20 => ("SolesByWhatIsToldModel", "here", "I", false)
  | 21 => ("SolesByWhatIsToldModel", "token", "I", false)
  | 22 => ("SolesByWhatIsToldModel", "tokenAt", "I", false)
  | 23 => ("SolesByWhatIsToldModel", "tokenWorth", "J", false)
  | 24 => ("SolesByWhatIsToldModel", "open", "I", false)
  | 25 => ("SolesByWhatIsToldModel", "bad", "Z", false)
  | 26 => ("SolesByWhatIsToldModel", "fault", "I", false)
  | 27 => ("SolesByWhatIsToldModel", "toldWeight", "I", false)
  | 28 => ("SolesByWhatIsToldModel", "untoldWeight", "I", false)
  | 29 => ("SolesByWhatIsToldModel", "step", "I", false)
  | 30 => ("SolesByWhatIsToldModel", "worn", "I", false)
  | 31 => ("SolesByWhatIsToldModel", "today", "I", false)
  | 32 => ("SolesByWhatIsToldModel", "firstSocks", "I", false)
  | 33 => ("SolesByWhatIsToldModel", "firstStay", "I", false)
  | 34 => ("SolesByWhatIsToldModel", "found", "I", false)
  | 35 => ("SolesByWhatIsToldModel", "value", "I", false)
  | 36 => ("SolesByWhatIsToldModel", "heavyWas", "[I", true)
  | 37 => ("SolesByWhatIsToldModel", "heavyKept", "[I", true)
  | 38 => ("SolesByWhatIsToldModel", "rowsKept", "[I", true)
  | 39 => ("SolesByWhatIsToldModel", "manyKept", "I", false)
  | 40 => ("SolesByWhatIsToldModel", "dayKept", "I", false)
  | 41 => ("SolesByWhatIsToldModel", "ruleKept", "I", false)
  | 42 => ("SolesByWhatIsToldModel", "isThere", "[Z", true)
  | 43 => ("SolesByWhatIsToldModel", "sorts", "[I", true)
  | 44 => ("SolesByWhatIsToldModel", "sheetSize", "[I", true)
  | _ => ("SolesByWhatIsToldModel", "items", "[I", true)
def tyX7 : Nat → FieldType := fun k => match k with
  | 0 => .int
  | 1 => .array .int
  | 2 => .array .int
  | 3 => .int
  | 4 => .int
  | 5 => .array .int
  | 6 => .int
  | 7 => .int
  | 8 => .array .int
  | 9 => .array .int
  | 10 => .array .int
  | 11 => .int
  | 12 => .int
  | 13 => .int
  | 14 => .int
  | 15 => .int
  | 16 => .int
  | 17 => .int
  | 18 => .int
  | 19 => .int
  | 20 => .int
  | 21 => .int
  | 22 => .int
  | 23 => .long
  | 24 => .int
  | 25 => .boolean
  | 26 => .int
  | 27 => .int
  | 28 => .int
  | 29 => .int
  | 30 => .int
  | 31 => .int
  | 32 => .int
  | 33 => .int
  | 34 => .int
  | 35 => .int
  | 36 => .array .int
  | 37 => .array .int
  | 38 => .array .int
  | 39 => .int
  | 40 => .int
  | 41 => .int
  | 42 => .array .boolean
  | 43 => .array .int
  | 44 => .array .int
  | _ => .array .int
abbrev wsX70 : List Cond := u_ws RX7 TX7 46
theorem nmX7 : ∀ a, a < 46 → ∀ b, b < 46 → a ≠ b → (TX7 a).2.1 ≠ (TX7 b).2.1 := by decide +kernel
theorem tyX7_ok : ∀ k, k < 46 → parseFieldDescriptor (TX7 k).2.2.1 = some (tyX7 k) := by decide +kernel
abbrev cX7_in : ByteArray := prog_9_method_2_code
def yX7_in : MethodName := ⟨RX7, "in", "(JJJ)Z"⟩
abbrev cX7_within : ByteArray := prog_9_method_3_code
def yX7_within : MethodName := ⟨RX7, "within", "(III)I"⟩
abbrev cX7_init : ByteArray := prog_9_method_4_code
def yX7_init : MethodName := ⟨RX7, "<init>", "()V"⟩
abbrev cX7_spell : ByteArray := prog_9_method_5_code
def yX7_spell : MethodName := ⟨RX7, "spell", "(IIIIIIIII)V"⟩
abbrev cX7_isOne : ByteArray := prog_9_method_6_code
def yX7_isOne : MethodName := ⟨RX7, "isOne", "(I)Z"⟩
abbrev cX7_mostOf : ByteArray := prog_9_method_7_code
def yX7_mostOf : MethodName := ⟨RX7, "mostOf", "(I)I"⟩
abbrev cX7_isOf : ByteArray := prog_9_method_8_code
def yX7_isOf : MethodName := ⟨RX7, "isOf", "(II)Z"⟩
abbrev cX7_set : ByteArray := prog_9_method_9_code
def yX7_set : MethodName := ⟨RX7, "set", "(III)I"⟩
abbrev cX7_lays : ByteArray := prog_9_method_10_code
def yX7_lays : MethodName := ⟨RX7, "lays", "(III)V"⟩
abbrev cX7_walker : ByteArray := prog_9_method_11_code
def yX7_walker : MethodName := ⟨RX7, "walker", "(III)I"⟩
abbrev cX7_told : ByteArray := prog_9_method_12_code
def yX7_told : MethodName := ⟨RX7, "told", "(II)I"⟩
abbrev cX7_feed : ByteArray := prog_9_method_13_code
def yX7_feed : MethodName := ⟨RX7, "feed", "(I)I"⟩
abbrev cX7_byteAt : ByteArray := prog_9_method_14_code
def yX7_byteAt : MethodName := ⟨RX7, "byteAt", "(I)I"⟩
abbrev cX7_next : ByteArray := prog_9_method_15_code
def yX7_next : MethodName := ⟨RX7, "next", "()V"⟩
abbrev cX7_fail : ByteArray := prog_9_method_16_code
def yX7_fail : MethodName := ⟨RX7, "fail", "()V"⟩
abbrev cX7_isLetter : ByteArray := prog_9_method_17_code
def yX7_isLetter : MethodName := ⟨RX7, "isLetter", "(II)Z"⟩
abbrev cX7_isWord : ByteArray := prog_9_method_18_code
def yX7_isWord : MethodName := ⟨RX7, "isWord", "(IIIIIIII)Z"⟩
abbrev cX7_isSign : ByteArray := prog_9_method_19_code
def yX7_isSign : MethodName := ⟨RX7, "isSign", "(I)Z"⟩
abbrev cX7_opens : ByteArray := prog_9_method_20_code
def yX7_opens : MethodName := ⟨RX7, "opens", "()Z"⟩
abbrev cX7_name : ByteArray := prog_9_method_21_code
def yX7_name : MethodName := ⟨RX7, "name", "()I"⟩
abbrev cX7_atom5 : ByteArray := prog_9_method_22_code
def yX7_atom5 : MethodName := ⟨RX7, "atom5", "()I"⟩
abbrev cX7_term5 : ByteArray := prog_9_method_23_code
def yX7_term5 : MethodName := ⟨RX7, "term5", "()I"⟩
abbrev cX7_added5 : ByteArray := prog_9_method_24_code
def yX7_added5 : MethodName := ⟨RX7, "added5", "()I"⟩
abbrev cX7_not5 : ByteArray := prog_9_method_25_code
def yX7_not5 : MethodName := ⟨RX7, "not5", "()I"⟩
abbrev cX7_both5 : ByteArray := prog_9_method_26_code
def yX7_both5 : MethodName := ⟨RX7, "both5", "()I"⟩
abbrev cX7_either5 : ByteArray := prog_9_method_27_code
def yX7_either5 : MethodName := ⟨RX7, "either5", "()I"⟩
abbrev cX7_atom4 : ByteArray := prog_9_method_28_code
def yX7_atom4 : MethodName := ⟨RX7, "atom4", "()I"⟩
abbrev cX7_term4 : ByteArray := prog_9_method_29_code
def yX7_term4 : MethodName := ⟨RX7, "term4", "()I"⟩
abbrev cX7_added4 : ByteArray := prog_9_method_30_code
def yX7_added4 : MethodName := ⟨RX7, "added4", "()I"⟩
abbrev cX7_not4 : ByteArray := prog_9_method_31_code
def yX7_not4 : MethodName := ⟨RX7, "not4", "()I"⟩
abbrev cX7_both4 : ByteArray := prog_9_method_32_code
def yX7_both4 : MethodName := ⟨RX7, "both4", "()I"⟩
abbrev cX7_either4 : ByteArray := prog_9_method_33_code
def yX7_either4 : MethodName := ⟨RX7, "either4", "()I"⟩
abbrev cX7_atom3 : ByteArray := prog_9_method_34_code
def yX7_atom3 : MethodName := ⟨RX7, "atom3", "()I"⟩
abbrev cX7_term3 : ByteArray := prog_9_method_35_code
def yX7_term3 : MethodName := ⟨RX7, "term3", "()I"⟩
abbrev cX7_added3 : ByteArray := prog_9_method_36_code
def yX7_added3 : MethodName := ⟨RX7, "added3", "()I"⟩
abbrev cX7_not3 : ByteArray := prog_9_method_37_code
def yX7_not3 : MethodName := ⟨RX7, "not3", "()I"⟩
abbrev cX7_both3 : ByteArray := prog_9_method_38_code
def yX7_both3 : MethodName := ⟨RX7, "both3", "()I"⟩
abbrev cX7_either3 : ByteArray := prog_9_method_39_code
def yX7_either3 : MethodName := ⟨RX7, "either3", "()I"⟩
abbrev cX7_atom2 : ByteArray := prog_9_method_40_code
def yX7_atom2 : MethodName := ⟨RX7, "atom2", "()I"⟩
abbrev cX7_term2 : ByteArray := prog_9_method_41_code
def yX7_term2 : MethodName := ⟨RX7, "term2", "()I"⟩
abbrev cX7_added2 : ByteArray := prog_9_method_42_code
def yX7_added2 : MethodName := ⟨RX7, "added2", "()I"⟩
abbrev cX7_not2 : ByteArray := prog_9_method_43_code
def yX7_not2 : MethodName := ⟨RX7, "not2", "()I"⟩
abbrev cX7_both2 : ByteArray := prog_9_method_44_code
def yX7_both2 : MethodName := ⟨RX7, "both2", "()I"⟩
abbrev cX7_either2 : ByteArray := prog_9_method_45_code
def yX7_either2 : MethodName := ⟨RX7, "either2", "()I"⟩
abbrev cX7_atom1 : ByteArray := prog_9_method_46_code
def yX7_atom1 : MethodName := ⟨RX7, "atom1", "()I"⟩
abbrev cX7_term1 : ByteArray := prog_9_method_47_code
def yX7_term1 : MethodName := ⟨RX7, "term1", "()I"⟩
abbrev cX7_added1 : ByteArray := prog_9_method_48_code
def yX7_added1 : MethodName := ⟨RX7, "added1", "()I"⟩
abbrev cX7_not1 : ByteArray := prog_9_method_49_code
def yX7_not1 : MethodName := ⟨RX7, "not1", "()I"⟩
abbrev cX7_both1 : ByteArray := prog_9_method_50_code
def yX7_both1 : MethodName := ⟨RX7, "both1", "()I"⟩
abbrev cX7_either1 : ByteArray := prog_9_method_51_code
def yX7_either1 : MethodName := ⟨RX7, "either1", "()I"⟩
abbrev cX7_atom0 : ByteArray := prog_9_method_52_code
def yX7_atom0 : MethodName := ⟨RX7, "atom0", "()I"⟩
abbrev cX7_term0 : ByteArray := prog_9_method_53_code
def yX7_term0 : MethodName := ⟨RX7, "term0", "()I"⟩
abbrev cX7_added0 : ByteArray := prog_9_method_54_code
def yX7_added0 : MethodName := ⟨RX7, "added0", "()I"⟩
abbrev cX7_not0 : ByteArray := prog_9_method_55_code
def yX7_not0 : MethodName := ⟨RX7, "not0", "()I"⟩
abbrev cX7_both0 : ByteArray := prog_9_method_56_code
def yX7_both0 : MethodName := ⟨RX7, "both0", "()I"⟩
abbrev cX7_either0 : ByteArray := prog_9_method_57_code
def yX7_either0 : MethodName := ⟨RX7, "either0", "()I"⟩
abbrev cX7_part : ByteArray := prog_9_method_58_code
def yX7_part : MethodName := ⟨RX7, "part", "(Z)I"⟩
abbrev cX7_read : ByteArray := prog_9_method_59_code
def yX7_read : MethodName := ⟨RX7, "read", "(II)I"⟩
abbrev cX7_text : ByteArray := prog_9_method_60_code
def yX7_text : MethodName := ⟨RX7, "text", "()I"⟩
abbrev cX7_force : ByteArray := prog_9_method_61_code
def yX7_force : MethodName := ⟨RX7, "force", "(I)I"⟩
abbrev cX7_weightOf : ByteArray := prog_9_method_62_code
def yX7_weightOf : MethodName := ⟨RX7, "weightOf", "(I)I"⟩
abbrev cX7_begins : ByteArray := prog_9_method_63_code
def yX7_begins : MethodName := ⟨RX7, "begins", "(I)V"⟩
abbrev cX7_asks : ByteArray := prog_9_method_64_code
def yX7_asks : MethodName := ⟨RX7, "asks", "(II)I"⟩
abbrev cX7_lastsOf : ByteArray := prog_9_method_65_code
def yX7_lastsOf : MethodName := ⟨RX7, "lastsOf", "(I)I"⟩
abbrev cX7_paceOf : ByteArray := prog_9_method_66_code
def yX7_paceOf : MethodName := ⟨RX7, "paceOf", "(I)I"⟩
abbrev cX7_isStopped : ByteArray := prog_9_method_67_code
def yX7_isStopped : MethodName := ⟨RX7, "isStopped", "(I)Z"⟩
abbrev cX7_isInSocks : ByteArray := prog_9_method_68_code
def yX7_isInSocks : MethodName := ⟨RX7, "isInSocks", "(I)Z"⟩
abbrev cX7_goes : ByteArray := prog_9_method_69_code
def yX7_goes : MethodName := ⟨RX7, "goes", "(I)Z"⟩
abbrev cX7_lives : ByteArray := prog_9_method_70_code
def yX7_lives : MethodName := ⟨RX7, "lives", "(II)V"⟩
abbrev cX7_day : ByteArray := prog_9_method_71_code
def yX7_day : MethodName := ⟨RX7, "day", "()I"⟩
abbrev cX7_run : ByteArray := prog_9_method_72_code
def yX7_run : MethodName := ⟨RX7, "run", "(III)I"⟩
abbrev cX7_mend : ByteArray := prog_9_method_73_code
def yX7_mend : MethodName := ⟨RX7, "mend", "(I)I"⟩
abbrev cX7_stepBehind : ByteArray := prog_9_method_74_code
def yX7_stepBehind : MethodName := ⟨RX7, "stepBehind", "(II)I"⟩
abbrev cX7_allBehind : ByteArray := prog_9_method_75_code
def yX7_allBehind : MethodName := ⟨RX7, "allBehind", "(I)I"⟩
abbrev cX7_isLighter : ByteArray := prog_9_method_76_code
def yX7_isLighter : MethodName := ⟨RX7, "isLighter", "(I)Z"⟩
abbrev cX7_far : ByteArray := prog_9_method_77_code
def yX7_far : MethodName := ⟨RX7, "far", "(III)I"⟩
abbrev cX7_least : ByteArray := prog_9_method_78_code
def yX7_least : MethodName := ⟨RX7, "least", "(III)I"⟩
abbrev cX7_heaviest : ByteArray := prog_9_method_79_code
def yX7_heaviest : MethodName := ⟨RX7, "heaviest", "(III)I"⟩
abbrev cX7_daysTill : ByteArray := prog_9_method_80_code
def yX7_daysTill : MethodName := ⟨RX7, "daysTill", "(II)I"⟩
abbrev cX7_away : ByteArray := prog_9_method_81_code
def yX7_away : MethodName := ⟨RX7, "away", "(II)I"⟩
abbrev cX7_keeper : ByteArray := prog_9_method_82_code
def yX7_keeper : MethodName := ⟨RX7, "keeper", "(II)I"⟩
abbrev cX7_spare : ByteArray := prog_9_method_83_code
def yX7_spare : MethodName := ⟨RX7, "spare", "(II)I"⟩
abbrev cX7_firstOther : ByteArray := prog_9_method_84_code
def yX7_firstOther : MethodName := ⟨RX7, "firstOther", "(II)I"⟩
abbrev cX7_tells : ByteArray := prog_9_method_85_code
def yX7_tells : MethodName := ⟨RX7, "tells", "(III)I"⟩
abbrev cX7_film : ByteArray := prog_9_method_86_code
def yX7_film : MethodName := ⟨RX7, "film", "(III)I"⟩
abbrev cX7_draws : ByteArray := prog_9_method_87_code
def yX7_draws : MethodName := ⟨RX7, "draws", "(I)V"⟩
abbrev cX7_laysBack : ByteArray := prog_9_method_88_code
def yX7_laysBack : MethodName := ⟨RX7, "laysBack", "()V"⟩
abbrev cX7_drawn : ByteArray := prog_9_method_89_code
def yX7_drawn : MethodName := ⟨RX7, "drawn", "(II)I"⟩
abbrev cX7_chance : ByteArray := prog_9_method_90_code
def yX7_chance : MethodName := ⟨RX7, "chance", "(III)J"⟩
abbrev cX7_image : ByteArray := prog_9_method_91_code
def yX7_image : MethodName := ⟨RX7, "image", "()I"⟩
abbrev cX7_back : ByteArray := prog_9_method_92_code
def yX7_back : MethodName := ⟨RX7, "back", "()I"⟩
abbrev cX7_count : ByteArray := prog_9_method_93_code
def yX7_count : MethodName := ⟨RX7, "count", "(I)I"⟩
abbrev cX7_isSheet : ByteArray := prog_9_method_94_code
def yX7_isSheet : MethodName := ⟨RX7, "isSheet", "(I)Z"⟩
abbrev cX7_sheet : ByteArray := prog_9_method_95_code
def yX7_sheet : MethodName := ⟨RX7, "sheet", "(III)I"⟩
abbrev cX7_cell : ByteArray := prog_9_method_96_code
def yX7_cell : MethodName := ⟨RX7, "cell", "(III)I"⟩
abbrev cX7_copy : ByteArray := prog_9_method_97_code
def yX7_copy : MethodName := ⟨RX7, "copy", "(IIIII)I"⟩
abbrev cX7_walkers : ByteArray := prog_9_method_98_code
def yX7_walkers : MethodName := ⟨RX7, "walkers", "(IIII)I"⟩
abbrev cX7_over : ByteArray := prog_9_method_99_code
def yX7_over : MethodName := ⟨RX7, "over", "(I)I"⟩
abbrev cX7_taken : ByteArray := prog_9_method_100_code
def yX7_taken : MethodName := ⟨RX7, "taken", "(II)I"⟩
def RJ9 : String := "java/lang/Math"
def TJ9 : u_T := fun k => match k with
  | _ => ("", "", "", false)
def tyJ9 : Nat → FieldType := fun k => match k with
  | _ => .int
theorem nmJ9 : ∀ a, a < 0 → ∀ b, b < 0 → a ≠ b → (TJ9 a).2.1 ≠ (TJ9 b).2.1 := by decide +kernel
theorem tyJ9_ok : ∀ k, k < 0 → parseFieldDescriptor (TJ9 k).2.2.1 = some (tyJ9 k) := by decide +kernel
abbrev cJ9_max_7cf53 : ByteArray := prog_10_method_65_code
def yJ9_max_7cf53 : MethodName := ⟨RJ9, "max", "(II)I"⟩
abbrev cJ9_min_7cf53 : ByteArray := prog_10_method_69_code
def yJ9_min_7cf53 : MethodName := ⟨RJ9, "min", "(II)I"⟩
def RJ0 : String := "java/lang/String"
def TJ0 : u_T := fun k => match k with
  | _ => ("", "", "", false)
def tyJ0 : Nat → FieldType := fun k => match k with
  | _ => .int
theorem nmJ0 : ∀ a, a < 0 → ∀ b, b < 0 → a ≠ b → (TJ0 a).2.1 ≠ (TJ0 b).2.1 := by decide +kernel
theorem tyJ0_ok : ∀ k, k < 0 → parseFieldDescriptor (TJ0 k).2.2.1 = some (tyJ0 k) := by decide +kernel
abbrev cJ0_length_8abf5 : ByteArray := prog_11_method_54_code
def yJ0_length_8abf5 : MethodName := ⟨RJ0, "length", "()I"⟩
abbrev cJ0_charAt_5068e : ByteArray := prog_11_method_56_code
def yJ0_charAt_5068e : MethodName := ⟨RJ0, "charAt", "(I)C"⟩
abbrev cJ0_coder_7d493 : ByteArray := prog_11_method_152_code
def yJ0_coder_7d493 : MethodName := ⟨RJ0, "coder", "()B"⟩
abbrev cJ0_isLatin1_aae02 : ByteArray := prog_11_method_154_code
def yJ0_isLatin1_aae02 : MethodName := ⟨RJ0, "isLatin1", "()Z"⟩
abbrev cJ0_checkIndex_df160 : ByteArray := prog_11_method_155_code
def yJ0_checkIndex_df160 : MethodName := ⟨RJ0, "checkIndex", "(II)V"⟩
def RJ1 : String := "java/lang/StringLatin1"
def TJ1 : u_T := fun k => match k with
  | _ => ("", "", "", false)
def tyJ1 : Nat → FieldType := fun k => match k with
  | _ => .int
theorem nmJ1 : ∀ a, a < 0 → ∀ b, b < 0 → a ≠ b → (TJ1 a).2.1 ≠ (TJ1 b).2.1 := by decide +kernel
theorem tyJ1_ok : ∀ k, k < 0 → parseFieldDescriptor (TJ1 k).2.2.1 = some (tyJ1 k) := by decide +kernel
abbrev cJ1_charAt_3b067 : ByteArray := prog_12_method_2_code
def yJ1_charAt_3b067 : MethodName := ⟨RJ1, "charAt", "([BI)C"⟩
def RJ2 : String := "java/lang/StringUTF16"
def TJ2 : u_T := fun k => match k with
  | _ => ("", "", "", false)
def tyJ2 : Nat → FieldType := fun k => match k with
  | _ => .int
theorem nmJ2 : ∀ a, a < 0 → ∀ b, b < 0 → a ≠ b → (TJ2 a).2.1 ≠ (TJ2 b).2.1 := by decide +kernel
theorem tyJ2_ok : ∀ k, k < 0 → parseFieldDescriptor (TJ2 k).2.2.1 = some (tyJ2 k) := by decide +kernel
abbrev cJ2_getChar_3b067 : ByteArray := prog_13_method_5_code
def yJ2_getChar_3b067 : MethodName := ⟨RJ2, "getChar", "([BI)C"⟩
abbrev cJ2_length_9d52b : ByteArray := prog_13_method_6_code
def yJ2_length_9d52b : MethodName := ⟨RJ2, "length", "([B)I"⟩
abbrev cJ2_charAt_3b067 : ByteArray := prog_13_method_83_code
def yJ2_charAt_3b067 : MethodName := ⟨RJ2, "charAt", "([BI)C"⟩
abbrev cJ2_checkIndex_2214a : ByteArray := prog_13_method_91_code
def yJ2_checkIndex_2214a : MethodName := ⟨RJ2, "checkIndex", "(I[B)V"⟩
def RJ10 : String := "java/lang/System"
def TJ10 : u_T := fun k => match k with
  | _ => ("", "", "", false)
def tyJ10 : Nat → FieldType := fun k => match k with
  | _ => .int
theorem nmJ10 : ∀ a, a < 0 → ∀ b, b < 0 → a ≠ b → (TJ10 a).2.1 ≠ (TJ10 b).2.1 := by decide +kernel
theorem tyJ10_ok : ∀ k, k < 0 → parseFieldDescriptor (TJ10 k).2.2.1 = some (tyJ10 k) := by decide +kernel
def RJ7 : String := "java/util/Arrays"
def TJ7 : u_T := fun k => match k with
  | _ => ("", "", "", false)
def tyJ7 : Nat → FieldType := fun k => match k with
  | _ => .int
theorem nmJ7 : ∀ a, a < 0 → ∀ b, b < 0 → a ≠ b → (TJ7 a).2.1 ≠ (TJ7 b).2.1 := by decide +kernel
theorem tyJ7_ok : ∀ k, k < 0 → parseFieldDescriptor (TJ7 k).2.2.1 = some (tyJ7 k) := by decide +kernel
abbrev cJ7_fill_53178 : ByteArray := prog_15_method_103_code
def yJ7_fill_53178 : MethodName := ⟨RJ7, "fill", "([II)V"⟩
def RJ3 : String := "jdk/internal/util/Preconditions"
def TJ3 : u_T := fun k => match k with
  | _ => ("", "", "", false)
def tyJ3 : Nat → FieldType := fun k => match k with
  | _ => .int
theorem nmJ3 : ∀ a, a < 0 → ∀ b, b < 0 → a ≠ b → (TJ3 a).2.1 ≠ (TJ3 b).2.1 := by decide +kernel
theorem tyJ3_ok : ∀ k, k < 0 → parseFieldDescriptor (TJ3 k).2.2.1 = some (tyJ3 k) := by decide +kernel
abbrev cJ3_checkIndex_8e157 : ByteArray := prog_16_method_11_code
def yJ3_checkIndex_8e157 : MethodName := ⟨RJ3, "checkIndex", "(IILjava/util/function/BiFunction;)I"⟩
def RL : String := "SolesByWhatIsToldLaw"
abbrev cL_law : ByteArray := code
def yL_law : MethodName := ⟨RL, "law", "([I)Z"⟩
abbrev vwCl : List vw_C := [(RX0, TX0, 6), (RX1, TX1, 9), (RX2, TX2, 3), (RX3, TX3, 4), (RX4, TX4, 9), (RX5, TX5, 6), (RX6, TX6, 13), (RX7, TX7, 46)]
/-- the words that every method is given: all good ones of the tables -/
def lw_U : List Cond := lw_tbl.filter goodWord
theorem lw_inU {w : Cond} (h : w ∈ lw_tbl) (hg : goodWord w = true) : w ∈ lw_U := List.mem_filter.mpr ⟨h, hg⟩
theorem lw_in1 (i : Nat) {w : Cond} (h : tables_1_1[i]? = some w) (hg : goodWord w = true) : w ∈ lw_U := lw_inU (List.mem_append_right _ (List.mem_append_left _ (List.mem_of_getElem? h))) hg
theorem lw_in2 (i : Nat) {w : Cond} (h : tables_1_2[i]? = some w) (hg : goodWord w = true) : w ∈ lw_U := lw_inU (List.mem_append_right _ (List.mem_append_right _ (List.mem_append_left _ (List.mem_of_getElem? h)))) hg
theorem lw_in3 (i : Nat) {w : Cond} (h : tables_1_3[i]? = some w) (hg : goodWord w = true) : w ∈ lw_U := lw_inU (List.mem_append_right _ (List.mem_append_right _ (List.mem_append_right _ (List.mem_append_left _ (List.mem_of_getElem? h))))) hg
theorem lw_in4 (i : Nat) {w : Cond} (h : tables_1_4[i]? = some w) (hg : goodWord w = true) : w ∈ lw_U := lw_inU (List.mem_append_right _ (List.mem_append_right _ (List.mem_append_right _ (List.mem_append_right _ (List.mem_append_left _ (List.mem_of_getElem? h)))))) hg
theorem lw_in5 (i : Nat) {w : Cond} (h : tables_1_5[i]? = some w) (hg : goodWord w = true) : w ∈ lw_U := lw_inU (List.mem_append_right _ (List.mem_append_right _ (List.mem_append_right _ (List.mem_append_right _ (List.mem_append_right _ (List.mem_append_left _ (List.mem_of_getElem? h))))))) hg
theorem lw_in6 (i : Nat) {w : Cond} (h : tables_1_6[i]? = some w) (hg : goodWord w = true) : w ∈ lw_U := lw_inU (List.mem_append_right _ (List.mem_append_right _ (List.mem_append_right _ (List.mem_append_right _ (List.mem_append_right _ (List.mem_append_right _ (List.mem_of_getElem? h))))))) hg
theorem lw_sel (i : Nat) {w : Cond} (h : (k2_sels lw_privs)[i]? = some w) (hg : goodWord w = true) : w ∈ lw_U := lw_inU (List.mem_append_left _ (List.mem_of_getElem? h)) hg
theorem lw_Ugood : ∀ w ∈ lw_U, w ∈ lw_tbl ∧ ((w.onTables && w.keeps) = true ∨ ∃ ty, w = .arrayClass ty) := fun w h => ⟨(List.mem_filter.mp h).1, good_of_word (List.mem_filter.mp h).2⟩
theorem lw_goodIn : GoodIn lw_U lw_U := fun w h => ⟨h, good_of_word (List.mem_filter.mp h).2⟩
end
section
theorem win_L : Cond.initialized RL ∈ lw_U := lw_in1 0 rfl rfl
theorem win_X6 : Cond.initialized RX6 ∈ lw_U := lw_in1 1 rfl rfl
theorem win_X1 : Cond.initialized RX1 ∈ lw_U := lw_in1 2 rfl rfl
theorem win_X0 : Cond.initialized RX0 ∈ lw_U := lw_in1 3 rfl rfl
theorem win_X5 : Cond.initialized RX5 ∈ lw_U := lw_in1 4 rfl rfl
theorem win_J7 : Cond.initialized RJ7 ∈ lw_U := lw_in1 5 rfl rfl
theorem win_X3 : Cond.initialized RX3 ∈ lw_U := lw_in1 6 rfl rfl
theorem win_X2 : Cond.initialized RX2 ∈ lw_U := lw_in1 7 rfl rfl
theorem win_J0 : Cond.initialized RJ0 ∈ lw_U := lw_in1 8 rfl rfl
theorem win_J1 : Cond.initialized RJ1 ∈ lw_U := lw_in1 9 rfl rfl
theorem win_J3 : Cond.initialized RJ3 ∈ lw_U := lw_in1 10 rfl rfl
theorem win_J2 : Cond.initialized RJ2 ∈ lw_U := lw_in1 11 rfl rfl
theorem win_X4 : Cond.initialized RX4 ∈ lw_U := lw_in1 12 rfl rfl
theorem win_X7 : Cond.initialized RX7 ∈ lw_U := lw_in1 13 rfl rfl
theorem win_J9 : Cond.initialized RJ9 ∈ lw_U := lw_in1 14 rfl rfl
theorem win_J10 : Cond.initialized RJ10 ∈ lw_U := lw_in1 15 rfl rfl
theorem wcl_L_7 : Cond.classLink RL 7 RX6 ∈ lw_U := lw_in1 16 rfl rfl
theorem wia_X6 : Cond.instantiable RX6 13 ∈ lw_U := lw_in1 17 rfl rfl
theorem wml_L_9 : Cond.methodLink RL 9 yX6_init ∈ lw_U := lw_in1 18 rfl rfl
theorem wim_X6_init : Cond.instanceMethod yX6_init ∈ lw_U := lw_in1 19 rfl rfl
theorem wco_X6_init : Cond.code yX6_init cX6_init 2 (none) ∈ lw_U := lw_in1 20 rfl rfl
theorem wcl_X6_16 : Cond.classLink RX6 16 RX5 ∈ lw_U := lw_in1 24 rfl rfl
theorem wao_X5 : Cond.arrayOver (.object RX5) ∈ lw_tbl := List.mem_append_right _ (List.mem_of_getElem? (i := 25) (by decide +kernel))
theorem wcl_X6_29 : Cond.classLink RX6 29 RX3 ∈ lw_U := lw_in1 26 rfl rfl
theorem wao_X3 : Cond.arrayOver (.object RX3) ∈ lw_tbl := List.mem_append_right _ (List.mem_of_getElem? (i := 27) (by decide +kernel))
theorem wcl_X6_41 : Cond.classLink RX6 41 RX1 ∈ lw_U := lw_in1 28 rfl rfl
theorem wia_X1 : Cond.instantiable RX1 9 ∈ lw_U := lw_in1 29 rfl rfl
theorem wmn_X6_43 : Cond.methodLinkNest RX6 43 yX1_init RX6 ∈ lw_tbl := List.mem_append_right _ (List.mem_of_getElem? (i := 30) (by decide +kernel))
theorem wim_X1_init : Cond.instanceMethod yX1_init ∈ lw_U := lw_in1 31 rfl rfl
theorem wco_X1_init : Cond.code yX1_init cX1_init 1 (none) ∈ lw_U := lw_in1 32 rfl rfl
theorem wfl_X1_9 : Cond.fieldLink RX1 9 "SolesByWhatIsTold$Reader" "bytes" "[I" ∈ lw_U := lw_in1 34 rfl rfl
theorem wfl_X1_15 : Cond.fieldLink RX1 15 "SolesByWhatIsTold$Reader" "size" "I" ∈ lw_U := lw_in1 35 rfl rfl
theorem wfl_X6_163 : Cond.fieldLink RX6 163 "SolesByWhatIsTold$Reader" "size" "I" ∈ lw_U := lw_in1 36 rfl rfl
theorem wfl_X1_28 : Cond.fieldLink RX1 28 "SolesByWhatIsTold$Reader" "at" "I" ∈ lw_U := lw_in1 37 rfl rfl
theorem wfl_X1_56 : Cond.fieldLink RX1 56 "SolesByWhatIsTold$Reader" "start" "I" ∈ lw_U := lw_in1 38 rfl rfl
theorem wfl_X1_50 : Cond.fieldLink RX1 50 "SolesByWhatIsTold$Reader" "token" "I" ∈ lw_U := lw_in1 39 rfl rfl
theorem wfl_X1_81 : Cond.fieldLink RX1 81 "SolesByWhatIsTold$Reader" "amount" "I" ∈ lw_U := lw_in1 40 rfl rfl
theorem wfl_X1_31 : Cond.fieldLink RX1 31 "SolesByWhatIsTold$Reader" "open" "I" ∈ lw_U := lw_in1 41 rfl rfl
theorem wfl_X1_34 : Cond.fieldLink RX1 34 "SolesByWhatIsTold$Reader" "fault" "I" ∈ lw_U := lw_in1 42 rfl rfl
theorem wfl_X1_19 : Cond.fieldLink RX1 19 "SolesByWhatIsTold$Reader" "into" "LSolesByWhatIsTold$Text;" ∈ lw_U := lw_in1 43 rfl rfl
theorem wac_int : Cond.arrayClass .int ∈ lw_U := lw_in1 63 rfl rfl
theorem wcl_X6_51 : Cond.classLink RX6 51 RX0 ∈ lw_U := lw_in1 64 rfl rfl
theorem wia_X0 : Cond.instantiable RX0 6 ∈ lw_U := lw_in1 65 rfl rfl
theorem wml_X6_53 : Cond.methodLink RX6 53 yX0_init ∈ lw_U := lw_in1 66 rfl rfl
theorem wim_X0_init : Cond.instanceMethod yX0_init ∈ lw_U := lw_in1 67 rfl rfl
theorem wco_X0_init : Cond.code yX0_init cX0_init 2 (none) ∈ lw_U := lw_in1 68 rfl rfl
theorem wcl_X0_29 : Cond.classLink RX0 29 RX5 ∈ lw_U := lw_in1 70 rfl rfl
theorem wia_X5 : Cond.instantiable RX5 6 ∈ lw_U := lw_in1 71 rfl rfl
theorem wmn_X0_35 : Cond.methodLinkNest RX0 35 yX5_init RX6 ∈ lw_tbl := List.mem_append_right _ (List.mem_of_getElem? (i := 72) (by decide +kernel))
theorem wim_X5_init : Cond.instanceMethod yX5_init ∈ lw_U := lw_in1 73 rfl rfl
theorem wco_X5_init : Cond.code yX5_init cX5_init 1 (none) ∈ lw_U := lw_in1 74 rfl rfl
theorem wfl_X5_7 : Cond.fieldLink RX5 7 "SolesByWhatIsTold$Walker" "kind" "I" ∈ lw_U := lw_in1 76 rfl rfl
theorem wfl_X4_19 : Cond.fieldLink RX4 19 "SolesByWhatIsTold$Walker" "kind" "I" ∈ lw_U := lw_in1 77 rfl rfl
theorem wfl_X6_137 : Cond.fieldLink RX6 137 "SolesByWhatIsTold$Walker" "kind" "I" ∈ lw_U := lw_in1 78 rfl rfl
theorem wfl_X5_13 : Cond.fieldLink RX5 13 "SolesByWhatIsTold$Walker" "number" "I" ∈ lw_U := lw_in1 79 rfl rfl
theorem wfl_X4_26 : Cond.fieldLink RX4 26 "SolesByWhatIsTold$Walker" "number" "I" ∈ lw_U := lw_in1 80 rfl rfl
theorem wfl_X6_318 : Cond.fieldLink RX6 318 "SolesByWhatIsTold$Walker" "number" "I" ∈ lw_U := lw_in1 81 rfl rfl
theorem wfl_X5_16 : Cond.fieldLink RX5 16 "SolesByWhatIsTold$Walker" "ties" "I" ∈ lw_U := lw_in1 82 rfl rfl
theorem wfl_X6_195 : Cond.fieldLink RX6 195 "SolesByWhatIsTold$Walker" "ties" "I" ∈ lw_U := lw_in1 83 rfl rfl
theorem wfl_X5_19 : Cond.fieldLink RX5 19 "SolesByWhatIsTold$Walker" "told" "I" ∈ lw_U := lw_in1 84 rfl rfl
theorem wfl_X6_220 : Cond.fieldLink RX6 220 "SolesByWhatIsTold$Walker" "told" "I" ∈ lw_U := lw_in1 85 rfl rfl
theorem wfl_X4_30 : Cond.fieldLink RX4 30 "SolesByWhatIsTold$Walker" "step" "I" ∈ lw_U := lw_in1 86 rfl rfl
theorem wfl_X5_22 : Cond.fieldLink RX5 22 "SolesByWhatIsTold$Walker" "step" "I" ∈ lw_U := lw_in1 87 rfl rfl
theorem wfl_X6_172 : Cond.fieldLink RX6 172 "SolesByWhatIsTold$Walker" "step" "I" ∈ lw_U := lw_in1 88 rfl rfl
theorem wfl_X4_34 : Cond.fieldLink RX4 34 "SolesByWhatIsTold$Walker" "worn" "I" ∈ lw_U := lw_in1 89 rfl rfl
theorem wfl_X5_25 : Cond.fieldLink RX5 25 "SolesByWhatIsTold$Walker" "worn" "I" ∈ lw_U := lw_in1 90 rfl rfl
theorem wfl_X6_176 : Cond.fieldLink RX6 176 "SolesByWhatIsTold$Walker" "worn" "I" ∈ lw_U := lw_in1 91 rfl rfl
theorem wfl_X0_9 : Cond.fieldLink RX0 9 "SolesByWhatIsTold$Image" "stands" "Z" ∈ lw_U := lw_in1 105 rfl rfl
theorem wfl_X6_276 : Cond.fieldLink RX6 276 "SolesByWhatIsTold$Image" "stands" "Z" ∈ lw_U := lw_in1 106 rfl rfl
theorem wfl_X0_15 : Cond.fieldLink RX0 15 "SolesByWhatIsTold$Image" "day" "I" ∈ lw_U := lw_in1 107 rfl rfl
theorem wfl_X6_280 : Cond.fieldLink RX6 280 "SolesByWhatIsTold$Image" "day" "I" ∈ lw_U := lw_in1 108 rfl rfl
theorem wfl_X0_19 : Cond.fieldLink RX0 19 "SolesByWhatIsTold$Image" "rule" "I" ∈ lw_U := lw_in1 109 rfl rfl
theorem wfl_X6_283 : Cond.fieldLink RX6 283 "SolesByWhatIsTold$Image" "rule" "I" ∈ lw_U := lw_in1 110 rfl rfl
theorem wfl_X0_22 : Cond.fieldLink RX0 22 "SolesByWhatIsTold$Image" "walkerCount" "I" ∈ lw_U := lw_in1 111 rfl rfl
theorem wfl_X6_284 : Cond.fieldLink RX6 284 "SolesByWhatIsTold$Image" "walkerCount" "I" ∈ lw_U := lw_in1 112 rfl rfl
theorem wfl_X0_25 : Cond.fieldLink RX0 25 "SolesByWhatIsTold$Image" "weights" "[I" ∈ lw_U := lw_in1 113 rfl rfl
theorem wfl_X6_285 : Cond.fieldLink RX6 285 "SolesByWhatIsTold$Image" "weights" "[I" ∈ lw_U := lw_in1 114 rfl rfl
theorem wfl_X0_31 : Cond.fieldLink RX0 31 "SolesByWhatIsTold$Image" "road" "[LSolesByWhatIsTold$Walker;" ∈ lw_U := lw_in1 115 rfl rfl
theorem wfl_X6_292 : Cond.fieldLink RX6 292 "SolesByWhatIsTold$Image" "road" "[LSolesByWhatIsTold$Walker;" ∈ lw_U := lw_in1 116 rfl rfl
theorem wcl_X6_58 : Cond.classLink RX6 58 RX2 ∈ lw_U := lw_in1 130 rfl rfl
theorem wao_X2 : Cond.arrayOver (.object RX2) ∈ lw_tbl := List.mem_append_right _ (List.mem_of_getElem? (i := 131) (by decide +kernel))
theorem wml_X6_64 : Cond.methodLink RX6 64 yJ7_fill_53178 ∈ lw_U := lw_in1 132 rfl rfl
theorem wst_J7_fill_53178 : Cond.static yJ7_fill_53178 ∈ lw_U := lw_in1 133 rfl rfl
theorem wco_J7_fill_53178 : Cond.code yJ7_fill_53178 cJ7_fill_53178 4 (none) ∈ lw_U := lw_in1 134 rfl rfl
theorem wmn_X6_70 : Cond.methodLinkNest RX6 70 yX5_init RX6 ∈ lw_tbl := List.mem_append_right _ (List.mem_of_getElem? (i := 135) (by decide +kernel))
theorem wia_X3 : Cond.instantiable RX3 4 ∈ lw_U := lw_in1 136 rfl rfl
theorem wmn_X6_71 : Cond.methodLinkNest RX6 71 yX3_init RX6 ∈ lw_tbl := List.mem_append_right _ (List.mem_of_getElem? (i := 137) (by decide +kernel))
theorem wim_X3_init : Cond.instanceMethod yX3_init ∈ lw_U := lw_in1 138 rfl rfl
theorem wco_X3_init : Cond.code yX3_init cX3_init 1 (none) ∈ lw_U := lw_in1 139 rfl rfl
theorem wfl_X3_9 : Cond.fieldLink RX3 9 "SolesByWhatIsTold$Text" "steps" "[I" ∈ lw_U := lw_in1 141 rfl rfl
theorem wfl_X4_101 : Cond.fieldLink RX4 101 "SolesByWhatIsTold$Text" "steps" "[I" ∈ lw_U := lw_in1 142 rfl rfl
theorem wfl_X3_15 : Cond.fieldLink RX3 15 "SolesByWhatIsTold$Text" "ends" "[I" ∈ lw_U := lw_in1 143 rfl rfl
theorem wfl_X3_18 : Cond.fieldLink RX3 18 "SolesByWhatIsTold$Text" "size" "I" ∈ lw_U := lw_in1 144 rfl rfl
theorem wfl_X3_22 : Cond.fieldLink RX3 22 "SolesByWhatIsTold$Text" "tellsDay" "Z" ∈ lw_U := lw_in1 145 rfl rfl
theorem wfl_X4_84 : Cond.fieldLink RX4 84 "SolesByWhatIsTold$Text" "tellsDay" "Z" ∈ lw_U := lw_in1 146 rfl rfl
theorem wia_X2 : Cond.instantiable RX2 3 ∈ lw_U := lw_in1 156 rfl rfl
theorem wmn_X6_72 : Cond.methodLinkNest RX6 72 yX2_init RX6 ∈ lw_tbl := List.mem_append_right _ (List.mem_of_getElem? (i := 157) (by decide +kernel))
theorem wim_X2_init : Cond.instanceMethod yX2_init ∈ lw_U := lw_in1 158 rfl rfl
theorem wco_X2_init : Cond.code yX2_init cX2_init 1 (none) ∈ lw_U := lw_in1 159 rfl rfl
theorem wfl_X2_9 : Cond.fieldLink RX2 9 "SolesByWhatIsTold$Sheet" "items" "[I" ∈ lw_U := lw_in1 161 rfl rfl
theorem wfl_X4_98 : Cond.fieldLink RX4 98 "SolesByWhatIsTold$Sheet" "items" "[I" ∈ lw_U := lw_in1 162 rfl rfl
theorem wfl_X6_308 : Cond.fieldLink RX6 308 "SolesByWhatIsTold$Sheet" "items" "[I" ∈ lw_U := lw_in1 163 rfl rfl
theorem wfl_X2_15 : Cond.fieldLink RX2 15 "SolesByWhatIsTold$Sheet" "sort" "I" ∈ lw_U := lw_in1 164 rfl rfl
theorem wfl_X6_305 : Cond.fieldLink RX6 305 "SolesByWhatIsTold$Sheet" "sort" "I" ∈ lw_U := lw_in1 165 rfl rfl
theorem wfl_X2_19 : Cond.fieldLink RX2 19 "SolesByWhatIsTold$Sheet" "size" "I" ∈ lw_U := lw_in1 166 rfl rfl
theorem wfl_X4_93 : Cond.fieldLink RX4 93 "SolesByWhatIsTold$Sheet" "size" "I" ∈ lw_U := lw_in1 167 rfl rfl
theorem wsr_X6_73 : Cond.stringRef RX6 73 "lasts told * 3 + 5 ; paces 10 - untold ; stops 50 < untold ;" ∈ lw_tbl := List.mem_append_right _ (List.mem_of_getElem? (i := 175) (by decide +kernel))
theorem wml_X6_75 : Cond.methodLink RX6 75 yJ0_length_8abf5 ∈ lw_U := lw_in1 176 rfl rfl
theorem wim_J0_length_8abf5 : Cond.instanceMethod yJ0_length_8abf5 ∈ lw_U := lw_in1 177 rfl rfl
theorem wse_J0_length_8abf5 : Cond.selects RJ0 yJ0_length_8abf5 yJ0_length_8abf5 ∈ lw_U := lw_in1 178 rfl rfl
theorem wco_J0_length_8abf5 : Cond.code yJ0_length_8abf5 cJ0_length_8abf5 1 (some FieldType.int) ∈ lw_U := lw_in1 179 rfl rfl
theorem wml_J0_335 : Cond.methodLink RJ0 335 yJ0_coder_7d493 ∈ lw_U := lw_in1 180 rfl rfl
theorem wim_J0_coder_7d493 : Cond.instanceMethod yJ0_coder_7d493 ∈ lw_U := lw_in1 181 rfl rfl
theorem wse_J0_coder_7d493 : Cond.selects RJ0 yJ0_coder_7d493 yJ0_coder_7d493 ∈ lw_U := lw_in1 182 rfl rfl
theorem wco_J0_coder_7d493 : Cond.code yJ0_coder_7d493 cJ0_coder_7d493 1 (some FieldType.byte) ∈ lw_U := lw_in1 183 rfl rfl
theorem wfl_J0_38 : Cond.fieldLink RJ0 38 "java/lang/String" "COMPACT_STRINGS" "Z" ∈ lw_U := lw_in1 184 rfl rfl
theorem wml_X6_81 : Cond.methodLink RX6 81 yJ0_charAt_5068e ∈ lw_U := lw_in1 186 rfl rfl
theorem wim_J0_charAt_5068e : Cond.instanceMethod yJ0_charAt_5068e ∈ lw_U := lw_in1 187 rfl rfl
theorem wse_J0_charAt_5068e : Cond.selects RJ0 yJ0_charAt_5068e yJ0_charAt_5068e ∈ lw_U := lw_in1 188 rfl rfl
theorem wco_J0_charAt_5068e : Cond.code yJ0_charAt_5068e cJ0_charAt_5068e 2 (some FieldType.char) ∈ lw_U := lw_in1 189 rfl rfl
theorem wml_J0_492 : Cond.methodLink RJ0 492 yJ0_isLatin1_aae02 ∈ lw_U := lw_in1 190 rfl rfl
theorem wim_J0_isLatin1_aae02 : Cond.instanceMethod yJ0_isLatin1_aae02 ∈ lw_U := lw_in1 191 rfl rfl
theorem wse_J0_isLatin1_aae02 : Cond.selects RJ0 yJ0_isLatin1_aae02 yJ0_isLatin1_aae02 ∈ lw_U := lw_in1 192 rfl rfl
theorem wco_J0_isLatin1_aae02 : Cond.code yJ0_isLatin1_aae02 cJ0_isLatin1_aae02 1 (some FieldType.boolean) ∈ lw_U := lw_in1 193 rfl rfl
theorem wml_J0_495 : Cond.methodLink RJ0 495 yJ1_charAt_3b067 ∈ lw_U := lw_in1 194 rfl rfl
theorem wst_J1_charAt_3b067 : Cond.static yJ1_charAt_3b067 ∈ lw_U := lw_in1 195 rfl rfl
theorem wco_J1_charAt_3b067 : Cond.code yJ1_charAt_3b067 cJ1_charAt_3b067 2 (some FieldType.char) ∈ lw_U := lw_in1 196 rfl rfl
theorem wml_J1_9 : Cond.methodLink RJ1 9 yJ0_checkIndex_df160 ∈ lw_U := lw_in1 197 rfl rfl
theorem wst_J0_checkIndex_df160 : Cond.static yJ0_checkIndex_df160 ∈ lw_U := lw_in1 198 rfl rfl
theorem wco_J0_checkIndex_df160 : Cond.code yJ0_checkIndex_df160 cJ0_checkIndex_df160 2 (none) ∈ lw_U := lw_in1 199 rfl rfl
theorem wfl_J0_1053 : Cond.fieldLink RJ0 1053 "jdk/internal/util/Preconditions" "SIOOBE_FORMATTER" "Ljava/util/function/BiFunction;" ∈ lw_U := lw_in1 200 rfl rfl
theorem wml_J0_1059 : Cond.methodLink RJ0 1059 yJ3_checkIndex_8e157 ∈ lw_U := lw_in1 202 rfl rfl
theorem wst_J3_checkIndex_8e157 : Cond.static yJ3_checkIndex_8e157 ∈ lw_U := lw_in1 203 rfl rfl
theorem wco_J3_checkIndex_8e157 : Cond.code yJ3_checkIndex_8e157 cJ3_checkIndex_8e157 3 (some FieldType.int) ∈ lw_U := lw_in1 204 rfl rfl
theorem wml_J0_498 : Cond.methodLink RJ0 498 yJ2_charAt_3b067 ∈ lw_U := lw_in1 205 rfl rfl
theorem wst_J2_charAt_3b067 : Cond.static yJ2_charAt_3b067 ∈ lw_U := lw_in1 206 rfl rfl
theorem wco_J2_charAt_3b067 : Cond.code yJ2_charAt_3b067 cJ2_charAt_3b067 2 (some FieldType.char) ∈ lw_U := lw_in1 207 rfl rfl
theorem wml_J2_67 : Cond.methodLink RJ2 67 yJ2_checkIndex_2214a ∈ lw_U := lw_in1 208 rfl rfl
theorem wst_J2_checkIndex_2214a : Cond.static yJ2_checkIndex_2214a ∈ lw_U := lw_in1 209 rfl rfl
theorem wco_J2_checkIndex_2214a : Cond.code yJ2_checkIndex_2214a cJ2_checkIndex_2214a 2 (none) ∈ lw_U := lw_in1 210 rfl rfl
theorem wml_J2_48 : Cond.methodLink RJ2 48 yJ2_length_9d52b ∈ lw_U := lw_in1 211 rfl rfl
theorem wst_J2_length_9d52b : Cond.static yJ2_length_9d52b ∈ lw_U := lw_in1 212 rfl rfl
theorem wco_J2_length_9d52b : Cond.code yJ2_length_9d52b cJ2_length_9d52b 1 (some FieldType.int) ∈ lw_U := lw_in1 213 rfl rfl
theorem wml_J2_414 : Cond.methodLink RJ2 414 yJ0_checkIndex_df160 ∈ lw_U := lw_in1 214 rfl rfl
theorem wml_J2_71 : Cond.methodLink RJ2 71 yJ2_getChar_3b067 ∈ lw_U := lw_in1 215 rfl rfl
theorem wst_J2_getChar_3b067 : Cond.static yJ2_getChar_3b067 ∈ lw_U := lw_in1 216 rfl rfl
theorem wco_J2_getChar_3b067 : Cond.code yJ2_getChar_3b067 cJ2_getChar_3b067 2 (some FieldType.char) ∈ lw_U := lw_in1 217 rfl rfl
theorem wfl_J2_44 : Cond.fieldLink RJ2 44 "java/lang/StringUTF16" "$assertionsDisabled" "Z" ∈ lw_U := lw_in1 218 rfl rfl
theorem wfl_J2_59 : Cond.fieldLink RJ2 59 "java/lang/StringUTF16" "HI_BYTE_SHIFT" "I" ∈ lw_U := lw_in1 220 rfl rfl
theorem wfl_J2_63 : Cond.fieldLink RJ2 63 "java/lang/StringUTF16" "LO_BYTE_SHIFT" "I" ∈ lw_U := lw_in1 222 rfl rfl
theorem wml_X6_85 : Cond.methodLink RX6 85 yX1_append ∈ lw_U := lw_in1 224 rfl rfl
theorem wim_X1_append : Cond.instanceMethod yX1_append ∈ lw_U := lw_in1 225 rfl rfl
theorem wse_X1_append : Cond.selects RX1 yX1_append yX1_append ∈ lw_U := lw_in1 226 rfl rfl
theorem wco_X1_append : Cond.code yX1_append cX1_append 2 (none) ∈ lw_U := lw_in1 227 rfl rfl
theorem wml_X6_89 : Cond.methodLink RX6 89 yX1_readInto ∈ lw_U := lw_in1 228 rfl rfl
theorem wim_X1_readInto : Cond.instanceMethod yX1_readInto ∈ lw_U := lw_in1 229 rfl rfl
theorem wse_X1_readInto : Cond.selects RX1 yX1_readInto yX1_readInto ∈ lw_U := lw_in1 230 rfl rfl
theorem wco_X1_readInto : Cond.code yX1_readInto cX1_readInto 3 (some FieldType.int) ∈ lw_U := lw_in1 231 rfl rfl
theorem wml_X1_23 : Cond.methodLink RX1 23 yX3_clear ∈ lw_U := lw_in1 232 rfl rfl
theorem wim_X3_clear : Cond.instanceMethod yX3_clear ∈ lw_U := lw_in1 233 rfl rfl
theorem wse_X3_clear : Cond.selects RX3 yX3_clear yX3_clear ∈ lw_U := lw_in1 234 rfl rfl
theorem wco_X3_clear : Cond.code yX3_clear cX3_clear 1 (none) ∈ lw_U := lw_in1 235 rfl rfl
theorem wml_X1_37 : Cond.methodLink RX1 37 yX1_take ∈ lw_U := lw_in1 236 rfl rfl
theorem wim_X1_take : Cond.instanceMethod yX1_take ∈ lw_U := lw_in1 238 rfl rfl
theorem wco_X1_take : Cond.code yX1_take cX1_take 1 (none) ∈ lw_U := lw_in1 239 rfl rfl
theorem wml_X1_84 : Cond.methodLink RX1 84 yX1_isBlank ∈ lw_U := lw_in2 0 rfl rfl
theorem wst_X1_isBlank : Cond.static yX1_isBlank ∈ lw_U := lw_in2 1 rfl rfl
theorem wco_X1_isBlank : Cond.code yX1_isBlank cX1_isBlank 1 (some FieldType.boolean) ∈ lw_U := lw_in2 2 rfl rfl
theorem wml_X1_88 : Cond.methodLink RX1 88 yX1_isLetter ∈ lw_U := lw_in2 3 rfl rfl
theorem wst_X1_isLetter : Cond.static yX1_isLetter ∈ lw_U := lw_in2 4 rfl rfl
theorem wco_X1_isLetter : Cond.code yX1_isLetter cX1_isLetter 1 (some FieldType.boolean) ∈ lw_U := lw_in2 5 rfl rfl
theorem wml_X1_91 : Cond.methodLink RX1 91 yX1_takeWord ∈ lw_U := lw_in2 6 rfl rfl
theorem wim_X1_takeWord : Cond.instanceMethod yX1_takeWord ∈ lw_U := lw_in2 8 rfl rfl
theorem wco_X1_takeWord : Cond.code yX1_takeWord cX1_takeWord 1 (none) ∈ lw_U := lw_in2 9 rfl rfl
theorem wsr_X1_104 : Cond.stringRef RX1 104 "told" ∈ lw_tbl := List.mem_append_right _ (List.mem_of_getElem? (i := 250) (by decide +kernel))
theorem wml_X1_106 : Cond.methodLink RX1 106 yX1_spells ∈ lw_U := lw_in2 11 rfl rfl
theorem wim_X1_spells : Cond.instanceMethod yX1_spells ∈ lw_U := lw_in2 13 rfl rfl
theorem wco_X1_spells : Cond.code yX1_spells cX1_spells 3 (some FieldType.boolean) ∈ lw_U := lw_in2 14 rfl rfl
theorem wml_X1_132 : Cond.methodLink RX1 132 yJ0_length_8abf5 ∈ lw_U := lw_in2 15 rfl rfl
theorem wml_X1_138 : Cond.methodLink RX1 138 yJ0_charAt_5068e ∈ lw_U := lw_in2 16 rfl rfl
theorem wsr_X1_110 : Cond.stringRef RX1 110 "untold" ∈ lw_tbl := List.mem_append_right _ (List.mem_of_getElem? (i := 257) (by decide +kernel))
theorem wsr_X1_112 : Cond.stringRef RX1 112 "step" ∈ lw_tbl := List.mem_append_right _ (List.mem_of_getElem? (i := 258) (by decide +kernel))
theorem wsr_X1_114 : Cond.stringRef RX1 114 "number" ∈ lw_tbl := List.mem_append_right _ (List.mem_of_getElem? (i := 259) (by decide +kernel))
theorem wsr_X1_116 : Cond.stringRef RX1 116 "day" ∈ lw_tbl := List.mem_append_right _ (List.mem_of_getElem? (i := 260) (by decide +kernel))
theorem wsr_X1_118 : Cond.stringRef RX1 118 "worn" ∈ lw_tbl := List.mem_append_right _ (List.mem_of_getElem? (i := 261) (by decide +kernel))
theorem wsr_X1_120 : Cond.stringRef RX1 120 "lasts" ∈ lw_tbl := List.mem_append_right _ (List.mem_of_getElem? (i := 262) (by decide +kernel))
theorem wsr_X1_122 : Cond.stringRef RX1 122 "paces" ∈ lw_tbl := List.mem_append_right _ (List.mem_of_getElem? (i := 263) (by decide +kernel))
theorem wsr_X1_124 : Cond.stringRef RX1 124 "stops" ∈ lw_tbl := List.mem_append_right _ (List.mem_of_getElem? (i := 264) (by decide +kernel))
theorem wsr_X1_126 : Cond.stringRef RX1 126 "or" ∈ lw_tbl := List.mem_append_right _ (List.mem_of_getElem? (i := 265) (by decide +kernel))
theorem wsr_X1_128 : Cond.stringRef RX1 128 "and" ∈ lw_tbl := List.mem_append_right _ (List.mem_of_getElem? (i := 266) (by decide +kernel))
theorem wsr_X1_130 : Cond.stringRef RX1 130 "not" ∈ lw_tbl := List.mem_append_right _ (List.mem_of_getElem? (i := 267) (by decide +kernel))
theorem wml_X1_94 : Cond.methodLink RX1 94 yX1_isDigit ∈ lw_U := lw_in2 28 rfl rfl
theorem wst_X1_isDigit : Cond.static yX1_isDigit ∈ lw_U := lw_in2 29 rfl rfl
theorem wco_X1_isDigit : Cond.code yX1_isDigit cX1_isDigit 1 (some FieldType.boolean) ∈ lw_U := lw_in2 30 rfl rfl
theorem wml_X1_97 : Cond.methodLink RX1 97 yX1_takeAmount ∈ lw_U := lw_in2 31 rfl rfl
theorem wim_X1_takeAmount : Cond.instanceMethod yX1_takeAmount ∈ lw_U := lw_in2 33 rfl rfl
theorem wco_X1_takeAmount : Cond.code yX1_takeAmount cX1_takeAmount 1 (none) ∈ lw_U := lw_in2 34 rfl rfl
theorem wml_X1_100 : Cond.methodLink RX1 100 yX1_signOf ∈ lw_U := lw_in2 35 rfl rfl
theorem wst_X1_signOf : Cond.static yX1_signOf ∈ lw_U := lw_in2 36 rfl rfl
theorem wco_X1_signOf : Cond.code yX1_signOf cX1_signOf 1 (some FieldType.int) ∈ lw_U := lw_in2 37 rfl rfl
theorem wml_X1_40 : Cond.methodLink RX1 40 yX1_expect ∈ lw_U := lw_in2 38 rfl rfl
theorem wim_X1_expect : Cond.instanceMethod yX1_expect ∈ lw_U := lw_in2 40 rfl rfl
theorem wco_X1_expect : Cond.code yX1_expect cX1_expect 2 (none) ∈ lw_U := lw_in2 41 rfl rfl
theorem wml_X1_53 : Cond.methodLink RX1 53 yX1_fail ∈ lw_U := lw_in2 42 rfl rfl
theorem wim_X1_fail : Cond.instanceMethod yX1_fail ∈ lw_U := lw_in2 44 rfl rfl
theorem wco_X1_fail : Cond.code yX1_fail cX1_fail 1 (none) ∈ lw_U := lw_in2 45 rfl rfl
theorem wml_X1_44 : Cond.methodLink RX1 44 yX1_readEither ∈ lw_U := lw_in2 46 rfl rfl
theorem wim_X1_readEither : Cond.instanceMethod yX1_readEither ∈ lw_U := lw_in2 48 rfl rfl
theorem wco_X1_readEither : Cond.code yX1_readEither cX1_readEither 2 (none) ∈ lw_U := lw_in2 49 rfl rfl
theorem wml_X1_59 : Cond.methodLink RX1 59 yX1_readBoth ∈ lw_U := lw_in2 50 rfl rfl
theorem wim_X1_readBoth : Cond.instanceMethod yX1_readBoth ∈ lw_U := lw_in2 52 rfl rfl
theorem wco_X1_readBoth : Cond.code yX1_readBoth cX1_readBoth 2 (none) ∈ lw_U := lw_in2 53 rfl rfl
theorem wml_X1_65 : Cond.methodLink RX1 65 yX1_readNot ∈ lw_U := lw_in2 54 rfl rfl
theorem wim_X1_readNot : Cond.instanceMethod yX1_readNot ∈ lw_U := lw_in2 56 rfl rfl
theorem wco_X1_readNot : Cond.code yX1_readNot cX1_readNot 2 (none) ∈ lw_U := lw_in2 57 rfl rfl
theorem wml_X1_68 : Cond.methodLink RX1 68 yX1_takeOpening ∈ lw_U := lw_in2 58 rfl rfl
theorem wim_X1_takeOpening : Cond.instanceMethod yX1_takeOpening ∈ lw_U := lw_in2 60 rfl rfl
theorem wco_X1_takeOpening : Cond.code yX1_takeOpening cX1_takeOpening 1 (some FieldType.boolean) ∈ lw_U := lw_in2 61 rfl rfl
theorem wml_X1_62 : Cond.methodLink RX1 62 yX3_append ∈ lw_U := lw_in2 62 rfl rfl
theorem wim_X3_append : Cond.instanceMethod yX3_append ∈ lw_U := lw_in2 63 rfl rfl
theorem wse_X3_append : Cond.selects RX3 yX3_append yX3_append ∈ lw_U := lw_in2 64 rfl rfl
theorem wco_X3_append : Cond.code yX3_append cX3_append 2 (none) ∈ lw_U := lw_in2 65 rfl rfl
theorem wml_X1_72 : Cond.methodLink RX1 72 yX1_readSum ∈ lw_U := lw_in2 66 rfl rfl
theorem wim_X1_readSum : Cond.instanceMethod yX1_readSum ∈ lw_U := lw_in2 68 rfl rfl
theorem wco_X1_readSum : Cond.code yX1_readSum cX1_readSum 3 (none) ∈ lw_U := lw_in2 69 rfl rfl
theorem wml_X1_75 : Cond.methodLink RX1 75 yX1_readTerm ∈ lw_U := lw_in2 70 rfl rfl
theorem wim_X1_readTerm : Cond.instanceMethod yX1_readTerm ∈ lw_U := lw_in2 72 rfl rfl
theorem wco_X1_readTerm : Cond.code yX1_readTerm cX1_readTerm 2 (none) ∈ lw_U := lw_in2 73 rfl rfl
theorem wml_X1_78 : Cond.methodLink RX1 78 yX1_readOne ∈ lw_U := lw_in2 74 rfl rfl
theorem wim_X1_readOne : Cond.instanceMethod yX1_readOne ∈ lw_U := lw_in2 76 rfl rfl
theorem wco_X1_readOne : Cond.code yX1_readOne cX1_readOne 1 (none) ∈ lw_U := lw_in2 77 rfl rfl
theorem wml_X1_47 : Cond.methodLink RX1 47 yX3_endPart ∈ lw_U := lw_in2 78 rfl rfl
theorem wim_X3_endPart : Cond.instanceMethod yX3_endPart ∈ lw_U := lw_in2 79 rfl rfl
theorem wse_X3_endPart : Cond.selects RX3 yX3_endPart yX3_endPart ∈ lw_U := lw_in2 80 rfl rfl
theorem wco_X3_endPart : Cond.code yX3_endPart cX3_endPart 2 (none) ∈ lw_U := lw_in2 81 rfl rfl
theorem wcl_X6_93 : Cond.classLink RX6 93 RX4 ∈ lw_U := lw_in2 82 rfl rfl
theorem wia_X4 : Cond.instantiable RX4 9 ∈ lw_U := lw_in2 83 rfl rfl
theorem wml_X6_95 : Cond.methodLink RX6 95 yX4_init ∈ lw_U := lw_in2 84 rfl rfl
theorem wim_X4_init : Cond.instanceMethod yX4_init ∈ lw_U := lw_in2 85 rfl rfl
theorem wco_X4_init : Cond.code yX4_init cX4_init 2 (none) ∈ lw_U := lw_in2 86 rfl rfl
theorem wfl_X4_25 : Cond.fieldLink RX4 25 "SolesByWhatIsTold$Thought" "kind" "I" ∈ lw_U := lw_in2 88 rfl rfl
theorem wfl_X6_348 : Cond.fieldLink RX6 348 "SolesByWhatIsTold$Thought" "kind" "I" ∈ lw_U := lw_in2 89 rfl rfl
theorem wfl_X4_29 : Cond.fieldLink RX4 29 "SolesByWhatIsTold$Thought" "number" "I" ∈ lw_U := lw_in2 90 rfl rfl
theorem wfl_X6_349 : Cond.fieldLink RX6 349 "SolesByWhatIsTold$Thought" "number" "I" ∈ lw_U := lw_in2 91 rfl rfl
theorem wfl_X4_41 : Cond.fieldLink RX4 41 "SolesByWhatIsTold$Thought" "toldWeight" "I" ∈ lw_U := lw_in2 92 rfl rfl
theorem wfl_X6_140 : Cond.fieldLink RX6 140 "SolesByWhatIsTold$Thought" "toldWeight" "I" ∈ lw_U := lw_in2 93 rfl rfl
theorem wfl_X4_44 : Cond.fieldLink RX4 44 "SolesByWhatIsTold$Thought" "untoldWeight" "I" ∈ lw_U := lw_in2 94 rfl rfl
theorem wfl_X6_143 : Cond.fieldLink RX6 143 "SolesByWhatIsTold$Thought" "untoldWeight" "I" ∈ lw_U := lw_in2 95 rfl rfl
theorem wfl_X4_33 : Cond.fieldLink RX4 33 "SolesByWhatIsTold$Thought" "step" "I" ∈ lw_U := lw_in2 96 rfl rfl
theorem wfl_X6_169 : Cond.fieldLink RX6 169 "SolesByWhatIsTold$Thought" "step" "I" ∈ lw_U := lw_in2 97 rfl rfl
theorem wfl_X4_37 : Cond.fieldLink RX4 37 "SolesByWhatIsTold$Thought" "worn" "I" ∈ lw_U := lw_in2 98 rfl rfl
theorem wfl_X6_173 : Cond.fieldLink RX6 173 "SolesByWhatIsTold$Thought" "worn" "I" ∈ lw_U := lw_in2 99 rfl rfl
theorem wfl_X4_38 : Cond.fieldLink RX4 38 "SolesByWhatIsTold$Thought" "day" "I" ∈ lw_U := lw_in2 100 rfl rfl
theorem wfl_X4_15 : Cond.fieldLink RX4 15 "SolesByWhatIsTold$Thought" "rule" "LSolesByWhatIsTold$Text;" ∈ lw_U := lw_in2 101 rfl rfl
theorem wfl_X6_350 : Cond.fieldLink RX6 350 "SolesByWhatIsTold$Thought" "rule" "LSolesByWhatIsTold$Text;" ∈ lw_U := lw_in2 102 rfl rfl
theorem wfl_X4_11 : Cond.fieldLink RX4 11 "SolesByWhatIsTold$Thought" "stack" "[I" ∈ lw_U := lw_in2 103 rfl rfl
theorem wac_byte : Cond.arrayClass .byte ∈ lw_U := lw_in2 123 rfl rfl
theorem wfl_X6_9 : Cond.fieldLink RX6 9 "SolesByWhatIsTold" "weights" "[I" ∈ lw_U := lw_in2 124 rfl rfl
theorem wfl_X6_13 : Cond.fieldLink RX6 13 "SolesByWhatIsTold" "otherWeights" "[I" ∈ lw_U := lw_in2 125 rfl rfl
theorem wfl_X6_18 : Cond.fieldLink RX6 18 "SolesByWhatIsTold" "road" "[LSolesByWhatIsTold$Walker;" ∈ lw_U := lw_in2 126 rfl rfl
theorem wfl_X6_22 : Cond.fieldLink RX6 22 "SolesByWhatIsTold" "walkerCount" "I" ∈ lw_U := lw_in2 127 rfl rfl
theorem wfl_X6_26 : Cond.fieldLink RX6 26 "SolesByWhatIsTold" "today" "I" ∈ lw_U := lw_in2 128 rfl rfl
theorem wfl_X6_31 : Cond.fieldLink RX6 31 "SolesByWhatIsTold" "texts" "[LSolesByWhatIsTold$Text;" ∈ lw_U := lw_in2 129 rfl rfl
theorem wfl_X6_35 : Cond.fieldLink RX6 35 "SolesByWhatIsTold" "textCount" "I" ∈ lw_U := lw_in2 130 rfl rfl
theorem wfl_X6_38 : Cond.fieldLink RX6 38 "SolesByWhatIsTold" "rule" "I" ∈ lw_U := lw_in2 131 rfl rfl
theorem wfl_X6_44 : Cond.fieldLink RX6 44 "SolesByWhatIsTold" "reader" "LSolesByWhatIsTold$Reader;" ∈ lw_U := lw_in2 132 rfl rfl
theorem wfl_X6_98 : Cond.fieldLink RX6 98 "SolesByWhatIsTold" "thought" "LSolesByWhatIsTold$Thought;" ∈ lw_U := lw_in2 133 rfl rfl
theorem wfl_X6_48 : Cond.fieldLink RX6 48 "SolesByWhatIsTold" "stepByWeight" "[I" ∈ lw_U := lw_in2 134 rfl rfl
theorem wfl_X6_54 : Cond.fieldLink RX6 54 "SolesByWhatIsTold" "kept" "LSolesByWhatIsTold$Image;" ∈ lw_U := lw_in2 135 rfl rfl
theorem wfl_X6_60 : Cond.fieldLink RX6 60 "SolesByWhatIsTold" "sheets" "[LSolesByWhatIsTold$Sheet;" ∈ lw_U := lw_in2 136 rfl rfl
theorem wml_L_13 : Cond.methodLink RL 13 yX6_set ∈ lw_U := lw_in2 164 rfl rfl
theorem wim_X6_set : Cond.instanceMethod yX6_set ∈ lw_U := lw_in2 165 rfl rfl
theorem wse_X6_set : Cond.selects RX6 yX6_set yX6_set ∈ lw_U := lw_in2 166 rfl rfl
theorem wco_X6_set : Cond.code yX6_set cX6_set 5 (some FieldType.int) ∈ lw_U := lw_in2 167 rfl rfl
theorem wml_X6_102 : Cond.methodLink RX6 102 yX6_isKept ∈ lw_U := lw_in2 168 rfl rfl
theorem wst_X6_isKept : Cond.static yX6_isKept ∈ lw_U := lw_in2 169 rfl rfl
theorem wco_X6_isKept : Cond.code yX6_isKept cX6_isKept 1 (some FieldType.boolean) ∈ lw_U := lw_in2 170 rfl rfl
theorem wml_X6_114 : Cond.methodLink RX6 114 yX6_within ∈ lw_U := lw_in2 171 rfl rfl
theorem wst_X6_within : Cond.static yX6_within ∈ lw_U := lw_in2 172 rfl rfl
theorem wco_X6_within : Cond.code yX6_within cX6_within 3 (some FieldType.boolean) ∈ lw_U := lw_in2 173 rfl rfl
theorem wml_X6_106 : Cond.methodLink RX6 106 yX6_names ∈ lw_U := lw_in2 174 rfl rfl
theorem wim_X6_names : Cond.instanceMethod yX6_names ∈ lw_U := lw_in2 176 rfl rfl
theorem wco_X6_names : Cond.code yX6_names cX6_names 3 (some FieldType.boolean) ∈ lw_U := lw_in2 177 rfl rfl
theorem wml_X6_205 : Cond.methodLink RX6 205 yX6_isThing ∈ lw_U := lw_in2 178 rfl rfl
theorem wst_X6_isThing : Cond.static yX6_isThing ∈ lw_U := lw_in2 179 rfl rfl
theorem wco_X6_isThing : Cond.code yX6_isThing cX6_isThing 1 (some FieldType.boolean) ∈ lw_U := lw_in2 180 rfl rfl
theorem wml_X6_129 : Cond.methodLink RX6 129 yX6_walkerAt ∈ lw_U := lw_in2 181 rfl rfl
theorem wim_X6_walkerAt : Cond.instanceMethod yX6_walkerAt ∈ lw_U := lw_in2 183 rfl rfl
theorem wco_X6_walkerAt : Cond.code yX6_walkerAt cX6_walkerAt 2 (some (FieldType.object "SolesByWhatIsTold$Walker")) ∈ lw_U := lw_in2 184 rfl rfl
theorem wml_X6_110 : Cond.methodLink RX6 110 yX6_mostOf ∈ lw_U := lw_in2 185 rfl rfl
theorem wst_X6_mostOf : Cond.static yX6_mostOf ∈ lw_U := lw_in2 186 rfl rfl
theorem wco_X6_mostOf : Cond.code yX6_mostOf cX6_mostOf 1 (some FieldType.int) ∈ lw_U := lw_in2 187 rfl rfl
theorem wml_X6_118 : Cond.methodLink RX6 118 yX6_valueOf ∈ lw_U := lw_in2 188 rfl rfl
theorem wim_X6_valueOf : Cond.instanceMethod yX6_valueOf ∈ lw_U := lw_in2 190 rfl rfl
theorem wco_X6_valueOf : Cond.code yX6_valueOf cX6_valueOf 4 (some FieldType.int) ∈ lw_U := lw_in2 191 rfl rfl
theorem wml_X6_122 : Cond.methodLink RX6 122 yX6_keep ∈ lw_U := lw_in2 192 rfl rfl
theorem wim_X6_keep : Cond.instanceMethod yX6_keep ∈ lw_U := lw_in2 194 rfl rfl
theorem wco_X6_keep : Cond.code yX6_keep cX6_keep 4 (none) ∈ lw_U := lw_in2 195 rfl rfl
theorem wml_X6_332 : Cond.methodLink RX6 332 yX6_keepOfWalker ∈ lw_U := lw_in2 196 rfl rfl
theorem wst_X6_keepOfWalker : Cond.static yX6_keepOfWalker ∈ lw_U := lw_in2 197 rfl rfl
theorem wco_X6_keepOfWalker : Cond.code yX6_keepOfWalker cX6_keepOfWalker 3 (none) ∈ lw_U := lw_in2 198 rfl rfl
theorem wml_L_18 : Cond.methodLink RL 18 yX6_walker ∈ lw_U := lw_in2 199 rfl rfl
theorem wim_X6_walker : Cond.instanceMethod yX6_walker ∈ lw_U := lw_in2 200 rfl rfl
theorem wse_X6_walker : Cond.selects RX6 yX6_walker yX6_walker ∈ lw_U := lw_in2 201 rfl rfl
theorem wco_X6_walker : Cond.code yX6_walker cX6_walker 4 (some FieldType.int) ∈ lw_U := lw_in2 202 rfl rfl
theorem wml_X6_126 : Cond.methodLink RX6 126 yX5_comeAs ∈ lw_U := lw_in2 203 rfl rfl
theorem wim_X5_comeAs : Cond.instanceMethod yX5_comeAs ∈ lw_U := lw_in2 204 rfl rfl
theorem wse_X5_comeAs : Cond.selects RX5 yX5_comeAs yX5_comeAs ∈ lw_U := lw_in2 205 rfl rfl
theorem wco_X5_comeAs : Cond.code yX5_comeAs cX5_comeAs 4 (none) ∈ lw_U := lw_in2 206 rfl rfl
theorem wml_L_22 : Cond.methodLink RL 22 yX6_told ∈ lw_U := lw_in2 207 rfl rfl
theorem wim_X6_told : Cond.instanceMethod yX6_told ∈ lw_U := lw_in2 208 rfl rfl
theorem wse_X6_told : Cond.selects RX6 yX6_told yX6_told ∈ lw_U := lw_in2 209 rfl rfl
theorem wco_X6_told : Cond.code yX6_told cX6_told 4 (some FieldType.int) ∈ lw_U := lw_in2 210 rfl rfl
theorem wml_X6_133 : Cond.methodLink RX6 133 yX6_think ∈ lw_U := lw_in2 211 rfl rfl
theorem wim_X6_think : Cond.instanceMethod yX6_think ∈ lw_U := lw_in2 213 rfl rfl
theorem wco_X6_think : Cond.code yX6_think cX6_think 2 (none) ∈ lw_U := lw_in2 214 rfl rfl
theorem wml_X6_226 : Cond.methodLink RX6 226 yX6_thinkTold ∈ lw_U := lw_in2 215 rfl rfl
theorem wim_X6_thinkTold : Cond.instanceMethod yX6_thinkTold ∈ lw_U := lw_in2 217 rfl rfl
theorem wco_X6_thinkTold : Cond.code yX6_thinkTold cX6_thinkTold 3 (none) ∈ lw_U := lw_in2 218 rfl rfl
theorem wml_X6_336 : Cond.methodLink RX6 336 yX4_startAs ∈ lw_U := lw_in2 219 rfl rfl
theorem wim_X4_startAs : Cond.instanceMethod yX4_startAs ∈ lw_U := lw_in2 220 rfl rfl
theorem wse_X4_startAs : Cond.selects RX4 yX4_startAs yX4_startAs ∈ lw_U := lw_in2 221 rfl rfl
theorem wco_X4_startAs : Cond.code yX4_startAs cX4_startAs 4 (none) ∈ lw_U := lw_in2 222 rfl rfl
theorem wml_X6_340 : Cond.methodLink RX6 340 yX4_weigh ∈ lw_U := lw_in2 223 rfl rfl
theorem wim_X4_weigh : Cond.instanceMethod yX4_weigh ∈ lw_U := lw_in2 224 rfl rfl
theorem wse_X4_weigh : Cond.selects RX4 yX4_weigh yX4_weigh ∈ lw_U := lw_in2 225 rfl rfl
theorem wco_X4_weigh : Cond.code yX4_weigh cX4_weigh 5 (none) ∈ lw_U := lw_in2 226 rfl rfl
theorem wmn_X4_47 : Cond.methodLinkNest RX4 47 yX6_has RX6 ∈ lw_tbl := List.mem_append_right _ (List.mem_of_getElem? (i := 467) (by decide +kernel))
theorem wst_X6_has : Cond.static yX6_has ∈ lw_U := lw_in2 228 rfl rfl
theorem wco_X6_has : Cond.code yX6_has cX6_has 2 (some FieldType.boolean) ∈ lw_U := lw_in2 229 rfl rfl
theorem wml_X6_146 : Cond.methodLink RX6 146 yX4_lasts ∈ lw_U := lw_in2 230 rfl rfl
theorem wim_X4_lasts : Cond.instanceMethod yX4_lasts ∈ lw_U := lw_in2 231 rfl rfl
theorem wse_X4_lasts : Cond.selects RX4 yX4_lasts yX4_lasts ∈ lw_U := lw_in2 232 rfl rfl
theorem wco_X4_lasts : Cond.code yX4_lasts cX4_lasts 1 (some FieldType.int) ∈ lw_U := lw_in2 233 rfl rfl
theorem wml_X4_51 : Cond.methodLink RX4 51 yX4_valueOfPart ∈ lw_U := lw_in2 234 rfl rfl
theorem wim_X4_valueOfPart : Cond.instanceMethod yX4_valueOfPart ∈ lw_U := lw_in2 236 rfl rfl
theorem wco_X4_valueOfPart : Cond.code yX4_valueOfPart cX4_valueOfPart 7 (some FieldType.int) ∈ lw_U := lw_in2 237 rfl rfl
theorem wml_X4_104 : Cond.methodLink RX4 104 yX3_endOf ∈ lw_U := lw_in2 238 rfl rfl
theorem wim_X3_endOf : Cond.instanceMethod yX3_endOf ∈ lw_U := lw_in2 239 rfl rfl
theorem wse_X3_endOf : Cond.selects RX3 yX3_endOf yX3_endOf ∈ lw_U := lw_in3 0 rfl rfl
theorem wco_X3_endOf : Cond.code yX3_endOf cX3_endOf 2 (some FieldType.int) ∈ lw_U := lw_in3 1 rfl rfl
theorem wml_X4_76 : Cond.methodLink RX4 76 yJ9_min_7cf53 ∈ lw_U := lw_in3 2 rfl rfl
theorem wst_J9_min_7cf53 : Cond.static yJ9_min_7cf53 ∈ lw_U := lw_in3 3 rfl rfl
theorem wco_J9_min_7cf53 : Cond.code yJ9_min_7cf53 cJ9_min_7cf53 2 (some FieldType.int) ∈ lw_U := lw_in3 4 rfl rfl
theorem wml_X4_107 : Cond.methodLink RX4 107 yX3_startOf ∈ lw_U := lw_in3 5 rfl rfl
theorem wim_X3_startOf : Cond.instanceMethod yX3_startOf ∈ lw_U := lw_in3 6 rfl rfl
theorem wse_X3_startOf : Cond.selects RX3 yX3_startOf yX3_startOf ∈ lw_U := lw_in3 7 rfl rfl
theorem wco_X3_startOf : Cond.code yX3_startOf cX3_startOf 2 (some FieldType.int) ∈ lw_U := lw_in3 8 rfl rfl
theorem wml_X4_110 : Cond.methodLink RX4 110 yX4_ofTwo ∈ lw_U := lw_in3 9 rfl rfl
theorem wst_X4_ofTwo : Cond.static yX4_ofTwo ∈ lw_U := lw_in3 10 rfl rfl
theorem wco_X4_ofTwo : Cond.code yX4_ofTwo cX4_ofTwo 3 (some FieldType.int) ∈ lw_U := lw_in3 11 rfl rfl
theorem wmn_X4_114 : Cond.methodLinkNest RX4 114 yX6_bit RX6 ∈ lw_tbl := List.mem_append_right _ (List.mem_of_getElem? (i := 492) (by decide +kernel))
theorem wst_X6_bit : Cond.static yX6_bit ∈ lw_U := lw_in3 13 rfl rfl
theorem wco_X6_bit : Cond.code yX6_bit cX6_bit 1 (some FieldType.int) ∈ lw_U := lw_in3 14 rfl rfl
theorem wml_X4_118 : Cond.methodLink RX4 118 yX4_ofNone ∈ lw_U := lw_in3 15 rfl rfl
theorem wim_X4_ofNone : Cond.instanceMethod yX4_ofNone ∈ lw_U := lw_in3 17 rfl rfl
theorem wco_X4_ofNone : Cond.code yX4_ofNone cX4_ofNone 2 (some FieldType.int) ∈ lw_U := lw_in3 18 rfl rfl
theorem wmn_X4_55 : Cond.methodLinkNest RX4 55 yX6_bounded RX6 ∈ lw_tbl := List.mem_append_right _ (List.mem_of_getElem? (i := 499) (by decide +kernel))
theorem wst_X6_bounded : Cond.static yX6_bounded ∈ lw_U := lw_in3 20 rfl rfl
theorem wco_X6_bounded : Cond.code yX6_bounded cX6_bounded 2 (some FieldType.int) ∈ lw_U := lw_in3 21 rfl rfl
theorem wml_X6_321 : Cond.methodLink RX6 321 yJ9_min_7cf53 ∈ lw_U := lw_in3 22 rfl rfl
theorem wml_X6_326 : Cond.methodLink RX6 326 yJ9_max_7cf53 ∈ lw_U := lw_in3 23 rfl rfl
theorem wst_J9_max_7cf53 : Cond.static yJ9_max_7cf53 ∈ lw_U := lw_in3 24 rfl rfl
theorem wco_J9_max_7cf53 : Cond.code yJ9_max_7cf53 cJ9_max_7cf53 2 (some FieldType.int) ∈ lw_U := lw_in3 25 rfl rfl
theorem wml_X4_59 : Cond.methodLink RX4 59 yX4_lastsByKind ∈ lw_U := lw_in3 26 rfl rfl
theorem wim_X4_lastsByKind : Cond.instanceMethod yX4_lastsByKind ∈ lw_U := lw_in3 28 rfl rfl
theorem wco_X4_lastsByKind : Cond.code yX4_lastsByKind cX4_lastsByKind 2 (some FieldType.int) ∈ lw_U := lw_in3 29 rfl rfl
theorem wml_X6_149 : Cond.methodLink RX6 149 yX4_pace ∈ lw_U := lw_in3 30 rfl rfl
theorem wim_X4_pace : Cond.instanceMethod yX4_pace ∈ lw_U := lw_in3 31 rfl rfl
theorem wse_X4_pace : Cond.selects RX4 yX4_pace yX4_pace ∈ lw_U := lw_in3 32 rfl rfl
theorem wco_X4_pace : Cond.code yX4_pace cX4_pace 1 (some FieldType.int) ∈ lw_U := lw_in3 33 rfl rfl
theorem wml_X4_62 : Cond.methodLink RX4 62 yX4_paceByKind ∈ lw_U := lw_in3 34 rfl rfl
theorem wim_X4_paceByKind : Cond.instanceMethod yX4_paceByKind ∈ lw_U := lw_in3 36 rfl rfl
theorem wco_X4_paceByKind : Cond.code yX4_paceByKind cX4_paceByKind 3 (some FieldType.int) ∈ lw_U := lw_in3 37 rfl rfl
theorem wml_X6_152 : Cond.methodLink RX6 152 yX4_isStopped ∈ lw_U := lw_in3 38 rfl rfl
theorem wim_X4_isStopped : Cond.instanceMethod yX4_isStopped ∈ lw_U := lw_in3 39 rfl rfl
theorem wse_X4_isStopped : Cond.selects RX4 yX4_isStopped yX4_isStopped ∈ lw_U := lw_in3 40 rfl rfl
theorem wco_X4_isStopped : Cond.code yX4_isStopped cX4_isStopped 2 (some FieldType.boolean) ∈ lw_U := lw_in3 41 rfl rfl
theorem wml_X6_156 : Cond.methodLink RX6 156 yX6_bit ∈ lw_U := lw_in3 42 rfl rfl
theorem wml_X6_160 : Cond.methodLink RX6 160 yX4_isInSocks ∈ lw_U := lw_in3 43 rfl rfl
theorem wim_X4_isInSocks : Cond.instanceMethod yX4_isInSocks ∈ lw_U := lw_in3 44 rfl rfl
theorem wse_X4_isInSocks : Cond.selects RX4 yX4_isInSocks yX4_isInSocks ∈ lw_U := lw_in3 45 rfl rfl
theorem wco_X4_isInSocks : Cond.code yX4_isInSocks cX4_isInSocks 1 (some FieldType.boolean) ∈ lw_U := lw_in3 46 rfl rfl
theorem wml_X4_65 : Cond.methodLink RX4 65 yX4_lasts ∈ lw_U := lw_in3 47 rfl rfl
theorem wml_L_27 : Cond.methodLink RL 27 yX6_feed ∈ lw_U := lw_in3 48 rfl rfl
theorem wim_X6_feed : Cond.instanceMethod yX6_feed ∈ lw_U := lw_in3 49 rfl rfl
theorem wse_X6_feed : Cond.selects RX6 yX6_feed yX6_feed ∈ lw_U := lw_in3 50 rfl rfl
theorem wco_X6_feed : Cond.code yX6_feed cX6_feed 2 (some FieldType.int) ∈ lw_U := lw_in3 51 rfl rfl
theorem wml_L_32 : Cond.methodLink RL 32 yX6_text ∈ lw_U := lw_in3 52 rfl rfl
theorem wim_X6_text : Cond.instanceMethod yX6_text ∈ lw_U := lw_in3 53 rfl rfl
theorem wse_X6_text : Cond.selects RX6 yX6_text yX6_text ∈ lw_U := lw_in3 54 rfl rfl
theorem wco_X6_text : Cond.code yX6_text cX6_text 2 (some FieldType.int) ∈ lw_U := lw_in3 55 rfl rfl
theorem wml_L_37 : Cond.methodLink RL 37 yX6_force ∈ lw_U := lw_in3 56 rfl rfl
theorem wim_X6_force : Cond.instanceMethod yX6_force ∈ lw_U := lw_in3 57 rfl rfl
theorem wse_X6_force : Cond.selects RX6 yX6_force yX6_force ∈ lw_U := lw_in3 58 rfl rfl
theorem wco_X6_force : Cond.code yX6_force cX6_force 3 (some FieldType.int) ∈ lw_U := lw_in3 59 rfl rfl
theorem wml_L_41 : Cond.methodLink RL 41 yX6_day ∈ lw_U := lw_in3 60 rfl rfl
theorem wim_X6_day : Cond.instanceMethod yX6_day ∈ lw_U := lw_in3 61 rfl rfl
theorem wse_X6_day : Cond.selects RX6 yX6_day yX6_day ∈ lw_U := lw_in3 62 rfl rfl
theorem wco_X6_day : Cond.code yX6_day cX6_day 3 (some FieldType.int) ∈ lw_U := lw_in3 63 rfl rfl
theorem wml_X6_166 : Cond.methodLink RX6 166 yX4_passDay ∈ lw_U := lw_in3 64 rfl rfl
theorem wim_X4_passDay : Cond.instanceMethod yX4_passDay ∈ lw_U := lw_in3 65 rfl rfl
theorem wse_X4_passDay : Cond.selects RX4 yX4_passDay yX4_passDay ∈ lw_U := lw_in3 66 rfl rfl
theorem wco_X4_passDay : Cond.code yX4_passDay cX4_passDay 4 (some FieldType.boolean) ∈ lw_U := lw_in3 67 rfl rfl
theorem wml_X4_69 : Cond.methodLink RX4 69 yX4_isStopped ∈ lw_U := lw_in3 68 rfl rfl
theorem wml_X4_73 : Cond.methodLink RX4 73 yX4_pace ∈ lw_U := lw_in3 69 rfl rfl
theorem wml_L_45 : Cond.methodLink RL 45 yX6_run ∈ lw_U := lw_in3 70 rfl rfl
theorem wim_X6_run : Cond.instanceMethod yX6_run ∈ lw_U := lw_in3 71 rfl rfl
theorem wse_X6_run : Cond.selects RX6 yX6_run yX6_run ∈ lw_U := lw_in3 72 rfl rfl
theorem wco_X6_run : Cond.code yX6_run cX6_run 5 (some FieldType.int) ∈ lw_U := lw_in3 73 rfl rfl
theorem wml_X6_177 : Cond.methodLink RX6 177 yX6_isDays ∈ lw_U := lw_in3 74 rfl rfl
theorem wst_X6_isDays : Cond.static yX6_isDays ∈ lw_U := lw_in3 75 rfl rfl
theorem wco_X6_isDays : Cond.code yX6_isDays cX6_isDays 1 (some FieldType.boolean) ∈ lw_U := lw_in3 76 rfl rfl
theorem wml_X6_180 : Cond.methodLink RX6 180 yX4_stepBehind ∈ lw_U := lw_in3 77 rfl rfl
theorem wim_X4_stepBehind : Cond.instanceMethod yX4_stepBehind ∈ lw_U := lw_in3 78 rfl rfl
theorem wse_X4_stepBehind : Cond.selects RX4 yX4_stepBehind yX4_stepBehind ∈ lw_U := lw_in3 79 rfl rfl
theorem wco_X4_stepBehind : Cond.code yX4_stepBehind cX4_stepBehind 3 (some FieldType.int) ∈ lw_U := lw_in3 80 rfl rfl
theorem wml_X4_81 : Cond.methodLink RX4 81 yX4_passDay ∈ lw_U := lw_in3 81 rfl rfl
theorem wml_X6_183 : Cond.methodLink RX6 183 yX4_firstInSocks ∈ lw_U := lw_in3 82 rfl rfl
theorem wim_X4_firstInSocks : Cond.instanceMethod yX4_firstInSocks ∈ lw_U := lw_in3 83 rfl rfl
theorem wse_X4_firstInSocks : Cond.selects RX4 yX4_firstInSocks yX4_firstInSocks ∈ lw_U := lw_in3 84 rfl rfl
theorem wco_X4_firstInSocks : Cond.code yX4_firstInSocks cX4_firstInSocks 3 (some FieldType.int) ∈ lw_U := lw_in3 85 rfl rfl
theorem wml_X4_90 : Cond.methodLink RX4 90 yX4_isInSocks ∈ lw_U := lw_in3 86 rfl rfl
theorem wml_X6_186 : Cond.methodLink RX6 186 yX4_firstStay ∈ lw_U := lw_in3 87 rfl rfl
theorem wim_X4_firstStay : Cond.instanceMethod yX4_firstStay ∈ lw_U := lw_in3 88 rfl rfl
theorem wse_X4_firstStay : Cond.selects RX4 yX4_firstStay yX4_firstStay ∈ lw_U := lw_in3 89 rfl rfl
theorem wco_X4_firstStay : Cond.code yX4_firstStay cX4_firstStay 3 (some FieldType.int) ∈ lw_U := lw_in3 90 rfl rfl
theorem wml_X6_189 : Cond.methodLink RX6 189 yX4_wornBehind ∈ lw_U := lw_in3 91 rfl rfl
theorem wim_X4_wornBehind : Cond.instanceMethod yX4_wornBehind ∈ lw_U := lw_in3 92 rfl rfl
theorem wse_X4_wornBehind : Cond.selects RX4 yX4_wornBehind yX4_wornBehind ∈ lw_U := lw_in3 93 rfl rfl
theorem wco_X4_wornBehind : Cond.code yX4_wornBehind cX4_wornBehind 3 (some FieldType.int) ∈ lw_U := lw_in3 94 rfl rfl
theorem wml_L_49 : Cond.methodLink RL 49 yX6_mend ∈ lw_U := lw_in3 95 rfl rfl
theorem wim_X6_mend : Cond.instanceMethod yX6_mend ∈ lw_U := lw_in3 96 rfl rfl
theorem wse_X6_mend : Cond.selects RX6 yX6_mend yX6_mend ∈ lw_U := lw_in3 97 rfl rfl
theorem wco_X6_mend : Cond.code yX6_mend cX6_mend 4 (some FieldType.int) ∈ lw_U := lw_in3 98 rfl rfl
theorem wml_L_53 : Cond.methodLink RL 53 yX6_far ∈ lw_U := lw_in3 99 rfl rfl
theorem wim_X6_far : Cond.instanceMethod yX6_far ∈ lw_U := lw_in3 100 rfl rfl
theorem wse_X6_far : Cond.selects RX6 yX6_far yX6_far ∈ lw_U := lw_in3 101 rfl rfl
theorem wco_X6_far : Cond.code yX6_far cX6_far 11 (some FieldType.int) ∈ lw_U := lw_in3 102 rfl rfl
theorem wml_X6_192 : Cond.methodLink RX6 192 yX6_forgetSteps ∈ lw_U := lw_in3 103 rfl rfl
theorem wim_X6_forgetSteps : Cond.instanceMethod yX6_forgetSteps ∈ lw_U := lw_in3 105 rfl rfl
theorem wco_X6_forgetSteps : Cond.code yX6_forgetSteps cX6_forgetSteps 1 (none) ∈ lw_U := lw_in3 106 rfl rfl
theorem wml_X6_198 : Cond.methodLink RX6 198 yX6_isPart ∈ lw_U := lw_in3 107 rfl rfl
theorem wst_X6_isPart : Cond.static yX6_isPart ∈ lw_U := lw_in3 108 rfl rfl
theorem wco_X6_isPart : Cond.code yX6_isPart cX6_isPart 2 (some FieldType.boolean) ∈ lw_U := lw_in3 109 rfl rfl
theorem wml_X6_201 : Cond.methodLink RX6 201 yX6_stepIfTold ∈ lw_U := lw_in3 110 rfl rfl
theorem wim_X6_stepIfTold : Cond.instanceMethod yX6_stepIfTold ∈ lw_U := lw_in3 112 rfl rfl
theorem wco_X6_stepIfTold : Cond.code yX6_stepIfTold cX6_stepIfTold 5 (some FieldType.int) ∈ lw_U := lw_in3 113 rfl rfl
theorem wml_L_57 : Cond.methodLink RL 57 yX6_least ∈ lw_U := lw_in3 114 rfl rfl
theorem wim_X6_least : Cond.instanceMethod yX6_least ∈ lw_U := lw_in3 115 rfl rfl
theorem wse_X6_least : Cond.selects RX6 yX6_least yX6_least ∈ lw_U := lw_in3 116 rfl rfl
theorem wco_X6_least : Cond.code yX6_least cX6_least 9 (some FieldType.int) ∈ lw_U := lw_in3 117 rfl rfl
theorem wml_L_61 : Cond.methodLink RL 61 yX6_heaviest ∈ lw_U := lw_in3 118 rfl rfl
theorem wim_X6_heaviest : Cond.instanceMethod yX6_heaviest ∈ lw_U := lw_in3 119 rfl rfl
theorem wse_X6_heaviest : Cond.selects RX6 yX6_heaviest yX6_heaviest ∈ lw_U := lw_in3 120 rfl rfl
theorem wco_X6_heaviest : Cond.code yX6_heaviest cX6_heaviest 6 (some FieldType.int) ∈ lw_U := lw_in3 121 rfl rfl
theorem wml_X6_208 : Cond.methodLink RX6 208 yX6_weighAsNow ∈ lw_U := lw_in3 122 rfl rfl
theorem wim_X6_weighAsNow : Cond.instanceMethod yX6_weighAsNow ∈ lw_U := lw_in3 124 rfl rfl
theorem wco_X6_weighAsNow : Cond.code yX6_weighAsNow cX6_weighAsNow 1 (none) ∈ lw_U := lw_in3 125 rfl rfl
theorem wml_X6_211 : Cond.methodLink RX6 211 yX6_thinkOtherwise ∈ lw_U := lw_in3 129 rfl rfl
theorem wim_X6_thinkOtherwise : Cond.instanceMethod yX6_thinkOtherwise ∈ lw_U := lw_in3 131 rfl rfl
theorem wco_X6_thinkOtherwise : Cond.code yX6_thinkOtherwise cX6_thinkOtherwise 2 (none) ∈ lw_U := lw_in3 132 rfl rfl
theorem wml_L_65 : Cond.methodLink RL 65 yX6_away ∈ lw_U := lw_in3 133 rfl rfl
theorem wim_X6_away : Cond.instanceMethod yX6_away ∈ lw_U := lw_in3 134 rfl rfl
theorem wse_X6_away : Cond.selects RX6 yX6_away yX6_away ∈ lw_U := lw_in3 135 rfl rfl
theorem wco_X6_away : Cond.code yX6_away cX6_away 7 (some FieldType.int) ∈ lw_U := lw_in3 136 rfl rfl
theorem wml_X6_214 : Cond.methodLink RX6 214 yX4_daysTill ∈ lw_U := lw_in3 137 rfl rfl
theorem wim_X4_daysTill : Cond.instanceMethod yX4_daysTill ∈ lw_U := lw_in3 138 rfl rfl
theorem wse_X4_daysTill : Cond.selects RX4 yX4_daysTill yX4_daysTill ∈ lw_U := lw_in3 139 rfl rfl
theorem wco_X4_daysTill : Cond.code yX4_daysTill cX4_daysTill 3 (some FieldType.int) ∈ lw_U := lw_in3 140 rfl rfl
theorem wml_L_69 : Cond.methodLink RL 69 yX6_keeper ∈ lw_U := lw_in3 141 rfl rfl
theorem wim_X6_keeper : Cond.instanceMethod yX6_keeper ∈ lw_U := lw_in3 142 rfl rfl
theorem wse_X6_keeper : Cond.selects RX6 yX6_keeper yX6_keeper ∈ lw_U := lw_in3 143 rfl rfl
theorem wco_X6_keeper : Cond.code yX6_keeper cX6_keeper 7 (some FieldType.int) ∈ lw_U := lw_in3 144 rfl rfl
theorem wml_X6_217 : Cond.methodLink RX6 217 yX6_stepsOfAll ∈ lw_U := lw_in3 145 rfl rfl
theorem wim_X6_stepsOfAll : Cond.instanceMethod yX6_stepsOfAll ∈ lw_U := lw_in3 147 rfl rfl
theorem wco_X6_stepsOfAll : Cond.code yX6_stepsOfAll cX6_stepsOfAll 4 (some FieldType.int) ∈ lw_U := lw_in3 148 rfl rfl
theorem wml_L_73 : Cond.methodLink RL 73 yX6_spare ∈ lw_U := lw_in3 149 rfl rfl
theorem wim_X6_spare : Cond.instanceMethod yX6_spare ∈ lw_U := lw_in3 150 rfl rfl
theorem wse_X6_spare : Cond.selects RX6 yX6_spare yX6_spare ∈ lw_U := lw_in3 151 rfl rfl
theorem wco_X6_spare : Cond.code yX6_spare cX6_spare 7 (some FieldType.int) ∈ lw_U := lw_in3 152 rfl rfl
theorem wml_X6_223 : Cond.methodLink RX6 223 yX6_has ∈ lw_U := lw_in3 153 rfl rfl
theorem wml_L_77 : Cond.methodLink RL 77 yX6_tells ∈ lw_U := lw_in3 154 rfl rfl
theorem wim_X6_tells : Cond.instanceMethod yX6_tells ∈ lw_U := lw_in3 155 rfl rfl
theorem wse_X6_tells : Cond.selects RX6 yX6_tells yX6_tells ∈ lw_U := lw_in3 156 rfl rfl
theorem wco_X6_tells : Cond.code yX6_tells cX6_tells 6 (some FieldType.int) ∈ lw_U := lw_in3 157 rfl rfl
theorem wml_X6_230 : Cond.methodLink RX6 230 yX6_sheetAt ∈ lw_U := lw_in3 158 rfl rfl
theorem wim_X6_sheetAt : Cond.instanceMethod yX6_sheetAt ∈ lw_U := lw_in3 160 rfl rfl
theorem wco_X6_sheetAt : Cond.code yX6_sheetAt cX6_sheetAt 2 (some (FieldType.object "SolesByWhatIsTold$Sheet")) ∈ lw_U := lw_in3 161 rfl rfl
theorem wml_X6_234 : Cond.methodLink RX6 234 yX2_isMissing ∈ lw_U := lw_in3 162 rfl rfl
theorem wim_X2_isMissing : Cond.instanceMethod yX2_isMissing ∈ lw_U := lw_in3 163 rfl rfl
theorem wse_X2_isMissing : Cond.selects RX2 yX2_isMissing yX2_isMissing ∈ lw_U := lw_in3 164 rfl rfl
theorem wco_X2_isMissing : Cond.code yX2_isMissing cX2_isMissing 1 (some FieldType.boolean) ∈ lw_U := lw_in3 165 rfl rfl
theorem wml_X6_237 : Cond.methodLink RX6 237 yX4_firstOtherwise ∈ lw_U := lw_in3 166 rfl rfl
theorem wim_X4_firstOtherwise : Cond.instanceMethod yX4_firstOtherwise ∈ lw_U := lw_in3 167 rfl rfl
theorem wse_X4_firstOtherwise : Cond.selects RX4 yX4_firstOtherwise yX4_firstOtherwise ∈ lw_U := lw_in3 168 rfl rfl
theorem wco_X4_firstOtherwise : Cond.code yX4_firstOtherwise cX4_firstOtherwise 4 (some FieldType.int) ∈ lw_U := lw_in3 169 rfl rfl
theorem wml_X6_241 : Cond.methodLink RX6 241 yX6_kindsBy ∈ lw_U := lw_in3 170 rfl rfl
theorem wim_X6_kindsBy : Cond.instanceMethod yX6_kindsBy ∈ lw_U := lw_in3 172 rfl rfl
theorem wco_X6_kindsBy : Cond.code yX6_kindsBy cX6_kindsBy 5 (some FieldType.int) ∈ lw_U := lw_in3 173 rfl rfl
theorem wml_X6_245 : Cond.methodLink RX6 245 yX6_numbersBy ∈ lw_U := lw_in3 174 rfl rfl
theorem wim_X6_numbersBy : Cond.instanceMethod yX6_numbersBy ∈ lw_U := lw_in3 176 rfl rfl
theorem wco_X6_numbersBy : Cond.code yX6_numbersBy cX6_numbersBy 5 (some FieldType.int) ∈ lw_U := lw_in3 177 rfl rfl
theorem wml_X6_248 : Cond.methodLink RX6 248 yX6_setsBy ∈ lw_U := lw_in3 178 rfl rfl
theorem wim_X6_setsBy : Cond.instanceMethod yX6_setsBy ∈ lw_U := lw_in3 180 rfl rfl
theorem wco_X6_setsBy : Cond.code yX6_setsBy cX6_setsBy 7 (some FieldType.int) ∈ lw_U := lw_in3 181 rfl rfl
theorem wml_X6_252 : Cond.methodLink RX6 252 yX6_textsBy ∈ lw_U := lw_in3 182 rfl rfl
theorem wim_X6_textsBy : Cond.instanceMethod yX6_textsBy ∈ lw_U := lw_in3 184 rfl rfl
theorem wco_X6_textsBy : Cond.code yX6_textsBy cX6_textsBy 5 (some FieldType.int) ∈ lw_U := lw_in3 185 rfl rfl
theorem wml_X6_255 : Cond.methodLink RX6 255 yX6_stepsBy ∈ lw_U := lw_in3 186 rfl rfl
theorem wim_X6_stepsBy : Cond.instanceMethod yX6_stepsBy ∈ lw_U := lw_in3 188 rfl rfl
theorem wco_X6_stepsBy : Cond.code yX6_stepsBy cX6_stepsBy 7 (some FieldType.int) ∈ lw_U := lw_in3 189 rfl rfl
theorem wml_L_81 : Cond.methodLink RL 81 yX6_film ∈ lw_U := lw_in3 190 rfl rfl
theorem wim_X6_film : Cond.instanceMethod yX6_film ∈ lw_U := lw_in3 191 rfl rfl
theorem wse_X6_film : Cond.selects RX6 yX6_film yX6_film ∈ lw_U := lw_in3 192 rfl rfl
theorem wco_X6_film : Cond.code yX6_film cX6_film 7 (some FieldType.int) ∈ lw_U := lw_in3 193 rfl rfl
theorem wml_X6_258 : Cond.methodLink RX6 258 yX2_becomeRow ∈ lw_U := lw_in3 194 rfl rfl
theorem wim_X2_becomeRow : Cond.instanceMethod yX2_becomeRow ∈ lw_U := lw_in3 195 rfl rfl
theorem wse_X2_becomeRow : Cond.selects RX2 yX2_becomeRow yX2_becomeRow ∈ lw_U := lw_in3 196 rfl rfl
theorem wco_X2_becomeRow : Cond.code yX2_becomeRow cX2_becomeRow 3 (none) ∈ lw_U := lw_in3 197 rfl rfl
theorem wmn_X2_22 : Cond.methodLinkNest RX2 22 yX6_bounded RX6 ∈ lw_tbl := List.mem_append_right _ (List.mem_of_getElem? (i := 678) (by decide +kernel))
theorem wml_X2_26 : Cond.methodLink RX2 26 yJ7_fill_53178 ∈ lw_U := lw_in3 199 rfl rfl
theorem wml_X6_262 : Cond.methodLink RX6 262 yX2_put ∈ lw_U := lw_in3 200 rfl rfl
theorem wim_X2_put : Cond.instanceMethod yX2_put ∈ lw_U := lw_in3 201 rfl rfl
theorem wse_X2_put : Cond.selects RX2 yX2_put yX2_put ∈ lw_U := lw_in3 202 rfl rfl
theorem wco_X2_put : Cond.code yX2_put cX2_put 3 (none) ∈ lw_U := lw_in3 203 rfl rfl
theorem wml_L_85 : Cond.methodLink RL 85 yX6_drawn ∈ lw_U := lw_in3 204 rfl rfl
theorem wim_X6_drawn : Cond.instanceMethod yX6_drawn ∈ lw_U := lw_in3 205 rfl rfl
theorem wse_X6_drawn : Cond.selects RX6 yX6_drawn yX6_drawn ∈ lw_U := lw_in3 206 rfl rfl
theorem wco_X6_drawn : Cond.code yX6_drawn cX6_drawn 3 (some FieldType.int) ∈ lw_U := lw_in3 207 rfl rfl
theorem wml_X6_265 : Cond.methodLink RX6 265 yX6_draw ∈ lw_U := lw_in3 208 rfl rfl
theorem wim_X6_draw : Cond.instanceMethod yX6_draw ∈ lw_U := lw_in3 210 rfl rfl
theorem wco_X6_draw : Cond.code yX6_draw cX6_draw 4 (none) ∈ lw_U := lw_in3 211 rfl rfl
theorem wci_X6_344 : Cond.constant RX6 344 (1103515245) ∈ lw_U := lw_in3 212 rfl rfl
theorem wml_L_89 : Cond.methodLink RL 89 yX6_chance ∈ lw_U := lw_in3 213 rfl rfl
theorem wim_X6_chance : Cond.instanceMethod yX6_chance ∈ lw_U := lw_in3 214 rfl rfl
theorem wse_X6_chance : Cond.selects RX6 yX6_chance yX6_chance ∈ lw_U := lw_in3 215 rfl rfl
theorem wco_X6_chance : Cond.code yX6_chance cX6_chance 6 (some FieldType.long) ∈ lw_U := lw_in3 216 rfl rfl
theorem wcL_X6_268 : Cond.constantLong RX6 268 (-4611686018427387904) ∈ lw_U := lw_in3 217 rfl rfl
theorem wml_X6_270 : Cond.methodLink RX6 270 yX6_eachIsHeldUp ∈ lw_U := lw_in3 218 rfl rfl
theorem wim_X6_eachIsHeldUp : Cond.instanceMethod yX6_eachIsHeldUp ∈ lw_U := lw_in3 220 rfl rfl
theorem wco_X6_eachIsHeldUp : Cond.code yX6_eachIsHeldUp cX6_eachIsHeldUp 2 (some FieldType.boolean) ∈ lw_U := lw_in3 221 rfl rfl
theorem wml_X6_345 : Cond.methodLink RX6 345 yX4_isHeldUp ∈ lw_U := lw_in3 222 rfl rfl
theorem wim_X4_isHeldUp : Cond.instanceMethod yX4_isHeldUp ∈ lw_U := lw_in3 223 rfl rfl
theorem wse_X4_isHeldUp : Cond.selects RX4 yX4_isHeldUp yX4_isHeldUp ∈ lw_U := lw_in3 224 rfl rfl
theorem wco_X4_isHeldUp : Cond.code yX4_isHeldUp cX4_isHeldUp 3 (some FieldType.boolean) ∈ lw_U := lw_in3 225 rfl rfl
theorem wml_X6_273 : Cond.methodLink RX6 273 yX6_commonDivisor ∈ lw_U := lw_in3 226 rfl rfl
theorem wst_X6_commonDivisor : Cond.static yX6_commonDivisor ∈ lw_U := lw_in3 227 rfl rfl
theorem wco_X6_commonDivisor : Cond.code yX6_commonDivisor cX6_commonDivisor 6 (some FieldType.int) ∈ lw_U := lw_in3 228 rfl rfl
theorem wml_L_94 : Cond.methodLink RL 94 yX6_image ∈ lw_U := lw_in3 229 rfl rfl
theorem wim_X6_image : Cond.instanceMethod yX6_image ∈ lw_U := lw_in3 230 rfl rfl
theorem wse_X6_image : Cond.selects RX6 yX6_image yX6_image ∈ lw_U := lw_in3 231 rfl rfl
theorem wco_X6_image : Cond.code yX6_image cX6_image 2 (some FieldType.int) ∈ lw_U := lw_in3 232 rfl rfl
theorem wml_X6_293 : Cond.methodLink RX6 293 yX5_become ∈ lw_U := lw_in3 233 rfl rfl
theorem wim_X5_become : Cond.instanceMethod yX5_become ∈ lw_U := lw_in3 234 rfl rfl
theorem wse_X5_become : Cond.selects RX5 yX5_become yX5_become ∈ lw_U := lw_in3 235 rfl rfl
theorem wco_X5_become : Cond.code yX5_become cX5_become 2 (none) ∈ lw_U := lw_in3 236 rfl rfl
theorem wml_L_98 : Cond.methodLink RL 98 yX6_back ∈ lw_U := lw_in3 237 rfl rfl
theorem wim_X6_back : Cond.instanceMethod yX6_back ∈ lw_U := lw_in3 238 rfl rfl
theorem wse_X6_back : Cond.selects RX6 yX6_back yX6_back ∈ lw_U := lw_in3 239 rfl rfl
theorem wco_X6_back : Cond.code yX6_back cX6_back 2 (some FieldType.int) ∈ lw_U := lw_in4 0 rfl rfl
theorem wml_L_102 : Cond.methodLink RL 102 yX6_count ∈ lw_U := lw_in4 1 rfl rfl
theorem wim_X6_count : Cond.instanceMethod yX6_count ∈ lw_U := lw_in4 2 rfl rfl
theorem wse_X6_count : Cond.selects RX6 yX6_count yX6_count ∈ lw_U := lw_in4 3 rfl rfl
theorem wco_X6_count : Cond.code yX6_count cX6_count 2 (some FieldType.int) ∈ lw_U := lw_in4 4 rfl rfl
theorem wml_X6_296 : Cond.methodLink RX6 296 yX6_countInSocks ∈ lw_U := lw_in4 5 rfl rfl
theorem wim_X6_countInSocks : Cond.instanceMethod yX6_countInSocks ∈ lw_U := lw_in4 7 rfl rfl
theorem wco_X6_countInSocks : Cond.code yX6_countInSocks cX6_countInSocks 3 (some FieldType.int) ∈ lw_U := lw_in4 8 rfl rfl
theorem wml_X6_299 : Cond.methodLink RX6 299 yX6_countStopped ∈ lw_U := lw_in4 9 rfl rfl
theorem wim_X6_countStopped : Cond.instanceMethod yX6_countStopped ∈ lw_U := lw_in4 11 rfl rfl
theorem wco_X6_countStopped : Cond.code yX6_countStopped cX6_countStopped 3 (some FieldType.int) ∈ lw_U := lw_in4 12 rfl rfl
theorem wml_L_106 : Cond.methodLink RL 106 yX6_sheet ∈ lw_U := lw_in4 13 rfl rfl
theorem wim_X6_sheet : Cond.instanceMethod yX6_sheet ∈ lw_U := lw_in4 14 rfl rfl
theorem wse_X6_sheet : Cond.selects RX6 yX6_sheet yX6_sheet ∈ lw_U := lw_in4 15 rfl rfl
theorem wco_X6_sheet : Cond.code yX6_sheet cX6_sheet 5 (some FieldType.int) ∈ lw_U := lw_in4 16 rfl rfl
theorem wml_L_110 : Cond.methodLink RL 110 yX6_cell ∈ lw_U := lw_in4 17 rfl rfl
theorem wim_X6_cell : Cond.instanceMethod yX6_cell ∈ lw_U := lw_in4 18 rfl rfl
theorem wse_X6_cell : Cond.selects RX6 yX6_cell yX6_cell ∈ lw_U := lw_in4 19 rfl rfl
theorem wco_X6_cell : Cond.code yX6_cell cX6_cell 5 (some FieldType.int) ∈ lw_U := lw_in4 20 rfl rfl
theorem wml_X6_302 : Cond.methodLink RX6 302 yX2_holds ∈ lw_U := lw_in4 21 rfl rfl
theorem wim_X2_holds : Cond.instanceMethod yX2_holds ∈ lw_U := lw_in4 22 rfl rfl
theorem wse_X2_holds : Cond.selects RX2 yX2_holds yX2_holds ∈ lw_U := lw_in4 23 rfl rfl
theorem wco_X2_holds : Cond.code yX2_holds cX2_holds 3 (some FieldType.boolean) ∈ lw_U := lw_in4 24 rfl rfl
theorem wml_L_114 : Cond.methodLink RL 114 yX6_copy ∈ lw_U := lw_in4 25 rfl rfl
theorem wim_X6_copy : Cond.instanceMethod yX6_copy ∈ lw_U := lw_in4 26 rfl rfl
theorem wse_X6_copy : Cond.selects RX6 yX6_copy yX6_copy ∈ lw_U := lw_in4 27 rfl rfl
theorem wco_X6_copy : Cond.code yX6_copy cX6_copy 8 (some FieldType.int) ∈ lw_U := lw_in4 28 rfl rfl
theorem wml_L_119 : Cond.methodLink RL 119 yX6_walkers ∈ lw_U := lw_in4 29 rfl rfl
theorem wim_X6_walkers : Cond.instanceMethod yX6_walkers ∈ lw_U := lw_in4 30 rfl rfl
theorem wse_X6_walkers : Cond.selects RX6 yX6_walkers yX6_walkers ∈ lw_U := lw_in4 31 rfl rfl
theorem wco_X6_walkers : Cond.code yX6_walkers cX6_walkers 9 (some FieldType.int) ∈ lw_U := lw_in4 32 rfl rfl
theorem wml_X6_311 : Cond.methodLink RX6 311 yX6_walker ∈ lw_U := lw_in4 33 rfl rfl
theorem wml_L_124 : Cond.methodLink RL 124 yX6_taken ∈ lw_U := lw_in4 34 rfl rfl
theorem wim_X6_taken : Cond.instanceMethod yX6_taken ∈ lw_U := lw_in4 35 rfl rfl
theorem wse_X6_taken : Cond.selects RX6 yX6_taken yX6_taken ∈ lw_U := lw_in4 36 rfl rfl
theorem wco_X6_taken : Cond.code yX6_taken cX6_taken 4 (some FieldType.int) ∈ lw_U := lw_in4 37 rfl rfl
theorem wml_X6_315 : Cond.methodLink RX6 315 yX6_isUnder ∈ lw_U := lw_in4 38 rfl rfl
theorem wst_X6_isUnder : Cond.static yX6_isUnder ∈ lw_U := lw_in4 39 rfl rfl
theorem wco_X6_isUnder : Cond.code yX6_isUnder cX6_isUnder 4 (some FieldType.boolean) ∈ lw_U := lw_in4 40 rfl rfl
theorem wfl_X6_329 : Cond.fieldLink RX6 329 "SolesByWhatIsTold" "UNDER" "[I" ∈ lw_U := lw_in4 41 rfl rfl
theorem wcl_L_10 : Cond.classLink RL 10 RX7 ∈ lw_U := lw_in4 43 rfl rfl
theorem wia_X7 : Cond.instantiable RX7 46 ∈ lw_U := lw_in4 44 rfl rfl
theorem wml_L_12 : Cond.methodLink RL 12 yX7_init ∈ lw_U := lw_in4 45 rfl rfl
theorem wim_X7_init : Cond.instanceMethod yX7_init ∈ lw_U := lw_in4 46 rfl rfl
theorem wco_X7_init : Cond.code yX7_init cX7_init 2 (none) ∈ lw_U := lw_in4 47 rfl rfl
theorem wml_X7_57 : Cond.methodLink RX7 57 yX7_spell ∈ lw_U := lw_in4 49 rfl rfl
theorem wim_X7_spell : Cond.instanceMethod yX7_spell ∈ lw_U := lw_in4 51 rfl rfl
theorem wco_X7_spell : Cond.code yX7_spell cX7_spell 10 (none) ∈ lw_U := lw_in4 52 rfl rfl
theorem wfl_X7_13 : Cond.fieldLink RX7 13 "SolesByWhatIsToldModel" "texts" "[I" ∈ lw_U := lw_in4 53 rfl rfl
theorem wfl_X7_17 : Cond.fieldLink RX7 17 "SolesByWhatIsToldModel" "textSize" "[I" ∈ lw_U := lw_in4 54 rfl rfl
theorem wfl_X7_61 : Cond.fieldLink RX7 61 "SolesByWhatIsToldModel" "textCount" "I" ∈ lw_U := lw_in4 55 rfl rfl
theorem wfl_X7_98 : Cond.fieldLink RX7 98 "SolesByWhatIsToldModel" "rule" "I" ∈ lw_U := lw_in4 56 rfl rfl
theorem wfl_X7_20 : Cond.fieldLink RX7 20 "SolesByWhatIsToldModel" "tape" "[I" ∈ lw_U := lw_in4 57 rfl rfl
theorem wfl_X7_131 : Cond.fieldLink RX7 131 "SolesByWhatIsToldModel" "taped" "I" ∈ lw_U := lw_in4 58 rfl rfl
theorem wfl_X7_95 : Cond.fieldLink RX7 95 "SolesByWhatIsToldModel" "dayNow" "I" ∈ lw_U := lw_in4 59 rfl rfl
theorem wfl_X7_23 : Cond.fieldLink RX7 23 "SolesByWhatIsToldModel" "heavy" "[I" ∈ lw_U := lw_in4 60 rfl rfl
theorem wfl_X7_26 : Cond.fieldLink RX7 26 "SolesByWhatIsToldModel" "kinds" "[I" ∈ lw_U := lw_in4 61 rfl rfl
theorem wfl_X7_29 : Cond.fieldLink RX7 29 "SolesByWhatIsToldModel" "rows" "[I" ∈ lw_U := lw_in4 62 rfl rfl
theorem wfl_X7_64 : Cond.fieldLink RX7 64 "SolesByWhatIsToldModel" "many" "I" ∈ lw_U := lw_in4 63 rfl rfl
theorem wfl_X7_189 : Cond.fieldLink RX7 189 "SolesByWhatIsToldModel" "ofTold" "I" ∈ lw_U := lw_in4 64 rfl rfl
theorem wfl_X7_192 : Cond.fieldLink RX7 192 "SolesByWhatIsToldModel" "ofUntold" "I" ∈ lw_U := lw_in4 65 rfl rfl
theorem wfl_X7_195 : Cond.fieldLink RX7 195 "SolesByWhatIsToldModel" "ofStep" "I" ∈ lw_U := lw_in4 66 rfl rfl
theorem wfl_X7_198 : Cond.fieldLink RX7 198 "SolesByWhatIsToldModel" "ofNumber" "I" ∈ lw_U := lw_in4 67 rfl rfl
theorem wfl_X7_201 : Cond.fieldLink RX7 201 "SolesByWhatIsToldModel" "ofDay" "I" ∈ lw_U := lw_in4 68 rfl rfl
theorem wfl_X7_204 : Cond.fieldLink RX7 204 "SolesByWhatIsToldModel" "ofWorn" "I" ∈ lw_U := lw_in4 69 rfl rfl
theorem wfl_X7_137 : Cond.fieldLink RX7 137 "SolesByWhatIsToldModel" "from" "I" ∈ lw_U := lw_in4 70 rfl rfl
theorem wfl_X7_134 : Cond.fieldLink RX7 134 "SolesByWhatIsToldModel" "size" "I" ∈ lw_U := lw_in4 71 rfl rfl
theorem wfl_X7_140 : Cond.fieldLink RX7 140 "SolesByWhatIsToldModel" "here" "I" ∈ lw_U := lw_in4 72 rfl rfl
theorem wfl_X7_149 : Cond.fieldLink RX7 149 "SolesByWhatIsToldModel" "token" "I" ∈ lw_U := lw_in4 73 rfl rfl
theorem wfl_X7_146 : Cond.fieldLink RX7 146 "SolesByWhatIsToldModel" "tokenAt" "I" ∈ lw_U := lw_in4 74 rfl rfl
theorem wfl_X7_160 : Cond.fieldLink RX7 160 "SolesByWhatIsToldModel" "tokenWorth" "J" ∈ lw_U := lw_in4 75 rfl rfl
theorem wfl_X7_176 : Cond.fieldLink RX7 176 "SolesByWhatIsToldModel" "open" "I" ∈ lw_U := lw_in4 76 rfl rfl
theorem wfl_X7_166 : Cond.fieldLink RX7 166 "SolesByWhatIsToldModel" "bad" "Z" ∈ lw_U := lw_in4 77 rfl rfl
theorem wfl_X7_170 : Cond.fieldLink RX7 170 "SolesByWhatIsToldModel" "fault" "I" ∈ lw_U := lw_in4 78 rfl rfl
theorem wfl_X7_113 : Cond.fieldLink RX7 113 "SolesByWhatIsToldModel" "toldWeight" "I" ∈ lw_U := lw_in4 79 rfl rfl
theorem wfl_X7_116 : Cond.fieldLink RX7 116 "SolesByWhatIsToldModel" "untoldWeight" "I" ∈ lw_U := lw_in4 80 rfl rfl
theorem wfl_X7_340 : Cond.fieldLink RX7 340 "SolesByWhatIsToldModel" "step" "I" ∈ lw_U := lw_in4 81 rfl rfl
theorem wfl_X7_128 : Cond.fieldLink RX7 128 "SolesByWhatIsToldModel" "worn" "I" ∈ lw_U := lw_in4 82 rfl rfl
theorem wfl_X7_343 : Cond.fieldLink RX7 343 "SolesByWhatIsToldModel" "today" "I" ∈ lw_U := lw_in4 83 rfl rfl
theorem wfl_X7_353 : Cond.fieldLink RX7 353 "SolesByWhatIsToldModel" "firstSocks" "I" ∈ lw_U := lw_in4 84 rfl rfl
theorem wfl_X7_356 : Cond.fieldLink RX7 356 "SolesByWhatIsToldModel" "firstStay" "I" ∈ lw_U := lw_in4 85 rfl rfl
theorem wfl_X7_376 : Cond.fieldLink RX7 376 "SolesByWhatIsToldModel" "found" "I" ∈ lw_U := lw_in4 86 rfl rfl
theorem wfl_X7_379 : Cond.fieldLink RX7 379 "SolesByWhatIsToldModel" "value" "I" ∈ lw_U := lw_in4 87 rfl rfl
theorem wfl_X7_32 : Cond.fieldLink RX7 32 "SolesByWhatIsToldModel" "heavyWas" "[I" ∈ lw_U := lw_in4 88 rfl rfl
theorem wfl_X7_35 : Cond.fieldLink RX7 35 "SolesByWhatIsToldModel" "heavyKept" "[I" ∈ lw_U := lw_in4 89 rfl rfl
theorem wfl_X7_38 : Cond.fieldLink RX7 38 "SolesByWhatIsToldModel" "rowsKept" "[I" ∈ lw_U := lw_in4 90 rfl rfl
theorem wfl_X7_41 : Cond.fieldLink RX7 41 "SolesByWhatIsToldModel" "manyKept" "I" ∈ lw_U := lw_in4 91 rfl rfl
theorem wfl_X7_413 : Cond.fieldLink RX7 413 "SolesByWhatIsToldModel" "dayKept" "I" ∈ lw_U := lw_in4 92 rfl rfl
theorem wfl_X7_416 : Cond.fieldLink RX7 416 "SolesByWhatIsToldModel" "ruleKept" "I" ∈ lw_U := lw_in4 93 rfl rfl
theorem wfl_X7_44 : Cond.fieldLink RX7 44 "SolesByWhatIsToldModel" "isThere" "[Z" ∈ lw_U := lw_in4 94 rfl rfl
theorem wfl_X7_48 : Cond.fieldLink RX7 48 "SolesByWhatIsToldModel" "sorts" "[I" ∈ lw_U := lw_in4 95 rfl rfl
theorem wfl_X7_51 : Cond.fieldLink RX7 51 "SolesByWhatIsToldModel" "sheetSize" "[I" ∈ lw_U := lw_in4 96 rfl rfl
theorem wfl_X7_54 : Cond.fieldLink RX7 54 "SolesByWhatIsToldModel" "items" "[I" ∈ lw_U := lw_in4 97 rfl rfl
theorem wac_boolean : Cond.arrayClass .boolean ∈ lw_U := lw_in4 191 rfl rfl
theorem wml_L_17 : Cond.methodLink RL 17 yX7_set ∈ lw_U := lw_in4 192 rfl rfl
theorem wim_X7_set : Cond.instanceMethod yX7_set ∈ lw_U := lw_in4 193 rfl rfl
theorem wse_X7_set : Cond.selects RX7 yX7_set yX7_set ∈ lw_U := lw_in4 194 rfl rfl
theorem wco_X7_set : Cond.code yX7_set cX7_set 5 (some FieldType.int) ∈ lw_U := lw_in4 195 rfl rfl
theorem wcL_X7_77 : Cond.constantLong RX7 77 (6) ∈ lw_U := lw_in4 196 rfl rfl
theorem wml_X7_67 : Cond.methodLink RX7 67 yX7_in ∈ lw_U := lw_in4 197 rfl rfl
theorem wst_X7_in : Cond.static yX7_in ∈ lw_U := lw_in4 198 rfl rfl
theorem wco_X7_in : Cond.code yX7_in cX7_in 6 (some FieldType.boolean) ∈ lw_U := lw_in4 199 rfl rfl
theorem wml_X7_79 : Cond.methodLink RX7 79 yX7_isOf ∈ lw_U := lw_in4 200 rfl rfl
theorem wim_X7_isOf : Cond.instanceMethod yX7_isOf ∈ lw_U := lw_in4 202 rfl rfl
theorem wco_X7_isOf : Cond.code yX7_isOf cX7_isOf 3 (some FieldType.boolean) ∈ lw_U := lw_in4 203 rfl rfl
theorem wcL_X7_71 : Cond.constantLong RX7 71 (7) ∈ lw_U := lw_in4 204 rfl rfl
theorem wml_X7_73 : Cond.methodLink RX7 73 yX7_isOne ∈ lw_U := lw_in4 205 rfl rfl
theorem wim_X7_isOne : Cond.instanceMethod yX7_isOne ∈ lw_U := lw_in4 207 rfl rfl
theorem wco_X7_isOne : Cond.code yX7_isOne cX7_isOne 2 (some FieldType.boolean) ∈ lw_U := lw_in4 208 rfl rfl
theorem wml_X7_83 : Cond.methodLink RX7 83 yX7_mostOf ∈ lw_U := lw_in4 209 rfl rfl
theorem wst_X7_mostOf : Cond.static yX7_mostOf ∈ lw_U := lw_in4 210 rfl rfl
theorem wco_X7_mostOf : Cond.code yX7_mostOf cX7_mostOf 1 (some FieldType.int) ∈ lw_U := lw_in4 211 rfl rfl
theorem wml_X7_87 : Cond.methodLink RX7 87 yX7_told ∈ lw_U := lw_in4 212 rfl rfl
theorem wim_X7_told : Cond.instanceMethod yX7_told ∈ lw_U := lw_in4 213 rfl rfl
theorem wse_X7_told : Cond.selects RX7 yX7_told yX7_told ∈ lw_U := lw_in4 214 rfl rfl
theorem wco_X7_told : Cond.code yX7_told cX7_told 3 (some FieldType.int) ∈ lw_U := lw_in4 215 rfl rfl
theorem wcL_X7_107 : Cond.constantLong RX7 107 (13) ∈ lw_U := lw_in4 216 rfl rfl
theorem wml_X7_109 : Cond.methodLink RX7 109 yX7_begins ∈ lw_U := lw_in4 217 rfl rfl
theorem wim_X7_begins : Cond.instanceMethod yX7_begins ∈ lw_U := lw_in4 219 rfl rfl
theorem wco_X7_begins : Cond.code yX7_begins cX7_begins 3 (none) ∈ lw_U := lw_in4 220 rfl rfl
theorem wml_X7_337 : Cond.methodLink RX7 337 yX7_weightOf ∈ lw_U := lw_in4 221 rfl rfl
theorem wim_X7_weightOf : Cond.instanceMethod yX7_weightOf ∈ lw_U := lw_in4 223 rfl rfl
theorem wco_X7_weightOf : Cond.code yX7_weightOf cX7_weightOf 4 (some FieldType.int) ∈ lw_U := lw_in4 224 rfl rfl
theorem wml_X7_119 : Cond.methodLink RX7 119 yX7_lastsOf ∈ lw_U := lw_in4 225 rfl rfl
theorem wim_X7_lastsOf : Cond.instanceMethod yX7_lastsOf ∈ lw_U := lw_in4 227 rfl rfl
theorem wco_X7_lastsOf : Cond.code yX7_lastsOf cX7_lastsOf 5 (some FieldType.int) ∈ lw_U := lw_in4 228 rfl rfl
theorem wml_X7_350 : Cond.methodLink RX7 350 yX7_asks ∈ lw_U := lw_in4 229 rfl rfl
theorem wim_X7_asks : Cond.instanceMethod yX7_asks ∈ lw_U := lw_in4 231 rfl rfl
theorem wco_X7_asks : Cond.code yX7_asks cX7_asks 4 (some FieldType.int) ∈ lw_U := lw_in4 232 rfl rfl
theorem wml_X7_334 : Cond.methodLink RX7 334 yX7_read ∈ lw_U := lw_in4 233 rfl rfl
theorem wim_X7_read : Cond.instanceMethod yX7_read ∈ lw_U := lw_in4 235 rfl rfl
theorem wco_X7_read : Cond.code yX7_read cX7_read 6 (some FieldType.int) ∈ lw_U := lw_in4 236 rfl rfl
theorem wml_X7_182 : Cond.methodLink RX7 182 yX7_next ∈ lw_U := lw_in4 237 rfl rfl
theorem wim_X7_next : Cond.instanceMethod yX7_next ∈ lw_U := lw_in4 239 rfl rfl
theorem wco_X7_next : Cond.code yX7_next cX7_next 3 (none) ∈ lw_U := lw_in5 0 rfl rfl
theorem wml_X7_143 : Cond.methodLink RX7 143 yX7_byteAt ∈ lw_U := lw_in5 1 rfl rfl
theorem wim_X7_byteAt : Cond.instanceMethod yX7_byteAt ∈ lw_U := lw_in5 3 rfl rfl
theorem wco_X7_byteAt : Cond.code yX7_byteAt cX7_byteAt 2 (some FieldType.int) ∈ lw_U := lw_in5 4 rfl rfl
theorem wcL_X7_152 : Cond.constantLong RX7 152 (97) ∈ lw_U := lw_in5 5 rfl rfl
theorem wcL_X7_154 : Cond.constantLong RX7 154 (122) ∈ lw_U := lw_in5 6 rfl rfl
theorem wcL_X7_156 : Cond.constantLong RX7 156 (48) ∈ lw_U := lw_in5 7 rfl rfl
theorem wcL_X7_158 : Cond.constantLong RX7 158 (57) ∈ lw_U := lw_in5 8 rfl rfl
theorem wcL_X7_164 : Cond.constantLong RX7 164 (10) ∈ lw_U := lw_in5 9 rfl rfl
theorem wml_X7_185 : Cond.methodLink RX7 185 yX7_isWord ∈ lw_U := lw_in5 10 rfl rfl
theorem wim_X7_isWord : Cond.instanceMethod yX7_isWord ∈ lw_U := lw_in5 12 rfl rfl
theorem wco_X7_isWord : Cond.code yX7_isWord cX7_isWord 9 (some FieldType.boolean) ∈ lw_U := lw_in5 13 rfl rfl
theorem wml_X7_173 : Cond.methodLink RX7 173 yX7_isLetter ∈ lw_U := lw_in5 14 rfl rfl
theorem wim_X7_isLetter : Cond.instanceMethod yX7_isLetter ∈ lw_U := lw_in5 16 rfl rfl
theorem wco_X7_isLetter : Cond.code yX7_isLetter cX7_isLetter 3 (some FieldType.boolean) ∈ lw_U := lw_in5 17 rfl rfl
theorem wml_X7_330 : Cond.methodLink RX7 330 yX7_part ∈ lw_U := lw_in5 18 rfl rfl
theorem wim_X7_part : Cond.instanceMethod yX7_part ∈ lw_U := lw_in5 20 rfl rfl
theorem wco_X7_part : Cond.code yX7_part cX7_part 3 (some FieldType.int) ∈ lw_U := lw_in5 21 rfl rfl
theorem wml_X7_179 : Cond.methodLink RX7 179 yX7_fail ∈ lw_U := lw_in5 22 rfl rfl
theorem wim_X7_fail : Cond.instanceMethod yX7_fail ∈ lw_U := lw_in5 24 rfl rfl
theorem wco_X7_fail : Cond.code yX7_fail cX7_fail 1 (none) ∈ lw_U := lw_in5 25 rfl rfl
theorem wml_X7_327 : Cond.methodLink RX7 327 yX7_either0 ∈ lw_U := lw_in5 26 rfl rfl
theorem wim_X7_either0 : Cond.instanceMethod yX7_either0 ∈ lw_U := lw_in5 28 rfl rfl
theorem wco_X7_either0 : Cond.code yX7_either0 cX7_either0 3 (some FieldType.int) ∈ lw_U := lw_in5 29 rfl rfl
theorem wml_X7_324 : Cond.methodLink RX7 324 yX7_both0 ∈ lw_U := lw_in5 30 rfl rfl
theorem wim_X7_both0 : Cond.instanceMethod yX7_both0 ∈ lw_U := lw_in5 32 rfl rfl
theorem wco_X7_both0 : Cond.code yX7_both0 cX7_both0 3 (some FieldType.int) ∈ lw_U := lw_in5 33 rfl rfl
theorem wml_X7_321 : Cond.methodLink RX7 321 yX7_not0 ∈ lw_U := lw_in5 34 rfl rfl
theorem wim_X7_not0 : Cond.instanceMethod yX7_not0 ∈ lw_U := lw_in5 36 rfl rfl
theorem wco_X7_not0 : Cond.code yX7_not0 cX7_not0 4 (some FieldType.int) ∈ lw_U := lw_in5 37 rfl rfl
theorem wml_X7_210 : Cond.methodLink RX7 210 yX7_opens ∈ lw_U := lw_in5 38 rfl rfl
theorem wim_X7_opens : Cond.instanceMethod yX7_opens ∈ lw_U := lw_in5 40 rfl rfl
theorem wco_X7_opens : Cond.code yX7_opens cX7_opens 1 (some FieldType.boolean) ∈ lw_U := lw_in5 41 rfl rfl
theorem wml_X7_303 : Cond.methodLink RX7 303 yX7_not1 ∈ lw_U := lw_in5 42 rfl rfl
theorem wim_X7_not1 : Cond.instanceMethod yX7_not1 ∈ lw_U := lw_in5 44 rfl rfl
theorem wco_X7_not1 : Cond.code yX7_not1 cX7_not1 4 (some FieldType.int) ∈ lw_U := lw_in5 45 rfl rfl
theorem wml_X7_285 : Cond.methodLink RX7 285 yX7_not2 ∈ lw_U := lw_in5 46 rfl rfl
theorem wim_X7_not2 : Cond.instanceMethod yX7_not2 ∈ lw_U := lw_in5 48 rfl rfl
theorem wco_X7_not2 : Cond.code yX7_not2 cX7_not2 4 (some FieldType.int) ∈ lw_U := lw_in5 49 rfl rfl
theorem wml_X7_267 : Cond.methodLink RX7 267 yX7_not3 ∈ lw_U := lw_in5 50 rfl rfl
theorem wim_X7_not3 : Cond.instanceMethod yX7_not3 ∈ lw_U := lw_in5 52 rfl rfl
theorem wco_X7_not3 : Cond.code yX7_not3 cX7_not3 4 (some FieldType.int) ∈ lw_U := lw_in5 53 rfl rfl
theorem wml_X7_249 : Cond.methodLink RX7 249 yX7_not4 ∈ lw_U := lw_in5 54 rfl rfl
theorem wim_X7_not4 : Cond.instanceMethod yX7_not4 ∈ lw_U := lw_in5 56 rfl rfl
theorem wco_X7_not4 : Cond.code yX7_not4 cX7_not4 4 (some FieldType.int) ∈ lw_U := lw_in5 57 rfl rfl
theorem wml_X7_231 : Cond.methodLink RX7 231 yX7_not5 ∈ lw_U := lw_in5 58 rfl rfl
theorem wim_X7_not5 : Cond.instanceMethod yX7_not5 ∈ lw_U := lw_in5 60 rfl rfl
theorem wco_X7_not5 : Cond.code yX7_not5 cX7_not5 4 (some FieldType.int) ∈ lw_U := lw_in5 61 rfl rfl
theorem wml_X7_226 : Cond.methodLink RX7 226 yX7_added5 ∈ lw_U := lw_in5 62 rfl rfl
theorem wim_X7_added5 : Cond.instanceMethod yX7_added5 ∈ lw_U := lw_in5 64 rfl rfl
theorem wco_X7_added5 : Cond.code yX7_added5 cX7_added5 4 (some FieldType.int) ∈ lw_U := lw_in5 65 rfl rfl
theorem wml_X7_221 : Cond.methodLink RX7 221 yX7_term5 ∈ lw_U := lw_in5 66 rfl rfl
theorem wim_X7_term5 : Cond.instanceMethod yX7_term5 ∈ lw_U := lw_in5 68 rfl rfl
theorem wco_X7_term5 : Cond.code yX7_term5 cX7_term5 2 (some FieldType.int) ∈ lw_U := lw_in5 69 rfl rfl
theorem wml_X7_218 : Cond.methodLink RX7 218 yX7_atom5 ∈ lw_U := lw_in5 70 rfl rfl
theorem wim_X7_atom5 : Cond.instanceMethod yX7_atom5 ∈ lw_U := lw_in5 72 rfl rfl
theorem wco_X7_atom5 : Cond.code yX7_atom5 cX7_atom5 2 (some FieldType.int) ∈ lw_U := lw_in5 73 rfl rfl
theorem wml_X7_207 : Cond.methodLink RX7 207 yX7_isSign ∈ lw_U := lw_in5 74 rfl rfl
theorem wim_X7_isSign : Cond.instanceMethod yX7_isSign ∈ lw_U := lw_in5 76 rfl rfl
theorem wco_X7_isSign : Cond.code yX7_isSign cX7_isSign 2 (some FieldType.boolean) ∈ lw_U := lw_in5 77 rfl rfl
theorem wml_X7_214 : Cond.methodLink RX7 214 yX7_name ∈ lw_U := lw_in5 78 rfl rfl
theorem wim_X7_name : Cond.instanceMethod yX7_name ∈ lw_U := lw_in5 80 rfl rfl
theorem wco_X7_name : Cond.code yX7_name cX7_name 1 (some FieldType.int) ∈ lw_U := lw_in5 81 rfl rfl
theorem wcL_X7_224 : Cond.constantLong RX7 224 (43) ∈ lw_U := lw_in5 82 rfl rfl
theorem wcL_X7_229 : Cond.constantLong RX7 229 (60) ∈ lw_U := lw_in5 83 rfl rfl
theorem wml_X7_246 : Cond.methodLink RX7 246 yX7_added4 ∈ lw_U := lw_in5 84 rfl rfl
theorem wim_X7_added4 : Cond.instanceMethod yX7_added4 ∈ lw_U := lw_in5 86 rfl rfl
theorem wco_X7_added4 : Cond.code yX7_added4 cX7_added4 4 (some FieldType.int) ∈ lw_U := lw_in5 87 rfl rfl
theorem wml_X7_243 : Cond.methodLink RX7 243 yX7_term4 ∈ lw_U := lw_in5 88 rfl rfl
theorem wim_X7_term4 : Cond.instanceMethod yX7_term4 ∈ lw_U := lw_in5 90 rfl rfl
theorem wco_X7_term4 : Cond.code yX7_term4 cX7_term4 2 (some FieldType.int) ∈ lw_U := lw_in5 91 rfl rfl
theorem wml_X7_240 : Cond.methodLink RX7 240 yX7_atom4 ∈ lw_U := lw_in5 92 rfl rfl
theorem wim_X7_atom4 : Cond.instanceMethod yX7_atom4 ∈ lw_U := lw_in5 94 rfl rfl
theorem wco_X7_atom4 : Cond.code yX7_atom4 cX7_atom4 2 (some FieldType.int) ∈ lw_U := lw_in5 95 rfl rfl
theorem wml_X7_237 : Cond.methodLink RX7 237 yX7_either5 ∈ lw_U := lw_in5 96 rfl rfl
theorem wim_X7_either5 : Cond.instanceMethod yX7_either5 ∈ lw_U := lw_in5 98 rfl rfl
theorem wco_X7_either5 : Cond.code yX7_either5 cX7_either5 3 (some FieldType.int) ∈ lw_U := lw_in5 99 rfl rfl
theorem wml_X7_234 : Cond.methodLink RX7 234 yX7_both5 ∈ lw_U := lw_in5 100 rfl rfl
theorem wim_X7_both5 : Cond.instanceMethod yX7_both5 ∈ lw_U := lw_in5 102 rfl rfl
theorem wco_X7_both5 : Cond.code yX7_both5 cX7_both5 3 (some FieldType.int) ∈ lw_U := lw_in5 103 rfl rfl
theorem wml_X7_264 : Cond.methodLink RX7 264 yX7_added3 ∈ lw_U := lw_in5 104 rfl rfl
theorem wim_X7_added3 : Cond.instanceMethod yX7_added3 ∈ lw_U := lw_in5 106 rfl rfl
theorem wco_X7_added3 : Cond.code yX7_added3 cX7_added3 4 (some FieldType.int) ∈ lw_U := lw_in5 107 rfl rfl
theorem wml_X7_261 : Cond.methodLink RX7 261 yX7_term3 ∈ lw_U := lw_in5 108 rfl rfl
theorem wim_X7_term3 : Cond.instanceMethod yX7_term3 ∈ lw_U := lw_in5 110 rfl rfl
theorem wco_X7_term3 : Cond.code yX7_term3 cX7_term3 2 (some FieldType.int) ∈ lw_U := lw_in5 111 rfl rfl
theorem wml_X7_258 : Cond.methodLink RX7 258 yX7_atom3 ∈ lw_U := lw_in5 112 rfl rfl
theorem wim_X7_atom3 : Cond.instanceMethod yX7_atom3 ∈ lw_U := lw_in5 114 rfl rfl
theorem wco_X7_atom3 : Cond.code yX7_atom3 cX7_atom3 2 (some FieldType.int) ∈ lw_U := lw_in5 115 rfl rfl
theorem wml_X7_255 : Cond.methodLink RX7 255 yX7_either4 ∈ lw_U := lw_in5 116 rfl rfl
theorem wim_X7_either4 : Cond.instanceMethod yX7_either4 ∈ lw_U := lw_in5 118 rfl rfl
theorem wco_X7_either4 : Cond.code yX7_either4 cX7_either4 3 (some FieldType.int) ∈ lw_U := lw_in5 119 rfl rfl
theorem wml_X7_252 : Cond.methodLink RX7 252 yX7_both4 ∈ lw_U := lw_in5 120 rfl rfl
theorem wim_X7_both4 : Cond.instanceMethod yX7_both4 ∈ lw_U := lw_in5 122 rfl rfl
theorem wco_X7_both4 : Cond.code yX7_both4 cX7_both4 3 (some FieldType.int) ∈ lw_U := lw_in5 123 rfl rfl
theorem wml_X7_282 : Cond.methodLink RX7 282 yX7_added2 ∈ lw_U := lw_in5 124 rfl rfl
theorem wim_X7_added2 : Cond.instanceMethod yX7_added2 ∈ lw_U := lw_in5 126 rfl rfl
theorem wco_X7_added2 : Cond.code yX7_added2 cX7_added2 4 (some FieldType.int) ∈ lw_U := lw_in5 127 rfl rfl
theorem wml_X7_279 : Cond.methodLink RX7 279 yX7_term2 ∈ lw_U := lw_in5 128 rfl rfl
theorem wim_X7_term2 : Cond.instanceMethod yX7_term2 ∈ lw_U := lw_in5 130 rfl rfl
theorem wco_X7_term2 : Cond.code yX7_term2 cX7_term2 2 (some FieldType.int) ∈ lw_U := lw_in5 131 rfl rfl
theorem wml_X7_276 : Cond.methodLink RX7 276 yX7_atom2 ∈ lw_U := lw_in5 132 rfl rfl
theorem wim_X7_atom2 : Cond.instanceMethod yX7_atom2 ∈ lw_U := lw_in5 134 rfl rfl
theorem wco_X7_atom2 : Cond.code yX7_atom2 cX7_atom2 2 (some FieldType.int) ∈ lw_U := lw_in5 135 rfl rfl
theorem wml_X7_273 : Cond.methodLink RX7 273 yX7_either3 ∈ lw_U := lw_in5 136 rfl rfl
theorem wim_X7_either3 : Cond.instanceMethod yX7_either3 ∈ lw_U := lw_in5 138 rfl rfl
theorem wco_X7_either3 : Cond.code yX7_either3 cX7_either3 3 (some FieldType.int) ∈ lw_U := lw_in5 139 rfl rfl
theorem wml_X7_270 : Cond.methodLink RX7 270 yX7_both3 ∈ lw_U := lw_in5 140 rfl rfl
theorem wim_X7_both3 : Cond.instanceMethod yX7_both3 ∈ lw_U := lw_in5 142 rfl rfl
theorem wco_X7_both3 : Cond.code yX7_both3 cX7_both3 3 (some FieldType.int) ∈ lw_U := lw_in5 143 rfl rfl
theorem wml_X7_300 : Cond.methodLink RX7 300 yX7_added1 ∈ lw_U := lw_in5 144 rfl rfl
theorem wim_X7_added1 : Cond.instanceMethod yX7_added1 ∈ lw_U := lw_in5 146 rfl rfl
theorem wco_X7_added1 : Cond.code yX7_added1 cX7_added1 4 (some FieldType.int) ∈ lw_U := lw_in5 147 rfl rfl
theorem wml_X7_297 : Cond.methodLink RX7 297 yX7_term1 ∈ lw_U := lw_in5 148 rfl rfl
theorem wim_X7_term1 : Cond.instanceMethod yX7_term1 ∈ lw_U := lw_in5 150 rfl rfl
theorem wco_X7_term1 : Cond.code yX7_term1 cX7_term1 2 (some FieldType.int) ∈ lw_U := lw_in5 151 rfl rfl
theorem wml_X7_294 : Cond.methodLink RX7 294 yX7_atom1 ∈ lw_U := lw_in5 152 rfl rfl
theorem wim_X7_atom1 : Cond.instanceMethod yX7_atom1 ∈ lw_U := lw_in5 154 rfl rfl
theorem wco_X7_atom1 : Cond.code yX7_atom1 cX7_atom1 2 (some FieldType.int) ∈ lw_U := lw_in5 155 rfl rfl
theorem wml_X7_291 : Cond.methodLink RX7 291 yX7_either2 ∈ lw_U := lw_in5 156 rfl rfl
theorem wim_X7_either2 : Cond.instanceMethod yX7_either2 ∈ lw_U := lw_in5 158 rfl rfl
theorem wco_X7_either2 : Cond.code yX7_either2 cX7_either2 3 (some FieldType.int) ∈ lw_U := lw_in5 159 rfl rfl
theorem wml_X7_288 : Cond.methodLink RX7 288 yX7_both2 ∈ lw_U := lw_in5 160 rfl rfl
theorem wim_X7_both2 : Cond.instanceMethod yX7_both2 ∈ lw_U := lw_in5 162 rfl rfl
theorem wco_X7_both2 : Cond.code yX7_both2 cX7_both2 3 (some FieldType.int) ∈ lw_U := lw_in5 163 rfl rfl
theorem wml_X7_318 : Cond.methodLink RX7 318 yX7_added0 ∈ lw_U := lw_in5 164 rfl rfl
theorem wim_X7_added0 : Cond.instanceMethod yX7_added0 ∈ lw_U := lw_in5 166 rfl rfl
theorem wco_X7_added0 : Cond.code yX7_added0 cX7_added0 4 (some FieldType.int) ∈ lw_U := lw_in5 167 rfl rfl
theorem wml_X7_315 : Cond.methodLink RX7 315 yX7_term0 ∈ lw_U := lw_in5 168 rfl rfl
theorem wim_X7_term0 : Cond.instanceMethod yX7_term0 ∈ lw_U := lw_in5 170 rfl rfl
theorem wco_X7_term0 : Cond.code yX7_term0 cX7_term0 2 (some FieldType.int) ∈ lw_U := lw_in5 171 rfl rfl
theorem wml_X7_312 : Cond.methodLink RX7 312 yX7_atom0 ∈ lw_U := lw_in5 172 rfl rfl
theorem wim_X7_atom0 : Cond.instanceMethod yX7_atom0 ∈ lw_U := lw_in5 174 rfl rfl
theorem wco_X7_atom0 : Cond.code yX7_atom0 cX7_atom0 2 (some FieldType.int) ∈ lw_U := lw_in5 175 rfl rfl
theorem wml_X7_309 : Cond.methodLink RX7 309 yX7_either1 ∈ lw_U := lw_in5 176 rfl rfl
theorem wim_X7_either1 : Cond.instanceMethod yX7_either1 ∈ lw_U := lw_in5 178 rfl rfl
theorem wco_X7_either1 : Cond.code yX7_either1 cX7_either1 3 (some FieldType.int) ∈ lw_U := lw_in5 179 rfl rfl
theorem wml_X7_306 : Cond.methodLink RX7 306 yX7_both1 ∈ lw_U := lw_in5 180 rfl rfl
theorem wim_X7_both1 : Cond.instanceMethod yX7_both1 ∈ lw_U := lw_in5 182 rfl rfl
theorem wco_X7_both1 : Cond.code yX7_both1 cX7_both1 3 (some FieldType.int) ∈ lw_U := lw_in5 183 rfl rfl
theorem wml_X7_346 : Cond.methodLink RX7 346 yX7_within ∈ lw_U := lw_in5 184 rfl rfl
theorem wst_X7_within : Cond.static yX7_within ∈ lw_U := lw_in5 185 rfl rfl
theorem wco_X7_within : Cond.code yX7_within cX7_within 3 (some FieldType.int) ∈ lw_U := lw_in5 186 rfl rfl
theorem wml_X7_122 : Cond.methodLink RX7 122 yX7_paceOf ∈ lw_U := lw_in5 187 rfl rfl
theorem wim_X7_paceOf : Cond.instanceMethod yX7_paceOf ∈ lw_U := lw_in5 189 rfl rfl
theorem wco_X7_paceOf : Cond.code yX7_paceOf cX7_paceOf 5 (some FieldType.int) ∈ lw_U := lw_in5 190 rfl rfl
theorem wml_X7_125 : Cond.methodLink RX7 125 yX7_isStopped ∈ lw_U := lw_in5 191 rfl rfl
theorem wim_X7_isStopped : Cond.instanceMethod yX7_isStopped ∈ lw_U := lw_in5 193 rfl rfl
theorem wco_X7_isStopped : Cond.code yX7_isStopped cX7_isStopped 4 (some FieldType.boolean) ∈ lw_U := lw_in5 194 rfl rfl
theorem wml_X7_91 : Cond.methodLink RX7 91 yX7_lays ∈ lw_U := lw_in5 195 rfl rfl
theorem wim_X7_lays : Cond.instanceMethod yX7_lays ∈ lw_U := lw_in5 197 rfl rfl
theorem wco_X7_lays : Cond.code yX7_lays cX7_lays 4 (none) ∈ lw_U := lw_in5 198 rfl rfl
theorem wml_L_21 : Cond.methodLink RL 21 yX7_walker ∈ lw_U := lw_in5 199 rfl rfl
theorem wim_X7_walker : Cond.instanceMethod yX7_walker ∈ lw_U := lw_in5 200 rfl rfl
theorem wse_X7_walker : Cond.selects RX7 yX7_walker yX7_walker ∈ lw_U := lw_in5 201 rfl rfl
theorem wco_X7_walker : Cond.code yX7_walker cX7_walker 4 (some FieldType.int) ∈ lw_U := lw_in5 202 rfl rfl
theorem wcL_X7_101 : Cond.constantLong RX7 101 (5) ∈ lw_U := lw_in5 203 rfl rfl
theorem wcL_X7_103 : Cond.constantLong RX7 103 (9) ∈ lw_U := lw_in5 204 rfl rfl
theorem wcL_X7_105 : Cond.constantLong RX7 105 (255) ∈ lw_U := lw_in5 205 rfl rfl
theorem wml_L_26 : Cond.methodLink RL 26 yX7_told ∈ lw_U := lw_in5 206 rfl rfl
theorem wml_L_31 : Cond.methodLink RL 31 yX7_feed ∈ lw_U := lw_in5 207 rfl rfl
theorem wim_X7_feed : Cond.instanceMethod yX7_feed ∈ lw_U := lw_in5 208 rfl rfl
theorem wse_X7_feed : Cond.selects RX7 yX7_feed yX7_feed ∈ lw_U := lw_in5 209 rfl rfl
theorem wco_X7_feed : Cond.code yX7_feed cX7_feed 2 (some FieldType.int) ∈ lw_U := lw_in5 210 rfl rfl
theorem wml_L_36 : Cond.methodLink RL 36 yX7_text ∈ lw_U := lw_in5 211 rfl rfl
theorem wim_X7_text : Cond.instanceMethod yX7_text ∈ lw_U := lw_in5 212 rfl rfl
theorem wse_X7_text : Cond.selects RX7 yX7_text yX7_text ∈ lw_U := lw_in5 213 rfl rfl
theorem wco_X7_text : Cond.code yX7_text cX7_text 2 (some FieldType.int) ∈ lw_U := lw_in5 214 rfl rfl
theorem wml_L_40 : Cond.methodLink RL 40 yX7_force ∈ lw_U := lw_in5 215 rfl rfl
theorem wim_X7_force : Cond.instanceMethod yX7_force ∈ lw_U := lw_in5 216 rfl rfl
theorem wse_X7_force : Cond.selects RX7 yX7_force yX7_force ∈ lw_U := lw_in5 217 rfl rfl
theorem wco_X7_force : Cond.code yX7_force cX7_force 3 (some FieldType.int) ∈ lw_U := lw_in5 218 rfl rfl
theorem wml_L_44 : Cond.methodLink RL 44 yX7_day ∈ lw_U := lw_in5 219 rfl rfl
theorem wim_X7_day : Cond.instanceMethod yX7_day ∈ lw_U := lw_in5 220 rfl rfl
theorem wse_X7_day : Cond.selects RX7 yX7_day yX7_day ∈ lw_U := lw_in5 221 rfl rfl
theorem wco_X7_day : Cond.code yX7_day cX7_day 3 (some FieldType.int) ∈ lw_U := lw_in5 222 rfl rfl
theorem wml_X7_359 : Cond.methodLink RX7 359 yX7_goes ∈ lw_U := lw_in5 223 rfl rfl
theorem wim_X7_goes : Cond.instanceMethod yX7_goes ∈ lw_U := lw_in5 225 rfl rfl
theorem wco_X7_goes : Cond.code yX7_goes cX7_goes 6 (some FieldType.boolean) ∈ lw_U := lw_in5 226 rfl rfl
theorem wml_L_48 : Cond.methodLink RL 48 yX7_run ∈ lw_U := lw_in5 227 rfl rfl
theorem wim_X7_run : Cond.instanceMethod yX7_run ∈ lw_U := lw_in5 228 rfl rfl
theorem wse_X7_run : Cond.selects RX7 yX7_run yX7_run ∈ lw_U := lw_in5 229 rfl rfl
theorem wco_X7_run : Cond.code yX7_run cX7_run 4 (some FieldType.int) ∈ lw_U := lw_in5 230 rfl rfl
theorem wcL_X7_365 : Cond.constantLong RX7 365 (40) ∈ lw_U := lw_in5 231 rfl rfl
theorem wcL_X7_367 : Cond.constantLong RX7 367 (3) ∈ lw_U := lw_in5 232 rfl rfl
theorem wml_X7_369 : Cond.methodLink RX7 369 yX7_lives ∈ lw_U := lw_in5 233 rfl rfl
theorem wim_X7_lives : Cond.instanceMethod yX7_lives ∈ lw_U := lw_in5 235 rfl rfl
theorem wco_X7_lives : Cond.code yX7_lives cX7_lives 4 (none) ∈ lw_U := lw_in5 236 rfl rfl
theorem wml_X7_362 : Cond.methodLink RX7 362 yX7_isInSocks ∈ lw_U := lw_in5 237 rfl rfl
theorem wim_X7_isInSocks : Cond.instanceMethod yX7_isInSocks ∈ lw_U := lw_in5 239 rfl rfl
theorem wco_X7_isInSocks : Cond.code yX7_isInSocks cX7_isInSocks 2 (some FieldType.boolean) ∈ lw_U := lw_in6 0 rfl rfl
theorem wml_L_52 : Cond.methodLink RL 52 yX7_mend ∈ lw_U := lw_in6 1 rfl rfl
theorem wim_X7_mend : Cond.instanceMethod yX7_mend ∈ lw_U := lw_in6 2 rfl rfl
theorem wse_X7_mend : Cond.selects RX7 yX7_mend yX7_mend ∈ lw_U := lw_in6 3 rfl rfl
theorem wco_X7_mend : Cond.code yX7_mend cX7_mend 3 (some FieldType.int) ∈ lw_U := lw_in6 4 rfl rfl
theorem wml_L_56 : Cond.methodLink RL 56 yX7_far ∈ lw_U := lw_in6 5 rfl rfl
theorem wim_X7_far : Cond.instanceMethod yX7_far ∈ lw_U := lw_in6 6 rfl rfl
theorem wse_X7_far : Cond.selects RX7 yX7_far yX7_far ∈ lw_U := lw_in6 7 rfl rfl
theorem wco_X7_far : Cond.code yX7_far cX7_far 8 (some FieldType.int) ∈ lw_U := lw_in6 8 rfl rfl
theorem wml_X7_373 : Cond.methodLink RX7 373 yX7_stepBehind ∈ lw_U := lw_in6 9 rfl rfl
theorem wim_X7_stepBehind : Cond.instanceMethod yX7_stepBehind ∈ lw_U := lw_in6 11 rfl rfl
theorem wco_X7_stepBehind : Cond.code yX7_stepBehind cX7_stepBehind 4 (some FieldType.int) ∈ lw_U := lw_in6 12 rfl rfl
theorem wml_X7_382 : Cond.methodLink RX7 382 yX7_isLighter ∈ lw_U := lw_in6 13 rfl rfl
theorem wim_X7_isLighter : Cond.instanceMethod yX7_isLighter ∈ lw_U := lw_in6 15 rfl rfl
theorem wco_X7_isLighter : Cond.code yX7_isLighter cX7_isLighter 2 (some FieldType.boolean) ∈ lw_U := lw_in6 16 rfl rfl
theorem wml_L_60 : Cond.methodLink RL 60 yX7_least ∈ lw_U := lw_in6 17 rfl rfl
theorem wim_X7_least : Cond.instanceMethod yX7_least ∈ lw_U := lw_in6 18 rfl rfl
theorem wse_X7_least : Cond.selects RX7 yX7_least yX7_least ∈ lw_U := lw_in6 19 rfl rfl
theorem wco_X7_least : Cond.code yX7_least cX7_least 7 (some FieldType.int) ∈ lw_U := lw_in6 20 rfl rfl
theorem wcL_X7_385 : Cond.constantLong RX7 385 (999) ∈ lw_U := lw_in6 21 rfl rfl
theorem wml_L_64 : Cond.methodLink RL 64 yX7_heaviest ∈ lw_U := lw_in6 22 rfl rfl
theorem wim_X7_heaviest : Cond.instanceMethod yX7_heaviest ∈ lw_U := lw_in6 23 rfl rfl
theorem wse_X7_heaviest : Cond.selects RX7 yX7_heaviest yX7_heaviest ∈ lw_U := lw_in6 24 rfl rfl
theorem wco_X7_heaviest : Cond.code yX7_heaviest cX7_heaviest 7 (some FieldType.int) ∈ lw_U := lw_in6 25 rfl rfl
theorem wml_L_68 : Cond.methodLink RL 68 yX7_away ∈ lw_U := lw_in6 26 rfl rfl
theorem wim_X7_away : Cond.instanceMethod yX7_away ∈ lw_U := lw_in6 27 rfl rfl
theorem wse_X7_away : Cond.selects RX7 yX7_away yX7_away ∈ lw_U := lw_in6 28 rfl rfl
theorem wco_X7_away : Cond.code yX7_away cX7_away 5 (some FieldType.int) ∈ lw_U := lw_in6 29 rfl rfl
theorem wml_X7_387 : Cond.methodLink RX7 387 yX7_daysTill ∈ lw_U := lw_in6 30 rfl rfl
theorem wim_X7_daysTill : Cond.instanceMethod yX7_daysTill ∈ lw_U := lw_in6 32 rfl rfl
theorem wco_X7_daysTill : Cond.code yX7_daysTill cX7_daysTill 4 (some FieldType.int) ∈ lw_U := lw_in6 33 rfl rfl
theorem wml_L_72 : Cond.methodLink RL 72 yX7_keeper ∈ lw_U := lw_in6 34 rfl rfl
theorem wim_X7_keeper : Cond.instanceMethod yX7_keeper ∈ lw_U := lw_in6 35 rfl rfl
theorem wse_X7_keeper : Cond.selects RX7 yX7_keeper yX7_keeper ∈ lw_U := lw_in6 36 rfl rfl
theorem wco_X7_keeper : Cond.code yX7_keeper cX7_keeper 6 (some FieldType.int) ∈ lw_U := lw_in6 37 rfl rfl
theorem wml_X7_390 : Cond.methodLink RX7 390 yX7_allBehind ∈ lw_U := lw_in6 38 rfl rfl
theorem wim_X7_allBehind : Cond.instanceMethod yX7_allBehind ∈ lw_U := lw_in6 40 rfl rfl
theorem wco_X7_allBehind : Cond.code yX7_allBehind cX7_allBehind 4 (some FieldType.int) ∈ lw_U := lw_in6 41 rfl rfl
theorem wml_L_76 : Cond.methodLink RL 76 yX7_spare ∈ lw_U := lw_in6 42 rfl rfl
theorem wim_X7_spare : Cond.instanceMethod yX7_spare ∈ lw_U := lw_in6 43 rfl rfl
theorem wse_X7_spare : Cond.selects RX7 yX7_spare yX7_spare ∈ lw_U := lw_in6 44 rfl rfl
theorem wco_X7_spare : Cond.code yX7_spare cX7_spare 7 (some FieldType.int) ∈ lw_U := lw_in6 45 rfl rfl
theorem wml_L_80 : Cond.methodLink RL 80 yX7_tells ∈ lw_U := lw_in6 46 rfl rfl
theorem wim_X7_tells : Cond.instanceMethod yX7_tells ∈ lw_U := lw_in6 47 rfl rfl
theorem wse_X7_tells : Cond.selects RX7 yX7_tells yX7_tells ∈ lw_U := lw_in6 48 rfl rfl
theorem wco_X7_tells : Cond.code yX7_tells cX7_tells 12 (some FieldType.int) ∈ lw_U := lw_in6 49 rfl rfl
theorem wml_X7_393 : Cond.methodLink RX7 393 yX7_isSheet ∈ lw_U := lw_in6 50 rfl rfl
theorem wst_X7_isSheet : Cond.static yX7_isSheet ∈ lw_U := lw_in6 51 rfl rfl
theorem wco_X7_isSheet : Cond.code yX7_isSheet cX7_isSheet 1 (some FieldType.boolean) ∈ lw_U := lw_in6 52 rfl rfl
theorem wml_X7_396 : Cond.methodLink RX7 396 yX7_firstOther ∈ lw_U := lw_in6 53 rfl rfl
theorem wim_X7_firstOther : Cond.instanceMethod yX7_firstOther ∈ lw_U := lw_in6 55 rfl rfl
theorem wco_X7_firstOther : Cond.code yX7_firstOther cX7_firstOther 4 (some FieldType.int) ∈ lw_U := lw_in6 56 rfl rfl
theorem wml_L_84 : Cond.methodLink RL 84 yX7_film ∈ lw_U := lw_in6 57 rfl rfl
theorem wim_X7_film : Cond.instanceMethod yX7_film ∈ lw_U := lw_in6 58 rfl rfl
theorem wse_X7_film : Cond.selects RX7 yX7_film yX7_film ∈ lw_U := lw_in6 59 rfl rfl
theorem wco_X7_film : Cond.code yX7_film cX7_film 5 (some FieldType.int) ∈ lw_U := lw_in6 60 rfl rfl
theorem wml_X7_399 : Cond.methodLink RX7 399 yX7_sheet ∈ lw_U := lw_in6 61 rfl rfl
theorem wim_X7_sheet : Cond.instanceMethod yX7_sheet ∈ lw_U := lw_in6 62 rfl rfl
theorem wse_X7_sheet : Cond.selects RX7 yX7_sheet yX7_sheet ∈ lw_U := lw_in6 63 rfl rfl
theorem wco_X7_sheet : Cond.code yX7_sheet cX7_sheet 5 (some FieldType.int) ∈ lw_U := lw_in6 64 rfl rfl
theorem wcL_X7_419 : Cond.constantLong RX7 419 (-1) ∈ lw_U := lw_in6 65 rfl rfl
theorem wcL_X7_421 : Cond.constantLong RX7 421 (2) ∈ lw_U := lw_in6 66 rfl rfl
theorem wml_L_88 : Cond.methodLink RL 88 yX7_drawn ∈ lw_U := lw_in6 67 rfl rfl
theorem wim_X7_drawn : Cond.instanceMethod yX7_drawn ∈ lw_U := lw_in6 68 rfl rfl
theorem wse_X7_drawn : Cond.selects RX7 yX7_drawn yX7_drawn ∈ lw_U := lw_in6 69 rfl rfl
theorem wco_X7_drawn : Cond.code yX7_drawn cX7_drawn 4 (some FieldType.int) ∈ lw_U := lw_in6 70 rfl rfl
theorem wml_X7_403 : Cond.methodLink RX7 403 yX7_draws ∈ lw_U := lw_in6 71 rfl rfl
theorem wim_X7_draws : Cond.instanceMethod yX7_draws ∈ lw_U := lw_in6 73 rfl rfl
theorem wco_X7_draws : Cond.code yX7_draws cX7_draws 4 (none) ∈ lw_U := lw_in6 74 rfl rfl
theorem wci_X7_402 : Cond.constant RX7 402 (1103515245) ∈ lw_U := lw_in6 75 rfl rfl
theorem wml_X7_406 : Cond.methodLink RX7 406 yX7_laysBack ∈ lw_U := lw_in6 76 rfl rfl
theorem wim_X7_laysBack : Cond.instanceMethod yX7_laysBack ∈ lw_U := lw_in6 78 rfl rfl
theorem wco_X7_laysBack : Cond.code yX7_laysBack cX7_laysBack 2 (none) ∈ lw_U := lw_in6 79 rfl rfl
theorem wml_L_93 : Cond.methodLink RL 93 yX7_chance ∈ lw_U := lw_in6 80 rfl rfl
theorem wim_X7_chance : Cond.instanceMethod yX7_chance ∈ lw_U := lw_in6 81 rfl rfl
theorem wse_X7_chance : Cond.selects RX7 yX7_chance yX7_chance ∈ lw_U := lw_in6 82 rfl rfl
theorem wco_X7_chance : Cond.code yX7_chance cX7_chance 12 (some FieldType.long) ∈ lw_U := lw_in6 83 rfl rfl
theorem wcL_X7_409 : Cond.constantLong RX7 409 (20) ∈ lw_U := lw_in6 84 rfl rfl
theorem wcL_X7_411 : Cond.constantLong RX7 411 (-4611686018427387904) ∈ lw_U := lw_in6 85 rfl rfl
theorem wml_L_97 : Cond.methodLink RL 97 yX7_image ∈ lw_U := lw_in6 86 rfl rfl
theorem wim_X7_image : Cond.instanceMethod yX7_image ∈ lw_U := lw_in6 87 rfl rfl
theorem wse_X7_image : Cond.selects RX7 yX7_image yX7_image ∈ lw_U := lw_in6 88 rfl rfl
theorem wco_X7_image : Cond.code yX7_image cX7_image 2 (some FieldType.int) ∈ lw_U := lw_in6 89 rfl rfl
theorem wml_L_101 : Cond.methodLink RL 101 yX7_back ∈ lw_U := lw_in6 90 rfl rfl
theorem wim_X7_back : Cond.instanceMethod yX7_back ∈ lw_U := lw_in6 91 rfl rfl
theorem wse_X7_back : Cond.selects RX7 yX7_back yX7_back ∈ lw_U := lw_in6 92 rfl rfl
theorem wco_X7_back : Cond.code yX7_back cX7_back 2 (some FieldType.int) ∈ lw_U := lw_in6 93 rfl rfl
theorem wml_L_105 : Cond.methodLink RL 105 yX7_count ∈ lw_U := lw_in6 94 rfl rfl
theorem wim_X7_count : Cond.instanceMethod yX7_count ∈ lw_U := lw_in6 95 rfl rfl
theorem wse_X7_count : Cond.selects RX7 yX7_count yX7_count ∈ lw_U := lw_in6 96 rfl rfl
theorem wco_X7_count : Cond.code yX7_count cX7_count 4 (some FieldType.int) ∈ lw_U := lw_in6 97 rfl rfl
theorem wml_L_109 : Cond.methodLink RL 109 yX7_sheet ∈ lw_U := lw_in6 98 rfl rfl
theorem wml_L_113 : Cond.methodLink RL 113 yX7_cell ∈ lw_U := lw_in6 99 rfl rfl
theorem wim_X7_cell : Cond.instanceMethod yX7_cell ∈ lw_U := lw_in6 100 rfl rfl
theorem wse_X7_cell : Cond.selects RX7 yX7_cell yX7_cell ∈ lw_U := lw_in6 101 rfl rfl
theorem wco_X7_cell : Cond.code yX7_cell cX7_cell 4 (some FieldType.int) ∈ lw_U := lw_in6 102 rfl rfl
theorem wml_L_118 : Cond.methodLink RL 118 yX7_copy ∈ lw_U := lw_in6 103 rfl rfl
theorem wim_X7_copy : Cond.instanceMethod yX7_copy ∈ lw_U := lw_in6 104 rfl rfl
theorem wse_X7_copy : Cond.selects RX7 yX7_copy yX7_copy ∈ lw_U := lw_in6 105 rfl rfl
theorem wco_X7_copy : Cond.code yX7_copy cX7_copy 9 (some FieldType.int) ∈ lw_U := lw_in6 106 rfl rfl
theorem wml_L_123 : Cond.methodLink RL 123 yX7_walkers ∈ lw_U := lw_in6 107 rfl rfl
theorem wim_X7_walkers : Cond.instanceMethod yX7_walkers ∈ lw_U := lw_in6 108 rfl rfl
theorem wse_X7_walkers : Cond.selects RX7 yX7_walkers yX7_walkers ∈ lw_U := lw_in6 109 rfl rfl
theorem wco_X7_walkers : Cond.code yX7_walkers cX7_walkers 8 (some FieldType.int) ∈ lw_U := lw_in6 110 rfl rfl
theorem wml_X7_423 : Cond.methodLink RX7 423 yX7_walker ∈ lw_U := lw_in6 111 rfl rfl
theorem wml_L_127 : Cond.methodLink RL 127 yX7_taken ∈ lw_U := lw_in6 112 rfl rfl
theorem wim_X7_taken : Cond.instanceMethod yX7_taken ∈ lw_U := lw_in6 113 rfl rfl
theorem wse_X7_taken : Cond.selects RX7 yX7_taken yX7_taken ∈ lw_U := lw_in6 114 rfl rfl
theorem wco_X7_taken : Cond.code yX7_taken cX7_taken 4 (some FieldType.int) ∈ lw_U := lw_in6 115 rfl rfl
theorem wml_X7_426 : Cond.methodLink RX7 426 yX7_over ∈ lw_U := lw_in6 116 rfl rfl
theorem wst_X7_over : Cond.static yX7_over ∈ lw_U := lw_in6 117 rfl rfl
theorem wco_X7_over : Cond.code yX7_over cX7_over 1 (some FieldType.int) ∈ lw_U := lw_in6 118 rfl rfl
theorem wfl_J0_9 : Cond.fieldLink RJ0 9 "java/lang/String" "value" "[B" ∈ lw_U := lw_in6 119 rfl rfl
theorem wfl_J0_15 : Cond.fieldLink RJ0 15 "java/lang/String" "coder" "B" ∈ lw_U := lw_in6 120 rfl rfl
theorem wse_X1_take : Cond.selects RX1 yX1_take yX1_take ∈ lw_U := lw_sel 0 rfl rfl
theorem wse_X1_takeWord : Cond.selects RX1 yX1_takeWord yX1_takeWord ∈ lw_U := lw_sel 1 rfl rfl
theorem wse_X1_spells : Cond.selects RX1 yX1_spells yX1_spells ∈ lw_U := lw_sel 2 rfl rfl
theorem wse_X1_takeAmount : Cond.selects RX1 yX1_takeAmount yX1_takeAmount ∈ lw_U := lw_sel 3 rfl rfl
theorem wse_X1_expect : Cond.selects RX1 yX1_expect yX1_expect ∈ lw_U := lw_sel 4 rfl rfl
theorem wse_X1_fail : Cond.selects RX1 yX1_fail yX1_fail ∈ lw_U := lw_sel 5 rfl rfl
theorem wse_X1_readEither : Cond.selects RX1 yX1_readEither yX1_readEither ∈ lw_U := lw_sel 6 rfl rfl
theorem wse_X1_readBoth : Cond.selects RX1 yX1_readBoth yX1_readBoth ∈ lw_U := lw_sel 7 rfl rfl
theorem wse_X1_readNot : Cond.selects RX1 yX1_readNot yX1_readNot ∈ lw_U := lw_sel 8 rfl rfl
theorem wse_X1_takeOpening : Cond.selects RX1 yX1_takeOpening yX1_takeOpening ∈ lw_U := lw_sel 9 rfl rfl
theorem wse_X1_readSum : Cond.selects RX1 yX1_readSum yX1_readSum ∈ lw_U := lw_sel 10 rfl rfl
theorem wse_X1_readTerm : Cond.selects RX1 yX1_readTerm yX1_readTerm ∈ lw_U := lw_sel 11 rfl rfl
theorem wse_X1_readOne : Cond.selects RX1 yX1_readOne yX1_readOne ∈ lw_U := lw_sel 12 rfl rfl
theorem wse_X6_names : Cond.selects RX6 yX6_names yX6_names ∈ lw_U := lw_sel 13 rfl rfl
theorem wse_X6_walkerAt : Cond.selects RX6 yX6_walkerAt yX6_walkerAt ∈ lw_U := lw_sel 14 rfl rfl
theorem wse_X6_valueOf : Cond.selects RX6 yX6_valueOf yX6_valueOf ∈ lw_U := lw_sel 15 rfl rfl
theorem wse_X6_keep : Cond.selects RX6 yX6_keep yX6_keep ∈ lw_U := lw_sel 16 rfl rfl
theorem wse_X6_think : Cond.selects RX6 yX6_think yX6_think ∈ lw_U := lw_sel 17 rfl rfl
theorem wse_X6_thinkTold : Cond.selects RX6 yX6_thinkTold yX6_thinkTold ∈ lw_U := lw_sel 18 rfl rfl
theorem wse_X4_valueOfPart : Cond.selects RX4 yX4_valueOfPart yX4_valueOfPart ∈ lw_U := lw_sel 19 rfl rfl
theorem wse_X4_ofNone : Cond.selects RX4 yX4_ofNone yX4_ofNone ∈ lw_U := lw_sel 20 rfl rfl
theorem wse_X4_lastsByKind : Cond.selects RX4 yX4_lastsByKind yX4_lastsByKind ∈ lw_U := lw_sel 21 rfl rfl
theorem wse_X4_paceByKind : Cond.selects RX4 yX4_paceByKind yX4_paceByKind ∈ lw_U := lw_sel 22 rfl rfl
theorem wse_X6_forgetSteps : Cond.selects RX6 yX6_forgetSteps yX6_forgetSteps ∈ lw_U := lw_sel 23 rfl rfl
theorem wse_X6_stepIfTold : Cond.selects RX6 yX6_stepIfTold yX6_stepIfTold ∈ lw_U := lw_sel 24 rfl rfl
theorem wse_X6_weighAsNow : Cond.selects RX6 yX6_weighAsNow yX6_weighAsNow ∈ lw_U := lw_sel 25 rfl rfl
theorem wse_X6_thinkOtherwise : Cond.selects RX6 yX6_thinkOtherwise yX6_thinkOtherwise ∈ lw_U := lw_sel 26 rfl rfl
theorem wse_X6_stepsOfAll : Cond.selects RX6 yX6_stepsOfAll yX6_stepsOfAll ∈ lw_U := lw_sel 27 rfl rfl
theorem wse_X6_sheetAt : Cond.selects RX6 yX6_sheetAt yX6_sheetAt ∈ lw_U := lw_sel 28 rfl rfl
theorem wse_X6_kindsBy : Cond.selects RX6 yX6_kindsBy yX6_kindsBy ∈ lw_U := lw_sel 29 rfl rfl
theorem wse_X6_numbersBy : Cond.selects RX6 yX6_numbersBy yX6_numbersBy ∈ lw_U := lw_sel 30 rfl rfl
theorem wse_X6_setsBy : Cond.selects RX6 yX6_setsBy yX6_setsBy ∈ lw_U := lw_sel 31 rfl rfl
theorem wse_X6_textsBy : Cond.selects RX6 yX6_textsBy yX6_textsBy ∈ lw_U := lw_sel 32 rfl rfl
theorem wse_X6_stepsBy : Cond.selects RX6 yX6_stepsBy yX6_stepsBy ∈ lw_U := lw_sel 33 rfl rfl
theorem wse_X6_draw : Cond.selects RX6 yX6_draw yX6_draw ∈ lw_U := lw_sel 34 rfl rfl
theorem wse_X6_eachIsHeldUp : Cond.selects RX6 yX6_eachIsHeldUp yX6_eachIsHeldUp ∈ lw_U := lw_sel 35 rfl rfl
theorem wse_X6_countInSocks : Cond.selects RX6 yX6_countInSocks yX6_countInSocks ∈ lw_U := lw_sel 36 rfl rfl
theorem wse_X6_countStopped : Cond.selects RX6 yX6_countStopped yX6_countStopped ∈ lw_U := lw_sel 37 rfl rfl
theorem wse_X7_spell : Cond.selects RX7 yX7_spell yX7_spell ∈ lw_U := lw_sel 38 rfl rfl
theorem wse_X7_isOf : Cond.selects RX7 yX7_isOf yX7_isOf ∈ lw_U := lw_sel 39 rfl rfl
theorem wse_X7_isOne : Cond.selects RX7 yX7_isOne yX7_isOne ∈ lw_U := lw_sel 40 rfl rfl
theorem wse_X7_begins : Cond.selects RX7 yX7_begins yX7_begins ∈ lw_U := lw_sel 41 rfl rfl
theorem wse_X7_weightOf : Cond.selects RX7 yX7_weightOf yX7_weightOf ∈ lw_U := lw_sel 42 rfl rfl
theorem wse_X7_lastsOf : Cond.selects RX7 yX7_lastsOf yX7_lastsOf ∈ lw_U := lw_sel 43 rfl rfl
theorem wse_X7_asks : Cond.selects RX7 yX7_asks yX7_asks ∈ lw_U := lw_sel 44 rfl rfl
theorem wse_X7_read : Cond.selects RX7 yX7_read yX7_read ∈ lw_U := lw_sel 45 rfl rfl
theorem wse_X7_next : Cond.selects RX7 yX7_next yX7_next ∈ lw_U := lw_sel 46 rfl rfl
theorem wse_X7_byteAt : Cond.selects RX7 yX7_byteAt yX7_byteAt ∈ lw_U := lw_sel 47 rfl rfl
theorem wse_X7_isWord : Cond.selects RX7 yX7_isWord yX7_isWord ∈ lw_U := lw_sel 48 rfl rfl
theorem wse_X7_isLetter : Cond.selects RX7 yX7_isLetter yX7_isLetter ∈ lw_U := lw_sel 49 rfl rfl
theorem wse_X7_part : Cond.selects RX7 yX7_part yX7_part ∈ lw_U := lw_sel 50 rfl rfl
theorem wse_X7_fail : Cond.selects RX7 yX7_fail yX7_fail ∈ lw_U := lw_sel 51 rfl rfl
theorem wse_X7_either0 : Cond.selects RX7 yX7_either0 yX7_either0 ∈ lw_U := lw_sel 52 rfl rfl
theorem wse_X7_both0 : Cond.selects RX7 yX7_both0 yX7_both0 ∈ lw_U := lw_sel 53 rfl rfl
theorem wse_X7_not0 : Cond.selects RX7 yX7_not0 yX7_not0 ∈ lw_U := lw_sel 54 rfl rfl
theorem wse_X7_opens : Cond.selects RX7 yX7_opens yX7_opens ∈ lw_U := lw_sel 55 rfl rfl
theorem wse_X7_not1 : Cond.selects RX7 yX7_not1 yX7_not1 ∈ lw_U := lw_sel 56 rfl rfl
theorem wse_X7_not2 : Cond.selects RX7 yX7_not2 yX7_not2 ∈ lw_U := lw_sel 57 rfl rfl
theorem wse_X7_not3 : Cond.selects RX7 yX7_not3 yX7_not3 ∈ lw_U := lw_sel 58 rfl rfl
theorem wse_X7_not4 : Cond.selects RX7 yX7_not4 yX7_not4 ∈ lw_U := lw_sel 59 rfl rfl
theorem wse_X7_not5 : Cond.selects RX7 yX7_not5 yX7_not5 ∈ lw_U := lw_sel 60 rfl rfl
theorem wse_X7_added5 : Cond.selects RX7 yX7_added5 yX7_added5 ∈ lw_U := lw_sel 61 rfl rfl
theorem wse_X7_term5 : Cond.selects RX7 yX7_term5 yX7_term5 ∈ lw_U := lw_sel 62 rfl rfl
theorem wse_X7_atom5 : Cond.selects RX7 yX7_atom5 yX7_atom5 ∈ lw_U := lw_sel 63 rfl rfl
theorem wse_X7_isSign : Cond.selects RX7 yX7_isSign yX7_isSign ∈ lw_U := lw_sel 64 rfl rfl
theorem wse_X7_name : Cond.selects RX7 yX7_name yX7_name ∈ lw_U := lw_sel 65 rfl rfl
theorem wse_X7_added4 : Cond.selects RX7 yX7_added4 yX7_added4 ∈ lw_U := lw_sel 66 rfl rfl
theorem wse_X7_term4 : Cond.selects RX7 yX7_term4 yX7_term4 ∈ lw_U := lw_sel 67 rfl rfl
theorem wse_X7_atom4 : Cond.selects RX7 yX7_atom4 yX7_atom4 ∈ lw_U := lw_sel 68 rfl rfl
theorem wse_X7_either5 : Cond.selects RX7 yX7_either5 yX7_either5 ∈ lw_U := lw_sel 69 rfl rfl
theorem wse_X7_both5 : Cond.selects RX7 yX7_both5 yX7_both5 ∈ lw_U := lw_sel 70 rfl rfl
theorem wse_X7_added3 : Cond.selects RX7 yX7_added3 yX7_added3 ∈ lw_U := lw_sel 71 rfl rfl
theorem wse_X7_term3 : Cond.selects RX7 yX7_term3 yX7_term3 ∈ lw_U := lw_sel 72 rfl rfl
theorem wse_X7_atom3 : Cond.selects RX7 yX7_atom3 yX7_atom3 ∈ lw_U := lw_sel 73 rfl rfl
theorem wse_X7_either4 : Cond.selects RX7 yX7_either4 yX7_either4 ∈ lw_U := lw_sel 74 rfl rfl
theorem wse_X7_both4 : Cond.selects RX7 yX7_both4 yX7_both4 ∈ lw_U := lw_sel 75 rfl rfl
theorem wse_X7_added2 : Cond.selects RX7 yX7_added2 yX7_added2 ∈ lw_U := lw_sel 76 rfl rfl
theorem wse_X7_term2 : Cond.selects RX7 yX7_term2 yX7_term2 ∈ lw_U := lw_sel 77 rfl rfl
theorem wse_X7_atom2 : Cond.selects RX7 yX7_atom2 yX7_atom2 ∈ lw_U := lw_sel 78 rfl rfl
theorem wse_X7_either3 : Cond.selects RX7 yX7_either3 yX7_either3 ∈ lw_U := lw_sel 79 rfl rfl
theorem wse_X7_both3 : Cond.selects RX7 yX7_both3 yX7_both3 ∈ lw_U := lw_sel 80 rfl rfl
theorem wse_X7_added1 : Cond.selects RX7 yX7_added1 yX7_added1 ∈ lw_U := lw_sel 81 rfl rfl
theorem wse_X7_term1 : Cond.selects RX7 yX7_term1 yX7_term1 ∈ lw_U := lw_sel 82 rfl rfl
theorem wse_X7_atom1 : Cond.selects RX7 yX7_atom1 yX7_atom1 ∈ lw_U := lw_sel 83 rfl rfl
theorem wse_X7_either2 : Cond.selects RX7 yX7_either2 yX7_either2 ∈ lw_U := lw_sel 84 rfl rfl
theorem wse_X7_both2 : Cond.selects RX7 yX7_both2 yX7_both2 ∈ lw_U := lw_sel 85 rfl rfl
theorem wse_X7_added0 : Cond.selects RX7 yX7_added0 yX7_added0 ∈ lw_U := lw_sel 86 rfl rfl
theorem wse_X7_term0 : Cond.selects RX7 yX7_term0 yX7_term0 ∈ lw_U := lw_sel 87 rfl rfl
theorem wse_X7_atom0 : Cond.selects RX7 yX7_atom0 yX7_atom0 ∈ lw_U := lw_sel 88 rfl rfl
theorem wse_X7_either1 : Cond.selects RX7 yX7_either1 yX7_either1 ∈ lw_U := lw_sel 89 rfl rfl
theorem wse_X7_both1 : Cond.selects RX7 yX7_both1 yX7_both1 ∈ lw_U := lw_sel 90 rfl rfl
theorem wse_X7_paceOf : Cond.selects RX7 yX7_paceOf yX7_paceOf ∈ lw_U := lw_sel 91 rfl rfl
theorem wse_X7_isStopped : Cond.selects RX7 yX7_isStopped yX7_isStopped ∈ lw_U := lw_sel 92 rfl rfl
theorem wse_X7_lays : Cond.selects RX7 yX7_lays yX7_lays ∈ lw_U := lw_sel 93 rfl rfl
theorem wse_X7_goes : Cond.selects RX7 yX7_goes yX7_goes ∈ lw_U := lw_sel 94 rfl rfl
theorem wse_X7_lives : Cond.selects RX7 yX7_lives yX7_lives ∈ lw_U := lw_sel 95 rfl rfl
theorem wse_X7_isInSocks : Cond.selects RX7 yX7_isInSocks yX7_isInSocks ∈ lw_U := lw_sel 96 rfl rfl
theorem wse_X7_stepBehind : Cond.selects RX7 yX7_stepBehind yX7_stepBehind ∈ lw_U := lw_sel 97 rfl rfl
theorem wse_X7_isLighter : Cond.selects RX7 yX7_isLighter yX7_isLighter ∈ lw_U := lw_sel 98 rfl rfl
theorem wse_X7_daysTill : Cond.selects RX7 yX7_daysTill yX7_daysTill ∈ lw_U := lw_sel 99 rfl rfl
theorem wse_X7_allBehind : Cond.selects RX7 yX7_allBehind yX7_allBehind ∈ lw_U := lw_sel 100 rfl rfl
theorem wse_X7_firstOther : Cond.selects RX7 yX7_firstOther yX7_firstOther ∈ lw_U := lw_sel 101 rfl rfl
theorem wse_X7_draws : Cond.selects RX7 yX7_draws yX7_draws ∈ lw_U := lw_sel 102 rfl rfl
theorem wse_X7_laysBack : Cond.selects RX7 yX7_laysBack yX7_laysBack ∈ lw_U := lw_sel 103 rfl rfl
theorem inX0 : ∀ w ∈ wsX00, w ∈ lw_U := by
  intro w hw
  obtain ⟨k, hk, rfl⟩ := List.mem_map.mp hw
  have hk := List.mem_range.mp hk
  match k, hk with
  | 0, _ => exact lw_in1 117 rfl rfl
  | 1, _ => exact lw_in1 119 rfl rfl
  | 2, _ => exact lw_in1 121 rfl rfl
  | 3, _ => exact lw_in1 123 rfl rfl
  | 4, _ => exact lw_in1 125 rfl rfl
  | 5, _ => exact lw_in1 127 rfl rfl
  | k + 6, hk => exact absurd hk (by omega)
theorem inX1 : ∀ w ∈ wsX10, w ∈ lw_U := by
  intro w hw
  obtain ⟨k, hk, rfl⟩ := List.mem_map.mp hw
  have hk := List.mem_range.mp hk
  match k, hk with
  | 0, _ => exact lw_in1 44 rfl rfl
  | 1, _ => exact lw_in1 46 rfl rfl
  | 2, _ => exact lw_in1 48 rfl rfl
  | 3, _ => exact lw_in1 50 rfl rfl
  | 4, _ => exact lw_in1 52 rfl rfl
  | 5, _ => exact lw_in1 54 rfl rfl
  | 6, _ => exact lw_in1 56 rfl rfl
  | 7, _ => exact lw_in1 58 rfl rfl
  | 8, _ => exact lw_in1 60 rfl rfl
  | k + 9, hk => exact absurd hk (by omega)
theorem inX2 : ∀ w ∈ wsX20, w ∈ lw_U := by
  intro w hw
  obtain ⟨k, hk, rfl⟩ := List.mem_map.mp hw
  have hk := List.mem_range.mp hk
  match k, hk with
  | 0, _ => exact lw_in1 168 rfl rfl
  | 1, _ => exact lw_in1 170 rfl rfl
  | 2, _ => exact lw_in1 172 rfl rfl
  | k + 3, hk => exact absurd hk (by omega)
theorem inX3 : ∀ w ∈ wsX30, w ∈ lw_U := by
  intro w hw
  obtain ⟨k, hk, rfl⟩ := List.mem_map.mp hw
  have hk := List.mem_range.mp hk
  match k, hk with
  | 0, _ => exact lw_in1 147 rfl rfl
  | 1, _ => exact lw_in1 149 rfl rfl
  | 2, _ => exact lw_in1 151 rfl rfl
  | 3, _ => exact lw_in1 153 rfl rfl
  | k + 4, hk => exact absurd hk (by omega)
theorem inX4 : ∀ w ∈ wsX40, w ∈ lw_U := by
  intro w hw
  obtain ⟨k, hk, rfl⟩ := List.mem_map.mp hw
  have hk := List.mem_range.mp hk
  match k, hk with
  | 0, _ => exact lw_in2 104 rfl rfl
  | 1, _ => exact lw_in2 106 rfl rfl
  | 2, _ => exact lw_in2 108 rfl rfl
  | 3, _ => exact lw_in2 110 rfl rfl
  | 4, _ => exact lw_in2 112 rfl rfl
  | 5, _ => exact lw_in2 114 rfl rfl
  | 6, _ => exact lw_in2 116 rfl rfl
  | 7, _ => exact lw_in2 118 rfl rfl
  | 8, _ => exact lw_in2 120 rfl rfl
  | k + 9, hk => exact absurd hk (by omega)
theorem inX5 : ∀ w ∈ wsX50, w ∈ lw_U := by
  intro w hw
  obtain ⟨k, hk, rfl⟩ := List.mem_map.mp hw
  have hk := List.mem_range.mp hk
  match k, hk with
  | 0, _ => exact lw_in1 92 rfl rfl
  | 1, _ => exact lw_in1 94 rfl rfl
  | 2, _ => exact lw_in1 96 rfl rfl
  | 3, _ => exact lw_in1 98 rfl rfl
  | 4, _ => exact lw_in1 100 rfl rfl
  | 5, _ => exact lw_in1 102 rfl rfl
  | k + 6, hk => exact absurd hk (by omega)
theorem inX6 : ∀ w ∈ wsX60, w ∈ lw_U := by
  intro w hw
  obtain ⟨k, hk, rfl⟩ := List.mem_map.mp hw
  have hk := List.mem_range.mp hk
  match k, hk with
  | 0, _ => exact lw_in2 137 rfl rfl
  | 1, _ => exact lw_in2 139 rfl rfl
  | 2, _ => exact lw_in2 141 rfl rfl
  | 3, _ => exact lw_in2 143 rfl rfl
  | 4, _ => exact lw_in2 145 rfl rfl
  | 5, _ => exact lw_in2 147 rfl rfl
  | 6, _ => exact lw_in2 149 rfl rfl
  | 7, _ => exact lw_in2 151 rfl rfl
  | 8, _ => exact lw_in2 153 rfl rfl
  | 9, _ => exact lw_in2 155 rfl rfl
  | 10, _ => exact lw_in2 157 rfl rfl
  | 11, _ => exact lw_in2 159 rfl rfl
  | 12, _ => exact lw_in2 161 rfl rfl
  | k + 13, hk => exact absurd hk (by omega)
theorem inX7 : ∀ w ∈ wsX70, w ∈ lw_U := by
  intro w hw
  obtain ⟨k, hk, rfl⟩ := List.mem_map.mp hw
  have hk := List.mem_range.mp hk
  match k, hk with
  | 0, _ => exact lw_in4 98 rfl rfl
  | 1, _ => exact lw_in4 100 rfl rfl
  | 2, _ => exact lw_in4 102 rfl rfl
  | 3, _ => exact lw_in4 104 rfl rfl
  | 4, _ => exact lw_in4 106 rfl rfl
  | 5, _ => exact lw_in4 108 rfl rfl
  | 6, _ => exact lw_in4 110 rfl rfl
  | 7, _ => exact lw_in4 112 rfl rfl
  | 8, _ => exact lw_in4 114 rfl rfl
  | 9, _ => exact lw_in4 116 rfl rfl
  | 10, _ => exact lw_in4 118 rfl rfl
  | 11, _ => exact lw_in4 120 rfl rfl
  | 12, _ => exact lw_in4 122 rfl rfl
  | 13, _ => exact lw_in4 124 rfl rfl
  | 14, _ => exact lw_in4 126 rfl rfl
  | 15, _ => exact lw_in4 128 rfl rfl
  | 16, _ => exact lw_in4 130 rfl rfl
  | 17, _ => exact lw_in4 132 rfl rfl
  | 18, _ => exact lw_in4 134 rfl rfl
  | 19, _ => exact lw_in4 136 rfl rfl
  | 20, _ => exact lw_in4 138 rfl rfl
  | 21, _ => exact lw_in4 140 rfl rfl
  | 22, _ => exact lw_in4 142 rfl rfl
  | 23, _ => exact lw_in4 144 rfl rfl
  | 24, _ => exact lw_in4 146 rfl rfl
  | 25, _ => exact lw_in4 148 rfl rfl
  | 26, _ => exact lw_in4 150 rfl rfl
  | 27, _ => exact lw_in4 152 rfl rfl
  | 28, _ => exact lw_in4 154 rfl rfl
  | 29, _ => exact lw_in4 156 rfl rfl
  | 30, _ => exact lw_in4 158 rfl rfl
  | 31, _ => exact lw_in4 160 rfl rfl
  | 32, _ => exact lw_in4 162 rfl rfl
  | 33, _ => exact lw_in4 164 rfl rfl
  | 34, _ => exact lw_in4 166 rfl rfl
  | 35, _ => exact lw_in4 168 rfl rfl
  | 36, _ => exact lw_in4 170 rfl rfl
  | 37, _ => exact lw_in4 172 rfl rfl
  | 38, _ => exact lw_in4 174 rfl rfl
  | 39, _ => exact lw_in4 176 rfl rfl
  | 40, _ => exact lw_in4 178 rfl rfl
  | 41, _ => exact lw_in4 180 rfl rfl
  | 42, _ => exact lw_in4 182 rfl rfl
  | 43, _ => exact lw_in4 184 rfl rfl
  | 44, _ => exact lw_in4 186 rfl rfl
  | 45, _ => exact lw_in4 188 rfl rfl
  | k + 46, hk => exact absurd hk (by omega)
end
section
/-! worlds: what the cells hold, by their numbers in the order of making -/
def kdL : List Nat := [6, 8, 8, 12, 11, 1, 8, 8, 0, 8, 12, 5, 5, 5, 5, 5, 5, 10, 5, 5, 5, 5, 5, 5, 3, 8, 8, 3, 8, 8, 3, 8, 8, 3, 8, 8, 3, 8, 8, 3, 8, 8, 2, 8, 2, 8, 2, 8, 2, 8, 4, 8, 7, 8, 8, 8, 8, 8, 8, 8, 8, 8, 9, 8, 8, 8]
def lnL : List Nat := [0, 8, 8, 6, 6, 0, 160, 793, 0, 8, 6, 0, 0, 0, 0, 0, 0, 4, 0, 0, 0, 0, 0, 0, 0, 160, 3, 0, 160, 3, 0, 160, 3, 0, 160, 3, 0, 160, 3, 0, 160, 3, 0, 40, 0, 40, 0, 40, 0, 40, 0, 31, 0, 960, 6, 160, 8, 6, 30, 8, 8, 30, 4, 4, 4, 160]
/-- the kind of cell i: 0 .. 7 an object of that sort, 8 ints, 9 booleans, 10 .. 12 references -/
def kd (i : Nat) : Nat := kdL.getD i 99
/-- how long row i is -/
def ln (i : Nat) : Nat := lnL.getD i 0
def nsl (c : Nat) : Nat := ([6, 9, 3, 4, 9, 6, 13, 46] : List Nat).getD c 0
/-- a field: 0 an int, 1 a reference, 2 a long, 3 a boolean -/
def ftyL : List (List Nat) := [[3, 0, 0, 0, 1, 1], [1, 0, 0, 0, 0, 0, 0, 0, 1], [1, 0, 0], [1, 1, 0, 3], [0, 0, 0, 0, 0, 0, 0, 1, 1], [0, 0, 0, 0, 0, 0], [1, 1, 1, 0, 0, 1, 0, 0, 1, 1, 1, 1, 1], [0, 1, 1, 0, 0, 1, 0, 0, 1, 1, 1, 0, 0, 0, 0, 0, 0, 0, 0, 0, 0, 0, 0, 2, 0, 3, 0, 0, 0, 0, 0, 0, 0, 0, 0, 0, 1, 1, 1, 0, 0, 0, 1, 1, 1, 1]]
def fty (c k : Nat) : Nat := (ftyL.getD c []).getD k 0
def strL : List String := ["lasts told * 3 + 5 ; paces 10 - untold ; stops 50 < untold ;", "told", "untold", "step", "number", "day", "worn", "lasts", "paces", "stops", "or", "and", "not"]
def sLen : List Nat := [60, 4, 6, 4, 6, 3, 4, 5, 5, 5, 2, 3, 3]
def sByt : List (List Int32) := [[108, 97, 115, 116, 115, 32, 116, 111, 108, 100, 32, 42, 32, 51, 32, 43, 32, 53, 32, 59, 32, 112, 97, 99, 101, 115, 32, 49, 48, 32, 45, 32, 117, 110, 116, 111, 108, 100, 32, 59, 32, 115, 116, 111, 112, 115, 32, 53, 48, 32, 60, 32, 117, 110, 116, 111, 108, 100, 32, 59], [116, 111, 108, 100], [117, 110, 116, 111, 108, 100], [115, 116, 101, 112], [110, 117, 109, 98, 101, 114], [100, 97, 121], [119, 111, 114, 110], [108, 97, 115, 116, 115], [112, 97, 99, 101, 115], [115, 116, 111, 112, 115], [111, 114], [97, 110, 100], [110, 111, 116]]
abbrev Wd : Type := (Nat → Nat → Int32) × (Nat → Nat → Option Nat) × (Nat → Nat → Int64) × Nat
def gI (w : Wd) (i k : Nat) : Int32 := w.1 i k
def gR (w : Wd) (i k : Nat) : Option Nat := w.2.1 i k
def gL (w : Wd) (i k : Nat) : Int64 := w.2.2.1 i k
def wn (w : Wd) : Nat := w.2.2.2
def u2 {α : Type} (f : Nat → Nat → α) (i k : Nat) (v : α) : Nat → Nat → α := fun a b => if a = i ∧ b = k then v else f a b
def sI (w : Wd) (i k : Nat) (v : Int32) : Wd := (u2 w.1 i k v, w.2)
def sR (w : Wd) (i k : Nat) (v : Option Nat) : Wd := (w.1, u2 w.2.1 i k v, w.2.2)
def sL (w : Wd) (i k : Nat) (v : Int64) : Wd := (w.1, w.2.1, u2 w.2.2.1 i k v, w.2.2.2)
/-- a whole row of ints becomes f -/
def cI (w : Wd) (i : Nat) (f : Nat → Int32) : Wd := (fun a b => if a = i then f b else w.1 a b, w.2)
/-- one cell more, all in it as a new one has it -/
def al (w : Wd) : Wd := (fun a b => if a = wn w then 0 else w.1 a b, fun a b => if a = wn w then none else w.2.1 a b, fun a b => if a = wn w then 0 else w.2.2.1 a b, wn w + 1)
theorem wn_sI {w : Wd} {i k : Nat} {v : Int32} : wn (sI w i k v) = wn w := rfl
theorem wn_sR {w : Wd} {i k : Nat} {v : Option Nat} : wn (sR w i k v) = wn w := rfl
theorem wn_sL {w : Wd} {i k : Nat} {v : Int64} : wn (sL w i k v) = wn w := rfl
theorem wn_cI {w : Wd} {i : Nat} {f : Nat → Int32} : wn (cI w i f) = wn w := rfl
theorem wn_al {w : Wd} : wn (al w) = wn w + 1 := rfl
theorem gI_sI {w : Wd} {i k a b : Nat} {v : Int32} : gI (sI w i k v) a b = if a = i ∧ b = k then v else gI w a b := rfl
theorem gR_sI {w : Wd} {i k a b : Nat} {v : Int32} : gR (sI w i k v) a b = gR w a b := rfl
theorem gL_sI {w : Wd} {i k a b : Nat} {v : Int32} : gL (sI w i k v) a b = gL w a b := rfl
theorem gI_sR {w : Wd} {i k a b : Nat} {v : Option Nat} : gI (sR w i k v) a b = gI w a b := rfl
theorem gR_sR {w : Wd} {i k a b : Nat} {v : Option Nat} : gR (sR w i k v) a b = if a = i ∧ b = k then v else gR w a b := rfl
theorem gL_sR {w : Wd} {i k a b : Nat} {v : Option Nat} : gL (sR w i k v) a b = gL w a b := rfl
theorem gI_sL {w : Wd} {i k a b : Nat} {v : Int64} : gI (sL w i k v) a b = gI w a b := rfl
theorem gR_sL {w : Wd} {i k a b : Nat} {v : Int64} : gR (sL w i k v) a b = gR w a b := rfl
theorem gL_sL {w : Wd} {i k a b : Nat} {v : Int64} : gL (sL w i k v) a b = if a = i ∧ b = k then v else gL w a b := rfl
theorem gI_cI {w : Wd} {i a b : Nat} {f : Nat → Int32} : gI (cI w i f) a b = if a = i then f b else gI w a b := rfl
theorem gR_cI {w : Wd} {i a b : Nat} {f : Nat → Int32} : gR (cI w i f) a b = gR w a b := rfl
theorem gL_cI {w : Wd} {i a b : Nat} {f : Nat → Int32} : gL (cI w i f) a b = gL w a b := rfl
theorem gI_al {w : Wd} {a b : Nat} : gI (al w) a b = if a = wn w then 0 else gI w a b := rfl
theorem gR_al {w : Wd} {a b : Nat} : gR (al w) a b = if a = wn w then none else gR w a b := rfl
theorem gL_al {w : Wd} {a b : Nat} : gL (al w) a b = if a = wn w then 0 else gL w a b := rfl
/-- what stays the same over a run: the launch, the tables' numbers, the first address, the texts' addresses -/
abbrev En : Type := Launch × va_G × (Nat → ClassId) × Nat × (Nat → Nat) × (Nat → Nat) × Nat
def eb (Γ : En) : Nat := Γ.2.2.2.1
def rv (Γ : En) (r : Option Nat) : Value := va_rf (r.map (fun i => eb Γ + i))
def fval (Γ : En) (w : Wd) (i k : Nat) : Value := if fty (kd i) k = 1 then rv Γ (gR w i k) else if fty (kd i) k = 2 then .long (gL w i k) else .int (gI w i k)
def pic (Γ : En) (w : Wd) (i : Nat) : va_E :=
  if kd i < 8 then .inr (kd i, (List.range (nsl (kd i))).map (fval Γ w i))
  else if kd i ≤ 9 then .inl (Γ.2.2.1 (kd i), ln i, .inl (gI w i))
  else .inl (Γ.2.2.1 (kd i), ln i, .inr (.inr (.inr (.inr (fun k => (gR w i k).map (fun j => eb Γ + j))))))
def wl (Γ : En) (w : Wd) : va_W := (List.range (wn w)).map (fun i => (eb Γ + i, pic Γ w i))
def Ab (Γ : En) : Nat → Prop := fun q => eb Γ ≤ q
def Rp (Γ : En) (w : Wd) (H : Heap) : Prop := H.size = eb Γ + wn w ∧ va_P Γ.2.1 vwCl (wl Γ w) H
def tysOf (Γ : En) : List (ClassId × FieldType) := [(Γ.2.2.1 8, .int), (Γ.2.2.1 9, .boolean), (Γ.2.2.1 10, .object RX2), (Γ.2.2.1 11, .object RX3), (Γ.2.2.1 12, .object RX5)]
theorem wl_len {Γ : En} {w : Wd} : (wl Γ w).length = wn w := by simp [wl]
theorem wl_at {Γ : En} {w : Wd} {i : Nat} (h : i < wn w) : (wl Γ w)[i]? = some (eb Γ + i, pic Γ w i) := by simp [wl, h]
theorem wl_of {Γ : En} {w : Wd} {i : Nat} {q : Nat × va_E} (h : (wl Γ w)[i]? = some q) : i < wn w ∧ q = (eb Γ + i, pic Γ w i) := by
  have h1 : i < wn w := by
    have := (List.getElem?_eq_some_iff.mp h).1
    rwa [wl_len] at this
  rw [wl_at h1] at h
  exact ⟨h1, (Option.some.inj h).symm⟩
theorem wl_D {Γ : En} {w : Wd} : va_D (Ab Γ) (wl Γ w) := by
  refine ⟨fun i j p q hi hj e => ?_, fun k q hk => ?_⟩
  · obtain ⟨_, rfl⟩ := wl_of hi
    obtain ⟨_, rfl⟩ := wl_of hj
    have : eb Γ + i = eb Γ + j := e
    omega
  · obtain ⟨_, rfl⟩ := wl_of hk
    exact Nat.le_add_right _ _
theorem wl_set {Γ : En} {w w' : Wd} {i : Nat} {e : va_E} (hn : wn w' = wn w) (he : pic Γ w' i = e) (ho : ∀ j, j ≠ i → pic Γ w' j = pic Γ w j) : (wl Γ w).set i (eb Γ + i, e) = wl Γ w' := by
  apply List.ext_getElem?
  intro j
  by_cases hj : j < wn w
  · rw [wl_at (w := w') (by omega), List.getElem?_set]
    by_cases hij : i = j
    · subst hij
      simp [wl_len, hj, he]
    · rw [if_neg hij, wl_at hj, ho j (fun e => hij e.symm)]
  · rw [List.getElem?_eq_none (by rw [List.length_set, wl_len]; omega), List.getElem?_eq_none (by rw [wl_len]; omega)]
theorem wl_app {Γ : En} {w w' : Wd} {e : va_E} (hn : wn w' = wn w + 1) (he : pic Γ w' (wn w) = e) (ho : ∀ j, j < wn w → pic Γ w' j = pic Γ w j) : wl Γ w ++ [(eb Γ + wn w, e)] = wl Γ w' := by
  apply List.ext_getElem?
  intro j
  by_cases hj : j < wn w
  · rw [List.getElem?_append_left (by rw [wl_len]; exact hj), wl_at hj, wl_at (by omega), ho j hj]
  · rw [List.getElem?_append_right (by rw [wl_len]; omega), wl_len]
    by_cases hj2 : j = wn w
    · subst hj2
      rw [Nat.sub_self, wl_at (by omega), he]
      rfl
    · rw [List.getElem?_eq_none (by show 1 ≤ j - wn w; omega), List.getElem?_eq_none (by rw [wl_len]; omega)]
theorem Rp_lt {Γ : En} {w : Wd} {H : Heap} (h : Rp Γ w H) {i : Nat} (hi : i < wn w) : eb Γ + i < H.size := by
  rw [h.1]; omega
theorem fval_at {Γ : En} {w : Wd} {i k : Nat} (h : k < nsl (kd i)) : ((List.range (nsl (kd i))).map (fval Γ w i))[k]? = some (fval Γ w i k) := by simp [h]
theorem fset {Γ : En} {w w' : Wd} {i k : Nat} {v : Value} (hk : k < nsl (kd i)) (hv : fval Γ w' i k = v) (ho : ∀ j, j ≠ k → fval Γ w' i j = fval Γ w i j) : ((List.range (nsl (kd i))).map (fval Γ w i)).set k v = (List.range (nsl (kd i))).map (fval Γ w' i) := by
  apply List.ext_getElem?
  intro j
  rw [List.getElem?_set]
  by_cases hj : j < nsl (kd i)
  · by_cases hkj : k = j
    · subst hkj
      simp [hj, hv]
    · rw [if_neg hkj]
      simp [hj, ho j (fun e => hkj e.symm)]
  · by_cases hkj : k = j
    · omega
    · rw [if_neg hkj]
      simp [hj]
theorem pic_ob {Γ : En} {w : Wd} {i c : Nat} (h : kd i = c) (hc : c < 8) : pic Γ w i = .inr (c, (List.range (nsl c)).map (fval Γ w i)) := by
  subst h
  simp [pic, hc]
theorem pic_ia {Γ : En} {w : Wd} {i : Nat} (h : kd i = 8) : pic Γ w i = .inl (Γ.2.2.1 8, ln i, .inl (gI w i)) := by simp [pic, h]
theorem pic_za {Γ : En} {w : Wd} {i : Nat} (h : kd i = 9) : pic Γ w i = .inl (Γ.2.2.1 9, ln i, .inl (gI w i)) := by simp [pic, h]
theorem pic_ra {Γ : En} {w : Wd} {i c : Nat} (h : kd i = c) (hc : 9 < c) : pic Γ w i = .inl (Γ.2.2.1 c, ln i, .inr (.inr (.inr (.inr (fun k => (gR w i k).map (fun j => eb Γ + j)))))) := by
  subst h
  rw [pic, if_neg (by omega), if_neg (by omega)]
/-- the picture of a cell that no change touches -/
theorem pic_eq {Γ : En} {w w' : Wd} {j : Nat} (h1 : ∀ k, gI w' j k = gI w j k) (h2 : ∀ k, gR w' j k = gR w j k) (h3 : ∀ k, gL w' j k = gL w j k) : pic Γ w' j = pic Γ w j := by
  have e1 : gI w' j = gI w j := funext h1
  have e2 : fval Γ w' j = fval Γ w j := by
    funext k
    simp only [fval, h1, h2, h3]
  have e3 : (fun k => (gR w' j k).map (fun j => eb Γ + j)) = (fun k => (gR w j k).map (fun j => eb Γ + j)) := by
    funext k
    rw [h2]
  simp only [pic, e1, e2, e3]
end
section
def nestL : List Cond := [.methodLinkNest RX6 43 yX1_init RX6, .methodLinkNest RX0 35 yX5_init RX6, .methodLinkNest RX6 70 yX5_init RX6, .methodLinkNest RX6 71 yX3_init RX6, .methodLinkNest RX6 72 yX2_init RX6, .methodLinkNest RX4 47 yX6_has RX6, .methodLinkNest RX4 114 yX6_bit RX6, .methodLinkNest RX4 55 yX6_bounded RX6, .methodLinkNest RX2 22 yX6_bounded RX6]
theorem nestL_on : ∀ w ∈ nestL, w.onTables = true := by decide +kernel
/-- where each text constant stands -/
def strP : List (String × Nat) := [(RX6, 73), (RX1, 104), (RX1, 110), (RX1, 112), (RX1, 114), (RX1, 116), (RX1, 118), (RX1, 120), (RX1, 122), (RX1, 124), (RX1, 126), (RX1, 128), (RX1, 130)]
def adK (Γ : En) : Nat → Nat := Γ.2.2.2.2.1
def adV (Γ : En) : Nat → Nat := Γ.2.2.2.2.2.1
def adU (Γ : En) : Nat := Γ.2.2.2.2.2.2
def undL : List Int32 := [-1, 0, 0, 1, 2, 0]
/-- what of a state's own statics and constants is used: it lies below the first address, nobody writes it -/
def SE (Γ : En) (U : State) (H : Heap) : Prop :=
  (∀ w ∈ nestL, va_Nw w U) ∧ (va_AO RX2 U ∧ va_AO RX3 U ∧ va_AO RX5 U) ∧
  vk_S 13 sLen sByt (adK Γ) (adV Γ) (Ab Γ) U H ∧
  (∀ i : Nat, i < 13 → vk_R (strP.getD i ("", 0)).1 (strP.getD i ("", 0)).2 (strL.getD i "") (adK Γ i) U) ∧
  (va_Z RX6 "UNDER" "[I" (.ref (adU Γ)) (Ab Γ) U H ∧ va_T .int (adU Γ) 6 (fun j => .int (undL.getD j 0)) (Ab Γ) U H) ∧
  va_Z RJ0 "COMPACT_STRINGS" "Z" (.int 1) (Ab Γ) U H ∧ va_Zq RJ3 "SIOOBE_FORMATTER" "Ljava/util/function/BiFunction;" (Ab Γ) U H
theorem SE_heap {Γ : En} {U : State} {H H1 : Heap} (h : SE Γ U H) (hq : ∀ a : Nat, a < H.size → ¬ Ab Γ a → H1[a]? = H[a]?) : SE Γ U H1 :=
  ⟨h.1, h.2.1, h.2.2.1.kept hq, h.2.2.2.1, ⟨h.2.2.2.2.1.1.kept hq, h.2.2.2.2.1.2.kept hq⟩, h.2.2.2.2.2.1.kept hq, h.2.2.2.2.2.2.kept hq⟩
theorem SE_same {Γ : En} {u U : State} {H : Heap} (hv : u.vm = U.vm) (h : SE Γ u H) : SE Γ U H := by
  have ha : u.vm.Alike U.vm := by rw [hv]; exact Vm.Alike.refl _
  exact ⟨fun w hw => (h.1 w hw).same (nestL_on w hw) hv, ⟨h.2.1.1.moved ha, h.2.1.2.1.moved ha, h.2.1.2.2.moved ha⟩, h.2.2.1.moved ha, fun i hi => (h.2.2.2.1 i hi).same hv.symm, ⟨h.2.2.2.2.1.1.moved ha, h.2.2.2.2.1.2.moved ha⟩, h.2.2.2.2.2.1.moved ha, h.2.2.2.2.2.2.moved ha⟩
theorem nest_warm {s U : State} (hW : s.WarmedH U.vm) (h : ∀ w ∈ nestL, va_Nw w s) : ∀ w ∈ nestL, va_Nw w U := by
  intro w hw
  have h1 := h w hw
  simp only [nestL, List.mem_cons, List.not_mem_nil, or_false] at hw
  rcases hw with rfl | rfl | rfl | rfl | rfl | rfl | rfl | rfl | rfl <;> exact va_Nw.warmM hW h1
theorem SE_warm {Γ : En} {s U : State} {H : Heap} (hW : s.WarmedH U.vm) (h : SE Γ s H) : SE Γ U H := by
  have ha := hW.alike
  exact ⟨nest_warm hW h.1, ⟨h.2.1.1.moved ha, h.2.1.2.1.moved ha, h.2.1.2.2.moved ha⟩, h.2.2.1.moved ha, fun i hi => (h.2.2.2.1 i hi).warm hW, ⟨h.2.2.2.2.1.1.moved ha, h.2.2.2.2.1.2.moved ha⟩, h.2.2.2.2.2.1.moved ha, h.2.2.2.2.2.2.moved ha⟩
/-- a method's world at its start -/
def Bd (Γ : En) (w : Wd) (U : State) : Prop := Rp Γ w U.heap ∧ va_K Γ.2.1 vwCl (tysOf Γ) U ∧ SE Γ U U.heap
theorem Bd_blind {Γ : En} {w : Wd} {vs : List Value} : FrameBlind (va_Pc vs (Bd Γ w)) := fun a U g mk q => by
  obtain ⟨q0, qP, qK, qE⟩ := q
  exact ⟨q0, qP, va_K.moved (u := U) (U := U.calling g mk a) (Vm.Alike.refl U.vm) qK, SE_same (u := U) (U := U.calling g mk a) rfl qE⟩
def rmd (d K N : Nat) : Room := { frames := d, cells := K, slots := N, locals := 64 * d }
/-- a method's contracts, by what it answers -/
def MtI (Γ : En) (y : MethodName) (cc : ByteArray) (mL : Nat) (ret : Option FieldType) (d K N : Nat) (vs : List Value) (w : Wd) (o : Option (Int32 × Wd)) : Prop := ∀ r w', o = some (r, w') → Met Γ.1 y (.code y cc mL ret :: lw_U) (rmd d K N) (va_Pc vs (Bd Γ w)) (va_Qi (fun (r2 : Int32) (w2 : Wd) => r2 = r ∧ w2 = w') (fun (w2 : Wd) t => Rp Γ w2 t.heap) (Ab Γ)) K N (Ab Γ)
def MtL (Γ : En) (y : MethodName) (cc : ByteArray) (mL : Nat) (ret : Option FieldType) (d K N : Nat) (vs : List Value) (w : Wd) (o : Option (Int64 × Wd)) : Prop := ∀ r w', o = some (r, w') → Met Γ.1 y (.code y cc mL ret :: lw_U) (rmd d K N) (va_Pc vs (Bd Γ w)) (va_Ql (fun (r2 : Int64) (w2 : Wd) => r2 = r ∧ w2 = w') (fun (w2 : Wd) t => Rp Γ w2 t.heap) (Ab Γ)) K N (Ab Γ)
def MtV (Γ : En) (y : MethodName) (cc : ByteArray) (mL : Nat) (ret : Option FieldType) (d K N : Nat) (vs : List Value) (w : Wd) (o : Option (Unit × Wd)) : Prop := ∀ r w', o = some (r, w') → Met Γ.1 y (.code y cc mL ret :: lw_U) (rmd d K N) (va_Pc vs (Bd Γ w)) (va_Qv (fun (w2 : Wd) => w2 = w') (fun (w2 : Wd) t => Rp Γ w2 t.heap) (Ab Γ)) K N (Ab Γ)
def MtQ (Γ : En) (y : MethodName) (cc : ByteArray) (mL : Nat) (ret : Option FieldType) (d K N : Nat) (vs : List Value) (w : Wd) (o : Option (Option Nat × Wd)) : Prop := ∀ r w', o = some (r, w') → Met Γ.1 y (.code y cc mL ret :: lw_U) (rmd d K N) (va_Pc vs (Bd Γ w)) (va_Qq (fun (r2 : Option Nat) (w2 : Wd) => r2 = r.map (fun i => eb Γ + i) ∧ w2 = w') (fun (w2 : Wd) t => Rp Γ w2 t.heap) (Ab Γ)) K N (Ab Γ)
/-- what a place of the locals holds: an int, a reference, a long -/
abbrev LV : Type := Int32 ⊕ (Option Nat ⊕ Int64)
def vL (Γ : En) (x : LV) : Value := match x with
  | .inl a => .int a
  | .inr (.inl r) => rv Γ r
  | .inr (.inr a) => .long a
def isL (x : LV) : Bool := match x with
  | .inr (.inr _) => true
  | _ => false
def lvm (Γ : En) (lv : List (Nat × LV)) : List (Nat × Value) := lv.map fun q => (q.1, vL Γ q.2)
theorem rv_cat {Γ : En} {r : Option Nat} : (rv Γ r).category = 1 := by cases r <;> rfl
theorem vL_cat {Γ : En} {x : LV} : ((vL Γ x).category == 2) = isL x := by
  rcases x with a | r | a
  · rfl
  · show ((rv Γ r).category == 2) = false
    rw [rv_cat]; rfl
  · rfl
theorem lvm_at {Γ : En} {lv : List (Nat × LV)} {q j : Nat} {x : LV} (h : lv[q]? = some (j, x)) : (lvm Γ lv)[q]? = some (j, vL Γ x) := by simp [lvm, h]
def lset1 (lv : List (Nat × LV)) (i : Nat) (x : LV) : List (Nat × LV) := (i, x) :: lv.filter (fun q => !(q.1 == i) && !(q.1 + 1 == i && isL q.2))
def lset2 (lv : List (Nat × LV)) (i : Nat) (x : LV) : List (Nat × LV) := (i, x) :: lv.filter (fun q => !(q.1 == i) && (!(q.1 == i + 1) && !(q.1 + 1 == i && isL q.2)))
theorem lvm_set1 {Γ : En} {lv : List (Nat × LV)} {i : Nat} {x : LV} : (i, vL Γ x) :: (lvm Γ lv).filter (fun q => !(q.1 == i) && !(q.1 + 1 == i && q.2.category == 2)) = lvm Γ (lset1 lv i x) := by
  simp only [lvm, lset1, List.map_cons, List.filter_map]
  congr 2
  apply List.filter_congr
  intro q hq
  simp only [Function.comp, vL_cat]
theorem lvm_set2 {Γ : En} {lv : List (Nat × LV)} {i : Nat} {x : LV} : (i, vL Γ x) :: (lvm Γ lv).filter (fun q => !(q.1 == i) && (!(q.1 == i + 1) && !(q.1 + 1 == i && q.2.category == 2))) = lvm Γ (lset2 lv i x) := by
  simp only [lvm, lset2, List.map_cons, List.filter_map]
  congr 2
  apply List.filter_congr
  intro q hq
  simp only [Function.comp, vL_cat]
def tpick (l : List (Nat × LV)) (ks : List Nat) : List (Nat × LV) := ks.filterMap (fun k => l[k]?)
theorem lvm_pick {Γ : En} {lv : List (Nat × LV)} {ks : List Nat} : lv_pick (lvm Γ lv) ks = lvm Γ (tpick lv ks) := by
  simp only [lv_pick, lvm, tpick, List.map_filterMap, List.getElem?_map]
/-- arguments, typed, and where they lie -/
def targs : Nat → List LV → List (Nat × LV)
  | _, [] => []
  | i, x :: xs => (i, x) :: targs (if isL x = true then i + 2 else i + 1) xs
theorem lvm_args {Γ : En} : ∀ (xs : List LV) (i : Nat), lv_args i (xs.map (vL Γ)) = lvm Γ (targs i xs)
  | [], _ => rfl
  | x :: xs, i => by
    have hc := vL_cat (Γ := Γ) (x := x)
    have e : (if (vL Γ x).category = 2 then i + 2 else i + 1) = (if isL x = true then i + 2 else i + 1) := by
      by_cases hq : isL x = true
      · rw [hq] at hc
        rw [if_pos hq, if_pos (by simpa using hc)]
      · have hq2 : isL x = false := by simpa using hq
        rw [hq2] at hc
        rw [if_neg hq, if_neg (by simpa using hc)]
    show (i, vL Γ x) :: lv_args (if (vL Γ x).category = 2 then i + 2 else i + 1) (xs.map (vL Γ)) = _
    rw [e, lvm_args xs]
    rfl
/-- a walk's surroundings -/
abbrev Cx : Type := En × Program × Env × Room × State × MethodId × Array Value × List Frame × Method × Code × Nat × Nat × (State → Prop) × (Value → Wd → Prop)
/-- the walk: from this place with these locals, this stack and this world the method comes to a state as Q wants it -/
def G (X : Cx) (k n pc : Nat) (lv : List (Nat × LV)) (st : List Value) (w : Wd) : Prop := match X with
  | (Γ, p, e, R, s, m, args, below, meth, c, nL, n0, Q, _) => ∀ (H : Heap) (locs : List Loc) (ls : Array Slot), Rp Γ w H → va_S (Ab Γ) s.heap H locs → lv_has ls nL (lvm Γ lv) → n0 + k = wn w → W p Γ.1 e R s m args below meth c H locs k n Q (F0 m pc ls st)
def Ok (X : Cx) (cc : ByteArray) (own : String) (d K N : Nat) : Prop := match X with
  | (Γ, p, _, R, s, m, args, _, meth, c, nL, n0, _, _) => p.tables.exec = Jvm.exec ∧ c.code = cc ∧ c.maxLocals = nL ∧ s.vm.findClass own = some m.cls ∧ (∀ w ∈ lw_U, w.before args s = true) ∧ va_K Γ.2.1 vwCl (tysOf Γ) s ∧ SE Γ s s.heap ∧ s.heap.size = eb Γ + n0 ∧ meth.locks = false ∧ (d ≤ R.frames ∧ 64 * d ≤ R.locals ∧ K ≤ R.cells ∧ N ≤ R.slots)
def n0X (X : Cx) : Nat := X.2.2.2.2.2.2.2.2.2.2.2.1
def qX (X : Cx) : Value → Wd → Prop := X.2.2.2.2.2.2.2.2.2.2.2.2.2
def nLX (X : Cx) : Nat := X.2.2.2.2.2.2.2.2.2.2.1
def RetI (X : Cx) (ty : FieldType) (K N : Nat) : Prop := match X with
  | (Γ, _, _, _, s, _, args, below, meth, _, _, _, Q, q) => meth.sig.returnType = some ty ∧ Q = MQ below (va_Qi (fun (r : Int32) (w : Wd) => q (.int r) w) (fun (w : Wd) t => Rp Γ w t.heap) (Ab Γ)) args s K N (Ab Γ)
def RetL (X : Cx) (K N : Nat) : Prop := match X with
  | (Γ, _, _, _, s, _, args, below, meth, _, _, _, Q, q) => meth.sig.returnType = some .long ∧ Q = MQ below (va_Ql (fun (r : Int64) (w : Wd) => q (.long r) w) (fun (w : Wd) t => Rp Γ w t.heap) (Ab Γ)) args s K N (Ab Γ)
def RetV (X : Cx) (K N : Nat) : Prop := match X with
  | (Γ, _, _, _, s, _, args, below, meth, _, _, _, Q, q) => meth.sig.returnType = none ∧ Q = MQ below (va_Qv (fun (w : Wd) => q .null w) (fun (w : Wd) t => Rp Γ w t.heap) (Ab Γ)) args s K N (Ab Γ)
def RetQ (X : Cx) (ty : FieldType) (K N : Nat) : Prop := match X with
  | (Γ, _, _, _, s, _, args, below, meth, _, _, _, Q, q) => meth.sig.returnType = some ty ∧ (∃ n, ty = .object n) ∧ Q = MQ below (va_Qq (fun (r : Option Nat) (w : Wd) => q (va_rf r) w) (fun (w : Wd) t => Rp Γ w t.heap) (Ab Γ)) args s K N (Ab Γ)
/-- what a program answers is what the walk owes -/
def OkR {α : Type} (X : Cx) (enc : α → Value) (e : Option (α × Wd)) : Prop := ∃ r w', e = some (r, w') ∧ qX X (enc r) w'
def bnd {α β : Type} (o : Option (α × Wd)) (f : α → Wd → Option (β × Wd)) : Option (β × Wd) := match o with
  | none => none
  | some (r, w) => f r w
theorem bnd_ok {α β : Type} {X : Cx} {enc : β → Value} {o : Option (α × Wd)} {f : α → Wd → Option (β × Wd)} (h : OkR X enc (bnd o f)) : ∃ r w, o = some (r, w) ∧ OkR X enc (f r w) := by
  cases o with
  | none => obtain ⟨_, _, e, _⟩ := h; cases e
  | some q => exact ⟨q.1, q.2, rfl, h⟩
/-- a reference is looked into: it is there, and of that kind -/
def dr {α : Type} (r : Option Nat) (c : Nat) (w : Wd) (f : Nat → Option α) : Option α := match r with
  | none => none
  | some a => if a < wn w ∧ kd a = c then f a else none
theorem dr_ok {α : Type} {X : Cx} {enc : α → Value} {r : Option Nat} {c : Nat} {w : Wd} {f : Nat → Option (α × Wd)} (h : OkR X enc (dr r c w f)) : ∃ a, r = some a ∧ (a < wn w ∧ kd a = c) ∧ OkR X enc (f a) := by
  cases r with
  | none => obtain ⟨_, _, e, _⟩ := h; cases e
  | some a =>
    by_cases hc : a < wn w ∧ kd a = c
    · refine ⟨a, rfl, hc, ?_⟩
      simpa [dr, hc] using h
    · obtain ⟨_, _, e, _⟩ := h
      simp [dr, hc] at e
/-- a guard -/
def grd {α : Type} (c : Prop) [Decidable c] (e : Option α) : Option α := if c then e else none
theorem grd_ok {α : Type} {X : Cx} {enc : α → Value} {c : Prop} [Decidable c] {e : Option (α × Wd)} (h : OkR X enc (grd c e)) : c ∧ OkR X enc e := by
  by_cases hc : c
  · exact ⟨hc, by simpa [grd, hc] using h⟩
  · obtain ⟨_, _, e, _⟩ := h
    simp [grd, hc] at e
/-- an index within a row -/
abbrev vin (i : Int32) (n : Nat) : Prop := ¬ (i < 0 ∨ n ≤ i.toNatClampNeg)
theorem w_size {p : Program} {l : Launch} {e : Env} {R : Room} {s : State} {m : MethodId} {args : Array Value} {below : List Frame} {meth : Method} {c : Code} {H : Heap} {locs : List Loc} {cells slots : Nat} {Q : State → Prop} {g : JFrame} (kk : H.size ≤ s.heap.size + cells → W p l e R s m args below meth c H locs cells slots Q g) : W p l e R s m args below meth c H locs cells slots Q g := fun T hT X => kk (by rw [← hT]; exact X.heapSize) T hT X
end
section
variable {X : Cx} {cc : ByteArray} {own : String} {d K N k n pc : Nat} {lv : List (Nat × LV)} {st : List Value} {w : Wd} {β : Type} {enc : β → Value}
theorem g_iadd (h : Ok X cc own d K N) {x y : Int32} (hd : decode cc pc = .ok (.iadd, 1)) (kk : G X k n (pc + 1) lv (.int (x + y) :: st) w) : G X k n pc lv (.int y :: .int x :: st) w := by
  obtain ⟨Γ, p, e, R, s, m, args, below, meth, c, nL, n0, Q, qv⟩ := X
  obtain ⟨hx, hb, hml, hown, hts, hK, hE, hsz, hlk, hRf⟩ := h
  intro H locs ls hR hS hl hn
  exact lv_iadd hx hb hd (kk H locs ls hR hS hl hn)
theorem g_isub (h : Ok X cc own d K N) {x y : Int32} (hd : decode cc pc = .ok (.isub, 1)) (kk : G X k n (pc + 1) lv (.int (x - y) :: st) w) : G X k n pc lv (.int y :: .int x :: st) w := by
  obtain ⟨Γ, p, e, R, s, m, args, below, meth, c, nL, n0, Q, qv⟩ := X
  obtain ⟨hx, hb, hml, hown, hts, hK, hE, hsz, hlk, hRf⟩ := h
  intro H locs ls hR hS hl hn
  exact lv_isub hx hb hd (kk H locs ls hR hS hl hn)
theorem g_imul (h : Ok X cc own d K N) {x y : Int32} (hd : decode cc pc = .ok (.imul, 1)) (kk : G X k n (pc + 1) lv (.int (x * y) :: st) w) : G X k n pc lv (.int y :: .int x :: st) w := by
  obtain ⟨Γ, p, e, R, s, m, args, below, meth, c, nL, n0, Q, qv⟩ := X
  obtain ⟨hx, hb, hml, hown, hts, hK, hE, hsz, hlk, hRf⟩ := h
  intro H locs ls hR hS hl hn
  exact lv_imul hx hb hd (kk H locs ls hR hS hl hn)
theorem g_iand (h : Ok X cc own d K N) {x y : Int32} (hd : decode cc pc = .ok (.iand, 1)) (kk : G X k n (pc + 1) lv (.int (x &&& y) :: st) w) : G X k n pc lv (.int y :: .int x :: st) w := by
  obtain ⟨Γ, p, e, R, s, m, args, below, meth, c, nL, n0, Q, qv⟩ := X
  obtain ⟨hx, hb, hml, hown, hts, hK, hE, hsz, hlk, hRf⟩ := h
  intro H locs ls hR hS hl hn
  exact lv_iand hx hb hd (kk H locs ls hR hS hl hn)
theorem g_ior (h : Ok X cc own d K N) {x y : Int32} (hd : decode cc pc = .ok (.ior, 1)) (kk : G X k n (pc + 1) lv (.int (x ||| y) :: st) w) : G X k n pc lv (.int y :: .int x :: st) w := by
  obtain ⟨Γ, p, e, R, s, m, args, below, meth, c, nL, n0, Q, qv⟩ := X
  obtain ⟨hx, hb, hml, hown, hts, hK, hE, hsz, hlk, hRf⟩ := h
  intro H locs ls hR hS hl hn
  exact lv_ior hx hb hd (kk H locs ls hR hS hl hn)
theorem g_ixor (h : Ok X cc own d K N) {x y : Int32} (hd : decode cc pc = .ok (.ixor, 1)) (kk : G X k n (pc + 1) lv (.int (x ^^^ y) :: st) w) : G X k n pc lv (.int y :: .int x :: st) w := by
  obtain ⟨Γ, p, e, R, s, m, args, below, meth, c, nL, n0, Q, qv⟩ := X
  obtain ⟨hx, hb, hml, hown, hts, hK, hE, hsz, hlk, hRf⟩ := h
  intro H locs ls hR hS hl hn
  exact lv_ixor hx hb hd (kk H locs ls hR hS hl hn)
theorem g_ishl (h : Ok X cc own d K N) {x y : Int32} (hd : decode cc pc = .ok (.ishl, 1)) (kk : G X k n (pc + 1) lv (.int (x <<< (y &&& 31)) :: st) w) : G X k n pc lv (.int y :: .int x :: st) w := by
  obtain ⟨Γ, p, e, R, s, m, args, below, meth, c, nL, n0, Q, qv⟩ := X
  obtain ⟨hx, hb, hml, hown, hts, hK, hE, hsz, hlk, hRf⟩ := h
  intro H locs ls hR hS hl hn
  exact lv_ishl hx hb hd (kk H locs ls hR hS hl hn)
theorem g_ishr (h : Ok X cc own d K N) {x y : Int32} (hd : decode cc pc = .ok (.ishr, 1)) (kk : G X k n (pc + 1) lv (.int (x >>> (y &&& 31)) :: st) w) : G X k n pc lv (.int y :: .int x :: st) w := by
  obtain ⟨Γ, p, e, R, s, m, args, below, meth, c, nL, n0, Q, qv⟩ := X
  obtain ⟨hx, hb, hml, hown, hts, hK, hE, hsz, hlk, hRf⟩ := h
  intro H locs ls hR hS hl hn
  exact lv_ishr hx hb hd (kk H locs ls hR hS hl hn)
theorem g_iushr (h : Ok X cc own d K N) {x y : Int32} (hd : decode cc pc = .ok (.iushr, 1)) (kk : G X k n (pc + 1) lv (.int ((x.toUInt32 >>> (y.toUInt32 &&& Int32.toUInt32 31)).toInt32) :: st) w) : G X k n pc lv (.int y :: .int x :: st) w := by
  obtain ⟨Γ, p, e, R, s, m, args, below, meth, c, nL, n0, Q, qv⟩ := X
  obtain ⟨hx, hb, hml, hown, hts, hK, hE, hsz, hlk, hRf⟩ := h
  intro H locs ls hR hS hl hn
  exact lv_iushr hx hb hd rfl (kk H locs ls hR hS hl hn)
theorem g_idiv (h : Ok X cc own d K N) {x y : Int32} (hd : decode cc pc = .ok (.idiv, 1)) (hne : ¬ y = 0) (kk : G X k n (pc + 1) lv (.int (x / y) :: st) w) : G X k n pc lv (.int y :: .int x :: st) w := by
  obtain ⟨Γ, p, e, R, s, m, args, below, meth, c, nL, n0, Q, qv⟩ := X
  obtain ⟨hx, hb, hml, hown, hts, hK, hE, hsz, hlk, hRf⟩ := h
  intro H locs ls hR hS hl hn
  exact lv_idiv hx hb hd hne (kk H locs ls hR hS hl hn)
theorem g_irem (h : Ok X cc own d K N) {x y : Int32} (hd : decode cc pc = .ok (.irem, 1)) (hne : ¬ y = 0) (kk : G X k n (pc + 1) lv (.int (x - x / y * y) :: st) w) : G X k n pc lv (.int y :: .int x :: st) w := by
  obtain ⟨Γ, p, e, R, s, m, args, below, meth, c, nL, n0, Q, qv⟩ := X
  obtain ⟨hx, hb, hml, hown, hts, hK, hE, hsz, hlk, hRf⟩ := h
  intro H locs ls hR hS hl hn
  exact lv_irem hx hb hd hne (kk H locs ls hR hS hl hn)
theorem g_ineg (h : Ok X cc own d K N) {x : Int32} (hd : decode cc pc = .ok (.ineg, 1)) (kk : G X k n (pc + 1) lv (.int (-x) :: st) w) : G X k n pc lv (.int x :: st) w := by
  obtain ⟨Γ, p, e, R, s, m, args, below, meth, c, nL, n0, Q, qv⟩ := X
  obtain ⟨hx, hb, hml, hown, hts, hK, hE, hsz, hlk, hRf⟩ := h
  intro H locs ls hR hS hl hn
  exact lv_ineg hx hb hd (kk H locs ls hR hS hl hn)
theorem g_ladd (h : Ok X cc own d K N) {x y : Int64} (hd : decode cc pc = .ok (.ladd, 1)) (kk : G X k n (pc + 1) lv (.long (x + y) :: st) w) : G X k n pc lv (.long y :: .long x :: st) w := by
  obtain ⟨Γ, p, e, R, s, m, args, below, meth, c, nL, n0, Q, qv⟩ := X
  obtain ⟨hx, hb, hml, hown, hts, hK, hE, hsz, hlk, hRf⟩ := h
  intro H locs ls hR hS hl hn
  exact lv_ladd hx hb hd (kk H locs ls hR hS hl hn)
theorem g_lsub (h : Ok X cc own d K N) {x y : Int64} (hd : decode cc pc = .ok (.lsub, 1)) (kk : G X k n (pc + 1) lv (.long (x - y) :: st) w) : G X k n pc lv (.long y :: .long x :: st) w := by
  obtain ⟨Γ, p, e, R, s, m, args, below, meth, c, nL, n0, Q, qv⟩ := X
  obtain ⟨hx, hb, hml, hown, hts, hK, hE, hsz, hlk, hRf⟩ := h
  intro H locs ls hR hS hl hn
  exact lv_lsub hx hb hd (kk H locs ls hR hS hl hn)
theorem g_lmul (h : Ok X cc own d K N) {x y : Int64} (hd : decode cc pc = .ok (.lmul, 1)) (kk : G X k n (pc + 1) lv (.long (x * y) :: st) w) : G X k n pc lv (.long y :: .long x :: st) w := by
  obtain ⟨Γ, p, e, R, s, m, args, below, meth, c, nL, n0, Q, qv⟩ := X
  obtain ⟨hx, hb, hml, hown, hts, hK, hE, hsz, hlk, hRf⟩ := h
  intro H locs ls hR hS hl hn
  exact lv_lmul hx hb hd (kk H locs ls hR hS hl hn)
theorem g_ldiv (h : Ok X cc own d K N) {x y : Int64} (hd : decode cc pc = .ok (.ldiv, 1)) (hne : ¬ y = 0) (kk : G X k n (pc + 1) lv (.long (x / y) :: st) w) : G X k n pc lv (.long y :: .long x :: st) w := by
  obtain ⟨Γ, p, e, R, s, m, args, below, meth, c, nL, n0, Q, qv⟩ := X
  obtain ⟨hx, hb, hml, hown, hts, hK, hE, hsz, hlk, hRf⟩ := h
  intro H locs ls hR hS hl hn
  exact lv_ldiv hx hb hd hne (kk H locs ls hR hS hl hn)
theorem g_lrem (h : Ok X cc own d K N) {x y : Int64} (hd : decode cc pc = .ok (.lrem, 1)) (hne : ¬ y = 0) (kk : G X k n (pc + 1) lv (.long (x - x / y * y) :: st) w) : G X k n pc lv (.long y :: .long x :: st) w := by
  obtain ⟨Γ, p, e, R, s, m, args, below, meth, c, nL, n0, Q, qv⟩ := X
  obtain ⟨hx, hb, hml, hown, hts, hK, hE, hsz, hlk, hRf⟩ := h
  intro H locs ls hR hS hl hn
  exact lv_lrem hx hb hd hne (kk H locs ls hR hS hl hn)
theorem g_lcmp (h : Ok X cc own d K N) {x y : Int64} (hd : decode cc pc = .ok (.lcmp, 1)) (kk : G X k n (pc + 1) lv (.int (lg_cmp x y) :: st) w) : G X k n pc lv (.long y :: .long x :: st) w := by
  obtain ⟨Γ, p, e, R, s, m, args, below, meth, c, nL, n0, Q, qv⟩ := X
  obtain ⟨hx, hb, hml, hown, hts, hK, hE, hsz, hlk, hRf⟩ := h
  intro H locs ls hR hS hl hn
  exact W.lcmp hx hb hd (kk H locs ls hR hS hl hn)
theorem g_i2l (h : Ok X cc own d K N) {x : Int32} (hd : decode cc pc = .ok (.i2l, 1)) (kk : G X k n (pc + 1) lv (.long x.toInt64 :: st) w) : G X k n pc lv (.int x :: st) w := by
  obtain ⟨Γ, p, e, R, s, m, args, below, meth, c, nL, n0, Q, qv⟩ := X
  obtain ⟨hx, hb, hml, hown, hts, hK, hE, hsz, hlk, hRf⟩ := h
  intro H locs ls hR hS hl hn
  exact lv_i2l hx hb hd rfl (kk H locs ls hR hS hl hn)
theorem g_l2i (h : Ok X cc own d K N) {x : Int64} (hd : decode cc pc = .ok (.l2i, 1)) (kk : G X k n (pc + 1) lv (.int x.toInt32 :: st) w) : G X k n pc lv (.long x :: st) w := by
  obtain ⟨Γ, p, e, R, s, m, args, below, meth, c, nL, n0, Q, qv⟩ := X
  obtain ⟨hx, hb, hml, hown, hts, hK, hE, hsz, hlk, hRf⟩ := h
  intro H locs ls hR hS hl hn
  exact lv_l2i hx hb hd rfl (kk H locs ls hR hS hl hn)
theorem g_i2b (h : Ok X cc own d K N) {x : Int32} (hd : decode cc pc = .ok (.i2b, 1)) (kk : G X k n (pc + 1) lv (.int x.toInt8.toInt32 :: st) w) : G X k n pc lv (.int x :: st) w := by
  obtain ⟨Γ, p, e, R, s, m, args, below, meth, c, nL, n0, Q, qv⟩ := X
  obtain ⟨hx, hb, hml, hown, hts, hK, hE, hsz, hlk, hRf⟩ := h
  intro H locs ls hR hS hl hn
  exact lv_i2b hx hb hd rfl (kk H locs ls hR hS hl hn)
theorem g_i2s (h : Ok X cc own d K N) {x : Int32} (hd : decode cc pc = .ok (.i2s, 1)) (kk : G X k n (pc + 1) lv (.int x.toInt16.toInt32 :: st) w) : G X k n pc lv (.int x :: st) w := by
  obtain ⟨Γ, p, e, R, s, m, args, below, meth, c, nL, n0, Q, qv⟩ := X
  obtain ⟨hx, hb, hml, hown, hts, hK, hE, hsz, hlk, hRf⟩ := h
  intro H locs ls hR hS hl hn
  exact lv_i2s hx hb hd rfl (kk H locs ls hR hS hl hn)
theorem g_iconst (h : Ok X cc own d K N) {i : Int} {v : Int32} (hd : decode cc pc = .ok (.iconst i, 1)) (hv : Int32.ofInt i = v) (kk : G X k n (pc + 1) lv (.int v :: st) w) : G X k n pc lv st w := by
  obtain ⟨Γ, p, e, R, s, m, args, below, meth, c, nL, n0, Q, qv⟩ := X
  obtain ⟨hx, hb, hml, hown, hts, hK, hE, hsz, hlk, hRf⟩ := h
  intro H locs ls hR hS hl hn
  exact lv_iconst hx hb hd hv (kk H locs ls hR hS hl hn)
theorem g_bipush (h : Ok X cc own d K N) {i : Int} {v : Int32} (hd : decode cc pc = .ok (.bipush i, 2)) (hv : (Int8.ofInt i).toInt32 = v) (kk : G X k n (pc + 2) lv (.int v :: st) w) : G X k n pc lv st w := by
  obtain ⟨Γ, p, e, R, s, m, args, below, meth, c, nL, n0, Q, qv⟩ := X
  obtain ⟨hx, hb, hml, hown, hts, hK, hE, hsz, hlk, hRf⟩ := h
  intro H locs ls hR hS hl hn
  exact lv_bipush hx hb hd hv (kk H locs ls hR hS hl hn)
theorem g_sipush (h : Ok X cc own d K N) {i : Int} {v : Int32} (hd : decode cc pc = .ok (.sipush i, 3)) (hv : (Int16.ofInt i).toInt32 = v) (kk : G X k n (pc + 3) lv (.int v :: st) w) : G X k n pc lv st w := by
  obtain ⟨Γ, p, e, R, s, m, args, below, meth, c, nL, n0, Q, qv⟩ := X
  obtain ⟨hx, hb, hml, hown, hts, hK, hE, hsz, hlk, hRf⟩ := h
  intro H locs ls hR hS hl hn
  exact lv_sipush hx hb hd hv (kk H locs ls hR hS hl hn)
theorem g_lconst (h : Ok X cc own d K N) {i : Fin 2} {v : Int64} (hd : decode cc pc = .ok (.lconst i, 1)) (hv : Int64.ofNat (i : Nat) = v) (kk : G X k n (pc + 1) lv (.long v :: st) w) : G X k n pc lv st w := by
  obtain ⟨Γ, p, e, R, s, m, args, below, meth, c, nL, n0, Q, qv⟩ := X
  obtain ⟨hx, hb, hml, hown, hts, hK, hE, hsz, hlk, hRf⟩ := h
  intro H locs ls hR hS hl hn
  exact lv_lconst hx hb hd hv (kk H locs ls hR hS hl hn)
theorem g_ldc (h : Ok X cc own d K N) {i : Nat} {v : Int32} (hw : Cond.constant own i v ∈ lw_U) (hd : decode cc pc = .ok (.ldc i, 2)) (kk : G X k n (pc + 2) lv (.int v :: st) w) : G X k n pc lv st w := by
  obtain ⟨Γ, p, e, R, s, m, args, below, meth, c, nL, n0, Q, qv⟩ := X
  obtain ⟨hx, hb, hml, hown, hts, hK, hE, hsz, hlk, hRf⟩ := h
  intro H locs ls hR hS hl hn
  exact lv_ldc hx hb hown (hts _ hw) hd (kk H locs ls hR hS hl hn)
theorem g_ldcw (h : Ok X cc own d K N) {i : Nat} {v : Int32} (hw : Cond.constant own i v ∈ lw_U) (hd : decode cc pc = .ok (.ldc_w i, 3)) (kk : G X k n (pc + 3) lv (.int v :: st) w) : G X k n pc lv st w := by
  obtain ⟨Γ, p, e, R, s, m, args, below, meth, c, nL, n0, Q, qv⟩ := X
  obtain ⟨hx, hb, hml, hown, hts, hK, hE, hsz, hlk, hRf⟩ := h
  intro H locs ls hR hS hl hn
  exact lv_ldcw hx hb hown (hts _ hw) hd (kk H locs ls hR hS hl hn)
theorem g_ldc2 (h : Ok X cc own d K N) {i : Nat} {v : Int64} (hw : Cond.constantLong own i v ∈ lw_U) (hd : decode cc pc = .ok (.ldc2_w i, 3)) (kk : G X k n (pc + 3) lv (.long v :: st) w) : G X k n pc lv st w := by
  obtain ⟨Γ, p, e, R, s, m, args, below, meth, c, nL, n0, Q, qv⟩ := X
  obtain ⟨hx, hb, hml, hown, hts, hK, hE, hsz, hlk, hRf⟩ := h
  intro H locs ls hR hS hl hn
  exact lv_ldc2 hx hb hown (hts _ hw) hd (kk H locs ls hR hS hl hn)
theorem g_null (h : Ok X cc own d K N) (hd : decode cc pc = .ok (.aconst_null, 1)) (kk : G X k n (pc + 1) lv (rv X.1 none :: st) w) : G X k n pc lv st w := by
  obtain ⟨Γ, p, e, R, s, m, args, below, meth, c, nL, n0, Q, qv⟩ := X
  obtain ⟨hx, hb, hml, hown, hts, hK, hE, hsz, hlk, hRf⟩ := h
  intro H locs ls hR hS hl hn
  exact lv_null hx hb hd (kk H locs ls hR hS hl hn)
theorem g_pop (h : Ok X cc own d K N) {v : Value} (hd : decode cc pc = .ok (.pop, 1)) (hv : v.category = 1) (kk : G X k n (pc + 1) lv st w) : G X k n pc lv (v :: st) w := by
  obtain ⟨Γ, p, e, R, s, m, args, below, meth, c, nL, n0, Q, qv⟩ := X
  obtain ⟨hx, hb, hml, hown, hts, hK, hE, hsz, hlk, hRf⟩ := h
  intro H locs ls hR hS hl hn
  exact lv_pop hx hb hd hv (kk H locs ls hR hS hl hn)
theorem g_dup (h : Ok X cc own d K N) {v : Value} (hd : decode cc pc = .ok (.dup, 1)) (hv : v.category = 1) (kk : G X k n (pc + 1) lv (v :: v :: st) w) : G X k n pc lv (v :: st) w := by
  obtain ⟨Γ, p, e, R, s, m, args, below, meth, c, nL, n0, Q, qv⟩ := X
  obtain ⟨hx, hb, hml, hown, hts, hK, hE, hsz, hlk, hRf⟩ := h
  intro H locs ls hR hS hl hn
  exact lv_dup hx hb hd hv (kk H locs ls hR hS hl hn)
theorem g_iload_n (h : Ok X cc own d K N) {j : Fin 4} {x : Int32} (q : Nat) (hq : lv[q]? = some ((j : Nat), .inl x)) (hd : decode cc pc = .ok (.iload_n j, 1)) (kk : G X k n (pc + 1) lv (.int x :: st) w) : G X k n pc lv st w := by
  obtain ⟨Γ, p, e, R, s, m, args, below, meth, c, nL, n0, Q, qv⟩ := X
  obtain ⟨hx, hb, hml, hown, hts, hK, hE, hsz, hlk, hRf⟩ := h
  intro H locs ls hR hS hl hn
  exact lv_iload_n hx hb hd rfl (lv_at hl q (lvm_at hq)) (kk H locs ls hR hS hl hn)
theorem g_iload (h : Ok X cc own d K N) {j : Nat} {x : Int32} (q : Nat) (hq : lv[q]? = some (j, .inl x)) (hd : decode cc pc = .ok (.iload j, 2)) (kk : G X k n (pc + 2) lv (.int x :: st) w) : G X k n pc lv st w := by
  obtain ⟨Γ, p, e, R, s, m, args, below, meth, c, nL, n0, Q, qv⟩ := X
  obtain ⟨hx, hb, hml, hown, hts, hK, hE, hsz, hlk, hRf⟩ := h
  intro H locs ls hR hS hl hn
  exact lv_iload hx hb hd (lv_at hl q (lvm_at hq)) (kk H locs ls hR hS hl hn)
theorem g_lload_n (h : Ok X cc own d K N) {j : Fin 4} {x : Int64} (q : Nat) (hq : lv[q]? = some ((j : Nat), .inr (.inr x))) (hd : decode cc pc = .ok (.lload_n j, 1)) (kk : G X k n (pc + 1) lv (.long x :: st) w) : G X k n pc lv st w := by
  obtain ⟨Γ, p, e, R, s, m, args, below, meth, c, nL, n0, Q, qv⟩ := X
  obtain ⟨hx, hb, hml, hown, hts, hK, hE, hsz, hlk, hRf⟩ := h
  intro H locs ls hR hS hl hn
  exact lv_lload_n hx hb hd rfl (lv_at hl q (lvm_at hq)) (kk H locs ls hR hS hl hn)
theorem g_lload (h : Ok X cc own d K N) {j : Nat} {x : Int64} (q : Nat) (hq : lv[q]? = some (j, .inr (.inr x))) (hd : decode cc pc = .ok (.lload j, 2)) (kk : G X k n (pc + 2) lv (.long x :: st) w) : G X k n pc lv st w := by
  obtain ⟨Γ, p, e, R, s, m, args, below, meth, c, nL, n0, Q, qv⟩ := X
  obtain ⟨hx, hb, hml, hown, hts, hK, hE, hsz, hlk, hRf⟩ := h
  intro H locs ls hR hS hl hn
  exact lv_lload hx hb hd (lv_at hl q (lvm_at hq)) (kk H locs ls hR hS hl hn)
theorem g_aload_n (h : Ok X cc own d K N) {j : Fin 4} {r : Option Nat} (q0 : Nat) (hq : lv[q0]? = some ((j : Nat), .inr (.inl r))) (hd : decode cc pc = .ok (.aload_n j, 1)) (kk : G X k n (pc + 1) lv (rv X.1 r :: st) w) : G X k n pc lv st w := by
  obtain ⟨Γ, p, e, R, s, m, args, below, meth, c, nL, n0, Q, qv⟩ := X
  obtain ⟨hx, hb, hml, hown, hts, hK, hE, hsz, hlk, hRf⟩ := h
  intro H locs ls hR hS hl hn
  cases r with
  | none => exact lv_aload_nN hx hb hd rfl (lv_at hl q0 (lvm_at hq)) (kk H locs ls hR hS hl hn)
  | some a => exact lv_aload_n hx hb hd rfl (lv_at hl q0 (lvm_at hq)) (kk H locs ls hR hS hl hn)
theorem g_aload (h : Ok X cc own d K N) {j : Nat} {r : Option Nat} (q0 : Nat) (hq : lv[q0]? = some ((j : Nat), .inr (.inl r))) (hd : decode cc pc = .ok (.aload j, 2)) (kk : G X k n (pc + 2) lv (rv X.1 r :: st) w) : G X k n pc lv st w := by
  obtain ⟨Γ, p, e, R, s, m, args, below, meth, c, nL, n0, Q, qv⟩ := X
  obtain ⟨hx, hb, hml, hown, hts, hK, hE, hsz, hlk, hRf⟩ := h
  intro H locs ls hR hS hl hn
  cases r with
  | none => exact lv_aloadN hx hb hd (lv_at hl q0 (lvm_at hq)) (kk H locs ls hR hS hl hn)
  | some a => exact lv_aload hx hb hd (lv_at hl q0 (lvm_at hq)) (kk H locs ls hR hS hl hn)
theorem g_istore_n (h : Ok X cc own d K N) {j : Fin 4} {x : Int32} {lv' : List (Nat × LV)} (hd : decode cc pc = .ok (.istore_n j, 1)) (hj : (j : Nat) < nLX X) (hv : lset1 lv (j : Nat) (.inl x) = lv') (kk : G X k n (pc + 1) lv' st w) : G X k n pc lv (.int x :: st) w := by
  obtain ⟨Γ, p, e, R, s, m, args, below, meth, c, nL, n0, Q, qv⟩ := X
  obtain ⟨hx, hb, hml, hown, hts, hK, hE, hsz, hlk, hRf⟩ := h
  intro H locs ls hR hS hl hn
  exact lv_istore_n hx hb hd rfl hl hj (lvm_set1 (x := .inl x)) (fun ls' hl' => kk H locs ls' hR hS (by rw [← hv]; exact hl') hn)
theorem g_istore (h : Ok X cc own d K N) {j : Nat} {x : Int32} {lv' : List (Nat × LV)} (hd : decode cc pc = .ok (.istore j, 2)) (hj : (j : Nat) < nLX X) (hv : lset1 lv (j : Nat) (.inl x) = lv') (kk : G X k n (pc + 2) lv' st w) : G X k n pc lv (.int x :: st) w := by
  obtain ⟨Γ, p, e, R, s, m, args, below, meth, c, nL, n0, Q, qv⟩ := X
  obtain ⟨hx, hb, hml, hown, hts, hK, hE, hsz, hlk, hRf⟩ := h
  intro H locs ls hR hS hl hn
  exact lv_istore hx hb hd hl hj (lvm_set1 (x := .inl x)) (fun ls' hl' => kk H locs ls' hR hS (by rw [← hv]; exact hl') hn)
theorem g_lstore_n (h : Ok X cc own d K N) {j : Fin 4} {x : Int64} {lv' : List (Nat × LV)} (hd : decode cc pc = .ok (.lstore_n j, 1)) (hj : (j : Nat) + 1 < nLX X) (hv : lset2 lv (j : Nat) (.inr (.inr x)) = lv') (kk : G X k n (pc + 1) lv' st w) : G X k n pc lv (.long x :: st) w := by
  obtain ⟨Γ, p, e, R, s, m, args, below, meth, c, nL, n0, Q, qv⟩ := X
  obtain ⟨hx, hb, hml, hown, hts, hK, hE, hsz, hlk, hRf⟩ := h
  intro H locs ls hR hS hl hn
  exact lv_lstore_n hx hb hd rfl hl hj (lvm_set2 (x := .inr (.inr x))) (fun ls' hl' => kk H locs ls' hR hS (by rw [← hv]; exact hl') hn)
theorem g_lstore (h : Ok X cc own d K N) {j : Nat} {x : Int64} {lv' : List (Nat × LV)} (hd : decode cc pc = .ok (.lstore j, 2)) (hj : (j : Nat) + 1 < nLX X) (hv : lset2 lv (j : Nat) (.inr (.inr x)) = lv') (kk : G X k n (pc + 2) lv' st w) : G X k n pc lv (.long x :: st) w := by
  obtain ⟨Γ, p, e, R, s, m, args, below, meth, c, nL, n0, Q, qv⟩ := X
  obtain ⟨hx, hb, hml, hown, hts, hK, hE, hsz, hlk, hRf⟩ := h
  intro H locs ls hR hS hl hn
  exact lv_lstore hx hb hd hl hj (lvm_set2 (x := .inr (.inr x))) (fun ls' hl' => kk H locs ls' hR hS (by rw [← hv]; exact hl') hn)
theorem g_astore_n (h : Ok X cc own d K N) {j : Fin 4} {r : Option Nat} {lv' : List (Nat × LV)} (hd : decode cc pc = .ok (.astore_n j, 1)) (hj : (j : Nat) < nLX X) (hv : lset1 lv (j : Nat) (.inr (.inl r)) = lv') (kk : G X k n (pc + 1) lv' st w) : G X k n pc lv (rv X.1 r :: st) w := by
  obtain ⟨Γ, p, e, R, s, m, args, below, meth, c, nL, n0, Q, qv⟩ := X
  obtain ⟨hx, hb, hml, hown, hts, hK, hE, hsz, hlk, hRf⟩ := h
  intro H locs ls hR hS hl hn
  cases r with
  | none => exact lv_astore_nN hx hb hd rfl hl hj (lvm_set1 (x := .inr (.inl none))) (fun ls' hl' => kk H locs ls' hR hS (by rw [← hv]; exact hl') hn)
  | some a => exact lv_astore_n hx hb hd rfl hl hj (lvm_set1 (x := .inr (.inl (some a)))) (fun ls' hl' => kk H locs ls' hR hS (by rw [← hv]; exact hl') hn)
theorem g_astore (h : Ok X cc own d K N) {j : Nat} {r : Option Nat} {lv' : List (Nat × LV)} (hd : decode cc pc = .ok (.astore j, 2)) (hj : (j : Nat) < nLX X) (hv : lset1 lv (j : Nat) (.inr (.inl r)) = lv') (kk : G X k n (pc + 2) lv' st w) : G X k n pc lv (rv X.1 r :: st) w := by
  obtain ⟨Γ, p, e, R, s, m, args, below, meth, c, nL, n0, Q, qv⟩ := X
  obtain ⟨hx, hb, hml, hown, hts, hK, hE, hsz, hlk, hRf⟩ := h
  intro H locs ls hR hS hl hn
  cases r with
  | none => exact lv_astoreN hx hb hd hl hj (lvm_set1 (x := .inr (.inl none))) (fun ls' hl' => kk H locs ls' hR hS (by rw [← hv]; exact hl') hn)
  | some a => exact lv_astore hx hb hd hl hj (lvm_set1 (x := .inr (.inl (some a)))) (fun ls' hl' => kk H locs ls' hR hS (by rw [← hv]; exact hl') hn)
theorem g_iinc (h : Ok X cc own d K N) {j : Nat} {i : Int} {x dv : Int32} {lv' : List (Nat × LV)} (q0 : Nat) (hq : lv[q0]? = some (j, .inl x)) (hd : decode cc pc = .ok (.iinc j i, 3)) (he : Int32.ofInt i = dv) (hj : j < nLX X) (hv : lset1 lv j (.inl (x + dv)) = lv') (kk : G X k n (pc + 3) lv' st w) : G X k n pc lv st w := by
  obtain ⟨Γ, p, e, R, s, m, args, below, meth, c, nL, n0, Q, qv⟩ := X
  obtain ⟨hx, hb, hml, hown, hts, hK, hE, hsz, hlk, hRf⟩ := h
  intro H locs ls hR hS hl hn
  exact lv_iinc hx hb hd hl (lvm_at hq) (by rw [he]) hj (lvm_set1 (x := .inl (x + dv))) (fun ls' hl' => kk H locs ls' hR hS (by rw [← hv]; exact hl') hn)
/-- fewer locals, in any order -/
theorem g_lv {lv' : List (Nat × LV)} (ks : List Nat) (he : tpick lv ks = lv') (kk : G X k n pc lv' st w) : G X k n pc lv st w := by
  obtain ⟨Γ, p, e, R, s, m, args, below, meth, c, nL, n0, Q, qv⟩ := X
  intro H locs ls hR hS hl hn
  exact kk H locs ls hR hS (lv_sub hl ks (by rw [lvm_pick, he])) hn
theorem okT {c : Prop} [Decidable c] {A B : Option (β × Wd)} (hF : OkR X enc (if c then A else B)) (hc : c) : OkR X enc A := by rwa [if_pos hc] at hF
theorem okE {c : Prop} [Decidable c] {A B : Option (β × Wd)} (hF : OkR X enc (if c then A else B)) (hc : ¬ c) : OkR X enc B := by rwa [if_neg hc] at hF
theorem g_icmp_eq (h : Ok X cc own d K N) {x y : Int32} {off : Int} {tgt : Nat} (hd : decode cc pc = .ok (.if_icmp .eq off, 3)) (ht : (pc : Int) + off = (tgt : Int)) {A B : Option (β × Wd)} (hF : OkR X enc (if x = y then A else B)) (kt : OkR X enc A → G X k n tgt lv st w) (kf : OkR X enc B → G X k n (pc + 3) lv st w) : G X k n pc lv (.int y :: .int x :: st) w := by
  have h1 := fun z => kt (okT hF z)
  have h2 := fun z => kf (okE hF z)
  obtain ⟨Γ, p, e, R, s, m, args, below, meth, c, nL, n0, Q, qv⟩ := X
  obtain ⟨hx, hb, hml, hown, hts, hK, hE, hsz, hlk, hRf⟩ := h
  intro H locs ls hR hS hl hn
  exact lv_icmp_eq hx hb hd ht (fun z => h1 z H locs ls hR hS hl hn) (fun z => h2 z H locs ls hR hS hl hn)
theorem g_if_eq (h : Ok X cc own d K N) {x : Int32} {off : Int} {tgt : Nat} (hd : decode cc pc = .ok (.ifCond .eq off, 3)) (ht : (pc : Int) + off = (tgt : Int)) {A B : Option (β × Wd)} (hF : OkR X enc (if x = 0 then A else B)) (kt : OkR X enc A → G X k n tgt lv st w) (kf : OkR X enc B → G X k n (pc + 3) lv st w) : G X k n pc lv (.int x :: st) w := by
  have h1 := fun z => kt (okT hF z)
  have h2 := fun z => kf (okE hF z)
  obtain ⟨Γ, p, e, R, s, m, args, below, meth, c, nL, n0, Q, qv⟩ := X
  obtain ⟨hx, hb, hml, hown, hts, hK, hE, hsz, hlk, hRf⟩ := h
  intro H locs ls hR hS hl hn
  exact lv_if_eq hx hb hd ht (fun z => h1 z H locs ls hR hS hl hn) (fun z => h2 z H locs ls hR hS hl hn)
theorem g_icmp_ne (h : Ok X cc own d K N) {x y : Int32} {off : Int} {tgt : Nat} (hd : decode cc pc = .ok (.if_icmp .ne off, 3)) (ht : (pc : Int) + off = (tgt : Int)) {A B : Option (β × Wd)} (hF : OkR X enc (if x = y then A else B)) (kt : OkR X enc B → G X k n tgt lv st w) (kf : OkR X enc A → G X k n (pc + 3) lv st w) : G X k n pc lv (.int y :: .int x :: st) w := by
  have h1 := fun z => kt (okE hF z)
  have h2 := fun z => kf (okT hF z)
  obtain ⟨Γ, p, e, R, s, m, args, below, meth, c, nL, n0, Q, qv⟩ := X
  obtain ⟨hx, hb, hml, hown, hts, hK, hE, hsz, hlk, hRf⟩ := h
  intro H locs ls hR hS hl hn
  exact lv_icmp_ne hx hb hd ht (fun z => h1 z H locs ls hR hS hl hn) (fun z => h2 z H locs ls hR hS hl hn)
theorem g_if_ne (h : Ok X cc own d K N) {x : Int32} {off : Int} {tgt : Nat} (hd : decode cc pc = .ok (.ifCond .ne off, 3)) (ht : (pc : Int) + off = (tgt : Int)) {A B : Option (β × Wd)} (hF : OkR X enc (if x = 0 then A else B)) (kt : OkR X enc B → G X k n tgt lv st w) (kf : OkR X enc A → G X k n (pc + 3) lv st w) : G X k n pc lv (.int x :: st) w := by
  have h1 := fun z => kt (okE hF z)
  have h2 := fun z => kf (okT hF z)
  obtain ⟨Γ, p, e, R, s, m, args, below, meth, c, nL, n0, Q, qv⟩ := X
  obtain ⟨hx, hb, hml, hown, hts, hK, hE, hsz, hlk, hRf⟩ := h
  intro H locs ls hR hS hl hn
  exact lv_if_ne hx hb hd ht (fun z => h1 z H locs ls hR hS hl hn) (fun z => h2 z H locs ls hR hS hl hn)
theorem g_icmp_lt (h : Ok X cc own d K N) {x y : Int32} {off : Int} {tgt : Nat} (hd : decode cc pc = .ok (.if_icmp .lt off, 3)) (ht : (pc : Int) + off = (tgt : Int)) {A B : Option (β × Wd)} (hF : OkR X enc (if x < y then A else B)) (kt : OkR X enc A → G X k n tgt lv st w) (kf : OkR X enc B → G X k n (pc + 3) lv st w) : G X k n pc lv (.int y :: .int x :: st) w := by
  have h1 := fun z => kt (okT hF z)
  have h2 := fun z => kf (okE hF z)
  obtain ⟨Γ, p, e, R, s, m, args, below, meth, c, nL, n0, Q, qv⟩ := X
  obtain ⟨hx, hb, hml, hown, hts, hK, hE, hsz, hlk, hRf⟩ := h
  intro H locs ls hR hS hl hn
  exact lv_icmp_lt hx hb hd ht (fun z => h1 z H locs ls hR hS hl hn) (fun z => h2 z H locs ls hR hS hl hn)
theorem g_if_lt (h : Ok X cc own d K N) {x : Int32} {off : Int} {tgt : Nat} (hd : decode cc pc = .ok (.ifCond .lt off, 3)) (ht : (pc : Int) + off = (tgt : Int)) {A B : Option (β × Wd)} (hF : OkR X enc (if x < 0 then A else B)) (kt : OkR X enc A → G X k n tgt lv st w) (kf : OkR X enc B → G X k n (pc + 3) lv st w) : G X k n pc lv (.int x :: st) w := by
  have h1 := fun z => kt (okT hF z)
  have h2 := fun z => kf (okE hF z)
  obtain ⟨Γ, p, e, R, s, m, args, below, meth, c, nL, n0, Q, qv⟩ := X
  obtain ⟨hx, hb, hml, hown, hts, hK, hE, hsz, hlk, hRf⟩ := h
  intro H locs ls hR hS hl hn
  exact lv_if_lt hx hb hd ht (fun z => h1 z H locs ls hR hS hl hn) (fun z => h2 z H locs ls hR hS hl hn)
theorem g_icmp_ge (h : Ok X cc own d K N) {x y : Int32} {off : Int} {tgt : Nat} (hd : decode cc pc = .ok (.if_icmp .ge off, 3)) (ht : (pc : Int) + off = (tgt : Int)) {A B : Option (β × Wd)} (hF : OkR X enc (if y ≤ x then A else B)) (kt : OkR X enc A → G X k n tgt lv st w) (kf : OkR X enc B → G X k n (pc + 3) lv st w) : G X k n pc lv (.int y :: .int x :: st) w := by
  have h1 := fun z => kt (okT hF z)
  have h2 := fun z => kf (okE hF z)
  obtain ⟨Γ, p, e, R, s, m, args, below, meth, c, nL, n0, Q, qv⟩ := X
  obtain ⟨hx, hb, hml, hown, hts, hK, hE, hsz, hlk, hRf⟩ := h
  intro H locs ls hR hS hl hn
  exact lv_icmp_ge hx hb hd ht (fun z => h1 z H locs ls hR hS hl hn) (fun z => h2 z H locs ls hR hS hl hn)
theorem g_if_ge (h : Ok X cc own d K N) {x : Int32} {off : Int} {tgt : Nat} (hd : decode cc pc = .ok (.ifCond .ge off, 3)) (ht : (pc : Int) + off = (tgt : Int)) {A B : Option (β × Wd)} (hF : OkR X enc (if 0 ≤ x then A else B)) (kt : OkR X enc A → G X k n tgt lv st w) (kf : OkR X enc B → G X k n (pc + 3) lv st w) : G X k n pc lv (.int x :: st) w := by
  have h1 := fun z => kt (okT hF z)
  have h2 := fun z => kf (okE hF z)
  obtain ⟨Γ, p, e, R, s, m, args, below, meth, c, nL, n0, Q, qv⟩ := X
  obtain ⟨hx, hb, hml, hown, hts, hK, hE, hsz, hlk, hRf⟩ := h
  intro H locs ls hR hS hl hn
  exact lv_if_ge hx hb hd ht (fun z => h1 z H locs ls hR hS hl hn) (fun z => h2 z H locs ls hR hS hl hn)
theorem g_icmp_gt (h : Ok X cc own d K N) {x y : Int32} {off : Int} {tgt : Nat} (hd : decode cc pc = .ok (.if_icmp .gt off, 3)) (ht : (pc : Int) + off = (tgt : Int)) {A B : Option (β × Wd)} (hF : OkR X enc (if y < x then A else B)) (kt : OkR X enc A → G X k n tgt lv st w) (kf : OkR X enc B → G X k n (pc + 3) lv st w) : G X k n pc lv (.int y :: .int x :: st) w := by
  have h1 := fun z => kt (okT hF z)
  have h2 := fun z => kf (okE hF z)
  obtain ⟨Γ, p, e, R, s, m, args, below, meth, c, nL, n0, Q, qv⟩ := X
  obtain ⟨hx, hb, hml, hown, hts, hK, hE, hsz, hlk, hRf⟩ := h
  intro H locs ls hR hS hl hn
  exact lv_icmp_gt hx hb hd ht (fun z => h1 z H locs ls hR hS hl hn) (fun z => h2 z H locs ls hR hS hl hn)
theorem g_if_gt (h : Ok X cc own d K N) {x : Int32} {off : Int} {tgt : Nat} (hd : decode cc pc = .ok (.ifCond .gt off, 3)) (ht : (pc : Int) + off = (tgt : Int)) {A B : Option (β × Wd)} (hF : OkR X enc (if 0 < x then A else B)) (kt : OkR X enc A → G X k n tgt lv st w) (kf : OkR X enc B → G X k n (pc + 3) lv st w) : G X k n pc lv (.int x :: st) w := by
  have h1 := fun z => kt (okT hF z)
  have h2 := fun z => kf (okE hF z)
  obtain ⟨Γ, p, e, R, s, m, args, below, meth, c, nL, n0, Q, qv⟩ := X
  obtain ⟨hx, hb, hml, hown, hts, hK, hE, hsz, hlk, hRf⟩ := h
  intro H locs ls hR hS hl hn
  exact lv_if_gt hx hb hd ht (fun z => h1 z H locs ls hR hS hl hn) (fun z => h2 z H locs ls hR hS hl hn)
theorem g_icmp_le (h : Ok X cc own d K N) {x y : Int32} {off : Int} {tgt : Nat} (hd : decode cc pc = .ok (.if_icmp .le off, 3)) (ht : (pc : Int) + off = (tgt : Int)) {A B : Option (β × Wd)} (hF : OkR X enc (if x ≤ y then A else B)) (kt : OkR X enc A → G X k n tgt lv st w) (kf : OkR X enc B → G X k n (pc + 3) lv st w) : G X k n pc lv (.int y :: .int x :: st) w := by
  have h1 := fun z => kt (okT hF z)
  have h2 := fun z => kf (okE hF z)
  obtain ⟨Γ, p, e, R, s, m, args, below, meth, c, nL, n0, Q, qv⟩ := X
  obtain ⟨hx, hb, hml, hown, hts, hK, hE, hsz, hlk, hRf⟩ := h
  intro H locs ls hR hS hl hn
  exact lv_icmp_le hx hb hd ht (fun z => h1 z H locs ls hR hS hl hn) (fun z => h2 z H locs ls hR hS hl hn)
theorem g_if_le (h : Ok X cc own d K N) {x : Int32} {off : Int} {tgt : Nat} (hd : decode cc pc = .ok (.ifCond .le off, 3)) (ht : (pc : Int) + off = (tgt : Int)) {A B : Option (β × Wd)} (hF : OkR X enc (if x ≤ 0 then A else B)) (kt : OkR X enc A → G X k n tgt lv st w) (kf : OkR X enc B → G X k n (pc + 3) lv st w) : G X k n pc lv (.int x :: st) w := by
  have h1 := fun z => kt (okT hF z)
  have h2 := fun z => kf (okE hF z)
  obtain ⟨Γ, p, e, R, s, m, args, below, meth, c, nL, n0, Q, qv⟩ := X
  obtain ⟨hx, hb, hml, hown, hts, hK, hE, hsz, hlk, hRf⟩ := h
  intro H locs ls hR hS hl hn
  exact lv_if_le hx hb hd ht (fun z => h1 z H locs ls hR hS hl hn) (fun z => h2 z H locs ls hR hS hl hn)
/-- null or not -/
def ifn {α : Type} (r : Option Nat) (A : Option α) (B : Option α) : Option α := match r with
  | none => A
  | some _ => B
theorem g_ifnull (h : Ok X cc own d K N) {r : Option Nat} {off : Int} {tgt : Nat} (hd : decode cc pc = .ok (.ifnull off, 3)) (ht : (pc : Int) + off = (tgt : Int)) {A B : Option (β × Wd)} (hF : OkR X enc (ifn r A B)) (kt : OkR X enc A → G X k n tgt lv st w) (kf : OkR X enc B → G X k n (pc + 3) lv st w) : G X k n pc lv (rv X.1 r :: st) w := by
  obtain ⟨Γ, p, e, R, s, m, args, below, meth, c, nL, n0, Q, qv⟩ := X
  obtain ⟨hx, hb, hml, hown, hts, hK, hE, hsz, hlk, hRf⟩ := h
  intro H locs ls hR hS hl hn
  cases r with
  | none => exact lv_ifnullN hx hb hd ht (kt hF H locs ls hR hS hl hn)
  | some a => exact lv_ifnull hx hb hd (kf hF H locs ls hR hS hl hn)
theorem g_ifnonnull (h : Ok X cc own d K N) {r : Option Nat} {off : Int} {tgt : Nat} (hd : decode cc pc = .ok (.ifnonnull off, 3)) (ht : (pc : Int) + off = (tgt : Int)) {A B : Option (β × Wd)} (hF : OkR X enc (ifn r B A)) (kt : OkR X enc A → G X k n tgt lv st w) (kf : OkR X enc B → G X k n (pc + 3) lv st w) : G X k n pc lv (rv X.1 r :: st) w := by
  obtain ⟨Γ, p, e, R, s, m, args, below, meth, c, nL, n0, Q, qv⟩ := X
  obtain ⟨hx, hb, hml, hown, hts, hK, hE, hsz, hlk, hRf⟩ := h
  intro H locs ls hR hS hl hn
  cases r with
  | none => exact lv_ifnonnullN hx hb hd (kf hF H locs ls hR hS hl hn)
  | some a => exact lv_ifnonnull hx hb hd ht (kt hF H locs ls hR hS hl hn)
theorem g_goto (h : Ok X cc own d K N) {off : Int} {tgt : Nat} (hd : decode cc pc = .ok (.goto off, 3)) (ht : (pc : Int) + off = (tgt : Int)) (kk : G X k n tgt lv st w) : G X k n pc lv st w := by
  obtain ⟨Γ, p, e, R, s, m, args, below, meth, c, nL, n0, Q, qv⟩ := X
  obtain ⟨hx, hb, hml, hown, hts, hK, hE, hsz, hlk, hRf⟩ := h
  intro H locs ls hR hS hl hn
  exact lv_goto hx hb hd ht (kk H locs ls hR hS hl hn)
theorem g_swIn (h : Ok X cc own d K N) {dflt lo hi : Int} {offs : Array Int} {len : Nat} {x : Int32} {off : Int} {tgt : Nat} (hd : decode cc pc = .ok (.tableswitch dflt lo hi offs, len)) (h1 : ¬ x.toInt < lo) (h2 : ¬ hi < x.toInt) (ho : offs[(x.toInt - lo).toNat]? = some off) (ht : (pc : Int) + off = (tgt : Int)) (kk : G X k n tgt lv st w) : G X k n pc lv (.int x :: st) w := by
  obtain ⟨Γ, p, e, R, s, m, args, below, meth, c, nL, n0, Q, qv⟩ := X
  obtain ⟨hx, hb, hml, hown, hts, hK, hE, hsz, hlk, hRf⟩ := h
  intro H locs ls hR hS hl hn
  exact lv_tableIn hx hb hd h1 h2 ho ht (kk H locs ls hR hS hl hn)
theorem g_swOut (h : Ok X cc own d K N) {dflt lo hi : Int} {offs : Array Int} {len : Nat} {x : Int32} {tgt : Nat} (hd : decode cc pc = .ok (.tableswitch dflt lo hi offs, len)) (h1 : x.toInt < lo ∨ hi < x.toInt) (ht : (pc : Int) + dflt = (tgt : Int)) (kk : G X k n tgt lv st w) : G X k n pc lv (.int x :: st) w := by
  obtain ⟨Γ, p, e, R, s, m, args, below, meth, c, nL, n0, Q, qv⟩ := X
  obtain ⟨hx, hb, hml, hown, hts, hK, hE, hsz, hlk, hRf⟩ := h
  intro H locs ls hR hS hl hn
  exact lv_tableOut hx hb hd h1 ht (kk H locs ls hR hS hl hn)
theorem sw_out {x : Int32} {lo : Int} {q : Nat} (h : ∀ j : Nat, j < q → ¬ x = Int32.ofInt (lo + j)) : x.toInt < lo ∨ lo + q - 1 < x.toInt := by
  by_cases h1 : x.toInt < lo
  · exact Or.inl h1
  · by_cases h2 : lo + q - 1 < x.toInt
    · exact Or.inr h2
    · refine absurd ?_ (h (x.toInt - lo).toNat (by omega))
      rw [show lo + ((x.toInt - lo).toNat : Int) = x.toInt by omega, Int32.ofInt_toInt]
theorem g_swEq (h : Ok X cc own d K N) {dflt lo hi : Int} {offs : Array Int} {len : Nat} {x : Int32} (v : Int32) {off : Int} {tgt : Nat} (hd : decode cc pc = .ok (.tableswitch dflt lo hi offs, len)) (h1 : ¬ v.toInt < lo ∧ ¬ hi < v.toInt ∧ offs[(v.toInt - lo).toNat]? = some off) (ht : (pc : Int) + off = (tgt : Int)) {A B : Option (β × Wd)} (hF : OkR X enc (if x = v then A else B)) (kt : OkR X enc A → G X k n tgt lv st w) (kf : ¬ x = v → OkR X enc B → G X k n pc lv (.int x :: st) w) : G X k n pc lv (.int x :: st) w := by
  by_cases c : x = v
  · subst c
    exact g_swIn h hd h1.1 h1.2.1 h1.2.2 ht (kt (okT hF rfl))
  · exact kf c (okE hF c)
/-- a cell that was there as the method began, of kind c -/
def InN (X : Cx) (a c : Nat) : Prop := a < n0X X ∧ kd a = c
theorem g_dr {r : Option Nat} {c : Nat} {f : Nat → Option (β × Wd)} (hF : OkR X enc (dr r c w f)) (kk : ∀ a, r = some a → InN X a c → OkR X enc (f a) → G X 0 n pc lv st w) : G X 0 n pc lv st w := by
  obtain ⟨a, e, h1, hF⟩ := dr_ok hF
  have kk := kk a e
  obtain ⟨Γ, p, e, R, s, m, args, below, meth, c, nL, n0, Q, qv⟩ := X
  intro H locs ls hR hS hl hn
  refine kk ⟨?_, h1.2⟩ hF H locs ls hR hS hl hn
  show a < n0
  omega
theorem okN {P : Prop} (hF : OkR X enc (none : Option (β × Wd))) : P := by
  obtain ⟨_, _, e, _⟩ := hF
  cases e
end
section
variable {X : Cx} {cc : ByteArray} {own : String} {d K N k n pc : Nat} {lv : List (Nat × LV)} {st : List Value} {w : Wd} {β : Type} {enc : β → Value}
/-- what the tables say of a field at a place of a pool -/
def FdOk (own : String) (idx c f : Nat) (ty : FieldType) (fin : Bool) : Prop := ∃ (C : String) (T : u_T) (NN : Nat) (ty0 : Nat → FieldType), vwCl[c]? = some (C, T, NN) ∧ (∀ w ∈ u_ws C T NN, w ∈ lw_U) ∧ f < NN ∧ nsl c = NN ∧ c < 8 ∧ (T f).1 = C ∧ Cond.fieldLink own idx C (T f).2.1 (T f).2.2.1 ∈ lw_U ∧ (∀ k, k < NN → parseFieldDescriptor (T k).2.2.1 = some (ty0 k)) ∧ (∀ a, a < NN → ∀ b, b < NN → a ≠ b → (T a).2.1 ≠ (T b).2.1) ∧ parseFieldDescriptor (T f).2.2.1 = some ty ∧ (T f).2.2.2 = fin
/-- a cell that is there, of kind c -/
def InW (X : Cx) (w : Wd) (a c : Nat) : Prop := (a < n0X X ∨ a < wn w) ∧ kd a = c
theorem inw {a c : Nat} (h : InN X a c) : InW X w a c := ⟨Or.inl h.1, h.2⟩
theorem put_set {Γ : En} {w w' : Wd} {a c f : Nat} {v : Value} (hkd : kd a = c) (hc : c < 8) (hf : f < nsl c) (hn : wn w' = wn w) (hv : fval Γ w' a f = v) (ho : ∀ j, j ≠ f → fval Γ w' a j = fval Γ w a j) (hp : ∀ j, j ≠ a → pic Γ w' j = pic Γ w j) : (wl Γ w).set a (eb Γ + a, .inr (c, ((List.range (nsl c)).map (fval Γ w a)).set f v)) = wl Γ w' := by
  subst hkd
  refine wl_set hn ?_ hp
  rw [pic_ob rfl hc, fset hf hv ho]
theorem Rp_of {Γ : En} {w : Wd} {H : Heap} (hP : va_P Γ.2.1 vwCl (wl Γ w) H) (h0 : 0 < wn w) (hz : H.size ≤ eb Γ + wn w) : Rp Γ w H := by
  refine ⟨?_, hP⟩
  have h1 := (hP _ _ (wl_at (Γ := Γ) (w := w) (i := wn w - 1) (by omega))).lt
  have h2 : eb Γ + (wn w - 1) < H.size := h1
  omega
theorem set_I {Γ : En} {w : Wd} {a c f : Nat} {v : Int32} (hkd : kd a = c) (hc : c < 8) (hf : f < nsl c) (ht : fty c f ≠ 1 ∧ fty c f ≠ 2) : (wl Γ w).set a (eb Γ + a, .inr (c, ((List.range (nsl c)).map (fval Γ w a)).set f (.int v))) = wl Γ (sI w a f v) := by
  refine put_set hkd hc hf rfl ?_ (fun j hj => ?_) (fun j hj => pic_eq (fun q => ?_) (fun q => rfl) (fun q => rfl))
  · simp [fval, hkd, ht.1, ht.2, gI_sI]
  · simp [fval, gI_sI, gR_sI, gL_sI, hj]
  · simp [gI_sI, hj]
theorem set_R {Γ : En} {w : Wd} {a c f : Nat} {v : Option Nat} (hkd : kd a = c) (hc : c < 8) (hf : f < nsl c) (ht : fty c f = 1) : (wl Γ w).set a (eb Γ + a, .inr (c, ((List.range (nsl c)).map (fval Γ w a)).set f (rv Γ v))) = wl Γ (sR w a f v) := by
  refine put_set hkd hc hf rfl ?_ (fun j hj => ?_) (fun j hj => pic_eq (fun q => rfl) (fun q => ?_) (fun q => rfl))
  · simp [fval, hkd, ht, gR_sR]
  · simp [fval, gI_sR, gR_sR, gL_sR, hj]
  · simp [gR_sR, hj]
theorem set_L {Γ : En} {w : Wd} {a c f : Nat} {v : Int64} (hkd : kd a = c) (hc : c < 8) (hf : f < nsl c) (ht : fty c f = 2) : (wl Γ w).set a (eb Γ + a, .inr (c, ((List.range (nsl c)).map (fval Γ w a)).set f (.long v))) = wl Γ (sL w a f v) := by
  refine put_set hkd hc hf rfl ?_ (fun j hj => ?_) (fun j hj => pic_eq (fun q => rfl) (fun q => rfl) (fun q => ?_))
  · simp [fval, hkd, ht, gL_sL]
  · simp [fval, gI_sL, gR_sL, gL_sL, hj]
  · simp [gL_sL, hj]
theorem fld_at {Γ : En} {w : Wd} {a c f : Nat} {v : Value} (hkd : kd a = c) (hf : f < nsl c) (hv : fval Γ w a f = v) : ((List.range (nsl c)).map (fval Γ w a))[f]? = some v := by
  subst hkd
  rw [fval_at hf, hv]
theorem fld_len {Γ : En} {w : Wd} {a c f : Nat} (hf : f < nsl c) : f < ((List.range (nsl c)).map (fval Γ w a)).length := by simpa using hf
theorem ob_at {Γ : En} {w : Wd} {a c : Nat} (ha : a < wn w) (hkd : kd a = c) (hc : c < 8) : (wl Γ w)[a]? = some (eb Γ + a, .inr (c, (List.range (nsl c)).map (fval Γ w a))) := by rw [wl_at ha, pic_ob hkd hc]
theorem g_getI (h : Ok X cc own d K N) {idx c f a : Nat} {ty : FieldType} {fin : Bool} (hf : FdOk own idx c f ty fin) (ha : InW X w a c) (ht : fty c f ≠ 1 ∧ fty c f ≠ 2) (hd : decode cc pc = .ok (.getfield idx, 3)) (kk : G X k n (pc + 3) lv (.int (gI w a f) :: st) w) : G X k n pc lv (rv X.1 (some a) :: st) w := by
  obtain ⟨Γ, p, e, R, s, m, args, below, meth, c0, nL, n0, Q, qv⟩ := X
  obtain ⟨hx, hb, hml, hown, hts, hK, hE, hsz, hlk, hRf⟩ := h
  obtain ⟨C, T, NN, ty0, hcl, hin, hlt, hns, hc8, hTC, hlk2, hty, hnm, hpd, hfi⟩ := hf
  have hkd := ha.2
  intro H locs ls hR hS hl hn
  have haw : a < wn w := by
    have h1 : a < n0 ∨ a < wn w := ha.1
    omega
  have hlf : f < nsl c := by omega
  exact va_get hx hb hts hin hown hK hR.2 a (ob_at haw hkd hc8) hcl f hlt (hts _ hlk2) (fun x hx => by rw [hTC] at hx; exact hx) (fld_at hkd hlf (by simp [fval, hkd, ht.1, ht.2])) hd (kk H locs ls hR hS hl hn)
theorem g_putI (h : Ok X cc own d K N) {idx c f a : Nat} {ty : FieldType} (hf : FdOk own idx c f ty false) (ha : InW X w a c) (ht : fty c f ≠ 1 ∧ fty c f ≠ 2) {v : Int32} (hv : narrow ty (.int v) = .int v ∧ fits ty (.int v) = true) (hd : decode cc pc = .ok (.putfield idx, 3)) (kk : G X k n (pc + 3) lv st (sI w a f v)) : G X k n pc lv (.int v :: rv X.1 (some a) :: st) w := by
  obtain ⟨Γ, p, e, R, s, m, args, below, meth, c0, nL, n0, Q, qv⟩ := X
  obtain ⟨hx, hb, hml, hown, hts, hK, hE, hsz, hlk, hRf⟩ := h
  obtain ⟨C, T, NN, ty0, hcl, hin, hlt, hns, hc8, hTC, hlk2, hty, hnm, hpd, hfi⟩ := hf
  have hkd := ha.2
  intro H locs ls hR hS hl hn
  have haw : a < wn w := by
    have h1 : a < n0 ∨ a < wn w := ha.1
    omega
  have hlf : f < nsl c := by omega
  exact va_put hx hb hts hin ty0 hty hnm hown hK hR.2 wl_D hS a (ob_at haw hkd hc8) hcl f hlt (hts _ hlk2) (fun x hx => by rw [hTC] at hx; exact hx) hfi hpd hv.1 hv.2 (fld_len hlf) hd (fun H1 locs1 hP1 hD1 hS1 => w_size (fun hz => by
    rw [set_I hkd hc8 hlf ht] at hP1
    exact kk H1 locs1 ls (Rp_of hP1 (by show 0 < wn w; omega) (by show H1.size ≤ eb Γ + wn w; omega)) hS1 hl hn))
theorem g_getR (h : Ok X cc own d K N) {idx c f a : Nat} {ty : FieldType} {fin : Bool} (hf : FdOk own idx c f ty fin) (ha : InW X w a c) (ht : fty c f = 1) (hd : decode cc pc = .ok (.getfield idx, 3)) (kk : G X k n (pc + 3) lv (rv X.1 (gR w a f) :: st) w) : G X k n pc lv (rv X.1 (some a) :: st) w := by
  obtain ⟨Γ, p, e, R, s, m, args, below, meth, c0, nL, n0, Q, qv⟩ := X
  obtain ⟨hx, hb, hml, hown, hts, hK, hE, hsz, hlk, hRf⟩ := h
  obtain ⟨C, T, NN, ty0, hcl, hin, hlt, hns, hc8, hTC, hlk2, hty, hnm, hpd, hfi⟩ := hf
  have hkd := ha.2
  intro H locs ls hR hS hl hn
  have haw : a < wn w := by
    have h1 : a < n0 ∨ a < wn w := ha.1
    omega
  have hlf : f < nsl c := by omega
  exact va_get hx hb hts hin hown hK hR.2 a (ob_at haw hkd hc8) hcl f hlt (hts _ hlk2) (fun x hx => by rw [hTC] at hx; exact hx) (fld_at hkd hlf (by simp [fval, hkd, ht])) hd (kk H locs ls hR hS hl hn)
theorem g_putR (h : Ok X cc own d K N) {idx c f a : Nat} {ty : FieldType} (hf : FdOk own idx c f ty false) (ha : InW X w a c) (ht : fty c f = 1) (hty2 : (∃ z, ty = .object z) ∨ ∃ z, ty = .array z) {v : Option Nat} (hd : decode cc pc = .ok (.putfield idx, 3)) (kk : G X k n (pc + 3) lv st (sR w a f v)) : G X k n pc lv (rv X.1 v :: rv X.1 (some a) :: st) w := by
  obtain ⟨Γ, p, e, R, s, m, args, below, meth, c0, nL, n0, Q, qv⟩ := X
  obtain ⟨hx, hb, hml, hown, hts, hK, hE, hsz, hlk, hRf⟩ := h
  obtain ⟨C, T, NN, ty0, hcl, hin, hlt, hns, hc8, hTC, hlk2, hty, hnm, hpd, hfi⟩ := hf
  have hkd := ha.2
  intro H locs ls hR hS hl hn
  have haw : a < wn w := by
    have h1 : a < n0 ∨ a < wn w := ha.1
    omega
  have hlf : f < nsl c := by omega
  have hnr : narrow ty (rv Γ v) = rv Γ v := by cases v <;> cases ty <;> rfl
  have hfr : fits ty (rv Γ v) = true := by rcases hty2 with ⟨z, rfl⟩ | ⟨z, rfl⟩ <;> cases v <;> rfl
  exact va_put hx hb hts hin ty0 hty hnm hown hK hR.2 wl_D hS a (ob_at haw hkd hc8) hcl f hlt (hts _ hlk2) (fun x hx => by rw [hTC] at hx; exact hx) hfi hpd hnr hfr (fld_len hlf) hd (fun H1 locs1 hP1 hD1 hS1 => w_size (fun hz => by
    rw [set_R hkd hc8 hlf ht] at hP1
    exact kk H1 locs1 ls (Rp_of hP1 (by show 0 < wn w; omega) (by show H1.size ≤ eb Γ + wn w; omega)) hS1 hl hn))
theorem g_putRF (h : Ok X cc own d K N) {idx c f a : Nat} {ty : FieldType} (hf : FdOk own idx c f ty true) (ha : InW X w a c) (ht : fty c f = 1) (hin2 : X.2.2.2.2.2.2.2.2.1.name = "<init>") (hdecl : ((vwCl.getD c ("", fun _ => ("", "", "", false), 0)).2.1 f).1 = own) (hty2 : (∃ z, ty = .object z) ∨ ∃ z, ty = .array z) {v : Option Nat} (hd : decode cc pc = .ok (.putfield idx, 3)) (kk : G X k n (pc + 3) lv st (sR w a f v)) : G X k n pc lv (rv X.1 v :: rv X.1 (some a) :: st) w := by
  obtain ⟨Γ, p, e, R, s, m, args, below, meth, c0, nL, n0, Q, qv⟩ := X
  obtain ⟨hx, hb, hml, hown, hts, hK, hE, hsz, hlk, hRf⟩ := h
  obtain ⟨C, T, NN, ty0, hcl, hin, hlt, hns, hc8, hTC, hlk2, hty, hnm, hpd, hfi⟩ := hf
  have hkd := ha.2
  intro H locs ls hR hS hl hn
  have haw : a < wn w := by
    have h1 : a < n0 ∨ a < wn w := ha.1
    omega
  have hlf : f < nsl c := by omega
  have hnr : narrow ty (rv Γ v) = rv Γ v := by cases v <;> cases ty <;> rfl
  have hfr : fits ty (rv Γ v) = true := by rcases hty2 with ⟨z, rfl⟩ | ⟨z, rfl⟩ <;> cases v <;> rfl
  have hdec2 : (T f).1 = own := by
    have h9 := hdecl
    rw [List.getD_eq_getElem?_getD, hcl] at h9
    exact h9
  exact va_putF hx hb hts hin ty0 hty hnm hown hK hR.2 wl_D hS a (ob_at haw hkd hc8) hcl f hlt (hts _ hlk2) (fun x hx => by rw [hTC] at hx; exact hx) hfi hin2 hdec2 hpd hnr hfr (fld_len hlf) hd (fun H1 locs1 hP1 hD1 hS1 => w_size (fun hz => by
    rw [set_R hkd hc8 hlf ht] at hP1
    exact kk H1 locs1 ls (Rp_of hP1 (by show 0 < wn w; omega) (by show H1.size ≤ eb Γ + wn w; omega)) hS1 hl hn))
theorem g_getL (h : Ok X cc own d K N) {idx c f a : Nat} {ty : FieldType} {fin : Bool} (hf : FdOk own idx c f ty fin) (ha : InW X w a c) (ht : fty c f = 2) (hd : decode cc pc = .ok (.getfield idx, 3)) (kk : G X k n (pc + 3) lv (.long (gL w a f) :: st) w) : G X k n pc lv (rv X.1 (some a) :: st) w := by
  obtain ⟨Γ, p, e, R, s, m, args, below, meth, c0, nL, n0, Q, qv⟩ := X
  obtain ⟨hx, hb, hml, hown, hts, hK, hE, hsz, hlk, hRf⟩ := h
  obtain ⟨C, T, NN, ty0, hcl, hin, hlt, hns, hc8, hTC, hlk2, hty, hnm, hpd, hfi⟩ := hf
  have hkd := ha.2
  intro H locs ls hR hS hl hn
  have haw : a < wn w := by
    have h1 : a < n0 ∨ a < wn w := ha.1
    omega
  have hlf : f < nsl c := by omega
  exact va_get hx hb hts hin hown hK hR.2 a (ob_at haw hkd hc8) hcl f hlt (hts _ hlk2) (fun x hx => by rw [hTC] at hx; exact hx) (fld_at hkd hlf (by simp [fval, hkd, ht])) hd (kk H locs ls hR hS hl hn)
theorem g_putL (h : Ok X cc own d K N) {idx c f a : Nat} {ty : FieldType} (hf : FdOk own idx c f ty false) (ha : InW X w a c) (ht : fty c f = 2) (hty2 : ty = .long) {v : Int64} (hd : decode cc pc = .ok (.putfield idx, 3)) (kk : G X k n (pc + 3) lv st (sL w a f v)) : G X k n pc lv (.long v :: rv X.1 (some a) :: st) w := by
  obtain ⟨Γ, p, e, R, s, m, args, below, meth, c0, nL, n0, Q, qv⟩ := X
  obtain ⟨hx, hb, hml, hown, hts, hK, hE, hsz, hlk, hRf⟩ := h
  obtain ⟨C, T, NN, ty0, hcl, hin, hlt, hns, hc8, hTC, hlk2, hty, hnm, hpd, hfi⟩ := hf
  have hkd := ha.2
  intro H locs ls hR hS hl hn
  have haw : a < wn w := by
    have h1 : a < n0 ∨ a < wn w := ha.1
    omega
  have hlf : f < nsl c := by omega
  have hnr : narrow ty (.long v) = .long v := by cases ty <;> rfl
  have hfr : fits ty (.long v) = true := by subst hty2; rfl
  exact va_put hx hb hts hin ty0 hty hnm hown hK hR.2 wl_D hS a (ob_at haw hkd hc8) hcl f hlt (hts _ hlk2) (fun x hx => by rw [hTC] at hx; exact hx) hfi hpd hnr hfr (fld_len hlf) hd (fun H1 locs1 hP1 hD1 hS1 => w_size (fun hz => by
    rw [set_L hkd hc8 hlf ht] at hP1
    exact kk H1 locs1 ls (Rp_of hP1 (by show 0 < wn w; omega) (by show H1.size ≤ eb Γ + wn w; omega)) hS1 hl hn))
theorem ia_at {Γ : En} {w : Wd} {a : Nat} (ha : a < wn w) (hkd : kd a = 8) : (wl Γ w)[a]? = some (eb Γ + a, .inl (Γ.2.2.1 8, ln a, .inl (gI w a))) := by rw [wl_at ha, pic_ia hkd]
theorem za_at {Γ : En} {w : Wd} {a : Nat} (ha : a < wn w) (hkd : kd a = 9) : (wl Γ w)[a]? = some (eb Γ + a, .inl (Γ.2.2.1 9, ln a, .inl (gI w a))) := by rw [wl_at ha, pic_za hkd]
theorem ra_at {Γ : En} {w : Wd} {a c : Nat} (ha : a < wn w) (hkd : kd a = c) (hc : 9 < c) : (wl Γ w)[a]? = some (eb Γ + a, .inl (Γ.2.2.1 c, ln a, .inr (.inr (.inr (.inr (fun k => (gR w a k).map (fun j => eb Γ + j))))))) := by rw [wl_at ha, pic_ra hkd hc]
theorem set_ia {Γ : En} {w : Wd} {a j : Nat} {x : Int32} (hkd : kd a = 8) : (wl Γ w).set a (eb Γ + a, .inl (Γ.2.2.1 8, ln a, .inl (upd (gI w a) j x))) = wl Γ (sI w a j x) := by
  refine wl_set rfl ?_ (fun q hq => pic_eq (fun i => by simp [gI_sI, hq]) (fun i => rfl) (fun i => rfl))
  rw [pic_ia hkd]
  have : gI (sI w a j x) a = upd (gI w a) j x := by
    funext i
    simp [gI_sI, upd]
  rw [this]
theorem set_za {Γ : En} {w : Wd} {a j : Nat} {x : Int32} (hkd : kd a = 9) : (wl Γ w).set a (eb Γ + a, .inl (Γ.2.2.1 9, ln a, .inl (upd (gI w a) j x))) = wl Γ (sI w a j x) := by
  refine wl_set rfl ?_ (fun q hq => pic_eq (fun i => by simp [gI_sI, hq]) (fun i => rfl) (fun i => rfl))
  rw [pic_za hkd]
  have : gI (sI w a j x) a = upd (gI w a) j x := by
    funext i
    simp [gI_sI, upd]
  rw [this]
theorem set_ra {Γ : En} {w : Wd} {a c j v : Nat} (hkd : kd a = c) (hc : 9 < c) : (wl Γ w).set a (eb Γ + a, .inl (Γ.2.2.1 c, ln a, .inr (.inr (.inr (.inr (va_up (fun k => (gR w a k).map (fun j => eb Γ + j)) j (some (eb Γ + v)))))))) = wl Γ (sR w a j (some v)) := by
  refine wl_set rfl ?_ (fun q hq => pic_eq (fun i => rfl) (fun i => by simp [gR_sR, hq]) (fun i => rfl))
  rw [pic_ra hkd hc]
  have : (fun k => (gR (sR w a j (some v)) a k).map (fun j => eb Γ + j)) = va_up (fun k => (gR w a k).map (fun j => eb Γ + j)) j (some (eb Γ + v)) := by
    funext i
    by_cases hi : i = j <;> simp [gR_sR, va_up, hi]
  rw [this]
theorem set_cp {Γ : En} {w : Wd} {a : Nat} {f : Nat → Int32} (hkd : kd a = 8) : (wl Γ w).set a (eb Γ + a, .inl (Γ.2.2.1 8, ln a, .inl f)) = wl Γ (cI w a f) := by
  refine wl_set rfl ?_ (fun q hq => pic_eq (fun i => by simp [gI_cI, hq]) (fun i => rfl) (fun i => rfl))
  rw [pic_ia hkd]
  have : gI (cI w a f) a = f := by
    funext i
    simp [gI_cI]
  rw [this]
theorem g_iald (h : Ok X cc own d K N) {a : Nat} {i : Int32} (ha : InW X w a 8) (hi : vin i (ln a)) (hd : decode cc pc = .ok (.iaload, 1)) (kk : G X k n (pc + 1) lv (.int (gI w a i.toNatClampNeg) :: st) w) : G X k n pc lv (.int i :: rv X.1 (some a) :: st) w := by
  obtain ⟨Γ, p, e, R, s, m, args, below, meth, c0, nL, n0, Q, qv⟩ := X
  obtain ⟨hx, hb, hml, hown, hts, hK, hE, hsz, hlk, hRf⟩ := h
  intro H locs ls hR hS hl hn
  have haw : a < wn w := by
    have h1 : a < n0 ∨ a < wn w := ha.1
    omega
  exact va_iald hx hb hK hR.2 a 0 (ia_at haw ha.2) rfl hi hd (kk H locs ls hR hS hl hn)
theorem g_zald (h : Ok X cc own d K N) {a : Nat} {i : Int32} (ha : InW X w a 9) (hi : vin i (ln a)) (hd : decode cc pc = .ok (.baload, 1)) (kk : G X k n (pc + 1) lv (.int (gI w a i.toNatClampNeg) :: st) w) : G X k n pc lv (.int i :: rv X.1 (some a) :: st) w := by
  obtain ⟨Γ, p, e, R, s, m, args, below, meth, c0, nL, n0, Q, qv⟩ := X
  obtain ⟨hx, hb, hml, hown, hts, hK, hE, hsz, hlk, hRf⟩ := h
  intro H locs ls hR hS hl hn
  have haw : a < wn w := by
    have h1 : a < n0 ∨ a < wn w := ha.1
    omega
  exact va_zald hx hb hK hR.2 a 1 (za_at haw ha.2) rfl hi hd (kk H locs ls hR hS hl hn)
theorem g_iast (h : Ok X cc own d K N) {a : Nat} {i x : Int32} (ha : InW X w a 8) (hi : vin i (ln a)) (hd : decode cc pc = .ok (.iastore, 1)) (kk : G X k n (pc + 1) lv st (sI w a i.toNatClampNeg x)) : G X k n pc lv (.int x :: .int i :: rv X.1 (some a) :: st) w := by
  obtain ⟨Γ, p, e, R, s, m, args, below, meth, c0, nL, n0, Q, qv⟩ := X
  obtain ⟨hx, hb, hml, hown, hts, hK, hE, hsz, hlk, hRf⟩ := h
  intro H locs ls hR hS hl hn
  have haw : a < wn w := by
    have h1 : a < n0 ∨ a < wn w := ha.1
    omega
  exact va_iast hx hb hK hR.2 wl_D hS a 0 (ia_at haw ha.2) rfl hi hd (fun H1 locs1 hP1 hD1 hS1 => w_size (fun hz => by
    rw [set_ia ha.2] at hP1
    exact kk H1 locs1 ls (Rp_of hP1 (by show 0 < wn w; omega) (by show H1.size ≤ eb Γ + wn w; omega)) hS1 hl hn))
theorem g_zast (h : Ok X cc own d K N) {a : Nat} {i x : Int32} (ha : InW X w a 9) (hi : vin i (ln a)) (hv : vp_nar .boolean x = x) (hd : decode cc pc = .ok (.bastore, 1)) (kk : G X k n (pc + 1) lv st (sI w a i.toNatClampNeg x)) : G X k n pc lv (.int x :: .int i :: rv X.1 (some a) :: st) w := by
  obtain ⟨Γ, p, e, R, s, m, args, below, meth, c0, nL, n0, Q, qv⟩ := X
  obtain ⟨hx, hb, hml, hown, hts, hK, hE, hsz, hlk, hRf⟩ := h
  intro H locs ls hR hS hl hn
  have haw : a < wn w := by
    have h1 : a < n0 ∨ a < wn w := ha.1
    omega
  exact va_zast hx hb hK hR.2 wl_D hS a 1 (za_at haw ha.2) rfl hi hd (fun H1 locs1 hP1 hD1 hS1 => w_size (fun hz => by
    rw [hv, set_za ha.2] at hP1
    exact kk H1 locs1 ls (Rp_of hP1 (by show 0 < wn w; omega) (by show H1.size ≤ eb Γ + wn w; omega)) hS1 hl hn))
theorem g_aald (h : Ok X cc own d K N) {a c : Nat} {i : Int32} {E : String} (hc : 9 < c) (hty : (tysOf X.1)[c - 8]? = some (X.1.2.2.1 c, .object E)) (ha : InW X w a c) (hi : vin i (ln a)) (hd : decode cc pc = .ok (.aaload, 1)) (kk : G X k n (pc + 1) lv (rv X.1 (gR w a i.toNatClampNeg) :: st) w) : G X k n pc lv (.int i :: rv X.1 (some a) :: st) w := by
  obtain ⟨Γ, p, e, R, s, m, args, below, meth, c0, nL, n0, Q, qv⟩ := X
  obtain ⟨hx, hb, hml, hown, hts, hK, hE, hsz, hlk, hRf⟩ := h
  intro H locs ls hR hS hl hn
  have haw : a < wn w := by
    have h1 : a < n0 ∨ a < wn w := ha.1
    omega
  exact va_aldq hx hb hK hR.2 a (c - 8) (ra_at haw ha.2 hc) hty hi hd (kk H locs ls hR hS hl hn)
theorem g_alen (h : Ok X cc own d K N) {a : Nat} {v : Int32} (ha : InW X w a 8) (hv : Int32.ofNat (ln a) = v) (hd : decode cc pc = .ok (.arraylength, 1)) (kk : G X k n (pc + 1) lv (.int v :: st) w) : G X k n pc lv (rv X.1 (some a) :: st) w := by
  obtain ⟨Γ, p, e, R, s, m, args, below, meth, c0, nL, n0, Q, qv⟩ := X
  obtain ⟨hx, hb, hml, hown, hts, hK, hE, hsz, hlk, hRf⟩ := h
  intro H locs ls hR hS hl hn
  have haw : a < wn w := by
    have h1 : a < n0 ∨ a < wn w := ha.1
    omega
  exact va_alen hx hb hK hR.2 a 0 (ia_at haw ha.2) rfl hv hd (kk H locs ls hR hS hl hn)
theorem g_mmax (h : Ok X cc own d K N) {x y : Int32} {i : Nat} (hlink : Cond.methodLink own i Lib.Math.max.name ∈ lw_U) (hdd : 1 ≤ d) (hst : (st.map fun v => v.category).sum ≤ 8) (hkk : k ≤ K ∧ n ≤ N) (hd : decode cc pc = .ok (.invokestatic i, 3)) (kk : G X k n (pc + 3) lv (.int (if x < y then y else x) :: st) w) : G X k n pc lv (.int y :: .int x :: st) w := by
  obtain ⟨Γ, p, e, R, s, m, args, below, meth, c0, nL, n0, Q, qv⟩ := X
  obtain ⟨hx, hb, hml, hown, hts, hK, hE, hsz, hlk, hRf⟩ := h
  intro H locs ls hR hS hl hn
  exact va_mmax hx hb (by rw [hml]; exact hl.1.symm) hown (hts _ hlink) (hts _ wst_J9_max_7cf53) (hts _ win_J9) (hts _ wco_J9_max_7cf53) (by omega) (by omega) (by omega) (by omega) hd (kk H locs ls hR hS hl hn)
theorem g_mmin (h : Ok X cc own d K N) {x y : Int32} {i : Nat} (hlink : Cond.methodLink own i Lib.Math.min.name ∈ lw_U) (hdd : 1 ≤ d) (hst : (st.map fun v => v.category).sum ≤ 8) (hkk : k ≤ K ∧ n ≤ N) (hd : decode cc pc = .ok (.invokestatic i, 3)) (kk : G X k n (pc + 3) lv (.int (if y < x then y else x) :: st) w) : G X k n pc lv (.int y :: .int x :: st) w := by
  obtain ⟨Γ, p, e, R, s, m, args, below, meth, c0, nL, n0, Q, qv⟩ := X
  obtain ⟨hx, hb, hml, hown, hts, hK, hE, hsz, hlk, hRf⟩ := h
  intro H locs ls hR hS hl hn
  exact va_mmin hx hb (by rw [hml]; exact hl.1.symm) hown (hts _ hlink) (hts _ wst_J9_min_7cf53) (hts _ win_J9) (hts _ wco_J9_min_7cf53) (by omega) (by omega) (by omega) (by omega) hd (kk H locs ls hR hS hl hn)
theorem g_copy (h : Ok X cc own d K N) {a b i : Nat} {sp dp q : Int32} (hlink : Cond.methodLink own i arraycopyName ∈ lw_U) (ha : InW X w a 8) (hbb : InW X w b 8) (hq : ¬ sp < 0 ∧ ¬ dp < 0 ∧ ¬ q < 0 ∧ sp.toNatClampNeg + q.toNatClampNeg ≤ ln a ∧ dp.toNatClampNeg + q.toNatClampNeg ≤ ln b) (hdd : 2 ≤ d) (hst : (st.map fun v => v.category).sum ≤ 8) (hnat : Cond.native arraycopyName ∈ lw_U) (hsta : Cond.static arraycopyName ∈ lw_U) (hini : Cond.initialized "java/lang/System" ∈ lw_U) (hd : decode cc pc = .ok (.invokestatic i, 3)) (kk : G X k n (pc + 3) lv st (cI w b (va_cpy (gI w a) (gI w b) sp.toNatClampNeg dp.toNatClampNeg q.toNatClampNeg))) : G X k n pc lv (.int q :: .int dp :: rv X.1 (some b) :: .int sp :: rv X.1 (some a) :: st) w := by
  obtain ⟨Γ, p, e, R, s, m, args, below, meth, c0, nL, n0, Q, qv⟩ := X
  obtain ⟨hx, hb, hml, hown, hts, hK, hE, hsz, hlk, hRf⟩ := h
  intro H locs ls hR hS hl hn
  have haw : a < wn w := by
    have h1 : a < n0 ∨ a < wn w := ha.1
    omega
  have hbw : b < wn w := by
    have h1 : b < n0 ∨ b < wn w := hbb.1
    omega
  exact va_copyi hx hb (by rw [hml]; exact hl.1.symm) hown (hts _ hlink) (hts _ hnat) (hts _ hsta) (hts _ hini) hK hR.2 wl_D hS a b 0 0 (ia_at haw ha.2) (ia_at hbw hbb.2) rfl rfl rfl hq.1 hq.2.1 hq.2.2.1 hq.2.2.2.1 hq.2.2.2.2 (fun _ _ => rfl) (by omega) (Nat.le_trans (Nat.add_le_add_right hst _) (Nat.le_trans (m := 64 * 2) (by decide +kernel) (by omega))) hd (fun H1 locs1 hP1 hD1 hS1 => w_size (fun hz => by
    rw [set_cp hbb.2] at hP1
    exact kk H1 locs1 ls (Rp_of hP1 (by show 0 < wn w; omega) (by show H1.size ≤ eb Γ + wn w; omega)) hS1 hl hn))
theorem g_iret (h : Ok X cc own d K N) (hr : RetI X .int K N) (hkk : k ≤ K ∧ n ≤ N) {v : Int32} (hF : OkR X Value.int (some (v, w))) (hd : decode cc pc = .ok (.ireturn, 1)) : G X k n pc lv [.int v] w := by
  obtain ⟨Γ, p, e, R, s, m, args, below, meth, c0, nL, n0, Q, qv⟩ := X
  obtain ⟨hx, hb, hml, hown, hts, hK, hE, hsz, hlk, hRf⟩ := h
  obtain ⟨hr1, rfl⟩ := hr
  obtain ⟨r, w', he, hq⟩ := hF
  cases he
  intro H locs ls hR hS hl hn
  refine W.widen hkk.1 hkk.2 ?_
  exact W.iret hx hb hr1 (fun t ht hW => ⟨⟨v, w, rfl, hq, by show Rp Γ w t.heap; rw [ht]; exact hR⟩, hS.F ht⟩) hS.2.2 hd hlk
theorem g_zret (h : Ok X cc own d K N) {ty : FieldType} (hr : RetI X ty K N) (hkk : k ≤ K ∧ n ≤ N) {v : Int32} (hv : narrow ty (.int v) = .int v) (hF : OkR X Value.int (some (v, w))) (hd : decode cc pc = .ok (.ireturn, 1)) : G X k n pc lv [.int v] w := by
  obtain ⟨Γ, p, e, R, s, m, args, below, meth, c0, nL, n0, Q, qv⟩ := X
  obtain ⟨hx, hb, hml, hown, hts, hK, hE, hsz, hlk, hRf⟩ := h
  obtain ⟨hr1, rfl⟩ := hr
  obtain ⟨r, w', he, hq⟩ := hF
  cases he
  intro H locs ls hR hS hl hn
  refine W.widen hkk.1 hkk.2 ?_
  exact W.zret hx hb hr1 hv (fun t ht hW => ⟨⟨v, w, rfl, hq, by show Rp Γ w t.heap; rw [ht]; exact hR⟩, hS.F ht⟩) hS.2.2 hd hlk
theorem g_lret (h : Ok X cc own d K N) (hr : RetL X K N) (hkk : k ≤ K ∧ n ≤ N) {v : Int64} (hF : OkR X Value.long (some (v, w))) (hd : decode cc pc = .ok (.lreturn, 1)) : G X k n pc lv [.long v] w := by
  obtain ⟨Γ, p, e, R, s, m, args, below, meth, c0, nL, n0, Q, qv⟩ := X
  obtain ⟨hx, hb, hml, hown, hts, hK, hE, hsz, hlk, hRf⟩ := h
  obtain ⟨hr1, rfl⟩ := hr
  obtain ⟨r, w', he, hq⟩ := hF
  cases he
  intro H locs ls hR hS hl hn
  refine W.widen hkk.1 hkk.2 ?_
  exact W.lret hx hb hr1 (fun t ht hW => ⟨⟨v, w, rfl, hq, by show Rp Γ w t.heap; rw [ht]; exact hR⟩, hS.F ht⟩) hS.2.2 hd hlk
theorem g_vret (h : Ok X cc own d K N) (hr : RetV X K N) (hkk : k ≤ K ∧ n ≤ N) (hF : OkR X (fun _ : Unit => Value.null) (some ((), w))) (hd : decode cc pc = .ok (.return_, 1)) : G X k n pc lv [] w := by
  obtain ⟨Γ, p, e, R, s, m, args, below, meth, c0, nL, n0, Q, qv⟩ := X
  obtain ⟨hx, hb, hml, hown, hts, hK, hE, hsz, hlk, hRf⟩ := h
  obtain ⟨hr1, rfl⟩ := hr
  obtain ⟨r, w', he, hq⟩ := hF
  cases he
  intro H locs ls hR hS hl hn
  refine W.widen hkk.1 hkk.2 ?_
  exact W.vret hx hb hr1 (fun t ht hW => ⟨⟨w, rfl, hq, by show Rp Γ w t.heap; rw [ht]; exact hR⟩, hS.F ht⟩) hS.2.2 hd hlk
theorem g_aret (h : Ok X cc own d K N) {ty : FieldType} (hr : RetQ X ty K N) (hkk : k ≤ K ∧ n ≤ N) {v : Option Nat} (hF : OkR X (rv X.1) (some (v, w))) (hd : decode cc pc = .ok (.areturn, 1)) : G X k n pc lv [rv X.1 v] w := by
  obtain ⟨Γ, p, e, R, s, m, args, below, meth, c0, nL, n0, Q, qv⟩ := X
  obtain ⟨hx, hb, hml, hown, hts, hK, hE, hsz, hlk, hRf⟩ := h
  obtain ⟨hr1, hr2, rfl⟩ := hr
  obtain ⟨r, w', he, hq⟩ := hF
  cases he
  intro H locs ls hR hS hl hn
  refine W.widen hkk.1 hkk.2 ?_
  exact W.aret hx hb hr1 (Or.inl hr2) (by cases v with | none => exact Or.inl rfl | some a => exact Or.inr ⟨_, rfl⟩) (fun t ht hW => ⟨⟨v.map (fun i => eb Γ + i), w, rfl, hq, by show Rp Γ w t.heap; rw [ht]; exact hR⟩, hS.F ht⟩) hS.2.2 hd hlk
end
section
variable {X : Cx} {cc : ByteArray} {own : String} {d K N k n pc : Nat} {lv : List (Nat × LV)} {st : List Value} {w : Wd} {β : Type} {enc : β → Value}
def YOk (y : MethodName) (bytes : ByteArray) (mL : Nat) (ret : Option FieldType) (na : Nat) : Prop := (y.cls ≠ "java/lang/invoke/MethodHandle" ∧ y.cls ≠ "java/lang/invoke/VarHandle" ∧ (parseMethodDescriptor y.desc).map (fun d => d.parameters.length) = some na) ∧ mL ≤ 45 ∧ Cond.code y bytes mL ret ∈ lw_U ∧ Cond.initialized y.cls ∈ lw_U
/-- what the tables say of a call on an object of kind c -/
def CvOk (own : String) (idx c : Nat) (y : MethodName) (bytes : ByteArray) (mL : Nat) (ret : Option FieldType) (na : Nat) : Prop := YOk y bytes mL ret na ∧ c < 8 ∧ (∃ T NN, vwCl[c]? = some (y.cls, T, NN)) ∧ Cond.methodLink own idx y ∈ lw_U ∧ Cond.instanceMethod y ∈ lw_U ∧ Cond.selects y.cls y y ∈ lw_U
def CsOk (own : String) (idx : Nat) (y : MethodName) (bytes : ByteArray) (mL : Nat) (ret : Option FieldType) (na : Nat) : Prop := YOk y bytes mL ret na ∧ Cond.methodLink own idx y ∈ lw_U ∧ Cond.static y ∈ lw_U
def CnOk (own : String) (idx : Nat) (y : MethodName) (bytes : ByteArray) (mL : Nat) (ret : Option FieldType) (na : Nat) : Prop := YOk y bytes mL ret na ∧ Cond.methodLinkNest own idx y RX6 ∈ nestL ∧ Cond.static y ∈ lw_U
theorem good_code {y : MethodName} {bytes : ByteArray} {mL : Nat} {ret : Option FieldType} (h : Cond.code y bytes mL ret ∈ lw_U) : GoodIn lw_U (.code y bytes mL ret :: lw_U) := fun w hw => by
  rcases List.mem_cons.mp hw with rfl | hw
  · exact lw_goodIn _ h
  · exact lw_goodIn _ hw
theorem good_V {own : String} {idx c : Nat} {y : MethodName} {bytes : ByteArray} {mL na : Nat} {ret : Option FieldType} (h : CvOk own idx c y bytes mL ret na) : GoodIn lw_U (wsV own idx y.cls y (.code y bytes mL ret :: lw_U)) := fun w hw => by
  rcases List.mem_append.mp hw with hw | hw
  · simp only [List.mem_cons, List.not_mem_nil, or_false] at hw
    rcases hw with rfl | rfl | rfl | rfl
    · exact lw_goodIn _ h.2.2.2.1
    · exact lw_goodIn _ h.2.2.2.2.1
    · exact lw_goodIn _ h.2.2.2.2.2
    · exact lw_goodIn _ h.1.2.2.2
  · exact good_code h.1.2.2.1 w hw
theorem good_S {own : String} {idx : Nat} {y : MethodName} {bytes : ByteArray} {mL na : Nat} {ret : Option FieldType} (h : CsOk own idx y bytes mL ret na) : GoodIn lw_U (va_wsS own idx y (.code y bytes mL ret :: lw_U)) := fun w hw => by
  rcases List.mem_append.mp hw with hw | hw
  · simp only [List.mem_cons, List.not_mem_nil, or_false] at hw
    rcases hw with rfl | rfl | rfl
    · exact lw_goodIn _ h.2.1
    · exact lw_goodIn _ h.2.2
    · exact lw_goodIn _ h.1.2.2.2
  · exact good_code h.1.2.2.1 w hw
/-- the callee's start, out of the caller's world -/
theorem pre_ok {Γ : En} {w : Wd} {s U : State} {H : Heap} {locs : List Loc} (hR : Rp Γ w H) (hK : va_K Γ.2.1 vwCl (tysOf Γ) s) (hE : SE Γ s s.heap) (hS : va_S (Ab Γ) s.heap H locs) (hU : U.heap = H) (hW : s.WarmedH U.vm) : Bd Γ w U :=
  ⟨by rw [hU]; exact hR, va_K.moved hW.alike hK, SE_warm hW (by rw [hU]; exact SE_heap hE hS.2.1)⟩
theorem g_cvI (h : Ok X cc own d K N) {dc na mL idx : Nat} {y : MethodName} {bytes : ByteArray} {ret : Option FieldType} {As stk : List Value} {o : Option (Int32 × Wd)} {f : Int32 → Wd → Option (β × Wd)} {a c : Nat} (hM : MtI X.1 y bytes mL ret dc 0 0 (rv X.1 (some a) :: As) w o) (hw : CvOk own idx c y bytes mL ret na) (ha : InW X w a c) (hdd : dc + 1 ≤ d) (hkk : k ≤ K ∧ n ≤ N) (hst : (st.map fun v => v.category).sum ≤ 8) (hna : As.length = na) (hstk : stk = As.reverse ++ rv X.1 (some a) :: st) (hd : decode cc pc = .ok (.invokevirtual idx, 3)) (hF : OkR X enc (bnd o f)) (kk : ∀ (r : Int32) (w' : Wd), OkR X enc (f r w') → G X k n (pc + 3) lv (.int r :: st) w') : G X k n pc lv stk w := by
  obtain ⟨r, w', ho, hF2⟩ := bnd_ok hF
  have hM := hM r w' ho
  have kk := kk r w' hF2
  obtain ⟨Γ, p, e, R, s, m, args, below, meth, c0, nL, n0, Q, qv⟩ := X
  obtain ⟨hx, hb, hml, hown, hts, hK, hE, hsz, hlk, hRf⟩ := h
  obtain ⟨T, NN, hcl⟩ := hw.2.2.1
  intro H locs ls hR hS hl hn
  have haw : a < wn w := by
    have h1 : a < n0 ∨ a < wn w := ha.1
    omega
  refine va_calli (va_runV (As := As) (rest := st) (b := eb Γ + a) ⟨hx, hb, hml, hown, hts⟩ hM (cwV na hts (good_V hw) rfl rfl rfl ⟨rfl, hw.1.1⟩ ⟨by show dc + 1 ≤ R.frames; omega, by show 8 + (mL + 11) + 64 * dc ≤ R.locals; have := hw.1.2.1; omega⟩) ⟨Bd_blind, va_recv hK hR.2 hcl (ob_at haw ha.2 hw.2.1), fun U hU hW => ⟨rfl, pre_ok hR hK hE hS hU hW⟩⟩ rfl hna hl.1 hstk (lv_room hst) hd ⟨by omega, by omega⟩) hS (fun q _ hq => hq) (fun q hq => hq) (fun r2 u t H1 locs1 ht hvm hw hB hz1 hk1 hS1 => ?_)
  obtain ⟨rfl, rfl⟩ := hw
  rw [ht] at hB
  exact w_size fun hz => kk H1 locs1 ls hB hS1 hl (by have h1 : H.size = eb Γ + wn w := hR.1; have h2 : H1.size = eb Γ + wn u := hB.1; have h3 : H1.size ≤ s.heap.size + k := hz; show n0 + k = wn u; omega)
theorem g_csI (h : Ok X cc own d K N) {dc na mL idx : Nat} {y : MethodName} {bytes : ByteArray} {ret : Option FieldType} {As stk : List Value} {o : Option (Int32 × Wd)} {f : Int32 → Wd → Option (β × Wd)} (hM : MtI X.1 y bytes mL ret dc 0 0 As w o) (hw : CsOk own idx y bytes mL ret na) (hdd : dc + 1 ≤ d) (hkk : k ≤ K ∧ n ≤ N) (hst : (st.map fun v => v.category).sum ≤ 8) (hna : As.length = na) (hstk : stk = As.reverse ++ st) (hd : decode cc pc = .ok (.invokestatic idx, 3)) (hF : OkR X enc (bnd o f)) (kk : ∀ (r : Int32) (w' : Wd), OkR X enc (f r w') → G X k n (pc + 3) lv (.int r :: st) w') : G X k n pc lv stk w := by
  obtain ⟨r, w', ho, hF2⟩ := bnd_ok hF
  have hM := hM r w' ho
  have kk := kk r w' hF2
  obtain ⟨Γ, p, e, R, s, m, args, below, meth, c0, nL, n0, Q, qv⟩ := X
  obtain ⟨hx, hb, hml, hown, hts, hK, hE, hsz, hlk, hRf⟩ := h
  intro H locs ls hR hS hl hn
  refine va_calli (va_runS (As := As) (rest := st) ⟨hx, hb, hml, hown, hts⟩ hM (va_cwS na hts (good_S hw) rfl rfl rfl hw.1.1 ⟨by show dc + 1 ≤ R.frames; omega, by show 8 + (mL + 11) + 64 * dc ≤ R.locals; have := hw.1.2.1; omega⟩) ⟨Bd_blind, fun U hU hW => ⟨rfl, pre_ok hR hK hE hS hU hW⟩⟩ rfl hna hl.1 hstk (lv_room hst) hd ⟨by omega, by omega⟩) hS (fun q _ hq => hq) (fun q hq => hq) (fun r2 u t H1 locs1 ht hvm hw hB hz1 hk1 hS1 => ?_)
  obtain ⟨rfl, rfl⟩ := hw
  rw [ht] at hB
  exact w_size fun hz => kk H1 locs1 ls hB hS1 hl (by have h1 : H.size = eb Γ + wn w := hR.1; have h2 : H1.size = eb Γ + wn u := hB.1; have h3 : H1.size ≤ s.heap.size + k := hz; show n0 + k = wn u; omega)
theorem g_cnI (h : Ok X cc own d K N) {dc na mL idx : Nat} {y : MethodName} {bytes : ByteArray} {ret : Option FieldType} {As stk : List Value} {o : Option (Int32 × Wd)} {f : Int32 → Wd → Option (β × Wd)} (hM : MtI X.1 y bytes mL ret dc 0 0 As w o) (hw : CnOk own idx y bytes mL ret na) (hdd : dc + 1 ≤ d) (hkk : k ≤ K ∧ n ≤ N) (hst : (st.map fun v => v.category).sum ≤ 8) (hna : As.length = na) (hstk : stk = As.reverse ++ st) (hd : decode cc pc = .ok (.invokestatic idx, 3)) (hF : OkR X enc (bnd o f)) (kk : ∀ (r : Int32) (w' : Wd), OkR X enc (f r w') → G X k n (pc + 3) lv (.int r :: st) w') : G X k n pc lv stk w := by
  obtain ⟨r, w', ho, hF2⟩ := bnd_ok hF
  have hM := hM r w' ho
  have kk := kk r w' hF2
  obtain ⟨Γ, p, e, R, s, m, args, below, meth, c0, nL, n0, Q, qv⟩ := X
  obtain ⟨hx, hb, hml, hown, hts, hK, hE, hsz, hlk, hRf⟩ := h
  intro H locs ls hR hS hl hn
  refine va_calli (va_runSN (As := As) (rest := st) ⟨hx, hb, hml, hown, hts⟩ hM ⟨va_cnB na hts (good_code hw.1.2.2.1) rfl rfl rfl (hE.1 _ hw.2.1) (hts _ hw.1.2.2.2) hw.1.1 ⟨by show dc + 1 ≤ R.frames; omega, by show 8 + (mL + 11) + 64 * dc ≤ R.locals; have := hw.1.2.1; omega⟩, hts _ hw.2.2, trivial⟩ ⟨Bd_blind, fun U hU hW => ⟨rfl, pre_ok hR hK hE hS hU hW⟩⟩ rfl hna hl.1 hstk (lv_room hst) hd ⟨by omega, by omega⟩) hS (fun q _ hq => hq) (fun q hq => hq) (fun r2 u t H1 locs1 ht hvm hw hB hz1 hk1 hS1 => ?_)
  obtain ⟨rfl, rfl⟩ := hw
  rw [ht] at hB
  exact w_size fun hz => kk H1 locs1 ls hB hS1 hl (by have h1 : H.size = eb Γ + wn w := hR.1; have h2 : H1.size = eb Γ + wn u := hB.1; have h3 : H1.size ≤ s.heap.size + k := hz; show n0 + k = wn u; omega)
theorem g_cvL (h : Ok X cc own d K N) {dc na mL idx : Nat} {y : MethodName} {bytes : ByteArray} {ret : Option FieldType} {As stk : List Value} {o : Option (Int64 × Wd)} {f : Int64 → Wd → Option (β × Wd)} {a c : Nat} (hM : MtL X.1 y bytes mL ret dc 0 0 (rv X.1 (some a) :: As) w o) (hw : CvOk own idx c y bytes mL ret na) (ha : InW X w a c) (hdd : dc + 1 ≤ d) (hkk : k ≤ K ∧ n ≤ N) (hst : (st.map fun v => v.category).sum ≤ 8) (hna : As.length = na) (hstk : stk = As.reverse ++ rv X.1 (some a) :: st) (hd : decode cc pc = .ok (.invokevirtual idx, 3)) (hF : OkR X enc (bnd o f)) (kk : ∀ (r : Int64) (w' : Wd), OkR X enc (f r w') → G X k n (pc + 3) lv (.long r :: st) w') : G X k n pc lv stk w := by
  obtain ⟨r, w', ho, hF2⟩ := bnd_ok hF
  have hM := hM r w' ho
  have kk := kk r w' hF2
  obtain ⟨Γ, p, e, R, s, m, args, below, meth, c0, nL, n0, Q, qv⟩ := X
  obtain ⟨hx, hb, hml, hown, hts, hK, hE, hsz, hlk, hRf⟩ := h
  obtain ⟨T, NN, hcl⟩ := hw.2.2.1
  intro H locs ls hR hS hl hn
  have haw : a < wn w := by
    have h1 : a < n0 ∨ a < wn w := ha.1
    omega
  refine va_calll (va_runV (As := As) (rest := st) (b := eb Γ + a) ⟨hx, hb, hml, hown, hts⟩ hM (cwV na hts (good_V hw) rfl rfl rfl ⟨rfl, hw.1.1⟩ ⟨by show dc + 1 ≤ R.frames; omega, by show 8 + (mL + 11) + 64 * dc ≤ R.locals; have := hw.1.2.1; omega⟩) ⟨Bd_blind, va_recv hK hR.2 hcl (ob_at haw ha.2 hw.2.1), fun U hU hW => ⟨rfl, pre_ok hR hK hE hS hU hW⟩⟩ rfl hna hl.1 hstk (lv_room hst) hd ⟨by omega, by omega⟩) hS (fun q _ hq => hq) (fun q hq => hq) (fun r2 u t H1 locs1 ht hvm hw hB hz1 hk1 hS1 => ?_)
  obtain ⟨rfl, rfl⟩ := hw
  rw [ht] at hB
  exact w_size fun hz => kk H1 locs1 ls hB hS1 hl (by have h1 : H.size = eb Γ + wn w := hR.1; have h2 : H1.size = eb Γ + wn u := hB.1; have h3 : H1.size ≤ s.heap.size + k := hz; show n0 + k = wn u; omega)
theorem g_csL (h : Ok X cc own d K N) {dc na mL idx : Nat} {y : MethodName} {bytes : ByteArray} {ret : Option FieldType} {As stk : List Value} {o : Option (Int64 × Wd)} {f : Int64 → Wd → Option (β × Wd)} (hM : MtL X.1 y bytes mL ret dc 0 0 As w o) (hw : CsOk own idx y bytes mL ret na) (hdd : dc + 1 ≤ d) (hkk : k ≤ K ∧ n ≤ N) (hst : (st.map fun v => v.category).sum ≤ 8) (hna : As.length = na) (hstk : stk = As.reverse ++ st) (hd : decode cc pc = .ok (.invokestatic idx, 3)) (hF : OkR X enc (bnd o f)) (kk : ∀ (r : Int64) (w' : Wd), OkR X enc (f r w') → G X k n (pc + 3) lv (.long r :: st) w') : G X k n pc lv stk w := by
  obtain ⟨r, w', ho, hF2⟩ := bnd_ok hF
  have hM := hM r w' ho
  have kk := kk r w' hF2
  obtain ⟨Γ, p, e, R, s, m, args, below, meth, c0, nL, n0, Q, qv⟩ := X
  obtain ⟨hx, hb, hml, hown, hts, hK, hE, hsz, hlk, hRf⟩ := h
  intro H locs ls hR hS hl hn
  refine va_calll (va_runS (As := As) (rest := st) ⟨hx, hb, hml, hown, hts⟩ hM (va_cwS na hts (good_S hw) rfl rfl rfl hw.1.1 ⟨by show dc + 1 ≤ R.frames; omega, by show 8 + (mL + 11) + 64 * dc ≤ R.locals; have := hw.1.2.1; omega⟩) ⟨Bd_blind, fun U hU hW => ⟨rfl, pre_ok hR hK hE hS hU hW⟩⟩ rfl hna hl.1 hstk (lv_room hst) hd ⟨by omega, by omega⟩) hS (fun q _ hq => hq) (fun q hq => hq) (fun r2 u t H1 locs1 ht hvm hw hB hz1 hk1 hS1 => ?_)
  obtain ⟨rfl, rfl⟩ := hw
  rw [ht] at hB
  exact w_size fun hz => kk H1 locs1 ls hB hS1 hl (by have h1 : H.size = eb Γ + wn w := hR.1; have h2 : H1.size = eb Γ + wn u := hB.1; have h3 : H1.size ≤ s.heap.size + k := hz; show n0 + k = wn u; omega)
theorem g_cvQ (h : Ok X cc own d K N) {dc na mL idx : Nat} {y : MethodName} {bytes : ByteArray} {ret : Option FieldType} {As stk : List Value} {o : Option (Option Nat × Wd)} {f : Option Nat → Wd → Option (β × Wd)} {a c : Nat} (hM : MtQ X.1 y bytes mL ret dc 0 0 (rv X.1 (some a) :: As) w o) (hw : CvOk own idx c y bytes mL ret na) (ha : InW X w a c) (hdd : dc + 1 ≤ d) (hkk : k ≤ K ∧ n ≤ N) (hst : (st.map fun v => v.category).sum ≤ 8) (hna : As.length = na) (hstk : stk = As.reverse ++ rv X.1 (some a) :: st) (hd : decode cc pc = .ok (.invokevirtual idx, 3)) (hF : OkR X enc (bnd o f)) (kk : ∀ (r : Option Nat) (w' : Wd), OkR X enc (f r w') → G X k n (pc + 3) lv (rv X.1 r :: st) w') : G X k n pc lv stk w := by
  obtain ⟨r, w', ho, hF2⟩ := bnd_ok hF
  have hM := hM r w' ho
  have kk := kk r w' hF2
  obtain ⟨Γ, p, e, R, s, m, args, below, meth, c0, nL, n0, Q, qv⟩ := X
  obtain ⟨hx, hb, hml, hown, hts, hK, hE, hsz, hlk, hRf⟩ := h
  obtain ⟨T, NN, hcl⟩ := hw.2.2.1
  intro H locs ls hR hS hl hn
  have haw : a < wn w := by
    have h1 : a < n0 ∨ a < wn w := ha.1
    omega
  refine va_callq (va_runV (As := As) (rest := st) (b := eb Γ + a) ⟨hx, hb, hml, hown, hts⟩ hM (cwV na hts (good_V hw) rfl rfl rfl ⟨rfl, hw.1.1⟩ ⟨by show dc + 1 ≤ R.frames; omega, by show 8 + (mL + 11) + 64 * dc ≤ R.locals; have := hw.1.2.1; omega⟩) ⟨Bd_blind, va_recv hK hR.2 hcl (ob_at haw ha.2 hw.2.1), fun U hU hW => ⟨rfl, pre_ok hR hK hE hS hU hW⟩⟩ rfl hna hl.1 hstk (lv_room hst) hd ⟨by omega, by omega⟩) hS (fun q _ hq => hq) (fun q hq => hq) (fun r2 u t H1 locs1 ht hvm hw hB hz1 hk1 hS1 => ?_)
  obtain ⟨rfl, rfl⟩ := hw
  rw [ht] at hB
  exact w_size fun hz => kk H1 locs1 ls hB hS1 hl (by have h1 : H.size = eb Γ + wn w := hR.1; have h2 : H1.size = eb Γ + wn u := hB.1; have h3 : H1.size ≤ s.heap.size + k := hz; show n0 + k = wn u; omega)
theorem g_csQ (h : Ok X cc own d K N) {dc na mL idx : Nat} {y : MethodName} {bytes : ByteArray} {ret : Option FieldType} {As stk : List Value} {o : Option (Option Nat × Wd)} {f : Option Nat → Wd → Option (β × Wd)} (hM : MtQ X.1 y bytes mL ret dc 0 0 As w o) (hw : CsOk own idx y bytes mL ret na) (hdd : dc + 1 ≤ d) (hkk : k ≤ K ∧ n ≤ N) (hst : (st.map fun v => v.category).sum ≤ 8) (hna : As.length = na) (hstk : stk = As.reverse ++ st) (hd : decode cc pc = .ok (.invokestatic idx, 3)) (hF : OkR X enc (bnd o f)) (kk : ∀ (r : Option Nat) (w' : Wd), OkR X enc (f r w') → G X k n (pc + 3) lv (rv X.1 r :: st) w') : G X k n pc lv stk w := by
  obtain ⟨r, w', ho, hF2⟩ := bnd_ok hF
  have hM := hM r w' ho
  have kk := kk r w' hF2
  obtain ⟨Γ, p, e, R, s, m, args, below, meth, c0, nL, n0, Q, qv⟩ := X
  obtain ⟨hx, hb, hml, hown, hts, hK, hE, hsz, hlk, hRf⟩ := h
  intro H locs ls hR hS hl hn
  refine va_callq (va_runS (As := As) (rest := st) ⟨hx, hb, hml, hown, hts⟩ hM (va_cwS na hts (good_S hw) rfl rfl rfl hw.1.1 ⟨by show dc + 1 ≤ R.frames; omega, by show 8 + (mL + 11) + 64 * dc ≤ R.locals; have := hw.1.2.1; omega⟩) ⟨Bd_blind, fun U hU hW => ⟨rfl, pre_ok hR hK hE hS hU hW⟩⟩ rfl hna hl.1 hstk (lv_room hst) hd ⟨by omega, by omega⟩) hS (fun q _ hq => hq) (fun q hq => hq) (fun r2 u t H1 locs1 ht hvm hw hB hz1 hk1 hS1 => ?_)
  obtain ⟨rfl, rfl⟩ := hw
  rw [ht] at hB
  exact w_size fun hz => kk H1 locs1 ls hB hS1 hl (by have h1 : H.size = eb Γ + wn w := hR.1; have h2 : H1.size = eb Γ + wn u := hB.1; have h3 : H1.size ≤ s.heap.size + k := hz; show n0 + k = wn u; omega)
theorem g_cvV (h : Ok X cc own d K N) {dc na mL idx : Nat} {y : MethodName} {bytes : ByteArray} {ret : Option FieldType} {As stk : List Value} {o : Option (Unit × Wd)} {f : Unit → Wd → Option (β × Wd)} {a c : Nat} (hM : MtV X.1 y bytes mL ret dc 0 0 (rv X.1 (some a) :: As) w o) (hw : CvOk own idx c y bytes mL ret na) (ha : InW X w a c) (hdd : dc + 1 ≤ d) (hkk : k ≤ K ∧ n ≤ N) (hst : (st.map fun v => v.category).sum ≤ 8) (hna : As.length = na) (hstk : stk = As.reverse ++ rv X.1 (some a) :: st) (hd : decode cc pc = .ok (.invokevirtual idx, 3)) (hF : OkR X enc (bnd o f)) (kk : ∀ (r : Unit) (w' : Wd), OkR X enc (f r w') → G X k n (pc + 3) lv st w') : G X k n pc lv stk w := by
  obtain ⟨r, w', ho, hF2⟩ := bnd_ok hF
  have hM := hM r w' ho
  have kk := kk r w' hF2
  obtain ⟨Γ, p, e, R, s, m, args, below, meth, c0, nL, n0, Q, qv⟩ := X
  obtain ⟨hx, hb, hml, hown, hts, hK, hE, hsz, hlk, hRf⟩ := h
  obtain ⟨T, NN, hcl⟩ := hw.2.2.1
  intro H locs ls hR hS hl hn
  have haw : a < wn w := by
    have h1 : a < n0 ∨ a < wn w := ha.1
    omega
  refine va_callv (va_runV (As := As) (rest := st) (b := eb Γ + a) ⟨hx, hb, hml, hown, hts⟩ hM (cwV na hts (good_V hw) rfl rfl rfl ⟨rfl, hw.1.1⟩ ⟨by show dc + 1 ≤ R.frames; omega, by show 8 + (mL + 11) + 64 * dc ≤ R.locals; have := hw.1.2.1; omega⟩) ⟨Bd_blind, va_recv hK hR.2 hcl (ob_at haw ha.2 hw.2.1), fun U hU hW => ⟨rfl, pre_ok hR hK hE hS hU hW⟩⟩ rfl hna hl.1 hstk (lv_room hst) hd ⟨by omega, by omega⟩) hS (fun q _ hq => hq) (fun q hq => hq) (fun u t H1 locs1 ht hvm hw hB hz1 hk1 hS1 => ?_)
  subst hw
  rw [ht] at hB
  exact w_size fun hz => kk H1 locs1 ls hB hS1 hl (by have h1 : H.size = eb Γ + wn w := hR.1; have h2 : H1.size = eb Γ + wn u := hB.1; have h3 : H1.size ≤ s.heap.size + k := hz; show n0 + k = wn u; omega)
theorem g_csV (h : Ok X cc own d K N) {dc na mL idx : Nat} {y : MethodName} {bytes : ByteArray} {ret : Option FieldType} {As stk : List Value} {o : Option (Unit × Wd)} {f : Unit → Wd → Option (β × Wd)} (hM : MtV X.1 y bytes mL ret dc 0 0 As w o) (hw : CsOk own idx y bytes mL ret na) (hdd : dc + 1 ≤ d) (hkk : k ≤ K ∧ n ≤ N) (hst : (st.map fun v => v.category).sum ≤ 8) (hna : As.length = na) (hstk : stk = As.reverse ++ st) (hd : decode cc pc = .ok (.invokestatic idx, 3)) (hF : OkR X enc (bnd o f)) (kk : ∀ (r : Unit) (w' : Wd), OkR X enc (f r w') → G X k n (pc + 3) lv st w') : G X k n pc lv stk w := by
  obtain ⟨r, w', ho, hF2⟩ := bnd_ok hF
  have hM := hM r w' ho
  have kk := kk r w' hF2
  obtain ⟨Γ, p, e, R, s, m, args, below, meth, c0, nL, n0, Q, qv⟩ := X
  obtain ⟨hx, hb, hml, hown, hts, hK, hE, hsz, hlk, hRf⟩ := h
  intro H locs ls hR hS hl hn
  refine va_callv (va_runS (As := As) (rest := st) ⟨hx, hb, hml, hown, hts⟩ hM (va_cwS na hts (good_S hw) rfl rfl rfl hw.1.1 ⟨by show dc + 1 ≤ R.frames; omega, by show 8 + (mL + 11) + 64 * dc ≤ R.locals; have := hw.1.2.1; omega⟩) ⟨Bd_blind, fun U hU hW => ⟨rfl, pre_ok hR hK hE hS hU hW⟩⟩ rfl hna hl.1 hstk (lv_room hst) hd ⟨by omega, by omega⟩) hS (fun q _ hq => hq) (fun q hq => hq) (fun u t H1 locs1 ht hvm hw hB hz1 hk1 hS1 => ?_)
  subst hw
  rw [ht] at hB
  exact w_size fun hz => kk H1 locs1 ls hB hS1 hl (by have h1 : H.size = eb Γ + wn w := hR.1; have h2 : H1.size = eb Γ + wn u := hB.1; have h3 : H1.size ≤ s.heap.size + k := hz; show n0 + k = wn u; omega)
theorem sl_len {Γ : En} : ∀ xs : List LV, (lg_sl (xs.map (vL Γ))).length = (xs.map fun x => if isL x = true then 2 else 1).sum
  | [] => rfl
  | x :: xs => by
    have ih := sl_len (Γ := Γ) xs
    have hc := vL_cat (Γ := Γ) (x := x)
    simp only [lg_sl, List.map_cons, List.flatMap_cons, List.length_append, List.sum_cons] at ih ⊢
    rw [ih]
    congr 1
    by_cases hq : isL x = true
    · rw [hq] at hc
      rw [if_pos (by simpa using hc), if_pos hq]
      rfl
    · have hq2 : isL x = false := by simpa using hq
      rw [hq2] at hc
      rw [if_neg (by simpa using hc), if_neg hq]
      rfl
theorem rf_inj {a b : Option Nat} (h : va_rf a = va_rf b) : a = b := by
  cases a <;> cases b <;> first | rfl | (cases h; rfl) | cases h
theorem MQ_mono {below : List Frame} {Q1 Q2 : Array Value → State → Outcome → State → Prop} {a : Array Value} {s : State} {mc ms : Nat} {free : Addr → Prop} (h : ∀ o t, Q1 a s o t → Q2 a s o t) : ∀ t, MQ below Q1 a s mc ms free t → MQ below Q2 a s mc ms free t := fun t ht => by
  obtain ⟨o, h1, h2, h3, h4⟩ := ht
  exact ⟨o, h1, h2, h _ _ h3, h4⟩
theorem W_mono {p : Program} {l : Launch} {e : Env} {R : Room} {s : State} {m : MethodId} {args : Array Value} {below : List Frame} {meth : Method} {c : Code} {H : Heap} {locs : List Loc} {cells slots : Nat} {Q Q2 : State → Prop} {g : JFrame} (h : ∀ t, Q t → Q2 t) (kk : W p l e R s m args below meth c H locs cells slots Q g) : W p l e R s m args below meth c H locs cells slots Q2 g := fun T hT X => by
  obtain ⟨t, a, b⟩ := kk T hT X
  exact ⟨t, a, h t b⟩
/-- a contract out of a walk -/
theorem mtI {Γ : En} {y : MethodName} {cc : ByteArray} {mL d K N : Nat} {ty : FieldType} (xs : List LV) {w : Wd} {o : Option (Int32 × Wd)} (hy : plainName y.cls = true) (hL : (xs.map fun x => if isL x = true then 2 else 1).sum ≤ mL) (kk : ∀ X : Cx, X.1 = Γ → nLX X = mL → n0X X = wn w → Ok X cc y.cls d K N → (y.name = "<init>" → X.2.2.2.2.2.2.2.2.1.name = "<init>") → RetI X ty K N → OkR X Value.int o → G X 0 0 0 (targs 0 xs) [] w) : MtI Γ y cc mL (some ty) d K N (xs.map (vL Γ)) w o := by
  intro r w1 ho
  refine Met.ofW (cc := cc) (maxL := mL) (ret := some ty) hy rfl ?_
  intro p e s m args below meth c s₁ B hml hv
  obtain ⟨rfl, hR, hK, hE⟩ := hv
  have hts := atoms_spec (ws := .code y cc mL (some ty) :: lw_U) B.pre
  rw [lg_entry_eq]
  have hl := lv_entry (xs.map (vL Γ)) (n := mL) (by rw [sl_len]; exact hL)
  rw [lvm_args] at hl
  obtain ⟨QQ, hQQ⟩ : ∃ z : Value → Wd → Prop, z = (fun v w2 => v = .int r ∧ w2 = w1) := ⟨_, rfl⟩
  have key := kk (Γ, p, e, (headSpec (.code y cc mL (some ty) :: lw_U) (rmd d K N)).room, s, m, (xs.map (vL Γ)).toArray, below, meth, c, mL, wn w, MQ below (va_Qi (fun (r : Int32) (w : Wd) => QQ (.int r) w) (fun (w : Wd) t => Rp Γ w t.heap) (Ab Γ)) (xs.map (vL Γ)).toArray s K N (Ab Γ), QQ) rfl rfl rfl
    ⟨B.exec, B.bytes, hml, findClass_of_methodNamed B.named, fun w hw => hts w (List.mem_cons_of_mem _ hw), hK, hE, hR.1, B.notSynchronized, Nat.le_refl _, Nat.le_refl _, Nat.le_refl _, Nat.le_refl _⟩ (fun hi => by rw [← hi]; exact (name_of_methodNamed B.named B.method).1) ⟨B.returns, rfl⟩ ⟨r, w1, ho, by show QQ _ _; rw [hQQ]; exact ⟨rfl, rfl⟩⟩ s.heap [] _ hR va_S.rf hl rfl
  refine W_mono (MQ_mono (fun oc t hq => ?_)) key
  obtain ⟨⟨r2, u, ho, hq, hB⟩, hF2⟩ := hq
  rw [hQQ] at hq
  exact ⟨⟨r2, u, ho, ⟨Value.int.inj hq.1, hq.2⟩, hB⟩, hF2⟩
/-- a contract out of a walk -/
theorem mtL {Γ : En} {y : MethodName} {cc : ByteArray} {mL d K N : Nat} (xs : List LV) {w : Wd} {o : Option (Int64 × Wd)} (hy : plainName y.cls = true) (hL : (xs.map fun x => if isL x = true then 2 else 1).sum ≤ mL) (kk : ∀ X : Cx, X.1 = Γ → nLX X = mL → n0X X = wn w → Ok X cc y.cls d K N → (y.name = "<init>" → X.2.2.2.2.2.2.2.2.1.name = "<init>") → RetL X K N → OkR X Value.long o → G X 0 0 0 (targs 0 xs) [] w) : MtL Γ y cc mL (some .long) d K N (xs.map (vL Γ)) w o := by
  intro r w1 ho
  refine Met.ofW (cc := cc) (maxL := mL) (ret := some .long) hy rfl ?_
  intro p e s m args below meth c s₁ B hml hv
  obtain ⟨rfl, hR, hK, hE⟩ := hv
  have hts := atoms_spec (ws := .code y cc mL (some .long) :: lw_U) B.pre
  rw [lg_entry_eq]
  have hl := lv_entry (xs.map (vL Γ)) (n := mL) (by rw [sl_len]; exact hL)
  rw [lvm_args] at hl
  obtain ⟨QQ, hQQ⟩ : ∃ z : Value → Wd → Prop, z = (fun v w2 => v = .long r ∧ w2 = w1) := ⟨_, rfl⟩
  have key := kk (Γ, p, e, (headSpec (.code y cc mL (some .long) :: lw_U) (rmd d K N)).room, s, m, (xs.map (vL Γ)).toArray, below, meth, c, mL, wn w, MQ below (va_Ql (fun (r : Int64) (w : Wd) => QQ (.long r) w) (fun (w : Wd) t => Rp Γ w t.heap) (Ab Γ)) (xs.map (vL Γ)).toArray s K N (Ab Γ), QQ) rfl rfl rfl
    ⟨B.exec, B.bytes, hml, findClass_of_methodNamed B.named, fun w hw => hts w (List.mem_cons_of_mem _ hw), hK, hE, hR.1, B.notSynchronized, Nat.le_refl _, Nat.le_refl _, Nat.le_refl _, Nat.le_refl _⟩ (fun hi => by rw [← hi]; exact (name_of_methodNamed B.named B.method).1) ⟨B.returns, rfl⟩ ⟨r, w1, ho, by show QQ _ _; rw [hQQ]; exact ⟨rfl, rfl⟩⟩ s.heap [] _ hR va_S.rf hl rfl
  refine W_mono (MQ_mono (fun oc t hq => ?_)) key
  obtain ⟨⟨r2, u, ho, hq, hB⟩, hF2⟩ := hq
  rw [hQQ] at hq
  exact ⟨⟨r2, u, ho, ⟨Value.long.inj hq.1, hq.2⟩, hB⟩, hF2⟩
/-- a contract out of a walk -/
theorem mtV {Γ : En} {y : MethodName} {cc : ByteArray} {mL d K N : Nat} (xs : List LV) {w : Wd} {o : Option (Unit × Wd)} (hy : plainName y.cls = true) (hL : (xs.map fun x => if isL x = true then 2 else 1).sum ≤ mL) (kk : ∀ X : Cx, X.1 = Γ → nLX X = mL → n0X X = wn w → Ok X cc y.cls d K N → (y.name = "<init>" → X.2.2.2.2.2.2.2.2.1.name = "<init>") → RetV X K N → OkR X (fun _ : Unit => Value.null) o → G X 0 0 0 (targs 0 xs) [] w) : MtV Γ y cc mL (none) d K N (xs.map (vL Γ)) w o := by
  intro r w1 ho
  refine Met.ofW (cc := cc) (maxL := mL) (ret := none) hy rfl ?_
  intro p e s m args below meth c s₁ B hml hv
  obtain ⟨rfl, hR, hK, hE⟩ := hv
  have hts := atoms_spec (ws := .code y cc mL (none) :: lw_U) B.pre
  rw [lg_entry_eq]
  have hl := lv_entry (xs.map (vL Γ)) (n := mL) (by rw [sl_len]; exact hL)
  rw [lvm_args] at hl
  obtain ⟨QQ, hQQ⟩ : ∃ z : Value → Wd → Prop, z = (fun v w2 => v = .null ∧ w2 = w1) := ⟨_, rfl⟩
  have key := kk (Γ, p, e, (headSpec (.code y cc mL (none) :: lw_U) (rmd d K N)).room, s, m, (xs.map (vL Γ)).toArray, below, meth, c, mL, wn w, MQ below (va_Qv (fun (w : Wd) => QQ .null w) (fun (w : Wd) t => Rp Γ w t.heap) (Ab Γ)) (xs.map (vL Γ)).toArray s K N (Ab Γ), QQ) rfl rfl rfl
    ⟨B.exec, B.bytes, hml, findClass_of_methodNamed B.named, fun w hw => hts w (List.mem_cons_of_mem _ hw), hK, hE, hR.1, B.notSynchronized, Nat.le_refl _, Nat.le_refl _, Nat.le_refl _, Nat.le_refl _⟩ (fun hi => by rw [← hi]; exact (name_of_methodNamed B.named B.method).1) ⟨B.returns, rfl⟩ ⟨r, w1, ho, by show QQ _ _; rw [hQQ]; exact ⟨rfl, rfl⟩⟩ s.heap [] _ hR va_S.rf hl rfl
  refine W_mono (MQ_mono (fun oc t hq => ?_)) key
  obtain ⟨⟨u, ho, hq, hB⟩, hF2⟩ := hq
  rw [hQQ] at hq
  exact ⟨⟨u, ho, hq.2, hB⟩, hF2⟩
/-- a contract out of a walk -/
theorem mtQ {Γ : En} {y : MethodName} {cc : ByteArray} {mL d K N : Nat} {ty : FieldType} (xs : List LV) {w : Wd} {o : Option (Option Nat × Wd)} (hto : ∃ z, ty = .object z) (hy : plainName y.cls = true) (hL : (xs.map fun x => if isL x = true then 2 else 1).sum ≤ mL) (kk : ∀ X : Cx, X.1 = Γ → nLX X = mL → n0X X = wn w → Ok X cc y.cls d K N → (y.name = "<init>" → X.2.2.2.2.2.2.2.2.1.name = "<init>") → RetQ X ty K N → OkR X (rv Γ) o → G X 0 0 0 (targs 0 xs) [] w) : MtQ Γ y cc mL (some ty) d K N (xs.map (vL Γ)) w o := by
  intro r w1 ho
  refine Met.ofW (cc := cc) (maxL := mL) (ret := some ty) hy rfl ?_
  intro p e s m args below meth c s₁ B hml hv
  obtain ⟨rfl, hR, hK, hE⟩ := hv
  have hts := atoms_spec (ws := .code y cc mL (some ty) :: lw_U) B.pre
  rw [lg_entry_eq]
  have hl := lv_entry (xs.map (vL Γ)) (n := mL) (by rw [sl_len]; exact hL)
  rw [lvm_args] at hl
  obtain ⟨QQ, hQQ⟩ : ∃ z : Value → Wd → Prop, z = (fun v w2 => v = rv Γ r ∧ w2 = w1) := ⟨_, rfl⟩
  have key := kk (Γ, p, e, (headSpec (.code y cc mL (some ty) :: lw_U) (rmd d K N)).room, s, m, (xs.map (vL Γ)).toArray, below, meth, c, mL, wn w, MQ below (va_Qq (fun (r : Option Nat) (w : Wd) => QQ (va_rf r) w) (fun (w : Wd) t => Rp Γ w t.heap) (Ab Γ)) (xs.map (vL Γ)).toArray s K N (Ab Γ), QQ) rfl rfl rfl
    ⟨B.exec, B.bytes, hml, findClass_of_methodNamed B.named, fun w hw => hts w (List.mem_cons_of_mem _ hw), hK, hE, hR.1, B.notSynchronized, Nat.le_refl _, Nat.le_refl _, Nat.le_refl _, Nat.le_refl _⟩ (fun hi => by rw [← hi]; exact (name_of_methodNamed B.named B.method).1) ⟨B.returns, hto, rfl⟩ ⟨r, w1, ho, by show QQ _ _; rw [hQQ]; exact ⟨rfl, rfl⟩⟩ s.heap [] _ hR va_S.rf hl rfl
  refine W_mono (MQ_mono (fun oc t hq => ?_)) key
  obtain ⟨⟨r2, u, ho, hq, hB⟩, hF2⟩ := hq
  rw [hQQ] at hq
  exact ⟨⟨r2, u, ho, ⟨rf_inj hq.1, hq.2⟩, hB⟩, hF2⟩
end
