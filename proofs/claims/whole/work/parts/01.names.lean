-- ===== PART A: goes FIRST, ahead of the names: the tables' words, and 'selects' of the private methods out of them =====
/-- a private method of a class that the tables say can be made, by its rows of tables_1 -/
def lw_okq (q : MethodName × Nat) : Prop := (q.1.cls ≠ "java/lang/invoke/MethodHandle" ∧ q.1.cls ≠ "java/lang/invoke/VarHandle") ∧ Cond.instantiable q.1.cls q.2 ∈ tables_1 ∧ Cond.privateMethod q.1 ∈ tables_1 ∧ Cond.instanceMethod q.1 ∈ tables_1
theorem lw_p0 : lw_okq (⟨"SectionLand$Tape", "firstMisfit", "()I"⟩, 4) := ⟨⟨by decide +kernel, by decide +kernel⟩, List.mem_of_getElem? (i := 26) (by decide +kernel), List.mem_of_getElem? (i := 347) (by decide +kernel), List.mem_of_getElem? (i := 348) (by decide +kernel)⟩
theorem lw_p1 : lw_okq (⟨"SectionLand$Tape", "fits", "(I)Z"⟩, 4) := ⟨⟨by decide +kernel, by decide +kernel⟩, List.mem_of_getElem? (i := 26) (by decide +kernel), List.mem_of_getElem? (i := 351) (by decide +kernel), List.mem_of_getElem? (i := 352) (by decide +kernel)⟩
theorem lw_p2 : lw_okq (⟨"SectionLand$Tape", "firstStrangeLetter", "()I"⟩, 4) := ⟨⟨by decide +kernel, by decide +kernel⟩, List.mem_of_getElem? (i := 26) (by decide +kernel), List.mem_of_getElem? (i := 355) (by decide +kernel), List.mem_of_getElem? (i := 356) (by decide +kernel)⟩
theorem lw_p3 : lw_okq (⟨"SectionLand$Tape", "firstRepeatedLetter", "()I"⟩, 4) := ⟨⟨by decide +kernel, by decide +kernel⟩, List.mem_of_getElem? (i := 26) (by decide +kernel), List.mem_of_getElem? (i := 359) (by decide +kernel), List.mem_of_getElem? (i := 360) (by decide +kernel)⟩
theorem lw_p4 : lw_okq (⟨"SectionLand", "isClass", "(II)Z"⟩, 12) := ⟨⟨by decide +kernel, by decide +kernel⟩, List.mem_of_getElem? (i := 18) (by decide +kernel), List.mem_of_getElem? (i := 379) (by decide +kernel), List.mem_of_getElem? (i := 380) (by decide +kernel)⟩
theorem lw_p5 : lw_okq (⟨"SectionLand", "isSystem", "(I)Z"⟩, 12) := ⟨⟨by decide +kernel, by decide +kernel⟩, List.mem_of_getElem? (i := 18) (by decide +kernel), List.mem_of_getElem? (i := 383) (by decide +kernel), List.mem_of_getElem? (i := 384) (by decide +kernel)⟩
theorem lw_p6 : lw_okq (⟨"SectionLand$MarriageSystem", "stepFrom", "(II)I"⟩, 9) := ⟨⟨by decide +kernel, by decide +kernel⟩, List.mem_of_getElem? (i := 225) (by decide +kernel), List.mem_of_getElem? (i := 406) (by decide +kernel), List.mem_of_getElem? (i := 407) (by decide +kernel)⟩
theorem lw_p7 : lw_okq (⟨"SectionLand$TurnGroup", "add", "(I)V"⟩, 3) := ⟨⟨by decide +kernel, by decide +kernel⟩, List.mem_of_getElem? (i := 123) (by decide +kernel), List.mem_of_getElem? (i := 452) (by decide +kernel), List.mem_of_getElem? (i := 453) (by decide +kernel)⟩
theorem lw_p8 : lw_okq (⟨"SectionLand$Camp", "lawFrom", "(I)I"⟩, 4) := ⟨⟨by decide +kernel, by decide +kernel⟩, List.mem_of_getElem? (i := 271) (by decide +kernel), List.mem_of_getElem? (i := 480) (by decide +kernel), List.mem_of_getElem? (i := 481) (by decide +kernel)⟩
theorem lw_p9 : lw_okq (⟨"SectionLand", "isCamp", "(I)Z"⟩, 12) := ⟨⟨by decide +kernel, by decide +kernel⟩, List.mem_of_getElem? (i := 18) (by decide +kernel), List.mem_of_getElem? (i := 488) (by decide +kernel), List.mem_of_getElem? (i := 489) (by decide +kernel)⟩
theorem lw_p10 : lw_okq (⟨"SectionLand", "classify", "(I)V"⟩, 12) := ⟨⟨by decide +kernel, by decide +kernel⟩, List.mem_of_getElem? (i := 18) (by decide +kernel), List.mem_of_getElem? (i := 492) (by decide +kernel), List.mem_of_getElem? (i := 493) (by decide +kernel)⟩
theorem lw_p11 : lw_okq (⟨"SectionLand", "birthSystem", "(I)LSectionLand$MarriageSystem;"⟩, 12) := ⟨⟨by decide +kernel, by decide +kernel⟩, List.mem_of_getElem? (i := 18) (by decide +kernel), List.mem_of_getElem? (i := 500) (by decide +kernel), List.mem_of_getElem? (i := 501) (by decide +kernel)⟩
theorem lw_p12 : lw_okq (⟨"SectionLand", "systemAt", "(II)I"⟩, 12) := ⟨⟨by decide +kernel, by decide +kernel⟩, List.mem_of_getElem? (i := 18) (by decide +kernel), List.mem_of_getElem? (i := 504) (by decide +kernel), List.mem_of_getElem? (i := 505) (by decide +kernel)⟩
theorem lw_p13 : lw_okq (⟨"SectionLand", "isByMother", "(I)Z"⟩, 12) := ⟨⟨by decide +kernel, by decide +kernel⟩, List.mem_of_getElem? (i := 18) (by decide +kernel), List.mem_of_getElem? (i := 513) (by decide +kernel), List.mem_of_getElem? (i := 514) (by decide +kernel)⟩
theorem lw_p14 : lw_okq (⟨"SectionLand", "canBear", "(III)Z"⟩, 12) := ⟨⟨by decide +kernel, by decide +kernel⟩, List.mem_of_getElem? (i := 18) (by decide +kernel), List.mem_of_getElem? (i := 536) (by decide +kernel), List.mem_of_getElem? (i := 537) (by decide +kernel)⟩
theorem lw_p15 : lw_okq (⟨"SectionLand", "ownHindrance", "(II)I"⟩, 12) := ⟨⟨by decide +kernel, by decide +kernel⟩, List.mem_of_getElem? (i := 18) (by decide +kernel), List.mem_of_getElem? (i := 560) (by decide +kernel), List.mem_of_getElem? (i := 561) (by decide +kernel)⟩
def lw_privs_1 : List (MethodName × Nat) := [(⟨"SectionLand$Tape", "firstMisfit", "()I"⟩, 4), (⟨"SectionLand$Tape", "fits", "(I)Z"⟩, 4), (⟨"SectionLand$Tape", "firstStrangeLetter", "()I"⟩, 4), (⟨"SectionLand$Tape", "firstRepeatedLetter", "()I"⟩, 4), (⟨"SectionLand", "isClass", "(II)Z"⟩, 12), (⟨"SectionLand", "isSystem", "(I)Z"⟩, 12), (⟨"SectionLand$MarriageSystem", "stepFrom", "(II)I"⟩, 9), (⟨"SectionLand$TurnGroup", "add", "(I)V"⟩, 3), (⟨"SectionLand$Camp", "lawFrom", "(I)I"⟩, 4), (⟨"SectionLand", "isCamp", "(I)Z"⟩, 12), (⟨"SectionLand", "classify", "(I)V"⟩, 12), (⟨"SectionLand", "birthSystem", "(I)LSectionLand$MarriageSystem;"⟩, 12), (⟨"SectionLand", "systemAt", "(II)I"⟩, 12), (⟨"SectionLand", "isByMother", "(I)Z"⟩, 12), (⟨"SectionLand", "canBear", "(III)Z"⟩, 12), (⟨"SectionLand", "ownHindrance", "(II)I"⟩, 12)]
theorem lw_r1 : ∀ q ∈ lw_privs_1, lw_okq q := List.forall_mem_cons.mpr ⟨lw_p0, List.forall_mem_cons.mpr ⟨lw_p1, List.forall_mem_cons.mpr ⟨lw_p2, List.forall_mem_cons.mpr ⟨lw_p3, List.forall_mem_cons.mpr ⟨lw_p4, List.forall_mem_cons.mpr ⟨lw_p5, List.forall_mem_cons.mpr ⟨lw_p6, List.forall_mem_cons.mpr ⟨lw_p7, List.forall_mem_cons.mpr ⟨lw_p8, List.forall_mem_cons.mpr ⟨lw_p9, List.forall_mem_cons.mpr ⟨lw_p10, List.forall_mem_cons.mpr ⟨lw_p11, List.forall_mem_cons.mpr ⟨lw_p12, List.forall_mem_cons.mpr ⟨lw_p13, List.forall_mem_cons.mpr ⟨lw_p14, List.forall_mem_cons.mpr ⟨lw_p15, fun _ h => absurd h List.not_mem_nil⟩⟩⟩⟩⟩⟩⟩⟩⟩⟩⟩⟩⟩⟩⟩⟩
theorem lw_p16 : lw_okq (⟨"SectionLand", "pairHindrance", "(III)I"⟩, 12) := ⟨⟨by decide +kernel, by decide +kernel⟩, List.mem_of_getElem? (i := 18) (by decide +kernel), List.mem_of_getElem? (i := 576) (by decide +kernel), List.mem_of_getElem? (i := 577) (by decide +kernel)⟩
theorem lw_p17 : lw_okq (⟨"SectionLand", "isRight", "(III)Z"⟩, 12) := ⟨⟨by decide +kernel, by decide +kernel⟩, List.mem_of_getElem? (i := 18) (by decide +kernel), List.mem_of_getElem? (i := 589) (by decide +kernel), List.mem_of_getElem? (i := 590) (by decide +kernel)⟩
theorem lw_p18 : lw_okq (⟨"SectionLand", "isReady", "(IIII)Z"⟩, 12) := ⟨⟨by decide +kernel, by decide +kernel⟩, List.mem_of_getElem? (i := 18) (by decide +kernel), List.mem_of_getElem? (i := 635) (by decide +kernel), List.mem_of_getElem? (i := 636) (by decide +kernel)⟩
theorem lw_p19 : lw_okq (⟨"SectionLand", "noteBrides", "(III)V"⟩, 12) := ⟨⟨by decide +kernel, by decide +kernel⟩, List.mem_of_getElem? (i := 18) (by decide +kernel), List.mem_of_getElem? (i := 639) (by decide +kernel), List.mem_of_getElem? (i := 640) (by decide +kernel)⟩
theorem lw_p20 : lw_okq (⟨"SectionLand$Matching", "findOneMore", "()Z"⟩, 9) := ⟨⟨by decide +kernel, by decide +kernel⟩, List.mem_of_getElem? (i := 139) (by decide +kernel), List.mem_of_getElem? (i := 651) (by decide +kernel), List.mem_of_getElem? (i := 652) (by decide +kernel)⟩
theorem lw_p21 : lw_okq (⟨"SectionLand$Matching", "queueLoneMen", "()V"⟩, 9) := ⟨⟨by decide +kernel, by decide +kernel⟩, List.mem_of_getElem? (i := 139) (by decide +kernel), List.mem_of_getElem? (i := 655) (by decide +kernel), List.mem_of_getElem? (i := 656) (by decide +kernel)⟩
theorem lw_p22 : lw_okq (⟨"SectionLand$Matching", "changeAlong", "(I)V"⟩, 9) := ⟨⟨by decide +kernel, by decide +kernel⟩, List.mem_of_getElem? (i := 139) (by decide +kernel), List.mem_of_getElem? (i := 663) (by decide +kernel), List.mem_of_getElem? (i := 664) (by decide +kernel)⟩
theorem lw_p23 : lw_okq (⟨"SectionLand$Matching", "couple", "(II)V"⟩, 9) := ⟨⟨by decide +kernel, by decide +kernel⟩, List.mem_of_getElem? (i := 139) (by decide +kernel), List.mem_of_getElem? (i := 667) (by decide +kernel), List.mem_of_getElem? (i := 668) (by decide +kernel)⟩
theorem lw_p24 : lw_okq (⟨"SectionLand$Matching", "enqueue", "(I)V"⟩, 9) := ⟨⟨by decide +kernel, by decide +kernel⟩, List.mem_of_getElem? (i := 139) (by decide +kernel), List.mem_of_getElem? (i := 671) (by decide +kernel), List.mem_of_getElem? (i := 672) (by decide +kernel)⟩
theorem lw_p25 : lw_okq (⟨"SectionLand$Matching", "settle", "(I)V"⟩, 9) := ⟨⟨by decide +kernel, by decide +kernel⟩, List.mem_of_getElem? (i := 139) (by decide +kernel), List.mem_of_getElem? (i := 675) (by decide +kernel), List.mem_of_getElem? (i := 676) (by decide +kernel)⟩
theorem lw_p26 : lw_okq (⟨"SectionLand$Matching", "give", "(II)Z"⟩, 9) := ⟨⟨by decide +kernel, by decide +kernel⟩, List.mem_of_getElem? (i := 139) (by decide +kernel), List.mem_of_getElem? (i := 679) (by decide +kernel), List.mem_of_getElem? (i := 680) (by decide +kernel)⟩
theorem lw_p27 : lw_okq (⟨"SectionLand$Matching", "findLack", "()V"⟩, 9) := ⟨⟨by decide +kernel, by decide +kernel⟩, List.mem_of_getElem? (i := 139) (by decide +kernel), List.mem_of_getElem? (i := 683) (by decide +kernel), List.mem_of_getElem? (i := 684) (by decide +kernel)⟩
theorem lw_p28 : lw_okq (⟨"SectionLand$Overlay", "layFrom", "(LSectionLand$MarriageSystem;LSectionLand$MarriageSystem;II)V"⟩, 5) := ⟨⟨by decide +kernel, by decide +kernel⟩, List.mem_of_getElem? (i := 180) (by decide +kernel), List.mem_of_getElem? (i := 709) (by decide +kernel), List.mem_of_getElem? (i := 710) (by decide +kernel)⟩
theorem lw_p29 : lw_okq (⟨"SectionLand$Overlay", "missedAt", "([I[I[II)I"⟩, 5) := ⟨⟨by decide +kernel, by decide +kernel⟩, List.mem_of_getElem? (i := 180) (by decide +kernel), List.mem_of_getElem? (i := 714) (by decide +kernel), List.mem_of_getElem? (i := 715) (by decide +kernel)⟩
theorem lw_p30 : lw_okq (⟨"SectionLand", "fillGaps", "()Z"⟩, 12) := ⟨⟨by decide +kernel, by decide +kernel⟩, List.mem_of_getElem? (i := 18) (by decide +kernel), List.mem_of_getElem? (i := 726) (by decide +kernel), List.mem_of_getElem? (i := 727) (by decide +kernel)⟩
theorem lw_p31 : lw_okq (⟨"SectionLand", "mayBeOf", "(II)Z"⟩, 12) := ⟨⟨by decide +kernel, by decide +kernel⟩, List.mem_of_getElem? (i := 18) (by decide +kernel), List.mem_of_getElem? (i := 734) (by decide +kernel), List.mem_of_getElem? (i := 735) (by decide +kernel)⟩
def lw_privs_2 : List (MethodName × Nat) := [(⟨"SectionLand", "pairHindrance", "(III)I"⟩, 12), (⟨"SectionLand", "isRight", "(III)Z"⟩, 12), (⟨"SectionLand", "isReady", "(IIII)Z"⟩, 12), (⟨"SectionLand", "noteBrides", "(III)V"⟩, 12), (⟨"SectionLand$Matching", "findOneMore", "()Z"⟩, 9), (⟨"SectionLand$Matching", "queueLoneMen", "()V"⟩, 9), (⟨"SectionLand$Matching", "changeAlong", "(I)V"⟩, 9), (⟨"SectionLand$Matching", "couple", "(II)V"⟩, 9), (⟨"SectionLand$Matching", "enqueue", "(I)V"⟩, 9), (⟨"SectionLand$Matching", "settle", "(I)V"⟩, 9), (⟨"SectionLand$Matching", "give", "(II)Z"⟩, 9), (⟨"SectionLand$Matching", "findLack", "()V"⟩, 9), (⟨"SectionLand$Overlay", "layFrom", "(LSectionLand$MarriageSystem;LSectionLand$MarriageSystem;II)V"⟩, 5), (⟨"SectionLand$Overlay", "missedAt", "([I[I[II)I"⟩, 5), (⟨"SectionLand", "fillGaps", "()Z"⟩, 12), (⟨"SectionLand", "mayBeOf", "(II)Z"⟩, 12)]
theorem lw_r2 : ∀ q ∈ lw_privs_2, lw_okq q := List.forall_mem_cons.mpr ⟨lw_p16, List.forall_mem_cons.mpr ⟨lw_p17, List.forall_mem_cons.mpr ⟨lw_p18, List.forall_mem_cons.mpr ⟨lw_p19, List.forall_mem_cons.mpr ⟨lw_p20, List.forall_mem_cons.mpr ⟨lw_p21, List.forall_mem_cons.mpr ⟨lw_p22, List.forall_mem_cons.mpr ⟨lw_p23, List.forall_mem_cons.mpr ⟨lw_p24, List.forall_mem_cons.mpr ⟨lw_p25, List.forall_mem_cons.mpr ⟨lw_p26, List.forall_mem_cons.mpr ⟨lw_p27, List.forall_mem_cons.mpr ⟨lw_p28, List.forall_mem_cons.mpr ⟨lw_p29, List.forall_mem_cons.mpr ⟨lw_p30, List.forall_mem_cons.mpr ⟨lw_p31, fun _ h => absurd h List.not_mem_nil⟩⟩⟩⟩⟩⟩⟩⟩⟩⟩⟩⟩⟩⟩⟩⟩
theorem lw_p32 : lw_okq (⟨"SectionLand", "growChild", "(I)V"⟩, 12) := ⟨⟨by decide +kernel, by decide +kernel⟩, List.mem_of_getElem? (i := 18) (by decide +kernel), List.mem_of_getElem? (i := 742) (by decide +kernel), List.mem_of_getElem? (i := 743) (by decide +kernel)⟩
theorem lw_p33 : lw_okq (⟨"SectionLandModel", "broken", "()I"⟩, 46) := ⟨⟨by decide +kernel, by decide +kernel⟩, List.mem_of_getElem? (i := 781) (by decide +kernel), List.mem_of_getElem? (i := 939) (by decide +kernel), List.mem_of_getElem? (i := 940) (by decide +kernel)⟩
theorem lw_p34 : lw_okq (⟨"SectionLandModel", "foreign", "(I)I"⟩, 46) := ⟨⟨by decide +kernel, by decide +kernel⟩, List.mem_of_getElem? (i := 781) (by decide +kernel), List.mem_of_getElem? (i := 946) (by decide +kernel), List.mem_of_getElem? (i := 947) (by decide +kernel)⟩
theorem lw_p35 : lw_okq (⟨"SectionLandModel", "again", "()I"⟩, 46) := ⟨⟨by decide +kernel, by decide +kernel⟩, List.mem_of_getElem? (i := 781) (by decide +kernel), List.mem_of_getElem? (i := 950) (by decide +kernel), List.mem_of_getElem? (i := 951) (by decide +kernel)⟩
theorem lw_p36 : lw_okq (⟨"SectionLandModel", "isClass", "(II)Z"⟩, 46) := ⟨⟨by decide +kernel, by decide +kernel⟩, List.mem_of_getElem? (i := 781) (by decide +kernel), List.mem_of_getElem? (i := 962) (by decide +kernel), List.mem_of_getElem? (i := 963) (by decide +kernel)⟩
theorem lw_p37 : lw_okq (⟨"SectionLandModel", "isSystem", "(I)Z"⟩, 46) := ⟨⟨by decide +kernel, by decide +kernel⟩, List.mem_of_getElem? (i := 781) (by decide +kernel), List.mem_of_getElem? (i := 966) (by decide +kernel), List.mem_of_getElem? (i := 967) (by decide +kernel)⟩
theorem lw_p38 : lw_okq (⟨"SectionLandModel", "back", "([III)I"⟩, 46) := ⟨⟨by decide +kernel, by decide +kernel⟩, List.mem_of_getElem? (i := 781) (by decide +kernel), List.mem_of_getElem? (i := 970) (by decide +kernel), List.mem_of_getElem? (i := 971) (by decide +kernel)⟩
theorem lw_p39 : lw_okq (⟨"SectionLandModel", "leads", "(IIII)I"⟩, 46) := ⟨⟨by decide +kernel, by decide +kernel⟩, List.mem_of_getElem? (i := 781) (by decide +kernel), List.mem_of_getElem? (i := 984) (by decide +kernel), List.mem_of_getElem? (i := 985) (by decide +kernel)⟩
theorem lw_p40 : lw_okq (⟨"SectionLandModel", "classBehind", "(IIII)I"⟩, 46) := ⟨⟨by decide +kernel, by decide +kernel⟩, List.mem_of_getElem? (i := 781) (by decide +kernel), List.mem_of_getElem? (i := 988) (by decide +kernel), List.mem_of_getElem? (i := 989) (by decide +kernel)⟩
theorem lw_p41 : lw_okq (⟨"SectionLandModel", "sexOf", "(II)I"⟩, 46) := ⟨⟨by decide +kernel, by decide +kernel⟩, List.mem_of_getElem? (i := 781) (by decide +kernel), List.mem_of_getElem? (i := 1003) (by decide +kernel), List.mem_of_getElem? (i := 1004) (by decide +kernel)⟩
theorem lw_p42 : lw_okq (⟨"SectionLandModel", "behind", "(II[I)I"⟩, 46) := ⟨⟨by decide +kernel, by decide +kernel⟩, List.mem_of_getElem? (i := 781) (by decide +kernel), List.mem_of_getElem? (i := 1016) (by decide +kernel), List.mem_of_getElem? (i := 1017) (by decide +kernel)⟩
theorem lw_p43 : lw_okq (⟨"SectionLandModel", "isNew", "(II)Z"⟩, 46) := ⟨⟨by decide +kernel, by decide +kernel⟩, List.mem_of_getElem? (i := 781) (by decide +kernel), List.mem_of_getElem? (i := 1020) (by decide +kernel), List.mem_of_getElem? (i := 1021) (by decide +kernel)⟩
theorem lw_p44 : lw_okq (⟨"SectionLandModel", "halfOf", "(II)I"⟩, 46) := ⟨⟨by decide +kernel, by decide +kernel⟩, List.mem_of_getElem? (i := 781) (by decide +kernel), List.mem_of_getElem? (i := 1028) (by decide +kernel), List.mem_of_getElem? (i := 1029) (by decide +kernel)⟩
theorem lw_p45 : lw_okq (⟨"SectionLandModel", "isCamp", "(I)Z"⟩, 46) := ⟨⟨by decide +kernel, by decide +kernel⟩, List.mem_of_getElem? (i := 781) (by decide +kernel), List.mem_of_getElem? (i := 1045) (by decide +kernel), List.mem_of_getElem? (i := 1046) (by decide +kernel)⟩
theorem lw_p46 : lw_okq (⟨"SectionLandModel", "lawOf", "(II)I"⟩, 46) := ⟨⟨by decide +kernel, by decide +kernel⟩, List.mem_of_getElem? (i := 781) (by decide +kernel), List.mem_of_getElem? (i := 1054) (by decide +kernel), List.mem_of_getElem? (i := 1055) (by decide +kernel)⟩
theorem lw_p47 : lw_okq (⟨"SectionLandModel", "comes", "(IIIIII)I"⟩, 46) := ⟨⟨by decide +kernel, by decide +kernel⟩, List.mem_of_getElem? (i := 781) (by decide +kernel), List.mem_of_getElem? (i := 1061) (by decide +kernel), List.mem_of_getElem? (i := 1062) (by decide +kernel)⟩
def lw_privs_3 : List (MethodName × Nat) := [(⟨"SectionLand", "growChild", "(I)V"⟩, 12), (⟨"SectionLandModel", "broken", "()I"⟩, 46), (⟨"SectionLandModel", "foreign", "(I)I"⟩, 46), (⟨"SectionLandModel", "again", "()I"⟩, 46), (⟨"SectionLandModel", "isClass", "(II)Z"⟩, 46), (⟨"SectionLandModel", "isSystem", "(I)Z"⟩, 46), (⟨"SectionLandModel", "back", "([III)I"⟩, 46), (⟨"SectionLandModel", "leads", "(IIII)I"⟩, 46), (⟨"SectionLandModel", "classBehind", "(IIII)I"⟩, 46), (⟨"SectionLandModel", "sexOf", "(II)I"⟩, 46), (⟨"SectionLandModel", "behind", "(II[I)I"⟩, 46), (⟨"SectionLandModel", "isNew", "(II)Z"⟩, 46), (⟨"SectionLandModel", "halfOf", "(II)I"⟩, 46), (⟨"SectionLandModel", "isCamp", "(I)Z"⟩, 46), (⟨"SectionLandModel", "lawOf", "(II)I"⟩, 46), (⟨"SectionLandModel", "comes", "(IIIIII)I"⟩, 46)]
theorem lw_r3 : ∀ q ∈ lw_privs_3, lw_okq q := List.forall_mem_cons.mpr ⟨lw_p32, List.forall_mem_cons.mpr ⟨lw_p33, List.forall_mem_cons.mpr ⟨lw_p34, List.forall_mem_cons.mpr ⟨lw_p35, List.forall_mem_cons.mpr ⟨lw_p36, List.forall_mem_cons.mpr ⟨lw_p37, List.forall_mem_cons.mpr ⟨lw_p38, List.forall_mem_cons.mpr ⟨lw_p39, List.forall_mem_cons.mpr ⟨lw_p40, List.forall_mem_cons.mpr ⟨lw_p41, List.forall_mem_cons.mpr ⟨lw_p42, List.forall_mem_cons.mpr ⟨lw_p43, List.forall_mem_cons.mpr ⟨lw_p44, List.forall_mem_cons.mpr ⟨lw_p45, List.forall_mem_cons.mpr ⟨lw_p46, List.forall_mem_cons.mpr ⟨lw_p47, fun _ h => absurd h List.not_mem_nil⟩⟩⟩⟩⟩⟩⟩⟩⟩⟩⟩⟩⟩⟩⟩⟩
theorem lw_p48 : lw_okq (⟨"SectionLandModel", "isPerson", "(I)Z"⟩, 46) := ⟨⟨by decide +kernel, by decide +kernel⟩, List.mem_of_getElem? (i := 781) (by decide +kernel), List.mem_of_getElem? (i := 1069) (by decide +kernel), List.mem_of_getElem? (i := 1070) (by decide +kernel)⟩
theorem lw_p49 : lw_okq (⟨"SectionLandModel", "lives", "(II)Z"⟩, 46) := ⟨⟨by decide +kernel, by decide +kernel⟩, List.mem_of_getElem? (i := 781) (by decide +kernel), List.mem_of_getElem? (i := 1073) (by decide +kernel), List.mem_of_getElem? (i := 1074) (by decide +kernel)⟩
theorem lw_p50 : lw_okq (⟨"SectionLandModel", "findClasses", "()V"⟩, 46) := ⟨⟨by decide +kernel, by decide +kernel⟩, List.mem_of_getElem? (i := 781) (by decide +kernel), List.mem_of_getElem? (i := 1090) (by decide +kernel), List.mem_of_getElem? (i := 1091) (by decide +kernel)⟩
theorem lw_p51 : lw_okq (⟨"SectionLandModel", "childOf", "(IIZ)I"⟩, 46) := ⟨⟨by decide +kernel, by decide +kernel⟩, List.mem_of_getElem? (i := 781) (by decide +kernel), List.mem_of_getElem? (i := 1094) (by decide +kernel), List.mem_of_getElem? (i := 1095) (by decide +kernel)⟩
theorem lw_p52 : lw_okq (⟨"SectionLandModel", "hinders", "(III)I"⟩, 46) := ⟨⟨by decide +kernel, by decide +kernel⟩, List.mem_of_getElem? (i := 781) (by decide +kernel), List.mem_of_getElem? (i := 1098) (by decide +kernel), List.mem_of_getElem? (i := 1099) (by decide +kernel)⟩
theorem lw_p53 : lw_okq (⟨"SectionLandModel", "spouseOf", "(II)I"⟩, 46) := ⟨⟨by decide +kernel, by decide +kernel⟩, List.mem_of_getElem? (i := 781) (by decide +kernel), List.mem_of_getElem? (i := 1102) (by decide +kernel), List.mem_of_getElem? (i := 1103) (by decide +kernel)⟩
theorem lw_p54 : lw_okq (⟨"SectionLandModel", "lasts", "(II)Z"⟩, 46) := ⟨⟨by decide +kernel, by decide +kernel⟩, List.mem_of_getElem? (i := 781) (by decide +kernel), List.mem_of_getElem? (i := 1106) (by decide +kernel), List.mem_of_getElem? (i := 1107) (by decide +kernel)⟩
theorem lw_p55 : lw_okq (⟨"SectionLandModel", "areNear", "(II)Z"⟩, 46) := ⟨⟨by decide +kernel, by decide +kernel⟩, List.mem_of_getElem? (i := 781) (by decide +kernel), List.mem_of_getElem? (i := 1110) (by decide +kernel), List.mem_of_getElem? (i := 1111) (by decide +kernel)⟩
theorem lw_p56 : lw_okq (⟨"SectionLandModel", "isRight", "(III)Z"⟩, 46) := ⟨⟨by decide +kernel, by decide +kernel⟩, List.mem_of_getElem? (i := 781) (by decide +kernel), List.mem_of_getElem? (i := 1114) (by decide +kernel), List.mem_of_getElem? (i := 1115) (by decide +kernel)⟩
theorem lw_p57 : lw_okq (⟨"SectionLandModel", "quarrels", "(I)Z"⟩, 46) := ⟨⟨by decide +kernel, by decide +kernel⟩, List.mem_of_getElem? (i := 781) (by decide +kernel), List.mem_of_getElem? (i := 1126) (by decide +kernel), List.mem_of_getElem? (i := 1127) (by decide +kernel)⟩
theorem lw_p58 : lw_okq (⟨"SectionLandModel", "findMays", "(II)V"⟩, 46) := ⟨⟨by decide +kernel, by decide +kernel⟩, List.mem_of_getElem? (i := 781) (by decide +kernel), List.mem_of_getElem? (i := 1151) (by decide +kernel), List.mem_of_getElem? (i := 1152) (by decide +kernel)⟩
theorem lw_p59 : lw_okq (⟨"SectionLandModel", "greatest", "(I)I"⟩, 46) := ⟨⟨by decide +kernel, by decide +kernel⟩, List.mem_of_getElem? (i := 781) (by decide +kernel), List.mem_of_getElem? (i := 1155) (by decide +kernel), List.mem_of_getElem? (i := 1156) (by decide +kernel)⟩
theorem lw_p60 : lw_okq (⟨"SectionLandModel", "grows", "(I)Z"⟩, 46) := ⟨⟨by decide +kernel, by decide +kernel⟩, List.mem_of_getElem? (i := 781) (by decide +kernel), List.mem_of_getElem? (i := 1159) (by decide +kernel), List.mem_of_getElem? (i := 1160) (by decide +kernel)⟩
theorem lw_p61 : lw_okq (⟨"SectionLandModel", "changes", "(I)V"⟩, 46) := ⟨⟨by decide +kernel, by decide +kernel⟩, List.mem_of_getElem? (i := 781) (by decide +kernel), List.mem_of_getElem? (i := 1163) (by decide +kernel), List.mem_of_getElem? (i := 1164) (by decide +kernel)⟩
theorem lw_p62 : lw_okq (⟨"SectionLandModel", "findLack", "()V"⟩, 46) := ⟨⟨by decide +kernel, by decide +kernel⟩, List.mem_of_getElem? (i := 781) (by decide +kernel), List.mem_of_getElem? (i := 1167) (by decide +kernel), List.mem_of_getElem? (i := 1168) (by decide +kernel)⟩
theorem lw_p63 : lw_okq (⟨"SectionLandModel", "maySome", "(I)Z"⟩, 46) := ⟨⟨by decide +kernel, by decide +kernel⟩, List.mem_of_getElem? (i := 781) (by decide +kernel), List.mem_of_getElem? (i := 1171) (by decide +kernel), List.mem_of_getElem? (i := 1172) (by decide +kernel)⟩
def lw_privs_4 : List (MethodName × Nat) := [(⟨"SectionLandModel", "isPerson", "(I)Z"⟩, 46), (⟨"SectionLandModel", "lives", "(II)Z"⟩, 46), (⟨"SectionLandModel", "findClasses", "()V"⟩, 46), (⟨"SectionLandModel", "childOf", "(IIZ)I"⟩, 46), (⟨"SectionLandModel", "hinders", "(III)I"⟩, 46), (⟨"SectionLandModel", "spouseOf", "(II)I"⟩, 46), (⟨"SectionLandModel", "lasts", "(II)Z"⟩, 46), (⟨"SectionLandModel", "areNear", "(II)Z"⟩, 46), (⟨"SectionLandModel", "isRight", "(III)Z"⟩, 46), (⟨"SectionLandModel", "quarrels", "(I)Z"⟩, 46), (⟨"SectionLandModel", "findMays", "(II)V"⟩, 46), (⟨"SectionLandModel", "greatest", "(I)I"⟩, 46), (⟨"SectionLandModel", "grows", "(I)Z"⟩, 46), (⟨"SectionLandModel", "changes", "(I)V"⟩, 46), (⟨"SectionLandModel", "findLack", "()V"⟩, 46), (⟨"SectionLandModel", "maySome", "(I)Z"⟩, 46)]
theorem lw_r4 : ∀ q ∈ lw_privs_4, lw_okq q := List.forall_mem_cons.mpr ⟨lw_p48, List.forall_mem_cons.mpr ⟨lw_p49, List.forall_mem_cons.mpr ⟨lw_p50, List.forall_mem_cons.mpr ⟨lw_p51, List.forall_mem_cons.mpr ⟨lw_p52, List.forall_mem_cons.mpr ⟨lw_p53, List.forall_mem_cons.mpr ⟨lw_p54, List.forall_mem_cons.mpr ⟨lw_p55, List.forall_mem_cons.mpr ⟨lw_p56, List.forall_mem_cons.mpr ⟨lw_p57, List.forall_mem_cons.mpr ⟨lw_p58, List.forall_mem_cons.mpr ⟨lw_p59, List.forall_mem_cons.mpr ⟨lw_p60, List.forall_mem_cons.mpr ⟨lw_p61, List.forall_mem_cons.mpr ⟨lw_p62, List.forall_mem_cons.mpr ⟨lw_p63, fun _ h => absurd h List.not_mem_nil⟩⟩⟩⟩⟩⟩⟩⟩⟩⟩⟩⟩⟩⟩⟩⟩
theorem lw_p64 : lw_okq (⟨"SectionLandModel", "agreed", "(II)I"⟩, 46) := ⟨⟨by decide +kernel, by decide +kernel⟩, List.mem_of_getElem? (i := 781) (by decide +kernel), List.mem_of_getElem? (i := 1187) (by decide +kernel), List.mem_of_getElem? (i := 1188) (by decide +kernel)⟩
theorem lw_p65 : lw_okq (⟨"SectionLandModel", "next", "(I)Z"⟩, 46) := ⟨⟨by decide +kernel, by decide +kernel⟩, List.mem_of_getElem? (i := 781) (by decide +kernel), List.mem_of_getElem? (i := 1191) (by decide +kernel), List.mem_of_getElem? (i := 1192) (by decide +kernel)⟩
theorem lw_p66 : lw_okq (⟨"SectionLandModel", "exchanges", "(II)V"⟩, 46) := ⟨⟨by decide +kernel, by decide +kernel⟩, List.mem_of_getElem? (i := 781) (by decide +kernel), List.mem_of_getElem? (i := 1195) (by decide +kernel), List.mem_of_getElem? (i := 1196) (by decide +kernel)⟩
theorem lw_p67 : lw_okq (⟨"SectionLandModel", "findFillings", "()Z"⟩, 46) := ⟨⟨by decide +kernel, by decide +kernel⟩, List.mem_of_getElem? (i := 781) (by decide +kernel), List.mem_of_getElem? (i := 1207) (by decide +kernel), List.mem_of_getElem? (i := 1208) (by decide +kernel)⟩
theorem lw_p68 : lw_okq (⟨"SectionLandModel", "openTo", "(I)I"⟩, 46) := ⟨⟨by decide +kernel, by decide +kernel⟩, List.mem_of_getElem? (i := 781) (by decide +kernel), List.mem_of_getElem? (i := 1211) (by decide +kernel), List.mem_of_getElem? (i := 1212) (by decide +kernel)⟩
def lw_privs_5 : List (MethodName × Nat) := [(⟨"SectionLandModel", "agreed", "(II)I"⟩, 46), (⟨"SectionLandModel", "next", "(I)Z"⟩, 46), (⟨"SectionLandModel", "exchanges", "(II)V"⟩, 46), (⟨"SectionLandModel", "findFillings", "()Z"⟩, 46), (⟨"SectionLandModel", "openTo", "(I)I"⟩, 46)]
theorem lw_r5 : ∀ q ∈ lw_privs_5, lw_okq q := List.forall_mem_cons.mpr ⟨lw_p64, List.forall_mem_cons.mpr ⟨lw_p65, List.forall_mem_cons.mpr ⟨lw_p66, List.forall_mem_cons.mpr ⟨lw_p67, List.forall_mem_cons.mpr ⟨lw_p68, fun _ h => absurd h List.not_mem_nil⟩⟩⟩⟩⟩
def lw_privs : List (MethodName × Nat) := lw_privs_1 ++ (lw_privs_2 ++ (lw_privs_3 ++ (lw_privs_4 ++ (lw_privs_5))))
def lw_tbl : List Cond := k2_sels lw_privs ++ tables_1
theorem lw_privs_ok : ∀ q ∈ lw_privs, lw_okq q := by
  show ∀ q ∈ lw_privs_1 ++ (lw_privs_2 ++ (lw_privs_3 ++ (lw_privs_4 ++ (lw_privs_5)))), lw_okq q
  exact List.forall_mem_append.mpr ⟨lw_r1, List.forall_mem_append.mpr ⟨lw_r2, List.forall_mem_append.mpr ⟨lw_r3, List.forall_mem_append.mpr ⟨lw_r4, lw_r5⟩⟩⟩⟩
-- ===== end of PART A; then your names; then what follows =====
/-! ===== BEGIN words of one list among another's, by their places ===== -/
theorem goodIn_r {big : List Cond} (ws : List Cond) (ps : List Nat) (hp : ws = ps.filterMap (fun i => big[i]?)) (h : ws.all goodWord = true) : GoodIn big ws := by
  intro w hw
  have h1 := List.all_eq_true.mp h w hw
  rw [hp] at hw
  obtain ⟨i, -, hi⟩ := List.mem_filterMap.mp hw
  have hm : w ∈ big := by first | exact List.mem_of_getElem? hi | exact List.getElem?_mem hi
  exact ⟨hm, good_of_word h1⟩
theorem goodIn_app {big a b : List Cond} (ha : GoodIn big a) (hb : GoodIn big b) : GoodIn big (a ++ b) := fun w h => (List.mem_append.mp h).elim (ha w) (hb w)
theorem goodIn_ca {big a b : List Cond} {c : Cond} (ha : GoodIn big (c :: a)) (hb : GoodIn big b) : GoodIn big (c :: (a ++ b)) := fun w h => (List.mem_cons.mp h).elim (fun e => ha w (List.mem_cons.mpr (Or.inl e))) (fun h => (List.mem_append.mp h).elim (fun h => ha w (List.mem_cons.mpr (Or.inr h))) (hb w))
theorem goodIn_sub {big ws : List Cond} (hm : ∀ w ∈ ws, w ∈ big) (h : ws.all goodWord = true) : GoodIn big ws := fun w hw => ⟨hm w hw, good_of_word (List.all_eq_true.mp h w hw)⟩
/-! ===== END ===== -/

/-! ===== BEGIN printed: names, fields, word lists, decode rows ===== -/
def RX0 : String := "SectionLand$Camp"
def TX0 : u_T := fun k => match k with
  | 0 => ("SectionLand$Camp", "from", "[I", true)
  | 1 => ("SectionLand$Camp", "system", "[I", true)
  | 2 => ("SectionLand$Camp", "by", "[I", true)
  | _ => ("SectionLand$Camp", "lawCount", "I", false)
def tyX0 : Nat → FieldType := fun k => match k with
  | 0 => .array .int
  | 1 => .array .int
  | 2 => .array .int
  | _ => .int
abbrev wsX00 : List Cond := u_ws RX0 TX0 4
theorem nmX0 : ∀ a, a < 4 → ∀ b, b < 4 → a ≠ b → (TX0 a).2.1 ≠ (TX0 b).2.1 := by decide +kernel
theorem tyX0_ok : ∀ k, k < 4 → parseFieldDescriptor (TX0 k).2.2.1 = some (tyX0 k) := by decide +kernel
abbrev cX0_init : ByteArray := prog_2_method_1_code
def yX0_init : MethodName := ⟨RX0, "<init>", "()V"⟩
abbrev cX0_enact : ByteArray := prog_2_method_2_code
def yX0_enact : MethodName := ⟨RX0, "enact", "(III)Z"⟩
abbrev cX0_lawFrom : ByteArray := prog_2_method_3_code
def yX0_lawFrom : MethodName := ⟨RX0, "lawFrom", "(I)I"⟩
abbrev cX0_lawAt : ByteArray := prog_2_method_4_code
def yX0_lawAt : MethodName := ⟨RX0, "lawAt", "(I)I"⟩
def RX1 : String := "SectionLand$Gaps"
def TX1 : u_T := fun k => match k with
  | 0 => ("SectionLand$Gaps", "tried", "[I", true)
  | 1 => ("SectionLand$Gaps", "openBits", "[I", true)
  | 2 => ("SectionLand$Gaps", "root", "[I", true)
  | _ => ("SectionLand$Gaps", "fails", "[Z", true)
def tyX1 : Nat → FieldType := fun k => match k with
  | 0 => .array .int
  | 1 => .array .int
  | 2 => .array .int
  | _ => .array .boolean
abbrev wsX10 : List Cond := u_ws RX1 TX1 4
theorem nmX1 : ∀ a, a < 4 → ∀ b, b < 4 → a ≠ b → (TX1 a).2.1 ≠ (TX1 b).2.1 := by decide +kernel
theorem tyX1_ok : ∀ k, k < 4 → parseFieldDescriptor (TX1 k).2.2.1 = some (tyX1 k) := by decide +kernel
abbrev cX1_init : ByteArray := prog_3_method_1_code
def yX1_init : MethodName := ⟨RX1, "<init>", "()V"⟩
abbrev cX1_clear : ByteArray := prog_3_method_2_code
def yX1_clear : MethodName := ⟨RX1, "clear", "(I)V"⟩
abbrev cX1_plant : ByteArray := prog_3_method_3_code
def yX1_plant : MethodName := ⟨RX1, "plant", "(IIZ)V"⟩
abbrev cX1_branch : ByteArray := prog_3_method_4_code
def yX1_branch : MethodName := ⟨RX1, "branch", "(III)V"⟩
abbrev cX1_harvest : ByteArray := prog_3_method_5_code
def yX1_harvest : MethodName := ⟨RX1, "harvest", "(I)V"⟩
abbrev cX1_areAllFilled : ByteArray := prog_3_method_6_code
def yX1_areAllFilled : MethodName := ⟨RX1, "areAllFilled", "(I)Z"⟩
def RX2 : String := "SectionLand$MarriageSystem"
def TX2 : u_T := fun k => match k with
  | 0 => ("SectionLand$MarriageSystem", "wife", "[I", true)
  | 1 => ("SectionLand$MarriageSystem", "husband", "[I", true)
  | 2 => ("SectionLand$MarriageSystem", "childOfWoman", "[I", true)
  | 3 => ("SectionLand$MarriageSystem", "childOfMan", "[I", true)
  | 4 => ("SectionLand$MarriageSystem", "mother", "[I", true)
  | 5 => ("SectionLand$MarriageSystem", "father", "[I", true)
  | 6 => ("SectionLand$MarriageSystem", "now", "[I", true)
  | 7 => ("SectionLand$MarriageSystem", "next", "[I", true)
  | _ => ("SectionLand$MarriageSystem", "n", "I", false)
def tyX2 : Nat → FieldType := fun k => match k with
  | 0 => .array .int
  | 1 => .array .int
  | 2 => .array .int
  | 3 => .array .int
  | 4 => .array .int
  | 5 => .array .int
  | 6 => .array .int
  | 7 => .array .int
  | _ => .int
abbrev wsX20 : List Cond := u_ws RX2 TX2 9
theorem nmX2 : ∀ a, a < 9 → ∀ b, b < 9 → a ≠ b → (TX2 a).2.1 ≠ (TX2 b).2.1 := by decide +kernel
theorem tyX2_ok : ∀ k, k < 9 → parseFieldDescriptor (TX2 k).2.2.1 = some (tyX2 k) := by decide +kernel
abbrev cX2_init : ByteArray := prog_4_method_1_code
def yX2_init : MethodName := ⟨RX2, "<init>", "()V"⟩
abbrev cX2_addRule : ByteArray := prog_4_method_2_code
def yX2_addRule : MethodName := ⟨RX2, "addRule", "(III)V"⟩
abbrev cX2_has : ByteArray := prog_4_method_3_code
def yX2_has : MethodName := ⟨RX2, "has", "(I)Z"⟩
abbrev cX2_childOf : ByteArray := prog_4_method_4_code
def yX2_childOf : MethodName := ⟨RX2, "childOf", "(II)I"⟩
abbrev cX2_stepFrom : ByteArray := prog_4_method_5_code
def yX2_stepFrom : MethodName := ⟨RX2, "stepFrom", "(II)I"⟩
abbrev cX2_walk : ByteArray := prog_4_method_6_code
def yX2_walk : MethodName := ⟨RX2, "walk", "(III)I"⟩
abbrev cX2_timesTillHome : ByteArray := prog_4_method_7_code
def yX2_timesTillHome : MethodName := ⟨RX2, "timesTillHome", "(II)I"⟩
abbrev cX2_waysToWife : ByteArray := prog_4_method_8_code
def yX2_waysToWife : MethodName := ⟨RX2, "waysToWife", "(II)I"⟩
abbrev cX2_halfBits : ByteArray := prog_4_method_9_code
def yX2_halfBits : MethodName := ⟨RX2, "halfBits", "(I)I"⟩
def RX3 : String := "SectionLand$Matching"
def TX3 : u_T := fun k => match k with
  | 0 => ("SectionLand$Matching", "brides", "[J", true)
  | 1 => ("SectionLand$Matching", "partner", "[I", true)
  | 2 => ("SectionLand$Matching", "queue", "[I", true)
  | 3 => ("SectionLand$Matching", "reachedFrom", "[I", true)
  | 4 => ("SectionLand$Matching", "queued", "I", false)
  | 5 => ("SectionLand$Matching", "settledMen", "J", false)
  | 6 => ("SectionLand$Matching", "settledWomen", "J", false)
  | 7 => ("SectionLand$Matching", "lackingMen", "I", false)
  | _ => ("SectionLand$Matching", "lackingWomen", "I", false)
def tyX3 : Nat → FieldType := fun k => match k with
  | 0 => .array .long
  | 1 => .array .int
  | 2 => .array .int
  | 3 => .array .int
  | 4 => .int
  | 5 => .long
  | 6 => .long
  | 7 => .int
  | _ => .int
abbrev wsX30 : List Cond := u_ws RX3 TX3 9
theorem nmX3 : ∀ a, a < 9 → ∀ b, b < 9 → a ≠ b → (TX3 a).2.1 ≠ (TX3 b).2.1 := by decide +kernel
theorem tyX3_ok : ∀ k, k < 9 → parseFieldDescriptor (TX3 k).2.2.1 = some (tyX3 k) := by decide +kernel
abbrev cX3_init : ByteArray := prog_5_method_1_code
def yX3_init : MethodName := ⟨RX3, "<init>", "()V"⟩
abbrev cX3_clear : ByteArray := prog_5_method_2_code
def yX3_clear : MethodName := ⟨RX3, "clear", "()V"⟩
abbrev cX3_allow : ByteArray := prog_5_method_3_code
def yX3_allow : MethodName := ⟨RX3, "allow", "(II)V"⟩
abbrev cX3_solve : ByteArray := prog_5_method_4_code
def yX3_solve : MethodName := ⟨RX3, "solve", "()I"⟩
abbrev cX3_isIn : ByteArray := prog_5_method_5_code
def yX3_isIn : MethodName := ⟨RX3, "isIn", "(JI)Z"⟩
abbrev cX3_queueLoneMen : ByteArray := prog_5_method_6_code
def yX3_queueLoneMen : MethodName := ⟨RX3, "queueLoneMen", "()V"⟩
abbrev cX3_findOneMore : ByteArray := prog_5_method_7_code
def yX3_findOneMore : MethodName := ⟨RX3, "findOneMore", "()Z"⟩
abbrev cX3_enqueue : ByteArray := prog_5_method_8_code
def yX3_enqueue : MethodName := ⟨RX3, "enqueue", "(I)V"⟩
abbrev cX3_changeAlong : ByteArray := prog_5_method_9_code
def yX3_changeAlong : MethodName := ⟨RX3, "changeAlong", "(I)V"⟩
abbrev cX3_couple : ByteArray := prog_5_method_10_code
def yX3_couple : MethodName := ⟨RX3, "couple", "(II)V"⟩
abbrev cX3_settle : ByteArray := prog_5_method_11_code
def yX3_settle : MethodName := ⟨RX3, "settle", "(I)V"⟩
abbrev cX3_give : ByteArray := prog_5_method_12_code
def yX3_give : MethodName := ⟨RX3, "give", "(II)Z"⟩
abbrev cX3_findLack : ByteArray := prog_5_method_13_code
def yX3_findLack : MethodName := ⟨RX3, "findLack", "()V"⟩
def RX4 : String := "SectionLand$Overlay"
def TX4 : u_T := fun k => match k with
  | 0 => ("SectionLand$Overlay", "best", "[I", true)
  | 1 => ("SectionLand$Overlay", "on", "[I", true)
  | 2 => ("SectionLand$Overlay", "used", "I", false)
  | 3 => ("SectionLand$Overlay", "bestAgreed", "I", false)
  | _ => ("SectionLand$Overlay", "n", "I", false)
def tyX4 : Nat → FieldType := fun k => match k with
  | 0 => .array .int
  | 1 => .array .int
  | 2 => .int
  | 3 => .int
  | _ => .int
abbrev wsX40 : List Cond := u_ws RX4 TX4 5
theorem nmX4 : ∀ a, a < 5 → ∀ b, b < 5 → a ≠ b → (TX4 a).2.1 ≠ (TX4 b).2.1 := by decide +kernel
theorem tyX4_ok : ∀ k, k < 5 → parseFieldDescriptor (TX4 k).2.2.1 = some (tyX4 k) := by decide +kernel
abbrev cX4_init : ByteArray := prog_6_method_1_code
def yX4_init : MethodName := ⟨RX4, "<init>", "()V"⟩
abbrev cX4_fit : ByteArray := prog_6_method_2_code
def yX4_fit : MethodName := ⟨RX4, "fit", "(LSectionLand$MarriageSystem;LSectionLand$MarriageSystem;)I"⟩
abbrev cX4_layFrom : ByteArray := prog_6_method_3_code
def yX4_layFrom : MethodName := ⟨RX4, "layFrom", "(LSectionLand$MarriageSystem;LSectionLand$MarriageSystem;II)V"⟩
abbrev cX4_missedAt : ByteArray := prog_6_method_4_code
def yX4_missedAt : MethodName := ⟨RX4, "missedAt", "([I[I[II)I"⟩
def RX5 : String := "SectionLand$People"
def TX5 : u_T := fun k => match k with
  | 0 => ("SectionLand$People", "sex", "[I", true)
  | 1 => ("SectionLand$People", "birth", "[I", true)
  | 2 => ("SectionLand$People", "death", "[I", true)
  | 3 => ("SectionLand$People", "camp", "[I", true)
  | 4 => ("SectionLand$People", "mother", "[I", true)
  | 5 => ("SectionLand$People", "father", "[I", true)
  | 6 => ("SectionLand$People", "toldClass", "[I", true)
  | 7 => ("SectionLand$People", "ownClass", "[I", true)
  | 8 => ("SectionLand$People", "otherClass", "[I", true)
  | _ => ("SectionLand$People", "size", "I", false)
def tyX5 : Nat → FieldType := fun k => match k with
  | 0 => .array .int
  | 1 => .array .int
  | 2 => .array .int
  | 3 => .array .int
  | 4 => .array .int
  | 5 => .array .int
  | 6 => .array .int
  | 7 => .array .int
  | 8 => .array .int
  | _ => .int
abbrev wsX50 : List Cond := u_ws RX5 TX5 10
theorem nmX5 : ∀ a, a < 10 → ∀ b, b < 10 → a ≠ b → (TX5 a).2.1 ≠ (TX5 b).2.1 := by decide +kernel
theorem tyX5_ok : ∀ k, k < 10 → parseFieldDescriptor (TX5 k).2.2.1 = some (tyX5 k) := by decide +kernel
abbrev cX5_init : ByteArray := prog_7_method_1_code
def yX5_init : MethodName := ⟨RX5, "<init>", "()V"⟩
abbrev cX5_add : ByteArray := prog_7_method_2_code
def yX5_add : MethodName := ⟨RX5, "add", "(III)I"⟩
abbrev cX5_has : ByteArray := prog_7_method_3_code
def yX5_has : MethodName := ⟨RX5, "has", "(I)Z"⟩
abbrev cX5_isStranger : ByteArray := prog_7_method_4_code
def yX5_isStranger : MethodName := ⟨RX5, "isStranger", "(I)Z"⟩
abbrev cX5_lives : ByteArray := prog_7_method_5_code
def yX5_lives : MethodName := ⟨RX5, "lives", "(II)Z"⟩
abbrev cX5_isParent : ByteArray := prog_7_method_6_code
def yX5_isParent : MethodName := ⟨RX5, "isParent", "(II)Z"⟩
abbrev cX5_areNear : ByteArray := prog_7_method_7_code
def yX5_areNear : MethodName := ⟨RX5, "areNear", "(II)Z"⟩
abbrev cX5_quarrels : ByteArray := prog_7_method_8_code
def yX5_quarrels : MethodName := ⟨RX5, "quarrels", "(I)Z"⟩
abbrev cX5_howManyQuarrel : ByteArray := prog_7_method_9_code
def yX5_howManyQuarrel : MethodName := ⟨RX5, "howManyQuarrel", "()I"⟩
abbrev cX5_howManyClassless : ByteArray := prog_7_method_10_code
def yX5_howManyClassless : MethodName := ⟨RX5, "howManyClassless", "()I"⟩
def RX6 : String := "SectionLand$Tape"
def TX6 : u_T := fun k => match k with
  | 0 => ("SectionLand$Tape", "bytes", "[I", true)
  | 1 => ("SectionLand$Tape", "size", "I", false)
  | 2 => ("SectionLand$Tape", "faultKind", "I", false)
  | _ => ("SectionLand$Tape", "faultPlace", "I", false)
def tyX6 : Nat → FieldType := fun k => match k with
  | 0 => .array .int
  | 1 => .int
  | 2 => .int
  | _ => .int
abbrev wsX60 : List Cond := u_ws RX6 TX6 4
theorem nmX6 : ∀ a, a < 4 → ∀ b, b < 4 → a ≠ b → (TX6 a).2.1 ≠ (TX6 b).2.1 := by decide +kernel
theorem tyX6_ok : ∀ k, k < 4 → parseFieldDescriptor (TX6 k).2.2.1 = some (tyX6 k) := by decide +kernel
abbrev cX6_init : ByteArray := prog_8_method_1_code
def yX6_init : MethodName := ⟨RX6, "<init>", "()V"⟩
abbrev cX6_append : ByteArray := prog_8_method_2_code
def yX6_append : MethodName := ⟨RX6, "append", "(JI)Z"⟩
abbrev cX6_judge : ByteArray := prog_8_method_3_code
def yX6_judge : MethodName := ⟨RX6, "judge", "()V"⟩
abbrev cX6_writeTo : ByteArray := prog_8_method_4_code
def yX6_writeTo : MethodName := ⟨RX6, "writeTo", "(LSectionLand$MarriageSystem;)V"⟩
abbrev cX6_firstMisfit : ByteArray := prog_8_method_5_code
def yX6_firstMisfit : MethodName := ⟨RX6, "firstMisfit", "()I"⟩
abbrev cX6_fits : ByteArray := prog_8_method_6_code
def yX6_fits : MethodName := ⟨RX6, "fits", "(I)Z"⟩
abbrev cX6_firstStrangeLetter : ByteArray := prog_8_method_7_code
def yX6_firstStrangeLetter : MethodName := ⟨RX6, "firstStrangeLetter", "()I"⟩
abbrev cX6_firstRepeatedLetter : ByteArray := prog_8_method_8_code
def yX6_firstRepeatedLetter : MethodName := ⟨RX6, "firstRepeatedLetter", "()I"⟩
def RX7 : String := "SectionLand$TurnGroup"
def TX7 : u_T := fun k => match k with
  | 0 => ("SectionLand$TurnGroup", "turns", "[I", true)
  | 1 => ("SectionLand$TurnGroup", "slots", "[I", true)
  | _ => ("SectionLand$TurnGroup", "size", "I", false)
def tyX7 : Nat → FieldType := fun k => match k with
  | 0 => .array .int
  | 1 => .array .int
  | _ => .int
abbrev wsX70 : List Cond := u_ws RX7 TX7 3
theorem nmX7 : ∀ a, a < 3 → ∀ b, b < 3 → a ≠ b → (TX7 a).2.1 ≠ (TX7 b).2.1 := by decide +kernel
theorem tyX7_ok : ∀ k, k < 3 → parseFieldDescriptor (TX7 k).2.2.1 = some (tyX7 k) := by decide +kernel
abbrev cX7_init : ByteArray := prog_9_method_1_code
def yX7_init : MethodName := ⟨RX7, "<init>", "()V"⟩
abbrev cX7_sizeFor : ByteArray := prog_9_method_2_code
def yX7_sizeFor : MethodName := ⟨RX7, "sizeFor", "(LSectionLand$MarriageSystem;)I"⟩
abbrev cX7_identity : ByteArray := prog_9_method_3_code
def yX7_identity : MethodName := ⟨RX7, "identity", "(I)I"⟩
abbrev cX7_turned : ByteArray := prog_9_method_4_code
def yX7_turned : MethodName := ⟨RX7, "turned", "(I[II)I"⟩
abbrev cX7_add : ByteArray := prog_9_method_5_code
def yX7_add : MethodName := ⟨RX7, "add", "(I)V"⟩
def RX8 : String := "SectionLand$Weddings"
def TX8 : u_T := fun k => match k with
  | 0 => ("SectionLand$Weddings", "man", "[I", true)
  | 1 => ("SectionLand$Weddings", "woman", "[I", true)
  | 2 => ("SectionLand$Weddings", "year", "[I", true)
  | _ => ("SectionLand$Weddings", "size", "I", false)
def tyX8 : Nat → FieldType := fun k => match k with
  | 0 => .array .int
  | 1 => .array .int
  | 2 => .array .int
  | _ => .int
abbrev wsX80 : List Cond := u_ws RX8 TX8 4
theorem nmX8 : ∀ a, a < 4 → ∀ b, b < 4 → a ≠ b → (TX8 a).2.1 ≠ (TX8 b).2.1 := by decide +kernel
theorem tyX8_ok : ∀ k, k < 4 → parseFieldDescriptor (TX8 k).2.2.1 = some (tyX8 k) := by decide +kernel
abbrev cX8_init : ByteArray := prog_10_method_1_code
def yX8_init : MethodName := ⟨RX8, "<init>", "()V"⟩
abbrev cX8_add : ByteArray := prog_10_method_2_code
def yX8_add : MethodName := ⟨RX8, "add", "(III)Z"⟩
abbrev cX8_lasts : ByteArray := prog_10_method_3_code
def yX8_lasts : MethodName := ⟨RX8, "lasts", "(LSectionLand$People;II)Z"⟩
abbrev cX8_partnerOf : ByteArray := prog_10_method_4_code
def yX8_partnerOf : MethodName := ⟨RX8, "partnerOf", "(LSectionLand$People;II)I"⟩
def RX9 : String := "SectionLand"
def TX9 : u_T := fun k => match k with
  | 0 => ("SectionLand", "tape", "LSectionLand$Tape;", true)
  | 1 => ("SectionLand", "systems", "[LSectionLand$MarriageSystem;", true)
  | 2 => ("SectionLand", "camps", "[LSectionLand$Camp;", true)
  | 3 => ("SectionLand", "people", "LSectionLand$People;", true)
  | 4 => ("SectionLand", "weddings", "LSectionLand$Weddings;", true)
  | 5 => ("SectionLand", "turns", "LSectionLand$TurnGroup;", true)
  | 6 => ("SectionLand", "matching", "LSectionLand$Matching;", true)
  | 7 => ("SectionLand", "overlay", "LSectionLand$Overlay;", true)
  | 8 => ("SectionLand", "gaps", "LSectionLand$Gaps;", true)
  | 9 => ("SectionLand", "systemCount", "I", false)
  | 10 => ("SectionLand", "campCount", "I", false)
  | _ => ("SectionLand", "marryAge", "I", false)
def tyX9 : Nat → FieldType := fun k => match k with
  | 0 => .object "SectionLand$Tape"
  | 1 => .array (.object "SectionLand$MarriageSystem")
  | 2 => .array (.object "SectionLand$Camp")
  | 3 => .object "SectionLand$People"
  | 4 => .object "SectionLand$Weddings"
  | 5 => .object "SectionLand$TurnGroup"
  | 6 => .object "SectionLand$Matching"
  | 7 => .object "SectionLand$Overlay"
  | 8 => .object "SectionLand$Gaps"
  | 9 => .int
  | 10 => .int
  | _ => .int
abbrev wsX90 : List Cond := u_ws RX9 TX9 12
theorem nmX9 : ∀ a, a < 12 → ∀ b, b < 12 → a ≠ b → (TX9 a).2.1 ≠ (TX9 b).2.1 := by decide +kernel
theorem tyX9_ok : ∀ k, k < 12 → parseFieldDescriptor (TX9 k).2.2.1 = some (tyX9 k) := by decide +kernel
abbrev cX9_init : ByteArray := prog_1_method_1_code
def yX9_init : MethodName := ⟨RX9, "<init>", "()V"⟩
abbrev cX9_feed : ByteArray := prog_1_method_2_code
def yX9_feed : MethodName := ⟨RX9, "feed", "(JI)I"⟩
abbrev cX9_system : ByteArray := prog_1_method_3_code
def yX9_system : MethodName := ⟨RX9, "system", "()I"⟩
abbrev cX9_fault : ByteArray := prog_1_method_4_code
def yX9_fault : MethodName := ⟨RX9, "fault", "(I)I"⟩
abbrev cX9_table : ByteArray := prog_1_method_5_code
def yX9_table : MethodName := ⟨RX9, "table", "(III)I"⟩
abbrev cX9_kin : ByteArray := prog_1_method_6_code
def yX9_kin : MethodName := ⟨RX9, "kin", "(IIII)I"⟩
abbrev cX9_alike : ByteArray := prog_1_method_7_code
def yX9_alike : MethodName := ⟨RX9, "alike", "(IIII)I"⟩
abbrev cX9_home : ByteArray := prog_1_method_8_code
def yX9_home : MethodName := ⟨RX9, "home", "(III)I"⟩
abbrev cX9_brides : ByteArray := prog_1_method_9_code
def yX9_brides : MethodName := ⟨RX9, "brides", "(III)I"⟩
abbrev cX9_group : ByteArray := prog_1_method_10_code
def yX9_group : MethodName := ⟨RX9, "group", "(I)I"⟩
abbrev cX9_half : ByteArray := prog_1_method_11_code
def yX9_half : MethodName := ⟨RX9, "half", "(II)I"⟩
abbrev cX9_halves : ByteArray := prog_1_method_12_code
def yX9_halves : MethodName := ⟨RX9, "halves", "(II)I"⟩
abbrev cX9_camp : ByteArray := prog_1_method_13_code
def yX9_camp : MethodName := ⟨RX9, "camp", "(II)I"⟩
abbrev cX9_law : ByteArray := prog_1_method_14_code
def yX9_law : MethodName := ⟨RX9, "law", "(IIII)I"⟩
abbrev cX9_stranger : ByteArray := prog_1_method_15_code
def yX9_stranger : MethodName := ⟨RX9, "stranger", "(IIII)I"⟩
abbrev cX9_born : ByteArray := prog_1_method_16_code
def yX9_born : MethodName := ⟨RX9, "born", "(IIII)I"⟩
abbrev cX9_die : ByteArray := prog_1_method_17_code
def yX9_die : MethodName := ⟨RX9, "die", "(II)I"⟩
abbrev cX9_age : ByteArray := prog_1_method_18_code
def yX9_age : MethodName := ⟨RX9, "age", "(I)I"⟩
abbrev cX9_marry : ByteArray := prog_1_method_19_code
def yX9_marry : MethodName := ⟨RX9, "marry", "(III)I"⟩
abbrev cX9_may : ByteArray := prog_1_method_20_code
def yX9_may : MethodName := ⟨RX9, "may", "(III)I"⟩
abbrev cX9_about : ByteArray := prog_1_method_21_code
def yX9_about : MethodName := ⟨RX9, "about", "(II)I"⟩
abbrev cX9_spouse : ByteArray := prog_1_method_22_code
def yX9_spouse : MethodName := ⟨RX9, "spouse", "(II)I"⟩
abbrev cX9_children : ByteArray := prog_1_method_23_code
def yX9_children : MethodName := ⟨RX9, "children", "(II)I"⟩
abbrev cX9_living : ByteArray := prog_1_method_24_code
def yX9_living : MethodName := ⟨RX9, "living", "(III)I"⟩
abbrev cX9_marriages : ByteArray := prog_1_method_25_code
def yX9_marriages : MethodName := ⟨RX9, "marriages", "(II)I"⟩
abbrev cX9_match : ByteArray := prog_1_method_26_code
def yX9_match : MethodName := ⟨RX9, "match", "(II)I"⟩
abbrev cX9_matched : ByteArray := prog_1_method_27_code
def yX9_matched : MethodName := ⟨RX9, "matched", "(I)I"⟩
abbrev cX9_lack : ByteArray := prog_1_method_28_code
def yX9_lack : MethodName := ⟨RX9, "lack", "(I)I"⟩
abbrev cX9_lay : ByteArray := prog_1_method_29_code
def yX9_lay : MethodName := ⟨RX9, "lay", "(II)I"⟩
abbrev cX9_lies : ByteArray := prog_1_method_30_code
def yX9_lies : MethodName := ⟨RX9, "lies", "(I)I"⟩
abbrev cX9_open : ByteArray := prog_1_method_31_code
def yX9_open : MethodName := ⟨RX9, "open", "(I)I"⟩
abbrev cX9_sure : ByteArray := prog_1_method_32_code
def yX9_sure : MethodName := ⟨RX9, "sure", "()I"⟩
abbrev cX9_count : ByteArray := prog_1_method_33_code
def yX9_count : MethodName := ⟨RX9, "count", "(I)I"⟩
abbrev cX9_isSystem : ByteArray := prog_1_method_34_code
def yX9_isSystem : MethodName := ⟨RX9, "isSystem", "(I)Z"⟩
abbrev cX9_isClass : ByteArray := prog_1_method_35_code
def yX9_isClass : MethodName := ⟨RX9, "isClass", "(II)Z"⟩
abbrev cX9_isCamp : ByteArray := prog_1_method_36_code
def yX9_isCamp : MethodName := ⟨RX9, "isCamp", "(I)Z"⟩
abbrev cX9_isSex : ByteArray := prog_1_method_37_code
def yX9_isSex : MethodName := ⟨RX9, "isSex", "(I)Z"⟩
abbrev cX9_isYear : ByteArray := prog_1_method_38_code
def yX9_isYear : MethodName := ⟨RX9, "isYear", "(I)Z"⟩
abbrev cX9_isWay : ByteArray := prog_1_method_39_code
def yX9_isWay : MethodName := ⟨RX9, "isWay", "(I)Z"⟩
abbrev cX9_systemAt : ByteArray := prog_1_method_40_code
def yX9_systemAt : MethodName := ⟨RX9, "systemAt", "(II)I"⟩
abbrev cX9_birthSystem : ByteArray := prog_1_method_41_code
def yX9_birthSystem : MethodName := ⟨RX9, "birthSystem", "(I)LSectionLand$MarriageSystem;"⟩
abbrev cX9_isByMother : ByteArray := prog_1_method_42_code
def yX9_isByMother : MethodName := ⟨RX9, "isByMother", "(I)Z"⟩
abbrev cX9_classify : ByteArray := prog_1_method_43_code
def yX9_classify : MethodName := ⟨RX9, "classify", "(I)V"⟩
abbrev cX9_canBear : ByteArray := prog_1_method_44_code
def yX9_canBear : MethodName := ⟨RX9, "canBear", "(III)Z"⟩
abbrev cX9_ownHindrance : ByteArray := prog_1_method_45_code
def yX9_ownHindrance : MethodName := ⟨RX9, "ownHindrance", "(II)I"⟩
abbrev cX9_pairHindrance : ByteArray := prog_1_method_46_code
def yX9_pairHindrance : MethodName := ⟨RX9, "pairHindrance", "(III)I"⟩
abbrev cX9_isRight : ByteArray := prog_1_method_47_code
def yX9_isRight : MethodName := ⟨RX9, "isRight", "(III)Z"⟩
abbrev cX9_isReady : ByteArray := prog_1_method_48_code
def yX9_isReady : MethodName := ⟨RX9, "isReady", "(IIII)Z"⟩
abbrev cX9_noteBrides : ByteArray := prog_1_method_49_code
def yX9_noteBrides : MethodName := ⟨RX9, "noteBrides", "(III)V"⟩
abbrev cX9_fillGaps : ByteArray := prog_1_method_50_code
def yX9_fillGaps : MethodName := ⟨RX9, "fillGaps", "()Z"⟩
abbrev cX9_mayBeOf : ByteArray := prog_1_method_51_code
def yX9_mayBeOf : MethodName := ⟨RX9, "mayBeOf", "(II)Z"⟩
abbrev cX9_growChild : ByteArray := prog_1_method_52_code
def yX9_growChild : MethodName := ⟨RX9, "growChild", "(I)V"⟩
def RX10 : String := "SectionLandModel"
def TX10 : u_T := fun k => match k with
  | 0 => ("SectionLandModel", "size", "[I", true)
  | 1 => ("SectionLandModel", "wife", "[I", true)
  | 2 => ("SectionLandModel", "womans", "[I", true)
  | 3 => ("SectionLandModel", "mans", "[I", true)
  | 4 => ("SectionLandModel", "systems", "I", false)
  | 5 => ("SectionLandModel", "tape", "[I", true)
  | 6 => ("SectionLandModel", "taped", "I", false)
  | 7 => ("SectionLandModel", "faultKind", "I", false)
  | 8 => ("SectionLandModel", "faultPlace", "I", false)
  | 9 => ("SectionLandModel", "turned", "[I", true)
  | 10 => ("SectionLandModel", "turns", "[I", true)
  | 11 => ("SectionLandModel", "laws", "[I", true)
  | 12 => ("SectionLandModel", "lawYear", "[I", true)
  | 13 => ("SectionLandModel", "lawSystem", "[I", true)
  | 14 => ("SectionLandModel", "lawBy", "[I", true)
  | 15 => ("SectionLandModel", "camps", "I", false)
  | 16 => ("SectionLandModel", "people", "I", false)
  | 17 => ("SectionLandModel", "marriages", "I", false)
  | 18 => ("SectionLandModel", "age", "I", false)
  | 19 => ("SectionLandModel", "sex", "[I", true)
  | 20 => ("SectionLandModel", "birth", "[I", true)
  | 21 => ("SectionLandModel", "death", "[I", true)
  | 22 => ("SectionLandModel", "campOf", "[I", true)
  | 23 => ("SectionLandModel", "mother", "[I", true)
  | 24 => ("SectionLandModel", "father", "[I", true)
  | 25 => ("SectionLandModel", "told", "[I", true)
  | 26 => ("SectionLandModel", "man", "[I", true)
  | 27 => ("SectionLandModel", "woman", "[I", true)
  | 28 => ("SectionLandModel", "year", "[I", true)
  | 29 => ("SectionLandModel", "own", "[I", true)
  | 30 => ("SectionLandModel", "others", "[I", true)
  | 31 => ("SectionLandModel", "mays", "[Z", true)
  | 32 => ("SectionLandModel", "has", "[I", true)
  | 33 => ("SectionLandModel", "from", "[I", true)
  | 34 => ("SectionLandModel", "queue", "[I", true)
  | 35 => ("SectionLandModel", "settled", "[I", true)
  | 36 => ("SectionLandModel", "lackMen", "I", false)
  | 37 => ("SectionLandModel", "lackWomen", "I", false)
  | 38 => ("SectionLandModel", "couple", "[I", true)
  | 39 => ("SectionLandModel", "isFound", "[Z", true)
  | 40 => ("SectionLandModel", "lying", "[I", true)
  | 41 => ("SectionLandModel", "best", "[I", true)
  | 42 => ("SectionLandModel", "bestSize", "I", false)
  | 43 => ("SectionLandModel", "root", "[I", true)
  | 44 => ("SectionLandModel", "image", "[I", true)
  | _ => ("SectionLandModel", "allowed", "[I", true)
def tyX10 : Nat → FieldType := fun k => match k with
  | 0 => .array .int
  | 1 => .array .int
  | 2 => .array .int
  | 3 => .array .int
  | 4 => .int
  | 5 => .array .int
  | 6 => .int
  | 7 => .int
  | 8 => .int
  | 9 => .array .int
  | 10 => .array .int
  | 11 => .array .int
  | 12 => .array .int
  | 13 => .array .int
  | 14 => .array .int
  | 15 => .int
  | 16 => .int
  | 17 => .int
  | 18 => .int
  | 19 => .array .int
  | 20 => .array .int
  | 21 => .array .int
  | 22 => .array .int
  | 23 => .array .int
  | 24 => .array .int
  | 25 => .array .int
  | 26 => .array .int
  | 27 => .array .int
  | 28 => .array .int
  | 29 => .array .int
  | 30 => .array .int
  | 31 => .array .boolean
  | 32 => .array .int
  | 33 => .array .int
  | 34 => .array .int
  | 35 => .array .int
  | 36 => .int
  | 37 => .int
  | 38 => .array .int
  | 39 => .array .boolean
  | 40 => .array .int
  | 41 => .array .int
  | 42 => .int
  | 43 => .array .int
  | 44 => .array .int
  | _ => .array .int
abbrev wsX100 : List Cond := u_ws RX10 TX10 46
theorem nmX10 : ∀ a, a < 46 → ∀ b, b < 46 → a ≠ b → (TX10 a).2.1 ≠ (TX10 b).2.1 := by decide +kernel
theorem tyX10_ok : ∀ k, k < 46 → parseFieldDescriptor (TX10 k).2.2.1 = some (tyX10 k) := by decide +kernel
abbrev cX10_init : ByteArray := prog_12_method_1_code
def yX10_init : MethodName := ⟨RX10, "<init>", "()V"⟩
abbrev cX10_isIn : ByteArray := prog_12_method_2_code
def yX10_isIn : MethodName := ⟨RX10, "isIn", "(JJJ)Z"⟩
abbrev cX10_isSystem : ByteArray := prog_12_method_3_code
def yX10_isSystem : MethodName := ⟨RX10, "isSystem", "(I)Z"⟩
abbrev cX10_isClass : ByteArray := prog_12_method_4_code
def yX10_isClass : MethodName := ⟨RX10, "isClass", "(II)Z"⟩
abbrev cX10_feed : ByteArray := prog_12_method_5_code
def yX10_feed : MethodName := ⟨RX10, "feed", "(JI)I"⟩
abbrev cX10_isLetter : ByteArray := prog_12_method_6_code
def yX10_isLetter : MethodName := ⟨RX10, "isLetter", "(I)Z"⟩
abbrev cX10_broken : ByteArray := prog_12_method_7_code
def yX10_broken : MethodName := ⟨RX10, "broken", "()I"⟩
abbrev cX10_foreign : ByteArray := prog_12_method_8_code
def yX10_foreign : MethodName := ⟨RX10, "foreign", "(I)I"⟩
abbrev cX10_again : ByteArray := prog_12_method_9_code
def yX10_again : MethodName := ⟨RX10, "again", "()I"⟩
abbrev cX10_system : ByteArray := prog_12_method_10_code
def yX10_system : MethodName := ⟨RX10, "system", "()I"⟩
abbrev cX10_fault : ByteArray := prog_12_method_11_code
def yX10_fault : MethodName := ⟨RX10, "fault", "(I)I"⟩
abbrev cX10_back : ByteArray := prog_12_method_12_code
def yX10_back : MethodName := ⟨RX10, "back", "([III)I"⟩
abbrev cX10_table : ByteArray := prog_12_method_13_code
def yX10_table : MethodName := ⟨RX10, "table", "(III)I"⟩
abbrev cX10_isWay : ByteArray := prog_12_method_14_code
def yX10_isWay : MethodName := ⟨RX10, "isWay", "(I)Z"⟩
abbrev cX10_isSex : ByteArray := prog_12_method_15_code
def yX10_isSex : MethodName := ⟨RX10, "isSex", "(I)Z"⟩
abbrev cX10_sexBehind : ByteArray := prog_12_method_16_code
def yX10_sexBehind : MethodName := ⟨RX10, "sexBehind", "(II)I"⟩
abbrev cX10_classBehind : ByteArray := prog_12_method_17_code
def yX10_classBehind : MethodName := ⟨RX10, "classBehind", "(IIII)I"⟩
abbrev cX10_leads : ByteArray := prog_12_method_18_code
def yX10_leads : MethodName := ⟨RX10, "leads", "(IIII)I"⟩
abbrev cX10_sexOf : ByteArray := prog_12_method_19_code
def yX10_sexOf : MethodName := ⟨RX10, "sexOf", "(II)I"⟩
abbrev cX10_kin : ByteArray := prog_12_method_20_code
def yX10_kin : MethodName := ⟨RX10, "kin", "(IIII)I"⟩
abbrev cX10_alike : ByteArray := prog_12_method_21_code
def yX10_alike : MethodName := ⟨RX10, "alike", "(IIII)I"⟩
abbrev cX10_home : ByteArray := prog_12_method_22_code
def yX10_home : MethodName := ⟨RX10, "home", "(III)I"⟩
abbrev cX10_brides : ByteArray := prog_12_method_23_code
def yX10_brides : MethodName := ⟨RX10, "brides", "(III)I"⟩
abbrev cX10_behind : ByteArray := prog_12_method_24_code
def yX10_behind : MethodName := ⟨RX10, "behind", "(II[I)I"⟩
abbrev cX10_isNew : ByteArray := prog_12_method_25_code
def yX10_isNew : MethodName := ⟨RX10, "isNew", "(II)Z"⟩
abbrev cX10_group : ByteArray := prog_12_method_26_code
def yX10_group : MethodName := ⟨RX10, "group", "(I)I"⟩
abbrev cX10_halfOf : ByteArray := prog_12_method_27_code
def yX10_halfOf : MethodName := ⟨RX10, "halfOf", "(II)I"⟩
abbrev cX10_half : ByteArray := prog_12_method_28_code
def yX10_half : MethodName := ⟨RX10, "half", "(II)I"⟩
abbrev cX10_halves : ByteArray := prog_12_method_29_code
def yX10_halves : MethodName := ⟨RX10, "halves", "(II)I"⟩
abbrev cX10_isCamp : ByteArray := prog_12_method_30_code
def yX10_isCamp : MethodName := ⟨RX10, "isCamp", "(I)Z"⟩
abbrev cX10_isPerson : ByteArray := prog_12_method_31_code
def yX10_isPerson : MethodName := ⟨RX10, "isPerson", "(I)Z"⟩
abbrev cX10_camp : ByteArray := prog_12_method_32_code
def yX10_camp : MethodName := ⟨RX10, "camp", "(II)I"⟩
abbrev cX10_law : ByteArray := prog_12_method_33_code
def yX10_law : MethodName := ⟨RX10, "law", "(IIII)I"⟩
abbrev cX10_lawOf : ByteArray := prog_12_method_34_code
def yX10_lawOf : MethodName := ⟨RX10, "lawOf", "(II)I"⟩
abbrev cX10_isYear : ByteArray := prog_12_method_35_code
def yX10_isYear : MethodName := ⟨RX10, "isYear", "(I)Z"⟩
abbrev cX10_comes : ByteArray := prog_12_method_36_code
def yX10_comes : MethodName := ⟨RX10, "comes", "(IIIIII)I"⟩
abbrev cX10_stranger : ByteArray := prog_12_method_37_code
def yX10_stranger : MethodName := ⟨RX10, "stranger", "(IIII)I"⟩
abbrev cX10_lives : ByteArray := prog_12_method_38_code
def yX10_lives : MethodName := ⟨RX10, "lives", "(II)Z"⟩
abbrev cX10_born : ByteArray := prog_12_method_39_code
def yX10_born : MethodName := ⟨RX10, "born", "(IIII)I"⟩
abbrev cX10_die : ByteArray := prog_12_method_40_code
def yX10_die : MethodName := ⟨RX10, "die", "(II)I"⟩
abbrev cX10_age : ByteArray := prog_12_method_41_code
def yX10_age : MethodName := ⟨RX10, "age", "(I)I"⟩
abbrev cX10_childOf : ByteArray := prog_12_method_42_code
def yX10_childOf : MethodName := ⟨RX10, "childOf", "(IIZ)I"⟩
abbrev cX10_findClasses : ByteArray := prog_12_method_43_code
def yX10_findClasses : MethodName := ⟨RX10, "findClasses", "()V"⟩
abbrev cX10_quarrels : ByteArray := prog_12_method_44_code
def yX10_quarrels : MethodName := ⟨RX10, "quarrels", "(I)Z"⟩
abbrev cX10_isRight : ByteArray := prog_12_method_45_code
def yX10_isRight : MethodName := ⟨RX10, "isRight", "(III)Z"⟩
abbrev cX10_lasts : ByteArray := prog_12_method_46_code
def yX10_lasts : MethodName := ⟨RX10, "lasts", "(II)Z"⟩
abbrev cX10_spouseOf : ByteArray := prog_12_method_47_code
def yX10_spouseOf : MethodName := ⟨RX10, "spouseOf", "(II)I"⟩
abbrev cX10_areNear : ByteArray := prog_12_method_48_code
def yX10_areNear : MethodName := ⟨RX10, "areNear", "(II)Z"⟩
abbrev cX10_hinders : ByteArray := prog_12_method_49_code
def yX10_hinders : MethodName := ⟨RX10, "hinders", "(III)I"⟩
abbrev cX10_marry : ByteArray := prog_12_method_50_code
def yX10_marry : MethodName := ⟨RX10, "marry", "(III)I"⟩
abbrev cX10_may : ByteArray := prog_12_method_51_code
def yX10_may : MethodName := ⟨RX10, "may", "(III)I"⟩
abbrev cX10_about : ByteArray := prog_12_method_52_code
def yX10_about : MethodName := ⟨RX10, "about", "(II)I"⟩
abbrev cX10_spouse : ByteArray := prog_12_method_53_code
def yX10_spouse : MethodName := ⟨RX10, "spouse", "(II)I"⟩
abbrev cX10_children : ByteArray := prog_12_method_54_code
def yX10_children : MethodName := ⟨RX10, "children", "(II)I"⟩
abbrev cX10_living : ByteArray := prog_12_method_55_code
def yX10_living : MethodName := ⟨RX10, "living", "(III)I"⟩
abbrev cX10_marriages : ByteArray := prog_12_method_56_code
def yX10_marriages : MethodName := ⟨RX10, "marriages", "(II)I"⟩
abbrev cX10_grows : ByteArray := prog_12_method_57_code
def yX10_grows : MethodName := ⟨RX10, "grows", "(I)Z"⟩
abbrev cX10_changes : ByteArray := prog_12_method_58_code
def yX10_changes : MethodName := ⟨RX10, "changes", "(I)V"⟩
abbrev cX10_greatest : ByteArray := prog_12_method_59_code
def yX10_greatest : MethodName := ⟨RX10, "greatest", "(I)I"⟩
abbrev cX10_findMays : ByteArray := prog_12_method_60_code
def yX10_findMays : MethodName := ⟨RX10, "findMays", "(II)V"⟩
abbrev cX10_match : ByteArray := prog_12_method_61_code
def yX10_match : MethodName := ⟨RX10, "match", "(II)I"⟩
abbrev cX10_maySome : ByteArray := prog_12_method_62_code
def yX10_maySome : MethodName := ⟨RX10, "maySome", "(I)Z"⟩
abbrev cX10_findLack : ByteArray := prog_12_method_63_code
def yX10_findLack : MethodName := ⟨RX10, "findLack", "()V"⟩
abbrev cX10_matched : ByteArray := prog_12_method_64_code
def yX10_matched : MethodName := ⟨RX10, "matched", "(I)I"⟩
abbrev cX10_lack : ByteArray := prog_12_method_65_code
def yX10_lack : MethodName := ⟨RX10, "lack", "(I)I"⟩
abbrev cX10_agreed : ByteArray := prog_12_method_66_code
def yX10_agreed : MethodName := ⟨RX10, "agreed", "(II)I"⟩
abbrev cX10_next : ByteArray := prog_12_method_67_code
def yX10_next : MethodName := ⟨RX10, "next", "(I)Z"⟩
abbrev cX10_exchanges : ByteArray := prog_12_method_68_code
def yX10_exchanges : MethodName := ⟨RX10, "exchanges", "(II)V"⟩
abbrev cX10_lay : ByteArray := prog_12_method_69_code
def yX10_lay : MethodName := ⟨RX10, "lay", "(II)I"⟩
abbrev cX10_lies : ByteArray := prog_12_method_70_code
def yX10_lies : MethodName := ⟨RX10, "lies", "(I)I"⟩
abbrev cX10_findFillings : ByteArray := prog_12_method_71_code
def yX10_findFillings : MethodName := ⟨RX10, "findFillings", "()Z"⟩
abbrev cX10_openTo : ByteArray := prog_12_method_72_code
def yX10_openTo : MethodName := ⟨RX10, "openTo", "(I)I"⟩
abbrev cX10_open : ByteArray := prog_12_method_73_code
def yX10_open : MethodName := ⟨RX10, "open", "(I)I"⟩
abbrev cX10_sure : ByteArray := prog_12_method_74_code
def yX10_sure : MethodName := ⟨RX10, "sure", "()I"⟩
abbrev cX10_count : ByteArray := prog_12_method_75_code
def yX10_count : MethodName := ⟨RX10, "count", "(I)I"⟩
def RJ6 : String := "java/lang/Integer"
def TJ6 : u_T := fun k => match k with
  | _ => ("", "", "", false)
def tyJ6 : Nat → FieldType := fun k => match k with
  | _ => .int
abbrev wsJ60 : List Cond := u_ws RJ6 TJ6 0
theorem nmJ6 : ∀ a, a < 0 → ∀ b, b < 0 → a ≠ b → (TJ6 a).2.1 ≠ (TJ6 b).2.1 := by decide +kernel
theorem tyJ6_ok : ∀ k, k < 0 → parseFieldDescriptor (TJ6 k).2.2.1 = some (tyJ6 k) := by decide +kernel
abbrev cJ6_bitCount_0f7a4 : ByteArray := prog_13_method_49_code
def yJ6_bitCount_0f7a4 : MethodName := ⟨RJ6, "bitCount", "(I)I"⟩
def RJ13 : String := "java/lang/Long"
def TJ13 : u_T := fun k => match k with
  | _ => ("", "", "", false)
def tyJ13 : Nat → FieldType := fun k => match k with
  | _ => .int
abbrev wsJ130 : List Cond := u_ws RJ13 TJ13 0
theorem nmJ13 : ∀ a, a < 0 → ∀ b, b < 0 → a ≠ b → (TJ13 a).2.1 ≠ (TJ13 b).2.1 := by decide +kernel
theorem tyJ13_ok : ∀ k, k < 0 → parseFieldDescriptor (TJ13 k).2.2.1 = some (tyJ13 k) := by decide +kernel
abbrev cJ13_bitCount_95d88 : ByteArray := prog_14_method_50_code
def yJ13_bitCount_95d88 : MethodName := ⟨RJ13, "bitCount", "(J)I"⟩
def RJ9 : String := "java/lang/Math"
def TJ9 : u_T := fun k => match k with
  | _ => ("", "", "", false)
def tyJ9 : Nat → FieldType := fun k => match k with
  | _ => .int
abbrev wsJ90 : List Cond := u_ws RJ9 TJ9 0
theorem nmJ9 : ∀ a, a < 0 → ∀ b, b < 0 → a ≠ b → (TJ9 a).2.1 ≠ (TJ9 b).2.1 := by decide +kernel
theorem tyJ9_ok : ∀ k, k < 0 → parseFieldDescriptor (TJ9 k).2.2.1 = some (tyJ9 k) := by decide +kernel
abbrev cJ9_min_7cf53 : ByteArray := prog_15_method_69_code
def yJ9_min_7cf53 : MethodName := ⟨RJ9, "min", "(II)I"⟩
def RJ10 : String := "java/lang/System"
def TJ10 : u_T := fun k => match k with
  | _ => ("", "", "", false)
def tyJ10 : Nat → FieldType := fun k => match k with
  | _ => .int
abbrev wsJ100 : List Cond := u_ws RJ10 TJ10 0
theorem nmJ10 : ∀ a, a < 0 → ∀ b, b < 0 → a ≠ b → (TJ10 a).2.1 ≠ (TJ10 b).2.1 := by decide +kernel
theorem tyJ10_ok : ∀ k, k < 0 → parseFieldDescriptor (TJ10 k).2.2.1 = some (tyJ10 k) := by decide +kernel
def RJ7 : String := "java/util/Arrays"
def TJ7 : u_T := fun k => match k with
  | _ => ("", "", "", false)
def tyJ7 : Nat → FieldType := fun k => match k with
  | _ => .int
abbrev wsJ70 : List Cond := u_ws RJ7 TJ7 0
theorem nmJ7 : ∀ a, a < 0 → ∀ b, b < 0 → a ≠ b → (TJ7 a).2.1 ≠ (TJ7 b).2.1 := by decide +kernel
theorem tyJ7_ok : ∀ k, k < 0 → parseFieldDescriptor (TJ7 k).2.2.1 = some (tyJ7 k) := by decide +kernel
abbrev cJ7_fill_d0a16 : ByteArray := prog_17_method_101_code
def yJ7_fill_d0a16 : MethodName := ⟨RJ7, "fill", "([JJ)V"⟩
abbrev cJ7_fill_53178 : ByteArray := prog_17_method_103_code
def yJ7_fill_53178 : MethodName := ⟨RJ7, "fill", "([II)V"⟩
def RL : String := "SectionLandLaw"
abbrev cL_law : ByteArray := code
def yL_law : MethodName := ⟨RL, "law", "([I)Z"⟩
/-! THE CLAIM OUT OF ONE WALK OF THE LAW'S BODY. Your part is whole_start (and what it stands on); all else here is the same for every law, but numbers. -/
def R_law : String := "SectionLandLaw"
def lw_P (b : Addr) (xs : List Int32) (args : Array Value) (s : State) : Prop := args = #[.ref b] ∧ s.IntsAt b xs ∧ xs.length ≤ 2560 ∧ (Jvm.Cond.and given_1 narrow_1).before args s = true
def lw_Q (_ : Array Value) (s : State) (o : Outcome) (t : State) : Prop := o = .returned (some (.int 1)) ∧ Framed s o t [] 600000 7302250
def lw_Z (below : List Frame) (a : Array Value) (s : State) : State → Prop := fun t => ∃ o, t.status = .running ∧ Ended t below o ∧ lw_Q a s o t
/-- the law's own end, with 1 on the stack, nothing written that was there before, its room as the claim has it -/
theorem lw_ret {p : Program} {l : Launch} {e : Env} {s : State} {m : MethodId} {below : List Frame} {meth : Method} {c : Code} {b : Nat} (hx : p.tables.exec = Jvm.exec) (hb : c.code = code) (hr : meth.sig.returnType = ret) (hlocks : meth.locks = false) {pc : Nat} {H : Heap} {ls : Array Slot} (hdg : decode code pc = .ok (.ireturn, 1)) : W p l e room_1 s m #[Value.ref b] below meth c H [] 600000 7302250 (lw_Z below #[Value.ref b] s) (F0 m pc ls [.int 1]) := by
  intro T hT X
  obtain ⟨fs, hret, hrun, hended, hW, hframe⟩ := X.leave (v := some (.int 1)) (hlocks := hlocks) (fun h => by rw [hr] at h; cases h)
  have hmeth' : T.vm.method? m = some meth := X.method'
  refine ⟨T.setFrames fs, ?_, .returned (some (.int 1)), hrun, hended, rfl, ⟨_, rfl⟩, hW, hframe⟩
  jvm_step X.here [X.here.top, hx, hb, hdg, hmeth', hr, ret, narrow_b1]
  (try refine ⟨rfl, ?_⟩); (try refine ⟨rfl, ?_⟩)
  first | (intro acts; rw [hret _ acts rfl rfl rfl]) | rw [hret _ _ rfl rfl rfl]
  exact Steps.refl _
/-- what holds at the law's entry: the machine, the code, the tables' words (any of lw_tbl by 'hts w (by decide +kernel)'), the script of L ints xs at the cell b, what the Statement gives of the start (any of its parts by flat_of_before) -/
def lw_At (p : Program) (s : State) (m : MethodId) (meth : Method) (c : Code) (b L : Nat) (xs : Nat → Int32) : Prop :=
  p.tables.exec = Jvm.exec ∧ c.code = code ∧ meth.sig.returnType = ret ∧ c.maxLocals = 4 ∧ s.vm.findClass R_law = some m.cls ∧ (∀ w ∈ lw_tbl, w.before #[Value.ref b] s = true) ∧ va_X b L xs s s.heap ∧ b < s.heap.size ∧ meth.locks = false ∧ (Jvm.Cond.and given_1 narrow_1).before #[Value.ref b] s = true
