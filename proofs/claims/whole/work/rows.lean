section
-- ===== PART A: goes FIRST, ahead of the names: the tables' words, and 'selects' of the private methods out of them =====
/-- a private method of a class that the tables say can be made, by its rows of tables_1 -/
def lw_okq (q : MethodName × Nat) : Prop := (q.1.cls ≠ "java/lang/invoke/MethodHandle" ∧ q.1.cls ≠ "java/lang/invoke/VarHandle") ∧ Cond.instantiable q.1.cls q.2 ∈ tables_1 ∧ Cond.privateMethod q.1 ∈ tables_1 ∧ Cond.instanceMethod q.1 ∈ tables_1
theorem lw_p0 : lw_okq (⟨"GlassEyes", "addFourBytes", "(I)V"⟩, 12) := ⟨⟨by decide +kernel, by decide +kernel⟩, List.mem_of_getElem? (i := 19) (by decide +kernel), List.mem_of_getElem? (i := 330) (by decide +kernel), List.mem_of_getElem? (i := 331) (by decide +kernel)⟩
theorem lw_p1 : lw_okq (⟨"GlassEyes$Reader", "scan", "([BI)V"⟩, 9) := ⟨⟨by decide +kernel, by decide +kernel⟩, List.mem_of_getElem? (i := 27) (by decide +kernel), List.mem_of_getElem? (i := 351) (by decide +kernel), List.mem_of_getElem? (i := 352) (by decide +kernel)⟩
theorem lw_p2 : lw_okq (⟨"GlassEyes$Reader", "flawOfHead", "(I)I"⟩, 9) := ⟨⟨by decide +kernel, by decide +kernel⟩, List.mem_of_getElem? (i := 27) (by decide +kernel), List.mem_of_getElem? (i := 433) (by decide +kernel), List.mem_of_getElem? (i := 434) (by decide +kernel)⟩
theorem lw_p3 : lw_okq (⟨"GlassEyes$Reader", "fail", "(I)V"⟩, 9) := ⟨⟨by decide +kernel, by decide +kernel⟩, List.mem_of_getElem? (i := 27) (by decide +kernel), List.mem_of_getElem? (i := 437) (by decide +kernel), List.mem_of_getElem? (i := 438) (by decide +kernel)⟩
theorem lw_p4 : lw_okq (⟨"GlassEyes$Reader", "readSees", "()V"⟩, 9) := ⟨⟨by decide +kernel, by decide +kernel⟩, List.mem_of_getElem? (i := 27) (by decide +kernel), List.mem_of_getElem? (i := 441) (by decide +kernel), List.mem_of_getElem? (i := 442) (by decide +kernel)⟩
theorem lw_p5 : lw_okq (⟨"GlassEyes$Reader", "readAsk", "(I)V"⟩, 9) := ⟨⟨by decide +kernel, by decide +kernel⟩, List.mem_of_getElem? (i := 27) (by decide +kernel), List.mem_of_getElem? (i := 445) (by decide +kernel), List.mem_of_getElem? (i := 446) (by decide +kernel)⟩
theorem lw_p6 : lw_okq (⟨"GlassEyes$Reader", "readSum", "(I)V"⟩, 9) := ⟨⟨by decide +kernel, by decide +kernel⟩, List.mem_of_getElem? (i := 27) (by decide +kernel), List.mem_of_getElem? (i := 457) (by decide +kernel), List.mem_of_getElem? (i := 458) (by decide +kernel)⟩
theorem lw_p7 : lw_okq (⟨"GlassEyes$Reader", "readOne", "(I)V"⟩, 9) := ⟨⟨by decide +kernel, by decide +kernel⟩, List.mem_of_getElem? (i := 27) (by decide +kernel), List.mem_of_getElem? (i := 461) (by decide +kernel), List.mem_of_getElem? (i := 462) (by decide +kernel)⟩
theorem lw_p8 : lw_okq (⟨"GlassEyes$Reader", "takeNumber", "(I)I"⟩, 9) := ⟨⟨by decide +kernel, by decide +kernel⟩, List.mem_of_getElem? (i := 27) (by decide +kernel), List.mem_of_getElem? (i := 465) (by decide +kernel), List.mem_of_getElem? (i := 466) (by decide +kernel)⟩
theorem lw_p9 : lw_okq (⟨"GlassEyes$Reader", "take", "(I)V"⟩, 9) := ⟨⟨by decide +kernel, by decide +kernel⟩, List.mem_of_getElem? (i := 27) (by decide +kernel), List.mem_of_getElem? (i := 470) (by decide +kernel), List.mem_of_getElem? (i := 471) (by decide +kernel)⟩
theorem lw_p10 : lw_okq (⟨"GlassEyes$Reader", "readRubs", "()V"⟩, 9) := ⟨⟨by decide +kernel, by decide +kernel⟩, List.mem_of_getElem? (i := 27) (by decide +kernel), List.mem_of_getElem? (i := 478) (by decide +kernel), List.mem_of_getElem? (i := 479) (by decide +kernel)⟩
theorem lw_p11 : lw_okq (⟨"GlassEyes$Reader", "readDeed", "(III)V"⟩, 9) := ⟨⟨by decide +kernel, by decide +kernel⟩, List.mem_of_getElem? (i := 27) (by decide +kernel), List.mem_of_getElem? (i := 482) (by decide +kernel), List.mem_of_getElem? (i := 483) (by decide +kernel)⟩
theorem lw_p12 : lw_okq (⟨"GlassEyes", "isText", "(I)Z"⟩, 12) := ⟨⟨by decide +kernel, by decide +kernel⟩, List.mem_of_getElem? (i := 19) (by decide +kernel), List.mem_of_getElem? (i := 494) (by decide +kernel), List.mem_of_getElem? (i := 495) (by decide +kernel)⟩
theorem lw_p13 : lw_okq (⟨"GlassEyes", "byHand", "(III)I"⟩, 12) := ⟨⟨by decide +kernel, by decide +kernel⟩, List.mem_of_getElem? (i := 19) (by decide +kernel), List.mem_of_getElem? (i := 502) (by decide +kernel), List.mem_of_getElem? (i := 503) (by decide +kernel)⟩
theorem lw_p14 : lw_okq (⟨"GlassEyes", "canBe", "(LGlassEyes$Court;III)Z"⟩, 12) := ⟨⟨by decide +kernel, by decide +kernel⟩, List.mem_of_getElem? (i := 19) (by decide +kernel), List.mem_of_getElem? (i := 506) (by decide +kernel), List.mem_of_getElem? (i := 507) (by decide +kernel)⟩
theorem lw_p15 : lw_okq (⟨"GlassEyes", "isThing", "(I)Z"⟩, 12) := ⟨⟨by decide +kernel, by decide +kernel⟩, List.mem_of_getElem? (i := 19) (by decide +kernel), List.mem_of_getElem? (i := 510) (by decide +kernel), List.mem_of_getElem? (i := 511) (by decide +kernel)⟩
def lw_privs_1 : List (MethodName × Nat) := [(⟨"GlassEyes", "addFourBytes", "(I)V"⟩, 12), (⟨"GlassEyes$Reader", "scan", "([BI)V"⟩, 9), (⟨"GlassEyes$Reader", "flawOfHead", "(I)I"⟩, 9), (⟨"GlassEyes$Reader", "fail", "(I)V"⟩, 9), (⟨"GlassEyes$Reader", "readSees", "()V"⟩, 9), (⟨"GlassEyes$Reader", "readAsk", "(I)V"⟩, 9), (⟨"GlassEyes$Reader", "readSum", "(I)V"⟩, 9), (⟨"GlassEyes$Reader", "readOne", "(I)V"⟩, 9), (⟨"GlassEyes$Reader", "takeNumber", "(I)I"⟩, 9), (⟨"GlassEyes$Reader", "take", "(I)V"⟩, 9), (⟨"GlassEyes$Reader", "readRubs", "()V"⟩, 9), (⟨"GlassEyes$Reader", "readDeed", "(III)V"⟩, 9), (⟨"GlassEyes", "isText", "(I)Z"⟩, 12), (⟨"GlassEyes", "byHand", "(III)I"⟩, 12), (⟨"GlassEyes", "canBe", "(LGlassEyes$Court;III)Z"⟩, 12), (⟨"GlassEyes", "isThing", "(I)Z"⟩, 12)]
theorem lw_r1 : ∀ q ∈ lw_privs_1, lw_okq q := List.forall_mem_cons.mpr ⟨lw_p0, List.forall_mem_cons.mpr ⟨lw_p1, List.forall_mem_cons.mpr ⟨lw_p2, List.forall_mem_cons.mpr ⟨lw_p3, List.forall_mem_cons.mpr ⟨lw_p4, List.forall_mem_cons.mpr ⟨lw_p5, List.forall_mem_cons.mpr ⟨lw_p6, List.forall_mem_cons.mpr ⟨lw_p7, List.forall_mem_cons.mpr ⟨lw_p8, List.forall_mem_cons.mpr ⟨lw_p9, List.forall_mem_cons.mpr ⟨lw_p10, List.forall_mem_cons.mpr ⟨lw_p11, List.forall_mem_cons.mpr ⟨lw_p12, List.forall_mem_cons.mpr ⟨lw_p13, List.forall_mem_cons.mpr ⟨lw_p14, List.forall_mem_cons.mpr ⟨lw_p15, fun _ h => absurd h List.not_mem_nil⟩⟩⟩⟩⟩⟩⟩⟩⟩⟩⟩⟩⟩⟩⟩⟩
theorem lw_p16 : lw_okq (⟨"GlassEyes", "isCourtier", "(I)Z"⟩, 12) := ⟨⟨by decide +kernel, by decide +kernel⟩, List.mem_of_getElem? (i := 19) (by decide +kernel), List.mem_of_getElem? (i := 514) (by decide +kernel), List.mem_of_getElem? (i := 515) (by decide +kernel)⟩
theorem lw_p17 : lw_okq (⟨"GlassEyes", "isEye", "(I)Z"⟩, 12) := ⟨⟨by decide +kernel, by decide +kernel⟩, List.mem_of_getElem? (i := 19) (by decide +kernel), List.mem_of_getElem? (i := 518) (by decide +kernel), List.mem_of_getElem? (i := 519) (by decide +kernel)⟩
theorem lw_p18 : lw_okq (⟨"GlassEyes", "hasRoom", "(LGlassEyes$Court;I)Z"⟩, 12) := ⟨⟨by decide +kernel, by decide +kernel⟩, List.mem_of_getElem? (i := 19) (by decide +kernel), List.mem_of_getElem? (i := 522) (by decide +kernel), List.mem_of_getElem? (i := 523) (by decide +kernel)⟩
theorem lw_p19 : lw_okq (⟨"GlassEyes", "perform", "(LGlassEyes$Court;III)I"⟩, 12) := ⟨⟨by decide +kernel, by decide +kernel⟩, List.mem_of_getElem? (i := 19) (by decide +kernel), List.mem_of_getElem? (i := 548) (by decide +kernel), List.mem_of_getElem? (i := 549) (by decide +kernel)⟩
theorem lw_p20 : lw_okq (⟨"GlassEyes", "feel", "(LGlassEyes$Court;II)I"⟩, 12) := ⟨⟨by decide +kernel, by decide +kernel⟩, List.mem_of_getElem? (i := 19) (by decide +kernel), List.mem_of_getElem? (i := 552) (by decide +kernel), List.mem_of_getElem? (i := 553) (by decide +kernel)⟩
theorem lw_p21 : lw_okq (⟨"GlassEyes", "isSeen", "(LGlassEyes$Court;III)Z"⟩, 12) := ⟨⟨by decide +kernel, by decide +kernel⟩, List.mem_of_getElem? (i := 19) (by decide +kernel), List.mem_of_getElem? (i := 556) (by decide +kernel), List.mem_of_getElem? (i := 557) (by decide +kernel)⟩
theorem lw_p22 : lw_okq (⟨"GlassEyes", "nameEye", "(LGlassEyes$Court;I)V"⟩, 12) := ⟨⟨by decide +kernel, by decide +kernel⟩, List.mem_of_getElem? (i := 19) (by decide +kernel), List.mem_of_getElem? (i := 560) (by decide +kernel), List.mem_of_getElem? (i := 561) (by decide +kernel)⟩
theorem lw_p23 : lw_okq (⟨"GlassEyes", "learned", "(III)I"⟩, 12) := ⟨⟨by decide +kernel, by decide +kernel⟩, List.mem_of_getElem? (i := 19) (by decide +kernel), List.mem_of_getElem? (i := 594) (by decide +kernel), List.mem_of_getElem? (i := 595) (by decide +kernel)⟩
theorem lw_p24 : lw_okq (⟨"GlassEyes", "rubsOf", "(I)I"⟩, 12) := ⟨⟨by decide +kernel, by decide +kernel⟩, List.mem_of_getElem? (i := 19) (by decide +kernel), List.mem_of_getElem? (i := 658) (by decide +kernel), List.mem_of_getElem? (i := 659) (by decide +kernel)⟩
theorem lw_p25 : lw_okq (⟨"GlassEyes", "tell", "(LGlassEyes$Script;)V"⟩, 12) := ⟨⟨by decide +kernel, by decide +kernel⟩, List.mem_of_getElem? (i := 19) (by decide +kernel), List.mem_of_getElem? (i := 667) (by decide +kernel), List.mem_of_getElem? (i := 668) (by decide +kernel)⟩
theorem lw_p26 : lw_okq (⟨"GlassEyes", "tellAll", "(I)V"⟩, 12) := ⟨⟨by decide +kernel, by decide +kernel⟩, List.mem_of_getElem? (i := 19) (by decide +kernel), List.mem_of_getElem? (i := 675) (by decide +kernel), List.mem_of_getElem? (i := 676) (by decide +kernel)⟩
theorem lw_p27 : lw_okq (⟨"GlassEyes", "tellsApart", "(II)Z"⟩, 12) := ⟨⟨by decide +kernel, by decide +kernel⟩, List.mem_of_getElem? (i := 19) (by decide +kernel), List.mem_of_getElem? (i := 680) (by decide +kernel), List.mem_of_getElem? (i := 681) (by decide +kernel)⟩
theorem lw_p28 : lw_okq (⟨"GlassEyes", "differ", "(III)Z"⟩, 12) := ⟨⟨by decide +kernel, by decide +kernel⟩, List.mem_of_getElem? (i := 19) (by decide +kernel), List.mem_of_getElem? (i := 684) (by decide +kernel), List.mem_of_getElem? (i := 685) (by decide +kernel)⟩
theorem lw_p29 : lw_okq (⟨"GlassEyes", "isNoWorse", "(II)Z"⟩, 12) := ⟨⟨by decide +kernel, by decide +kernel⟩, List.mem_of_getElem? (i := 19) (by decide +kernel), List.mem_of_getElem? (i := 688) (by decide +kernel), List.mem_of_getElem? (i := 689) (by decide +kernel)⟩
theorem lw_p30 : lw_okq (⟨"GlassEyes", "priceOf", "(I)I"⟩, 12) := ⟨⟨by decide +kernel, by decide +kernel⟩, List.mem_of_getElem? (i := 19) (by decide +kernel), List.mem_of_getElem? (i := 692) (by decide +kernel), List.mem_of_getElem? (i := 693) (by decide +kernel)⟩
theorem lw_p31 : lw_okq (⟨"GlassEyes", "findRows", "(II)V"⟩, 12) := ⟨⟨by decide +kernel, by decide +kernel⟩, List.mem_of_getElem? (i := 19) (by decide +kernel), List.mem_of_getElem? (i := 714) (by decide +kernel), List.mem_of_getElem? (i := 715) (by decide +kernel)⟩
def lw_privs_2 : List (MethodName × Nat) := [(⟨"GlassEyes", "isCourtier", "(I)Z"⟩, 12), (⟨"GlassEyes", "isEye", "(I)Z"⟩, 12), (⟨"GlassEyes", "hasRoom", "(LGlassEyes$Court;I)Z"⟩, 12), (⟨"GlassEyes", "perform", "(LGlassEyes$Court;III)I"⟩, 12), (⟨"GlassEyes", "feel", "(LGlassEyes$Court;II)I"⟩, 12), (⟨"GlassEyes", "isSeen", "(LGlassEyes$Court;III)Z"⟩, 12), (⟨"GlassEyes", "nameEye", "(LGlassEyes$Court;I)V"⟩, 12), (⟨"GlassEyes", "learned", "(III)I"⟩, 12), (⟨"GlassEyes", "rubsOf", "(I)I"⟩, 12), (⟨"GlassEyes", "tell", "(LGlassEyes$Script;)V"⟩, 12), (⟨"GlassEyes", "tellAll", "(I)V"⟩, 12), (⟨"GlassEyes", "tellsApart", "(II)Z"⟩, 12), (⟨"GlassEyes", "differ", "(III)Z"⟩, 12), (⟨"GlassEyes", "isNoWorse", "(II)Z"⟩, 12), (⟨"GlassEyes", "priceOf", "(I)I"⟩, 12), (⟨"GlassEyes", "findRows", "(II)V"⟩, 12)]
theorem lw_r2 : ∀ q ∈ lw_privs_2, lw_okq q := List.forall_mem_cons.mpr ⟨lw_p16, List.forall_mem_cons.mpr ⟨lw_p17, List.forall_mem_cons.mpr ⟨lw_p18, List.forall_mem_cons.mpr ⟨lw_p19, List.forall_mem_cons.mpr ⟨lw_p20, List.forall_mem_cons.mpr ⟨lw_p21, List.forall_mem_cons.mpr ⟨lw_p22, List.forall_mem_cons.mpr ⟨lw_p23, List.forall_mem_cons.mpr ⟨lw_p24, List.forall_mem_cons.mpr ⟨lw_p25, List.forall_mem_cons.mpr ⟨lw_p26, List.forall_mem_cons.mpr ⟨lw_p27, List.forall_mem_cons.mpr ⟨lw_p28, List.forall_mem_cons.mpr ⟨lw_p29, List.forall_mem_cons.mpr ⟨lw_p30, List.forall_mem_cons.mpr ⟨lw_p31, fun _ h => absurd h List.not_mem_nil⟩⟩⟩⟩⟩⟩⟩⟩⟩⟩⟩⟩⟩⟩⟩⟩
theorem lw_p32 : lw_okq (⟨"GlassEyes", "goThroughRows", "(IIII)V"⟩, 12) := ⟨⟨by decide +kernel, by decide +kernel⟩, List.mem_of_getElem? (i := 19) (by decide +kernel), List.mem_of_getElem? (i := 722) (by decide +kernel), List.mem_of_getElem? (i := 723) (by decide +kernel)⟩
theorem lw_p33 : lw_okq (⟨"GlassEyes", "touchByOthers", "(IIII)V"⟩, 12) := ⟨⟨by decide +kernel, by decide +kernel⟩, List.mem_of_getElem? (i := 19) (by decide +kernel), List.mem_of_getElem? (i := 731) (by decide +kernel), List.mem_of_getElem? (i := 732) (by decide +kernel)⟩
theorem lw_p34 : lw_okq (⟨"GlassEyes", "touchByWearer", "(IIII)V"⟩, 12) := ⟨⟨by decide +kernel, by decide +kernel⟩, List.mem_of_getElem? (i := 19) (by decide +kernel), List.mem_of_getElem? (i := 735) (by decide +kernel), List.mem_of_getElem? (i := 736) (by decide +kernel)⟩
theorem lw_p35 : lw_okq (⟨"GlassEyesModel", "clear", "(I)V"⟩, 33) := ⟨⟨by decide +kernel, by decide +kernel⟩, List.mem_of_getElem? (i := 768) (by decide +kernel), List.mem_of_getElem? (i := 774) (by decide +kernel), List.mem_of_getElem? (i := 775) (by decide +kernel)⟩
theorem lw_p36 : lw_okq (⟨"GlassEyesModel", "set", "(III)V"⟩, 33) := ⟨⟨by decide +kernel, by decide +kernel⟩, List.mem_of_getElem? (i := 768) (by decide +kernel), List.mem_of_getElem? (i := 778) (by decide +kernel), List.mem_of_getElem? (i := 779) (by decide +kernel)⟩
theorem lw_p37 : lw_okq (⟨"GlassEyesModel", "four", "(I)V"⟩, 33) := ⟨⟨by decide +kernel, by decide +kernel⟩, List.mem_of_getElem? (i := 768) (by decide +kernel), List.mem_of_getElem? (i := 900) (by decide +kernel), List.mem_of_getElem? (i := 901) (by decide +kernel)⟩
theorem lw_p38 : lw_okq (⟨"GlassEyesModel", "readText", "()I"⟩, 33) := ⟨⟨by decide +kernel, by decide +kernel⟩, List.mem_of_getElem? (i := 768) (by decide +kernel), List.mem_of_getElem? (i := 912) (by decide +kernel), List.mem_of_getElem? (i := 913) (by decide +kernel)⟩
theorem lw_p39 : lw_okq (⟨"GlassEyesModel", "nextToken", "()V"⟩, 33) := ⟨⟨by decide +kernel, by decide +kernel⟩, List.mem_of_getElem? (i := 768) (by decide +kernel), List.mem_of_getElem? (i := 916) (by decide +kernel), List.mem_of_getElem? (i := 917) (by decide +kernel)⟩
theorem lw_p40 : lw_okq (⟨"GlassEyesModel", "byteAt", "(I)I"⟩, 33) := ⟨⟨by decide +kernel, by decide +kernel⟩, List.mem_of_getElem? (i := 768) (by decide +kernel), List.mem_of_getElem? (i := 920) (by decide +kernel), List.mem_of_getElem? (i := 921) (by decide +kernel)⟩
theorem lw_p41 : lw_okq (⟨"GlassEyesModel", "clause", "()I"⟩, 33) := ⟨⟨by decide +kernel, by decide +kernel⟩, List.mem_of_getElem? (i := 768) (by decide +kernel), List.mem_of_getElem? (i := 931) (by decide +kernel), List.mem_of_getElem? (i := 932) (by decide +kernel)⟩
theorem lw_p42 : lw_okq (⟨"GlassEyesModel", "sortOf", "()I"⟩, 33) := ⟨⟨by decide +kernel, by decide +kernel⟩, List.mem_of_getElem? (i := 768) (by decide +kernel), List.mem_of_getElem? (i := 935) (by decide +kernel), List.mem_of_getElem? (i := 936) (by decide +kernel)⟩
theorem lw_p43 : lw_okq (⟨"GlassEyesModel", "isWord", "(J)Z"⟩, 33) := ⟨⟨by decide +kernel, by decide +kernel⟩, List.mem_of_getElem? (i := 768) (by decide +kernel), List.mem_of_getElem? (i := 945) (by decide +kernel), List.mem_of_getElem? (i := 946) (by decide +kernel)⟩
theorem lw_p44 : lw_okq (⟨"GlassEyesModel", "either", "()I"⟩, 33) := ⟨⟨by decide +kernel, by decide +kernel⟩, List.mem_of_getElem? (i := 768) (by decide +kernel), List.mem_of_getElem? (i := 955) (by decide +kernel), List.mem_of_getElem? (i := 956) (by decide +kernel)⟩
theorem lw_p45 : lw_okq (⟨"GlassEyesModel", "asks", "()I"⟩, 33) := ⟨⟨by decide +kernel, by decide +kernel⟩, List.mem_of_getElem? (i := 768) (by decide +kernel), List.mem_of_getElem? (i := 959) (by decide +kernel), List.mem_of_getElem? (i := 960) (by decide +kernel)⟩
theorem lw_p46 : lw_okq (⟨"GlassEyesModel", "summed", "()I"⟩, 33) := ⟨⟨by decide +kernel, by decide +kernel⟩, List.mem_of_getElem? (i := 768) (by decide +kernel), List.mem_of_getElem? (i := 963) (by decide +kernel), List.mem_of_getElem? (i := 964) (by decide +kernel)⟩
theorem lw_p47 : lw_okq (⟨"GlassEyesModel", "goesOn", "()Z"⟩, 33) := ⟨⟨by decide +kernel, by decide +kernel⟩, List.mem_of_getElem? (i := 768) (by decide +kernel), List.mem_of_getElem? (i := 967) (by decide +kernel), List.mem_of_getElem? (i := 968) (by decide +kernel)⟩
def lw_privs_3 : List (MethodName × Nat) := [(⟨"GlassEyes", "goThroughRows", "(IIII)V"⟩, 12), (⟨"GlassEyes", "touchByOthers", "(IIII)V"⟩, 12), (⟨"GlassEyes", "touchByWearer", "(IIII)V"⟩, 12), (⟨"GlassEyesModel", "clear", "(I)V"⟩, 33), (⟨"GlassEyesModel", "set", "(III)V"⟩, 33), (⟨"GlassEyesModel", "four", "(I)V"⟩, 33), (⟨"GlassEyesModel", "readText", "()I"⟩, 33), (⟨"GlassEyesModel", "nextToken", "()V"⟩, 33), (⟨"GlassEyesModel", "byteAt", "(I)I"⟩, 33), (⟨"GlassEyesModel", "clause", "()I"⟩, 33), (⟨"GlassEyesModel", "sortOf", "()I"⟩, 33), (⟨"GlassEyesModel", "isWord", "(J)Z"⟩, 33), (⟨"GlassEyesModel", "either", "()I"⟩, 33), (⟨"GlassEyesModel", "asks", "()I"⟩, 33), (⟨"GlassEyesModel", "summed", "()I"⟩, 33), (⟨"GlassEyesModel", "goesOn", "()Z"⟩, 33)]
theorem lw_r3 : ∀ q ∈ lw_privs_3, lw_okq q := List.forall_mem_cons.mpr ⟨lw_p32, List.forall_mem_cons.mpr ⟨lw_p33, List.forall_mem_cons.mpr ⟨lw_p34, List.forall_mem_cons.mpr ⟨lw_p35, List.forall_mem_cons.mpr ⟨lw_p36, List.forall_mem_cons.mpr ⟨lw_p37, List.forall_mem_cons.mpr ⟨lw_p38, List.forall_mem_cons.mpr ⟨lw_p39, List.forall_mem_cons.mpr ⟨lw_p40, List.forall_mem_cons.mpr ⟨lw_p41, List.forall_mem_cons.mpr ⟨lw_p42, List.forall_mem_cons.mpr ⟨lw_p43, List.forall_mem_cons.mpr ⟨lw_p44, List.forall_mem_cons.mpr ⟨lw_p45, List.forall_mem_cons.mpr ⟨lw_p46, List.forall_mem_cons.mpr ⟨lw_p47, fun _ h => absurd h List.not_mem_nil⟩⟩⟩⟩⟩⟩⟩⟩⟩⟩⟩⟩⟩⟩⟩⟩
theorem lw_p48 : lw_okq (⟨"GlassEyesModel", "hasParen", "()Z"⟩, 33) := ⟨⟨by decide +kernel, by decide +kernel⟩, List.mem_of_getElem? (i := 768) (by decide +kernel), List.mem_of_getElem? (i := 971) (by decide +kernel), List.mem_of_getElem? (i := 972) (by decide +kernel)⟩
theorem lw_p49 : lw_okq (⟨"GlassEyesModel", "behindOne", "()I"⟩, 33) := ⟨⟨by decide +kernel, by decide +kernel⟩, List.mem_of_getElem? (i := 768) (by decide +kernel), List.mem_of_getElem? (i := 975) (by decide +kernel), List.mem_of_getElem? (i := 976) (by decide +kernel)⟩
theorem lw_p50 : lw_okq (⟨"GlassEyesModel", "settle", "(I)V"⟩, 33) := ⟨⟨by decide +kernel, by decide +kernel⟩, List.mem_of_getElem? (i := 768) (by decide +kernel), List.mem_of_getElem? (i := 979) (by decide +kernel), List.mem_of_getElem? (i := 980) (by decide +kernel)⟩
theorem lw_p51 : lw_okq (⟨"GlassEyesModel", "emit", "(II)V"⟩, 33) := ⟨⟨by decide +kernel, by decide +kernel⟩, List.mem_of_getElem? (i := 768) (by decide +kernel), List.mem_of_getElem? (i := 983) (by decide +kernel), List.mem_of_getElem? (i := 984) (by decide +kernel)⟩
theorem lw_p52 : lw_okq (⟨"GlassEyesModel", "push", "(I)V"⟩, 33) := ⟨⟨by decide +kernel, by decide +kernel⟩, List.mem_of_getElem? (i := 768) (by decide +kernel), List.mem_of_getElem? (i := 987) (by decide +kernel), List.mem_of_getElem? (i := 988) (by decide +kernel)⟩
theorem lw_p53 : lw_okq (⟨"GlassEyesModel", "whole", "()V"⟩, 33) := ⟨⟨by decide +kernel, by decide +kernel⟩, List.mem_of_getElem? (i := 768) (by decide +kernel), List.mem_of_getElem? (i := 991) (by decide +kernel), List.mem_of_getElem? (i := 992) (by decide +kernel)⟩
theorem lw_p54 : lw_okq (⟨"GlassEyesModel", "beginOne", "()I"⟩, 33) := ⟨⟨by decide +kernel, by decide +kernel⟩, List.mem_of_getElem? (i := 768) (by decide +kernel), List.mem_of_getElem? (i := 995) (by decide +kernel), List.mem_of_getElem? (i := 996) (by decide +kernel)⟩
theorem lw_p55 : lw_okq (⟨"GlassEyesModel", "nameOf", "()I"⟩, 33) := ⟨⟨by decide +kernel, by decide +kernel⟩, List.mem_of_getElem? (i := 768) (by decide +kernel), List.mem_of_getElem? (i := 999) (by decide +kernel), List.mem_of_getElem? (i := 1000) (by decide +kernel)⟩
theorem lw_p56 : lw_okq (⟨"GlassEyesModel", "isBarred", "(I)Z"⟩, 33) := ⟨⟨by decide +kernel, by decide +kernel⟩, List.mem_of_getElem? (i := 768) (by decide +kernel), List.mem_of_getElem? (i := 1003) (by decide +kernel), List.mem_of_getElem? (i := 1004) (by decide +kernel)⟩
theorem lw_p57 : lw_okq (⟨"GlassEyesModel", "compareOf", "()I"⟩, 33) := ⟨⟨by decide +kernel, by decide +kernel⟩, List.mem_of_getElem? (i := 768) (by decide +kernel), List.mem_of_getElem? (i := 1007) (by decide +kernel), List.mem_of_getElem? (i := 1008) (by decide +kernel)⟩
theorem lw_p58 : lw_okq (⟨"GlassEyesModel", "line", "(II)I"⟩, 33) := ⟨⟨by decide +kernel, by decide +kernel⟩, List.mem_of_getElem? (i := 768) (by decide +kernel), List.mem_of_getElem? (i := 1012) (by decide +kernel), List.mem_of_getElem? (i := 1013) (by decide +kernel)⟩
theorem lw_p59 : lw_okq (⟨"GlassEyesModel", "figure", "(II)I"⟩, 33) := ⟨⟨by decide +kernel, by decide +kernel⟩, List.mem_of_getElem? (i := 768) (by decide +kernel), List.mem_of_getElem? (i := 1016) (by decide +kernel), List.mem_of_getElem? (i := 1017) (by decide +kernel)⟩
theorem lw_p60 : lw_okq (⟨"GlassEyesModel", "isBetween", "(I)Z"⟩, 33) := ⟨⟨by decide +kernel, by decide +kernel⟩, List.mem_of_getElem? (i := 768) (by decide +kernel), List.mem_of_getElem? (i := 1020) (by decide +kernel), List.mem_of_getElem? (i := 1021) (by decide +kernel)⟩
theorem lw_p61 : lw_okq (⟨"GlassEyesModel", "isText", "(I)Z"⟩, 33) := ⟨⟨by decide +kernel, by decide +kernel⟩, List.mem_of_getElem? (i := 768) (by decide +kernel), List.mem_of_getElem? (i := 1034) (by decide +kernel), List.mem_of_getElem? (i := 1035) (by decide +kernel)⟩
theorem lw_p62 : lw_okq (⟨"GlassEyesModel", "isThing", "(I)Z"⟩, 33) := ⟨⟨by decide +kernel, by decide +kernel⟩, List.mem_of_getElem? (i := 768) (by decide +kernel), List.mem_of_getElem? (i := 1046) (by decide +kernel), List.mem_of_getElem? (i := 1047) (by decide +kernel)⟩
theorem lw_p63 : lw_okq (⟨"GlassEyesModel", "isOne", "(I)Z"⟩, 33) := ⟨⟨by decide +kernel, by decide +kernel⟩, List.mem_of_getElem? (i := 768) (by decide +kernel), List.mem_of_getElem? (i := 1050) (by decide +kernel), List.mem_of_getElem? (i := 1051) (by decide +kernel)⟩
def lw_privs_4 : List (MethodName × Nat) := [(⟨"GlassEyesModel", "hasParen", "()Z"⟩, 33), (⟨"GlassEyesModel", "behindOne", "()I"⟩, 33), (⟨"GlassEyesModel", "settle", "(I)V"⟩, 33), (⟨"GlassEyesModel", "emit", "(II)V"⟩, 33), (⟨"GlassEyesModel", "push", "(I)V"⟩, 33), (⟨"GlassEyesModel", "whole", "()V"⟩, 33), (⟨"GlassEyesModel", "beginOne", "()I"⟩, 33), (⟨"GlassEyesModel", "nameOf", "()I"⟩, 33), (⟨"GlassEyesModel", "isBarred", "(I)Z"⟩, 33), (⟨"GlassEyesModel", "compareOf", "()I"⟩, 33), (⟨"GlassEyesModel", "line", "(II)I"⟩, 33), (⟨"GlassEyesModel", "figure", "(II)I"⟩, 33), (⟨"GlassEyesModel", "isBetween", "(I)Z"⟩, 33), (⟨"GlassEyesModel", "isText", "(I)Z"⟩, 33), (⟨"GlassEyesModel", "isThing", "(I)Z"⟩, 33), (⟨"GlassEyesModel", "isOne", "(I)Z"⟩, 33)]
theorem lw_r4 : ∀ q ∈ lw_privs_4, lw_okq q := List.forall_mem_cons.mpr ⟨lw_p48, List.forall_mem_cons.mpr ⟨lw_p49, List.forall_mem_cons.mpr ⟨lw_p50, List.forall_mem_cons.mpr ⟨lw_p51, List.forall_mem_cons.mpr ⟨lw_p52, List.forall_mem_cons.mpr ⟨lw_p53, List.forall_mem_cons.mpr ⟨lw_p54, List.forall_mem_cons.mpr ⟨lw_p55, List.forall_mem_cons.mpr ⟨lw_p56, List.forall_mem_cons.mpr ⟨lw_p57, List.forall_mem_cons.mpr ⟨lw_p58, List.forall_mem_cons.mpr ⟨lw_p59, List.forall_mem_cons.mpr ⟨lw_p60, List.forall_mem_cons.mpr ⟨lw_p61, List.forall_mem_cons.mpr ⟨lw_p62, List.forall_mem_cons.mpr ⟨lw_p63, fun _ h => absurd h List.not_mem_nil⟩⟩⟩⟩⟩⟩⟩⟩⟩⟩⟩⟩⟩⟩⟩⟩
theorem lw_p64 : lw_okq (⟨"GlassEyesModel", "keep", "()V"⟩, 33) := ⟨⟨by decide +kernel, by decide +kernel⟩, List.mem_of_getElem? (i := 768) (by decide +kernel), List.mem_of_getElem? (i := 1054) (by decide +kernel), List.mem_of_getElem? (i := 1055) (by decide +kernel)⟩
theorem lw_p65 : lw_okq (⟨"GlassEyesModel", "get", "(II)I"⟩, 33) := ⟨⟨by decide +kernel, by decide +kernel⟩, List.mem_of_getElem? (i := 768) (by decide +kernel), List.mem_of_getElem? (i := 1058) (by decide +kernel), List.mem_of_getElem? (i := 1059) (by decide +kernel)⟩
theorem lw_p66 : lw_okq (⟨"GlassEyesModel", "manyOf", "(I)I"⟩, 33) := ⟨⟨by decide +kernel, by decide +kernel⟩, List.mem_of_getElem? (i := 768) (by decide +kernel), List.mem_of_getElem? (i := 1062) (by decide +kernel), List.mem_of_getElem? (i := 1063) (by decide +kernel)⟩
theorem lw_p67 : lw_okq (⟨"GlassEyesModel", "sees", "(IIIII)Z"⟩, 33) := ⟨⟨by decide +kernel, by decide +kernel⟩, List.mem_of_getElem? (i := 768) (by decide +kernel), List.mem_of_getElem? (i := 1066) (by decide +kernel), List.mem_of_getElem? (i := 1067) (by decide +kernel)⟩
theorem lw_p68 : lw_okq (⟨"GlassEyesModel", "clauseOf", "(I)I"⟩, 33) := ⟨⟨by decide +kernel, by decide +kernel⟩, List.mem_of_getElem? (i := 768) (by decide +kernel), List.mem_of_getElem? (i := 1070) (by decide +kernel), List.mem_of_getElem? (i := 1071) (by decide +kernel)⟩
theorem lw_p69 : lw_okq (⟨"GlassEyesModel", "name", "(III)V"⟩, 33) := ⟨⟨by decide +kernel, by decide +kernel⟩, List.mem_of_getElem? (i := 768) (by decide +kernel), List.mem_of_getElem? (i := 1074) (by decide +kernel), List.mem_of_getElem? (i := 1075) (by decide +kernel)⟩
theorem lw_p70 : lw_okq (⟨"GlassEyesModel", "work", "(I)V"⟩, 33) := ⟨⟨by decide +kernel, by decide +kernel⟩, List.mem_of_getElem? (i := 768) (by decide +kernel), List.mem_of_getElem? (i := 1078) (by decide +kernel), List.mem_of_getElem? (i := 1079) (by decide +kernel)⟩
theorem lw_p71 : lw_okq (⟨"GlassEyesModel", "learn", "(II)V"⟩, 33) := ⟨⟨by decide +kernel, by decide +kernel⟩, List.mem_of_getElem? (i := 768) (by decide +kernel), List.mem_of_getElem? (i := 1093) (by decide +kernel), List.mem_of_getElem? (i := 1094) (by decide +kernel)⟩
theorem lw_p72 : lw_okq (⟨"GlassEyesModel", "isEye", "(I)Z"⟩, 33) := ⟨⟨by decide +kernel, by decide +kernel⟩, List.mem_of_getElem? (i := 768) (by decide +kernel), List.mem_of_getElem? (i := 1101) (by decide +kernel), List.mem_of_getElem? (i := 1102) (by decide +kernel)⟩
theorem lw_p73 : lw_okq (⟨"GlassEyesModel", "wornBy", "(I)I"⟩, 33) := ⟨⟨by decide +kernel, by decide +kernel⟩, List.mem_of_getElem? (i := 768) (by decide +kernel), List.mem_of_getElem? (i := 1105) (by decide +kernel), List.mem_of_getElem? (i := 1106) (by decide +kernel)⟩
theorem lw_p74 : lw_okq (⟨"GlassEyesModel", "place0", "(II)V"⟩, 33) := ⟨⟨by decide +kernel, by decide +kernel⟩, List.mem_of_getElem? (i := 768) (by decide +kernel), List.mem_of_getElem? (i := 1112) (by decide +kernel), List.mem_of_getElem? (i := 1113) (by decide +kernel)⟩
theorem lw_p75 : lw_okq (⟨"GlassEyesModel", "exchange", "(II)V"⟩, 33) := ⟨⟨by decide +kernel, by decide +kernel⟩, List.mem_of_getElem? (i := 768) (by decide +kernel), List.mem_of_getElem? (i := 1120) (by decide +kernel), List.mem_of_getElem? (i := 1121) (by decide +kernel)⟩
theorem lw_p76 : lw_okq (⟨"GlassEyesModel", "isDone", "(I)Z"⟩, 33) := ⟨⟨by decide +kernel, by decide +kernel⟩, List.mem_of_getElem? (i := 768) (by decide +kernel), List.mem_of_getElem? (i := 1132) (by decide +kernel), List.mem_of_getElem? (i := 1133) (by decide +kernel)⟩
theorem lw_p77 : lw_okq (⟨"GlassEyesModel", "rubsOf", "(I)I"⟩, 33) := ⟨⟨by decide +kernel, by decide +kernel⟩, List.mem_of_getElem? (i := 768) (by decide +kernel), List.mem_of_getElem? (i := 1148) (by decide +kernel), List.mem_of_getElem? (i := 1149) (by decide +kernel)⟩
theorem lw_p78 : lw_okq (⟨"GlassEyesModel", "tell", "(I)V"⟩, 33) := ⟨⟨by decide +kernel, by decide +kernel⟩, List.mem_of_getElem? (i := 768) (by decide +kernel), List.mem_of_getElem? (i := 1157) (by decide +kernel), List.mem_of_getElem? (i := 1158) (by decide +kernel)⟩
theorem lw_p79 : lw_okq (⟨"GlassEyesModel", "tellOn", "(I)V"⟩, 33) := ⟨⟨by decide +kernel, by decide +kernel⟩, List.mem_of_getElem? (i := 768) (by decide +kernel), List.mem_of_getElem? (i := 1161) (by decide +kernel), List.mem_of_getElem? (i := 1162) (by decide +kernel)⟩
def lw_privs_5 : List (MethodName × Nat) := [(⟨"GlassEyesModel", "keep", "()V"⟩, 33), (⟨"GlassEyesModel", "get", "(II)I"⟩, 33), (⟨"GlassEyesModel", "manyOf", "(I)I"⟩, 33), (⟨"GlassEyesModel", "sees", "(IIIII)Z"⟩, 33), (⟨"GlassEyesModel", "clauseOf", "(I)I"⟩, 33), (⟨"GlassEyesModel", "name", "(III)V"⟩, 33), (⟨"GlassEyesModel", "work", "(I)V"⟩, 33), (⟨"GlassEyesModel", "learn", "(II)V"⟩, 33), (⟨"GlassEyesModel", "isEye", "(I)Z"⟩, 33), (⟨"GlassEyesModel", "wornBy", "(I)I"⟩, 33), (⟨"GlassEyesModel", "place0", "(II)V"⟩, 33), (⟨"GlassEyesModel", "exchange", "(II)V"⟩, 33), (⟨"GlassEyesModel", "isDone", "(I)Z"⟩, 33), (⟨"GlassEyesModel", "rubsOf", "(I)I"⟩, 33), (⟨"GlassEyesModel", "tell", "(I)V"⟩, 33), (⟨"GlassEyesModel", "tellOn", "(I)V"⟩, 33)]
theorem lw_r5 : ∀ q ∈ lw_privs_5, lw_okq q := List.forall_mem_cons.mpr ⟨lw_p64, List.forall_mem_cons.mpr ⟨lw_p65, List.forall_mem_cons.mpr ⟨lw_p66, List.forall_mem_cons.mpr ⟨lw_p67, List.forall_mem_cons.mpr ⟨lw_p68, List.forall_mem_cons.mpr ⟨lw_p69, List.forall_mem_cons.mpr ⟨lw_p70, List.forall_mem_cons.mpr ⟨lw_p71, List.forall_mem_cons.mpr ⟨lw_p72, List.forall_mem_cons.mpr ⟨lw_p73, List.forall_mem_cons.mpr ⟨lw_p74, List.forall_mem_cons.mpr ⟨lw_p75, List.forall_mem_cons.mpr ⟨lw_p76, List.forall_mem_cons.mpr ⟨lw_p77, List.forall_mem_cons.mpr ⟨lw_p78, List.forall_mem_cons.mpr ⟨lw_p79, fun _ h => absurd h List.not_mem_nil⟩⟩⟩⟩⟩⟩⟩⟩⟩⟩⟩⟩⟩⟩⟩⟩
theorem lw_p80 : lw_okq (⟨"GlassEyesModel", "areApart", "(II)Z"⟩, 33) := ⟨⟨by decide +kernel, by decide +kernel⟩, List.mem_of_getElem? (i := 768) (by decide +kernel), List.mem_of_getElem? (i := 1173) (by decide +kernel), List.mem_of_getElem? (i := 1174) (by decide +kernel)⟩
theorem lw_p81 : lw_okq (⟨"GlassEyesModel", "isApart", "(III)Z"⟩, 33) := ⟨⟨by decide +kernel, by decide +kernel⟩, List.mem_of_getElem? (i := 768) (by decide +kernel), List.mem_of_getElem? (i := 1177) (by decide +kernel), List.mem_of_getElem? (i := 1178) (by decide +kernel)⟩
theorem lw_p82 : lw_okq (⟨"GlassEyesModel", "count", "(I)V"⟩, 33) := ⟨⟨by decide +kernel, by decide +kernel⟩, List.mem_of_getElem? (i := 768) (by decide +kernel), List.mem_of_getElem? (i := 1193) (by decide +kernel), List.mem_of_getElem? (i := 1194) (by decide +kernel)⟩
theorem lw_p83 : lw_okq (⟨"GlassEyesModel", "isShown", "(I)Z"⟩, 33) := ⟨⟨by decide +kernel, by decide +kernel⟩, List.mem_of_getElem? (i := 768) (by decide +kernel), List.mem_of_getElem? (i := 1197) (by decide +kernel), List.mem_of_getElem? (i := 1198) (by decide +kernel)⟩
theorem lw_p84 : lw_okq (⟨"GlassEyesModel", "shownAt", "(I)I"⟩, 33) := ⟨⟨by decide +kernel, by decide +kernel⟩, List.mem_of_getElem? (i := 768) (by decide +kernel), List.mem_of_getElem? (i := 1201) (by decide +kernel), List.mem_of_getElem? (i := 1202) (by decide +kernel)⟩
theorem lw_p85 : lw_okq (⟨"GlassEyesModel", "goThrough", "(II)V"⟩, 33) := ⟨⟨by decide +kernel, by decide +kernel⟩, List.mem_of_getElem? (i := 768) (by decide +kernel), List.mem_of_getElem? (i := 1205) (by decide +kernel), List.mem_of_getElem? (i := 1206) (by decide +kernel)⟩
theorem lw_p86 : lw_okq (⟨"GlassEyesModel", "goOn", "(II)V"⟩, 33) := ⟨⟨by decide +kernel, by decide +kernel⟩, List.mem_of_getElem? (i := 768) (by decide +kernel), List.mem_of_getElem? (i := 1209) (by decide +kernel), List.mem_of_getElem? (i := 1210) (by decide +kernel)⟩
theorem lw_p87 : lw_okq (⟨"GlassEyesModel", "isSupper", "(IIII)Z"⟩, 33) := ⟨⟨by decide +kernel, by decide +kernel⟩, List.mem_of_getElem? (i := 768) (by decide +kernel), List.mem_of_getElem? (i := 1217) (by decide +kernel), List.mem_of_getElem? (i := 1218) (by decide +kernel)⟩
def lw_privs_6 : List (MethodName × Nat) := [(⟨"GlassEyesModel", "areApart", "(II)Z"⟩, 33), (⟨"GlassEyesModel", "isApart", "(III)Z"⟩, 33), (⟨"GlassEyesModel", "count", "(I)V"⟩, 33), (⟨"GlassEyesModel", "isShown", "(I)Z"⟩, 33), (⟨"GlassEyesModel", "shownAt", "(I)I"⟩, 33), (⟨"GlassEyesModel", "goThrough", "(II)V"⟩, 33), (⟨"GlassEyesModel", "goOn", "(II)V"⟩, 33), (⟨"GlassEyesModel", "isSupper", "(IIII)Z"⟩, 33)]
theorem lw_r6 : ∀ q ∈ lw_privs_6, lw_okq q := List.forall_mem_cons.mpr ⟨lw_p80, List.forall_mem_cons.mpr ⟨lw_p81, List.forall_mem_cons.mpr ⟨lw_p82, List.forall_mem_cons.mpr ⟨lw_p83, List.forall_mem_cons.mpr ⟨lw_p84, List.forall_mem_cons.mpr ⟨lw_p85, List.forall_mem_cons.mpr ⟨lw_p86, List.forall_mem_cons.mpr ⟨lw_p87, fun _ h => absurd h List.not_mem_nil⟩⟩⟩⟩⟩⟩⟩⟩
def lw_privs : List (MethodName × Nat) := lw_privs_1 ++ (lw_privs_2 ++ (lw_privs_3 ++ (lw_privs_4 ++ (lw_privs_5 ++ (lw_privs_6)))))
def lw_tbl : List Cond := k2_sels lw_privs ++ tables_1
theorem lw_privs_ok : ∀ q ∈ lw_privs, lw_okq q := by
  show ∀ q ∈ lw_privs_1 ++ (lw_privs_2 ++ (lw_privs_3 ++ (lw_privs_4 ++ (lw_privs_5 ++ (lw_privs_6))))), lw_okq q
  exact List.forall_mem_append.mpr ⟨lw_r1, List.forall_mem_append.mpr ⟨lw_r2, List.forall_mem_append.mpr ⟨lw_r3, List.forall_mem_append.mpr ⟨lw_r4, List.forall_mem_append.mpr ⟨lw_r5, lw_r6⟩⟩⟩⟩⟩
end
section
def RX0 : String := "GlassEyes$Court"
def TX0 : u_T := fun k => match k with
  | 0 => ("GlassEyes$Court", "hour", "I", false)
  | 1 => ("GlassEyes$Court", "worn", "[I", true)
  | 2 => ("GlassEyes$Court", "since", "[I", true)
  | _ => ("GlassEyes$Court", "knows", "[I", true)
def tyX0 : Nat → FieldType := fun k => match k with
  | 0 => .int
  | 1 => .array .int
  | 2 => .array .int
  | _ => .array .int
theorem nmX0 : ∀ a, a < 4 → ∀ b, b < 4 → a ≠ b → (TX0 a).2.1 ≠ (TX0 b).2.1 := by decide +kernel
theorem tyX0_ok : ∀ k, k < 4 → parseFieldDescriptor (TX0 k).2.2.1 = some (tyX0 k) := by decide +kernel
abbrev cX0_init : ByteArray := prog_2_method_1_code
def yX0_init : MethodName := ⟨RX0, "<init>", "()V"⟩
abbrev cX0_copyFrom : ByteArray := prog_2_method_2_code
def yX0_copyFrom : MethodName := ⟨RX0, "copyFrom", "(LGlassEyes$Court;)V"⟩
abbrev cX0_move : ByteArray := prog_2_method_3_code
def yX0_move : MethodName := ⟨RX0, "move", "(II)V"⟩
abbrev cX0_exchange : ByteArray := prog_2_method_4_code
def yX0_exchange : MethodName := ⟨RX0, "exchange", "(II)V"⟩
abbrev cX0_forget : ByteArray := prog_2_method_5_code
def yX0_forget : MethodName := ⟨RX0, "forget", "(I)I"⟩
abbrev cX0_wornSet : ByteArray := prog_2_method_6_code
def yX0_wornSet : MethodName := ⟨RX0, "wornSet", "(I)I"⟩
abbrev cX0_atPlace : ByteArray := prog_2_method_7_code
def yX0_atPlace : MethodName := ⟨RX0, "atPlace", "(II)I"⟩
abbrev cX0_withAhead : ByteArray := prog_2_method_8_code
def yX0_withAhead : MethodName := ⟨RX0, "withAhead", "(II)I"⟩
abbrev cX0_withPlace : ByteArray := prog_2_method_9_code
def yX0_withPlace : MethodName := ⟨RX0, "withPlace", "(III)I"⟩
abbrev cX0_howMuch : ByteArray := prog_2_method_10_code
def yX0_howMuch : MethodName := ⟨RX0, "howMuch", "(I)I"⟩
abbrev cX0_unlikePlaces : ByteArray := prog_2_method_11_code
def yX0_unlikePlaces : MethodName := ⟨RX0, "unlikePlaces", "(II)I"⟩
def RX1 : String := "GlassEyes$Past"
def TX1 : u_T := fun k => match k with
  | 0 => ("GlassEyes$Past", "ring", "[LGlassEyes$Court;", true)
  | 1 => ("GlassEyes$Past", "next", "I", false)
  | _ => ("GlassEyes$Past", "count", "I", false)
def tyX1 : Nat → FieldType := fun k => match k with
  | 0 => .array (.object "GlassEyes$Court")
  | 1 => .int
  | _ => .int
theorem nmX1 : ∀ a, a < 3 → ∀ b, b < 3 → a ≠ b → (TX1 a).2.1 ≠ (TX1 b).2.1 := by decide +kernel
theorem tyX1_ok : ∀ k, k < 3 → parseFieldDescriptor (TX1 k).2.2.1 = some (tyX1 k) := by decide +kernel
abbrev cX1_init : ByteArray := prog_3_method_1_code
def yX1_init : MethodName := ⟨RX1, "<init>", "()V"⟩
abbrev cX1_keep : ByteArray := prog_3_method_2_code
def yX1_keep : MethodName := ⟨RX1, "keep", "(LGlassEyes$Court;)V"⟩
abbrev cX1_takeBack : ByteArray := prog_3_method_3_code
def yX1_takeBack : MethodName := ⟨RX1, "takeBack", "(LGlassEyes$Court;)Z"⟩
abbrev cX1_copyFrom : ByteArray := prog_3_method_4_code
def yX1_copyFrom : MethodName := ⟨RX1, "copyFrom", "(LGlassEyes$Past;)V"⟩
def RX2 : String := "GlassEyes$Reader"
def TX2 : u_T := fun k => match k with
  | 0 => ("GlassEyes$Reader", "flaw", "I", false)
  | 1 => ("GlassEyes$Reader", "flawPlace", "I", false)
  | 2 => ("GlassEyes$Reader", "tokens", "[I", true)
  | 3 => ("GlassEyes$Reader", "places", "[I", true)
  | 4 => ("GlassEyes$Reader", "numbers", "[I", true)
  | 5 => ("GlassEyes$Reader", "endToken", "I", false)
  | 6 => ("GlassEyes$Reader", "at", "I", false)
  | 7 => ("GlassEyes$Reader", "lastName", "I", false)
  | _ => ("GlassEyes$Reader", "script", "LGlassEyes$Script;", false)
def tyX2 : Nat → FieldType := fun k => match k with
  | 0 => .int
  | 1 => .int
  | 2 => .array .int
  | 3 => .array .int
  | 4 => .array .int
  | 5 => .int
  | 6 => .int
  | 7 => .int
  | _ => .object "GlassEyes$Script"
theorem nmX2 : ∀ a, a < 9 → ∀ b, b < 9 → a ≠ b → (TX2 a).2.1 ≠ (TX2 b).2.1 := by decide +kernel
theorem tyX2_ok : ∀ k, k < 9 → parseFieldDescriptor (TX2 k).2.2.1 = some (tyX2 k) := by decide +kernel
abbrev cX2_init : ByteArray := prog_4_method_1_code
def yX2_init : MethodName := ⟨RX2, "<init>", "()V"⟩
abbrev cX2_begin : ByteArray := prog_4_method_2_code
def yX2_begin : MethodName := ⟨RX2, "begin", "([BILGlassEyes$Script;)V"⟩
abbrev cX2_hasMore : ByteArray := prog_4_method_3_code
def yX2_hasMore : MethodName := ⟨RX2, "hasMore", "()Z"⟩
abbrev cX2_scan : ByteArray := prog_4_method_4_code
def yX2_scan : MethodName := ⟨RX2, "scan", "([BI)V"⟩
abbrev cX2_runEnd : ByteArray := prog_4_method_5_code
def yX2_runEnd : MethodName := ⟨RX2, "runEnd", "([BII)I"⟩
abbrev cX2_isLetter : ByteArray := prog_4_method_6_code
def yX2_isLetter : MethodName := ⟨RX2, "isLetter", "(I)Z"⟩
abbrev cX2_isDigit : ByteArray := prog_4_method_7_code
def yX2_isDigit : MethodName := ⟨RX2, "isDigit", "(I)Z"⟩
abbrev cX2_numberOf : ByteArray := prog_4_method_8_code
def yX2_numberOf : MethodName := ⟨RX2, "numberOf", "([BII)I"⟩
abbrev cX2_tokenOf : ByteArray := prog_4_method_9_code
def yX2_tokenOf : MethodName := ⟨RX2, "tokenOf", "([BII)I"⟩
abbrev cX2_wordToken : ByteArray := prog_4_method_10_code
def yX2_wordToken : MethodName := ⟨RX2, "wordToken", "([BII)I"⟩
abbrev cX2_isWord : ByteArray := prog_4_method_11_code
def yX2_isWord : MethodName := ⟨RX2, "isWord", "([BIII)Z"⟩
abbrev cX2_fail : ByteArray := prog_4_method_12_code
def yX2_fail : MethodName := ⟨RX2, "fail", "(I)V"⟩
abbrev cX2_take : ByteArray := prog_4_method_13_code
def yX2_take : MethodName := ⟨RX2, "take", "(I)V"⟩
abbrev cX2_takeNumber : ByteArray := prog_4_method_14_code
def yX2_takeNumber : MethodName := ⟨RX2, "takeNumber", "(I)I"⟩
abbrev cX2_flawOfHead : ByteArray := prog_4_method_15_code
def yX2_flawOfHead : MethodName := ⟨RX2, "flawOfHead", "(I)I"⟩
abbrev cX2_readClause : ByteArray := prog_4_method_16_code
def yX2_readClause : MethodName := ⟨RX2, "readClause", "()V"⟩
abbrev cX2_readDeed : ByteArray := prog_4_method_17_code
def yX2_readDeed : MethodName := ⟨RX2, "readDeed", "(III)V"⟩
abbrev cX2_readRubs : ByteArray := prog_4_method_18_code
def yX2_readRubs : MethodName := ⟨RX2, "readRubs", "()V"⟩
abbrev cX2_readSees : ByteArray := prog_4_method_19_code
def yX2_readSees : MethodName := ⟨RX2, "readSees", "()V"⟩
abbrev cX2_readAsk : ByteArray := prog_4_method_20_code
def yX2_readAsk : MethodName := ⟨RX2, "readAsk", "(I)V"⟩
abbrev cX2_readSum : ByteArray := prog_4_method_21_code
def yX2_readSum : MethodName := ⟨RX2, "readSum", "(I)V"⟩
abbrev cX2_readOne : ByteArray := prog_4_method_22_code
def yX2_readOne : MethodName := ⟨RX2, "readOne", "(I)V"⟩
def RX3 : String := "GlassEyes$Reckoner"
def TX3 : u_T := fun k => match k with
  | 0 => ("GlassEyes$Reckoner", "names", "[I", true)
  | _ => ("GlassEyes$Reckoner", "stack", "[I", true)
def tyX3 : Nat → FieldType := fun k => match k with
  | 0 => .array .int
  | _ => .array .int
theorem nmX3 : ∀ a, a < 2 → ∀ b, b < 2 → a ≠ b → (TX3 a).2.1 ≠ (TX3 b).2.1 := by decide +kernel
theorem tyX3_ok : ∀ k, k < 2 → parseFieldDescriptor (TX3 k).2.2.1 = some (tyX3 k) := by decide +kernel
abbrev cX3_init : ByteArray := prog_5_method_1_code
def yX3_init : MethodName := ⟨RX3, "<init>", "()V"⟩
abbrev cX3_nameEye : ByteArray := prog_5_method_2_code
def yX3_nameEye : MethodName := ⟨RX3, "nameEye", "(III)V"⟩
abbrev cX3_nameTimes : ByteArray := prog_5_method_3_code
def yX3_nameTimes : MethodName := ⟨RX3, "nameTimes", "(III)V"⟩
abbrev cX3_nameTouch : ByteArray := prog_5_method_4_code
def yX3_nameTouch : MethodName := ⟨RX3, "nameTouch", "(III)V"⟩
abbrev cX3_reckon : ByteArray := prog_5_method_5_code
def yX3_reckon : MethodName := ⟨RX3, "reckon", "([III)I"⟩
abbrev cX3_within : ByteArray := prog_5_method_6_code
def yX3_within : MethodName := ⟨RX3, "within", "(J)I"⟩
abbrev cX3_joined : ByteArray := prog_5_method_7_code
def yX3_joined : MethodName := ⟨RX3, "joined", "(III)J"⟩
def RX4 : String := "GlassEyes$Rows"
def TX4 : u_T := fun k => match k with
  | 0 => ("GlassEyes$Rows", "eye", "I", false)
  | 1 => ("GlassEyes$Rows", "length", "I", false)
  | 2 => ("GlassEyes$Rows", "wearer", "I", false)
  | 3 => ("GlassEyes$Rows", "others", "I", false)
  | 4 => ("GlassEyes$Rows", "lowestOther", "I", false)
  | 5 => ("GlassEyes$Rows", "many", "I", false)
  | 6 => ("GlassEyes$Rows", "sure", "I", false)
  | 7 => ("GlassEyes$Rows", "row", "[I", true)
  | _ => ("GlassEyes$Rows", "first", "[I", true)
def tyX4 : Nat → FieldType := fun k => match k with
  | 0 => .int
  | 1 => .int
  | 2 => .int
  | 3 => .int
  | 4 => .int
  | 5 => .int
  | 6 => .int
  | 7 => .array .int
  | _ => .array .int
theorem nmX4 : ∀ a, a < 9 → ∀ b, b < 9 → a ≠ b → (TX4 a).2.1 ≠ (TX4 b).2.1 := by decide +kernel
theorem tyX4_ok : ∀ k, k < 9 → parseFieldDescriptor (TX4 k).2.2.1 = some (tyX4 k) := by decide +kernel
abbrev cX4_init : ByteArray := prog_6_method_1_code
def yX4_init : MethodName := ⟨RX4, "<init>", "()V"⟩
abbrev cX4_begin : ByteArray := prog_6_method_2_code
def yX4_begin : MethodName := ⟨RX4, "begin", "(IIII)V"⟩
abbrev cX4_found : ByteArray := prog_6_method_3_code
def yX4_found : MethodName := ⟨RX4, "found", "(II)V"⟩
def RX5 : String := "GlassEyes$Script"
def TX5 : u_T := fun k => match k with
  | 0 => ("GlassEyes$Script", "clauses", "I", false)
  | 1 => ("GlassEyes$Script", "deeds", "[I", true)
  | 2 => ("GlassEyes$Script", "ones", "[I", true)
  | 3 => ("GlassEyes$Script", "others", "[I", true)
  | 4 => ("GlassEyes$Script", "code", "[I", true)
  | 5 => ("GlassEyes$Script", "codeLength", "I", false)
  | 6 => ("GlassEyes$Script", "seesFrom", "I", false)
  | 7 => ("GlassEyes$Script", "seesTo", "I", false)
  | 8 => ("GlassEyes$Script", "rubsFrom", "I", false)
  | _ => ("GlassEyes$Script", "rubsTo", "I", false)
def tyX5 : Nat → FieldType := fun k => match k with
  | 0 => .int
  | 1 => .array .int
  | 2 => .array .int
  | 3 => .array .int
  | 4 => .array .int
  | 5 => .int
  | 6 => .int
  | 7 => .int
  | 8 => .int
  | _ => .int
theorem nmX5 : ∀ a, a < 10 → ∀ b, b < 10 → a ≠ b → (TX5 a).2.1 ≠ (TX5 b).2.1 := by decide +kernel
theorem tyX5_ok : ∀ k, k < 10 → parseFieldDescriptor (TX5 k).2.2.1 = some (tyX5 k) := by decide +kernel
abbrev cX5_init : ByteArray := prog_7_method_1_code
def yX5_init : MethodName := ⟨RX5, "<init>", "()V"⟩
abbrev cX5_clear : ByteArray := prog_7_method_2_code
def yX5_clear : MethodName := ⟨RX5, "clear", "()V"⟩
abbrev cX5_isDeed : ByteArray := prog_7_method_3_code
def yX5_isDeed : MethodName := ⟨RX5, "isDeed", "(I)Z"⟩
abbrev cX5_addClause : ByteArray := prog_7_method_4_code
def yX5_addClause : MethodName := ⟨RX5, "addClause", "(III)V"⟩
abbrev cX5_addNumber : ByteArray := prog_7_method_5_code
def yX5_addNumber : MethodName := ⟨RX5, "addNumber", "(I)V"⟩
abbrev cX5_addSign : ByteArray := prog_7_method_6_code
def yX5_addSign : MethodName := ⟨RX5, "addSign", "(I)V"⟩
def RX6 : String := "GlassEyes$Standing"
def TX6 : u_T := fun k => match k with
  | 0 => ("GlassEyes$Standing", "things", "I", false)
  | 1 => ("GlassEyes$Standing", "kinds", "[I", true)
  | 2 => ("GlassEyes$Standing", "eyes", "I", false)
  | 3 => ("GlassEyes$Standing", "colours", "[I", true)
  | 4 => ("GlassEyes$Standing", "chips", "[I", true)
  | 5 => ("GlassEyes$Standing", "texts", "I", false)
  | 6 => ("GlassEyes$Standing", "ruling", "I", false)
  | 7 => ("GlassEyes$Standing", "shownMany", "I", false)
  | 8 => ("GlassEyes$Standing", "shownThings", "I", false)
  | 9 => ("GlassEyes$Standing", "court", "LGlassEyes$Court;", true)
  | _ => ("GlassEyes$Standing", "past", "LGlassEyes$Past;", true)
def tyX6 : Nat → FieldType := fun k => match k with
  | 0 => .int
  | 1 => .array .int
  | 2 => .int
  | 3 => .array .int
  | 4 => .array .int
  | 5 => .int
  | 6 => .int
  | 7 => .int
  | 8 => .int
  | 9 => .object "GlassEyes$Court"
  | _ => .object "GlassEyes$Past"
theorem nmX6 : ∀ a, a < 11 → ∀ b, b < 11 → a ≠ b → (TX6 a).2.1 ≠ (TX6 b).2.1 := by decide +kernel
theorem tyX6_ok : ∀ k, k < 11 → parseFieldDescriptor (TX6 k).2.2.1 = some (tyX6 k) := by decide +kernel
abbrev cX6_init : ByteArray := prog_8_method_1_code
def yX6_init : MethodName := ⟨RX6, "<init>", "()V"⟩
abbrev cX6_copyFrom : ByteArray := prog_8_method_2_code
def yX6_copyFrom : MethodName := ⟨RX6, "copyFrom", "(LGlassEyes$Standing;)V"⟩
def RX7 : String := "GlassEyes"
def TX7 : u_T := fun k => match k with
  | 0 => ("GlassEyes", "courtiers", "I", true)
  | 1 => ("GlassEyes", "tape", "[B", true)
  | 2 => ("GlassEyes", "tapeLength", "I", false)
  | 3 => ("GlassEyes", "reader", "LGlassEyes$Reader;", true)
  | 4 => ("GlassEyes", "scripts", "[LGlassEyes$Script;", true)
  | 5 => ("GlassEyes", "now", "LGlassEyes$Standing;", true)
  | 6 => ("GlassEyes", "kept", "LGlassEyes$Standing;", true)
  | 7 => ("GlassEyes", "tale", "LGlassEyes$Court;", true)
  | 8 => ("GlassEyes", "reckoner", "LGlassEyes$Reckoner;", true)
  | 9 => ("GlassEyes", "rows", "LGlassEyes$Rows;", true)
  | 10 => ("GlassEyes", "knownBehind", "[I", true)
  | _ => ("GlassEyes", "prices", "[I", true)
def tyX7 : Nat → FieldType := fun k => match k with
  | 0 => .int
  | 1 => .array .byte
  | 2 => .int
  | 3 => .object "GlassEyes$Reader"
  | 4 => .array (.object "GlassEyes$Script")
  | 5 => .object "GlassEyes$Standing"
  | 6 => .object "GlassEyes$Standing"
  | 7 => .object "GlassEyes$Court"
  | 8 => .object "GlassEyes$Reckoner"
  | 9 => .object "GlassEyes$Rows"
  | 10 => .array .int
  | _ => .array .int
theorem nmX7 : ∀ a, a < 12 → ∀ b, b < 12 → a ≠ b → (TX7 a).2.1 ≠ (TX7 b).2.1 := by decide +kernel
theorem tyX7_ok : ∀ k, k < 12 → parseFieldDescriptor (TX7 k).2.2.1 = some (tyX7 k) := by decide +kernel
abbrev cX7_init : ByteArray := prog_1_method_1_code
def yX7_init : MethodName := ⟨RX7, "<init>", "(I)V"⟩
abbrev cX7_thing : ByteArray := prog_1_method_2_code
def yX7_thing : MethodName := ⟨RX7, "thing", "(I)I"⟩
abbrev cX7_eye : ByteArray := prog_1_method_3_code
def yX7_eye : MethodName := ⟨RX7, "eye", "(IZ)I"⟩
abbrev cX7_feed : ByteArray := prog_1_method_4_code
def yX7_feed : MethodName := ⟨RX7, "feed", "(IIIII)I"⟩
abbrev cX7_end : ByteArray := prog_1_method_5_code
def yX7_end : MethodName := ⟨RX7, "end", "(I)I"⟩
abbrev cX7_text : ByteArray := prog_1_method_6_code
def yX7_text : MethodName := ⟨RX7, "text", "()I"⟩
abbrev cX7_fault : ByteArray := prog_1_method_7_code
def yX7_fault : MethodName := ⟨RX7, "fault", "(I)I"⟩
abbrev cX7_by : ByteArray := prog_1_method_8_code
def yX7_by : MethodName := ⟨RX7, "by", "(I)Z"⟩
abbrev cX7_touch : ByteArray := prog_1_method_9_code
def yX7_touch : MethodName := ⟨RX7, "touch", "(II)I"⟩
abbrev cX7_put : ByteArray := prog_1_method_10_code
def yX7_put : MethodName := ⟨RX7, "put", "(II)Z"⟩
abbrev cX7_swap : ByteArray := prog_1_method_11_code
def yX7_swap : MethodName := ⟨RX7, "swap", "(II)Z"⟩
abbrev cX7_polish : ByteArray := prog_1_method_12_code
def yX7_polish : MethodName := ⟨RX7, "polish", "(I)I"⟩
abbrev cX7_played : ByteArray := prog_1_method_13_code
def yX7_played : MethodName := ⟨RX7, "played", "(I)I"⟩
abbrev cX7_cat : ByteArray := prog_1_method_14_code
def yX7_cat : MethodName := ⟨RX7, "cat", "(II)I"⟩
abbrev cX7_undo : ByteArray := prog_1_method_15_code
def yX7_undo : MethodName := ⟨RX7, "undo", "()I"⟩
abbrev cX7_of : ByteArray := prog_1_method_16_code
def yX7_of : MethodName := ⟨RX7, "of", "(II)I"⟩
abbrev cX7_told : ByteArray := prog_1_method_17_code
def yX7_told : MethodName := ⟨RX7, "told", "(III)I"⟩
abbrev cX7_verdict : ByteArray := prog_1_method_18_code
def yX7_verdict : MethodName := ⟨RX7, "verdict", "(I)I"⟩
abbrev cX7_quarrel : ByteArray := prog_1_method_19_code
def yX7_quarrel : MethodName := ⟨RX7, "quarrel", "(I)I"⟩
abbrev cX7_shown : ByteArray := prog_1_method_20_code
def yX7_shown : MethodName := ⟨RX7, "shown", "(I)I"⟩
abbrev cX7_how : ByteArray := prog_1_method_21_code
def yX7_how : MethodName := ⟨RX7, "how", "(III)I"⟩
abbrev cX7_supper : ByteArray := prog_1_method_22_code
def yX7_supper : MethodName := ⟨RX7, "supper", "(III)I"⟩
abbrev cX7_image : ByteArray := prog_1_method_23_code
def yX7_image : MethodName := ⟨RX7, "image", "()I"⟩
abbrev cX7_back : ByteArray := prog_1_method_24_code
def yX7_back : MethodName := ⟨RX7, "back", "()I"⟩
abbrev cX7_about : ByteArray := prog_1_method_25_code
def yX7_about : MethodName := ⟨RX7, "about", "(I)I"⟩
abbrev cX7_isThing : ByteArray := prog_1_method_26_code
def yX7_isThing : MethodName := ⟨RX7, "isThing", "(I)Z"⟩
abbrev cX7_isEye : ByteArray := prog_1_method_27_code
def yX7_isEye : MethodName := ⟨RX7, "isEye", "(I)Z"⟩
abbrev cX7_isText : ByteArray := prog_1_method_28_code
def yX7_isText : MethodName := ⟨RX7, "isText", "(I)Z"⟩
abbrev cX7_isCourtier : ByteArray := prog_1_method_29_code
def yX7_isCourtier : MethodName := ⟨RX7, "isCourtier", "(I)Z"⟩
abbrev cX7_addFourBytes : ByteArray := prog_1_method_30_code
def yX7_addFourBytes : MethodName := ⟨RX7, "addFourBytes", "(I)V"⟩
abbrev cX7_drawnAfter : ByteArray := prog_1_method_31_code
def yX7_drawnAfter : MethodName := ⟨RX7, "drawnAfter", "(I)I"⟩
abbrev cX7_byHand : ByteArray := prog_1_method_32_code
def yX7_byHand : MethodName := ⟨RX7, "byHand", "(III)I"⟩
abbrev cX7_tell : ByteArray := prog_1_method_33_code
def yX7_tell : MethodName := ⟨RX7, "tell", "(LGlassEyes$Script;)V"⟩
abbrev cX7_canBe : ByteArray := prog_1_method_34_code
def yX7_canBe : MethodName := ⟨RX7, "canBe", "(LGlassEyes$Court;III)Z"⟩
abbrev cX7_hasRoom : ByteArray := prog_1_method_35_code
def yX7_hasRoom : MethodName := ⟨RX7, "hasRoom", "(LGlassEyes$Court;I)Z"⟩
abbrev cX7_perform : ByteArray := prog_1_method_36_code
def yX7_perform : MethodName := ⟨RX7, "perform", "(LGlassEyes$Court;III)I"⟩
abbrev cX7_feel : ByteArray := prog_1_method_37_code
def yX7_feel : MethodName := ⟨RX7, "feel", "(LGlassEyes$Court;II)I"⟩
abbrev cX7_learned : ByteArray := prog_1_method_38_code
def yX7_learned : MethodName := ⟨RX7, "learned", "(III)I"⟩
abbrev cX7_isSeen : ByteArray := prog_1_method_39_code
def yX7_isSeen : MethodName := ⟨RX7, "isSeen", "(LGlassEyes$Court;III)Z"⟩
abbrev cX7_rubsOf : ByteArray := prog_1_method_40_code
def yX7_rubsOf : MethodName := ⟨RX7, "rubsOf", "(I)I"⟩
abbrev cX7_nameEye : ByteArray := prog_1_method_41_code
def yX7_nameEye : MethodName := ⟨RX7, "nameEye", "(LGlassEyes$Court;I)V"⟩
abbrev cX7_tellAll : ByteArray := prog_1_method_42_code
def yX7_tellAll : MethodName := ⟨RX7, "tellAll", "(I)V"⟩
abbrev cX7_tellsApart : ByteArray := prog_1_method_43_code
def yX7_tellsApart : MethodName := ⟨RX7, "tellsApart", "(II)Z"⟩
abbrev cX7_differ : ByteArray := prog_1_method_44_code
def yX7_differ : MethodName := ⟨RX7, "differ", "(III)Z"⟩
abbrev cX7_isNoWorse : ByteArray := prog_1_method_45_code
def yX7_isNoWorse : MethodName := ⟨RX7, "isNoWorse", "(II)Z"⟩
abbrev cX7_priceOf : ByteArray := prog_1_method_46_code
def yX7_priceOf : MethodName := ⟨RX7, "priceOf", "(I)I"⟩
abbrev cX7_findRows : ByteArray := prog_1_method_47_code
def yX7_findRows : MethodName := ⟨RX7, "findRows", "(II)V"⟩
abbrev cX7_goThroughRows : ByteArray := prog_1_method_48_code
def yX7_goThroughRows : MethodName := ⟨RX7, "goThroughRows", "(IIII)V"⟩
abbrev cX7_touchByOthers : ByteArray := prog_1_method_49_code
def yX7_touchByOthers : MethodName := ⟨RX7, "touchByOthers", "(IIII)V"⟩
abbrev cX7_touchByWearer : ByteArray := prog_1_method_50_code
def yX7_touchByWearer : MethodName := ⟨RX7, "touchByWearer", "(IIII)V"⟩
def RX8 : String := "GlassEyesModel"
def TX8 : u_T := fun k => match k with
  | 0 => ("GlassEyesModel", "a", "[I", true)
  | 1 => ("GlassEyesModel", "image", "[I", true)
  | 2 => ("GlassEyesModel", "aside", "[I", true)
  | 3 => ("GlassEyesModel", "courtiers", "I", true)
  | 4 => ("GlassEyesModel", "texts", "[I", true)
  | 5 => ("GlassEyesModel", "tape", "[I", true)
  | 6 => ("GlassEyesModel", "taped", "I", false)
  | 7 => ("GlassEyesModel", "fault", "I", false)
  | 8 => ("GlassEyesModel", "faultPlace", "I", false)
  | 9 => ("GlassEyesModel", "at", "I", false)
  | 10 => ("GlassEyesModel", "place", "I", false)
  | 11 => ("GlassEyesModel", "token", "I", false)
  | 12 => ("GlassEyesModel", "number", "I", false)
  | 13 => ("GlassEyesModel", "word", "J", false)
  | 14 => ("GlassEyesModel", "text0", "I", false)
  | 15 => ("GlassEyesModel", "clauses", "I", false)
  | 16 => ("GlassEyesModel", "written", "I", false)
  | 17 => ("GlassEyesModel", "came", "I", false)
  | 18 => ("GlassEyesModel", "pile", "[I", true)
  | 19 => ("GlassEyesModel", "piled", "I", false)
  | 20 => ("GlassEyesModel", "opens", "I", false)
  | 21 => ("GlassEyesModel", "isWhole", "Z", false)
  | 22 => ("GlassEyesModel", "sort0", "I", false)
  | 23 => ("GlassEyesModel", "once", "I", false)
  | 24 => ("GlassEyesModel", "named", "[I", true)
  | 25 => ("GlassEyesModel", "values", "[J", true)
  | 26 => ("GlassEyesModel", "truth", "[Z", true)
  | 27 => ("GlassEyesModel", "would", "[I", true)
  | 28 => ("GlassEyesModel", "row", "[I", true)
  | 29 => ("GlassEyesModel", "knows", "[I", true)
  | 30 => ("GlassEyesModel", "first", "[I", true)
  | 31 => ("GlassEyesModel", "rows", "I", false)
  | _ => ("GlassEyesModel", "sure", "I", false)
def tyX8 : Nat → FieldType := fun k => match k with
  | 0 => .array .int
  | 1 => .array .int
  | 2 => .array .int
  | 3 => .int
  | 4 => .array .int
  | 5 => .array .int
  | 6 => .int
  | 7 => .int
  | 8 => .int
  | 9 => .int
  | 10 => .int
  | 11 => .int
  | 12 => .int
  | 13 => .long
  | 14 => .int
  | 15 => .int
  | 16 => .int
  | 17 => .int
  | 18 => .array .int
  | 19 => .int
  | 20 => .int
  | 21 => .boolean
  | 22 => .int
  | 23 => .int
  | 24 => .array .int
  | 25 => .array .long
  | 26 => .array .boolean
  | 27 => .array .int
  | 28 => .array .int
  | 29 => .array .int
  | 30 => .array .int
  | 31 => .int
  | _ => .int
theorem nmX8 : ∀ a, a < 33 → ∀ b, b < 33 → a ≠ b → (TX8 a).2.1 ≠ (TX8 b).2.1 := by decide +kernel
theorem tyX8_ok : ∀ k, k < 33 → parseFieldDescriptor (TX8 k).2.2.1 = some (tyX8 k) := by decide +kernel
abbrev cX8_init : ByteArray := prog_10_method_1_code
def yX8_init : MethodName := ⟨RX8, "<init>", "(I)V"⟩
abbrev cX8_copy : ByteArray := prog_10_method_2_code
def yX8_copy : MethodName := ⟨RX8, "copy", "([I[I)V"⟩
abbrev cX8_isIn : ByteArray := prog_10_method_3_code
def yX8_isIn : MethodName := ⟨RX8, "isIn", "(III)Z"⟩
abbrev cX8_has : ByteArray := prog_10_method_4_code
def yX8_has : MethodName := ⟨RX8, "has", "(II)Z"⟩
abbrev cX8_bits : ByteArray := prog_10_method_5_code
def yX8_bits : MethodName := ⟨RX8, "bits", "(I)I"⟩
abbrev cX8_isThing : ByteArray := prog_10_method_6_code
def yX8_isThing : MethodName := ⟨RX8, "isThing", "(I)Z"⟩
abbrev cX8_isEye : ByteArray := prog_10_method_7_code
def yX8_isEye : MethodName := ⟨RX8, "isEye", "(I)Z"⟩
abbrev cX8_isOne : ByteArray := prog_10_method_8_code
def yX8_isOne : MethodName := ⟨RX8, "isOne", "(I)Z"⟩
abbrev cX8_get : ByteArray := prog_10_method_9_code
def yX8_get : MethodName := ⟨RX8, "get", "(II)I"⟩
abbrev cX8_set : ByteArray := prog_10_method_10_code
def yX8_set : MethodName := ⟨RX8, "set", "(III)V"⟩
abbrev cX8_clear : ByteArray := prog_10_method_11_code
def yX8_clear : MethodName := ⟨RX8, "clear", "(I)V"⟩
abbrev cX8_manyOf : ByteArray := prog_10_method_12_code
def yX8_manyOf : MethodName := ⟨RX8, "manyOf", "(I)I"⟩
abbrev cX8_wornBy : ByteArray := prog_10_method_13_code
def yX8_wornBy : MethodName := ⟨RX8, "wornBy", "(I)I"⟩
abbrev cX8_thing : ByteArray := prog_10_method_14_code
def yX8_thing : MethodName := ⟨RX8, "thing", "(I)I"⟩
abbrev cX8_eye : ByteArray := prog_10_method_15_code
def yX8_eye : MethodName := ⟨RX8, "eye", "(IZ)I"⟩
abbrev cX8_four : ByteArray := prog_10_method_16_code
def yX8_four : MethodName := ⟨RX8, "four", "(I)V"⟩
abbrev cX8_feed : ByteArray := prog_10_method_17_code
def yX8_feed : MethodName := ⟨RX8, "feed", "(IIIII)I"⟩
abbrev cX8_end : ByteArray := prog_10_method_18_code
def yX8_end : MethodName := ⟨RX8, "end", "(I)I"⟩
abbrev cX8_byteAt : ByteArray := prog_10_method_19_code
def yX8_byteAt : MethodName := ⟨RX8, "byteAt", "(I)I"⟩
abbrev cX8_isLetter : ByteArray := prog_10_method_20_code
def yX8_isLetter : MethodName := ⟨RX8, "isLetter", "(I)Z"⟩
abbrev cX8_isDigit : ByteArray := prog_10_method_21_code
def yX8_isDigit : MethodName := ⟨RX8, "isDigit", "(I)Z"⟩
abbrev cX8_nextToken : ByteArray := prog_10_method_22_code
def yX8_nextToken : MethodName := ⟨RX8, "nextToken", "()V"⟩
abbrev cX8_w3 : ByteArray := prog_10_method_23_code
def yX8_w3 : MethodName := ⟨RX8, "w3", "(III)J"⟩
abbrev cX8_w5 : ByteArray := prog_10_method_24_code
def yX8_w5 : MethodName := ⟨RX8, "w5", "(IIIII)J"⟩
abbrev cX8_w4 : ByteArray := prog_10_method_25_code
def yX8_w4 : MethodName := ⟨RX8, "w4", "(IIII)J"⟩
abbrev cX8_w6 : ByteArray := prog_10_method_26_code
def yX8_w6 : MethodName := ⟨RX8, "w6", "(IIIIII)J"⟩
abbrev cX8_isWord : ByteArray := prog_10_method_27_code
def yX8_isWord : MethodName := ⟨RX8, "isWord", "(J)Z"⟩
abbrev cX8_emit : ByteArray := prog_10_method_28_code
def yX8_emit : MethodName := ⟨RX8, "emit", "(II)V"⟩
abbrev cX8_push : ByteArray := prog_10_method_29_code
def yX8_push : MethodName := ⟨RX8, "push", "(I)V"⟩
abbrev cX8_whole : ByteArray := prog_10_method_30_code
def yX8_whole : MethodName := ⟨RX8, "whole", "()V"⟩
abbrev cX8_settle : ByteArray := prog_10_method_31_code
def yX8_settle : MethodName := ⟨RX8, "settle", "(I)V"⟩
abbrev cX8_nameOf : ByteArray := prog_10_method_32_code
def yX8_nameOf : MethodName := ⟨RX8, "nameOf", "()I"⟩
abbrev cX8_isBarred : ByteArray := prog_10_method_33_code
def yX8_isBarred : MethodName := ⟨RX8, "isBarred", "(I)Z"⟩
abbrev cX8_beginOne : ByteArray := prog_10_method_34_code
def yX8_beginOne : MethodName := ⟨RX8, "beginOne", "()I"⟩
abbrev cX8_hasParen : ByteArray := prog_10_method_35_code
def yX8_hasParen : MethodName := ⟨RX8, "hasParen", "()Z"⟩
abbrev cX8_goesOn : ByteArray := prog_10_method_36_code
def yX8_goesOn : MethodName := ⟨RX8, "goesOn", "()Z"⟩
abbrev cX8_behindOne : ByteArray := prog_10_method_37_code
def yX8_behindOne : MethodName := ⟨RX8, "behindOne", "()I"⟩
abbrev cX8_summed : ByteArray := prog_10_method_38_code
def yX8_summed : MethodName := ⟨RX8, "summed", "()I"⟩
abbrev cX8_compareOf : ByteArray := prog_10_method_39_code
def yX8_compareOf : MethodName := ⟨RX8, "compareOf", "()I"⟩
abbrev cX8_asks : ByteArray := prog_10_method_40_code
def yX8_asks : MethodName := ⟨RX8, "asks", "()I"⟩
abbrev cX8_either : ByteArray := prog_10_method_41_code
def yX8_either : MethodName := ⟨RX8, "either", "()I"⟩
abbrev cX8_sortOf : ByteArray := prog_10_method_42_code
def yX8_sortOf : MethodName := ⟨RX8, "sortOf", "()I"⟩
abbrev cX8_figure : ByteArray := prog_10_method_43_code
def yX8_figure : MethodName := ⟨RX8, "figure", "(II)I"⟩
abbrev cX8_isBetween : ByteArray := prog_10_method_44_code
def yX8_isBetween : MethodName := ⟨RX8, "isBetween", "(I)Z"⟩
abbrev cX8_line : ByteArray := prog_10_method_45_code
def yX8_line : MethodName := ⟨RX8, "line", "(II)I"⟩
abbrev cX8_clause : ByteArray := prog_10_method_46_code
def yX8_clause : MethodName := ⟨RX8, "clause", "()I"⟩
abbrev cX8_readText : ByteArray := prog_10_method_47_code
def yX8_readText : MethodName := ⟨RX8, "readText", "()I"⟩
abbrev cX8_text : ByteArray := prog_10_method_48_code
def yX8_text : MethodName := ⟨RX8, "text", "()I"⟩
abbrev cX8_fault : ByteArray := prog_10_method_49_code
def yX8_fault : MethodName := ⟨RX8, "fault", "(I)I"⟩
abbrev cX8_isText : ByteArray := prog_10_method_50_code
def yX8_isText : MethodName := ⟨RX8, "isText", "(I)Z"⟩
abbrev cX8_by : ByteArray := prog_10_method_51_code
def yX8_by : MethodName := ⟨RX8, "by", "(I)Z"⟩
abbrev cX8_clip : ByteArray := prog_10_method_52_code
def yX8_clip : MethodName := ⟨RX8, "clip", "(J)J"⟩
abbrev cX8_two : ByteArray := prog_10_method_53_code
def yX8_two : MethodName := ⟨RX8, "two", "(IJJ)J"⟩
abbrev cX8_isAsked : ByteArray := prog_10_method_54_code
def yX8_isAsked : MethodName := ⟨RX8, "isAsked", "(IJJ)Z"⟩
abbrev cX8_work : ByteArray := prog_10_method_55_code
def yX8_work : MethodName := ⟨RX8, "work", "(I)V"⟩
abbrev cX8_clauseOf : ByteArray := prog_10_method_56_code
def yX8_clauseOf : MethodName := ⟨RX8, "clauseOf", "(I)I"⟩
abbrev cX8_name : ByteArray := prog_10_method_57_code
def yX8_name : MethodName := ⟨RX8, "name", "(III)V"⟩
abbrev cX8_sees : ByteArray := prog_10_method_58_code
def yX8_sees : MethodName := ⟨RX8, "sees", "(IIIII)Z"⟩
abbrev cX8_rubsOf : ByteArray := prog_10_method_59_code
def yX8_rubsOf : MethodName := ⟨RX8, "rubsOf", "(I)I"⟩
abbrev cX8_keep : ByteArray := prog_10_method_60_code
def yX8_keep : MethodName := ⟨RX8, "keep", "()V"⟩
abbrev cX8_undo : ByteArray := prog_10_method_61_code
def yX8_undo : MethodName := ⟨RX8, "undo", "()I"⟩
abbrev cX8_learn : ByteArray := prog_10_method_62_code
def yX8_learn : MethodName := ⟨RX8, "learn", "(II)V"⟩
abbrev cX8_touch : ByteArray := prog_10_method_63_code
def yX8_touch : MethodName := ⟨RX8, "touch", "(II)I"⟩
abbrev cX8_place0 : ByteArray := prog_10_method_64_code
def yX8_place0 : MethodName := ⟨RX8, "place0", "(II)V"⟩
abbrev cX8_put : ByteArray := prog_10_method_65_code
def yX8_put : MethodName := ⟨RX8, "put", "(II)Z"⟩
abbrev cX8_exchange : ByteArray := prog_10_method_66_code
def yX8_exchange : MethodName := ⟨RX8, "exchange", "(II)V"⟩
abbrev cX8_swap : ByteArray := prog_10_method_67_code
def yX8_swap : MethodName := ⟨RX8, "swap", "(II)Z"⟩
abbrev cX8_polish : ByteArray := prog_10_method_68_code
def yX8_polish : MethodName := ⟨RX8, "polish", "(I)I"⟩
abbrev cX8_isDone : ByteArray := prog_10_method_69_code
def yX8_isDone : MethodName := ⟨RX8, "isDone", "(I)Z"⟩
abbrev cX8_played : ByteArray := prog_10_method_70_code
def yX8_played : MethodName := ⟨RX8, "played", "(I)I"⟩
abbrev cX8_cat : ByteArray := prog_10_method_71_code
def yX8_cat : MethodName := ⟨RX8, "cat", "(II)I"⟩
abbrev cX8_of : ByteArray := prog_10_method_72_code
def yX8_of : MethodName := ⟨RX8, "of", "(II)I"⟩
abbrev cX8_tellOn : ByteArray := prog_10_method_73_code
def yX8_tellOn : MethodName := ⟨RX8, "tellOn", "(I)V"⟩
abbrev cX8_tell : ByteArray := prog_10_method_74_code
def yX8_tell : MethodName := ⟨RX8, "tell", "(I)V"⟩
abbrev cX8_told : ByteArray := prog_10_method_75_code
def yX8_told : MethodName := ⟨RX8, "told", "(III)I"⟩
abbrev cX8_isApart : ByteArray := prog_10_method_76_code
def yX8_isApart : MethodName := ⟨RX8, "isApart", "(III)Z"⟩
abbrev cX8_areApart : ByteArray := prog_10_method_77_code
def yX8_areApart : MethodName := ⟨RX8, "areApart", "(II)Z"⟩
abbrev cX8_verdict : ByteArray := prog_10_method_78_code
def yX8_verdict : MethodName := ⟨RX8, "verdict", "(I)I"⟩
abbrev cX8_quarrel : ByteArray := prog_10_method_79_code
def yX8_quarrel : MethodName := ⟨RX8, "quarrel", "(I)I"⟩
abbrev cX8_shown : ByteArray := prog_10_method_80_code
def yX8_shown : MethodName := ⟨RX8, "shown", "(I)I"⟩
abbrev cX8_shownAt : ByteArray := prog_10_method_81_code
def yX8_shownAt : MethodName := ⟨RX8, "shownAt", "(I)I"⟩
abbrev cX8_goOn : ByteArray := prog_10_method_82_code
def yX8_goOn : MethodName := ⟨RX8, "goOn", "(II)V"⟩
abbrev cX8_isShown : ByteArray := prog_10_method_83_code
def yX8_isShown : MethodName := ⟨RX8, "isShown", "(I)Z"⟩
abbrev cX8_count : ByteArray := prog_10_method_84_code
def yX8_count : MethodName := ⟨RX8, "count", "(I)V"⟩
abbrev cX8_goThrough : ByteArray := prog_10_method_85_code
def yX8_goThrough : MethodName := ⟨RX8, "goThrough", "(II)V"⟩
abbrev cX8_how : ByteArray := prog_10_method_86_code
def yX8_how : MethodName := ⟨RX8, "how", "(III)I"⟩
abbrev cX8_isSupper : ByteArray := prog_10_method_87_code
def yX8_isSupper : MethodName := ⟨RX8, "isSupper", "(IIII)Z"⟩
abbrev cX8_supper : ByteArray := prog_10_method_88_code
def yX8_supper : MethodName := ⟨RX8, "supper", "(III)I"⟩
abbrev cX8_image : ByteArray := prog_10_method_89_code
def yX8_image : MethodName := ⟨RX8, "image", "()I"⟩
abbrev cX8_back : ByteArray := prog_10_method_90_code
def yX8_back : MethodName := ⟨RX8, "back", "()I"⟩
abbrev cX8_about : ByteArray := prog_10_method_91_code
def yX8_about : MethodName := ⟨RX8, "about", "(I)I"⟩
def RJx145de : String := "java/io/Serializable"
def TJx145de : u_T := fun k => match k with
  | _ => ("", "", "", false)
def tyJx145de : Nat → FieldType := fun k => match k with
  | _ => .int
theorem nmJx145de : ∀ a, a < 0 → ∀ b, b < 0 → a ≠ b → (TJx145de a).2.1 ≠ (TJx145de b).2.1 := by decide +kernel
theorem tyJx145de_ok : ∀ k, k < 0 → parseFieldDescriptor (TJx145de k).2.2.1 = some (tyJx145de k) := by decide +kernel
def RJx9f9b0 : String := "java/lang/CharSequence"
def TJx9f9b0 : u_T := fun k => match k with
  | _ => ("", "", "", false)
def tyJx9f9b0 : Nat → FieldType := fun k => match k with
  | _ => .int
theorem nmJx9f9b0 : ∀ a, a < 0 → ∀ b, b < 0 → a ≠ b → (TJx9f9b0 a).2.1 ≠ (TJx9f9b0 b).2.1 := by decide +kernel
theorem tyJx9f9b0_ok : ∀ k, k < 0 → parseFieldDescriptor (TJx9f9b0 k).2.2.1 = some (tyJx9f9b0 k) := by decide +kernel
def RJxb160c : String := "java/lang/Comparable"
def TJxb160c : u_T := fun k => match k with
  | _ => ("", "", "", false)
def tyJxb160c : Nat → FieldType := fun k => match k with
  | _ => .int
theorem nmJxb160c : ∀ a, a < 0 → ∀ b, b < 0 → a ≠ b → (TJxb160c a).2.1 ≠ (TJxb160c b).2.1 := by decide +kernel
theorem tyJxb160c_ok : ∀ k, k < 0 → parseFieldDescriptor (TJxb160c k).2.2.1 = some (tyJxb160c k) := by decide +kernel
def RJ6 : String := "java/lang/Integer"
def TJ6 : u_T := fun k => match k with
  | _ => ("", "", "", false)
def tyJ6 : Nat → FieldType := fun k => match k with
  | _ => .int
theorem nmJ6 : ∀ a, a < 0 → ∀ b, b < 0 → a ≠ b → (TJ6 a).2.1 ≠ (TJ6 b).2.1 := by decide +kernel
theorem tyJ6_ok : ∀ k, k < 0 → parseFieldDescriptor (TJ6 k).2.2.1 = some (tyJ6 k) := by decide +kernel
abbrev cJ6_bitCount_0f7a4 : ByteArray := prog_11_method_49_code
def yJ6_bitCount_0f7a4 : MethodName := ⟨RJ6, "bitCount", "(I)I"⟩
def RJ9 : String := "java/lang/Math"
def TJ9 : u_T := fun k => match k with
  | _ => ("", "", "", false)
def tyJ9 : Nat → FieldType := fun k => match k with
  | _ => .int
theorem nmJ9 : ∀ a, a < 0 → ∀ b, b < 0 → a ≠ b → (TJ9 a).2.1 ≠ (TJ9 b).2.1 := by decide +kernel
theorem tyJ9_ok : ∀ k, k < 0 → parseFieldDescriptor (TJ9 k).2.2.1 = some (tyJ9 k) := by decide +kernel
abbrev cJ9_max_7cf53 : ByteArray := prog_12_method_65_code
def yJ9_max_7cf53 : MethodName := ⟨RJ9, "max", "(II)I"⟩
abbrev cJ9_min_7cf53 : ByteArray := prog_12_method_69_code
def yJ9_min_7cf53 : MethodName := ⟨RJ9, "min", "(II)I"⟩
def RJ0 : String := "java/lang/String"
def TJ0 : u_T := fun k => match k with
  | _ => ("", "", "", false)
def tyJ0 : Nat → FieldType := fun k => match k with
  | _ => .int
theorem nmJ0 : ∀ a, a < 0 → ∀ b, b < 0 → a ≠ b → (TJ0 a).2.1 ≠ (TJ0 b).2.1 := by decide +kernel
theorem tyJ0_ok : ∀ k, k < 0 → parseFieldDescriptor (TJ0 k).2.2.1 = some (tyJ0 k) := by decide +kernel
abbrev cJ0_length_8abf5 : ByteArray := prog_13_method_54_code
def yJ0_length_8abf5 : MethodName := ⟨RJ0, "length", "()I"⟩
abbrev cJ0_charAt_5068e : ByteArray := prog_13_method_56_code
def yJ0_charAt_5068e : MethodName := ⟨RJ0, "charAt", "(I)C"⟩
abbrev cJ0_coder_7d493 : ByteArray := prog_13_method_152_code
def yJ0_coder_7d493 : MethodName := ⟨RJ0, "coder", "()B"⟩
abbrev cJ0_isLatin1_aae02 : ByteArray := prog_13_method_154_code
def yJ0_isLatin1_aae02 : MethodName := ⟨RJ0, "isLatin1", "()Z"⟩
abbrev cJ0_checkIndex_df160 : ByteArray := prog_13_method_155_code
def yJ0_checkIndex_df160 : MethodName := ⟨RJ0, "checkIndex", "(II)V"⟩
def RJ1 : String := "java/lang/StringLatin1"
def TJ1 : u_T := fun k => match k with
  | _ => ("", "", "", false)
def tyJ1 : Nat → FieldType := fun k => match k with
  | _ => .int
theorem nmJ1 : ∀ a, a < 0 → ∀ b, b < 0 → a ≠ b → (TJ1 a).2.1 ≠ (TJ1 b).2.1 := by decide +kernel
theorem tyJ1_ok : ∀ k, k < 0 → parseFieldDescriptor (TJ1 k).2.2.1 = some (tyJ1 k) := by decide +kernel
abbrev cJ1_charAt_3b067 : ByteArray := prog_14_method_2_code
def yJ1_charAt_3b067 : MethodName := ⟨RJ1, "charAt", "([BI)C"⟩
def RJ2 : String := "java/lang/StringUTF16"
def TJ2 : u_T := fun k => match k with
  | _ => ("", "", "", false)
def tyJ2 : Nat → FieldType := fun k => match k with
  | _ => .int
theorem nmJ2 : ∀ a, a < 0 → ∀ b, b < 0 → a ≠ b → (TJ2 a).2.1 ≠ (TJ2 b).2.1 := by decide +kernel
theorem tyJ2_ok : ∀ k, k < 0 → parseFieldDescriptor (TJ2 k).2.2.1 = some (tyJ2 k) := by decide +kernel
abbrev cJ2_getChar_3b067 : ByteArray := prog_15_method_5_code
def yJ2_getChar_3b067 : MethodName := ⟨RJ2, "getChar", "([BI)C"⟩
abbrev cJ2_length_9d52b : ByteArray := prog_15_method_6_code
def yJ2_length_9d52b : MethodName := ⟨RJ2, "length", "([B)I"⟩
abbrev cJ2_charAt_3b067 : ByteArray := prog_15_method_83_code
def yJ2_charAt_3b067 : MethodName := ⟨RJ2, "charAt", "([BI)C"⟩
abbrev cJ2_checkIndex_2214a : ByteArray := prog_15_method_91_code
def yJ2_checkIndex_2214a : MethodName := ⟨RJ2, "checkIndex", "(I[B)V"⟩
def RJ10 : String := "java/lang/System"
def TJ10 : u_T := fun k => match k with
  | _ => ("", "", "", false)
def tyJ10 : Nat → FieldType := fun k => match k with
  | _ => .int
theorem nmJ10 : ∀ a, a < 0 → ∀ b, b < 0 → a ≠ b → (TJ10 a).2.1 ≠ (TJ10 b).2.1 := by decide +kernel
theorem tyJ10_ok : ∀ k, k < 0 → parseFieldDescriptor (TJ10 k).2.2.1 = some (tyJ10 k) := by decide +kernel
def RJxfd54e : String := "java/lang/constant/Constable"
def TJxfd54e : u_T := fun k => match k with
  | _ => ("", "", "", false)
def tyJxfd54e : Nat → FieldType := fun k => match k with
  | _ => .int
theorem nmJxfd54e : ∀ a, a < 0 → ∀ b, b < 0 → a ≠ b → (TJxfd54e a).2.1 ≠ (TJxfd54e b).2.1 := by decide +kernel
theorem tyJxfd54e_ok : ∀ k, k < 0 → parseFieldDescriptor (TJxfd54e k).2.2.1 = some (tyJxfd54e k) := by decide +kernel
def RJx3cf43 : String := "java/lang/constant/ConstantDesc"
def TJx3cf43 : u_T := fun k => match k with
  | _ => ("", "", "", false)
def tyJx3cf43 : Nat → FieldType := fun k => match k with
  | _ => .int
theorem nmJx3cf43 : ∀ a, a < 0 → ∀ b, b < 0 → a ≠ b → (TJx3cf43 a).2.1 ≠ (TJx3cf43 b).2.1 := by decide +kernel
theorem tyJx3cf43_ok : ∀ k, k < 0 → parseFieldDescriptor (TJx3cf43 k).2.2.1 = some (tyJx3cf43 k) := by decide +kernel
def RJ7 : String := "java/util/Arrays"
def TJ7 : u_T := fun k => match k with
  | _ => ("", "", "", false)
def tyJ7 : Nat → FieldType := fun k => match k with
  | _ => .int
theorem nmJ7 : ∀ a, a < 0 → ∀ b, b < 0 → a ≠ b → (TJ7 a).2.1 ≠ (TJ7 b).2.1 := by decide +kernel
theorem tyJ7_ok : ∀ k, k < 0 → parseFieldDescriptor (TJ7 k).2.2.1 = some (tyJ7 k) := by decide +kernel
abbrev cJ7_fill_53178 : ByteArray := prog_17_method_103_code
def yJ7_fill_53178 : MethodName := ⟨RJ7, "fill", "([II)V"⟩
def RJ3 : String := "jdk/internal/util/Preconditions"
def TJ3 : u_T := fun k => match k with
  | _ => ("", "", "", false)
def tyJ3 : Nat → FieldType := fun k => match k with
  | _ => .int
theorem nmJ3 : ∀ a, a < 0 → ∀ b, b < 0 → a ≠ b → (TJ3 a).2.1 ≠ (TJ3 b).2.1 := by decide +kernel
theorem tyJ3_ok : ∀ k, k < 0 → parseFieldDescriptor (TJ3 k).2.2.1 = some (tyJ3 k) := by decide +kernel
abbrev cJ3_checkIndex_8e157 : ByteArray := prog_18_method_11_code
def yJ3_checkIndex_8e157 : MethodName := ⟨RJ3, "checkIndex", "(IILjava/util/function/BiFunction;)I"⟩
def RL : String := "GlassEyesLaw"
abbrev cL_cell : ByteArray := method_2_code
def yL_cell : MethodName := ⟨RL, "cell", "([II)I"⟩
abbrev cL_law : ByteArray := code
def yL_law : MethodName := ⟨RL, "law", "([I)Z"⟩
abbrev vwCl : List vw_C := [(RX0, TX0, 4), (RX1, TX1, 3), (RX2, TX2, 9), (RX3, TX3, 2), (RX4, TX4, 9), (RX5, TX5, 10), (RX6, TX6, 11), (RX7, TX7, 12), (RX8, TX8, 33)]
end
section
theorem dX0_init_0 : decode cX0_init 0 = .ok (.aload_n 0, 1) := by decide +kernel
theorem dX0_init_1 : decode cX0_init 1 = .ok (.invokespecial 3, 3) := by decide +kernel
theorem dX0_init_4 : decode cX0_init 4 = .ok (.aload_n 0, 1) := by decide +kernel
theorem dX0_init_5 : decode cX0_init 5 = .ok (.iconst 0, 1) := by decide +kernel
theorem dX0_init_6 : decode cX0_init 6 = .ok (.putfield 9, 3) := by decide +kernel
theorem dX0_init_9 : decode cX0_init 9 = .ok (.aload_n 0, 1) := by decide +kernel
theorem dX0_init_10 : decode cX0_init 10 = .ok (.bipush 8, 2) := by decide +kernel
theorem dX0_init_12 : decode cX0_init 12 = .ok (.newarray .int, 2) := by decide +kernel
theorem dX0_init_14 : decode cX0_init 14 = .ok (.putfield 15, 3) := by decide +kernel
theorem dX0_init_17 : decode cX0_init 17 = .ok (.aload_n 0, 1) := by decide +kernel
theorem dX0_init_18 : decode cX0_init 18 = .ok (.bipush 8, 2) := by decide +kernel
theorem dX0_init_20 : decode cX0_init 20 = .ok (.newarray .int, 2) := by decide +kernel
theorem dX0_init_22 : decode cX0_init 22 = .ok (.putfield 19, 3) := by decide +kernel
theorem dX0_init_25 : decode cX0_init 25 = .ok (.aload_n 0, 1) := by decide +kernel
theorem dX0_init_26 : decode cX0_init 26 = .ok (.bipush 8, 2) := by decide +kernel
theorem dX0_init_28 : decode cX0_init 28 = .ok (.newarray .int, 2) := by decide +kernel
theorem dX0_init_30 : decode cX0_init 30 = .ok (.putfield 22, 3) := by decide +kernel
theorem dX0_init_33 : decode cX0_init 33 = .ok (.aload_n 0, 1) := by decide +kernel
theorem dX0_init_34 : decode cX0_init 34 = .ok (.getfield 15, 3) := by decide +kernel
theorem dX0_init_37 : decode cX0_init 37 = .ok (.iconst (-1), 1) := by decide +kernel
theorem dX0_init_38 : decode cX0_init 38 = .ok (.invokestatic 25, 3) := by decide +kernel
theorem dX0_init_41 : decode cX0_init 41 = .ok (.return_, 1) := by decide +kernel
theorem dX0_copyFrom_0 : decode cX0_copyFrom 0 = .ok (.aload_n 0, 1) := by decide +kernel
theorem dX0_copyFrom_1 : decode cX0_copyFrom 1 = .ok (.aload_n 1, 1) := by decide +kernel
theorem dX0_copyFrom_2 : decode cX0_copyFrom 2 = .ok (.getfield 9, 3) := by decide +kernel
theorem dX0_copyFrom_5 : decode cX0_copyFrom 5 = .ok (.putfield 9, 3) := by decide +kernel
theorem dX0_copyFrom_8 : decode cX0_copyFrom 8 = .ok (.aload_n 1, 1) := by decide +kernel
theorem dX0_copyFrom_9 : decode cX0_copyFrom 9 = .ok (.getfield 15, 3) := by decide +kernel
theorem dX0_copyFrom_12 : decode cX0_copyFrom 12 = .ok (.iconst 0, 1) := by decide +kernel
theorem dX0_copyFrom_13 : decode cX0_copyFrom 13 = .ok (.aload_n 0, 1) := by decide +kernel
theorem dX0_copyFrom_14 : decode cX0_copyFrom 14 = .ok (.getfield 15, 3) := by decide +kernel
theorem dX0_copyFrom_17 : decode cX0_copyFrom 17 = .ok (.iconst 0, 1) := by decide +kernel
theorem dX0_copyFrom_18 : decode cX0_copyFrom 18 = .ok (.bipush 8, 2) := by decide +kernel
theorem dX0_copyFrom_20 : decode cX0_copyFrom 20 = .ok (.invokestatic 31, 3) := by decide +kernel
theorem dX0_copyFrom_23 : decode cX0_copyFrom 23 = .ok (.aload_n 1, 1) := by decide +kernel
theorem dX0_copyFrom_24 : decode cX0_copyFrom 24 = .ok (.getfield 19, 3) := by decide +kernel
theorem dX0_copyFrom_27 : decode cX0_copyFrom 27 = .ok (.iconst 0, 1) := by decide +kernel
theorem dX0_copyFrom_28 : decode cX0_copyFrom 28 = .ok (.aload_n 0, 1) := by decide +kernel
theorem dX0_copyFrom_29 : decode cX0_copyFrom 29 = .ok (.getfield 19, 3) := by decide +kernel
theorem dX0_copyFrom_32 : decode cX0_copyFrom 32 = .ok (.iconst 0, 1) := by decide +kernel
theorem dX0_copyFrom_33 : decode cX0_copyFrom 33 = .ok (.bipush 8, 2) := by decide +kernel
theorem dX0_copyFrom_35 : decode cX0_copyFrom 35 = .ok (.invokestatic 31, 3) := by decide +kernel
theorem dX0_copyFrom_38 : decode cX0_copyFrom 38 = .ok (.aload_n 1, 1) := by decide +kernel
theorem dX0_copyFrom_39 : decode cX0_copyFrom 39 = .ok (.getfield 22, 3) := by decide +kernel
theorem dX0_copyFrom_42 : decode cX0_copyFrom 42 = .ok (.iconst 0, 1) := by decide +kernel
theorem dX0_copyFrom_43 : decode cX0_copyFrom 43 = .ok (.aload_n 0, 1) := by decide +kernel
theorem dX0_copyFrom_44 : decode cX0_copyFrom 44 = .ok (.getfield 22, 3) := by decide +kernel
theorem dX0_copyFrom_47 : decode cX0_copyFrom 47 = .ok (.iconst 0, 1) := by decide +kernel
theorem dX0_copyFrom_48 : decode cX0_copyFrom 48 = .ok (.bipush 8, 2) := by decide +kernel
theorem dX0_copyFrom_50 : decode cX0_copyFrom 50 = .ok (.invokestatic 31, 3) := by decide +kernel
theorem dX0_copyFrom_53 : decode cX0_copyFrom 53 = .ok (.return_, 1) := by decide +kernel
theorem dX0_move_0 : decode cX0_move 0 = .ok (.aload_n 0, 1) := by decide +kernel
theorem dX0_move_1 : decode cX0_move 1 = .ok (.getfield 15, 3) := by decide +kernel
theorem dX0_move_4 : decode cX0_move 4 = .ok (.iload_n 1, 1) := by decide +kernel
theorem dX0_move_5 : decode cX0_move 5 = .ok (.iload_n 2, 1) := by decide +kernel
theorem dX0_move_6 : decode cX0_move 6 = .ok (.iastore, 1) := by decide +kernel
theorem dX0_move_7 : decode cX0_move 7 = .ok (.aload_n 0, 1) := by decide +kernel
theorem dX0_move_8 : decode cX0_move 8 = .ok (.getfield 19, 3) := by decide +kernel
theorem dX0_move_11 : decode cX0_move 11 = .ok (.iload_n 1, 1) := by decide +kernel
theorem dX0_move_12 : decode cX0_move 12 = .ok (.aload_n 0, 1) := by decide +kernel
theorem dX0_move_13 : decode cX0_move 13 = .ok (.getfield 9, 3) := by decide +kernel
theorem dX0_move_16 : decode cX0_move 16 = .ok (.iastore, 1) := by decide +kernel
theorem dX0_move_17 : decode cX0_move 17 = .ok (.return_, 1) := by decide +kernel
theorem dX0_exchange_0 : decode cX0_exchange 0 = .ok (.aload_n 0, 1) := by decide +kernel
theorem dX0_exchange_1 : decode cX0_exchange 1 = .ok (.getfield 15, 3) := by decide +kernel
theorem dX0_exchange_4 : decode cX0_exchange 4 = .ok (.iload_n 1, 1) := by decide +kernel
theorem dX0_exchange_5 : decode cX0_exchange 5 = .ok (.iaload, 1) := by decide +kernel
theorem dX0_exchange_6 : decode cX0_exchange 6 = .ok (.istore_n 3, 1) := by decide +kernel
theorem dX0_exchange_7 : decode cX0_exchange 7 = .ok (.aload_n 0, 1) := by decide +kernel
theorem dX0_exchange_8 : decode cX0_exchange 8 = .ok (.iload_n 1, 1) := by decide +kernel
theorem dX0_exchange_9 : decode cX0_exchange 9 = .ok (.aload_n 0, 1) := by decide +kernel
theorem dX0_exchange_10 : decode cX0_exchange 10 = .ok (.getfield 15, 3) := by decide +kernel
theorem dX0_exchange_13 : decode cX0_exchange 13 = .ok (.iload_n 2, 1) := by decide +kernel
theorem dX0_exchange_14 : decode cX0_exchange 14 = .ok (.iaload, 1) := by decide +kernel
theorem dX0_exchange_15 : decode cX0_exchange 15 = .ok (.invokevirtual 37, 3) := by decide +kernel
theorem dX0_exchange_18 : decode cX0_exchange 18 = .ok (.aload_n 0, 1) := by decide +kernel
theorem dX0_exchange_19 : decode cX0_exchange 19 = .ok (.iload_n 2, 1) := by decide +kernel
theorem dX0_exchange_20 : decode cX0_exchange 20 = .ok (.iload_n 3, 1) := by decide +kernel
theorem dX0_exchange_21 : decode cX0_exchange 21 = .ok (.invokevirtual 37, 3) := by decide +kernel
theorem dX0_exchange_24 : decode cX0_exchange 24 = .ok (.return_, 1) := by decide +kernel
theorem dX0_forget_0 : decode cX0_forget 0 = .ok (.aload_n 0, 1) := by decide +kernel
theorem dX0_forget_1 : decode cX0_forget 1 = .ok (.getfield 22, 3) := by decide +kernel
theorem dX0_forget_4 : decode cX0_forget 4 = .ok (.iload_n 1, 1) := by decide +kernel
theorem dX0_forget_5 : decode cX0_forget 5 = .ok (.iaload, 1) := by decide +kernel
theorem dX0_forget_6 : decode cX0_forget 6 = .ok (.invokestatic 41, 3) := by decide +kernel
theorem dX0_forget_9 : decode cX0_forget 9 = .ok (.istore_n 2, 1) := by decide +kernel
theorem dX0_forget_10 : decode cX0_forget 10 = .ok (.aload_n 0, 1) := by decide +kernel
theorem dX0_forget_11 : decode cX0_forget 11 = .ok (.getfield 22, 3) := by decide +kernel
theorem dX0_forget_14 : decode cX0_forget 14 = .ok (.iload_n 1, 1) := by decide +kernel
theorem dX0_forget_15 : decode cX0_forget 15 = .ok (.iconst 0, 1) := by decide +kernel
theorem dX0_forget_16 : decode cX0_forget 16 = .ok (.iastore, 1) := by decide +kernel
theorem dX0_forget_17 : decode cX0_forget 17 = .ok (.iload_n 2, 1) := by decide +kernel
theorem dX0_forget_18 : decode cX0_forget 18 = .ok (.ireturn, 1) := by decide +kernel
theorem dX0_wornSet_0 : decode cX0_wornSet 0 = .ok (.iconst 0, 1) := by decide +kernel
theorem dX0_wornSet_1 : decode cX0_wornSet 1 = .ok (.istore_n 2, 1) := by decide +kernel
theorem dX0_wornSet_2 : decode cX0_wornSet 2 = .ok (.iconst 0, 1) := by decide +kernel
theorem dX0_wornSet_3 : decode cX0_wornSet 3 = .ok (.istore_n 3, 1) := by decide +kernel
theorem dX0_wornSet_4 : decode cX0_wornSet 4 = .ok (.iload_n 3, 1) := by decide +kernel
theorem dX0_wornSet_5 : decode cX0_wornSet 5 = .ok (.bipush 8, 2) := by decide +kernel
theorem dX0_wornSet_7 : decode cX0_wornSet 7 = .ok (.if_icmp .ge 25, 3) := by decide +kernel
theorem dX0_wornSet_10 : decode cX0_wornSet 10 = .ok (.aload_n 0, 1) := by decide +kernel
theorem dX0_wornSet_11 : decode cX0_wornSet 11 = .ok (.getfield 15, 3) := by decide +kernel
theorem dX0_wornSet_14 : decode cX0_wornSet 14 = .ok (.iload_n 3, 1) := by decide +kernel
theorem dX0_wornSet_15 : decode cX0_wornSet 15 = .ok (.iaload, 1) := by decide +kernel
theorem dX0_wornSet_16 : decode cX0_wornSet 16 = .ok (.iload_n 1, 1) := by decide +kernel
theorem dX0_wornSet_17 : decode cX0_wornSet 17 = .ok (.if_icmp .ne 9, 3) := by decide +kernel
theorem dX0_wornSet_20 : decode cX0_wornSet 20 = .ok (.iload_n 2, 1) := by decide +kernel
theorem dX0_wornSet_21 : decode cX0_wornSet 21 = .ok (.iconst 1, 1) := by decide +kernel
theorem dX0_wornSet_22 : decode cX0_wornSet 22 = .ok (.iload_n 3, 1) := by decide +kernel
theorem dX0_wornSet_23 : decode cX0_wornSet 23 = .ok (.ishl, 1) := by decide +kernel
theorem dX0_wornSet_24 : decode cX0_wornSet 24 = .ok (.ior, 1) := by decide +kernel
theorem dX0_wornSet_25 : decode cX0_wornSet 25 = .ok (.istore_n 2, 1) := by decide +kernel
theorem dX0_wornSet_26 : decode cX0_wornSet 26 = .ok (.iinc 3 1, 3) := by decide +kernel
theorem dX0_wornSet_29 : decode cX0_wornSet 29 = .ok (.goto (-25), 3) := by decide +kernel
theorem dX0_wornSet_32 : decode cX0_wornSet 32 = .ok (.iload_n 2, 1) := by decide +kernel
theorem dX0_wornSet_33 : decode cX0_wornSet 33 = .ok (.ireturn, 1) := by decide +kernel
theorem dX0_atPlace_0 : decode cX0_atPlace 0 = .ok (.iload_n 0, 1) := by decide +kernel
theorem dX0_atPlace_1 : decode cX0_atPlace 1 = .ok (.iconst 4, 1) := by decide +kernel
theorem dX0_atPlace_2 : decode cX0_atPlace 2 = .ok (.iload_n 1, 1) := by decide +kernel
theorem dX0_atPlace_3 : decode cX0_atPlace 3 = .ok (.imul, 1) := by decide +kernel
theorem dX0_atPlace_4 : decode cX0_atPlace 4 = .ok (.ishr, 1) := by decide +kernel
theorem dX0_atPlace_5 : decode cX0_atPlace 5 = .ok (.bipush 15, 2) := by decide +kernel
theorem dX0_atPlace_7 : decode cX0_atPlace 7 = .ok (.iand, 1) := by decide +kernel
theorem dX0_atPlace_8 : decode cX0_atPlace 8 = .ok (.iconst 1, 1) := by decide +kernel
theorem dX0_atPlace_9 : decode cX0_atPlace 9 = .ok (.isub, 1) := by decide +kernel
theorem dX0_atPlace_10 : decode cX0_atPlace 10 = .ok (.ireturn, 1) := by decide +kernel
theorem dX0_withAhead_0 : decode cX0_withAhead 0 = .ok (.iload_n 0, 1) := by decide +kernel
theorem dX0_withAhead_1 : decode cX0_withAhead 1 = .ok (.iconst 4, 1) := by decide +kernel
theorem dX0_withAhead_2 : decode cX0_withAhead 2 = .ok (.ishl, 1) := by decide +kernel
theorem dX0_withAhead_3 : decode cX0_withAhead 3 = .ok (.iload_n 1, 1) := by decide +kernel
theorem dX0_withAhead_4 : decode cX0_withAhead 4 = .ok (.iconst 1, 1) := by decide +kernel
theorem dX0_withAhead_5 : decode cX0_withAhead 5 = .ok (.iadd, 1) := by decide +kernel
theorem dX0_withAhead_6 : decode cX0_withAhead 6 = .ok (.ior, 1) := by decide +kernel
theorem dX0_withAhead_7 : decode cX0_withAhead 7 = .ok (.ldc 45, 2) := by decide +kernel
theorem dX0_withAhead_9 : decode cX0_withAhead 9 = .ok (.iand, 1) := by decide +kernel
theorem dX0_withAhead_10 : decode cX0_withAhead 10 = .ok (.ireturn, 1) := by decide +kernel
theorem dX0_withPlace_0 : decode cX0_withPlace 0 = .ok (.iload_n 0, 1) := by decide +kernel
theorem dX0_withPlace_1 : decode cX0_withPlace 1 = .ok (.iload_n 2, 1) := by decide +kernel
theorem dX0_withPlace_2 : decode cX0_withPlace 2 = .ok (.iconst 1, 1) := by decide +kernel
theorem dX0_withPlace_3 : decode cX0_withPlace 3 = .ok (.iadd, 1) := by decide +kernel
theorem dX0_withPlace_4 : decode cX0_withPlace 4 = .ok (.iconst 4, 1) := by decide +kernel
theorem dX0_withPlace_5 : decode cX0_withPlace 5 = .ok (.iload_n 1, 1) := by decide +kernel
theorem dX0_withPlace_6 : decode cX0_withPlace 6 = .ok (.imul, 1) := by decide +kernel
theorem dX0_withPlace_7 : decode cX0_withPlace 7 = .ok (.ishl, 1) := by decide +kernel
theorem dX0_withPlace_8 : decode cX0_withPlace 8 = .ok (.ior, 1) := by decide +kernel
theorem dX0_withPlace_9 : decode cX0_withPlace 9 = .ok (.ireturn, 1) := by decide +kernel
theorem dX0_howMuch_0 : decode cX0_howMuch 0 = .ok (.iconst 0, 1) := by decide +kernel
theorem dX0_howMuch_1 : decode cX0_howMuch 1 = .ok (.istore_n 1, 1) := by decide +kernel
theorem dX0_howMuch_2 : decode cX0_howMuch 2 = .ok (.iconst 0, 1) := by decide +kernel
theorem dX0_howMuch_3 : decode cX0_howMuch 3 = .ok (.istore_n 2, 1) := by decide +kernel
theorem dX0_howMuch_4 : decode cX0_howMuch 4 = .ok (.iload_n 2, 1) := by decide +kernel
theorem dX0_howMuch_5 : decode cX0_howMuch 5 = .ok (.iconst 4, 1) := by decide +kernel
theorem dX0_howMuch_6 : decode cX0_howMuch 6 = .ok (.if_icmp .ge 23, 3) := by decide +kernel
theorem dX0_howMuch_9 : decode cX0_howMuch 9 = .ok (.iload_n 0, 1) := by decide +kernel
theorem dX0_howMuch_10 : decode cX0_howMuch 10 = .ok (.iconst 4, 1) := by decide +kernel
theorem dX0_howMuch_11 : decode cX0_howMuch 11 = .ok (.iload_n 2, 1) := by decide +kernel
theorem dX0_howMuch_12 : decode cX0_howMuch 12 = .ok (.imul, 1) := by decide +kernel
theorem dX0_howMuch_13 : decode cX0_howMuch 13 = .ok (.ishr, 1) := by decide +kernel
theorem dX0_howMuch_14 : decode cX0_howMuch 14 = .ok (.bipush 15, 2) := by decide +kernel
theorem dX0_howMuch_16 : decode cX0_howMuch 16 = .ok (.iand, 1) := by decide +kernel
theorem dX0_howMuch_17 : decode cX0_howMuch 17 = .ok (.ifCond .eq 6, 3) := by decide +kernel
theorem dX0_howMuch_20 : decode cX0_howMuch 20 = .ok (.iinc 1 1, 3) := by decide +kernel
theorem dX0_howMuch_23 : decode cX0_howMuch 23 = .ok (.iinc 2 1, 3) := by decide +kernel
theorem dX0_howMuch_26 : decode cX0_howMuch 26 = .ok (.goto (-22), 3) := by decide +kernel
theorem dX0_howMuch_29 : decode cX0_howMuch 29 = .ok (.iload_n 1, 1) := by decide +kernel
theorem dX0_howMuch_30 : decode cX0_howMuch 30 = .ok (.ireturn, 1) := by decide +kernel
theorem dX0_unlikePlaces_0 : decode cX0_unlikePlaces 0 = .ok (.iload_n 0, 1) := by decide +kernel
theorem dX0_unlikePlaces_1 : decode cX0_unlikePlaces 1 = .ok (.iload_n 1, 1) := by decide +kernel
theorem dX0_unlikePlaces_2 : decode cX0_unlikePlaces 2 = .ok (.ixor, 1) := by decide +kernel
theorem dX0_unlikePlaces_3 : decode cX0_unlikePlaces 3 = .ok (.invokestatic 41, 3) := by decide +kernel
theorem dX0_unlikePlaces_6 : decode cX0_unlikePlaces 6 = .ok (.ireturn, 1) := by decide +kernel
theorem dX1_init_0 : decode cX1_init 0 = .ok (.aload_n 0, 1) := by decide +kernel
theorem dX1_init_1 : decode cX1_init 1 = .ok (.invokespecial 3, 3) := by decide +kernel
theorem dX1_init_4 : decode cX1_init 4 = .ok (.aload_n 0, 1) := by decide +kernel
theorem dX1_init_5 : decode cX1_init 5 = .ok (.bipush 30, 2) := by decide +kernel
theorem dX1_init_7 : decode cX1_init 7 = .ok (.anewarray 9, 3) := by decide +kernel
theorem dX1_init_10 : decode cX1_init 10 = .ok (.putfield 11, 3) := by decide +kernel
theorem dX1_init_13 : decode cX1_init 13 = .ok (.aload_n 0, 1) := by decide +kernel
theorem dX1_init_14 : decode cX1_init 14 = .ok (.iconst 0, 1) := by decide +kernel
theorem dX1_init_15 : decode cX1_init 15 = .ok (.putfield 17, 3) := by decide +kernel
theorem dX1_init_18 : decode cX1_init 18 = .ok (.aload_n 0, 1) := by decide +kernel
theorem dX1_init_19 : decode cX1_init 19 = .ok (.iconst 0, 1) := by decide +kernel
theorem dX1_init_20 : decode cX1_init 20 = .ok (.putfield 21, 3) := by decide +kernel
theorem dX1_init_23 : decode cX1_init 23 = .ok (.iconst 0, 1) := by decide +kernel
theorem dX1_init_24 : decode cX1_init 24 = .ok (.istore_n 1, 1) := by decide +kernel
theorem dX1_init_25 : decode cX1_init 25 = .ok (.iload_n 1, 1) := by decide +kernel
theorem dX1_init_26 : decode cX1_init 26 = .ok (.bipush 30, 2) := by decide +kernel
theorem dX1_init_28 : decode cX1_init 28 = .ok (.if_icmp .ge 22, 3) := by decide +kernel
theorem dX1_init_31 : decode cX1_init 31 = .ok (.aload_n 0, 1) := by decide +kernel
theorem dX1_init_32 : decode cX1_init 32 = .ok (.getfield 11, 3) := by decide +kernel
theorem dX1_init_35 : decode cX1_init 35 = .ok (.iload_n 1, 1) := by decide +kernel
theorem dX1_init_36 : decode cX1_init 36 = .ok (.new 9, 3) := by decide +kernel
theorem dX1_init_39 : decode cX1_init 39 = .ok (.dup, 1) := by decide +kernel
theorem dX1_init_40 : decode cX1_init 40 = .ok (.invokespecial 24, 3) := by decide +kernel
theorem dX1_init_43 : decode cX1_init 43 = .ok (.aastore, 1) := by decide +kernel
theorem dX1_init_44 : decode cX1_init 44 = .ok (.iinc 1 1, 3) := by decide +kernel
theorem dX1_init_47 : decode cX1_init 47 = .ok (.goto (-22), 3) := by decide +kernel
theorem dX1_init_50 : decode cX1_init 50 = .ok (.return_, 1) := by decide +kernel
theorem dX1_keep_0 : decode cX1_keep 0 = .ok (.aload_n 0, 1) := by decide +kernel
theorem dX1_keep_1 : decode cX1_keep 1 = .ok (.getfield 11, 3) := by decide +kernel
theorem dX1_keep_4 : decode cX1_keep 4 = .ok (.aload_n 0, 1) := by decide +kernel
theorem dX1_keep_5 : decode cX1_keep 5 = .ok (.getfield 17, 3) := by decide +kernel
theorem dX1_keep_8 : decode cX1_keep 8 = .ok (.aaload, 1) := by decide +kernel
theorem dX1_keep_9 : decode cX1_keep 9 = .ok (.aload_n 1, 1) := by decide +kernel
theorem dX1_keep_10 : decode cX1_keep 10 = .ok (.invokevirtual 25, 3) := by decide +kernel
theorem dX1_keep_13 : decode cX1_keep 13 = .ok (.aload_n 0, 1) := by decide +kernel
theorem dX1_keep_14 : decode cX1_keep 14 = .ok (.aload_n 0, 1) := by decide +kernel
theorem dX1_keep_15 : decode cX1_keep 15 = .ok (.getfield 17, 3) := by decide +kernel
theorem dX1_keep_18 : decode cX1_keep 18 = .ok (.iconst 1, 1) := by decide +kernel
theorem dX1_keep_19 : decode cX1_keep 19 = .ok (.iadd, 1) := by decide +kernel
theorem dX1_keep_20 : decode cX1_keep 20 = .ok (.bipush 30, 2) := by decide +kernel
theorem dX1_keep_22 : decode cX1_keep 22 = .ok (.irem, 1) := by decide +kernel
theorem dX1_keep_23 : decode cX1_keep 23 = .ok (.putfield 17, 3) := by decide +kernel
theorem dX1_keep_26 : decode cX1_keep 26 = .ok (.aload_n 0, 1) := by decide +kernel
theorem dX1_keep_27 : decode cX1_keep 27 = .ok (.aload_n 0, 1) := by decide +kernel
theorem dX1_keep_28 : decode cX1_keep 28 = .ok (.getfield 21, 3) := by decide +kernel
theorem dX1_keep_31 : decode cX1_keep 31 = .ok (.iconst 1, 1) := by decide +kernel
theorem dX1_keep_32 : decode cX1_keep 32 = .ok (.iadd, 1) := by decide +kernel
theorem dX1_keep_33 : decode cX1_keep 33 = .ok (.bipush 30, 2) := by decide +kernel
theorem dX1_keep_35 : decode cX1_keep 35 = .ok (.invokestatic 29, 3) := by decide +kernel
theorem dX1_keep_38 : decode cX1_keep 38 = .ok (.putfield 21, 3) := by decide +kernel
theorem dX1_keep_41 : decode cX1_keep 41 = .ok (.return_, 1) := by decide +kernel
theorem dX1_takeBack_0 : decode cX1_takeBack 0 = .ok (.aload_n 0, 1) := by decide +kernel
theorem dX1_takeBack_1 : decode cX1_takeBack 1 = .ok (.getfield 21, 3) := by decide +kernel
theorem dX1_takeBack_4 : decode cX1_takeBack 4 = .ok (.ifCond .ne 5, 3) := by decide +kernel
theorem dX1_takeBack_7 : decode cX1_takeBack 7 = .ok (.iconst 0, 1) := by decide +kernel
theorem dX1_takeBack_8 : decode cX1_takeBack 8 = .ok (.ireturn, 1) := by decide +kernel
theorem dX1_takeBack_9 : decode cX1_takeBack 9 = .ok (.aload_n 0, 1) := by decide +kernel
theorem dX1_takeBack_10 : decode cX1_takeBack 10 = .ok (.dup, 1) := by decide +kernel
theorem dX1_takeBack_11 : decode cX1_takeBack 11 = .ok (.getfield 21, 3) := by decide +kernel
theorem dX1_takeBack_14 : decode cX1_takeBack 14 = .ok (.iconst 1, 1) := by decide +kernel
theorem dX1_takeBack_15 : decode cX1_takeBack 15 = .ok (.isub, 1) := by decide +kernel
theorem dX1_takeBack_16 : decode cX1_takeBack 16 = .ok (.putfield 21, 3) := by decide +kernel
theorem dX1_takeBack_19 : decode cX1_takeBack 19 = .ok (.aload_n 0, 1) := by decide +kernel
theorem dX1_takeBack_20 : decode cX1_takeBack 20 = .ok (.aload_n 0, 1) := by decide +kernel
theorem dX1_takeBack_21 : decode cX1_takeBack 21 = .ok (.getfield 17, 3) := by decide +kernel
theorem dX1_takeBack_24 : decode cX1_takeBack 24 = .ok (.bipush 30, 2) := by decide +kernel
theorem dX1_takeBack_26 : decode cX1_takeBack 26 = .ok (.iadd, 1) := by decide +kernel
theorem dX1_takeBack_27 : decode cX1_takeBack 27 = .ok (.iconst 1, 1) := by decide +kernel
theorem dX1_takeBack_28 : decode cX1_takeBack 28 = .ok (.isub, 1) := by decide +kernel
theorem dX1_takeBack_29 : decode cX1_takeBack 29 = .ok (.bipush 30, 2) := by decide +kernel
theorem dX1_takeBack_31 : decode cX1_takeBack 31 = .ok (.irem, 1) := by decide +kernel
theorem dX1_takeBack_32 : decode cX1_takeBack 32 = .ok (.putfield 17, 3) := by decide +kernel
theorem dX1_takeBack_35 : decode cX1_takeBack 35 = .ok (.aload_n 1, 1) := by decide +kernel
theorem dX1_takeBack_36 : decode cX1_takeBack 36 = .ok (.aload_n 0, 1) := by decide +kernel
theorem dX1_takeBack_37 : decode cX1_takeBack 37 = .ok (.getfield 11, 3) := by decide +kernel
theorem dX1_takeBack_40 : decode cX1_takeBack 40 = .ok (.aload_n 0, 1) := by decide +kernel
theorem dX1_takeBack_41 : decode cX1_takeBack 41 = .ok (.getfield 17, 3) := by decide +kernel
theorem dX1_takeBack_44 : decode cX1_takeBack 44 = .ok (.aaload, 1) := by decide +kernel
theorem dX1_takeBack_45 : decode cX1_takeBack 45 = .ok (.invokevirtual 25, 3) := by decide +kernel
theorem dX1_takeBack_48 : decode cX1_takeBack 48 = .ok (.iconst 1, 1) := by decide +kernel
theorem dX1_takeBack_49 : decode cX1_takeBack 49 = .ok (.ireturn, 1) := by decide +kernel
theorem dX1_copyFrom_0 : decode cX1_copyFrom 0 = .ok (.iconst 0, 1) := by decide +kernel
theorem dX1_copyFrom_1 : decode cX1_copyFrom 1 = .ok (.istore_n 2, 1) := by decide +kernel
theorem dX1_copyFrom_2 : decode cX1_copyFrom 2 = .ok (.iload_n 2, 1) := by decide +kernel
theorem dX1_copyFrom_3 : decode cX1_copyFrom 3 = .ok (.bipush 30, 2) := by decide +kernel
theorem dX1_copyFrom_5 : decode cX1_copyFrom 5 = .ok (.if_icmp .ge 24, 3) := by decide +kernel
theorem dX1_copyFrom_8 : decode cX1_copyFrom 8 = .ok (.aload_n 0, 1) := by decide +kernel
theorem dX1_copyFrom_9 : decode cX1_copyFrom 9 = .ok (.getfield 11, 3) := by decide +kernel
theorem dX1_copyFrom_12 : decode cX1_copyFrom 12 = .ok (.iload_n 2, 1) := by decide +kernel
theorem dX1_copyFrom_13 : decode cX1_copyFrom 13 = .ok (.aaload, 1) := by decide +kernel
theorem dX1_copyFrom_14 : decode cX1_copyFrom 14 = .ok (.aload_n 1, 1) := by decide +kernel
theorem dX1_copyFrom_15 : decode cX1_copyFrom 15 = .ok (.getfield 11, 3) := by decide +kernel
theorem dX1_copyFrom_18 : decode cX1_copyFrom 18 = .ok (.iload_n 2, 1) := by decide +kernel
theorem dX1_copyFrom_19 : decode cX1_copyFrom 19 = .ok (.aaload, 1) := by decide +kernel
theorem dX1_copyFrom_20 : decode cX1_copyFrom 20 = .ok (.invokevirtual 25, 3) := by decide +kernel
theorem dX1_copyFrom_23 : decode cX1_copyFrom 23 = .ok (.iinc 2 1, 3) := by decide +kernel
theorem dX1_copyFrom_26 : decode cX1_copyFrom 26 = .ok (.goto (-24), 3) := by decide +kernel
theorem dX1_copyFrom_29 : decode cX1_copyFrom 29 = .ok (.aload_n 0, 1) := by decide +kernel
theorem dX1_copyFrom_30 : decode cX1_copyFrom 30 = .ok (.aload_n 1, 1) := by decide +kernel
theorem dX1_copyFrom_31 : decode cX1_copyFrom 31 = .ok (.getfield 17, 3) := by decide +kernel
theorem dX1_copyFrom_34 : decode cX1_copyFrom 34 = .ok (.putfield 17, 3) := by decide +kernel
theorem dX1_copyFrom_37 : decode cX1_copyFrom 37 = .ok (.aload_n 0, 1) := by decide +kernel
theorem dX1_copyFrom_38 : decode cX1_copyFrom 38 = .ok (.aload_n 1, 1) := by decide +kernel
theorem dX1_copyFrom_39 : decode cX1_copyFrom 39 = .ok (.getfield 21, 3) := by decide +kernel
theorem dX1_copyFrom_42 : decode cX1_copyFrom 42 = .ok (.putfield 21, 3) := by decide +kernel
theorem dX1_copyFrom_45 : decode cX1_copyFrom 45 = .ok (.return_, 1) := by decide +kernel
theorem dX2_init_0 : decode cX2_init 0 = .ok (.aload_n 0, 1) := by decide +kernel
theorem dX2_init_1 : decode cX2_init 1 = .ok (.invokespecial 3, 3) := by decide +kernel
theorem dX2_init_4 : decode cX2_init 4 = .ok (.aload_n 0, 1) := by decide +kernel
theorem dX2_init_5 : decode cX2_init 5 = .ok (.iconst (-1), 1) := by decide +kernel
theorem dX2_init_6 : decode cX2_init 6 = .ok (.putfield 9, 3) := by decide +kernel
theorem dX2_init_9 : decode cX2_init 9 = .ok (.aload_n 0, 1) := by decide +kernel
theorem dX2_init_10 : decode cX2_init 10 = .ok (.iconst (-1), 1) := by decide +kernel
theorem dX2_init_11 : decode cX2_init 11 = .ok (.putfield 15, 3) := by decide +kernel
theorem dX2_init_14 : decode cX2_init 14 = .ok (.aload_n 0, 1) := by decide +kernel
theorem dX2_init_15 : decode cX2_init 15 = .ok (.sipush 301, 3) := by decide +kernel
theorem dX2_init_18 : decode cX2_init 18 = .ok (.newarray .int, 2) := by decide +kernel
theorem dX2_init_20 : decode cX2_init 20 = .ok (.putfield 18, 3) := by decide +kernel
theorem dX2_init_23 : decode cX2_init 23 = .ok (.aload_n 0, 1) := by decide +kernel
theorem dX2_init_24 : decode cX2_init 24 = .ok (.sipush 301, 3) := by decide +kernel
theorem dX2_init_27 : decode cX2_init 27 = .ok (.newarray .int, 2) := by decide +kernel
theorem dX2_init_29 : decode cX2_init 29 = .ok (.putfield 22, 3) := by decide +kernel
theorem dX2_init_32 : decode cX2_init 32 = .ok (.aload_n 0, 1) := by decide +kernel
theorem dX2_init_33 : decode cX2_init 33 = .ok (.sipush 301, 3) := by decide +kernel
theorem dX2_init_36 : decode cX2_init 36 = .ok (.newarray .int, 2) := by decide +kernel
theorem dX2_init_38 : decode cX2_init 38 = .ok (.putfield 25, 3) := by decide +kernel
theorem dX2_init_41 : decode cX2_init 41 = .ok (.aload_n 0, 1) := by decide +kernel
theorem dX2_init_42 : decode cX2_init 42 = .ok (.iconst 0, 1) := by decide +kernel
theorem dX2_init_43 : decode cX2_init 43 = .ok (.putfield 28, 3) := by decide +kernel
theorem dX2_init_46 : decode cX2_init 46 = .ok (.aload_n 0, 1) := by decide +kernel
theorem dX2_init_47 : decode cX2_init 47 = .ok (.iconst 0, 1) := by decide +kernel
theorem dX2_init_48 : decode cX2_init 48 = .ok (.putfield 31, 3) := by decide +kernel
theorem dX2_init_51 : decode cX2_init 51 = .ok (.aload_n 0, 1) := by decide +kernel
theorem dX2_init_52 : decode cX2_init 52 = .ok (.bipush 21, 2) := by decide +kernel
theorem dX2_init_54 : decode cX2_init 54 = .ok (.putfield 34, 3) := by decide +kernel
theorem dX2_init_57 : decode cX2_init 57 = .ok (.aload_n 0, 1) := by decide +kernel
theorem dX2_init_58 : decode cX2_init 58 = .ok (.new 37, 3) := by decide +kernel
theorem dX2_init_61 : decode cX2_init 61 = .ok (.dup, 1) := by decide +kernel
theorem dX2_init_62 : decode cX2_init 62 = .ok (.invokespecial 39, 3) := by decide +kernel
theorem dX2_init_65 : decode cX2_init 65 = .ok (.putfield 40, 3) := by decide +kernel
theorem dX2_init_68 : decode cX2_init 68 = .ok (.return_, 1) := by decide +kernel
theorem dX2_begin_0 : decode cX2_begin 0 = .ok (.aload_n 0, 1) := by decide +kernel
theorem dX2_begin_1 : decode cX2_begin 1 = .ok (.iconst 0, 1) := by decide +kernel
theorem dX2_begin_2 : decode cX2_begin 2 = .ok (.putfield 9, 3) := by decide +kernel
theorem dX2_begin_5 : decode cX2_begin 5 = .ok (.aload_n 0, 1) := by decide +kernel
theorem dX2_begin_6 : decode cX2_begin 6 = .ok (.iconst (-1), 1) := by decide +kernel
theorem dX2_begin_7 : decode cX2_begin 7 = .ok (.putfield 15, 3) := by decide +kernel
theorem dX2_begin_10 : decode cX2_begin 10 = .ok (.aload_n 0, 1) := by decide +kernel
theorem dX2_begin_11 : decode cX2_begin 11 = .ok (.aload_n 3, 1) := by decide +kernel
theorem dX2_begin_12 : decode cX2_begin 12 = .ok (.putfield 40, 3) := by decide +kernel
theorem dX2_begin_15 : decode cX2_begin 15 = .ok (.aload_n 0, 1) := by decide +kernel
theorem dX2_begin_16 : decode cX2_begin 16 = .ok (.getfield 40, 3) := by decide +kernel
theorem dX2_begin_19 : decode cX2_begin 19 = .ok (.invokevirtual 44, 3) := by decide +kernel
theorem dX2_begin_22 : decode cX2_begin 22 = .ok (.aload_n 0, 1) := by decide +kernel
theorem dX2_begin_23 : decode cX2_begin 23 = .ok (.aload_n 1, 1) := by decide +kernel
theorem dX2_begin_24 : decode cX2_begin 24 = .ok (.iload_n 2, 1) := by decide +kernel
theorem dX2_begin_25 : decode cX2_begin 25 = .ok (.aload_n 1, 1) := by decide +kernel
theorem dX2_begin_26 : decode cX2_begin 26 = .ok (.arraylength, 1) := by decide +kernel
theorem dX2_begin_27 : decode cX2_begin 27 = .ok (.invokestatic 47, 3) := by decide +kernel
theorem dX2_begin_30 : decode cX2_begin 30 = .ok (.invokevirtual 53, 3) := by decide +kernel
theorem dX2_begin_33 : decode cX2_begin 33 = .ok (.aload_n 0, 1) := by decide +kernel
theorem dX2_begin_34 : decode cX2_begin 34 = .ok (.iconst 0, 1) := by decide +kernel
theorem dX2_begin_35 : decode cX2_begin 35 = .ok (.putfield 31, 3) := by decide +kernel
theorem dX2_begin_38 : decode cX2_begin 38 = .ok (.return_, 1) := by decide +kernel
theorem dX2_hasMore_0 : decode cX2_hasMore 0 = .ok (.aload_n 0, 1) := by decide +kernel
theorem dX2_hasMore_1 : decode cX2_hasMore 1 = .ok (.getfield 31, 3) := by decide +kernel
theorem dX2_hasMore_4 : decode cX2_hasMore 4 = .ok (.aload_n 0, 1) := by decide +kernel
theorem dX2_hasMore_5 : decode cX2_hasMore 5 = .ok (.getfield 28, 3) := by decide +kernel
theorem dX2_hasMore_8 : decode cX2_hasMore 8 = .ok (.if_icmp .ge 7, 3) := by decide +kernel
theorem dX2_hasMore_11 : decode cX2_hasMore 11 = .ok (.iconst 1, 1) := by decide +kernel
theorem dX2_hasMore_12 : decode cX2_hasMore 12 = .ok (.goto 4, 3) := by decide +kernel
theorem dX2_hasMore_15 : decode cX2_hasMore 15 = .ok (.iconst 0, 1) := by decide +kernel
theorem dX2_hasMore_16 : decode cX2_hasMore 16 = .ok (.ireturn, 1) := by decide +kernel
theorem dX2_scan_0 : decode cX2_scan 0 = .ok (.iconst 0, 1) := by decide +kernel
theorem dX2_scan_1 : decode cX2_scan 1 = .ok (.istore_n 3, 1) := by decide +kernel
theorem dX2_scan_2 : decode cX2_scan 2 = .ok (.iconst 0, 1) := by decide +kernel
theorem dX2_scan_3 : decode cX2_scan 3 = .ok (.istore 4, 2) := by decide +kernel
theorem dX2_scan_5 : decode cX2_scan 5 = .ok (.iload 4, 2) := by decide +kernel
theorem dX2_scan_7 : decode cX2_scan 7 = .ok (.iload_n 2, 1) := by decide +kernel
theorem dX2_scan_8 : decode cX2_scan 8 = .ok (.if_icmp .ge 103, 3) := by decide +kernel
theorem dX2_scan_11 : decode cX2_scan 11 = .ok (.iload_n 3, 1) := by decide +kernel
theorem dX2_scan_12 : decode cX2_scan 12 = .ok (.sipush 300, 3) := by decide +kernel
theorem dX2_scan_15 : decode cX2_scan 15 = .ok (.if_icmp .ge 96, 3) := by decide +kernel
theorem dX2_scan_18 : decode cX2_scan 18 = .ok (.aload_n 1, 1) := by decide +kernel
theorem dX2_scan_19 : decode cX2_scan 19 = .ok (.iload 4, 2) := by decide +kernel
theorem dX2_scan_21 : decode cX2_scan 21 = .ok (.baload, 1) := by decide +kernel
theorem dX2_scan_22 : decode cX2_scan 22 = .ok (.bipush 32, 2) := by decide +kernel
theorem dX2_scan_24 : decode cX2_scan 24 = .ok (.if_icmp .eq 12, 3) := by decide +kernel
theorem dX2_scan_27 : decode cX2_scan 27 = .ok (.aload_n 1, 1) := by decide +kernel
theorem dX2_scan_28 : decode cX2_scan 28 = .ok (.iload 4, 2) := by decide +kernel
theorem dX2_scan_30 : decode cX2_scan 30 = .ok (.baload, 1) := by decide +kernel
theorem dX2_scan_31 : decode cX2_scan 31 = .ok (.bipush 10, 2) := by decide +kernel
theorem dX2_scan_33 : decode cX2_scan 33 = .ok (.if_icmp .ne 9, 3) := by decide +kernel
theorem dX2_scan_36 : decode cX2_scan 36 = .ok (.iinc 4 1, 3) := by decide +kernel
theorem dX2_scan_39 : decode cX2_scan 39 = .ok (.goto (-34), 3) := by decide +kernel
theorem dX2_scan_42 : decode cX2_scan 42 = .ok (.aload_n 1, 1) := by decide +kernel
theorem dX2_scan_43 : decode cX2_scan 43 = .ok (.iload 4, 2) := by decide +kernel
theorem dX2_scan_45 : decode cX2_scan 45 = .ok (.iload_n 2, 1) := by decide +kernel
theorem dX2_scan_46 : decode cX2_scan 46 = .ok (.invokestatic 57, 3) := by decide +kernel
theorem dX2_scan_49 : decode cX2_scan 49 = .ok (.istore 5, 2) := by decide +kernel
theorem dX2_scan_51 : decode cX2_scan 51 = .ok (.aload_n 0, 1) := by decide +kernel
theorem dX2_scan_52 : decode cX2_scan 52 = .ok (.getfield 22, 3) := by decide +kernel
theorem dX2_scan_55 : decode cX2_scan 55 = .ok (.iload_n 3, 1) := by decide +kernel
theorem dX2_scan_56 : decode cX2_scan 56 = .ok (.iload 4, 2) := by decide +kernel
theorem dX2_scan_58 : decode cX2_scan 58 = .ok (.iastore, 1) := by decide +kernel
theorem dX2_scan_59 : decode cX2_scan 59 = .ok (.aload_n 0, 1) := by decide +kernel
theorem dX2_scan_60 : decode cX2_scan 60 = .ok (.getfield 25, 3) := by decide +kernel
theorem dX2_scan_63 : decode cX2_scan 63 = .ok (.iload_n 3, 1) := by decide +kernel
theorem dX2_scan_64 : decode cX2_scan 64 = .ok (.aload_n 1, 1) := by decide +kernel
theorem dX2_scan_65 : decode cX2_scan 65 = .ok (.iload 4, 2) := by decide +kernel
theorem dX2_scan_67 : decode cX2_scan 67 = .ok (.baload, 1) := by decide +kernel
theorem dX2_scan_68 : decode cX2_scan 68 = .ok (.invokestatic 61, 3) := by decide +kernel
theorem dX2_scan_71 : decode cX2_scan 71 = .ok (.ifCond .eq 14, 3) := by decide +kernel
theorem dX2_scan_74 : decode cX2_scan 74 = .ok (.aload_n 1, 1) := by decide +kernel
theorem dX2_scan_75 : decode cX2_scan 75 = .ok (.iload 4, 2) := by decide +kernel
theorem dX2_scan_77 : decode cX2_scan 77 = .ok (.iload 5, 2) := by decide +kernel
theorem dX2_scan_79 : decode cX2_scan 79 = .ok (.invokestatic 65, 3) := by decide +kernel
theorem dX2_scan_82 : decode cX2_scan 82 = .ok (.goto 4, 3) := by decide +kernel
theorem dX2_scan_85 : decode cX2_scan 85 = .ok (.iconst 0, 1) := by decide +kernel
theorem dX2_scan_86 : decode cX2_scan 86 = .ok (.iastore, 1) := by decide +kernel
theorem dX2_scan_87 : decode cX2_scan 87 = .ok (.aload_n 0, 1) := by decide +kernel
theorem dX2_scan_88 : decode cX2_scan 88 = .ok (.getfield 18, 3) := by decide +kernel
theorem dX2_scan_91 : decode cX2_scan 91 = .ok (.iload_n 3, 1) := by decide +kernel
theorem dX2_scan_92 : decode cX2_scan 92 = .ok (.aload_n 1, 1) := by decide +kernel
theorem dX2_scan_93 : decode cX2_scan 93 = .ok (.iload 4, 2) := by decide +kernel
theorem dX2_scan_95 : decode cX2_scan 95 = .ok (.iload 5, 2) := by decide +kernel
theorem dX2_scan_97 : decode cX2_scan 97 = .ok (.invokestatic 68, 3) := by decide +kernel
theorem dX2_scan_100 : decode cX2_scan 100 = .ok (.iastore, 1) := by decide +kernel
theorem dX2_scan_101 : decode cX2_scan 101 = .ok (.iload 5, 2) := by decide +kernel
theorem dX2_scan_103 : decode cX2_scan 103 = .ok (.istore 4, 2) := by decide +kernel
theorem dX2_scan_105 : decode cX2_scan 105 = .ok (.iinc 3 1, 3) := by decide +kernel
theorem dX2_scan_108 : decode cX2_scan 108 = .ok (.goto (-103), 3) := by decide +kernel
theorem dX2_scan_111 : decode cX2_scan 111 = .ok (.aload_n 0, 1) := by decide +kernel
theorem dX2_scan_112 : decode cX2_scan 112 = .ok (.getfield 18, 3) := by decide +kernel
theorem dX2_scan_115 : decode cX2_scan 115 = .ok (.iload_n 3, 1) := by decide +kernel
theorem dX2_scan_116 : decode cX2_scan 116 = .ok (.bipush 36, 2) := by decide +kernel
theorem dX2_scan_118 : decode cX2_scan 118 = .ok (.iastore, 1) := by decide +kernel
theorem dX2_scan_119 : decode cX2_scan 119 = .ok (.aload_n 0, 1) := by decide +kernel
theorem dX2_scan_120 : decode cX2_scan 120 = .ok (.getfield 22, 3) := by decide +kernel
theorem dX2_scan_123 : decode cX2_scan 123 = .ok (.iload_n 3, 1) := by decide +kernel
theorem dX2_scan_124 : decode cX2_scan 124 = .ok (.iload_n 2, 1) := by decide +kernel
theorem dX2_scan_125 : decode cX2_scan 125 = .ok (.iastore, 1) := by decide +kernel
theorem dX2_scan_126 : decode cX2_scan 126 = .ok (.aload_n 0, 1) := by decide +kernel
theorem dX2_scan_127 : decode cX2_scan 127 = .ok (.iload_n 3, 1) := by decide +kernel
theorem dX2_scan_128 : decode cX2_scan 128 = .ok (.putfield 28, 3) := by decide +kernel
theorem dX2_scan_131 : decode cX2_scan 131 = .ok (.return_, 1) := by decide +kernel
theorem dX2_runEnd_0 : decode cX2_runEnd 0 = .ok (.iload_n 1, 1) := by decide +kernel
theorem dX2_runEnd_1 : decode cX2_runEnd 1 = .ok (.iconst 1, 1) := by decide +kernel
theorem dX2_runEnd_2 : decode cX2_runEnd 2 = .ok (.iadd, 1) := by decide +kernel
theorem dX2_runEnd_3 : decode cX2_runEnd 3 = .ok (.istore_n 3, 1) := by decide +kernel
theorem dX2_runEnd_4 : decode cX2_runEnd 4 = .ok (.aload_n 0, 1) := by decide +kernel
theorem dX2_runEnd_5 : decode cX2_runEnd 5 = .ok (.iload_n 1, 1) := by decide +kernel
theorem dX2_runEnd_6 : decode cX2_runEnd 6 = .ok (.baload, 1) := by decide +kernel
theorem dX2_runEnd_7 : decode cX2_runEnd 7 = .ok (.invokestatic 71, 3) := by decide +kernel
theorem dX2_runEnd_10 : decode cX2_runEnd 10 = .ok (.ifCond .eq 23, 3) := by decide +kernel
theorem dX2_runEnd_13 : decode cX2_runEnd 13 = .ok (.iload_n 3, 1) := by decide +kernel
theorem dX2_runEnd_14 : decode cX2_runEnd 14 = .ok (.iload_n 2, 1) := by decide +kernel
theorem dX2_runEnd_15 : decode cX2_runEnd 15 = .ok (.if_icmp .ge 79, 3) := by decide +kernel
theorem dX2_runEnd_18 : decode cX2_runEnd 18 = .ok (.aload_n 0, 1) := by decide +kernel
theorem dX2_runEnd_19 : decode cX2_runEnd 19 = .ok (.iload_n 3, 1) := by decide +kernel
theorem dX2_runEnd_20 : decode cX2_runEnd 20 = .ok (.baload, 1) := by decide +kernel
theorem dX2_runEnd_21 : decode cX2_runEnd 21 = .ok (.invokestatic 71, 3) := by decide +kernel
theorem dX2_runEnd_24 : decode cX2_runEnd 24 = .ok (.ifCond .eq 70, 3) := by decide +kernel
theorem dX2_runEnd_27 : decode cX2_runEnd 27 = .ok (.iinc 3 1, 3) := by decide +kernel
theorem dX2_runEnd_30 : decode cX2_runEnd 30 = .ok (.goto (-17), 3) := by decide +kernel
theorem dX2_runEnd_33 : decode cX2_runEnd 33 = .ok (.aload_n 0, 1) := by decide +kernel
theorem dX2_runEnd_34 : decode cX2_runEnd 34 = .ok (.iload_n 1, 1) := by decide +kernel
theorem dX2_runEnd_35 : decode cX2_runEnd 35 = .ok (.baload, 1) := by decide +kernel
theorem dX2_runEnd_36 : decode cX2_runEnd 36 = .ok (.invokestatic 61, 3) := by decide +kernel
theorem dX2_runEnd_39 : decode cX2_runEnd 39 = .ok (.ifCond .eq 23, 3) := by decide +kernel
theorem dX2_runEnd_42 : decode cX2_runEnd 42 = .ok (.iload_n 3, 1) := by decide +kernel
theorem dX2_runEnd_43 : decode cX2_runEnd 43 = .ok (.iload_n 2, 1) := by decide +kernel
theorem dX2_runEnd_44 : decode cX2_runEnd 44 = .ok (.if_icmp .ge 50, 3) := by decide +kernel
theorem dX2_runEnd_47 : decode cX2_runEnd 47 = .ok (.aload_n 0, 1) := by decide +kernel
theorem dX2_runEnd_48 : decode cX2_runEnd 48 = .ok (.iload_n 3, 1) := by decide +kernel
theorem dX2_runEnd_49 : decode cX2_runEnd 49 = .ok (.baload, 1) := by decide +kernel
theorem dX2_runEnd_50 : decode cX2_runEnd 50 = .ok (.invokestatic 61, 3) := by decide +kernel
theorem dX2_runEnd_53 : decode cX2_runEnd 53 = .ok (.ifCond .eq 41, 3) := by decide +kernel
theorem dX2_runEnd_56 : decode cX2_runEnd 56 = .ok (.iinc 3 1, 3) := by decide +kernel
theorem dX2_runEnd_59 : decode cX2_runEnd 59 = .ok (.goto (-17), 3) := by decide +kernel
theorem dX2_runEnd_62 : decode cX2_runEnd 62 = .ok (.aload_n 0, 1) := by decide +kernel
theorem dX2_runEnd_63 : decode cX2_runEnd 63 = .ok (.iload_n 1, 1) := by decide +kernel
theorem dX2_runEnd_64 : decode cX2_runEnd 64 = .ok (.baload, 1) := by decide +kernel
theorem dX2_runEnd_65 : decode cX2_runEnd 65 = .ok (.bipush 60, 2) := by decide +kernel
theorem dX2_runEnd_67 : decode cX2_runEnd 67 = .ok (.if_icmp .eq 11, 3) := by decide +kernel
theorem dX2_runEnd_70 : decode cX2_runEnd 70 = .ok (.aload_n 0, 1) := by decide +kernel
theorem dX2_runEnd_71 : decode cX2_runEnd 71 = .ok (.iload_n 1, 1) := by decide +kernel
theorem dX2_runEnd_72 : decode cX2_runEnd 72 = .ok (.baload, 1) := by decide +kernel
theorem dX2_runEnd_73 : decode cX2_runEnd 73 = .ok (.bipush 62, 2) := by decide +kernel
theorem dX2_runEnd_75 : decode cX2_runEnd 75 = .ok (.if_icmp .ne 19, 3) := by decide +kernel
theorem dX2_runEnd_78 : decode cX2_runEnd 78 = .ok (.iload_n 3, 1) := by decide +kernel
theorem dX2_runEnd_79 : decode cX2_runEnd 79 = .ok (.iload_n 2, 1) := by decide +kernel
theorem dX2_runEnd_80 : decode cX2_runEnd 80 = .ok (.if_icmp .ge 14, 3) := by decide +kernel
theorem dX2_runEnd_83 : decode cX2_runEnd 83 = .ok (.aload_n 0, 1) := by decide +kernel
theorem dX2_runEnd_84 : decode cX2_runEnd 84 = .ok (.iload_n 3, 1) := by decide +kernel
theorem dX2_runEnd_85 : decode cX2_runEnd 85 = .ok (.baload, 1) := by decide +kernel
theorem dX2_runEnd_86 : decode cX2_runEnd 86 = .ok (.bipush 61, 2) := by decide +kernel
theorem dX2_runEnd_88 : decode cX2_runEnd 88 = .ok (.if_icmp .ne 6, 3) := by decide +kernel
theorem dX2_runEnd_91 : decode cX2_runEnd 91 = .ok (.iinc 3 1, 3) := by decide +kernel
theorem dX2_runEnd_94 : decode cX2_runEnd 94 = .ok (.iload_n 3, 1) := by decide +kernel
theorem dX2_runEnd_95 : decode cX2_runEnd 95 = .ok (.ireturn, 1) := by decide +kernel
theorem dX2_isLetter_0 : decode cX2_isLetter 0 = .ok (.iload_n 0, 1) := by decide +kernel
theorem dX2_isLetter_1 : decode cX2_isLetter 1 = .ok (.bipush 97, 2) := by decide +kernel
theorem dX2_isLetter_3 : decode cX2_isLetter 3 = .ok (.if_icmp .lt 9, 3) := by decide +kernel
theorem dX2_isLetter_6 : decode cX2_isLetter 6 = .ok (.iload_n 0, 1) := by decide +kernel
theorem dX2_isLetter_7 : decode cX2_isLetter 7 = .ok (.bipush 122, 2) := by decide +kernel
theorem dX2_isLetter_9 : decode cX2_isLetter 9 = .ok (.if_icmp .le 15, 3) := by decide +kernel
theorem dX2_isLetter_12 : decode cX2_isLetter 12 = .ok (.iload_n 0, 1) := by decide +kernel
theorem dX2_isLetter_13 : decode cX2_isLetter 13 = .ok (.bipush 65, 2) := by decide +kernel
theorem dX2_isLetter_15 : decode cX2_isLetter 15 = .ok (.if_icmp .lt 13, 3) := by decide +kernel
theorem dX2_isLetter_18 : decode cX2_isLetter 18 = .ok (.iload_n 0, 1) := by decide +kernel
theorem dX2_isLetter_19 : decode cX2_isLetter 19 = .ok (.bipush 90, 2) := by decide +kernel
theorem dX2_isLetter_21 : decode cX2_isLetter 21 = .ok (.if_icmp .gt 7, 3) := by decide +kernel
theorem dX2_isLetter_24 : decode cX2_isLetter 24 = .ok (.iconst 1, 1) := by decide +kernel
theorem dX2_isLetter_25 : decode cX2_isLetter 25 = .ok (.goto 4, 3) := by decide +kernel
theorem dX2_isLetter_28 : decode cX2_isLetter 28 = .ok (.iconst 0, 1) := by decide +kernel
theorem dX2_isLetter_29 : decode cX2_isLetter 29 = .ok (.ireturn, 1) := by decide +kernel
theorem dX2_isDigit_0 : decode cX2_isDigit 0 = .ok (.iload_n 0, 1) := by decide +kernel
theorem dX2_isDigit_1 : decode cX2_isDigit 1 = .ok (.bipush 48, 2) := by decide +kernel
theorem dX2_isDigit_3 : decode cX2_isDigit 3 = .ok (.if_icmp .lt 13, 3) := by decide +kernel
theorem dX2_isDigit_6 : decode cX2_isDigit 6 = .ok (.iload_n 0, 1) := by decide +kernel
theorem dX2_isDigit_7 : decode cX2_isDigit 7 = .ok (.bipush 57, 2) := by decide +kernel
theorem dX2_isDigit_9 : decode cX2_isDigit 9 = .ok (.if_icmp .gt 7, 3) := by decide +kernel
theorem dX2_isDigit_12 : decode cX2_isDigit 12 = .ok (.iconst 1, 1) := by decide +kernel
theorem dX2_isDigit_13 : decode cX2_isDigit 13 = .ok (.goto 4, 3) := by decide +kernel
theorem dX2_isDigit_16 : decode cX2_isDigit 16 = .ok (.iconst 0, 1) := by decide +kernel
theorem dX2_isDigit_17 : decode cX2_isDigit 17 = .ok (.ireturn, 1) := by decide +kernel
theorem dX2_numberOf_0 : decode cX2_numberOf 0 = .ok (.iconst 0, 1) := by decide +kernel
theorem dX2_numberOf_1 : decode cX2_numberOf 1 = .ok (.istore_n 3, 1) := by decide +kernel
theorem dX2_numberOf_2 : decode cX2_numberOf 2 = .ok (.iload_n 1, 1) := by decide +kernel
theorem dX2_numberOf_3 : decode cX2_numberOf 3 = .ok (.istore 4, 2) := by decide +kernel
theorem dX2_numberOf_5 : decode cX2_numberOf 5 = .ok (.iload 4, 2) := by decide +kernel
theorem dX2_numberOf_7 : decode cX2_numberOf 7 = .ok (.iload_n 2, 1) := by decide +kernel
theorem dX2_numberOf_8 : decode cX2_numberOf 8 = .ok (.if_icmp .ge 28, 3) := by decide +kernel
theorem dX2_numberOf_11 : decode cX2_numberOf 11 = .ok (.iload_n 3, 1) := by decide +kernel
theorem dX2_numberOf_12 : decode cX2_numberOf 12 = .ok (.bipush 10, 2) := by decide +kernel
theorem dX2_numberOf_14 : decode cX2_numberOf 14 = .ok (.imul, 1) := by decide +kernel
theorem dX2_numberOf_15 : decode cX2_numberOf 15 = .ok (.aload_n 0, 1) := by decide +kernel
theorem dX2_numberOf_16 : decode cX2_numberOf 16 = .ok (.iload 4, 2) := by decide +kernel
theorem dX2_numberOf_18 : decode cX2_numberOf 18 = .ok (.baload, 1) := by decide +kernel
theorem dX2_numberOf_19 : decode cX2_numberOf 19 = .ok (.iadd, 1) := by decide +kernel
theorem dX2_numberOf_20 : decode cX2_numberOf 20 = .ok (.bipush 48, 2) := by decide +kernel
theorem dX2_numberOf_22 : decode cX2_numberOf 22 = .ok (.isub, 1) := by decide +kernel
theorem dX2_numberOf_23 : decode cX2_numberOf 23 = .ok (.sipush 10000, 3) := by decide +kernel
theorem dX2_numberOf_26 : decode cX2_numberOf 26 = .ok (.invokestatic 47, 3) := by decide +kernel
theorem dX2_numberOf_29 : decode cX2_numberOf 29 = .ok (.istore_n 3, 1) := by decide +kernel
theorem dX2_numberOf_30 : decode cX2_numberOf 30 = .ok (.iinc 4 1, 3) := by decide +kernel
theorem dX2_numberOf_33 : decode cX2_numberOf 33 = .ok (.goto (-28), 3) := by decide +kernel
theorem dX2_numberOf_36 : decode cX2_numberOf 36 = .ok (.iload_n 3, 1) := by decide +kernel
theorem dX2_numberOf_37 : decode cX2_numberOf 37 = .ok (.ireturn, 1) := by decide +kernel
theorem dX2_tokenOf_0 : decode cX2_tokenOf 0 = .ok (.aload_n 0, 1) := by decide +kernel
theorem dX2_tokenOf_1 : decode cX2_tokenOf 1 = .ok (.iload_n 1, 1) := by decide +kernel
theorem dX2_tokenOf_2 : decode cX2_tokenOf 2 = .ok (.baload, 1) := by decide +kernel
theorem dX2_tokenOf_3 : decode cX2_tokenOf 3 = .ok (.invokestatic 71, 3) := by decide +kernel
theorem dX2_tokenOf_6 : decode cX2_tokenOf 6 = .ok (.ifCond .eq 10, 3) := by decide +kernel
theorem dX2_tokenOf_9 : decode cX2_tokenOf 9 = .ok (.aload_n 0, 1) := by decide +kernel
theorem dX2_tokenOf_10 : decode cX2_tokenOf 10 = .ok (.iload_n 1, 1) := by decide +kernel
theorem dX2_tokenOf_11 : decode cX2_tokenOf 11 = .ok (.iload_n 2, 1) := by decide +kernel
theorem dX2_tokenOf_12 : decode cX2_tokenOf 12 = .ok (.invokestatic 74, 3) := by decide +kernel
theorem dX2_tokenOf_15 : decode cX2_tokenOf 15 = .ok (.ireturn, 1) := by decide +kernel
theorem dX2_tokenOf_16 : decode cX2_tokenOf 16 = .ok (.aload_n 0, 1) := by decide +kernel
theorem dX2_tokenOf_17 : decode cX2_tokenOf 17 = .ok (.iload_n 1, 1) := by decide +kernel
theorem dX2_tokenOf_18 : decode cX2_tokenOf 18 = .ok (.baload, 1) := by decide +kernel
theorem dX2_tokenOf_19 : decode cX2_tokenOf 19 = .ok (.invokestatic 61, 3) := by decide +kernel
theorem dX2_tokenOf_22 : decode cX2_tokenOf 22 = .ok (.ifCond .eq 6, 3) := by decide +kernel
theorem dX2_tokenOf_25 : decode cX2_tokenOf 25 = .ok (.bipush 35, 2) := by decide +kernel
theorem dX2_tokenOf_27 : decode cX2_tokenOf 27 = .ok (.ireturn, 1) := by decide +kernel
theorem dX2_tokenOf_28 : decode cX2_tokenOf 28 = .ok (.iload_n 2, 1) := by decide +kernel
theorem dX2_tokenOf_29 : decode cX2_tokenOf 29 = .ok (.iload_n 1, 1) := by decide +kernel
theorem dX2_tokenOf_30 : decode cX2_tokenOf 30 = .ok (.isub, 1) := by decide +kernel
theorem dX2_tokenOf_31 : decode cX2_tokenOf 31 = .ok (.iconst 2, 1) := by decide +kernel
theorem dX2_tokenOf_32 : decode cX2_tokenOf 32 = .ok (.if_icmp .ne 7, 3) := by decide +kernel
theorem dX2_tokenOf_35 : decode cX2_tokenOf 35 = .ok (.iconst 1, 1) := by decide +kernel
theorem dX2_tokenOf_36 : decode cX2_tokenOf 36 = .ok (.goto 4, 3) := by decide +kernel
theorem dX2_tokenOf_39 : decode cX2_tokenOf 39 = .ok (.iconst 0, 1) := by decide +kernel
theorem dX2_tokenOf_40 : decode cX2_tokenOf 40 = .ok (.istore_n 3, 1) := by decide +kernel
theorem dX2_tokenOf_41 : decode cX2_tokenOf 41 = .ok (.aload_n 0, 1) := by decide +kernel
theorem dX2_tokenOf_42 : decode cX2_tokenOf 42 = .ok (.iload_n 1, 1) := by decide +kernel
theorem dX2_tokenOf_43 : decode cX2_tokenOf 43 = .ok (.baload, 1) := by decide +kernel
theorem dX2_tokenOf_44 : decode cX2_tokenOf 44 = .ok (.tableswitch 179 35 62 #[155, 179, 179, 179, 179, 170, 173, 164, 158, 179, 161, 179, 167, 179, 179, 179, 179, 179, 179, 179, 179, 179, 179, 179, 176, 128, 152, 140], 128) := by decide +kernel
theorem dX2_tokenOf_172 : decode cX2_tokenOf 172 = .ok (.iload_n 3, 1) := by decide +kernel
theorem dX2_tokenOf_173 : decode cX2_tokenOf 173 = .ok (.ifCond .eq 8, 3) := by decide +kernel
theorem dX2_tokenOf_176 : decode cX2_tokenOf 176 = .ok (.bipush 23, 2) := by decide +kernel
theorem dX2_tokenOf_178 : decode cX2_tokenOf 178 = .ok (.goto 5, 3) := by decide +kernel
theorem dX2_tokenOf_181 : decode cX2_tokenOf 181 = .ok (.bipush 22, 2) := by decide +kernel
theorem dX2_tokenOf_183 : decode cX2_tokenOf 183 = .ok (.ireturn, 1) := by decide +kernel
theorem dX2_tokenOf_184 : decode cX2_tokenOf 184 = .ok (.iload_n 3, 1) := by decide +kernel
theorem dX2_tokenOf_185 : decode cX2_tokenOf 185 = .ok (.ifCond .eq 8, 3) := by decide +kernel
theorem dX2_tokenOf_188 : decode cX2_tokenOf 188 = .ok (.bipush 25, 2) := by decide +kernel
theorem dX2_tokenOf_190 : decode cX2_tokenOf 190 = .ok (.goto 5, 3) := by decide +kernel
theorem dX2_tokenOf_193 : decode cX2_tokenOf 193 = .ok (.bipush 24, 2) := by decide +kernel
theorem dX2_tokenOf_195 : decode cX2_tokenOf 195 = .ok (.ireturn, 1) := by decide +kernel
theorem dX2_tokenOf_196 : decode cX2_tokenOf 196 = .ok (.bipush 26, 2) := by decide +kernel
theorem dX2_tokenOf_198 : decode cX2_tokenOf 198 = .ok (.ireturn, 1) := by decide +kernel
theorem dX2_tokenOf_199 : decode cX2_tokenOf 199 = .ok (.bipush 27, 2) := by decide +kernel
theorem dX2_tokenOf_201 : decode cX2_tokenOf 201 = .ok (.ireturn, 1) := by decide +kernel
theorem dX2_tokenOf_202 : decode cX2_tokenOf 202 = .ok (.bipush 28, 2) := by decide +kernel
theorem dX2_tokenOf_204 : decode cX2_tokenOf 204 = .ok (.ireturn, 1) := by decide +kernel
theorem dX2_tokenOf_205 : decode cX2_tokenOf 205 = .ok (.bipush 29, 2) := by decide +kernel
theorem dX2_tokenOf_207 : decode cX2_tokenOf 207 = .ok (.ireturn, 1) := by decide +kernel
theorem dX2_tokenOf_208 : decode cX2_tokenOf 208 = .ok (.bipush 30, 2) := by decide +kernel
theorem dX2_tokenOf_210 : decode cX2_tokenOf 210 = .ok (.ireturn, 1) := by decide +kernel
theorem dX2_tokenOf_211 : decode cX2_tokenOf 211 = .ok (.bipush 31, 2) := by decide +kernel
theorem dX2_tokenOf_213 : decode cX2_tokenOf 213 = .ok (.ireturn, 1) := by decide +kernel
theorem dX2_tokenOf_214 : decode cX2_tokenOf 214 = .ok (.bipush 32, 2) := by decide +kernel
theorem dX2_tokenOf_216 : decode cX2_tokenOf 216 = .ok (.ireturn, 1) := by decide +kernel
theorem dX2_tokenOf_217 : decode cX2_tokenOf 217 = .ok (.bipush 33, 2) := by decide +kernel
theorem dX2_tokenOf_219 : decode cX2_tokenOf 219 = .ok (.ireturn, 1) := by decide +kernel
theorem dX2_tokenOf_220 : decode cX2_tokenOf 220 = .ok (.bipush 34, 2) := by decide +kernel
theorem dX2_tokenOf_222 : decode cX2_tokenOf 222 = .ok (.ireturn, 1) := by decide +kernel
theorem dX2_tokenOf_223 : decode cX2_tokenOf 223 = .ok (.bipush 37, 2) := by decide +kernel
theorem dX2_tokenOf_225 : decode cX2_tokenOf 225 = .ok (.ireturn, 1) := by decide +kernel
theorem dX2_wordToken_0 : decode cX2_wordToken 0 = .ok (.iconst 0, 1) := by decide +kernel
theorem dX2_wordToken_1 : decode cX2_wordToken 1 = .ok (.istore_n 3, 1) := by decide +kernel
theorem dX2_wordToken_2 : decode cX2_wordToken 2 = .ok (.iconst 0, 1) := by decide +kernel
theorem dX2_wordToken_3 : decode cX2_wordToken 3 = .ok (.istore 4, 2) := by decide +kernel
theorem dX2_wordToken_5 : decode cX2_wordToken 5 = .ok (.iconst 0, 1) := by decide +kernel
theorem dX2_wordToken_6 : decode cX2_wordToken 6 = .ok (.istore 5, 2) := by decide +kernel
theorem dX2_wordToken_8 : decode cX2_wordToken 8 = .ok (.iload 5, 2) := by decide +kernel
theorem dX2_wordToken_10 : decode cX2_wordToken 10 = .ok (.ldc 77, 2) := by decide +kernel
theorem dX2_wordToken_12 : decode cX2_wordToken 12 = .ok (.invokevirtual 79, 3) := by decide +kernel
theorem dX2_wordToken_15 : decode cX2_wordToken 15 = .ok (.if_icmp .ge 54, 3) := by decide +kernel
theorem dX2_wordToken_18 : decode cX2_wordToken 18 = .ok (.ldc 77, 2) := by decide +kernel
theorem dX2_wordToken_20 : decode cX2_wordToken 20 = .ok (.iload 5, 2) := by decide +kernel
theorem dX2_wordToken_22 : decode cX2_wordToken 22 = .ok (.invokevirtual 85, 3) := by decide +kernel
theorem dX2_wordToken_25 : decode cX2_wordToken 25 = .ok (.bipush 32, 2) := by decide +kernel
theorem dX2_wordToken_27 : decode cX2_wordToken 27 = .ok (.if_icmp .ne 36, 3) := by decide +kernel
theorem dX2_wordToken_30 : decode cX2_wordToken 30 = .ok (.iload 5, 2) := by decide +kernel
theorem dX2_wordToken_32 : decode cX2_wordToken 32 = .ok (.iload 4, 2) := by decide +kernel
theorem dX2_wordToken_34 : decode cX2_wordToken 34 = .ok (.isub, 1) := by decide +kernel
theorem dX2_wordToken_35 : decode cX2_wordToken 35 = .ok (.iload_n 2, 1) := by decide +kernel
theorem dX2_wordToken_36 : decode cX2_wordToken 36 = .ok (.iload_n 1, 1) := by decide +kernel
theorem dX2_wordToken_37 : decode cX2_wordToken 37 = .ok (.isub, 1) := by decide +kernel
theorem dX2_wordToken_38 : decode cX2_wordToken 38 = .ok (.if_icmp .ne 16, 3) := by decide +kernel
theorem dX2_wordToken_41 : decode cX2_wordToken 41 = .ok (.aload_n 0, 1) := by decide +kernel
theorem dX2_wordToken_42 : decode cX2_wordToken 42 = .ok (.iload_n 1, 1) := by decide +kernel
theorem dX2_wordToken_43 : decode cX2_wordToken 43 = .ok (.iload_n 2, 1) := by decide +kernel
theorem dX2_wordToken_44 : decode cX2_wordToken 44 = .ok (.iload 4, 2) := by decide +kernel
theorem dX2_wordToken_46 : decode cX2_wordToken 46 = .ok (.invokestatic 89, 3) := by decide +kernel
theorem dX2_wordToken_49 : decode cX2_wordToken 49 = .ok (.ifCond .eq 5, 3) := by decide +kernel
theorem dX2_wordToken_52 : decode cX2_wordToken 52 = .ok (.iload_n 3, 1) := by decide +kernel
theorem dX2_wordToken_53 : decode cX2_wordToken 53 = .ok (.ireturn, 1) := by decide +kernel
theorem dX2_wordToken_54 : decode cX2_wordToken 54 = .ok (.iinc 3 1, 3) := by decide +kernel
theorem dX2_wordToken_57 : decode cX2_wordToken 57 = .ok (.iload 5, 2) := by decide +kernel
theorem dX2_wordToken_59 : decode cX2_wordToken 59 = .ok (.iconst 1, 1) := by decide +kernel
theorem dX2_wordToken_60 : decode cX2_wordToken 60 = .ok (.iadd, 1) := by decide +kernel
theorem dX2_wordToken_61 : decode cX2_wordToken 61 = .ok (.istore 4, 2) := by decide +kernel
theorem dX2_wordToken_63 : decode cX2_wordToken 63 = .ok (.iinc 5 1, 3) := by decide +kernel
theorem dX2_wordToken_66 : decode cX2_wordToken 66 = .ok (.goto (-58), 3) := by decide +kernel
theorem dX2_wordToken_69 : decode cX2_wordToken 69 = .ok (.bipush 37, 2) := by decide +kernel
theorem dX2_wordToken_71 : decode cX2_wordToken 71 = .ok (.ireturn, 1) := by decide +kernel
theorem dX2_isWord_0 : decode cX2_isWord 0 = .ok (.iload_n 1, 1) := by decide +kernel
theorem dX2_isWord_1 : decode cX2_isWord 1 = .ok (.istore 4, 2) := by decide +kernel
theorem dX2_isWord_3 : decode cX2_isWord 3 = .ok (.iload 4, 2) := by decide +kernel
theorem dX2_isWord_5 : decode cX2_isWord 5 = .ok (.iload_n 2, 1) := by decide +kernel
theorem dX2_isWord_6 : decode cX2_isWord 6 = .ok (.if_icmp .ge 29, 3) := by decide +kernel
theorem dX2_isWord_9 : decode cX2_isWord 9 = .ok (.aload_n 0, 1) := by decide +kernel
theorem dX2_isWord_10 : decode cX2_isWord 10 = .ok (.iload 4, 2) := by decide +kernel
theorem dX2_isWord_12 : decode cX2_isWord 12 = .ok (.baload, 1) := by decide +kernel
theorem dX2_isWord_13 : decode cX2_isWord 13 = .ok (.ldc 77, 2) := by decide +kernel
theorem dX2_isWord_15 : decode cX2_isWord 15 = .ok (.iload_n 3, 1) := by decide +kernel
theorem dX2_isWord_16 : decode cX2_isWord 16 = .ok (.iload 4, 2) := by decide +kernel
theorem dX2_isWord_18 : decode cX2_isWord 18 = .ok (.iadd, 1) := by decide +kernel
theorem dX2_isWord_19 : decode cX2_isWord 19 = .ok (.iload_n 1, 1) := by decide +kernel
theorem dX2_isWord_20 : decode cX2_isWord 20 = .ok (.isub, 1) := by decide +kernel
theorem dX2_isWord_21 : decode cX2_isWord 21 = .ok (.invokevirtual 85, 3) := by decide +kernel
theorem dX2_isWord_24 : decode cX2_isWord 24 = .ok (.if_icmp .eq 5, 3) := by decide +kernel
theorem dX2_isWord_27 : decode cX2_isWord 27 = .ok (.iconst 0, 1) := by decide +kernel
theorem dX2_isWord_28 : decode cX2_isWord 28 = .ok (.ireturn, 1) := by decide +kernel
theorem dX2_isWord_29 : decode cX2_isWord 29 = .ok (.iinc 4 1, 3) := by decide +kernel
theorem dX2_isWord_32 : decode cX2_isWord 32 = .ok (.goto (-29), 3) := by decide +kernel
theorem dX2_isWord_35 : decode cX2_isWord 35 = .ok (.iconst 1, 1) := by decide +kernel
theorem dX2_isWord_36 : decode cX2_isWord 36 = .ok (.ireturn, 1) := by decide +kernel
theorem dX2_fail_0 : decode cX2_fail 0 = .ok (.aload_n 0, 1) := by decide +kernel
theorem dX2_fail_1 : decode cX2_fail 1 = .ok (.getfield 9, 3) := by decide +kernel
theorem dX2_fail_4 : decode cX2_fail 4 = .ok (.ifCond .ne 21, 3) := by decide +kernel
theorem dX2_fail_7 : decode cX2_fail 7 = .ok (.aload_n 0, 1) := by decide +kernel
theorem dX2_fail_8 : decode cX2_fail 8 = .ok (.iload_n 1, 1) := by decide +kernel
theorem dX2_fail_9 : decode cX2_fail 9 = .ok (.putfield 9, 3) := by decide +kernel
theorem dX2_fail_12 : decode cX2_fail 12 = .ok (.aload_n 0, 1) := by decide +kernel
theorem dX2_fail_13 : decode cX2_fail 13 = .ok (.aload_n 0, 1) := by decide +kernel
theorem dX2_fail_14 : decode cX2_fail 14 = .ok (.getfield 22, 3) := by decide +kernel
theorem dX2_fail_17 : decode cX2_fail 17 = .ok (.aload_n 0, 1) := by decide +kernel
theorem dX2_fail_18 : decode cX2_fail 18 = .ok (.getfield 31, 3) := by decide +kernel
theorem dX2_fail_21 : decode cX2_fail 21 = .ok (.iaload, 1) := by decide +kernel
theorem dX2_fail_22 : decode cX2_fail 22 = .ok (.putfield 15, 3) := by decide +kernel
theorem dX2_fail_25 : decode cX2_fail 25 = .ok (.aload_n 0, 1) := by decide +kernel
theorem dX2_fail_26 : decode cX2_fail 26 = .ok (.aload_n 0, 1) := by decide +kernel
theorem dX2_fail_27 : decode cX2_fail 27 = .ok (.getfield 28, 3) := by decide +kernel
theorem dX2_fail_30 : decode cX2_fail 30 = .ok (.putfield 31, 3) := by decide +kernel
theorem dX2_fail_33 : decode cX2_fail 33 = .ok (.return_, 1) := by decide +kernel
theorem dX2_take_0 : decode cX2_take 0 = .ok (.aload_n 0, 1) := by decide +kernel
theorem dX2_take_1 : decode cX2_take 1 = .ok (.getfield 18, 3) := by decide +kernel
theorem dX2_take_4 : decode cX2_take 4 = .ok (.aload_n 0, 1) := by decide +kernel
theorem dX2_take_5 : decode cX2_take 5 = .ok (.getfield 31, 3) := by decide +kernel
theorem dX2_take_8 : decode cX2_take 8 = .ok (.iaload, 1) := by decide +kernel
theorem dX2_take_9 : decode cX2_take 9 = .ok (.iload_n 1, 1) := by decide +kernel
theorem dX2_take_10 : decode cX2_take 10 = .ok (.if_icmp .ne 16, 3) := by decide +kernel
theorem dX2_take_13 : decode cX2_take 13 = .ok (.aload_n 0, 1) := by decide +kernel
theorem dX2_take_14 : decode cX2_take 14 = .ok (.dup, 1) := by decide +kernel
theorem dX2_take_15 : decode cX2_take 15 = .ok (.getfield 31, 3) := by decide +kernel
theorem dX2_take_18 : decode cX2_take 18 = .ok (.iconst 1, 1) := by decide +kernel
theorem dX2_take_19 : decode cX2_take 19 = .ok (.iadd, 1) := by decide +kernel
theorem dX2_take_20 : decode cX2_take 20 = .ok (.putfield 31, 3) := by decide +kernel
theorem dX2_take_23 : decode cX2_take 23 = .ok (.goto 8, 3) := by decide +kernel
theorem dX2_take_26 : decode cX2_take 26 = .ok (.aload_n 0, 1) := by decide +kernel
theorem dX2_take_27 : decode cX2_take 27 = .ok (.iconst 1, 1) := by decide +kernel
theorem dX2_take_28 : decode cX2_take 28 = .ok (.invokevirtual 93, 3) := by decide +kernel
theorem dX2_take_31 : decode cX2_take 31 = .ok (.return_, 1) := by decide +kernel
theorem dX2_takeNumber_0 : decode cX2_takeNumber 0 = .ok (.aload_n 0, 1) := by decide +kernel
theorem dX2_takeNumber_1 : decode cX2_takeNumber 1 = .ok (.getfield 25, 3) := by decide +kernel
theorem dX2_takeNumber_4 : decode cX2_takeNumber 4 = .ok (.aload_n 0, 1) := by decide +kernel
theorem dX2_takeNumber_5 : decode cX2_takeNumber 5 = .ok (.getfield 31, 3) := by decide +kernel
theorem dX2_takeNumber_8 : decode cX2_takeNumber 8 = .ok (.iaload, 1) := by decide +kernel
theorem dX2_takeNumber_9 : decode cX2_takeNumber 9 = .ok (.istore_n 2, 1) := by decide +kernel
theorem dX2_takeNumber_10 : decode cX2_takeNumber 10 = .ok (.aload_n 0, 1) := by decide +kernel
theorem dX2_takeNumber_11 : decode cX2_takeNumber 11 = .ok (.getfield 18, 3) := by decide +kernel
theorem dX2_takeNumber_14 : decode cX2_takeNumber 14 = .ok (.aload_n 0, 1) := by decide +kernel
theorem dX2_takeNumber_15 : decode cX2_takeNumber 15 = .ok (.getfield 31, 3) := by decide +kernel
theorem dX2_takeNumber_18 : decode cX2_takeNumber 18 = .ok (.iaload, 1) := by decide +kernel
theorem dX2_takeNumber_19 : decode cX2_takeNumber 19 = .ok (.bipush 35, 2) := by decide +kernel
theorem dX2_takeNumber_21 : decode cX2_takeNumber 21 = .ok (.if_icmp .eq 10, 3) := by decide +kernel
theorem dX2_takeNumber_24 : decode cX2_takeNumber 24 = .ok (.aload_n 0, 1) := by decide +kernel
theorem dX2_takeNumber_25 : decode cX2_takeNumber 25 = .ok (.iconst 1, 1) := by decide +kernel
theorem dX2_takeNumber_26 : decode cX2_takeNumber 26 = .ok (.invokevirtual 93, 3) := by decide +kernel
theorem dX2_takeNumber_29 : decode cX2_takeNumber 29 = .ok (.iconst 0, 1) := by decide +kernel
theorem dX2_takeNumber_30 : decode cX2_takeNumber 30 = .ok (.ireturn, 1) := by decide +kernel
theorem dX2_takeNumber_31 : decode cX2_takeNumber 31 = .ok (.iload_n 2, 1) := by decide +kernel
theorem dX2_takeNumber_32 : decode cX2_takeNumber 32 = .ok (.iload_n 1, 1) := by decide +kernel
theorem dX2_takeNumber_33 : decode cX2_takeNumber 33 = .ok (.if_icmp .le 10, 3) := by decide +kernel
theorem dX2_takeNumber_36 : decode cX2_takeNumber 36 = .ok (.aload_n 0, 1) := by decide +kernel
theorem dX2_takeNumber_37 : decode cX2_takeNumber 37 = .ok (.iconst 2, 1) := by decide +kernel
theorem dX2_takeNumber_38 : decode cX2_takeNumber 38 = .ok (.invokevirtual 93, 3) := by decide +kernel
theorem dX2_takeNumber_41 : decode cX2_takeNumber 41 = .ok (.iconst 0, 1) := by decide +kernel
theorem dX2_takeNumber_42 : decode cX2_takeNumber 42 = .ok (.ireturn, 1) := by decide +kernel
theorem dX2_takeNumber_43 : decode cX2_takeNumber 43 = .ok (.aload_n 0, 1) := by decide +kernel
theorem dX2_takeNumber_44 : decode cX2_takeNumber 44 = .ok (.dup, 1) := by decide +kernel
theorem dX2_takeNumber_45 : decode cX2_takeNumber 45 = .ok (.getfield 31, 3) := by decide +kernel
theorem dX2_takeNumber_48 : decode cX2_takeNumber 48 = .ok (.iconst 1, 1) := by decide +kernel
theorem dX2_takeNumber_49 : decode cX2_takeNumber 49 = .ok (.iadd, 1) := by decide +kernel
theorem dX2_takeNumber_50 : decode cX2_takeNumber 50 = .ok (.putfield 31, 3) := by decide +kernel
theorem dX2_takeNumber_53 : decode cX2_takeNumber 53 = .ok (.iload_n 2, 1) := by decide +kernel
theorem dX2_takeNumber_54 : decode cX2_takeNumber 54 = .ok (.ireturn, 1) := by decide +kernel
theorem dX2_flawOfHead_0 : decode cX2_flawOfHead 0 = .ok (.iload_n 1, 1) := by decide +kernel
theorem dX2_flawOfHead_1 : decode cX2_flawOfHead 1 = .ok (.bipush 6, 2) := by decide +kernel
theorem dX2_flawOfHead_3 : decode cX2_flawOfHead 3 = .ok (.if_icmp .le 5, 3) := by decide +kernel
theorem dX2_flawOfHead_6 : decode cX2_flawOfHead 6 = .ok (.iconst 1, 1) := by decide +kernel
theorem dX2_flawOfHead_7 : decode cX2_flawOfHead 7 = .ok (.ireturn, 1) := by decide +kernel
theorem dX2_flawOfHead_8 : decode cX2_flawOfHead 8 = .ok (.iload_n 1, 1) := by decide +kernel
theorem dX2_flawOfHead_9 : decode cX2_flawOfHead 9 = .ok (.ifCond .ne 14, 3) := by decide +kernel
theorem dX2_flawOfHead_12 : decode cX2_flawOfHead 12 = .ok (.aload_n 0, 1) := by decide +kernel
theorem dX2_flawOfHead_13 : decode cX2_flawOfHead 13 = .ok (.getfield 40, 3) := by decide +kernel
theorem dX2_flawOfHead_16 : decode cX2_flawOfHead 16 = .ok (.getfield 97, 3) := by decide +kernel
theorem dX2_flawOfHead_19 : decode cX2_flawOfHead 19 = .ok (.iconst (-1), 1) := by decide +kernel
theorem dX2_flawOfHead_20 : decode cX2_flawOfHead 20 = .ok (.if_icmp .ne 19, 3) := by decide +kernel
theorem dX2_flawOfHead_23 : decode cX2_flawOfHead 23 = .ok (.iload_n 1, 1) := by decide +kernel
theorem dX2_flawOfHead_24 : decode cX2_flawOfHead 24 = .ok (.iconst 1, 1) := by decide +kernel
theorem dX2_flawOfHead_25 : decode cX2_flawOfHead 25 = .ok (.if_icmp .ne 16, 3) := by decide +kernel
theorem dX2_flawOfHead_28 : decode cX2_flawOfHead 28 = .ok (.aload_n 0, 1) := by decide +kernel
theorem dX2_flawOfHead_29 : decode cX2_flawOfHead 29 = .ok (.getfield 40, 3) := by decide +kernel
theorem dX2_flawOfHead_32 : decode cX2_flawOfHead 32 = .ok (.getfield 100, 3) := by decide +kernel
theorem dX2_flawOfHead_35 : decode cX2_flawOfHead 35 = .ok (.iconst (-1), 1) := by decide +kernel
theorem dX2_flawOfHead_36 : decode cX2_flawOfHead 36 = .ok (.if_icmp .eq 5, 3) := by decide +kernel
theorem dX2_flawOfHead_39 : decode cX2_flawOfHead 39 = .ok (.iconst 4, 1) := by decide +kernel
theorem dX2_flawOfHead_40 : decode cX2_flawOfHead 40 = .ok (.ireturn, 1) := by decide +kernel
theorem dX2_flawOfHead_41 : decode cX2_flawOfHead 41 = .ok (.aload_n 0, 1) := by decide +kernel
theorem dX2_flawOfHead_42 : decode cX2_flawOfHead 42 = .ok (.getfield 40, 3) := by decide +kernel
theorem dX2_flawOfHead_45 : decode cX2_flawOfHead 45 = .ok (.getfield 103, 3) := by decide +kernel
theorem dX2_flawOfHead_48 : decode cX2_flawOfHead 48 = .ok (.bipush 24, 2) := by decide +kernel
theorem dX2_flawOfHead_50 : decode cX2_flawOfHead 50 = .ok (.if_icmp .lt 8, 3) := by decide +kernel
theorem dX2_flawOfHead_53 : decode cX2_flawOfHead 53 = .ok (.bipush 6, 2) := by decide +kernel
theorem dX2_flawOfHead_55 : decode cX2_flawOfHead 55 = .ok (.goto 4, 3) := by decide +kernel
theorem dX2_flawOfHead_58 : decode cX2_flawOfHead 58 = .ok (.iconst 0, 1) := by decide +kernel
theorem dX2_flawOfHead_59 : decode cX2_flawOfHead 59 = .ok (.ireturn, 1) := by decide +kernel
theorem dX2_readClause_0 : decode cX2_readClause 0 = .ok (.aload_n 0, 1) := by decide +kernel
theorem dX2_readClause_1 : decode cX2_readClause 1 = .ok (.getfield 18, 3) := by decide +kernel
theorem dX2_readClause_4 : decode cX2_readClause 4 = .ok (.aload_n 0, 1) := by decide +kernel
theorem dX2_readClause_5 : decode cX2_readClause 5 = .ok (.getfield 31, 3) := by decide +kernel
theorem dX2_readClause_8 : decode cX2_readClause 8 = .ok (.iaload, 1) := by decide +kernel
theorem dX2_readClause_9 : decode cX2_readClause 9 = .ok (.istore_n 1, 1) := by decide +kernel
theorem dX2_readClause_10 : decode cX2_readClause 10 = .ok (.aload_n 0, 1) := by decide +kernel
theorem dX2_readClause_11 : decode cX2_readClause 11 = .ok (.iload_n 1, 1) := by decide +kernel
theorem dX2_readClause_12 : decode cX2_readClause 12 = .ok (.invokevirtual 106, 3) := by decide +kernel
theorem dX2_readClause_15 : decode cX2_readClause 15 = .ok (.istore_n 2, 1) := by decide +kernel
theorem dX2_readClause_16 : decode cX2_readClause 16 = .ok (.iload_n 2, 1) := by decide +kernel
theorem dX2_readClause_17 : decode cX2_readClause 17 = .ok (.ifCond .eq 9, 3) := by decide +kernel
theorem dX2_readClause_20 : decode cX2_readClause 20 = .ok (.aload_n 0, 1) := by decide +kernel
theorem dX2_readClause_21 : decode cX2_readClause 21 = .ok (.iload_n 2, 1) := by decide +kernel
theorem dX2_readClause_22 : decode cX2_readClause 22 = .ok (.invokevirtual 93, 3) := by decide +kernel
theorem dX2_readClause_25 : decode cX2_readClause 25 = .ok (.return_, 1) := by decide +kernel
theorem dX2_readClause_26 : decode cX2_readClause 26 = .ok (.aload_n 0, 1) := by decide +kernel
theorem dX2_readClause_27 : decode cX2_readClause 27 = .ok (.dup, 1) := by decide +kernel
theorem dX2_readClause_28 : decode cX2_readClause 28 = .ok (.getfield 31, 3) := by decide +kernel
theorem dX2_readClause_31 : decode cX2_readClause 31 = .ok (.iconst 1, 1) := by decide +kernel
theorem dX2_readClause_32 : decode cX2_readClause 32 = .ok (.iadd, 1) := by decide +kernel
theorem dX2_readClause_33 : decode cX2_readClause 33 = .ok (.putfield 31, 3) := by decide +kernel
theorem dX2_readClause_36 : decode cX2_readClause 36 = .ok (.iload_n 1, 1) := by decide +kernel
theorem dX2_readClause_37 : decode cX2_readClause 37 = .ok (.tableswitch 87 0 5 #[39, 46, 53, 64, 87, 75], 39) := by decide +kernel
theorem dX2_readClause_76 : decode cX2_readClause 76 = .ok (.aload_n 0, 1) := by decide +kernel
theorem dX2_readClause_77 : decode cX2_readClause 77 = .ok (.invokevirtual 110, 3) := by decide +kernel
theorem dX2_readClause_80 : decode cX2_readClause 80 = .ok (.goto 69, 3) := by decide +kernel
theorem dX2_readClause_83 : decode cX2_readClause 83 = .ok (.aload_n 0, 1) := by decide +kernel
theorem dX2_readClause_84 : decode cX2_readClause 84 = .ok (.invokevirtual 113, 3) := by decide +kernel
theorem dX2_readClause_87 : decode cX2_readClause 87 = .ok (.goto 62, 3) := by decide +kernel
theorem dX2_readClause_90 : decode cX2_readClause 90 = .ok (.aload_n 0, 1) := by decide +kernel
theorem dX2_readClause_91 : decode cX2_readClause 91 = .ok (.iconst 2, 1) := by decide +kernel
theorem dX2_readClause_92 : decode cX2_readClause 92 = .ok (.bipush 7, 2) := by decide +kernel
theorem dX2_readClause_94 : decode cX2_readClause 94 = .ok (.iconst 5, 1) := by decide +kernel
theorem dX2_readClause_95 : decode cX2_readClause 95 = .ok (.invokevirtual 116, 3) := by decide +kernel
theorem dX2_readClause_98 : decode cX2_readClause 98 = .ok (.goto 51, 3) := by decide +kernel
theorem dX2_readClause_101 : decode cX2_readClause 101 = .ok (.aload_n 0, 1) := by decide +kernel
theorem dX2_readClause_102 : decode cX2_readClause 102 = .ok (.iconst 3, 1) := by decide +kernel
theorem dX2_readClause_103 : decode cX2_readClause 103 = .ok (.bipush 8, 2) := by decide +kernel
theorem dX2_readClause_105 : decode cX2_readClause 105 = .ok (.iconst 5, 1) := by decide +kernel
theorem dX2_readClause_106 : decode cX2_readClause 106 = .ok (.invokevirtual 116, 3) := by decide +kernel
theorem dX2_readClause_109 : decode cX2_readClause 109 = .ok (.goto 40, 3) := by decide +kernel
theorem dX2_readClause_112 : decode cX2_readClause 112 = .ok (.aload_n 0, 1) := by decide +kernel
theorem dX2_readClause_113 : decode cX2_readClause 113 = .ok (.iconst 5, 1) := by decide +kernel
theorem dX2_readClause_114 : decode cX2_readClause 114 = .ok (.bipush 9, 2) := by decide +kernel
theorem dX2_readClause_116 : decode cX2_readClause 116 = .ok (.bipush 7, 2) := by decide +kernel
theorem dX2_readClause_118 : decode cX2_readClause 118 = .ok (.invokevirtual 116, 3) := by decide +kernel
theorem dX2_readClause_121 : decode cX2_readClause 121 = .ok (.goto 28, 3) := by decide +kernel
theorem dX2_readClause_124 : decode cX2_readClause 124 = .ok (.aload_n 0, 1) := by decide +kernel
theorem dX2_readClause_125 : decode cX2_readClause 125 = .ok (.getfield 40, 3) := by decide +kernel
theorem dX2_readClause_128 : decode cX2_readClause 128 = .ok (.iload_n 1, 1) := by decide +kernel
theorem dX2_readClause_129 : decode cX2_readClause 129 = .ok (.iconst 4, 1) := by decide +kernel
theorem dX2_readClause_130 : decode cX2_readClause 130 = .ok (.if_icmp .ne 7, 3) := by decide +kernel
theorem dX2_readClause_133 : decode cX2_readClause 133 = .ok (.iconst 3, 1) := by decide +kernel
theorem dX2_readClause_134 : decode cX2_readClause 134 = .ok (.goto 5, 3) := by decide +kernel
theorem dX2_readClause_137 : decode cX2_readClause 137 = .ok (.bipush 6, 2) := by decide +kernel
theorem dX2_readClause_139 : decode cX2_readClause 139 = .ok (.aload_n 0, 1) := by decide +kernel
theorem dX2_readClause_140 : decode cX2_readClause 140 = .ok (.bipush 7, 2) := by decide +kernel
theorem dX2_readClause_142 : decode cX2_readClause 142 = .ok (.invokevirtual 120, 3) := by decide +kernel
theorem dX2_readClause_145 : decode cX2_readClause 145 = .ok (.iconst (-1), 1) := by decide +kernel
theorem dX2_readClause_146 : decode cX2_readClause 146 = .ok (.invokevirtual 123, 3) := by decide +kernel
theorem dX2_readClause_149 : decode cX2_readClause 149 = .ok (.aload_n 0, 1) := by decide +kernel
theorem dX2_readClause_150 : decode cX2_readClause 150 = .ok (.bipush 34, 2) := by decide +kernel
theorem dX2_readClause_152 : decode cX2_readClause 152 = .ok (.invokevirtual 126, 3) := by decide +kernel
theorem dX2_readClause_155 : decode cX2_readClause 155 = .ok (.return_, 1) := by decide +kernel
theorem dX2_readDeed_0 : decode cX2_readDeed 0 = .ok (.aload_n 0, 1) := by decide +kernel
theorem dX2_readDeed_1 : decode cX2_readDeed 1 = .ok (.bipush 7, 2) := by decide +kernel
theorem dX2_readDeed_3 : decode cX2_readDeed 3 = .ok (.invokevirtual 120, 3) := by decide +kernel
theorem dX2_readDeed_6 : decode cX2_readDeed 6 = .ok (.istore 4, 2) := by decide +kernel
theorem dX2_readDeed_8 : decode cX2_readDeed 8 = .ok (.aload_n 0, 1) := by decide +kernel
theorem dX2_readDeed_9 : decode cX2_readDeed 9 = .ok (.iload_n 2, 1) := by decide +kernel
theorem dX2_readDeed_10 : decode cX2_readDeed 10 = .ok (.invokevirtual 126, 3) := by decide +kernel
theorem dX2_readDeed_13 : decode cX2_readDeed 13 = .ok (.aload_n 0, 1) := by decide +kernel
theorem dX2_readDeed_14 : decode cX2_readDeed 14 = .ok (.iload_n 3, 1) := by decide +kernel
theorem dX2_readDeed_15 : decode cX2_readDeed 15 = .ok (.invokevirtual 120, 3) := by decide +kernel
theorem dX2_readDeed_18 : decode cX2_readDeed 18 = .ok (.istore 5, 2) := by decide +kernel
theorem dX2_readDeed_20 : decode cX2_readDeed 20 = .ok (.aload_n 0, 1) := by decide +kernel
theorem dX2_readDeed_21 : decode cX2_readDeed 21 = .ok (.getfield 40, 3) := by decide +kernel
theorem dX2_readDeed_24 : decode cX2_readDeed 24 = .ok (.iload_n 1, 1) := by decide +kernel
theorem dX2_readDeed_25 : decode cX2_readDeed 25 = .ok (.iload 4, 2) := by decide +kernel
theorem dX2_readDeed_27 : decode cX2_readDeed 27 = .ok (.iload 5, 2) := by decide +kernel
theorem dX2_readDeed_29 : decode cX2_readDeed 29 = .ok (.invokevirtual 123, 3) := by decide +kernel
theorem dX2_readDeed_32 : decode cX2_readDeed 32 = .ok (.return_, 1) := by decide +kernel
theorem dX2_readRubs_0 : decode cX2_readRubs 0 = .ok (.aload_n 0, 1) := by decide +kernel
theorem dX2_readRubs_1 : decode cX2_readRubs 1 = .ok (.bipush 18, 2) := by decide +kernel
theorem dX2_readRubs_3 : decode cX2_readRubs 3 = .ok (.putfield 34, 3) := by decide +kernel
theorem dX2_readRubs_6 : decode cX2_readRubs 6 = .ok (.aload_n 0, 1) := by decide +kernel
theorem dX2_readRubs_7 : decode cX2_readRubs 7 = .ok (.getfield 40, 3) := by decide +kernel
theorem dX2_readRubs_10 : decode cX2_readRubs 10 = .ok (.aload_n 0, 1) := by decide +kernel
theorem dX2_readRubs_11 : decode cX2_readRubs 11 = .ok (.getfield 40, 3) := by decide +kernel
theorem dX2_readRubs_14 : decode cX2_readRubs 14 = .ok (.getfield 129, 3) := by decide +kernel
theorem dX2_readRubs_17 : decode cX2_readRubs 17 = .ok (.putfield 100, 3) := by decide +kernel
theorem dX2_readRubs_20 : decode cX2_readRubs 20 = .ok (.aload_n 0, 1) := by decide +kernel
theorem dX2_readRubs_21 : decode cX2_readRubs 21 = .ok (.iconst 0, 1) := by decide +kernel
theorem dX2_readRubs_22 : decode cX2_readRubs 22 = .ok (.invokevirtual 132, 3) := by decide +kernel
theorem dX2_readRubs_25 : decode cX2_readRubs 25 = .ok (.aload_n 0, 1) := by decide +kernel
theorem dX2_readRubs_26 : decode cX2_readRubs 26 = .ok (.getfield 40, 3) := by decide +kernel
theorem dX2_readRubs_29 : decode cX2_readRubs 29 = .ok (.aload_n 0, 1) := by decide +kernel
theorem dX2_readRubs_30 : decode cX2_readRubs 30 = .ok (.getfield 40, 3) := by decide +kernel
theorem dX2_readRubs_33 : decode cX2_readRubs 33 = .ok (.getfield 129, 3) := by decide +kernel
theorem dX2_readRubs_36 : decode cX2_readRubs 36 = .ok (.putfield 135, 3) := by decide +kernel
theorem dX2_readRubs_39 : decode cX2_readRubs 39 = .ok (.aload_n 0, 1) := by decide +kernel
theorem dX2_readRubs_40 : decode cX2_readRubs 40 = .ok (.getfield 40, 3) := by decide +kernel
theorem dX2_readRubs_43 : decode cX2_readRubs 43 = .ok (.iconst 1, 1) := by decide +kernel
theorem dX2_readRubs_44 : decode cX2_readRubs 44 = .ok (.iconst (-1), 1) := by decide +kernel
theorem dX2_readRubs_45 : decode cX2_readRubs 45 = .ok (.iconst (-1), 1) := by decide +kernel
theorem dX2_readRubs_46 : decode cX2_readRubs 46 = .ok (.invokevirtual 123, 3) := by decide +kernel
theorem dX2_readRubs_49 : decode cX2_readRubs 49 = .ok (.return_, 1) := by decide +kernel
theorem dX2_readSees_0 : decode cX2_readSees 0 = .ok (.aload_n 0, 1) := by decide +kernel
theorem dX2_readSees_1 : decode cX2_readSees 1 = .ok (.bipush 21, 2) := by decide +kernel
theorem dX2_readSees_3 : decode cX2_readSees 3 = .ok (.putfield 34, 3) := by decide +kernel
theorem dX2_readSees_6 : decode cX2_readSees 6 = .ok (.aload_n 0, 1) := by decide +kernel
theorem dX2_readSees_7 : decode cX2_readSees 7 = .ok (.getfield 40, 3) := by decide +kernel
theorem dX2_readSees_10 : decode cX2_readSees 10 = .ok (.aload_n 0, 1) := by decide +kernel
theorem dX2_readSees_11 : decode cX2_readSees 11 = .ok (.getfield 40, 3) := by decide +kernel
theorem dX2_readSees_14 : decode cX2_readSees 14 = .ok (.getfield 129, 3) := by decide +kernel
theorem dX2_readSees_17 : decode cX2_readSees 17 = .ok (.putfield 97, 3) := by decide +kernel
theorem dX2_readSees_20 : decode cX2_readSees 20 = .ok (.iconst 0, 1) := by decide +kernel
theorem dX2_readSees_21 : decode cX2_readSees 21 = .ok (.istore_n 1, 1) := by decide +kernel
theorem dX2_readSees_22 : decode cX2_readSees 22 = .ok (.aload_n 0, 1) := by decide +kernel
theorem dX2_readSees_23 : decode cX2_readSees 23 = .ok (.iconst 0, 1) := by decide +kernel
theorem dX2_readSees_24 : decode cX2_readSees 24 = .ok (.invokevirtual 138, 3) := by decide +kernel
theorem dX2_readSees_27 : decode cX2_readSees 27 = .ok (.iconst 0, 1) := by decide +kernel
theorem dX2_readSees_28 : decode cX2_readSees 28 = .ok (.istore_n 2, 1) := by decide +kernel
theorem dX2_readSees_29 : decode cX2_readSees 29 = .ok (.iload_n 2, 1) := by decide +kernel
theorem dX2_readSees_30 : decode cX2_readSees 30 = .ok (.sipush 300, 3) := by decide +kernel
theorem dX2_readSees_33 : decode cX2_readSees 33 = .ok (.if_icmp .ge 116, 3) := by decide +kernel
theorem dX2_readSees_36 : decode cX2_readSees 36 = .ok (.aload_n 0, 1) := by decide +kernel
theorem dX2_readSees_37 : decode cX2_readSees 37 = .ok (.getfield 18, 3) := by decide +kernel
theorem dX2_readSees_40 : decode cX2_readSees 40 = .ok (.aload_n 0, 1) := by decide +kernel
theorem dX2_readSees_41 : decode cX2_readSees 41 = .ok (.getfield 31, 3) := by decide +kernel
theorem dX2_readSees_44 : decode cX2_readSees 44 = .ok (.iaload, 1) := by decide +kernel
theorem dX2_readSees_45 : decode cX2_readSees 45 = .ok (.bipush 11, 2) := by decide +kernel
theorem dX2_readSees_47 : decode cX2_readSees 47 = .ok (.if_icmp .eq 17, 3) := by decide +kernel
theorem dX2_readSees_50 : decode cX2_readSees 50 = .ok (.aload_n 0, 1) := by decide +kernel
theorem dX2_readSees_51 : decode cX2_readSees 51 = .ok (.getfield 18, 3) := by decide +kernel
theorem dX2_readSees_54 : decode cX2_readSees 54 = .ok (.aload_n 0, 1) := by decide +kernel
theorem dX2_readSees_55 : decode cX2_readSees 55 = .ok (.getfield 31, 3) := by decide +kernel
theorem dX2_readSees_58 : decode cX2_readSees 58 = .ok (.iaload, 1) := by decide +kernel
theorem dX2_readSees_59 : decode cX2_readSees 59 = .ok (.bipush 10, 2) := by decide +kernel
theorem dX2_readSees_61 : decode cX2_readSees 61 = .ok (.if_icmp .ne 88, 3) := by decide +kernel
theorem dX2_readSees_64 : decode cX2_readSees 64 = .ok (.aload_n 0, 1) := by decide +kernel
theorem dX2_readSees_65 : decode cX2_readSees 65 = .ok (.getfield 18, 3) := by decide +kernel
theorem dX2_readSees_68 : decode cX2_readSees 68 = .ok (.aload_n 0, 1) := by decide +kernel
theorem dX2_readSees_69 : decode cX2_readSees 69 = .ok (.getfield 31, 3) := by decide +kernel
theorem dX2_readSees_72 : decode cX2_readSees 72 = .ok (.iaload, 1) := by decide +kernel
theorem dX2_readSees_73 : decode cX2_readSees 73 = .ok (.bipush 11, 2) := by decide +kernel
theorem dX2_readSees_75 : decode cX2_readSees 75 = .ok (.if_icmp .ne 7, 3) := by decide +kernel
theorem dX2_readSees_78 : decode cX2_readSees 78 = .ok (.iconst 1, 1) := by decide +kernel
theorem dX2_readSees_79 : decode cX2_readSees 79 = .ok (.goto 4, 3) := by decide +kernel
theorem dX2_readSees_82 : decode cX2_readSees 82 = .ok (.iconst 0, 1) := by decide +kernel
theorem dX2_readSees_83 : decode cX2_readSees 83 = .ok (.istore_n 3, 1) := by decide +kernel
theorem dX2_readSees_84 : decode cX2_readSees 84 = .ok (.iload_n 3, 1) := by decide +kernel
theorem dX2_readSees_85 : decode cX2_readSees 85 = .ok (.ifCond .ne 16, 3) := by decide +kernel
theorem dX2_readSees_88 : decode cX2_readSees 88 = .ok (.iload_n 1, 1) := by decide +kernel
theorem dX2_readSees_89 : decode cX2_readSees 89 = .ok (.ifCond .eq 12, 3) := by decide +kernel
theorem dX2_readSees_92 : decode cX2_readSees 92 = .ok (.aload_n 0, 1) := by decide +kernel
theorem dX2_readSees_93 : decode cX2_readSees 93 = .ok (.getfield 40, 3) := by decide +kernel
theorem dX2_readSees_96 : decode cX2_readSees 96 = .ok (.bipush 10, 2) := by decide +kernel
theorem dX2_readSees_98 : decode cX2_readSees 98 = .ok (.invokevirtual 141, 3) := by decide +kernel
theorem dX2_readSees_101 : decode cX2_readSees 101 = .ok (.iload_n 1, 1) := by decide +kernel
theorem dX2_readSees_102 : decode cX2_readSees 102 = .ok (.ifCond .ne 7, 3) := by decide +kernel
theorem dX2_readSees_105 : decode cX2_readSees 105 = .ok (.iload_n 3, 1) := by decide +kernel
theorem dX2_readSees_106 : decode cX2_readSees 106 = .ok (.ifCond .ne 7, 3) := by decide +kernel
theorem dX2_readSees_109 : decode cX2_readSees 109 = .ok (.iconst 1, 1) := by decide +kernel
theorem dX2_readSees_110 : decode cX2_readSees 110 = .ok (.goto 4, 3) := by decide +kernel
theorem dX2_readSees_113 : decode cX2_readSees 113 = .ok (.iconst 0, 1) := by decide +kernel
theorem dX2_readSees_114 : decode cX2_readSees 114 = .ok (.istore_n 1, 1) := by decide +kernel
theorem dX2_readSees_115 : decode cX2_readSees 115 = .ok (.aload_n 0, 1) := by decide +kernel
theorem dX2_readSees_116 : decode cX2_readSees 116 = .ok (.dup, 1) := by decide +kernel
theorem dX2_readSees_117 : decode cX2_readSees 117 = .ok (.getfield 31, 3) := by decide +kernel
theorem dX2_readSees_120 : decode cX2_readSees 120 = .ok (.iconst 1, 1) := by decide +kernel
theorem dX2_readSees_121 : decode cX2_readSees 121 = .ok (.iadd, 1) := by decide +kernel
theorem dX2_readSees_122 : decode cX2_readSees 122 = .ok (.putfield 31, 3) := by decide +kernel
theorem dX2_readSees_125 : decode cX2_readSees 125 = .ok (.aload_n 0, 1) := by decide +kernel
theorem dX2_readSees_126 : decode cX2_readSees 126 = .ok (.iconst 0, 1) := by decide +kernel
theorem dX2_readSees_127 : decode cX2_readSees 127 = .ok (.invokevirtual 138, 3) := by decide +kernel
theorem dX2_readSees_130 : decode cX2_readSees 130 = .ok (.iload_n 3, 1) := by decide +kernel
theorem dX2_readSees_131 : decode cX2_readSees 131 = .ok (.ifCond .eq 12, 3) := by decide +kernel
theorem dX2_readSees_134 : decode cX2_readSees 134 = .ok (.aload_n 0, 1) := by decide +kernel
theorem dX2_readSees_135 : decode cX2_readSees 135 = .ok (.getfield 40, 3) := by decide +kernel
theorem dX2_readSees_138 : decode cX2_readSees 138 = .ok (.bipush 11, 2) := by decide +kernel
theorem dX2_readSees_140 : decode cX2_readSees 140 = .ok (.invokevirtual 141, 3) := by decide +kernel
theorem dX2_readSees_143 : decode cX2_readSees 143 = .ok (.iinc 2 1, 3) := by decide +kernel
theorem dX2_readSees_146 : decode cX2_readSees 146 = .ok (.goto (-117), 3) := by decide +kernel
theorem dX2_readSees_149 : decode cX2_readSees 149 = .ok (.iload_n 1, 1) := by decide +kernel
theorem dX2_readSees_150 : decode cX2_readSees 150 = .ok (.ifCond .eq 12, 3) := by decide +kernel
theorem dX2_readSees_153 : decode cX2_readSees 153 = .ok (.aload_n 0, 1) := by decide +kernel
theorem dX2_readSees_154 : decode cX2_readSees 154 = .ok (.getfield 40, 3) := by decide +kernel
theorem dX2_readSees_157 : decode cX2_readSees 157 = .ok (.bipush 10, 2) := by decide +kernel
theorem dX2_readSees_159 : decode cX2_readSees 159 = .ok (.invokevirtual 141, 3) := by decide +kernel
theorem dX2_readSees_162 : decode cX2_readSees 162 = .ok (.aload_n 0, 1) := by decide +kernel
theorem dX2_readSees_163 : decode cX2_readSees 163 = .ok (.getfield 40, 3) := by decide +kernel
theorem dX2_readSees_166 : decode cX2_readSees 166 = .ok (.aload_n 0, 1) := by decide +kernel
theorem dX2_readSees_167 : decode cX2_readSees 167 = .ok (.getfield 40, 3) := by decide +kernel
theorem dX2_readSees_170 : decode cX2_readSees 170 = .ok (.getfield 129, 3) := by decide +kernel
theorem dX2_readSees_173 : decode cX2_readSees 173 = .ok (.putfield 144, 3) := by decide +kernel
theorem dX2_readSees_176 : decode cX2_readSees 176 = .ok (.aload_n 0, 1) := by decide +kernel
theorem dX2_readSees_177 : decode cX2_readSees 177 = .ok (.getfield 40, 3) := by decide +kernel
theorem dX2_readSees_180 : decode cX2_readSees 180 = .ok (.iconst 0, 1) := by decide +kernel
theorem dX2_readSees_181 : decode cX2_readSees 181 = .ok (.iconst (-1), 1) := by decide +kernel
theorem dX2_readSees_182 : decode cX2_readSees 182 = .ok (.iconst (-1), 1) := by decide +kernel
theorem dX2_readSees_183 : decode cX2_readSees 183 = .ok (.invokevirtual 123, 3) := by decide +kernel
theorem dX2_readSees_186 : decode cX2_readSees 186 = .ok (.return_, 1) := by decide +kernel
theorem dX2_readAsk_0 : decode cX2_readAsk 0 = .ok (.aload_n 0, 1) := by decide +kernel
theorem dX2_readAsk_1 : decode cX2_readAsk 1 = .ok (.getfield 18, 3) := by decide +kernel
theorem dX2_readAsk_4 : decode cX2_readAsk 4 = .ok (.aload_n 0, 1) := by decide +kernel
theorem dX2_readAsk_5 : decode cX2_readAsk 5 = .ok (.getfield 31, 3) := by decide +kernel
theorem dX2_readAsk_8 : decode cX2_readAsk 8 = .ok (.iaload, 1) := by decide +kernel
theorem dX2_readAsk_9 : decode cX2_readAsk 9 = .ok (.bipush 12, 2) := by decide +kernel
theorem dX2_readAsk_11 : decode cX2_readAsk 11 = .ok (.if_icmp .ne 42, 3) := by decide +kernel
theorem dX2_readAsk_14 : decode cX2_readAsk 14 = .ok (.iload_n 1, 1) := by decide +kernel
theorem dX2_readAsk_15 : decode cX2_readAsk 15 = .ok (.bipush 8, 2) := by decide +kernel
theorem dX2_readAsk_17 : decode cX2_readAsk 17 = .ok (.if_icmp .lt 9, 3) := by decide +kernel
theorem dX2_readAsk_20 : decode cX2_readAsk 20 = .ok (.aload_n 0, 1) := by decide +kernel
theorem dX2_readAsk_21 : decode cX2_readAsk 21 = .ok (.iconst 3, 1) := by decide +kernel
theorem dX2_readAsk_22 : decode cX2_readAsk 22 = .ok (.invokevirtual 93, 3) := by decide +kernel
theorem dX2_readAsk_25 : decode cX2_readAsk 25 = .ok (.return_, 1) := by decide +kernel
theorem dX2_readAsk_26 : decode cX2_readAsk 26 = .ok (.aload_n 0, 1) := by decide +kernel
theorem dX2_readAsk_27 : decode cX2_readAsk 27 = .ok (.dup, 1) := by decide +kernel
theorem dX2_readAsk_28 : decode cX2_readAsk 28 = .ok (.getfield 31, 3) := by decide +kernel
theorem dX2_readAsk_31 : decode cX2_readAsk 31 = .ok (.iconst 1, 1) := by decide +kernel
theorem dX2_readAsk_32 : decode cX2_readAsk 32 = .ok (.iadd, 1) := by decide +kernel
theorem dX2_readAsk_33 : decode cX2_readAsk 33 = .ok (.putfield 31, 3) := by decide +kernel
theorem dX2_readAsk_36 : decode cX2_readAsk 36 = .ok (.aload_n 0, 1) := by decide +kernel
theorem dX2_readAsk_37 : decode cX2_readAsk 37 = .ok (.iload_n 1, 1) := by decide +kernel
theorem dX2_readAsk_38 : decode cX2_readAsk 38 = .ok (.iconst 1, 1) := by decide +kernel
theorem dX2_readAsk_39 : decode cX2_readAsk 39 = .ok (.iadd, 1) := by decide +kernel
theorem dX2_readAsk_40 : decode cX2_readAsk 40 = .ok (.invokevirtual 138, 3) := by decide +kernel
theorem dX2_readAsk_43 : decode cX2_readAsk 43 = .ok (.aload_n 0, 1) := by decide +kernel
theorem dX2_readAsk_44 : decode cX2_readAsk 44 = .ok (.getfield 40, 3) := by decide +kernel
theorem dX2_readAsk_47 : decode cX2_readAsk 47 = .ok (.bipush 12, 2) := by decide +kernel
theorem dX2_readAsk_49 : decode cX2_readAsk 49 = .ok (.invokevirtual 141, 3) := by decide +kernel
theorem dX2_readAsk_52 : decode cX2_readAsk 52 = .ok (.return_, 1) := by decide +kernel
theorem dX2_readAsk_53 : decode cX2_readAsk 53 = .ok (.aload_n 0, 1) := by decide +kernel
theorem dX2_readAsk_54 : decode cX2_readAsk 54 = .ok (.iload_n 1, 1) := by decide +kernel
theorem dX2_readAsk_55 : decode cX2_readAsk 55 = .ok (.invokevirtual 132, 3) := by decide +kernel
theorem dX2_readAsk_58 : decode cX2_readAsk 58 = .ok (.aload_n 0, 1) := by decide +kernel
theorem dX2_readAsk_59 : decode cX2_readAsk 59 = .ok (.getfield 18, 3) := by decide +kernel
theorem dX2_readAsk_62 : decode cX2_readAsk 62 = .ok (.aload_n 0, 1) := by decide +kernel
theorem dX2_readAsk_63 : decode cX2_readAsk 63 = .ok (.getfield 31, 3) := by decide +kernel
theorem dX2_readAsk_66 : decode cX2_readAsk 66 = .ok (.iaload, 1) := by decide +kernel
theorem dX2_readAsk_67 : decode cX2_readAsk 67 = .ok (.istore_n 2, 1) := by decide +kernel
theorem dX2_readAsk_68 : decode cX2_readAsk 68 = .ok (.iload_n 2, 1) := by decide +kernel
theorem dX2_readAsk_69 : decode cX2_readAsk 69 = .ok (.bipush 22, 2) := by decide +kernel
theorem dX2_readAsk_71 : decode cX2_readAsk 71 = .ok (.if_icmp .lt 9, 3) := by decide +kernel
theorem dX2_readAsk_74 : decode cX2_readAsk 74 = .ok (.iload_n 2, 1) := by decide +kernel
theorem dX2_readAsk_75 : decode cX2_readAsk 75 = .ok (.bipush 27, 2) := by decide +kernel
theorem dX2_readAsk_77 : decode cX2_readAsk 77 = .ok (.if_icmp .le 9, 3) := by decide +kernel
theorem dX2_readAsk_80 : decode cX2_readAsk 80 = .ok (.aload_n 0, 1) := by decide +kernel
theorem dX2_readAsk_81 : decode cX2_readAsk 81 = .ok (.iconst 1, 1) := by decide +kernel
theorem dX2_readAsk_82 : decode cX2_readAsk 82 = .ok (.invokevirtual 93, 3) := by decide +kernel
theorem dX2_readAsk_85 : decode cX2_readAsk 85 = .ok (.return_, 1) := by decide +kernel
theorem dX2_readAsk_86 : decode cX2_readAsk 86 = .ok (.aload_n 0, 1) := by decide +kernel
theorem dX2_readAsk_87 : decode cX2_readAsk 87 = .ok (.dup, 1) := by decide +kernel
theorem dX2_readAsk_88 : decode cX2_readAsk 88 = .ok (.getfield 31, 3) := by decide +kernel
theorem dX2_readAsk_91 : decode cX2_readAsk 91 = .ok (.iconst 1, 1) := by decide +kernel
theorem dX2_readAsk_92 : decode cX2_readAsk 92 = .ok (.iadd, 1) := by decide +kernel
theorem dX2_readAsk_93 : decode cX2_readAsk 93 = .ok (.putfield 31, 3) := by decide +kernel
theorem dX2_readAsk_96 : decode cX2_readAsk 96 = .ok (.aload_n 0, 1) := by decide +kernel
theorem dX2_readAsk_97 : decode cX2_readAsk 97 = .ok (.iload_n 1, 1) := by decide +kernel
theorem dX2_readAsk_98 : decode cX2_readAsk 98 = .ok (.invokevirtual 132, 3) := by decide +kernel
theorem dX2_readAsk_101 : decode cX2_readAsk 101 = .ok (.aload_n 0, 1) := by decide +kernel
theorem dX2_readAsk_102 : decode cX2_readAsk 102 = .ok (.getfield 40, 3) := by decide +kernel
theorem dX2_readAsk_105 : decode cX2_readAsk 105 = .ok (.iload_n 2, 1) := by decide +kernel
theorem dX2_readAsk_106 : decode cX2_readAsk 106 = .ok (.invokevirtual 141, 3) := by decide +kernel
theorem dX2_readAsk_109 : decode cX2_readAsk 109 = .ok (.return_, 1) := by decide +kernel
theorem dX2_readSum_0 : decode cX2_readSum 0 = .ok (.iconst (-1), 1) := by decide +kernel
theorem dX2_readSum_1 : decode cX2_readSum 1 = .ok (.istore_n 2, 1) := by decide +kernel
theorem dX2_readSum_2 : decode cX2_readSum 2 = .ok (.aload_n 0, 1) := by decide +kernel
theorem dX2_readSum_3 : decode cX2_readSum 3 = .ok (.iload_n 1, 1) := by decide +kernel
theorem dX2_readSum_4 : decode cX2_readSum 4 = .ok (.invokevirtual 147, 3) := by decide +kernel
theorem dX2_readSum_7 : decode cX2_readSum 7 = .ok (.iconst 0, 1) := by decide +kernel
theorem dX2_readSum_8 : decode cX2_readSum 8 = .ok (.istore_n 3, 1) := by decide +kernel
theorem dX2_readSum_9 : decode cX2_readSum 9 = .ok (.iload_n 3, 1) := by decide +kernel
theorem dX2_readSum_10 : decode cX2_readSum 10 = .ok (.sipush 300, 3) := by decide +kernel
theorem dX2_readSum_13 : decode cX2_readSum 13 = .ok (.if_icmp .ge 119, 3) := by decide +kernel
theorem dX2_readSum_16 : decode cX2_readSum 16 = .ok (.aload_n 0, 1) := by decide +kernel
theorem dX2_readSum_17 : decode cX2_readSum 17 = .ok (.getfield 18, 3) := by decide +kernel
theorem dX2_readSum_20 : decode cX2_readSum 20 = .ok (.aload_n 0, 1) := by decide +kernel
theorem dX2_readSum_21 : decode cX2_readSum 21 = .ok (.getfield 31, 3) := by decide +kernel
theorem dX2_readSum_24 : decode cX2_readSum 24 = .ok (.iaload, 1) := by decide +kernel
theorem dX2_readSum_25 : decode cX2_readSum 25 = .ok (.bipush 28, 2) := by decide +kernel
theorem dX2_readSum_27 : decode cX2_readSum 27 = .ok (.if_icmp .lt 105, 3) := by decide +kernel
theorem dX2_readSum_30 : decode cX2_readSum 30 = .ok (.aload_n 0, 1) := by decide +kernel
theorem dX2_readSum_31 : decode cX2_readSum 31 = .ok (.getfield 18, 3) := by decide +kernel
theorem dX2_readSum_34 : decode cX2_readSum 34 = .ok (.aload_n 0, 1) := by decide +kernel
theorem dX2_readSum_35 : decode cX2_readSum 35 = .ok (.getfield 31, 3) := by decide +kernel
theorem dX2_readSum_38 : decode cX2_readSum 38 = .ok (.iaload, 1) := by decide +kernel
theorem dX2_readSum_39 : decode cX2_readSum 39 = .ok (.bipush 31, 2) := by decide +kernel
theorem dX2_readSum_41 : decode cX2_readSum 41 = .ok (.if_icmp .gt 91, 3) := by decide +kernel
theorem dX2_readSum_44 : decode cX2_readSum 44 = .ok (.aload_n 0, 1) := by decide +kernel
theorem dX2_readSum_45 : decode cX2_readSum 45 = .ok (.getfield 18, 3) := by decide +kernel
theorem dX2_readSum_48 : decode cX2_readSum 48 = .ok (.aload_n 0, 1) := by decide +kernel
theorem dX2_readSum_49 : decode cX2_readSum 49 = .ok (.getfield 31, 3) := by decide +kernel
theorem dX2_readSum_52 : decode cX2_readSum 52 = .ok (.iaload, 1) := by decide +kernel
theorem dX2_readSum_53 : decode cX2_readSum 53 = .ok (.istore 4, 2) := by decide +kernel
theorem dX2_readSum_55 : decode cX2_readSum 55 = .ok (.iload 4, 2) := by decide +kernel
theorem dX2_readSum_57 : decode cX2_readSum 57 = .ok (.bipush 30, 2) := by decide +kernel
theorem dX2_readSum_59 : decode cX2_readSum 59 = .ok (.if_icmp .eq 10, 3) := by decide +kernel
theorem dX2_readSum_62 : decode cX2_readSum 62 = .ok (.iload 4, 2) := by decide +kernel
theorem dX2_readSum_64 : decode cX2_readSum 64 = .ok (.bipush 31, 2) := by decide +kernel
theorem dX2_readSum_66 : decode cX2_readSum 66 = .ok (.if_icmp .ne 7, 3) := by decide +kernel
theorem dX2_readSum_69 : decode cX2_readSum 69 = .ok (.iconst 1, 1) := by decide +kernel
theorem dX2_readSum_70 : decode cX2_readSum 70 = .ok (.goto 4, 3) := by decide +kernel
theorem dX2_readSum_73 : decode cX2_readSum 73 = .ok (.iconst 0, 1) := by decide +kernel
theorem dX2_readSum_74 : decode cX2_readSum 74 = .ok (.istore 5, 2) := by decide +kernel
theorem dX2_readSum_76 : decode cX2_readSum 76 = .ok (.iload 5, 2) := by decide +kernel
theorem dX2_readSum_78 : decode cX2_readSum 78 = .ok (.ifCond .ne 19, 3) := by decide +kernel
theorem dX2_readSum_81 : decode cX2_readSum 81 = .ok (.iload_n 2, 1) := by decide +kernel
theorem dX2_readSum_82 : decode cX2_readSum 82 = .ok (.iconst (-1), 1) := by decide +kernel
theorem dX2_readSum_83 : decode cX2_readSum 83 = .ok (.if_icmp .eq 11, 3) := by decide +kernel
theorem dX2_readSum_86 : decode cX2_readSum 86 = .ok (.aload_n 0, 1) := by decide +kernel
theorem dX2_readSum_87 : decode cX2_readSum 87 = .ok (.getfield 40, 3) := by decide +kernel
theorem dX2_readSum_90 : decode cX2_readSum 90 = .ok (.iload_n 2, 1) := by decide +kernel
theorem dX2_readSum_91 : decode cX2_readSum 91 = .ok (.invokevirtual 141, 3) := by decide +kernel
theorem dX2_readSum_94 : decode cX2_readSum 94 = .ok (.iload 4, 2) := by decide +kernel
theorem dX2_readSum_96 : decode cX2_readSum 96 = .ok (.istore_n 2, 1) := by decide +kernel
theorem dX2_readSum_97 : decode cX2_readSum 97 = .ok (.aload_n 0, 1) := by decide +kernel
theorem dX2_readSum_98 : decode cX2_readSum 98 = .ok (.dup, 1) := by decide +kernel
theorem dX2_readSum_99 : decode cX2_readSum 99 = .ok (.getfield 31, 3) := by decide +kernel
theorem dX2_readSum_102 : decode cX2_readSum 102 = .ok (.iconst 1, 1) := by decide +kernel
theorem dX2_readSum_103 : decode cX2_readSum 103 = .ok (.iadd, 1) := by decide +kernel
theorem dX2_readSum_104 : decode cX2_readSum 104 = .ok (.putfield 31, 3) := by decide +kernel
theorem dX2_readSum_107 : decode cX2_readSum 107 = .ok (.aload_n 0, 1) := by decide +kernel
theorem dX2_readSum_108 : decode cX2_readSum 108 = .ok (.iload_n 1, 1) := by decide +kernel
theorem dX2_readSum_109 : decode cX2_readSum 109 = .ok (.invokevirtual 147, 3) := by decide +kernel
theorem dX2_readSum_112 : decode cX2_readSum 112 = .ok (.iload 5, 2) := by decide +kernel
theorem dX2_readSum_114 : decode cX2_readSum 114 = .ok (.ifCond .eq 12, 3) := by decide +kernel
theorem dX2_readSum_117 : decode cX2_readSum 117 = .ok (.aload_n 0, 1) := by decide +kernel
theorem dX2_readSum_118 : decode cX2_readSum 118 = .ok (.getfield 40, 3) := by decide +kernel
theorem dX2_readSum_121 : decode cX2_readSum 121 = .ok (.iload 4, 2) := by decide +kernel
theorem dX2_readSum_123 : decode cX2_readSum 123 = .ok (.invokevirtual 141, 3) := by decide +kernel
theorem dX2_readSum_126 : decode cX2_readSum 126 = .ok (.iinc 3 1, 3) := by decide +kernel
theorem dX2_readSum_129 : decode cX2_readSum 129 = .ok (.goto (-120), 3) := by decide +kernel
theorem dX2_readSum_132 : decode cX2_readSum 132 = .ok (.iload_n 2, 1) := by decide +kernel
theorem dX2_readSum_133 : decode cX2_readSum 133 = .ok (.iconst (-1), 1) := by decide +kernel
theorem dX2_readSum_134 : decode cX2_readSum 134 = .ok (.if_icmp .eq 11, 3) := by decide +kernel
theorem dX2_readSum_137 : decode cX2_readSum 137 = .ok (.aload_n 0, 1) := by decide +kernel
theorem dX2_readSum_138 : decode cX2_readSum 138 = .ok (.getfield 40, 3) := by decide +kernel
theorem dX2_readSum_141 : decode cX2_readSum 141 = .ok (.iload_n 2, 1) := by decide +kernel
theorem dX2_readSum_142 : decode cX2_readSum 142 = .ok (.invokevirtual 141, 3) := by decide +kernel
theorem dX2_readSum_145 : decode cX2_readSum 145 = .ok (.return_, 1) := by decide +kernel
theorem dX2_readOne_0 : decode cX2_readOne 0 = .ok (.aload_n 0, 1) := by decide +kernel
theorem dX2_readOne_1 : decode cX2_readOne 1 = .ok (.getfield 18, 3) := by decide +kernel
theorem dX2_readOne_4 : decode cX2_readOne 4 = .ok (.aload_n 0, 1) := by decide +kernel
theorem dX2_readOne_5 : decode cX2_readOne 5 = .ok (.getfield 31, 3) := by decide +kernel
theorem dX2_readOne_8 : decode cX2_readOne 8 = .ok (.iaload, 1) := by decide +kernel
theorem dX2_readOne_9 : decode cX2_readOne 9 = .ok (.istore_n 2, 1) := by decide +kernel
theorem dX2_readOne_10 : decode cX2_readOne 10 = .ok (.iload_n 2, 1) := by decide +kernel
theorem dX2_readOne_11 : decode cX2_readOne 11 = .ok (.bipush 35, 2) := by decide +kernel
theorem dX2_readOne_13 : decode cX2_readOne 13 = .ok (.if_icmp .ne 20, 3) := by decide +kernel
theorem dX2_readOne_16 : decode cX2_readOne 16 = .ok (.aload_n 0, 1) := by decide +kernel
theorem dX2_readOne_17 : decode cX2_readOne 17 = .ok (.getfield 40, 3) := by decide +kernel
theorem dX2_readOne_20 : decode cX2_readOne 20 = .ok (.aload_n 0, 1) := by decide +kernel
theorem dX2_readOne_21 : decode cX2_readOne 21 = .ok (.sipush 9999, 3) := by decide +kernel
theorem dX2_readOne_24 : decode cX2_readOne 24 = .ok (.invokevirtual 120, 3) := by decide +kernel
theorem dX2_readOne_27 : decode cX2_readOne 27 = .ok (.invokevirtual 150, 3) := by decide +kernel
theorem dX2_readOne_30 : decode cX2_readOne 30 = .ok (.goto 142, 3) := by decide +kernel
theorem dX2_readOne_33 : decode cX2_readOne 33 = .ok (.iload_n 2, 1) := by decide +kernel
theorem dX2_readOne_34 : decode cX2_readOne 34 = .ok (.bipush 13, 2) := by decide +kernel
theorem dX2_readOne_36 : decode cX2_readOne 36 = .ok (.if_icmp .lt 44, 3) := by decide +kernel
theorem dX2_readOne_39 : decode cX2_readOne 39 = .ok (.iload_n 2, 1) := by decide +kernel
theorem dX2_readOne_40 : decode cX2_readOne 40 = .ok (.bipush 21, 2) := by decide +kernel
theorem dX2_readOne_42 : decode cX2_readOne 42 = .ok (.if_icmp .gt 38, 3) := by decide +kernel
theorem dX2_readOne_45 : decode cX2_readOne 45 = .ok (.iload_n 2, 1) := by decide +kernel
theorem dX2_readOne_46 : decode cX2_readOne 46 = .ok (.aload_n 0, 1) := by decide +kernel
theorem dX2_readOne_47 : decode cX2_readOne 47 = .ok (.getfield 34, 3) := by decide +kernel
theorem dX2_readOne_50 : decode cX2_readOne 50 = .ok (.if_icmp .le 9, 3) := by decide +kernel
theorem dX2_readOne_53 : decode cX2_readOne 53 = .ok (.aload_n 0, 1) := by decide +kernel
theorem dX2_readOne_54 : decode cX2_readOne 54 = .ok (.iconst 5, 1) := by decide +kernel
theorem dX2_readOne_55 : decode cX2_readOne 55 = .ok (.invokevirtual 93, 3) := by decide +kernel
theorem dX2_readOne_58 : decode cX2_readOne 58 = .ok (.return_, 1) := by decide +kernel
theorem dX2_readOne_59 : decode cX2_readOne 59 = .ok (.aload_n 0, 1) := by decide +kernel
theorem dX2_readOne_60 : decode cX2_readOne 60 = .ok (.getfield 40, 3) := by decide +kernel
theorem dX2_readOne_63 : decode cX2_readOne 63 = .ok (.iload_n 2, 1) := by decide +kernel
theorem dX2_readOne_64 : decode cX2_readOne 64 = .ok (.invokevirtual 141, 3) := by decide +kernel
theorem dX2_readOne_67 : decode cX2_readOne 67 = .ok (.aload_n 0, 1) := by decide +kernel
theorem dX2_readOne_68 : decode cX2_readOne 68 = .ok (.dup, 1) := by decide +kernel
theorem dX2_readOne_69 : decode cX2_readOne 69 = .ok (.getfield 31, 3) := by decide +kernel
theorem dX2_readOne_72 : decode cX2_readOne 72 = .ok (.iconst 1, 1) := by decide +kernel
theorem dX2_readOne_73 : decode cX2_readOne 73 = .ok (.iadd, 1) := by decide +kernel
theorem dX2_readOne_74 : decode cX2_readOne 74 = .ok (.putfield 31, 3) := by decide +kernel
theorem dX2_readOne_77 : decode cX2_readOne 77 = .ok (.goto 95, 3) := by decide +kernel
theorem dX2_readOne_80 : decode cX2_readOne 80 = .ok (.iload_n 2, 1) := by decide +kernel
theorem dX2_readOne_81 : decode cX2_readOne 81 = .ok (.bipush 32, 2) := by decide +kernel
theorem dX2_readOne_83 : decode cX2_readOne 83 = .ok (.if_icmp .eq 17, 3) := by decide +kernel
theorem dX2_readOne_86 : decode cX2_readOne 86 = .ok (.iload_n 2, 1) := by decide +kernel
theorem dX2_readOne_87 : decode cX2_readOne 87 = .ok (.bipush 29, 2) := by decide +kernel
theorem dX2_readOne_89 : decode cX2_readOne 89 = .ok (.if_icmp .eq 11, 3) := by decide +kernel
theorem dX2_readOne_92 : decode cX2_readOne 92 = .ok (.aload_n 0, 1) := by decide +kernel
theorem dX2_readOne_93 : decode cX2_readOne 93 = .ok (.iconst 1, 1) := by decide +kernel
theorem dX2_readOne_94 : decode cX2_readOne 94 = .ok (.invokevirtual 93, 3) := by decide +kernel
theorem dX2_readOne_97 : decode cX2_readOne 97 = .ok (.goto 75, 3) := by decide +kernel
theorem dX2_readOne_100 : decode cX2_readOne 100 = .ok (.iload_n 1, 1) := by decide +kernel
theorem dX2_readOne_101 : decode cX2_readOne 101 = .ok (.bipush 8, 2) := by decide +kernel
theorem dX2_readOne_103 : decode cX2_readOne 103 = .ok (.if_icmp .lt 11, 3) := by decide +kernel
theorem dX2_readOne_106 : decode cX2_readOne 106 = .ok (.aload_n 0, 1) := by decide +kernel
theorem dX2_readOne_107 : decode cX2_readOne 107 = .ok (.iconst 3, 1) := by decide +kernel
theorem dX2_readOne_108 : decode cX2_readOne 108 = .ok (.invokevirtual 93, 3) := by decide +kernel
theorem dX2_readOne_111 : decode cX2_readOne 111 = .ok (.goto 61, 3) := by decide +kernel
theorem dX2_readOne_114 : decode cX2_readOne 114 = .ok (.iload_n 2, 1) := by decide +kernel
theorem dX2_readOne_115 : decode cX2_readOne 115 = .ok (.bipush 32, 2) := by decide +kernel
theorem dX2_readOne_117 : decode cX2_readOne 117 = .ok (.if_icmp .ne 29, 3) := by decide +kernel
theorem dX2_readOne_120 : decode cX2_readOne 120 = .ok (.aload_n 0, 1) := by decide +kernel
theorem dX2_readOne_121 : decode cX2_readOne 121 = .ok (.dup, 1) := by decide +kernel
theorem dX2_readOne_122 : decode cX2_readOne 122 = .ok (.getfield 31, 3) := by decide +kernel
theorem dX2_readOne_125 : decode cX2_readOne 125 = .ok (.iconst 1, 1) := by decide +kernel
theorem dX2_readOne_126 : decode cX2_readOne 126 = .ok (.iadd, 1) := by decide +kernel
theorem dX2_readOne_127 : decode cX2_readOne 127 = .ok (.putfield 31, 3) := by decide +kernel
theorem dX2_readOne_130 : decode cX2_readOne 130 = .ok (.aload_n 0, 1) := by decide +kernel
theorem dX2_readOne_131 : decode cX2_readOne 131 = .ok (.iload_n 1, 1) := by decide +kernel
theorem dX2_readOne_132 : decode cX2_readOne 132 = .ok (.iconst 1, 1) := by decide +kernel
theorem dX2_readOne_133 : decode cX2_readOne 133 = .ok (.iadd, 1) := by decide +kernel
theorem dX2_readOne_134 : decode cX2_readOne 134 = .ok (.invokevirtual 132, 3) := by decide +kernel
theorem dX2_readOne_137 : decode cX2_readOne 137 = .ok (.aload_n 0, 1) := by decide +kernel
theorem dX2_readOne_138 : decode cX2_readOne 138 = .ok (.bipush 33, 2) := by decide +kernel
theorem dX2_readOne_140 : decode cX2_readOne 140 = .ok (.invokevirtual 126, 3) := by decide +kernel
theorem dX2_readOne_143 : decode cX2_readOne 143 = .ok (.goto 29, 3) := by decide +kernel
theorem dX2_readOne_146 : decode cX2_readOne 146 = .ok (.aload_n 0, 1) := by decide +kernel
theorem dX2_readOne_147 : decode cX2_readOne 147 = .ok (.dup, 1) := by decide +kernel
theorem dX2_readOne_148 : decode cX2_readOne 148 = .ok (.getfield 31, 3) := by decide +kernel
theorem dX2_readOne_151 : decode cX2_readOne 151 = .ok (.iconst 1, 1) := by decide +kernel
theorem dX2_readOne_152 : decode cX2_readOne 152 = .ok (.iadd, 1) := by decide +kernel
theorem dX2_readOne_153 : decode cX2_readOne 153 = .ok (.putfield 31, 3) := by decide +kernel
theorem dX2_readOne_156 : decode cX2_readOne 156 = .ok (.aload_n 0, 1) := by decide +kernel
theorem dX2_readOne_157 : decode cX2_readOne 157 = .ok (.iload_n 1, 1) := by decide +kernel
theorem dX2_readOne_158 : decode cX2_readOne 158 = .ok (.iconst 1, 1) := by decide +kernel
theorem dX2_readOne_159 : decode cX2_readOne 159 = .ok (.iadd, 1) := by decide +kernel
theorem dX2_readOne_160 : decode cX2_readOne 160 = .ok (.invokevirtual 147, 3) := by decide +kernel
theorem dX2_readOne_163 : decode cX2_readOne 163 = .ok (.aload_n 0, 1) := by decide +kernel
theorem dX2_readOne_164 : decode cX2_readOne 164 = .ok (.getfield 40, 3) := by decide +kernel
theorem dX2_readOne_167 : decode cX2_readOne 167 = .ok (.bipush 38, 2) := by decide +kernel
theorem dX2_readOne_169 : decode cX2_readOne 169 = .ok (.invokevirtual 141, 3) := by decide +kernel
theorem dX2_readOne_172 : decode cX2_readOne 172 = .ok (.return_, 1) := by decide +kernel
theorem dX3_init_0 : decode cX3_init 0 = .ok (.aload_n 0, 1) := by decide +kernel
theorem dX3_init_1 : decode cX3_init 1 = .ok (.invokespecial 3, 3) := by decide +kernel
theorem dX3_init_4 : decode cX3_init 4 = .ok (.aload_n 0, 1) := by decide +kernel
theorem dX3_init_5 : decode cX3_init 5 = .ok (.bipush 9, 2) := by decide +kernel
theorem dX3_init_7 : decode cX3_init 7 = .ok (.newarray .int, 2) := by decide +kernel
theorem dX3_init_9 : decode cX3_init 9 = .ok (.putfield 9, 3) := by decide +kernel
theorem dX3_init_12 : decode cX3_init 12 = .ok (.aload_n 0, 1) := by decide +kernel
theorem dX3_init_13 : decode cX3_init 13 = .ok (.bipush 32, 2) := by decide +kernel
theorem dX3_init_15 : decode cX3_init 15 = .ok (.newarray .int, 2) := by decide +kernel
theorem dX3_init_17 : decode cX3_init 17 = .ok (.putfield 15, 3) := by decide +kernel
theorem dX3_init_20 : decode cX3_init 20 = .ok (.return_, 1) := by decide +kernel
theorem dX3_nameEye_0 : decode cX3_nameEye 0 = .ok (.aload_n 0, 1) := by decide +kernel
theorem dX3_nameEye_1 : decode cX3_nameEye 1 = .ok (.getfield 9, 3) := by decide +kernel
theorem dX3_nameEye_4 : decode cX3_nameEye 4 = .ok (.iconst 0, 1) := by decide +kernel
theorem dX3_nameEye_5 : decode cX3_nameEye 5 = .ok (.iload_n 1, 1) := by decide +kernel
theorem dX3_nameEye_6 : decode cX3_nameEye 6 = .ok (.iastore, 1) := by decide +kernel
theorem dX3_nameEye_7 : decode cX3_nameEye 7 = .ok (.aload_n 0, 1) := by decide +kernel
theorem dX3_nameEye_8 : decode cX3_nameEye 8 = .ok (.getfield 9, 3) := by decide +kernel
theorem dX3_nameEye_11 : decode cX3_nameEye 11 = .ok (.iconst 1, 1) := by decide +kernel
theorem dX3_nameEye_12 : decode cX3_nameEye 12 = .ok (.iload_n 2, 1) := by decide +kernel
theorem dX3_nameEye_13 : decode cX3_nameEye 13 = .ok (.iastore, 1) := by decide +kernel
theorem dX3_nameEye_14 : decode cX3_nameEye 14 = .ok (.aload_n 0, 1) := by decide +kernel
theorem dX3_nameEye_15 : decode cX3_nameEye 15 = .ok (.getfield 9, 3) := by decide +kernel
theorem dX3_nameEye_18 : decode cX3_nameEye 18 = .ok (.iconst 2, 1) := by decide +kernel
theorem dX3_nameEye_19 : decode cX3_nameEye 19 = .ok (.iload_n 3, 1) := by decide +kernel
theorem dX3_nameEye_20 : decode cX3_nameEye 20 = .ok (.iastore, 1) := by decide +kernel
theorem dX3_nameEye_21 : decode cX3_nameEye 21 = .ok (.return_, 1) := by decide +kernel
theorem dX3_nameTimes_0 : decode cX3_nameTimes 0 = .ok (.aload_n 0, 1) := by decide +kernel
theorem dX3_nameTimes_1 : decode cX3_nameTimes 1 = .ok (.getfield 9, 3) := by decide +kernel
theorem dX3_nameTimes_4 : decode cX3_nameTimes 4 = .ok (.iconst 3, 1) := by decide +kernel
theorem dX3_nameTimes_5 : decode cX3_nameTimes 5 = .ok (.iload_n 1, 1) := by decide +kernel
theorem dX3_nameTimes_6 : decode cX3_nameTimes 6 = .ok (.iastore, 1) := by decide +kernel
theorem dX3_nameTimes_7 : decode cX3_nameTimes 7 = .ok (.aload_n 0, 1) := by decide +kernel
theorem dX3_nameTimes_8 : decode cX3_nameTimes 8 = .ok (.getfield 9, 3) := by decide +kernel
theorem dX3_nameTimes_11 : decode cX3_nameTimes 11 = .ok (.iconst 4, 1) := by decide +kernel
theorem dX3_nameTimes_12 : decode cX3_nameTimes 12 = .ok (.iload_n 2, 1) := by decide +kernel
theorem dX3_nameTimes_13 : decode cX3_nameTimes 13 = .ok (.iastore, 1) := by decide +kernel
theorem dX3_nameTimes_14 : decode cX3_nameTimes 14 = .ok (.aload_n 0, 1) := by decide +kernel
theorem dX3_nameTimes_15 : decode cX3_nameTimes 15 = .ok (.getfield 9, 3) := by decide +kernel
theorem dX3_nameTimes_18 : decode cX3_nameTimes 18 = .ok (.iconst 5, 1) := by decide +kernel
theorem dX3_nameTimes_19 : decode cX3_nameTimes 19 = .ok (.iload_n 3, 1) := by decide +kernel
theorem dX3_nameTimes_20 : decode cX3_nameTimes 20 = .ok (.iastore, 1) := by decide +kernel
theorem dX3_nameTimes_21 : decode cX3_nameTimes 21 = .ok (.return_, 1) := by decide +kernel
theorem dX3_nameTouch_0 : decode cX3_nameTouch 0 = .ok (.aload_n 0, 1) := by decide +kernel
theorem dX3_nameTouch_1 : decode cX3_nameTouch 1 = .ok (.getfield 9, 3) := by decide +kernel
theorem dX3_nameTouch_4 : decode cX3_nameTouch 4 = .ok (.bipush 6, 2) := by decide +kernel
theorem dX3_nameTouch_6 : decode cX3_nameTouch 6 = .ok (.iload_n 1, 1) := by decide +kernel
theorem dX3_nameTouch_7 : decode cX3_nameTouch 7 = .ok (.iastore, 1) := by decide +kernel
theorem dX3_nameTouch_8 : decode cX3_nameTouch 8 = .ok (.aload_n 0, 1) := by decide +kernel
theorem dX3_nameTouch_9 : decode cX3_nameTouch 9 = .ok (.getfield 9, 3) := by decide +kernel
theorem dX3_nameTouch_12 : decode cX3_nameTouch 12 = .ok (.bipush 7, 2) := by decide +kernel
theorem dX3_nameTouch_14 : decode cX3_nameTouch 14 = .ok (.iload_n 2, 1) := by decide +kernel
theorem dX3_nameTouch_15 : decode cX3_nameTouch 15 = .ok (.iastore, 1) := by decide +kernel
theorem dX3_nameTouch_16 : decode cX3_nameTouch 16 = .ok (.aload_n 0, 1) := by decide +kernel
theorem dX3_nameTouch_17 : decode cX3_nameTouch 17 = .ok (.getfield 9, 3) := by decide +kernel
theorem dX3_nameTouch_20 : decode cX3_nameTouch 20 = .ok (.bipush 8, 2) := by decide +kernel
theorem dX3_nameTouch_22 : decode cX3_nameTouch 22 = .ok (.iload_n 3, 1) := by decide +kernel
theorem dX3_nameTouch_23 : decode cX3_nameTouch 23 = .ok (.iastore, 1) := by decide +kernel
theorem dX3_nameTouch_24 : decode cX3_nameTouch 24 = .ok (.return_, 1) := by decide +kernel
theorem dX3_reckon_0 : decode cX3_reckon 0 = .ok (.iconst 0, 1) := by decide +kernel
theorem dX3_reckon_1 : decode cX3_reckon 1 = .ok (.istore 4, 2) := by decide +kernel
theorem dX3_reckon_3 : decode cX3_reckon 3 = .ok (.iconst 0, 1) := by decide +kernel
theorem dX3_reckon_4 : decode cX3_reckon 4 = .ok (.iload_n 2, 1) := by decide +kernel
theorem dX3_reckon_5 : decode cX3_reckon 5 = .ok (.invokestatic 18, 3) := by decide +kernel
theorem dX3_reckon_8 : decode cX3_reckon 8 = .ok (.istore 5, 2) := by decide +kernel
theorem dX3_reckon_10 : decode cX3_reckon 10 = .ok (.iload 5, 2) := by decide +kernel
theorem dX3_reckon_12 : decode cX3_reckon 12 = .ok (.iload_n 3, 1) := by decide +kernel
theorem dX3_reckon_13 : decode cX3_reckon 13 = .ok (.if_icmp .ge 205, 3) := by decide +kernel
theorem dX3_reckon_16 : decode cX3_reckon 16 = .ok (.iload 5, 2) := by decide +kernel
theorem dX3_reckon_18 : decode cX3_reckon 18 = .ok (.aload_n 1, 1) := by decide +kernel
theorem dX3_reckon_19 : decode cX3_reckon 19 = .ok (.arraylength, 1) := by decide +kernel
theorem dX3_reckon_20 : decode cX3_reckon 20 = .ok (.if_icmp .ge 198, 3) := by decide +kernel
theorem dX3_reckon_23 : decode cX3_reckon 23 = .ok (.iconst (-1), 1) := by decide +kernel
theorem dX3_reckon_24 : decode cX3_reckon 24 = .ok (.aload_n 1, 1) := by decide +kernel
theorem dX3_reckon_25 : decode cX3_reckon 25 = .ok (.iload 5, 2) := by decide +kernel
theorem dX3_reckon_27 : decode cX3_reckon 27 = .ok (.iaload, 1) := by decide +kernel
theorem dX3_reckon_28 : decode cX3_reckon 28 = .ok (.isub, 1) := by decide +kernel
theorem dX3_reckon_29 : decode cX3_reckon 29 = .ok (.istore 6, 2) := by decide +kernel
theorem dX3_reckon_31 : decode cX3_reckon 31 = .ok (.iload 6, 2) := by decide +kernel
theorem dX3_reckon_33 : decode cX3_reckon 33 = .ok (.bipush 13, 2) := by decide +kernel
theorem dX3_reckon_35 : decode cX3_reckon 35 = .ok (.if_icmp .lt 14, 3) := by decide +kernel
theorem dX3_reckon_38 : decode cX3_reckon 38 = .ok (.iload 6, 2) := by decide +kernel
theorem dX3_reckon_40 : decode cX3_reckon 40 = .ok (.bipush 21, 2) := by decide +kernel
theorem dX3_reckon_42 : decode cX3_reckon 42 = .ok (.if_icmp .gt 7, 3) := by decide +kernel
theorem dX3_reckon_45 : decode cX3_reckon 45 = .ok (.iconst 1, 1) := by decide +kernel
theorem dX3_reckon_46 : decode cX3_reckon 46 = .ok (.goto 4, 3) := by decide +kernel
theorem dX3_reckon_49 : decode cX3_reckon 49 = .ok (.iconst 0, 1) := by decide +kernel
theorem dX3_reckon_50 : decode cX3_reckon 50 = .ok (.istore 7, 2) := by decide +kernel
theorem dX3_reckon_52 : decode cX3_reckon 52 = .ok (.iload 6, 2) := by decide +kernel
theorem dX3_reckon_54 : decode cX3_reckon 54 = .ok (.ifCond .lt 8, 3) := by decide +kernel
theorem dX3_reckon_57 : decode cX3_reckon 57 = .ok (.iload 7, 2) := by decide +kernel
theorem dX3_reckon_59 : decode cX3_reckon 59 = .ok (.ifCond .eq 48, 3) := by decide +kernel
theorem dX3_reckon_62 : decode cX3_reckon 62 = .ok (.iload 4, 2) := by decide +kernel
theorem dX3_reckon_64 : decode cX3_reckon 64 = .ok (.aload_n 0, 1) := by decide +kernel
theorem dX3_reckon_65 : decode cX3_reckon 65 = .ok (.getfield 15, 3) := by decide +kernel
theorem dX3_reckon_68 : decode cX3_reckon 68 = .ok (.arraylength, 1) := by decide +kernel
theorem dX3_reckon_69 : decode cX3_reckon 69 = .ok (.if_icmp .ge 143, 3) := by decide +kernel
theorem dX3_reckon_72 : decode cX3_reckon 72 = .ok (.aload_n 0, 1) := by decide +kernel
theorem dX3_reckon_73 : decode cX3_reckon 73 = .ok (.getfield 15, 3) := by decide +kernel
theorem dX3_reckon_76 : decode cX3_reckon 76 = .ok (.iload 4, 2) := by decide +kernel
theorem dX3_reckon_78 : decode cX3_reckon 78 = .ok (.iload 7, 2) := by decide +kernel
theorem dX3_reckon_80 : decode cX3_reckon 80 = .ok (.ifCond .eq 16, 3) := by decide +kernel
theorem dX3_reckon_83 : decode cX3_reckon 83 = .ok (.aload_n 0, 1) := by decide +kernel
theorem dX3_reckon_84 : decode cX3_reckon 84 = .ok (.getfield 9, 3) := by decide +kernel
theorem dX3_reckon_87 : decode cX3_reckon 87 = .ok (.iload 6, 2) := by decide +kernel
theorem dX3_reckon_89 : decode cX3_reckon 89 = .ok (.bipush 13, 2) := by decide +kernel
theorem dX3_reckon_91 : decode cX3_reckon 91 = .ok (.isub, 1) := by decide +kernel
theorem dX3_reckon_92 : decode cX3_reckon 92 = .ok (.iaload, 1) := by decide +kernel
theorem dX3_reckon_93 : decode cX3_reckon 93 = .ok (.goto 7, 3) := by decide +kernel
theorem dX3_reckon_96 : decode cX3_reckon 96 = .ok (.aload_n 1, 1) := by decide +kernel
theorem dX3_reckon_97 : decode cX3_reckon 97 = .ok (.iload 5, 2) := by decide +kernel
theorem dX3_reckon_99 : decode cX3_reckon 99 = .ok (.iaload, 1) := by decide +kernel
theorem dX3_reckon_100 : decode cX3_reckon 100 = .ok (.iastore, 1) := by decide +kernel
theorem dX3_reckon_101 : decode cX3_reckon 101 = .ok (.iinc 4 1, 3) := by decide +kernel
theorem dX3_reckon_104 : decode cX3_reckon 104 = .ok (.goto 108, 3) := by decide +kernel
theorem dX3_reckon_107 : decode cX3_reckon 107 = .ok (.iload 6, 2) := by decide +kernel
theorem dX3_reckon_109 : decode cX3_reckon 109 = .ok (.bipush 38, 2) := by decide +kernel
theorem dX3_reckon_111 : decode cX3_reckon 111 = .ok (.if_icmp .eq 10, 3) := by decide +kernel
theorem dX3_reckon_114 : decode cX3_reckon 114 = .ok (.iload 6, 2) := by decide +kernel
theorem dX3_reckon_116 : decode cX3_reckon 116 = .ok (.bipush 12, 2) := by decide +kernel
theorem dX3_reckon_118 : decode cX3_reckon 118 = .ok (.if_icmp .ne 52, 3) := by decide +kernel
theorem dX3_reckon_121 : decode cX3_reckon 121 = .ok (.iload 4, 2) := by decide +kernel
theorem dX3_reckon_123 : decode cX3_reckon 123 = .ok (.iconst 1, 1) := by decide +kernel
theorem dX3_reckon_124 : decode cX3_reckon 124 = .ok (.if_icmp .lt 88, 3) := by decide +kernel
theorem dX3_reckon_127 : decode cX3_reckon 127 = .ok (.aload_n 0, 1) := by decide +kernel
theorem dX3_reckon_128 : decode cX3_reckon 128 = .ok (.getfield 15, 3) := by decide +kernel
theorem dX3_reckon_131 : decode cX3_reckon 131 = .ok (.iload 4, 2) := by decide +kernel
theorem dX3_reckon_133 : decode cX3_reckon 133 = .ok (.iconst 1, 1) := by decide +kernel
theorem dX3_reckon_134 : decode cX3_reckon 134 = .ok (.isub, 1) := by decide +kernel
theorem dX3_reckon_135 : decode cX3_reckon 135 = .ok (.iload 6, 2) := by decide +kernel
theorem dX3_reckon_137 : decode cX3_reckon 137 = .ok (.bipush 38, 2) := by decide +kernel
theorem dX3_reckon_139 : decode cX3_reckon 139 = .ok (.if_icmp .ne 16, 3) := by decide +kernel
theorem dX3_reckon_142 : decode cX3_reckon 142 = .ok (.aload_n 0, 1) := by decide +kernel
theorem dX3_reckon_143 : decode cX3_reckon 143 = .ok (.getfield 15, 3) := by decide +kernel
theorem dX3_reckon_146 : decode cX3_reckon 146 = .ok (.iload 4, 2) := by decide +kernel
theorem dX3_reckon_148 : decode cX3_reckon 148 = .ok (.iconst 1, 1) := by decide +kernel
theorem dX3_reckon_149 : decode cX3_reckon 149 = .ok (.isub, 1) := by decide +kernel
theorem dX3_reckon_150 : decode cX3_reckon 150 = .ok (.iaload, 1) := by decide +kernel
theorem dX3_reckon_151 : decode cX3_reckon 151 = .ok (.ineg, 1) := by decide +kernel
theorem dX3_reckon_152 : decode cX3_reckon 152 = .ok (.goto 14, 3) := by decide +kernel
theorem dX3_reckon_155 : decode cX3_reckon 155 = .ok (.iconst 1, 1) := by decide +kernel
theorem dX3_reckon_156 : decode cX3_reckon 156 = .ok (.aload_n 0, 1) := by decide +kernel
theorem dX3_reckon_157 : decode cX3_reckon 157 = .ok (.getfield 15, 3) := by decide +kernel
theorem dX3_reckon_160 : decode cX3_reckon 160 = .ok (.iload 4, 2) := by decide +kernel
theorem dX3_reckon_162 : decode cX3_reckon 162 = .ok (.iconst 1, 1) := by decide +kernel
theorem dX3_reckon_163 : decode cX3_reckon 163 = .ok (.isub, 1) := by decide +kernel
theorem dX3_reckon_164 : decode cX3_reckon 164 = .ok (.iaload, 1) := by decide +kernel
theorem dX3_reckon_165 : decode cX3_reckon 165 = .ok (.isub, 1) := by decide +kernel
theorem dX3_reckon_166 : decode cX3_reckon 166 = .ok (.iastore, 1) := by decide +kernel
theorem dX3_reckon_167 : decode cX3_reckon 167 = .ok (.goto 45, 3) := by decide +kernel
theorem dX3_reckon_170 : decode cX3_reckon 170 = .ok (.iload 4, 2) := by decide +kernel
theorem dX3_reckon_172 : decode cX3_reckon 172 = .ok (.iconst 2, 1) := by decide +kernel
theorem dX3_reckon_173 : decode cX3_reckon 173 = .ok (.if_icmp .lt 39, 3) := by decide +kernel
theorem dX3_reckon_176 : decode cX3_reckon 176 = .ok (.iinc 4 (-1), 3) := by decide +kernel
theorem dX3_reckon_179 : decode cX3_reckon 179 = .ok (.aload_n 0, 1) := by decide +kernel
theorem dX3_reckon_180 : decode cX3_reckon 180 = .ok (.getfield 15, 3) := by decide +kernel
theorem dX3_reckon_183 : decode cX3_reckon 183 = .ok (.iload 4, 2) := by decide +kernel
theorem dX3_reckon_185 : decode cX3_reckon 185 = .ok (.iconst 1, 1) := by decide +kernel
theorem dX3_reckon_186 : decode cX3_reckon 186 = .ok (.isub, 1) := by decide +kernel
theorem dX3_reckon_187 : decode cX3_reckon 187 = .ok (.iload 6, 2) := by decide +kernel
theorem dX3_reckon_189 : decode cX3_reckon 189 = .ok (.aload_n 0, 1) := by decide +kernel
theorem dX3_reckon_190 : decode cX3_reckon 190 = .ok (.getfield 15, 3) := by decide +kernel
theorem dX3_reckon_193 : decode cX3_reckon 193 = .ok (.iload 4, 2) := by decide +kernel
theorem dX3_reckon_195 : decode cX3_reckon 195 = .ok (.iconst 1, 1) := by decide +kernel
theorem dX3_reckon_196 : decode cX3_reckon 196 = .ok (.isub, 1) := by decide +kernel
theorem dX3_reckon_197 : decode cX3_reckon 197 = .ok (.iaload, 1) := by decide +kernel
theorem dX3_reckon_198 : decode cX3_reckon 198 = .ok (.aload_n 0, 1) := by decide +kernel
theorem dX3_reckon_199 : decode cX3_reckon 199 = .ok (.getfield 15, 3) := by decide +kernel
theorem dX3_reckon_202 : decode cX3_reckon 202 = .ok (.iload 4, 2) := by decide +kernel
theorem dX3_reckon_204 : decode cX3_reckon 204 = .ok (.iaload, 1) := by decide +kernel
theorem dX3_reckon_205 : decode cX3_reckon 205 = .ok (.invokestatic 24, 3) := by decide +kernel
theorem dX3_reckon_208 : decode cX3_reckon 208 = .ok (.invokestatic 28, 3) := by decide +kernel
theorem dX3_reckon_211 : decode cX3_reckon 211 = .ok (.iastore, 1) := by decide +kernel
theorem dX3_reckon_212 : decode cX3_reckon 212 = .ok (.iinc 5 1, 3) := by decide +kernel
theorem dX3_reckon_215 : decode cX3_reckon 215 = .ok (.goto (-205), 3) := by decide +kernel
theorem dX3_reckon_218 : decode cX3_reckon 218 = .ok (.iload 4, 2) := by decide +kernel
theorem dX3_reckon_220 : decode cX3_reckon 220 = .ok (.iconst 1, 1) := by decide +kernel
theorem dX3_reckon_221 : decode cX3_reckon 221 = .ok (.if_icmp .lt 15, 3) := by decide +kernel
theorem dX3_reckon_224 : decode cX3_reckon 224 = .ok (.aload_n 0, 1) := by decide +kernel
theorem dX3_reckon_225 : decode cX3_reckon 225 = .ok (.getfield 15, 3) := by decide +kernel
theorem dX3_reckon_228 : decode cX3_reckon 228 = .ok (.iload 4, 2) := by decide +kernel
theorem dX3_reckon_230 : decode cX3_reckon 230 = .ok (.iconst 1, 1) := by decide +kernel
theorem dX3_reckon_231 : decode cX3_reckon 231 = .ok (.isub, 1) := by decide +kernel
theorem dX3_reckon_232 : decode cX3_reckon 232 = .ok (.iaload, 1) := by decide +kernel
theorem dX3_reckon_233 : decode cX3_reckon 233 = .ok (.goto 4, 3) := by decide +kernel
theorem dX3_reckon_236 : decode cX3_reckon 236 = .ok (.iconst 0, 1) := by decide +kernel
theorem dX3_reckon_237 : decode cX3_reckon 237 = .ok (.ireturn, 1) := by decide +kernel
theorem dX3_within_0 : decode cX3_within 0 = .ok (.lload_n 0, 1) := by decide +kernel
theorem dX3_within_1 : decode cX3_within 1 = .ok (.ldc2_w 32, 3) := by decide +kernel
theorem dX3_within_4 : decode cX3_within 4 = .ok (.lcmp, 1) := by decide +kernel
theorem dX3_within_5 : decode cX3_within 5 = .ok (.ifCond .le 6, 3) := by decide +kernel
theorem dX3_within_8 : decode cX3_within 8 = .ok (.ldc 34, 2) := by decide +kernel
theorem dX3_within_10 : decode cX3_within 10 = .ok (.ireturn, 1) := by decide +kernel
theorem dX3_within_11 : decode cX3_within 11 = .ok (.lload_n 0, 1) := by decide +kernel
theorem dX3_within_12 : decode cX3_within 12 = .ok (.ldc2_w 35, 3) := by decide +kernel
theorem dX3_within_15 : decode cX3_within 15 = .ok (.lcmp, 1) := by decide +kernel
theorem dX3_within_16 : decode cX3_within 16 = .ok (.ifCond .ge 8, 3) := by decide +kernel
theorem dX3_within_19 : decode cX3_within 19 = .ok (.ldc 37, 2) := by decide +kernel
theorem dX3_within_21 : decode cX3_within 21 = .ok (.goto 5, 3) := by decide +kernel
theorem dX3_within_24 : decode cX3_within 24 = .ok (.lload_n 0, 1) := by decide +kernel
theorem dX3_within_25 : decode cX3_within 25 = .ok (.l2i, 1) := by decide +kernel
theorem dX3_within_26 : decode cX3_within 26 = .ok (.ireturn, 1) := by decide +kernel
theorem dX3_joined_0 : decode cX3_joined 0 = .ok (.iload_n 0, 1) := by decide +kernel
theorem dX3_joined_1 : decode cX3_joined 1 = .ok (.tableswitch 197 10 31 #[137, 132, 197, 197, 197, 197, 197, 197, 197, 197, 197, 197, 142, 153, 164, 175, 186, 197, 103, 108, 113, 119], 103) := by decide +kernel
theorem dX3_joined_104 : decode cX3_joined 104 = .ok (.iload_n 1, 1) := by decide +kernel
theorem dX3_joined_105 : decode cX3_joined 105 = .ok (.iload_n 2, 1) := by decide +kernel
theorem dX3_joined_106 : decode cX3_joined 106 = .ok (.iadd, 1) := by decide +kernel
theorem dX3_joined_107 : decode cX3_joined 107 = .ok (.i2l, 1) := by decide +kernel
theorem dX3_joined_108 : decode cX3_joined 108 = .ok (.lreturn, 1) := by decide +kernel
theorem dX3_joined_109 : decode cX3_joined 109 = .ok (.iload_n 1, 1) := by decide +kernel
theorem dX3_joined_110 : decode cX3_joined 110 = .ok (.iload_n 2, 1) := by decide +kernel
theorem dX3_joined_111 : decode cX3_joined 111 = .ok (.isub, 1) := by decide +kernel
theorem dX3_joined_112 : decode cX3_joined 112 = .ok (.i2l, 1) := by decide +kernel
theorem dX3_joined_113 : decode cX3_joined 113 = .ok (.lreturn, 1) := by decide +kernel
theorem dX3_joined_114 : decode cX3_joined 114 = .ok (.iload_n 1, 1) := by decide +kernel
theorem dX3_joined_115 : decode cX3_joined 115 = .ok (.i2l, 1) := by decide +kernel
theorem dX3_joined_116 : decode cX3_joined 116 = .ok (.iload_n 2, 1) := by decide +kernel
theorem dX3_joined_117 : decode cX3_joined 117 = .ok (.i2l, 1) := by decide +kernel
theorem dX3_joined_118 : decode cX3_joined 118 = .ok (.lmul, 1) := by decide +kernel
theorem dX3_joined_119 : decode cX3_joined 119 = .ok (.lreturn, 1) := by decide +kernel
theorem dX3_joined_120 : decode cX3_joined 120 = .ok (.iload_n 2, 1) := by decide +kernel
theorem dX3_joined_121 : decode cX3_joined 121 = .ok (.ifCond .ne 7, 3) := by decide +kernel
theorem dX3_joined_124 : decode cX3_joined 124 = .ok (.lconst 0, 1) := by decide +kernel
theorem dX3_joined_125 : decode cX3_joined 125 = .ok (.goto 7, 3) := by decide +kernel
theorem dX3_joined_128 : decode cX3_joined 128 = .ok (.iload_n 1, 1) := by decide +kernel
theorem dX3_joined_129 : decode cX3_joined 129 = .ok (.iload_n 2, 1) := by decide +kernel
theorem dX3_joined_130 : decode cX3_joined 130 = .ok (.idiv, 1) := by decide +kernel
theorem dX3_joined_131 : decode cX3_joined 131 = .ok (.i2l, 1) := by decide +kernel
theorem dX3_joined_132 : decode cX3_joined 132 = .ok (.lreturn, 1) := by decide +kernel
theorem dX3_joined_133 : decode cX3_joined 133 = .ok (.iload_n 1, 1) := by decide +kernel
theorem dX3_joined_134 : decode cX3_joined 134 = .ok (.iload_n 2, 1) := by decide +kernel
theorem dX3_joined_135 : decode cX3_joined 135 = .ok (.iand, 1) := by decide +kernel
theorem dX3_joined_136 : decode cX3_joined 136 = .ok (.i2l, 1) := by decide +kernel
theorem dX3_joined_137 : decode cX3_joined 137 = .ok (.lreturn, 1) := by decide +kernel
theorem dX3_joined_138 : decode cX3_joined 138 = .ok (.iload_n 1, 1) := by decide +kernel
theorem dX3_joined_139 : decode cX3_joined 139 = .ok (.iload_n 2, 1) := by decide +kernel
theorem dX3_joined_140 : decode cX3_joined 140 = .ok (.ior, 1) := by decide +kernel
theorem dX3_joined_141 : decode cX3_joined 141 = .ok (.i2l, 1) := by decide +kernel
theorem dX3_joined_142 : decode cX3_joined 142 = .ok (.lreturn, 1) := by decide +kernel
theorem dX3_joined_143 : decode cX3_joined 143 = .ok (.iload_n 1, 1) := by decide +kernel
theorem dX3_joined_144 : decode cX3_joined 144 = .ok (.iload_n 2, 1) := by decide +kernel
theorem dX3_joined_145 : decode cX3_joined 145 = .ok (.if_icmp .ge 7, 3) := by decide +kernel
theorem dX3_joined_148 : decode cX3_joined 148 = .ok (.lconst 1, 1) := by decide +kernel
theorem dX3_joined_149 : decode cX3_joined 149 = .ok (.goto 4, 3) := by decide +kernel
theorem dX3_joined_152 : decode cX3_joined 152 = .ok (.lconst 0, 1) := by decide +kernel
theorem dX3_joined_153 : decode cX3_joined 153 = .ok (.lreturn, 1) := by decide +kernel
theorem dX3_joined_154 : decode cX3_joined 154 = .ok (.iload_n 1, 1) := by decide +kernel
theorem dX3_joined_155 : decode cX3_joined 155 = .ok (.iload_n 2, 1) := by decide +kernel
theorem dX3_joined_156 : decode cX3_joined 156 = .ok (.if_icmp .gt 7, 3) := by decide +kernel
theorem dX3_joined_159 : decode cX3_joined 159 = .ok (.lconst 1, 1) := by decide +kernel
theorem dX3_joined_160 : decode cX3_joined 160 = .ok (.goto 4, 3) := by decide +kernel
theorem dX3_joined_163 : decode cX3_joined 163 = .ok (.lconst 0, 1) := by decide +kernel
theorem dX3_joined_164 : decode cX3_joined 164 = .ok (.lreturn, 1) := by decide +kernel
theorem dX3_joined_165 : decode cX3_joined 165 = .ok (.iload_n 1, 1) := by decide +kernel
theorem dX3_joined_166 : decode cX3_joined 166 = .ok (.iload_n 2, 1) := by decide +kernel
theorem dX3_joined_167 : decode cX3_joined 167 = .ok (.if_icmp .le 7, 3) := by decide +kernel
theorem dX3_joined_170 : decode cX3_joined 170 = .ok (.lconst 1, 1) := by decide +kernel
theorem dX3_joined_171 : decode cX3_joined 171 = .ok (.goto 4, 3) := by decide +kernel
theorem dX3_joined_174 : decode cX3_joined 174 = .ok (.lconst 0, 1) := by decide +kernel
theorem dX3_joined_175 : decode cX3_joined 175 = .ok (.lreturn, 1) := by decide +kernel
theorem dX3_joined_176 : decode cX3_joined 176 = .ok (.iload_n 1, 1) := by decide +kernel
theorem dX3_joined_177 : decode cX3_joined 177 = .ok (.iload_n 2, 1) := by decide +kernel
theorem dX3_joined_178 : decode cX3_joined 178 = .ok (.if_icmp .lt 7, 3) := by decide +kernel
theorem dX3_joined_181 : decode cX3_joined 181 = .ok (.lconst 1, 1) := by decide +kernel
theorem dX3_joined_182 : decode cX3_joined 182 = .ok (.goto 4, 3) := by decide +kernel
theorem dX3_joined_185 : decode cX3_joined 185 = .ok (.lconst 0, 1) := by decide +kernel
theorem dX3_joined_186 : decode cX3_joined 186 = .ok (.lreturn, 1) := by decide +kernel
theorem dX3_joined_187 : decode cX3_joined 187 = .ok (.iload_n 1, 1) := by decide +kernel
theorem dX3_joined_188 : decode cX3_joined 188 = .ok (.iload_n 2, 1) := by decide +kernel
theorem dX3_joined_189 : decode cX3_joined 189 = .ok (.if_icmp .ne 7, 3) := by decide +kernel
theorem dX3_joined_192 : decode cX3_joined 192 = .ok (.lconst 1, 1) := by decide +kernel
theorem dX3_joined_193 : decode cX3_joined 193 = .ok (.goto 4, 3) := by decide +kernel
theorem dX3_joined_196 : decode cX3_joined 196 = .ok (.lconst 0, 1) := by decide +kernel
theorem dX3_joined_197 : decode cX3_joined 197 = .ok (.lreturn, 1) := by decide +kernel
theorem dX3_joined_198 : decode cX3_joined 198 = .ok (.iload_n 1, 1) := by decide +kernel
theorem dX3_joined_199 : decode cX3_joined 199 = .ok (.iload_n 2, 1) := by decide +kernel
theorem dX3_joined_200 : decode cX3_joined 200 = .ok (.if_icmp .eq 7, 3) := by decide +kernel
theorem dX3_joined_203 : decode cX3_joined 203 = .ok (.lconst 1, 1) := by decide +kernel
theorem dX3_joined_204 : decode cX3_joined 204 = .ok (.goto 4, 3) := by decide +kernel
theorem dX3_joined_207 : decode cX3_joined 207 = .ok (.lconst 0, 1) := by decide +kernel
theorem dX3_joined_208 : decode cX3_joined 208 = .ok (.lreturn, 1) := by decide +kernel
theorem dX4_init_0 : decode cX4_init 0 = .ok (.aload_n 0, 1) := by decide +kernel
theorem dX4_init_1 : decode cX4_init 1 = .ok (.invokespecial 3, 3) := by decide +kernel
theorem dX4_init_4 : decode cX4_init 4 = .ok (.aload_n 0, 1) := by decide +kernel
theorem dX4_init_5 : decode cX4_init 5 = .ok (.iconst 0, 1) := by decide +kernel
theorem dX4_init_6 : decode cX4_init 6 = .ok (.putfield 9, 3) := by decide +kernel
theorem dX4_init_9 : decode cX4_init 9 = .ok (.aload_n 0, 1) := by decide +kernel
theorem dX4_init_10 : decode cX4_init 10 = .ok (.iconst 0, 1) := by decide +kernel
theorem dX4_init_11 : decode cX4_init 11 = .ok (.putfield 15, 3) := by decide +kernel
theorem dX4_init_14 : decode cX4_init 14 = .ok (.aload_n 0, 1) := by decide +kernel
theorem dX4_init_15 : decode cX4_init 15 = .ok (.iconst (-1), 1) := by decide +kernel
theorem dX4_init_16 : decode cX4_init 16 = .ok (.putfield 18, 3) := by decide +kernel
theorem dX4_init_19 : decode cX4_init 19 = .ok (.aload_n 0, 1) := by decide +kernel
theorem dX4_init_20 : decode cX4_init 20 = .ok (.iconst 0, 1) := by decide +kernel
theorem dX4_init_21 : decode cX4_init 21 = .ok (.putfield 21, 3) := by decide +kernel
theorem dX4_init_24 : decode cX4_init 24 = .ok (.aload_n 0, 1) := by decide +kernel
theorem dX4_init_25 : decode cX4_init 25 = .ok (.iconst 0, 1) := by decide +kernel
theorem dX4_init_26 : decode cX4_init 26 = .ok (.putfield 24, 3) := by decide +kernel
theorem dX4_init_29 : decode cX4_init 29 = .ok (.aload_n 0, 1) := by decide +kernel
theorem dX4_init_30 : decode cX4_init 30 = .ok (.iconst 0, 1) := by decide +kernel
theorem dX4_init_31 : decode cX4_init 31 = .ok (.putfield 27, 3) := by decide +kernel
theorem dX4_init_34 : decode cX4_init 34 = .ok (.aload_n 0, 1) := by decide +kernel
theorem dX4_init_35 : decode cX4_init 35 = .ok (.iconst 0, 1) := by decide +kernel
theorem dX4_init_36 : decode cX4_init 36 = .ok (.putfield 30, 3) := by decide +kernel
theorem dX4_init_39 : decode cX4_init 39 = .ok (.aload_n 0, 1) := by decide +kernel
theorem dX4_init_40 : decode cX4_init 40 = .ok (.iconst 3, 1) := by decide +kernel
theorem dX4_init_41 : decode cX4_init 41 = .ok (.newarray .int, 2) := by decide +kernel
theorem dX4_init_43 : decode cX4_init 43 = .ok (.putfield 33, 3) := by decide +kernel
theorem dX4_init_46 : decode cX4_init 46 = .ok (.aload_n 0, 1) := by decide +kernel
theorem dX4_init_47 : decode cX4_init 47 = .ok (.iconst 3, 1) := by decide +kernel
theorem dX4_init_48 : decode cX4_init 48 = .ok (.newarray .int, 2) := by decide +kernel
theorem dX4_init_50 : decode cX4_init 50 = .ok (.putfield 37, 3) := by decide +kernel
theorem dX4_init_53 : decode cX4_init 53 = .ok (.return_, 1) := by decide +kernel
theorem dX4_begin_0 : decode cX4_begin 0 = .ok (.aload_n 0, 1) := by decide +kernel
theorem dX4_begin_1 : decode cX4_begin 1 = .ok (.iload_n 1, 1) := by decide +kernel
theorem dX4_begin_2 : decode cX4_begin 2 = .ok (.putfield 9, 3) := by decide +kernel
theorem dX4_begin_5 : decode cX4_begin 5 = .ok (.aload_n 0, 1) := by decide +kernel
theorem dX4_begin_6 : decode cX4_begin 6 = .ok (.iload_n 2, 1) := by decide +kernel
theorem dX4_begin_7 : decode cX4_begin 7 = .ok (.putfield 15, 3) := by decide +kernel
theorem dX4_begin_10 : decode cX4_begin 10 = .ok (.aload_n 0, 1) := by decide +kernel
theorem dX4_begin_11 : decode cX4_begin 11 = .ok (.iload_n 3, 1) := by decide +kernel
theorem dX4_begin_12 : decode cX4_begin 12 = .ok (.putfield 18, 3) := by decide +kernel
theorem dX4_begin_15 : decode cX4_begin 15 = .ok (.aload_n 0, 1) := by decide +kernel
theorem dX4_begin_16 : decode cX4_begin 16 = .ok (.iload_n 3, 1) := by decide +kernel
theorem dX4_begin_17 : decode cX4_begin 17 = .ok (.iconst (-1), 1) := by decide +kernel
theorem dX4_begin_18 : decode cX4_begin 18 = .ok (.if_icmp .ne 8, 3) := by decide +kernel
theorem dX4_begin_21 : decode cX4_begin 21 = .ok (.iload 4, 2) := by decide +kernel
theorem dX4_begin_23 : decode cX4_begin 23 = .ok (.goto 7, 3) := by decide +kernel
theorem dX4_begin_26 : decode cX4_begin 26 = .ok (.iload 4, 2) := by decide +kernel
theorem dX4_begin_28 : decode cX4_begin 28 = .ok (.iconst 1, 1) := by decide +kernel
theorem dX4_begin_29 : decode cX4_begin 29 = .ok (.isub, 1) := by decide +kernel
theorem dX4_begin_30 : decode cX4_begin 30 = .ok (.putfield 21, 3) := by decide +kernel
theorem dX4_begin_33 : decode cX4_begin 33 = .ok (.aload_n 0, 1) := by decide +kernel
theorem dX4_begin_34 : decode cX4_begin 34 = .ok (.iload_n 3, 1) := by decide +kernel
theorem dX4_begin_35 : decode cX4_begin 35 = .ok (.ifCond .ne 7, 3) := by decide +kernel
theorem dX4_begin_38 : decode cX4_begin 38 = .ok (.iconst 1, 1) := by decide +kernel
theorem dX4_begin_39 : decode cX4_begin 39 = .ok (.goto 4, 3) := by decide +kernel
theorem dX4_begin_42 : decode cX4_begin 42 = .ok (.iconst 0, 1) := by decide +kernel
theorem dX4_begin_43 : decode cX4_begin 43 = .ok (.putfield 24, 3) := by decide +kernel
theorem dX4_begin_46 : decode cX4_begin 46 = .ok (.aload_n 0, 1) := by decide +kernel
theorem dX4_begin_47 : decode cX4_begin 47 = .ok (.iconst 0, 1) := by decide +kernel
theorem dX4_begin_48 : decode cX4_begin 48 = .ok (.putfield 27, 3) := by decide +kernel
theorem dX4_begin_51 : decode cX4_begin 51 = .ok (.aload_n 0, 1) := by decide +kernel
theorem dX4_begin_52 : decode cX4_begin 52 = .ok (.bipush 63, 2) := by decide +kernel
theorem dX4_begin_54 : decode cX4_begin 54 = .ok (.putfield 30, 3) := by decide +kernel
theorem dX4_begin_57 : decode cX4_begin 57 = .ok (.return_, 1) := by decide +kernel
theorem dX4_found_0 : decode cX4_found 0 = .ok (.aload_n 0, 1) := by decide +kernel
theorem dX4_found_1 : decode cX4_found 1 = .ok (.getfield 27, 3) := by decide +kernel
theorem dX4_found_4 : decode cX4_found 4 = .ok (.ifCond .ne 17, 3) := by decide +kernel
theorem dX4_found_7 : decode cX4_found 7 = .ok (.aload_n 0, 1) := by decide +kernel
theorem dX4_found_8 : decode cX4_found 8 = .ok (.getfield 33, 3) := by decide +kernel
theorem dX4_found_11 : decode cX4_found 11 = .ok (.iconst 0, 1) := by decide +kernel
theorem dX4_found_12 : decode cX4_found 12 = .ok (.aload_n 0, 1) := by decide +kernel
theorem dX4_found_13 : decode cX4_found 13 = .ok (.getfield 37, 3) := by decide +kernel
theorem dX4_found_16 : decode cX4_found 16 = .ok (.iconst 0, 1) := by decide +kernel
theorem dX4_found_17 : decode cX4_found 17 = .ok (.iconst 3, 1) := by decide +kernel
theorem dX4_found_18 : decode cX4_found 18 = .ok (.invokestatic 40, 3) := by decide +kernel
theorem dX4_found_21 : decode cX4_found 21 = .ok (.aload_n 0, 1) := by decide +kernel
theorem dX4_found_22 : decode cX4_found 22 = .ok (.dup, 1) := by decide +kernel
theorem dX4_found_23 : decode cX4_found 23 = .ok (.getfield 27, 3) := by decide +kernel
theorem dX4_found_26 : decode cX4_found 26 = .ok (.iload_n 1, 1) := by decide +kernel
theorem dX4_found_27 : decode cX4_found 27 = .ok (.iadd, 1) := by decide +kernel
theorem dX4_found_28 : decode cX4_found 28 = .ok (.putfield 27, 3) := by decide +kernel
theorem dX4_found_31 : decode cX4_found 31 = .ok (.iload_n 2, 1) := by decide +kernel
theorem dX4_found_32 : decode cX4_found 32 = .ok (.iconst 1, 1) := by decide +kernel
theorem dX4_found_33 : decode cX4_found 33 = .ok (.iand, 1) := by decide +kernel
theorem dX4_found_34 : decode cX4_found 34 = .ok (.iconst 1, 1) := by decide +kernel
theorem dX4_found_35 : decode cX4_found 35 = .ok (.if_icmp .ne 12, 3) := by decide +kernel
theorem dX4_found_38 : decode cX4_found 38 = .ok (.iconst 1, 1) := by decide +kernel
theorem dX4_found_39 : decode cX4_found 39 = .ok (.aload_n 0, 1) := by decide +kernel
theorem dX4_found_40 : decode cX4_found 40 = .ok (.getfield 18, 3) := by decide +kernel
theorem dX4_found_43 : decode cX4_found 43 = .ok (.ishl, 1) := by decide +kernel
theorem dX4_found_44 : decode cX4_found 44 = .ok (.goto 4, 3) := by decide +kernel
theorem dX4_found_47 : decode cX4_found 47 = .ok (.iconst 0, 1) := by decide +kernel
theorem dX4_found_48 : decode cX4_found 48 = .ok (.istore_n 3, 1) := by decide +kernel
theorem dX4_found_49 : decode cX4_found 49 = .ok (.iload_n 2, 1) := by decide +kernel
theorem dX4_found_50 : decode cX4_found 50 = .ok (.iconst 2, 1) := by decide +kernel
theorem dX4_found_51 : decode cX4_found 51 = .ok (.iand, 1) := by decide +kernel
theorem dX4_found_52 : decode cX4_found 52 = .ok (.iconst 2, 1) := by decide +kernel
theorem dX4_found_53 : decode cX4_found 53 = .ok (.if_icmp .ne 20, 3) := by decide +kernel
theorem dX4_found_56 : decode cX4_found 56 = .ok (.aload_n 0, 1) := by decide +kernel
theorem dX4_found_57 : decode cX4_found 57 = .ok (.getfield 21, 3) := by decide +kernel
theorem dX4_found_60 : decode cX4_found 60 = .ok (.iconst 1, 1) := by decide +kernel
theorem dX4_found_61 : decode cX4_found 61 = .ok (.if_icmp .ne 12, 3) := by decide +kernel
theorem dX4_found_64 : decode cX4_found 64 = .ok (.iload_n 3, 1) := by decide +kernel
theorem dX4_found_65 : decode cX4_found 65 = .ok (.iconst 1, 1) := by decide +kernel
theorem dX4_found_66 : decode cX4_found 66 = .ok (.aload_n 0, 1) := by decide +kernel
theorem dX4_found_67 : decode cX4_found 67 = .ok (.getfield 24, 3) := by decide +kernel
theorem dX4_found_70 : decode cX4_found 70 = .ok (.ishl, 1) := by decide +kernel
theorem dX4_found_71 : decode cX4_found 71 = .ok (.ior, 1) := by decide +kernel
theorem dX4_found_72 : decode cX4_found 72 = .ok (.istore_n 3, 1) := by decide +kernel
theorem dX4_found_73 : decode cX4_found 73 = .ok (.aload_n 0, 1) := by decide +kernel
theorem dX4_found_74 : decode cX4_found 74 = .ok (.dup, 1) := by decide +kernel
theorem dX4_found_75 : decode cX4_found 75 = .ok (.getfield 30, 3) := by decide +kernel
theorem dX4_found_78 : decode cX4_found 78 = .ok (.iload_n 3, 1) := by decide +kernel
theorem dX4_found_79 : decode cX4_found 79 = .ok (.iand, 1) := by decide +kernel
theorem dX4_found_80 : decode cX4_found 80 = .ok (.putfield 30, 3) := by decide +kernel
theorem dX4_found_83 : decode cX4_found 83 = .ok (.return_, 1) := by decide +kernel
theorem dX5_init_0 : decode cX5_init 0 = .ok (.aload_n 0, 1) := by decide +kernel
theorem dX5_init_1 : decode cX5_init 1 = .ok (.invokespecial 3, 3) := by decide +kernel
theorem dX5_init_4 : decode cX5_init 4 = .ok (.aload_n 0, 1) := by decide +kernel
theorem dX5_init_5 : decode cX5_init 5 = .ok (.iconst 0, 1) := by decide +kernel
theorem dX5_init_6 : decode cX5_init 6 = .ok (.putfield 9, 3) := by decide +kernel
theorem dX5_init_9 : decode cX5_init 9 = .ok (.aload_n 0, 1) := by decide +kernel
theorem dX5_init_10 : decode cX5_init 10 = .ok (.bipush 24, 2) := by decide +kernel
theorem dX5_init_12 : decode cX5_init 12 = .ok (.newarray .int, 2) := by decide +kernel
theorem dX5_init_14 : decode cX5_init 14 = .ok (.putfield 15, 3) := by decide +kernel
theorem dX5_init_17 : decode cX5_init 17 = .ok (.aload_n 0, 1) := by decide +kernel
theorem dX5_init_18 : decode cX5_init 18 = .ok (.bipush 24, 2) := by decide +kernel
theorem dX5_init_20 : decode cX5_init 20 = .ok (.newarray .int, 2) := by decide +kernel
theorem dX5_init_22 : decode cX5_init 22 = .ok (.putfield 19, 3) := by decide +kernel
theorem dX5_init_25 : decode cX5_init 25 = .ok (.aload_n 0, 1) := by decide +kernel
theorem dX5_init_26 : decode cX5_init 26 = .ok (.bipush 24, 2) := by decide +kernel
theorem dX5_init_28 : decode cX5_init 28 = .ok (.newarray .int, 2) := by decide +kernel
theorem dX5_init_30 : decode cX5_init 30 = .ok (.putfield 22, 3) := by decide +kernel
theorem dX5_init_33 : decode cX5_init 33 = .ok (.aload_n 0, 1) := by decide +kernel
theorem dX5_init_34 : decode cX5_init 34 = .ok (.sipush 300, 3) := by decide +kernel
theorem dX5_init_37 : decode cX5_init 37 = .ok (.newarray .int, 2) := by decide +kernel
theorem dX5_init_39 : decode cX5_init 39 = .ok (.putfield 25, 3) := by decide +kernel
theorem dX5_init_42 : decode cX5_init 42 = .ok (.aload_n 0, 1) := by decide +kernel
theorem dX5_init_43 : decode cX5_init 43 = .ok (.iconst 0, 1) := by decide +kernel
theorem dX5_init_44 : decode cX5_init 44 = .ok (.putfield 28, 3) := by decide +kernel
theorem dX5_init_47 : decode cX5_init 47 = .ok (.aload_n 0, 1) := by decide +kernel
theorem dX5_init_48 : decode cX5_init 48 = .ok (.iconst (-1), 1) := by decide +kernel
theorem dX5_init_49 : decode cX5_init 49 = .ok (.putfield 31, 3) := by decide +kernel
theorem dX5_init_52 : decode cX5_init 52 = .ok (.aload_n 0, 1) := by decide +kernel
theorem dX5_init_53 : decode cX5_init 53 = .ok (.iconst (-1), 1) := by decide +kernel
theorem dX5_init_54 : decode cX5_init 54 = .ok (.putfield 34, 3) := by decide +kernel
theorem dX5_init_57 : decode cX5_init 57 = .ok (.aload_n 0, 1) := by decide +kernel
theorem dX5_init_58 : decode cX5_init 58 = .ok (.iconst (-1), 1) := by decide +kernel
theorem dX5_init_59 : decode cX5_init 59 = .ok (.putfield 37, 3) := by decide +kernel
theorem dX5_init_62 : decode cX5_init 62 = .ok (.aload_n 0, 1) := by decide +kernel
theorem dX5_init_63 : decode cX5_init 63 = .ok (.iconst (-1), 1) := by decide +kernel
theorem dX5_init_64 : decode cX5_init 64 = .ok (.putfield 40, 3) := by decide +kernel
theorem dX5_init_67 : decode cX5_init 67 = .ok (.return_, 1) := by decide +kernel
theorem dX5_clear_0 : decode cX5_clear 0 = .ok (.aload_n 0, 1) := by decide +kernel
theorem dX5_clear_1 : decode cX5_clear 1 = .ok (.iconst 0, 1) := by decide +kernel
theorem dX5_clear_2 : decode cX5_clear 2 = .ok (.putfield 9, 3) := by decide +kernel
theorem dX5_clear_5 : decode cX5_clear 5 = .ok (.aload_n 0, 1) := by decide +kernel
theorem dX5_clear_6 : decode cX5_clear 6 = .ok (.iconst 0, 1) := by decide +kernel
theorem dX5_clear_7 : decode cX5_clear 7 = .ok (.putfield 28, 3) := by decide +kernel
theorem dX5_clear_10 : decode cX5_clear 10 = .ok (.aload_n 0, 1) := by decide +kernel
theorem dX5_clear_11 : decode cX5_clear 11 = .ok (.iconst (-1), 1) := by decide +kernel
theorem dX5_clear_12 : decode cX5_clear 12 = .ok (.putfield 31, 3) := by decide +kernel
theorem dX5_clear_15 : decode cX5_clear 15 = .ok (.aload_n 0, 1) := by decide +kernel
theorem dX5_clear_16 : decode cX5_clear 16 = .ok (.iconst (-1), 1) := by decide +kernel
theorem dX5_clear_17 : decode cX5_clear 17 = .ok (.putfield 37, 3) := by decide +kernel
theorem dX5_clear_20 : decode cX5_clear 20 = .ok (.return_, 1) := by decide +kernel
theorem dX5_isDeed_0 : decode cX5_isDeed 0 = .ok (.aload_n 0, 1) := by decide +kernel
theorem dX5_isDeed_1 : decode cX5_isDeed 1 = .ok (.getfield 15, 3) := by decide +kernel
theorem dX5_isDeed_4 : decode cX5_isDeed 4 = .ok (.iload_n 1, 1) := by decide +kernel
theorem dX5_isDeed_5 : decode cX5_isDeed 5 = .ok (.iaload, 1) := by decide +kernel
theorem dX5_isDeed_6 : decode cX5_isDeed 6 = .ok (.ifCond .eq 17, 3) := by decide +kernel
theorem dX5_isDeed_9 : decode cX5_isDeed 9 = .ok (.aload_n 0, 1) := by decide +kernel
theorem dX5_isDeed_10 : decode cX5_isDeed 10 = .ok (.getfield 15, 3) := by decide +kernel
theorem dX5_isDeed_13 : decode cX5_isDeed 13 = .ok (.iload_n 1, 1) := by decide +kernel
theorem dX5_isDeed_14 : decode cX5_isDeed 14 = .ok (.iaload, 1) := by decide +kernel
theorem dX5_isDeed_15 : decode cX5_isDeed 15 = .ok (.iconst 1, 1) := by decide +kernel
theorem dX5_isDeed_16 : decode cX5_isDeed 16 = .ok (.if_icmp .eq 7, 3) := by decide +kernel
theorem dX5_isDeed_19 : decode cX5_isDeed 19 = .ok (.iconst 1, 1) := by decide +kernel
theorem dX5_isDeed_20 : decode cX5_isDeed 20 = .ok (.goto 4, 3) := by decide +kernel
theorem dX5_isDeed_23 : decode cX5_isDeed 23 = .ok (.iconst 0, 1) := by decide +kernel
theorem dX5_isDeed_24 : decode cX5_isDeed 24 = .ok (.ireturn, 1) := by decide +kernel
theorem dX5_addClause_0 : decode cX5_addClause 0 = .ok (.aload_n 0, 1) := by decide +kernel
theorem dX5_addClause_1 : decode cX5_addClause 1 = .ok (.getfield 9, 3) := by decide +kernel
theorem dX5_addClause_4 : decode cX5_addClause 4 = .ok (.bipush 24, 2) := by decide +kernel
theorem dX5_addClause_6 : decode cX5_addClause 6 = .ok (.if_icmp .ge 43, 3) := by decide +kernel
theorem dX5_addClause_9 : decode cX5_addClause 9 = .ok (.aload_n 0, 1) := by decide +kernel
theorem dX5_addClause_10 : decode cX5_addClause 10 = .ok (.getfield 15, 3) := by decide +kernel
theorem dX5_addClause_13 : decode cX5_addClause 13 = .ok (.aload_n 0, 1) := by decide +kernel
theorem dX5_addClause_14 : decode cX5_addClause 14 = .ok (.getfield 9, 3) := by decide +kernel
theorem dX5_addClause_17 : decode cX5_addClause 17 = .ok (.iload_n 1, 1) := by decide +kernel
theorem dX5_addClause_18 : decode cX5_addClause 18 = .ok (.iastore, 1) := by decide +kernel
theorem dX5_addClause_19 : decode cX5_addClause 19 = .ok (.aload_n 0, 1) := by decide +kernel
theorem dX5_addClause_20 : decode cX5_addClause 20 = .ok (.getfield 19, 3) := by decide +kernel
theorem dX5_addClause_23 : decode cX5_addClause 23 = .ok (.aload_n 0, 1) := by decide +kernel
theorem dX5_addClause_24 : decode cX5_addClause 24 = .ok (.getfield 9, 3) := by decide +kernel
theorem dX5_addClause_27 : decode cX5_addClause 27 = .ok (.iload_n 2, 1) := by decide +kernel
theorem dX5_addClause_28 : decode cX5_addClause 28 = .ok (.iastore, 1) := by decide +kernel
theorem dX5_addClause_29 : decode cX5_addClause 29 = .ok (.aload_n 0, 1) := by decide +kernel
theorem dX5_addClause_30 : decode cX5_addClause 30 = .ok (.getfield 22, 3) := by decide +kernel
theorem dX5_addClause_33 : decode cX5_addClause 33 = .ok (.aload_n 0, 1) := by decide +kernel
theorem dX5_addClause_34 : decode cX5_addClause 34 = .ok (.getfield 9, 3) := by decide +kernel
theorem dX5_addClause_37 : decode cX5_addClause 37 = .ok (.iload_n 3, 1) := by decide +kernel
theorem dX5_addClause_38 : decode cX5_addClause 38 = .ok (.iastore, 1) := by decide +kernel
theorem dX5_addClause_39 : decode cX5_addClause 39 = .ok (.aload_n 0, 1) := by decide +kernel
theorem dX5_addClause_40 : decode cX5_addClause 40 = .ok (.dup, 1) := by decide +kernel
theorem dX5_addClause_41 : decode cX5_addClause 41 = .ok (.getfield 9, 3) := by decide +kernel
theorem dX5_addClause_44 : decode cX5_addClause 44 = .ok (.iconst 1, 1) := by decide +kernel
theorem dX5_addClause_45 : decode cX5_addClause 45 = .ok (.iadd, 1) := by decide +kernel
theorem dX5_addClause_46 : decode cX5_addClause 46 = .ok (.putfield 9, 3) := by decide +kernel
theorem dX5_addClause_49 : decode cX5_addClause 49 = .ok (.return_, 1) := by decide +kernel
theorem dX5_addNumber_0 : decode cX5_addNumber 0 = .ok (.aload_n 0, 1) := by decide +kernel
theorem dX5_addNumber_1 : decode cX5_addNumber 1 = .ok (.getfield 28, 3) := by decide +kernel
theorem dX5_addNumber_4 : decode cX5_addNumber 4 = .ok (.sipush 300, 3) := by decide +kernel
theorem dX5_addNumber_7 : decode cX5_addNumber 7 = .ok (.if_icmp .ge 23, 3) := by decide +kernel
theorem dX5_addNumber_10 : decode cX5_addNumber 10 = .ok (.aload_n 0, 1) := by decide +kernel
theorem dX5_addNumber_11 : decode cX5_addNumber 11 = .ok (.getfield 25, 3) := by decide +kernel
theorem dX5_addNumber_14 : decode cX5_addNumber 14 = .ok (.aload_n 0, 1) := by decide +kernel
theorem dX5_addNumber_15 : decode cX5_addNumber 15 = .ok (.getfield 28, 3) := by decide +kernel
theorem dX5_addNumber_18 : decode cX5_addNumber 18 = .ok (.iload_n 1, 1) := by decide +kernel
theorem dX5_addNumber_19 : decode cX5_addNumber 19 = .ok (.iastore, 1) := by decide +kernel
theorem dX5_addNumber_20 : decode cX5_addNumber 20 = .ok (.aload_n 0, 1) := by decide +kernel
theorem dX5_addNumber_21 : decode cX5_addNumber 21 = .ok (.dup, 1) := by decide +kernel
theorem dX5_addNumber_22 : decode cX5_addNumber 22 = .ok (.getfield 28, 3) := by decide +kernel
theorem dX5_addNumber_25 : decode cX5_addNumber 25 = .ok (.iconst 1, 1) := by decide +kernel
theorem dX5_addNumber_26 : decode cX5_addNumber 26 = .ok (.iadd, 1) := by decide +kernel
theorem dX5_addNumber_27 : decode cX5_addNumber 27 = .ok (.putfield 28, 3) := by decide +kernel
theorem dX5_addNumber_30 : decode cX5_addNumber 30 = .ok (.return_, 1) := by decide +kernel
theorem dX5_addSign_0 : decode cX5_addSign 0 = .ok (.aload_n 0, 1) := by decide +kernel
theorem dX5_addSign_1 : decode cX5_addSign 1 = .ok (.iconst (-1), 1) := by decide +kernel
theorem dX5_addSign_2 : decode cX5_addSign 2 = .ok (.iload_n 1, 1) := by decide +kernel
theorem dX5_addSign_3 : decode cX5_addSign 3 = .ok (.isub, 1) := by decide +kernel
theorem dX5_addSign_4 : decode cX5_addSign 4 = .ok (.invokevirtual 43, 3) := by decide +kernel
theorem dX5_addSign_7 : decode cX5_addSign 7 = .ok (.return_, 1) := by decide +kernel
theorem dX6_init_0 : decode cX6_init 0 = .ok (.aload_n 0, 1) := by decide +kernel
theorem dX6_init_1 : decode cX6_init 1 = .ok (.invokespecial 3, 3) := by decide +kernel
theorem dX6_init_4 : decode cX6_init 4 = .ok (.aload_n 0, 1) := by decide +kernel
theorem dX6_init_5 : decode cX6_init 5 = .ok (.iconst 0, 1) := by decide +kernel
theorem dX6_init_6 : decode cX6_init 6 = .ok (.putfield 9, 3) := by decide +kernel
theorem dX6_init_9 : decode cX6_init 9 = .ok (.aload_n 0, 1) := by decide +kernel
theorem dX6_init_10 : decode cX6_init 10 = .ok (.bipush 8, 2) := by decide +kernel
theorem dX6_init_12 : decode cX6_init 12 = .ok (.newarray .int, 2) := by decide +kernel
theorem dX6_init_14 : decode cX6_init 14 = .ok (.putfield 15, 3) := by decide +kernel
theorem dX6_init_17 : decode cX6_init 17 = .ok (.aload_n 0, 1) := by decide +kernel
theorem dX6_init_18 : decode cX6_init 18 = .ok (.iconst 0, 1) := by decide +kernel
theorem dX6_init_19 : decode cX6_init 19 = .ok (.putfield 19, 3) := by decide +kernel
theorem dX6_init_22 : decode cX6_init 22 = .ok (.aload_n 0, 1) := by decide +kernel
theorem dX6_init_23 : decode cX6_init 23 = .ok (.bipush 8, 2) := by decide +kernel
theorem dX6_init_25 : decode cX6_init 25 = .ok (.newarray .int, 2) := by decide +kernel
theorem dX6_init_27 : decode cX6_init 27 = .ok (.putfield 22, 3) := by decide +kernel
theorem dX6_init_30 : decode cX6_init 30 = .ok (.aload_n 0, 1) := by decide +kernel
theorem dX6_init_31 : decode cX6_init 31 = .ok (.bipush 8, 2) := by decide +kernel
theorem dX6_init_33 : decode cX6_init 33 = .ok (.newarray .int, 2) := by decide +kernel
theorem dX6_init_35 : decode cX6_init 35 = .ok (.putfield 25, 3) := by decide +kernel
theorem dX6_init_38 : decode cX6_init 38 = .ok (.aload_n 0, 1) := by decide +kernel
theorem dX6_init_39 : decode cX6_init 39 = .ok (.iconst 0, 1) := by decide +kernel
theorem dX6_init_40 : decode cX6_init 40 = .ok (.putfield 28, 3) := by decide +kernel
theorem dX6_init_43 : decode cX6_init 43 = .ok (.aload_n 0, 1) := by decide +kernel
theorem dX6_init_44 : decode cX6_init 44 = .ok (.iconst (-1), 1) := by decide +kernel
theorem dX6_init_45 : decode cX6_init 45 = .ok (.putfield 31, 3) := by decide +kernel
theorem dX6_init_48 : decode cX6_init 48 = .ok (.aload_n 0, 1) := by decide +kernel
theorem dX6_init_49 : decode cX6_init 49 = .ok (.iconst 0, 1) := by decide +kernel
theorem dX6_init_50 : decode cX6_init 50 = .ok (.putfield 34, 3) := by decide +kernel
theorem dX6_init_53 : decode cX6_init 53 = .ok (.aload_n 0, 1) := by decide +kernel
theorem dX6_init_54 : decode cX6_init 54 = .ok (.iconst 0, 1) := by decide +kernel
theorem dX6_init_55 : decode cX6_init 55 = .ok (.putfield 37, 3) := by decide +kernel
theorem dX6_init_58 : decode cX6_init 58 = .ok (.aload_n 0, 1) := by decide +kernel
theorem dX6_init_59 : decode cX6_init 59 = .ok (.new 40, 3) := by decide +kernel
theorem dX6_init_62 : decode cX6_init 62 = .ok (.dup, 1) := by decide +kernel
theorem dX6_init_63 : decode cX6_init 63 = .ok (.invokespecial 42, 3) := by decide +kernel
theorem dX6_init_66 : decode cX6_init 66 = .ok (.putfield 43, 3) := by decide +kernel
theorem dX6_init_69 : decode cX6_init 69 = .ok (.aload_n 0, 1) := by decide +kernel
theorem dX6_init_70 : decode cX6_init 70 = .ok (.new 47, 3) := by decide +kernel
theorem dX6_init_73 : decode cX6_init 73 = .ok (.dup, 1) := by decide +kernel
theorem dX6_init_74 : decode cX6_init 74 = .ok (.invokespecial 49, 3) := by decide +kernel
theorem dX6_init_77 : decode cX6_init 77 = .ok (.putfield 50, 3) := by decide +kernel
theorem dX6_init_80 : decode cX6_init 80 = .ok (.return_, 1) := by decide +kernel
theorem dX6_copyFrom_0 : decode cX6_copyFrom 0 = .ok (.aload_n 0, 1) := by decide +kernel
theorem dX6_copyFrom_1 : decode cX6_copyFrom 1 = .ok (.aload_n 1, 1) := by decide +kernel
theorem dX6_copyFrom_2 : decode cX6_copyFrom 2 = .ok (.getfield 9, 3) := by decide +kernel
theorem dX6_copyFrom_5 : decode cX6_copyFrom 5 = .ok (.putfield 9, 3) := by decide +kernel
theorem dX6_copyFrom_8 : decode cX6_copyFrom 8 = .ok (.aload_n 1, 1) := by decide +kernel
theorem dX6_copyFrom_9 : decode cX6_copyFrom 9 = .ok (.getfield 15, 3) := by decide +kernel
theorem dX6_copyFrom_12 : decode cX6_copyFrom 12 = .ok (.iconst 0, 1) := by decide +kernel
theorem dX6_copyFrom_13 : decode cX6_copyFrom 13 = .ok (.aload_n 0, 1) := by decide +kernel
theorem dX6_copyFrom_14 : decode cX6_copyFrom 14 = .ok (.getfield 15, 3) := by decide +kernel
theorem dX6_copyFrom_17 : decode cX6_copyFrom 17 = .ok (.iconst 0, 1) := by decide +kernel
theorem dX6_copyFrom_18 : decode cX6_copyFrom 18 = .ok (.bipush 8, 2) := by decide +kernel
theorem dX6_copyFrom_20 : decode cX6_copyFrom 20 = .ok (.invokestatic 54, 3) := by decide +kernel
theorem dX6_copyFrom_23 : decode cX6_copyFrom 23 = .ok (.aload_n 0, 1) := by decide +kernel
theorem dX6_copyFrom_24 : decode cX6_copyFrom 24 = .ok (.aload_n 1, 1) := by decide +kernel
theorem dX6_copyFrom_25 : decode cX6_copyFrom 25 = .ok (.getfield 19, 3) := by decide +kernel
theorem dX6_copyFrom_28 : decode cX6_copyFrom 28 = .ok (.putfield 19, 3) := by decide +kernel
theorem dX6_copyFrom_31 : decode cX6_copyFrom 31 = .ok (.aload_n 1, 1) := by decide +kernel
theorem dX6_copyFrom_32 : decode cX6_copyFrom 32 = .ok (.getfield 22, 3) := by decide +kernel
theorem dX6_copyFrom_35 : decode cX6_copyFrom 35 = .ok (.iconst 0, 1) := by decide +kernel
theorem dX6_copyFrom_36 : decode cX6_copyFrom 36 = .ok (.aload_n 0, 1) := by decide +kernel
theorem dX6_copyFrom_37 : decode cX6_copyFrom 37 = .ok (.getfield 22, 3) := by decide +kernel
theorem dX6_copyFrom_40 : decode cX6_copyFrom 40 = .ok (.iconst 0, 1) := by decide +kernel
theorem dX6_copyFrom_41 : decode cX6_copyFrom 41 = .ok (.bipush 8, 2) := by decide +kernel
theorem dX6_copyFrom_43 : decode cX6_copyFrom 43 = .ok (.invokestatic 54, 3) := by decide +kernel
theorem dX6_copyFrom_46 : decode cX6_copyFrom 46 = .ok (.aload_n 1, 1) := by decide +kernel
theorem dX6_copyFrom_47 : decode cX6_copyFrom 47 = .ok (.getfield 25, 3) := by decide +kernel
theorem dX6_copyFrom_50 : decode cX6_copyFrom 50 = .ok (.iconst 0, 1) := by decide +kernel
theorem dX6_copyFrom_51 : decode cX6_copyFrom 51 = .ok (.aload_n 0, 1) := by decide +kernel
theorem dX6_copyFrom_52 : decode cX6_copyFrom 52 = .ok (.getfield 25, 3) := by decide +kernel
theorem dX6_copyFrom_55 : decode cX6_copyFrom 55 = .ok (.iconst 0, 1) := by decide +kernel
theorem dX6_copyFrom_56 : decode cX6_copyFrom 56 = .ok (.bipush 8, 2) := by decide +kernel
theorem dX6_copyFrom_58 : decode cX6_copyFrom 58 = .ok (.invokestatic 54, 3) := by decide +kernel
theorem dX6_copyFrom_61 : decode cX6_copyFrom 61 = .ok (.aload_n 0, 1) := by decide +kernel
theorem dX6_copyFrom_62 : decode cX6_copyFrom 62 = .ok (.aload_n 1, 1) := by decide +kernel
theorem dX6_copyFrom_63 : decode cX6_copyFrom 63 = .ok (.getfield 28, 3) := by decide +kernel
theorem dX6_copyFrom_66 : decode cX6_copyFrom 66 = .ok (.putfield 28, 3) := by decide +kernel
theorem dX6_copyFrom_69 : decode cX6_copyFrom 69 = .ok (.aload_n 0, 1) := by decide +kernel
theorem dX6_copyFrom_70 : decode cX6_copyFrom 70 = .ok (.aload_n 1, 1) := by decide +kernel
theorem dX6_copyFrom_71 : decode cX6_copyFrom 71 = .ok (.getfield 31, 3) := by decide +kernel
theorem dX6_copyFrom_74 : decode cX6_copyFrom 74 = .ok (.putfield 31, 3) := by decide +kernel
theorem dX6_copyFrom_77 : decode cX6_copyFrom 77 = .ok (.aload_n 0, 1) := by decide +kernel
theorem dX6_copyFrom_78 : decode cX6_copyFrom 78 = .ok (.aload_n 1, 1) := by decide +kernel
theorem dX6_copyFrom_79 : decode cX6_copyFrom 79 = .ok (.getfield 34, 3) := by decide +kernel
theorem dX6_copyFrom_82 : decode cX6_copyFrom 82 = .ok (.putfield 34, 3) := by decide +kernel
theorem dX6_copyFrom_85 : decode cX6_copyFrom 85 = .ok (.aload_n 0, 1) := by decide +kernel
theorem dX6_copyFrom_86 : decode cX6_copyFrom 86 = .ok (.aload_n 1, 1) := by decide +kernel
theorem dX6_copyFrom_87 : decode cX6_copyFrom 87 = .ok (.getfield 37, 3) := by decide +kernel
theorem dX6_copyFrom_90 : decode cX6_copyFrom 90 = .ok (.putfield 37, 3) := by decide +kernel
theorem dX6_copyFrom_93 : decode cX6_copyFrom 93 = .ok (.aload_n 0, 1) := by decide +kernel
theorem dX6_copyFrom_94 : decode cX6_copyFrom 94 = .ok (.getfield 43, 3) := by decide +kernel
theorem dX6_copyFrom_97 : decode cX6_copyFrom 97 = .ok (.aload_n 1, 1) := by decide +kernel
theorem dX6_copyFrom_98 : decode cX6_copyFrom 98 = .ok (.getfield 43, 3) := by decide +kernel
theorem dX6_copyFrom_101 : decode cX6_copyFrom 101 = .ok (.invokevirtual 60, 3) := by decide +kernel
theorem dX6_copyFrom_104 : decode cX6_copyFrom 104 = .ok (.aload_n 0, 1) := by decide +kernel
theorem dX6_copyFrom_105 : decode cX6_copyFrom 105 = .ok (.getfield 50, 3) := by decide +kernel
theorem dX6_copyFrom_108 : decode cX6_copyFrom 108 = .ok (.aload_n 1, 1) := by decide +kernel
theorem dX6_copyFrom_109 : decode cX6_copyFrom 109 = .ok (.getfield 50, 3) := by decide +kernel
theorem dX6_copyFrom_112 : decode cX6_copyFrom 112 = .ok (.invokevirtual 64, 3) := by decide +kernel
theorem dX6_copyFrom_115 : decode cX6_copyFrom 115 = .ok (.return_, 1) := by decide +kernel
theorem dX7_init_0 : decode cX7_init 0 = .ok (.aload_n 0, 1) := by decide +kernel
theorem dX7_init_1 : decode cX7_init 1 = .ok (.invokespecial 1, 3) := by decide +kernel
theorem dX7_init_4 : decode cX7_init 4 = .ok (.aload_n 0, 1) := by decide +kernel
theorem dX7_init_5 : decode cX7_init 5 = .ok (.sipush 300, 3) := by decide +kernel
theorem dX7_init_8 : decode cX7_init 8 = .ok (.newarray .byte, 2) := by decide +kernel
theorem dX7_init_10 : decode cX7_init 10 = .ok (.putfield 9, 3) := by decide +kernel
theorem dX7_init_13 : decode cX7_init 13 = .ok (.aload_n 0, 1) := by decide +kernel
theorem dX7_init_14 : decode cX7_init 14 = .ok (.iconst 0, 1) := by decide +kernel
theorem dX7_init_15 : decode cX7_init 15 = .ok (.putfield 13, 3) := by decide +kernel
theorem dX7_init_18 : decode cX7_init 18 = .ok (.aload_n 0, 1) := by decide +kernel
theorem dX7_init_19 : decode cX7_init 19 = .ok (.new 17, 3) := by decide +kernel
theorem dX7_init_22 : decode cX7_init 22 = .ok (.dup, 1) := by decide +kernel
theorem dX7_init_23 : decode cX7_init 23 = .ok (.invokespecial 19, 3) := by decide +kernel
theorem dX7_init_26 : decode cX7_init 26 = .ok (.putfield 20, 3) := by decide +kernel
theorem dX7_init_29 : decode cX7_init 29 = .ok (.aload_n 0, 1) := by decide +kernel
theorem dX7_init_30 : decode cX7_init 30 = .ok (.iconst 4, 1) := by decide +kernel
theorem dX7_init_31 : decode cX7_init 31 = .ok (.anewarray 24, 3) := by decide +kernel
theorem dX7_init_34 : decode cX7_init 34 = .ok (.putfield 26, 3) := by decide +kernel
theorem dX7_init_37 : decode cX7_init 37 = .ok (.aload_n 0, 1) := by decide +kernel
theorem dX7_init_38 : decode cX7_init 38 = .ok (.new 30, 3) := by decide +kernel
theorem dX7_init_41 : decode cX7_init 41 = .ok (.dup, 1) := by decide +kernel
theorem dX7_init_42 : decode cX7_init 42 = .ok (.invokespecial 32, 3) := by decide +kernel
theorem dX7_init_45 : decode cX7_init 45 = .ok (.putfield 33, 3) := by decide +kernel
theorem dX7_init_48 : decode cX7_init 48 = .ok (.aload_n 0, 1) := by decide +kernel
theorem dX7_init_49 : decode cX7_init 49 = .ok (.new 30, 3) := by decide +kernel
theorem dX7_init_52 : decode cX7_init 52 = .ok (.dup, 1) := by decide +kernel
theorem dX7_init_53 : decode cX7_init 53 = .ok (.invokespecial 32, 3) := by decide +kernel
theorem dX7_init_56 : decode cX7_init 56 = .ok (.putfield 37, 3) := by decide +kernel
theorem dX7_init_59 : decode cX7_init 59 = .ok (.aload_n 0, 1) := by decide +kernel
theorem dX7_init_60 : decode cX7_init 60 = .ok (.new 40, 3) := by decide +kernel
theorem dX7_init_63 : decode cX7_init 63 = .ok (.dup, 1) := by decide +kernel
theorem dX7_init_64 : decode cX7_init 64 = .ok (.invokespecial 42, 3) := by decide +kernel
theorem dX7_init_67 : decode cX7_init 67 = .ok (.putfield 43, 3) := by decide +kernel
theorem dX7_init_70 : decode cX7_init 70 = .ok (.aload_n 0, 1) := by decide +kernel
theorem dX7_init_71 : decode cX7_init 71 = .ok (.new 47, 3) := by decide +kernel
theorem dX7_init_74 : decode cX7_init 74 = .ok (.dup, 1) := by decide +kernel
theorem dX7_init_75 : decode cX7_init 75 = .ok (.invokespecial 49, 3) := by decide +kernel
theorem dX7_init_78 : decode cX7_init 78 = .ok (.putfield 50, 3) := by decide +kernel
theorem dX7_init_81 : decode cX7_init 81 = .ok (.aload_n 0, 1) := by decide +kernel
theorem dX7_init_82 : decode cX7_init 82 = .ok (.new 54, 3) := by decide +kernel
theorem dX7_init_85 : decode cX7_init 85 = .ok (.dup, 1) := by decide +kernel
theorem dX7_init_86 : decode cX7_init 86 = .ok (.invokespecial 56, 3) := by decide +kernel
theorem dX7_init_89 : decode cX7_init 89 = .ok (.putfield 57, 3) := by decide +kernel
theorem dX7_init_92 : decode cX7_init 92 = .ok (.aload_n 0, 1) := by decide +kernel
theorem dX7_init_93 : decode cX7_init 93 = .ok (.bipush 32, 2) := by decide +kernel
theorem dX7_init_95 : decode cX7_init 95 = .ok (.newarray .int, 2) := by decide +kernel
theorem dX7_init_97 : decode cX7_init 97 = .ok (.putfield 61, 3) := by decide +kernel
theorem dX7_init_100 : decode cX7_init 100 = .ok (.aload_n 0, 1) := by decide +kernel
theorem dX7_init_101 : decode cX7_init 101 = .ok (.bipush 8, 2) := by decide +kernel
theorem dX7_init_103 : decode cX7_init 103 = .ok (.newarray .int, 2) := by decide +kernel
theorem dX7_init_105 : decode cX7_init 105 = .ok (.putfield 65, 3) := by decide +kernel
theorem dX7_init_108 : decode cX7_init 108 = .ok (.aload_n 0, 1) := by decide +kernel
theorem dX7_init_109 : decode cX7_init 109 = .ok (.iconst 1, 1) := by decide +kernel
theorem dX7_init_110 : decode cX7_init 110 = .ok (.bipush 6, 2) := by decide +kernel
theorem dX7_init_112 : decode cX7_init 112 = .ok (.iload_n 1, 1) := by decide +kernel
theorem dX7_init_113 : decode cX7_init 113 = .ok (.invokestatic 68, 3) := by decide +kernel
theorem dX7_init_116 : decode cX7_init 116 = .ok (.invokestatic 74, 3) := by decide +kernel
theorem dX7_init_119 : decode cX7_init 119 = .ok (.putfield 77, 3) := by decide +kernel
theorem dX7_init_122 : decode cX7_init 122 = .ok (.iconst 0, 1) := by decide +kernel
theorem dX7_init_123 : decode cX7_init 123 = .ok (.istore_n 2, 1) := by decide +kernel
theorem dX7_init_124 : decode cX7_init 124 = .ok (.iload_n 2, 1) := by decide +kernel
theorem dX7_init_125 : decode cX7_init 125 = .ok (.iconst 4, 1) := by decide +kernel
theorem dX7_init_126 : decode cX7_init 126 = .ok (.if_icmp .ge 22, 3) := by decide +kernel
theorem dX7_init_129 : decode cX7_init 129 = .ok (.aload_n 0, 1) := by decide +kernel
theorem dX7_init_130 : decode cX7_init 130 = .ok (.getfield 26, 3) := by decide +kernel
theorem dX7_init_133 : decode cX7_init 133 = .ok (.iload_n 2, 1) := by decide +kernel
theorem dX7_init_134 : decode cX7_init 134 = .ok (.new 24, 3) := by decide +kernel
theorem dX7_init_137 : decode cX7_init 137 = .ok (.dup, 1) := by decide +kernel
theorem dX7_init_138 : decode cX7_init 138 = .ok (.invokespecial 80, 3) := by decide +kernel
theorem dX7_init_141 : decode cX7_init 141 = .ok (.aastore, 1) := by decide +kernel
theorem dX7_init_142 : decode cX7_init 142 = .ok (.iinc 2 1, 3) := by decide +kernel
theorem dX7_init_145 : decode cX7_init 145 = .ok (.goto (-21), 3) := by decide +kernel
theorem dX7_init_148 : decode cX7_init 148 = .ok (.return_, 1) := by decide +kernel
theorem dX7_thing_0 : decode cX7_thing 0 = .ok (.iload_n 1, 1) := by decide +kernel
theorem dX7_thing_1 : decode cX7_thing 1 = .ok (.ifCond .lt 20, 3) := by decide +kernel
theorem dX7_thing_4 : decode cX7_thing 4 = .ok (.iload_n 1, 1) := by decide +kernel
theorem dX7_thing_5 : decode cX7_thing 5 = .ok (.iconst 4, 1) := by decide +kernel
theorem dX7_thing_6 : decode cX7_thing 6 = .ok (.if_icmp .ge 15, 3) := by decide +kernel
theorem dX7_thing_9 : decode cX7_thing 9 = .ok (.aload_n 0, 1) := by decide +kernel
theorem dX7_thing_10 : decode cX7_thing 10 = .ok (.getfield 33, 3) := by decide +kernel
theorem dX7_thing_13 : decode cX7_thing 13 = .ok (.getfield 81, 3) := by decide +kernel
theorem dX7_thing_16 : decode cX7_thing 16 = .ok (.bipush 8, 2) := by decide +kernel
theorem dX7_thing_18 : decode cX7_thing 18 = .ok (.if_icmp .lt 5, 3) := by decide +kernel
theorem dX7_thing_21 : decode cX7_thing 21 = .ok (.iconst (-1), 1) := by decide +kernel
theorem dX7_thing_22 : decode cX7_thing 22 = .ok (.ireturn, 1) := by decide +kernel
theorem dX7_thing_23 : decode cX7_thing 23 = .ok (.aload_n 0, 1) := by decide +kernel
theorem dX7_thing_24 : decode cX7_thing 24 = .ok (.getfield 33, 3) := by decide +kernel
theorem dX7_thing_27 : decode cX7_thing 27 = .ok (.getfield 84, 3) := by decide +kernel
theorem dX7_thing_30 : decode cX7_thing 30 = .ok (.aload_n 0, 1) := by decide +kernel
theorem dX7_thing_31 : decode cX7_thing 31 = .ok (.getfield 33, 3) := by decide +kernel
theorem dX7_thing_34 : decode cX7_thing 34 = .ok (.getfield 81, 3) := by decide +kernel
theorem dX7_thing_37 : decode cX7_thing 37 = .ok (.iload_n 1, 1) := by decide +kernel
theorem dX7_thing_38 : decode cX7_thing 38 = .ok (.iastore, 1) := by decide +kernel
theorem dX7_thing_39 : decode cX7_thing 39 = .ok (.aload_n 0, 1) := by decide +kernel
theorem dX7_thing_40 : decode cX7_thing 40 = .ok (.getfield 33, 3) := by decide +kernel
theorem dX7_thing_43 : decode cX7_thing 43 = .ok (.dup, 1) := by decide +kernel
theorem dX7_thing_44 : decode cX7_thing 44 = .ok (.getfield 81, 3) := by decide +kernel
theorem dX7_thing_47 : decode cX7_thing 47 = .ok (.iconst 1, 1) := by decide +kernel
theorem dX7_thing_48 : decode cX7_thing 48 = .ok (.iadd, 1) := by decide +kernel
theorem dX7_thing_49 : decode cX7_thing 49 = .ok (.putfield 81, 3) := by decide +kernel
theorem dX7_thing_52 : decode cX7_thing 52 = .ok (.aload_n 0, 1) := by decide +kernel
theorem dX7_thing_53 : decode cX7_thing 53 = .ok (.getfield 33, 3) := by decide +kernel
theorem dX7_thing_56 : decode cX7_thing 56 = .ok (.getfield 81, 3) := by decide +kernel
theorem dX7_thing_59 : decode cX7_thing 59 = .ok (.iconst 1, 1) := by decide +kernel
theorem dX7_thing_60 : decode cX7_thing 60 = .ok (.isub, 1) := by decide +kernel
theorem dX7_thing_61 : decode cX7_thing 61 = .ok (.ireturn, 1) := by decide +kernel
theorem dX7_eye_0 : decode cX7_eye 0 = .ok (.iload_n 1, 1) := by decide +kernel
theorem dX7_eye_1 : decode cX7_eye 1 = .ok (.ifCond .lt 20, 3) := by decide +kernel
theorem dX7_eye_4 : decode cX7_eye 4 = .ok (.iload_n 1, 1) := by decide +kernel
theorem dX7_eye_5 : decode cX7_eye 5 = .ok (.iconst 4, 1) := by decide +kernel
theorem dX7_eye_6 : decode cX7_eye 6 = .ok (.if_icmp .ge 15, 3) := by decide +kernel
theorem dX7_eye_9 : decode cX7_eye 9 = .ok (.aload_n 0, 1) := by decide +kernel
theorem dX7_eye_10 : decode cX7_eye 10 = .ok (.getfield 33, 3) := by decide +kernel
theorem dX7_eye_13 : decode cX7_eye 13 = .ok (.getfield 87, 3) := by decide +kernel
theorem dX7_eye_16 : decode cX7_eye 16 = .ok (.bipush 8, 2) := by decide +kernel
theorem dX7_eye_18 : decode cX7_eye 18 = .ok (.if_icmp .lt 5, 3) := by decide +kernel
theorem dX7_eye_21 : decode cX7_eye 21 = .ok (.iconst (-1), 1) := by decide +kernel
theorem dX7_eye_22 : decode cX7_eye 22 = .ok (.ireturn, 1) := by decide +kernel
theorem dX7_eye_23 : decode cX7_eye 23 = .ok (.aload_n 0, 1) := by decide +kernel
theorem dX7_eye_24 : decode cX7_eye 24 = .ok (.getfield 33, 3) := by decide +kernel
theorem dX7_eye_27 : decode cX7_eye 27 = .ok (.getfield 90, 3) := by decide +kernel
theorem dX7_eye_30 : decode cX7_eye 30 = .ok (.aload_n 0, 1) := by decide +kernel
theorem dX7_eye_31 : decode cX7_eye 31 = .ok (.getfield 33, 3) := by decide +kernel
theorem dX7_eye_34 : decode cX7_eye 34 = .ok (.getfield 87, 3) := by decide +kernel
theorem dX7_eye_37 : decode cX7_eye 37 = .ok (.iload_n 1, 1) := by decide +kernel
theorem dX7_eye_38 : decode cX7_eye 38 = .ok (.iastore, 1) := by decide +kernel
theorem dX7_eye_39 : decode cX7_eye 39 = .ok (.aload_n 0, 1) := by decide +kernel
theorem dX7_eye_40 : decode cX7_eye 40 = .ok (.getfield 33, 3) := by decide +kernel
theorem dX7_eye_43 : decode cX7_eye 43 = .ok (.getfield 93, 3) := by decide +kernel
theorem dX7_eye_46 : decode cX7_eye 46 = .ok (.aload_n 0, 1) := by decide +kernel
theorem dX7_eye_47 : decode cX7_eye 47 = .ok (.getfield 33, 3) := by decide +kernel
theorem dX7_eye_50 : decode cX7_eye 50 = .ok (.getfield 87, 3) := by decide +kernel
theorem dX7_eye_53 : decode cX7_eye 53 = .ok (.iload_n 2, 1) := by decide +kernel
theorem dX7_eye_54 : decode cX7_eye 54 = .ok (.ifCond .eq 7, 3) := by decide +kernel
theorem dX7_eye_57 : decode cX7_eye 57 = .ok (.iconst 1, 1) := by decide +kernel
theorem dX7_eye_58 : decode cX7_eye 58 = .ok (.goto 4, 3) := by decide +kernel
theorem dX7_eye_61 : decode cX7_eye 61 = .ok (.iconst 0, 1) := by decide +kernel
theorem dX7_eye_62 : decode cX7_eye 62 = .ok (.iastore, 1) := by decide +kernel
theorem dX7_eye_63 : decode cX7_eye 63 = .ok (.aload_n 0, 1) := by decide +kernel
theorem dX7_eye_64 : decode cX7_eye 64 = .ok (.getfield 33, 3) := by decide +kernel
theorem dX7_eye_67 : decode cX7_eye 67 = .ok (.dup, 1) := by decide +kernel
theorem dX7_eye_68 : decode cX7_eye 68 = .ok (.getfield 87, 3) := by decide +kernel
theorem dX7_eye_71 : decode cX7_eye 71 = .ok (.iconst 1, 1) := by decide +kernel
theorem dX7_eye_72 : decode cX7_eye 72 = .ok (.iadd, 1) := by decide +kernel
theorem dX7_eye_73 : decode cX7_eye 73 = .ok (.putfield 87, 3) := by decide +kernel
theorem dX7_eye_76 : decode cX7_eye 76 = .ok (.aload_n 0, 1) := by decide +kernel
theorem dX7_eye_77 : decode cX7_eye 77 = .ok (.getfield 33, 3) := by decide +kernel
theorem dX7_eye_80 : decode cX7_eye 80 = .ok (.getfield 87, 3) := by decide +kernel
theorem dX7_eye_83 : decode cX7_eye 83 = .ok (.iconst 1, 1) := by decide +kernel
theorem dX7_eye_84 : decode cX7_eye 84 = .ok (.isub, 1) := by decide +kernel
theorem dX7_eye_85 : decode cX7_eye 85 = .ok (.ireturn, 1) := by decide +kernel
theorem dX7_feed_0 : decode cX7_feed 0 = .ok (.aload_n 0, 1) := by decide +kernel
theorem dX7_feed_1 : decode cX7_feed 1 = .ok (.getfield 13, 3) := by decide +kernel
theorem dX7_feed_4 : decode cX7_feed 4 = .ok (.bipush 20, 2) := by decide +kernel
theorem dX7_feed_6 : decode cX7_feed 6 = .ok (.iadd, 1) := by decide +kernel
theorem dX7_feed_7 : decode cX7_feed 7 = .ok (.sipush 300, 3) := by decide +kernel
theorem dX7_feed_10 : decode cX7_feed 10 = .ok (.if_icmp .le 5, 3) := by decide +kernel
theorem dX7_feed_13 : decode cX7_feed 13 = .ok (.iconst (-1), 1) := by decide +kernel
theorem dX7_feed_14 : decode cX7_feed 14 = .ok (.ireturn, 1) := by decide +kernel
theorem dX7_feed_15 : decode cX7_feed 15 = .ok (.aload_n 0, 1) := by decide +kernel
theorem dX7_feed_16 : decode cX7_feed 16 = .ok (.iload_n 1, 1) := by decide +kernel
theorem dX7_feed_17 : decode cX7_feed 17 = .ok (.invokevirtual 96, 3) := by decide +kernel
theorem dX7_feed_20 : decode cX7_feed 20 = .ok (.aload_n 0, 1) := by decide +kernel
theorem dX7_feed_21 : decode cX7_feed 21 = .ok (.iload_n 2, 1) := by decide +kernel
theorem dX7_feed_22 : decode cX7_feed 22 = .ok (.invokevirtual 96, 3) := by decide +kernel
theorem dX7_feed_25 : decode cX7_feed 25 = .ok (.aload_n 0, 1) := by decide +kernel
theorem dX7_feed_26 : decode cX7_feed 26 = .ok (.iload_n 3, 1) := by decide +kernel
theorem dX7_feed_27 : decode cX7_feed 27 = .ok (.invokevirtual 96, 3) := by decide +kernel
theorem dX7_feed_30 : decode cX7_feed 30 = .ok (.aload_n 0, 1) := by decide +kernel
theorem dX7_feed_31 : decode cX7_feed 31 = .ok (.iload 4, 2) := by decide +kernel
theorem dX7_feed_33 : decode cX7_feed 33 = .ok (.invokevirtual 96, 3) := by decide +kernel
theorem dX7_feed_36 : decode cX7_feed 36 = .ok (.aload_n 0, 1) := by decide +kernel
theorem dX7_feed_37 : decode cX7_feed 37 = .ok (.iload 5, 2) := by decide +kernel
theorem dX7_feed_39 : decode cX7_feed 39 = .ok (.invokevirtual 96, 3) := by decide +kernel
theorem dX7_feed_42 : decode cX7_feed 42 = .ok (.aload_n 0, 1) := by decide +kernel
theorem dX7_feed_43 : decode cX7_feed 43 = .ok (.getfield 13, 3) := by decide +kernel
theorem dX7_feed_46 : decode cX7_feed 46 = .ok (.ireturn, 1) := by decide +kernel
theorem dX7_end_0 : decode cX7_end 0 = .ok (.iload_n 1, 1) := by decide +kernel
theorem dX7_end_1 : decode cX7_end 1 = .ok (.ifCond .lt 11, 3) := by decide +kernel
theorem dX7_end_4 : decode cX7_end 4 = .ok (.iload_n 1, 1) := by decide +kernel
theorem dX7_end_5 : decode cX7_end 5 = .ok (.aload_n 0, 1) := by decide +kernel
theorem dX7_end_6 : decode cX7_end 6 = .ok (.getfield 13, 3) := by decide +kernel
theorem dX7_end_9 : decode cX7_end 9 = .ok (.if_icmp .le 5, 3) := by decide +kernel
theorem dX7_end_12 : decode cX7_end 12 = .ok (.iconst (-1), 1) := by decide +kernel
theorem dX7_end_13 : decode cX7_end 13 = .ok (.ireturn, 1) := by decide +kernel
theorem dX7_end_14 : decode cX7_end 14 = .ok (.aload_n 0, 1) := by decide +kernel
theorem dX7_end_15 : decode cX7_end 15 = .ok (.iload_n 1, 1) := by decide +kernel
theorem dX7_end_16 : decode cX7_end 16 = .ok (.putfield 13, 3) := by decide +kernel
theorem dX7_end_19 : decode cX7_end 19 = .ok (.iload_n 1, 1) := by decide +kernel
theorem dX7_end_20 : decode cX7_end 20 = .ok (.ireturn, 1) := by decide +kernel
theorem dX7_text_0 : decode cX7_text 0 = .ok (.aload_n 0, 1) := by decide +kernel
theorem dX7_text_1 : decode cX7_text 1 = .ok (.getfield 33, 3) := by decide +kernel
theorem dX7_text_4 : decode cX7_text 4 = .ok (.getfield 100, 3) := by decide +kernel
theorem dX7_text_7 : decode cX7_text 7 = .ok (.iconst 4, 1) := by decide +kernel
theorem dX7_text_8 : decode cX7_text 8 = .ok (.if_icmp .lt 5, 3) := by decide +kernel
theorem dX7_text_11 : decode cX7_text 11 = .ok (.iconst (-1), 1) := by decide +kernel
theorem dX7_text_12 : decode cX7_text 12 = .ok (.ireturn, 1) := by decide +kernel
theorem dX7_text_13 : decode cX7_text 13 = .ok (.aload_n 0, 1) := by decide +kernel
theorem dX7_text_14 : decode cX7_text 14 = .ok (.getfield 20, 3) := by decide +kernel
theorem dX7_text_17 : decode cX7_text 17 = .ok (.aload_n 0, 1) := by decide +kernel
theorem dX7_text_18 : decode cX7_text 18 = .ok (.getfield 9, 3) := by decide +kernel
theorem dX7_text_21 : decode cX7_text 21 = .ok (.aload_n 0, 1) := by decide +kernel
theorem dX7_text_22 : decode cX7_text 22 = .ok (.getfield 13, 3) := by decide +kernel
end
section
theorem dX7_text_25 : decode cX7_text 25 = .ok (.aload_n 0, 1) := by decide +kernel
theorem dX7_text_26 : decode cX7_text 26 = .ok (.getfield 26, 3) := by decide +kernel
theorem dX7_text_29 : decode cX7_text 29 = .ok (.aload_n 0, 1) := by decide +kernel
theorem dX7_text_30 : decode cX7_text 30 = .ok (.getfield 33, 3) := by decide +kernel
theorem dX7_text_33 : decode cX7_text 33 = .ok (.getfield 100, 3) := by decide +kernel
theorem dX7_text_36 : decode cX7_text 36 = .ok (.aaload, 1) := by decide +kernel
theorem dX7_text_37 : decode cX7_text 37 = .ok (.invokevirtual 103, 3) := by decide +kernel
theorem dX7_text_40 : decode cX7_text 40 = .ok (.iconst 0, 1) := by decide +kernel
theorem dX7_text_41 : decode cX7_text 41 = .ok (.istore_n 1, 1) := by decide +kernel
theorem dX7_text_42 : decode cX7_text 42 = .ok (.iload_n 1, 1) := by decide +kernel
theorem dX7_text_43 : decode cX7_text 43 = .ok (.sipush 300, 3) := by decide +kernel
theorem dX7_text_46 : decode cX7_text 46 = .ok (.if_icmp .ge 26, 3) := by decide +kernel
theorem dX7_text_49 : decode cX7_text 49 = .ok (.aload_n 0, 1) := by decide +kernel
theorem dX7_text_50 : decode cX7_text 50 = .ok (.getfield 20, 3) := by decide +kernel
theorem dX7_text_53 : decode cX7_text 53 = .ok (.invokevirtual 107, 3) := by decide +kernel
theorem dX7_text_56 : decode cX7_text 56 = .ok (.ifCond .eq 16, 3) := by decide +kernel
theorem dX7_text_59 : decode cX7_text 59 = .ok (.aload_n 0, 1) := by decide +kernel
theorem dX7_text_60 : decode cX7_text 60 = .ok (.getfield 20, 3) := by decide +kernel
theorem dX7_text_63 : decode cX7_text 63 = .ok (.invokevirtual 111, 3) := by decide +kernel
theorem dX7_text_66 : decode cX7_text 66 = .ok (.iinc 1 1, 3) := by decide +kernel
theorem dX7_text_69 : decode cX7_text 69 = .ok (.goto (-27), 3) := by decide +kernel
theorem dX7_text_72 : decode cX7_text 72 = .ok (.aload_n 0, 1) := by decide +kernel
theorem dX7_text_73 : decode cX7_text 73 = .ok (.iconst 0, 1) := by decide +kernel
theorem dX7_text_74 : decode cX7_text 74 = .ok (.putfield 13, 3) := by decide +kernel
theorem dX7_text_77 : decode cX7_text 77 = .ok (.aload_n 0, 1) := by decide +kernel
theorem dX7_text_78 : decode cX7_text 78 = .ok (.getfield 20, 3) := by decide +kernel
theorem dX7_text_81 : decode cX7_text 81 = .ok (.getfield 114, 3) := by decide +kernel
theorem dX7_text_84 : decode cX7_text 84 = .ok (.ifCond .eq 5, 3) := by decide +kernel
theorem dX7_text_87 : decode cX7_text 87 = .ok (.iconst (-1), 1) := by decide +kernel
theorem dX7_text_88 : decode cX7_text 88 = .ok (.ireturn, 1) := by decide +kernel
theorem dX7_text_89 : decode cX7_text 89 = .ok (.aload_n 0, 1) := by decide +kernel
theorem dX7_text_90 : decode cX7_text 90 = .ok (.getfield 33, 3) := by decide +kernel
theorem dX7_text_93 : decode cX7_text 93 = .ok (.dup, 1) := by decide +kernel
theorem dX7_text_94 : decode cX7_text 94 = .ok (.getfield 100, 3) := by decide +kernel
theorem dX7_text_97 : decode cX7_text 97 = .ok (.iconst 1, 1) := by decide +kernel
theorem dX7_text_98 : decode cX7_text 98 = .ok (.iadd, 1) := by decide +kernel
theorem dX7_text_99 : decode cX7_text 99 = .ok (.putfield 100, 3) := by decide +kernel
theorem dX7_text_102 : decode cX7_text 102 = .ok (.aload_n 0, 1) := by decide +kernel
theorem dX7_text_103 : decode cX7_text 103 = .ok (.getfield 33, 3) := by decide +kernel
theorem dX7_text_106 : decode cX7_text 106 = .ok (.getfield 100, 3) := by decide +kernel
theorem dX7_text_109 : decode cX7_text 109 = .ok (.iconst 1, 1) := by decide +kernel
theorem dX7_text_110 : decode cX7_text 110 = .ok (.isub, 1) := by decide +kernel
theorem dX7_text_111 : decode cX7_text 111 = .ok (.ireturn, 1) := by decide +kernel
theorem dX7_fault_0 : decode cX7_fault 0 = .ok (.iload_n 1, 1) := by decide +kernel
theorem dX7_fault_1 : decode cX7_fault 1 = .ok (.ifCond .ne 11, 3) := by decide +kernel
theorem dX7_fault_4 : decode cX7_fault 4 = .ok (.aload_n 0, 1) := by decide +kernel
theorem dX7_fault_5 : decode cX7_fault 5 = .ok (.getfield 20, 3) := by decide +kernel
theorem dX7_fault_8 : decode cX7_fault 8 = .ok (.getfield 114, 3) := by decide +kernel
theorem dX7_fault_11 : decode cX7_fault 11 = .ok (.ireturn, 1) := by decide +kernel
theorem dX7_fault_12 : decode cX7_fault 12 = .ok (.iload_n 1, 1) := by decide +kernel
theorem dX7_fault_13 : decode cX7_fault 13 = .ok (.iconst 1, 1) := by decide +kernel
theorem dX7_fault_14 : decode cX7_fault 14 = .ok (.if_icmp .ne 13, 3) := by decide +kernel
theorem dX7_fault_17 : decode cX7_fault 17 = .ok (.aload_n 0, 1) := by decide +kernel
theorem dX7_fault_18 : decode cX7_fault 18 = .ok (.getfield 20, 3) := by decide +kernel
theorem dX7_fault_21 : decode cX7_fault 21 = .ok (.getfield 117, 3) := by decide +kernel
theorem dX7_fault_24 : decode cX7_fault 24 = .ok (.goto 4, 3) := by decide +kernel
theorem dX7_fault_27 : decode cX7_fault 27 = .ok (.iconst (-1), 1) := by decide +kernel
theorem dX7_fault_28 : decode cX7_fault 28 = .ok (.ireturn, 1) := by decide +kernel
theorem dX7_by_0 : decode cX7_by 0 = .ok (.iload_n 1, 1) := by decide +kernel
theorem dX7_by_1 : decode cX7_by 1 = .ok (.iconst (-1), 1) := by decide +kernel
theorem dX7_by_2 : decode cX7_by 2 = .ok (.if_icmp .eq 13, 3) := by decide +kernel
theorem dX7_by_5 : decode cX7_by 5 = .ok (.aload_n 0, 1) := by decide +kernel
theorem dX7_by_6 : decode cX7_by 6 = .ok (.iload_n 1, 1) := by decide +kernel
theorem dX7_by_7 : decode cX7_by 7 = .ok (.invokevirtual 120, 3) := by decide +kernel
theorem dX7_by_10 : decode cX7_by 10 = .ok (.ifCond .ne 5, 3) := by decide +kernel
theorem dX7_by_13 : decode cX7_by 13 = .ok (.iconst 0, 1) := by decide +kernel
theorem dX7_by_14 : decode cX7_by 14 = .ok (.ireturn, 1) := by decide +kernel
theorem dX7_by_15 : decode cX7_by 15 = .ok (.aload_n 0, 1) := by decide +kernel
theorem dX7_by_16 : decode cX7_by 16 = .ok (.getfield 33, 3) := by decide +kernel
theorem dX7_by_19 : decode cX7_by 19 = .ok (.iload_n 1, 1) := by decide +kernel
theorem dX7_by_20 : decode cX7_by 20 = .ok (.putfield 124, 3) := by decide +kernel
theorem dX7_by_23 : decode cX7_by 23 = .ok (.iconst 1, 1) := by decide +kernel
theorem dX7_by_24 : decode cX7_by 24 = .ok (.ireturn, 1) := by decide +kernel
theorem dX7_touch_0 : decode cX7_touch 0 = .ok (.aload_n 0, 1) := by decide +kernel
theorem dX7_touch_1 : decode cX7_touch 1 = .ok (.iconst 2, 1) := by decide +kernel
theorem dX7_touch_2 : decode cX7_touch 2 = .ok (.iload_n 1, 1) := by decide +kernel
theorem dX7_touch_3 : decode cX7_touch 3 = .ok (.iload_n 2, 1) := by decide +kernel
theorem dX7_touch_4 : decode cX7_touch 4 = .ok (.invokevirtual 127, 3) := by decide +kernel
theorem dX7_touch_7 : decode cX7_touch 7 = .ok (.ireturn, 1) := by decide +kernel
theorem dX7_put_0 : decode cX7_put 0 = .ok (.aload_n 0, 1) := by decide +kernel
theorem dX7_put_1 : decode cX7_put 1 = .ok (.iconst 3, 1) := by decide +kernel
theorem dX7_put_2 : decode cX7_put 2 = .ok (.iload_n 1, 1) := by decide +kernel
theorem dX7_put_3 : decode cX7_put 3 = .ok (.iload_n 2, 1) := by decide +kernel
theorem dX7_put_4 : decode cX7_put 4 = .ok (.invokevirtual 127, 3) := by decide +kernel
theorem dX7_put_7 : decode cX7_put 7 = .ok (.iconst (-1), 1) := by decide +kernel
theorem dX7_put_8 : decode cX7_put 8 = .ok (.if_icmp .eq 7, 3) := by decide +kernel
theorem dX7_put_11 : decode cX7_put 11 = .ok (.iconst 1, 1) := by decide +kernel
theorem dX7_put_12 : decode cX7_put 12 = .ok (.goto 4, 3) := by decide +kernel
theorem dX7_put_15 : decode cX7_put 15 = .ok (.iconst 0, 1) := by decide +kernel
theorem dX7_put_16 : decode cX7_put 16 = .ok (.ireturn, 1) := by decide +kernel
theorem dX7_swap_0 : decode cX7_swap 0 = .ok (.aload_n 0, 1) := by decide +kernel
theorem dX7_swap_1 : decode cX7_swap 1 = .ok (.iconst 5, 1) := by decide +kernel
theorem dX7_swap_2 : decode cX7_swap 2 = .ok (.iload_n 1, 1) := by decide +kernel
theorem dX7_swap_3 : decode cX7_swap 3 = .ok (.iload_n 2, 1) := by decide +kernel
theorem dX7_swap_4 : decode cX7_swap 4 = .ok (.invokevirtual 127, 3) := by decide +kernel
theorem dX7_swap_7 : decode cX7_swap 7 = .ok (.iconst (-1), 1) := by decide +kernel
theorem dX7_swap_8 : decode cX7_swap 8 = .ok (.if_icmp .eq 7, 3) := by decide +kernel
theorem dX7_swap_11 : decode cX7_swap 11 = .ok (.iconst 1, 1) := by decide +kernel
theorem dX7_swap_12 : decode cX7_swap 12 = .ok (.goto 4, 3) := by decide +kernel
theorem dX7_swap_15 : decode cX7_swap 15 = .ok (.iconst 0, 1) := by decide +kernel
theorem dX7_swap_16 : decode cX7_swap 16 = .ok (.ireturn, 1) := by decide +kernel
theorem dX7_polish_0 : decode cX7_polish 0 = .ok (.aload_n 0, 1) := by decide +kernel
theorem dX7_polish_1 : decode cX7_polish 1 = .ok (.bipush 6, 2) := by decide +kernel
theorem dX7_polish_3 : decode cX7_polish 3 = .ok (.iload_n 1, 1) := by decide +kernel
theorem dX7_polish_4 : decode cX7_polish 4 = .ok (.iconst (-1), 1) := by decide +kernel
theorem dX7_polish_5 : decode cX7_polish 5 = .ok (.invokevirtual 127, 3) := by decide +kernel
theorem dX7_polish_8 : decode cX7_polish 8 = .ok (.ireturn, 1) := by decide +kernel
theorem dX7_played_0 : decode cX7_played 0 = .ok (.aload_n 0, 1) := by decide +kernel
theorem dX7_played_1 : decode cX7_played 1 = .ok (.iload_n 1, 1) := by decide +kernel
theorem dX7_played_2 : decode cX7_played 2 = .ok (.invokevirtual 120, 3) := by decide +kernel
theorem dX7_played_5 : decode cX7_played 5 = .ok (.ifCond .ne 6, 3) := by decide +kernel
theorem dX7_played_8 : decode cX7_played 8 = .ok (.bipush (-2), 2) := by decide +kernel
theorem dX7_played_10 : decode cX7_played 10 = .ok (.ireturn, 1) := by decide +kernel
theorem dX7_played_11 : decode cX7_played 11 = .ok (.aload_n 0, 1) := by decide +kernel
theorem dX7_played_12 : decode cX7_played 12 = .ok (.getfield 26, 3) := by decide +kernel
theorem dX7_played_15 : decode cX7_played 15 = .ok (.iload_n 1, 1) := by decide +kernel
theorem dX7_played_16 : decode cX7_played 16 = .ok (.aaload, 1) := by decide +kernel
theorem dX7_played_17 : decode cX7_played 17 = .ok (.astore_n 2, 1) := by decide +kernel
theorem dX7_played_18 : decode cX7_played 18 = .ok (.iconst 0, 1) := by decide +kernel
theorem dX7_played_19 : decode cX7_played 19 = .ok (.istore_n 3, 1) := by decide +kernel
theorem dX7_played_20 : decode cX7_played 20 = .ok (.iload_n 3, 1) := by decide +kernel
theorem dX7_played_21 : decode cX7_played 21 = .ok (.aload_n 2, 1) := by decide +kernel
theorem dX7_played_22 : decode cX7_played 22 = .ok (.getfield 131, 3) := by decide +kernel
theorem dX7_played_25 : decode cX7_played 25 = .ok (.if_icmp .ge 45, 3) := by decide +kernel
theorem dX7_played_28 : decode cX7_played 28 = .ok (.aload_n 2, 1) := by decide +kernel
theorem dX7_played_29 : decode cX7_played 29 = .ok (.iload_n 3, 1) := by decide +kernel
theorem dX7_played_30 : decode cX7_played 30 = .ok (.invokevirtual 134, 3) := by decide +kernel
theorem dX7_played_33 : decode cX7_played 33 = .ok (.ifCond .eq 31, 3) := by decide +kernel
theorem dX7_played_36 : decode cX7_played 36 = .ok (.aload_n 0, 1) := by decide +kernel
theorem dX7_played_37 : decode cX7_played 37 = .ok (.aload_n 2, 1) := by decide +kernel
theorem dX7_played_38 : decode cX7_played 38 = .ok (.getfield 137, 3) := by decide +kernel
theorem dX7_played_41 : decode cX7_played 41 = .ok (.iload_n 3, 1) := by decide +kernel
theorem dX7_played_42 : decode cX7_played 42 = .ok (.iaload, 1) := by decide +kernel
theorem dX7_played_43 : decode cX7_played 43 = .ok (.aload_n 2, 1) := by decide +kernel
theorem dX7_played_44 : decode cX7_played 44 = .ok (.getfield 140, 3) := by decide +kernel
theorem dX7_played_47 : decode cX7_played 47 = .ok (.iload_n 3, 1) := by decide +kernel
theorem dX7_played_48 : decode cX7_played 48 = .ok (.iaload, 1) := by decide +kernel
theorem dX7_played_49 : decode cX7_played 49 = .ok (.aload_n 2, 1) := by decide +kernel
theorem dX7_played_50 : decode cX7_played 50 = .ok (.getfield 143, 3) := by decide +kernel
theorem dX7_played_53 : decode cX7_played 53 = .ok (.iload_n 3, 1) := by decide +kernel
theorem dX7_played_54 : decode cX7_played 54 = .ok (.iaload, 1) := by decide +kernel
theorem dX7_played_55 : decode cX7_played 55 = .ok (.invokevirtual 127, 3) := by decide +kernel
theorem dX7_played_58 : decode cX7_played 58 = .ok (.iconst (-1), 1) := by decide +kernel
theorem dX7_played_59 : decode cX7_played 59 = .ok (.if_icmp .ne 5, 3) := by decide +kernel
theorem dX7_played_62 : decode cX7_played 62 = .ok (.iload_n 3, 1) := by decide +kernel
theorem dX7_played_63 : decode cX7_played 63 = .ok (.ireturn, 1) := by decide +kernel
theorem dX7_played_64 : decode cX7_played 64 = .ok (.iinc 3 1, 3) := by decide +kernel
theorem dX7_played_67 : decode cX7_played 67 = .ok (.goto (-47), 3) := by decide +kernel
theorem dX7_played_70 : decode cX7_played 70 = .ok (.iconst (-1), 1) := by decide +kernel
theorem dX7_played_71 : decode cX7_played 71 = .ok (.ireturn, 1) := by decide +kernel
theorem dX7_cat_0 : decode cX7_cat 0 = .ok (.iload_n 1, 1) := by decide +kernel
theorem dX7_cat_1 : decode cX7_cat 1 = .ok (.ifCond .lt 32, 3) := by decide +kernel
theorem dX7_cat_4 : decode cX7_cat 4 = .ok (.iload_n 1, 1) := by decide +kernel
theorem dX7_cat_5 : decode cX7_cat 5 = .ok (.sipush 9999, 3) := by decide +kernel
theorem dX7_cat_8 : decode cX7_cat 8 = .ok (.if_icmp .gt 25, 3) := by decide +kernel
theorem dX7_cat_11 : decode cX7_cat 11 = .ok (.iload_n 2, 1) := by decide +kernel
theorem dX7_cat_12 : decode cX7_cat 12 = .ok (.iconst 1, 1) := by decide +kernel
theorem dX7_cat_13 : decode cX7_cat 13 = .ok (.if_icmp .lt 20, 3) := by decide +kernel
theorem dX7_cat_16 : decode cX7_cat 16 = .ok (.iload_n 2, 1) := by decide +kernel
theorem dX7_cat_17 : decode cX7_cat 17 = .ok (.bipush 40, 2) := by decide +kernel
theorem dX7_cat_19 : decode cX7_cat 19 = .ok (.if_icmp .gt 14, 3) := by decide +kernel
theorem dX7_cat_22 : decode cX7_cat 22 = .ok (.aload_n 0, 1) := by decide +kernel
theorem dX7_cat_23 : decode cX7_cat 23 = .ok (.getfield 33, 3) := by decide +kernel
theorem dX7_cat_26 : decode cX7_cat 26 = .ok (.getfield 87, 3) := by decide +kernel
theorem dX7_cat_29 : decode cX7_cat 29 = .ok (.iconst 1, 1) := by decide +kernel
theorem dX7_cat_30 : decode cX7_cat 30 = .ok (.if_icmp .ge 5, 3) := by decide +kernel
theorem dX7_cat_33 : decode cX7_cat 33 = .ok (.iconst (-1), 1) := by decide +kernel
theorem dX7_cat_34 : decode cX7_cat 34 = .ok (.ireturn, 1) := by decide +kernel
theorem dX7_cat_35 : decode cX7_cat 35 = .ok (.aload_n 0, 1) := by decide +kernel
theorem dX7_cat_36 : decode cX7_cat 36 = .ok (.getfield 33, 3) := by decide +kernel
theorem dX7_cat_39 : decode cX7_cat 39 = .ok (.getfield 146, 3) := by decide +kernel
theorem dX7_cat_42 : decode cX7_cat 42 = .ok (.aload_n 0, 1) := by decide +kernel
theorem dX7_cat_43 : decode cX7_cat 43 = .ok (.getfield 33, 3) := by decide +kernel
theorem dX7_cat_46 : decode cX7_cat 46 = .ok (.getfield 150, 3) := by decide +kernel
theorem dX7_cat_49 : decode cX7_cat 49 = .ok (.invokevirtual 153, 3) := by decide +kernel
theorem dX7_cat_52 : decode cX7_cat 52 = .ok (.iload_n 1, 1) := by decide +kernel
theorem dX7_cat_53 : decode cX7_cat 53 = .ok (.bipush 6, 2) := by decide +kernel
theorem dX7_cat_55 : decode cX7_cat 55 = .ok (.imul, 1) := by decide +kernel
theorem dX7_cat_56 : decode cX7_cat 56 = .ok (.iconst 1, 1) := by decide +kernel
theorem dX7_cat_57 : decode cX7_cat 57 = .ok (.iadd, 1) := by decide +kernel
theorem dX7_cat_58 : decode cX7_cat 58 = .ok (.istore_n 3, 1) := by decide +kernel
theorem dX7_cat_59 : decode cX7_cat 59 = .ok (.iconst 0, 1) := by decide +kernel
theorem dX7_cat_60 : decode cX7_cat 60 = .ok (.istore 4, 2) := by decide +kernel
theorem dX7_cat_62 : decode cX7_cat 62 = .ok (.iconst 0, 1) := by decide +kernel
theorem dX7_cat_63 : decode cX7_cat 63 = .ok (.istore 5, 2) := by decide +kernel
theorem dX7_cat_65 : decode cX7_cat 65 = .ok (.iload 5, 2) := by decide +kernel
theorem dX7_cat_67 : decode cX7_cat 67 = .ok (.iload_n 2, 1) := by decide +kernel
theorem dX7_cat_68 : decode cX7_cat 68 = .ok (.if_icmp .ge 65, 3) := by decide +kernel
theorem dX7_cat_71 : decode cX7_cat 71 = .ok (.iload_n 3, 1) := by decide +kernel
theorem dX7_cat_72 : decode cX7_cat 72 = .ok (.aload_n 0, 1) := by decide +kernel
theorem dX7_cat_73 : decode cX7_cat 73 = .ok (.getfield 33, 3) := by decide +kernel
theorem dX7_cat_76 : decode cX7_cat 76 = .ok (.getfield 87, 3) := by decide +kernel
theorem dX7_cat_79 : decode cX7_cat 79 = .ok (.irem, 1) := by decide +kernel
theorem dX7_cat_80 : decode cX7_cat 80 = .ok (.istore 6, 2) := by decide +kernel
theorem dX7_cat_82 : decode cX7_cat 82 = .ok (.iload_n 3, 1) := by decide +kernel
theorem dX7_cat_83 : decode cX7_cat 83 = .ok (.invokestatic 159, 3) := by decide +kernel
theorem dX7_cat_86 : decode cX7_cat 86 = .ok (.istore_n 3, 1) := by decide +kernel
theorem dX7_cat_87 : decode cX7_cat 87 = .ok (.iload_n 3, 1) := by decide +kernel
theorem dX7_cat_88 : decode cX7_cat 88 = .ok (.aload_n 0, 1) := by decide +kernel
theorem dX7_cat_89 : decode cX7_cat 89 = .ok (.getfield 33, 3) := by decide +kernel
theorem dX7_cat_92 : decode cX7_cat 92 = .ok (.getfield 87, 3) := by decide +kernel
theorem dX7_cat_95 : decode cX7_cat 95 = .ok (.irem, 1) := by decide +kernel
theorem dX7_cat_96 : decode cX7_cat 96 = .ok (.istore 7, 2) := by decide +kernel
theorem dX7_cat_98 : decode cX7_cat 98 = .ok (.iload_n 3, 1) := by decide +kernel
theorem dX7_cat_99 : decode cX7_cat 99 = .ok (.invokestatic 159, 3) := by decide +kernel
theorem dX7_cat_102 : decode cX7_cat 102 = .ok (.istore_n 3, 1) := by decide +kernel
theorem dX7_cat_103 : decode cX7_cat 103 = .ok (.iload 6, 2) := by decide +kernel
theorem dX7_cat_105 : decode cX7_cat 105 = .ok (.iload 7, 2) := by decide +kernel
theorem dX7_cat_107 : decode cX7_cat 107 = .ok (.if_icmp .eq 20, 3) := by decide +kernel
theorem dX7_cat_110 : decode cX7_cat 110 = .ok (.aload_n 0, 1) := by decide +kernel
theorem dX7_cat_111 : decode cX7_cat 111 = .ok (.getfield 33, 3) := by decide +kernel
theorem dX7_cat_114 : decode cX7_cat 114 = .ok (.getfield 150, 3) := by decide +kernel
theorem dX7_cat_117 : decode cX7_cat 117 = .ok (.iload 6, 2) := by decide +kernel
theorem dX7_cat_119 : decode cX7_cat 119 = .ok (.iload 7, 2) := by decide +kernel
theorem dX7_cat_121 : decode cX7_cat 121 = .ok (.invokevirtual 163, 3) := by decide +kernel
theorem dX7_cat_124 : decode cX7_cat 124 = .ok (.iinc 4 1, 3) := by decide +kernel
theorem dX7_cat_127 : decode cX7_cat 127 = .ok (.iinc 5 1, 3) := by decide +kernel
theorem dX7_cat_130 : decode cX7_cat 130 = .ok (.goto (-65), 3) := by decide +kernel
theorem dX7_cat_133 : decode cX7_cat 133 = .ok (.iload 4, 2) := by decide +kernel
theorem dX7_cat_135 : decode cX7_cat 135 = .ok (.ireturn, 1) := by decide +kernel
theorem dX7_undo_0 : decode cX7_undo 0 = .ok (.aload_n 0, 1) := by decide +kernel
theorem dX7_undo_1 : decode cX7_undo 1 = .ok (.getfield 33, 3) := by decide +kernel
theorem dX7_undo_4 : decode cX7_undo 4 = .ok (.getfield 146, 3) := by decide +kernel
theorem dX7_undo_7 : decode cX7_undo 7 = .ok (.aload_n 0, 1) := by decide +kernel
theorem dX7_undo_8 : decode cX7_undo 8 = .ok (.getfield 33, 3) := by decide +kernel
theorem dX7_undo_11 : decode cX7_undo 11 = .ok (.getfield 150, 3) := by decide +kernel
theorem dX7_undo_14 : decode cX7_undo 14 = .ok (.invokevirtual 167, 3) := by decide +kernel
theorem dX7_undo_17 : decode cX7_undo 17 = .ok (.ifCond .eq 16, 3) := by decide +kernel
theorem dX7_undo_20 : decode cX7_undo 20 = .ok (.aload_n 0, 1) := by decide +kernel
theorem dX7_undo_21 : decode cX7_undo 21 = .ok (.getfield 33, 3) := by decide +kernel
theorem dX7_undo_24 : decode cX7_undo 24 = .ok (.getfield 146, 3) := by decide +kernel
theorem dX7_undo_27 : decode cX7_undo 27 = .ok (.getfield 171, 3) := by decide +kernel
theorem dX7_undo_30 : decode cX7_undo 30 = .ok (.goto 4, 3) := by decide +kernel
theorem dX7_undo_33 : decode cX7_undo 33 = .ok (.iconst (-1), 1) := by decide +kernel
theorem dX7_undo_34 : decode cX7_undo 34 = .ok (.ireturn, 1) := by decide +kernel
theorem dX7_of_0 : decode cX7_of 0 = .ok (.aload_n 0, 1) := by decide +kernel
theorem dX7_of_1 : decode cX7_of 1 = .ok (.iload_n 1, 1) := by decide +kernel
theorem dX7_of_2 : decode cX7_of 2 = .ok (.invokevirtual 174, 3) := by decide +kernel
theorem dX7_of_5 : decode cX7_of 5 = .ok (.ifCond .ne 6, 3) := by decide +kernel
theorem dX7_of_8 : decode cX7_of 8 = .ok (.bipush (-2), 2) := by decide +kernel
theorem dX7_of_10 : decode cX7_of 10 = .ok (.ireturn, 1) := by decide +kernel
theorem dX7_of_11 : decode cX7_of 11 = .ok (.iload_n 2, 1) := by decide +kernel
theorem dX7_of_12 : decode cX7_of 12 = .ok (.ifCond .lt 25, 3) := by decide +kernel
theorem dX7_of_15 : decode cX7_of 15 = .ok (.iload_n 2, 1) := by decide +kernel
theorem dX7_of_16 : decode cX7_of 16 = .ok (.iconst 4, 1) := by decide +kernel
theorem dX7_of_17 : decode cX7_of 17 = .ok (.if_icmp .ge 20, 3) := by decide +kernel
theorem dX7_of_20 : decode cX7_of 20 = .ok (.aload_n 0, 1) := by decide +kernel
theorem dX7_of_21 : decode cX7_of 21 = .ok (.getfield 33, 3) := by decide +kernel
theorem dX7_of_24 : decode cX7_of 24 = .ok (.getfield 150, 3) := by decide +kernel
theorem dX7_of_27 : decode cX7_of 27 = .ok (.getfield 177, 3) := by decide +kernel
theorem dX7_of_30 : decode cX7_of 30 = .ok (.iload_n 1, 1) := by decide +kernel
theorem dX7_of_31 : decode cX7_of 31 = .ok (.iaload, 1) := by decide +kernel
theorem dX7_of_32 : decode cX7_of 32 = .ok (.iload_n 2, 1) := by decide +kernel
theorem dX7_of_33 : decode cX7_of 33 = .ok (.invokestatic 180, 3) := by decide +kernel
theorem dX7_of_36 : decode cX7_of 36 = .ok (.ireturn, 1) := by decide +kernel
theorem dX7_of_37 : decode cX7_of 37 = .ok (.iload_n 2, 1) := by decide +kernel
theorem dX7_of_38 : decode cX7_of 38 = .ok (.tableswitch 86 4 8 #[34, 47, 60, 70, 80], 34) := by decide +kernel
theorem dX7_of_72 : decode cX7_of 72 = .ok (.aload_n 0, 1) := by decide +kernel
theorem dX7_of_73 : decode cX7_of 73 = .ok (.getfield 33, 3) := by decide +kernel
theorem dX7_of_76 : decode cX7_of 76 = .ok (.getfield 150, 3) := by decide +kernel
theorem dX7_of_79 : decode cX7_of 79 = .ok (.getfield 183, 3) := by decide +kernel
theorem dX7_of_82 : decode cX7_of 82 = .ok (.iload_n 1, 1) := by decide +kernel
theorem dX7_of_83 : decode cX7_of 83 = .ok (.iaload, 1) := by decide +kernel
theorem dX7_of_84 : decode cX7_of 84 = .ok (.ireturn, 1) := by decide +kernel
theorem dX7_of_85 : decode cX7_of 85 = .ok (.aload_n 0, 1) := by decide +kernel
theorem dX7_of_86 : decode cX7_of 86 = .ok (.getfield 33, 3) := by decide +kernel
theorem dX7_of_89 : decode cX7_of 89 = .ok (.getfield 150, 3) := by decide +kernel
theorem dX7_of_92 : decode cX7_of 92 = .ok (.getfield 186, 3) := by decide +kernel
theorem dX7_of_95 : decode cX7_of 95 = .ok (.iload_n 1, 1) := by decide +kernel
theorem dX7_of_96 : decode cX7_of 96 = .ok (.iaload, 1) := by decide +kernel
theorem dX7_of_97 : decode cX7_of 97 = .ok (.ireturn, 1) := by decide +kernel
theorem dX7_of_98 : decode cX7_of 98 = .ok (.aload_n 0, 1) := by decide +kernel
theorem dX7_of_99 : decode cX7_of 99 = .ok (.getfield 33, 3) := by decide +kernel
theorem dX7_of_102 : decode cX7_of 102 = .ok (.getfield 90, 3) := by decide +kernel
theorem dX7_of_105 : decode cX7_of 105 = .ok (.iload_n 1, 1) := by decide +kernel
theorem dX7_of_106 : decode cX7_of 106 = .ok (.iaload, 1) := by decide +kernel
theorem dX7_of_107 : decode cX7_of 107 = .ok (.ireturn, 1) := by decide +kernel
theorem dX7_of_108 : decode cX7_of 108 = .ok (.aload_n 0, 1) := by decide +kernel
theorem dX7_of_109 : decode cX7_of 109 = .ok (.getfield 33, 3) := by decide +kernel
theorem dX7_of_112 : decode cX7_of 112 = .ok (.getfield 93, 3) := by decide +kernel
theorem dX7_of_115 : decode cX7_of 115 = .ok (.iload_n 1, 1) := by decide +kernel
theorem dX7_of_116 : decode cX7_of 116 = .ok (.iaload, 1) := by decide +kernel
theorem dX7_of_117 : decode cX7_of 117 = .ok (.ireturn, 1) := by decide +kernel
theorem dX7_of_118 : decode cX7_of 118 = .ok (.aload_n 0, 1) := by decide +kernel
theorem dX7_of_119 : decode cX7_of 119 = .ok (.iload_n 1, 1) := by decide +kernel
theorem dX7_of_120 : decode cX7_of 120 = .ok (.invokevirtual 189, 3) := by decide +kernel
theorem dX7_of_123 : decode cX7_of 123 = .ok (.ireturn, 1) := by decide +kernel
theorem dX7_of_124 : decode cX7_of 124 = .ok (.bipush (-2), 2) := by decide +kernel
theorem dX7_of_126 : decode cX7_of 126 = .ok (.ireturn, 1) := by decide +kernel
theorem dX7_told_0 : decode cX7_told 0 = .ok (.aload_n 0, 1) := by decide +kernel
theorem dX7_told_1 : decode cX7_told 1 = .ok (.iload_n 1, 1) := by decide +kernel
theorem dX7_told_2 : decode cX7_told 2 = .ok (.invokevirtual 120, 3) := by decide +kernel
theorem dX7_told_5 : decode cX7_told 5 = .ok (.ifCond .eq 20, 3) := by decide +kernel
theorem dX7_told_8 : decode cX7_told 8 = .ok (.aload_n 0, 1) := by decide +kernel
theorem dX7_told_9 : decode cX7_told 9 = .ok (.iload_n 2, 1) := by decide +kernel
theorem dX7_told_10 : decode cX7_told 10 = .ok (.invokevirtual 174, 3) := by decide +kernel
theorem dX7_told_13 : decode cX7_told 13 = .ok (.ifCond .eq 12, 3) := by decide +kernel
theorem dX7_told_16 : decode cX7_told 16 = .ok (.iload_n 3, 1) := by decide +kernel
theorem dX7_told_17 : decode cX7_told 17 = .ok (.ifCond .lt 8, 3) := by decide +kernel
theorem dX7_told_20 : decode cX7_told 20 = .ok (.iload_n 3, 1) := by decide +kernel
theorem dX7_told_21 : decode cX7_told 21 = .ok (.iconst 4, 1) := by decide +kernel
theorem dX7_told_22 : decode cX7_told 22 = .ok (.if_icmp .lt 6, 3) := by decide +kernel
theorem dX7_told_25 : decode cX7_told 25 = .ok (.bipush (-2), 2) := by decide +kernel
theorem dX7_told_27 : decode cX7_told 27 = .ok (.ireturn, 1) := by decide +kernel
theorem dX7_told_28 : decode cX7_told 28 = .ok (.aload_n 0, 1) := by decide +kernel
theorem dX7_told_29 : decode cX7_told 29 = .ok (.getfield 43, 3) := by decide +kernel
theorem dX7_told_32 : decode cX7_told 32 = .ok (.aload_n 0, 1) := by decide +kernel
theorem dX7_told_33 : decode cX7_told 33 = .ok (.getfield 33, 3) := by decide +kernel
theorem dX7_told_36 : decode cX7_told 36 = .ok (.getfield 150, 3) := by decide +kernel
theorem dX7_told_39 : decode cX7_told 39 = .ok (.invokevirtual 192, 3) := by decide +kernel
theorem dX7_told_42 : decode cX7_told 42 = .ok (.aload_n 0, 1) := by decide +kernel
theorem dX7_told_43 : decode cX7_told 43 = .ok (.aload_n 0, 1) := by decide +kernel
theorem dX7_told_44 : decode cX7_told 44 = .ok (.getfield 26, 3) := by decide +kernel
theorem dX7_told_47 : decode cX7_told 47 = .ok (.iload_n 1, 1) := by decide +kernel
theorem dX7_told_48 : decode cX7_told 48 = .ok (.aaload, 1) := by decide +kernel
theorem dX7_told_49 : decode cX7_told 49 = .ok (.invokevirtual 195, 3) := by decide +kernel
theorem dX7_told_52 : decode cX7_told 52 = .ok (.aload_n 0, 1) := by decide +kernel
theorem dX7_told_53 : decode cX7_told 53 = .ok (.getfield 43, 3) := by decide +kernel
theorem dX7_told_56 : decode cX7_told 56 = .ok (.getfield 177, 3) := by decide +kernel
theorem dX7_told_59 : decode cX7_told 59 = .ok (.iload_n 2, 1) := by decide +kernel
theorem dX7_told_60 : decode cX7_told 60 = .ok (.iaload, 1) := by decide +kernel
theorem dX7_told_61 : decode cX7_told 61 = .ok (.iload_n 3, 1) := by decide +kernel
theorem dX7_told_62 : decode cX7_told 62 = .ok (.invokestatic 180, 3) := by decide +kernel
theorem dX7_told_65 : decode cX7_told 65 = .ok (.ireturn, 1) := by decide +kernel
theorem dX7_verdict_0 : decode cX7_verdict 0 = .ok (.iload_n 1, 1) := by decide +kernel
theorem dX7_verdict_1 : decode cX7_verdict 1 = .ok (.ifCond .lt 16, 3) := by decide +kernel
theorem dX7_verdict_4 : decode cX7_verdict 4 = .ok (.iload_n 1, 1) := by decide +kernel
theorem dX7_verdict_5 : decode cX7_verdict 5 = .ok (.iconst 1, 1) := by decide +kernel
theorem dX7_verdict_6 : decode cX7_verdict 6 = .ok (.aload_n 0, 1) := by decide +kernel
theorem dX7_verdict_7 : decode cX7_verdict 7 = .ok (.getfield 33, 3) := by decide +kernel
theorem dX7_verdict_10 : decode cX7_verdict 10 = .ok (.getfield 100, 3) := by decide +kernel
theorem dX7_verdict_13 : decode cX7_verdict 13 = .ok (.ishl, 1) := by decide +kernel
theorem dX7_verdict_14 : decode cX7_verdict 14 = .ok (.if_icmp .lt 5, 3) := by decide +kernel
theorem dX7_verdict_17 : decode cX7_verdict 17 = .ok (.iconst (-1), 1) := by decide +kernel
theorem dX7_verdict_18 : decode cX7_verdict 18 = .ok (.ireturn, 1) := by decide +kernel
theorem dX7_verdict_19 : decode cX7_verdict 19 = .ok (.iload_n 1, 1) := by decide +kernel
theorem dX7_verdict_20 : decode cX7_verdict 20 = .ok (.invokestatic 199, 3) := by decide +kernel
theorem dX7_verdict_23 : decode cX7_verdict 23 = .ok (.iconst 2, 1) := by decide +kernel
theorem dX7_verdict_24 : decode cX7_verdict 24 = .ok (.if_icmp .ge 5, 3) := by decide +kernel
theorem dX7_verdict_27 : decode cX7_verdict 27 = .ok (.iconst 0, 1) := by decide +kernel
theorem dX7_verdict_28 : decode cX7_verdict 28 = .ok (.ireturn, 1) := by decide +kernel
theorem dX7_verdict_29 : decode cX7_verdict 29 = .ok (.aload_n 0, 1) := by decide +kernel
theorem dX7_verdict_30 : decode cX7_verdict 30 = .ok (.iload_n 1, 1) := by decide +kernel
theorem dX7_verdict_31 : decode cX7_verdict 31 = .ok (.invokevirtual 204, 3) := by decide +kernel
theorem dX7_verdict_34 : decode cX7_verdict 34 = .ok (.iconst 1, 1) := by decide +kernel
theorem dX7_verdict_35 : decode cX7_verdict 35 = .ok (.aload_n 0, 1) := by decide +kernel
theorem dX7_verdict_36 : decode cX7_verdict 36 = .ok (.getfield 33, 3) := by decide +kernel
theorem dX7_verdict_39 : decode cX7_verdict 39 = .ok (.getfield 87, 3) := by decide +kernel
theorem dX7_verdict_42 : decode cX7_verdict 42 = .ok (.ishl, 1) := by decide +kernel
theorem dX7_verdict_43 : decode cX7_verdict 43 = .ok (.iconst 1, 1) := by decide +kernel
theorem dX7_verdict_44 : decode cX7_verdict 44 = .ok (.isub, 1) := by decide +kernel
theorem dX7_verdict_45 : decode cX7_verdict 45 = .ok (.istore_n 2, 1) := by decide +kernel
theorem dX7_verdict_46 : decode cX7_verdict 46 = .ok (.aload_n 0, 1) := by decide +kernel
theorem dX7_verdict_47 : decode cX7_verdict 47 = .ok (.iload_n 2, 1) := by decide +kernel
theorem dX7_verdict_48 : decode cX7_verdict 48 = .ok (.iload_n 1, 1) := by decide +kernel
theorem dX7_verdict_49 : decode cX7_verdict 49 = .ok (.invokevirtual 207, 3) := by decide +kernel
theorem dX7_verdict_52 : decode cX7_verdict 52 = .ok (.ifCond .ne 5, 3) := by decide +kernel
theorem dX7_verdict_55 : decode cX7_verdict 55 = .ok (.iconst (-1), 1) := by decide +kernel
theorem dX7_verdict_56 : decode cX7_verdict 56 = .ok (.ireturn, 1) := by decide +kernel
theorem dX7_verdict_57 : decode cX7_verdict 57 = .ok (.iconst 0, 1) := by decide +kernel
theorem dX7_verdict_58 : decode cX7_verdict 58 = .ok (.istore_n 3, 1) := by decide +kernel
theorem dX7_verdict_59 : decode cX7_verdict 59 = .ok (.iload_n 3, 1) := by decide +kernel
theorem dX7_verdict_60 : decode cX7_verdict 60 = .ok (.aload_n 0, 1) := by decide +kernel
theorem dX7_verdict_61 : decode cX7_verdict 61 = .ok (.getfield 33, 3) := by decide +kernel
theorem dX7_verdict_64 : decode cX7_verdict 64 = .ok (.getfield 87, 3) := by decide +kernel
theorem dX7_verdict_67 : decode cX7_verdict 67 = .ok (.if_icmp .ge 20, 3) := by decide +kernel
theorem dX7_verdict_70 : decode cX7_verdict 70 = .ok (.aload_n 0, 1) := by decide +kernel
theorem dX7_verdict_71 : decode cX7_verdict 71 = .ok (.getfield 65, 3) := by decide +kernel
theorem dX7_verdict_74 : decode cX7_verdict 74 = .ok (.iload_n 3, 1) := by decide +kernel
theorem dX7_verdict_75 : decode cX7_verdict 75 = .ok (.aload_n 0, 1) := by decide +kernel
theorem dX7_verdict_76 : decode cX7_verdict 76 = .ok (.iload_n 3, 1) := by decide +kernel
theorem dX7_verdict_77 : decode cX7_verdict 77 = .ok (.invokevirtual 189, 3) := by decide +kernel
theorem dX7_verdict_80 : decode cX7_verdict 80 = .ok (.iastore, 1) := by decide +kernel
theorem dX7_verdict_81 : decode cX7_verdict 81 = .ok (.iinc 3 1, 3) := by decide +kernel
theorem dX7_verdict_84 : decode cX7_verdict 84 = .ok (.goto (-25), 3) := by decide +kernel
theorem dX7_verdict_87 : decode cX7_verdict 87 = .ok (.iload_n 2, 1) := by decide +kernel
theorem dX7_verdict_88 : decode cX7_verdict 88 = .ok (.istore_n 3, 1) := by decide +kernel
theorem dX7_verdict_89 : decode cX7_verdict 89 = .ok (.iload_n 2, 1) := by decide +kernel
theorem dX7_verdict_90 : decode cX7_verdict 90 = .ok (.iconst 1, 1) := by decide +kernel
theorem dX7_verdict_91 : decode cX7_verdict 91 = .ok (.isub, 1) := by decide +kernel
theorem dX7_verdict_92 : decode cX7_verdict 92 = .ok (.istore 4, 2) := by decide +kernel
theorem dX7_verdict_94 : decode cX7_verdict 94 = .ok (.iload 4, 2) := by decide +kernel
theorem dX7_verdict_96 : decode cX7_verdict 96 = .ok (.ifCond .le 32, 3) := by decide +kernel
theorem dX7_verdict_99 : decode cX7_verdict 99 = .ok (.aload_n 0, 1) := by decide +kernel
theorem dX7_verdict_100 : decode cX7_verdict 100 = .ok (.iload 4, 2) := by decide +kernel
theorem dX7_verdict_102 : decode cX7_verdict 102 = .ok (.iload_n 3, 1) := by decide +kernel
theorem dX7_verdict_103 : decode cX7_verdict 103 = .ok (.invokevirtual 211, 3) := by decide +kernel
theorem dX7_verdict_106 : decode cX7_verdict 106 = .ok (.ifCond .eq 16, 3) := by decide +kernel
theorem dX7_verdict_109 : decode cX7_verdict 109 = .ok (.aload_n 0, 1) := by decide +kernel
theorem dX7_verdict_110 : decode cX7_verdict 110 = .ok (.iload 4, 2) := by decide +kernel
theorem dX7_verdict_112 : decode cX7_verdict 112 = .ok (.iload_n 1, 1) := by decide +kernel
theorem dX7_verdict_113 : decode cX7_verdict 113 = .ok (.invokevirtual 207, 3) := by decide +kernel
theorem dX7_verdict_116 : decode cX7_verdict 116 = .ok (.ifCond .eq 6, 3) := by decide +kernel
theorem dX7_verdict_119 : decode cX7_verdict 119 = .ok (.iload 4, 2) := by decide +kernel
theorem dX7_verdict_121 : decode cX7_verdict 121 = .ok (.istore_n 3, 1) := by decide +kernel
theorem dX7_verdict_122 : decode cX7_verdict 122 = .ok (.iinc 4 (-1), 3) := by decide +kernel
theorem dX7_verdict_125 : decode cX7_verdict 125 = .ok (.goto (-31), 3) := by decide +kernel
theorem dX7_verdict_128 : decode cX7_verdict 128 = .ok (.iload_n 3, 1) := by decide +kernel
theorem dX7_verdict_129 : decode cX7_verdict 129 = .ok (.ireturn, 1) := by decide +kernel
theorem dX7_quarrel_0 : decode cX7_quarrel 0 = .ok (.aload_n 0, 1) := by decide +kernel
theorem dX7_quarrel_1 : decode cX7_quarrel 1 = .ok (.iload_n 1, 1) := by decide +kernel
theorem dX7_quarrel_2 : decode cX7_quarrel 2 = .ok (.invokevirtual 214, 3) := by decide +kernel
theorem dX7_quarrel_5 : decode cX7_quarrel 5 = .ok (.ifCond .ne 5, 3) := by decide +kernel
theorem dX7_quarrel_8 : decode cX7_quarrel 8 = .ok (.iconst (-1), 1) := by decide +kernel
theorem dX7_quarrel_9 : decode cX7_quarrel 9 = .ok (.ireturn, 1) := by decide +kernel
theorem dX7_quarrel_10 : decode cX7_quarrel 10 = .ok (.iconst (-1), 1) := by decide +kernel
theorem dX7_quarrel_11 : decode cX7_quarrel 11 = .ok (.istore_n 2, 1) := by decide +kernel
theorem dX7_quarrel_12 : decode cX7_quarrel 12 = .ok (.iconst 0, 1) := by decide +kernel
theorem dX7_quarrel_13 : decode cX7_quarrel 13 = .ok (.istore_n 3, 1) := by decide +kernel
theorem dX7_quarrel_14 : decode cX7_quarrel 14 = .ok (.iload_n 3, 1) := by decide +kernel
theorem dX7_quarrel_15 : decode cX7_quarrel 15 = .ok (.aload_n 0, 1) := by decide +kernel
theorem dX7_quarrel_16 : decode cX7_quarrel 16 = .ok (.getfield 33, 3) := by decide +kernel
theorem dX7_quarrel_19 : decode cX7_quarrel 19 = .ok (.getfield 87, 3) := by decide +kernel
theorem dX7_quarrel_22 : decode cX7_quarrel 22 = .ok (.if_icmp .ge 60, 3) := by decide +kernel
theorem dX7_quarrel_25 : decode cX7_quarrel 25 = .ok (.aload_n 0, 1) := by decide +kernel
theorem dX7_quarrel_26 : decode cX7_quarrel 26 = .ok (.getfield 33, 3) := by decide +kernel
theorem dX7_quarrel_29 : decode cX7_quarrel 29 = .ok (.getfield 150, 3) := by decide +kernel
theorem dX7_quarrel_32 : decode cX7_quarrel 32 = .ok (.getfield 183, 3) := by decide +kernel
theorem dX7_quarrel_35 : decode cX7_quarrel 35 = .ok (.iload_n 3, 1) := by decide +kernel
theorem dX7_quarrel_36 : decode cX7_quarrel 36 = .ok (.iaload, 1) := by decide +kernel
theorem dX7_quarrel_37 : decode cX7_quarrel 37 = .ok (.iload_n 1, 1) := by decide +kernel
theorem dX7_quarrel_38 : decode cX7_quarrel 38 = .ok (.if_icmp .ne 38, 3) := by decide +kernel
theorem dX7_quarrel_41 : decode cX7_quarrel 41 = .ok (.iload_n 2, 1) := by decide +kernel
theorem dX7_quarrel_42 : decode cX7_quarrel 42 = .ok (.iconst (-1), 1) := by decide +kernel
theorem dX7_quarrel_43 : decode cX7_quarrel 43 = .ok (.if_icmp .eq 31, 3) := by decide +kernel
theorem dX7_quarrel_46 : decode cX7_quarrel 46 = .ok (.aload_n 0, 1) := by decide +kernel
theorem dX7_quarrel_47 : decode cX7_quarrel 47 = .ok (.getfield 33, 3) := by decide +kernel
theorem dX7_quarrel_50 : decode cX7_quarrel 50 = .ok (.getfield 150, 3) := by decide +kernel
theorem dX7_quarrel_53 : decode cX7_quarrel 53 = .ok (.getfield 177, 3) := by decide +kernel
theorem dX7_quarrel_56 : decode cX7_quarrel 56 = .ok (.iload_n 2, 1) := by decide +kernel
theorem dX7_quarrel_57 : decode cX7_quarrel 57 = .ok (.iaload, 1) := by decide +kernel
theorem dX7_quarrel_58 : decode cX7_quarrel 58 = .ok (.aload_n 0, 1) := by decide +kernel
theorem dX7_quarrel_59 : decode cX7_quarrel 59 = .ok (.getfield 33, 3) := by decide +kernel
theorem dX7_quarrel_62 : decode cX7_quarrel 62 = .ok (.getfield 150, 3) := by decide +kernel
theorem dX7_quarrel_65 : decode cX7_quarrel 65 = .ok (.getfield 177, 3) := by decide +kernel
theorem dX7_quarrel_68 : decode cX7_quarrel 68 = .ok (.iload_n 3, 1) := by decide +kernel
theorem dX7_quarrel_69 : decode cX7_quarrel 69 = .ok (.iaload, 1) := by decide +kernel
theorem dX7_quarrel_70 : decode cX7_quarrel 70 = .ok (.invokestatic 217, 3) := by decide +kernel
theorem dX7_quarrel_73 : decode cX7_quarrel 73 = .ok (.ireturn, 1) := by decide +kernel
theorem dX7_quarrel_74 : decode cX7_quarrel 74 = .ok (.iload_n 3, 1) := by decide +kernel
theorem dX7_quarrel_75 : decode cX7_quarrel 75 = .ok (.istore_n 2, 1) := by decide +kernel
theorem dX7_quarrel_76 : decode cX7_quarrel 76 = .ok (.iinc 3 1, 3) := by decide +kernel
theorem dX7_quarrel_79 : decode cX7_quarrel 79 = .ok (.goto (-65), 3) := by decide +kernel
theorem dX7_quarrel_82 : decode cX7_quarrel 82 = .ok (.iconst 0, 1) := by decide +kernel
theorem dX7_quarrel_83 : decode cX7_quarrel 83 = .ok (.ireturn, 1) := by decide +kernel
theorem dX7_shown_0 : decode cX7_shown 0 = .ok (.iload_n 1, 1) := by decide +kernel
theorem dX7_shown_1 : decode cX7_shown 1 = .ok (.iconst (-1), 1) := by decide +kernel
theorem dX7_shown_2 : decode cX7_shown 2 = .ok (.if_icmp .ne 21, 3) := by decide +kernel
theorem dX7_shown_5 : decode cX7_shown 5 = .ok (.aload_n 0, 1) := by decide +kernel
theorem dX7_shown_6 : decode cX7_shown 6 = .ok (.getfield 33, 3) := by decide +kernel
theorem dX7_shown_9 : decode cX7_shown 9 = .ok (.iconst 0, 1) := by decide +kernel
theorem dX7_shown_10 : decode cX7_shown 10 = .ok (.putfield 220, 3) := by decide +kernel
theorem dX7_shown_13 : decode cX7_shown 13 = .ok (.aload_n 0, 1) := by decide +kernel
theorem dX7_shown_14 : decode cX7_shown 14 = .ok (.getfield 33, 3) := by decide +kernel
theorem dX7_shown_17 : decode cX7_shown 17 = .ok (.iconst 0, 1) := by decide +kernel
theorem dX7_shown_18 : decode cX7_shown 18 = .ok (.putfield 223, 3) := by decide +kernel
theorem dX7_shown_21 : decode cX7_shown 21 = .ok (.iconst 0, 1) := by decide +kernel
theorem dX7_shown_22 : decode cX7_shown 22 = .ok (.ireturn, 1) := by decide +kernel
theorem dX7_shown_23 : decode cX7_shown 23 = .ok (.aload_n 0, 1) := by decide +kernel
theorem dX7_shown_24 : decode cX7_shown 24 = .ok (.iload_n 1, 1) := by decide +kernel
theorem dX7_shown_25 : decode cX7_shown 25 = .ok (.invokevirtual 226, 3) := by decide +kernel
theorem dX7_shown_28 : decode cX7_shown 28 = .ok (.ifCond .eq 14, 3) := by decide +kernel
theorem dX7_shown_31 : decode cX7_shown 31 = .ok (.aload_n 0, 1) := by decide +kernel
theorem dX7_shown_32 : decode cX7_shown 32 = .ok (.getfield 33, 3) := by decide +kernel
theorem dX7_shown_35 : decode cX7_shown 35 = .ok (.getfield 223, 3) := by decide +kernel
theorem dX7_shown_38 : decode cX7_shown 38 = .ok (.iconst 4, 1) := by decide +kernel
theorem dX7_shown_39 : decode cX7_shown 39 = .ok (.if_icmp .lt 6, 3) := by decide +kernel
theorem dX7_shown_42 : decode cX7_shown 42 = .ok (.bipush (-2), 2) := by decide +kernel
theorem dX7_shown_44 : decode cX7_shown 44 = .ok (.ireturn, 1) := by decide +kernel
theorem dX7_shown_45 : decode cX7_shown 45 = .ok (.aload_n 0, 1) := by decide +kernel
theorem dX7_shown_46 : decode cX7_shown 46 = .ok (.getfield 33, 3) := by decide +kernel
theorem dX7_shown_49 : decode cX7_shown 49 = .ok (.aload_n 0, 1) := by decide +kernel
theorem dX7_shown_50 : decode cX7_shown 50 = .ok (.getfield 33, 3) := by decide +kernel
theorem dX7_shown_53 : decode cX7_shown 53 = .ok (.getfield 220, 3) := by decide +kernel
theorem dX7_shown_56 : decode cX7_shown 56 = .ok (.aload_n 0, 1) := by decide +kernel
theorem dX7_shown_57 : decode cX7_shown 57 = .ok (.getfield 33, 3) := by decide +kernel
theorem dX7_shown_60 : decode cX7_shown 60 = .ok (.getfield 223, 3) := by decide +kernel
theorem dX7_shown_63 : decode cX7_shown 63 = .ok (.iload_n 1, 1) := by decide +kernel
theorem dX7_shown_64 : decode cX7_shown 64 = .ok (.invokestatic 229, 3) := by decide +kernel
theorem dX7_shown_67 : decode cX7_shown 67 = .ok (.putfield 220, 3) := by decide +kernel
theorem dX7_shown_70 : decode cX7_shown 70 = .ok (.aload_n 0, 1) := by decide +kernel
theorem dX7_shown_71 : decode cX7_shown 71 = .ok (.getfield 33, 3) := by decide +kernel
theorem dX7_shown_74 : decode cX7_shown 74 = .ok (.dup, 1) := by decide +kernel
theorem dX7_shown_75 : decode cX7_shown 75 = .ok (.getfield 223, 3) := by decide +kernel
theorem dX7_shown_78 : decode cX7_shown 78 = .ok (.iconst 1, 1) := by decide +kernel
theorem dX7_shown_79 : decode cX7_shown 79 = .ok (.iadd, 1) := by decide +kernel
theorem dX7_shown_80 : decode cX7_shown 80 = .ok (.putfield 223, 3) := by decide +kernel
theorem dX7_shown_83 : decode cX7_shown 83 = .ok (.aload_n 0, 1) := by decide +kernel
theorem dX7_shown_84 : decode cX7_shown 84 = .ok (.getfield 33, 3) := by decide +kernel
theorem dX7_shown_87 : decode cX7_shown 87 = .ok (.getfield 223, 3) := by decide +kernel
theorem dX7_shown_90 : decode cX7_shown 90 = .ok (.ireturn, 1) := by decide +kernel
theorem dX7_how_0 : decode cX7_how 0 = .ok (.aload_n 0, 1) := by decide +kernel
theorem dX7_how_1 : decode cX7_how 1 = .ok (.iload_n 1, 1) := by decide +kernel
theorem dX7_how_2 : decode cX7_how 2 = .ok (.invokevirtual 174, 3) := by decide +kernel
theorem dX7_how_5 : decode cX7_how 5 = .ok (.ifCond .eq 23, 3) := by decide +kernel
theorem dX7_how_8 : decode cX7_how 8 = .ok (.iload_n 2, 1) := by decide +kernel
theorem dX7_how_9 : decode cX7_how 9 = .ok (.ifCond .lt 19, 3) := by decide +kernel
theorem dX7_how_12 : decode cX7_how 12 = .ok (.iload_n 2, 1) := by decide +kernel
theorem dX7_how_13 : decode cX7_how 13 = .ok (.iconst 3, 1) := by decide +kernel
theorem dX7_how_14 : decode cX7_how 14 = .ok (.if_icmp .gt 14, 3) := by decide +kernel
theorem dX7_how_17 : decode cX7_how 17 = .ok (.iload_n 3, 1) := by decide +kernel
theorem dX7_how_18 : decode cX7_how 18 = .ok (.bipush (-2), 2) := by decide +kernel
theorem dX7_how_20 : decode cX7_how 20 = .ok (.if_icmp .lt 8, 3) := by decide +kernel
theorem dX7_how_23 : decode cX7_how 23 = .ok (.iload_n 3, 1) := by decide +kernel
theorem dX7_how_24 : decode cX7_how 24 = .ok (.iload_n 2, 1) := by decide +kernel
theorem dX7_how_25 : decode cX7_how 25 = .ok (.if_icmp .lt 6, 3) := by decide +kernel
theorem dX7_how_28 : decode cX7_how 28 = .ok (.bipush (-3), 2) := by decide +kernel
theorem dX7_how_30 : decode cX7_how 30 = .ok (.ireturn, 1) := by decide +kernel
theorem dX7_how_31 : decode cX7_how 31 = .ok (.aload_n 0, 1) := by decide +kernel
theorem dX7_how_32 : decode cX7_how 32 = .ok (.iload_n 1, 1) := by decide +kernel
theorem dX7_how_33 : decode cX7_how 33 = .ok (.iload_n 2, 1) := by decide +kernel
theorem dX7_how_34 : decode cX7_how 34 = .ok (.invokevirtual 232, 3) := by decide +kernel
theorem dX7_how_37 : decode cX7_how 37 = .ok (.iload_n 3, 1) := by decide +kernel
theorem dX7_how_38 : decode cX7_how 38 = .ok (.iconst (-1), 1) := by decide +kernel
theorem dX7_how_39 : decode cX7_how 39 = .ok (.if_icmp .ne 11, 3) := by decide +kernel
theorem dX7_how_42 : decode cX7_how 42 = .ok (.aload_n 0, 1) := by decide +kernel
theorem dX7_how_43 : decode cX7_how 43 = .ok (.getfield 57, 3) := by decide +kernel
theorem dX7_how_46 : decode cX7_how 46 = .ok (.getfield 235, 3) := by decide +kernel
theorem dX7_how_49 : decode cX7_how 49 = .ok (.ireturn, 1) := by decide +kernel
theorem dX7_how_50 : decode cX7_how 50 = .ok (.iload_n 3, 1) := by decide +kernel
theorem dX7_how_51 : decode cX7_how 51 = .ok (.bipush (-2), 2) := by decide +kernel
theorem dX7_how_53 : decode cX7_how 53 = .ok (.if_icmp .ne 25, 3) := by decide +kernel
theorem dX7_how_56 : decode cX7_how 56 = .ok (.aload_n 0, 1) := by decide +kernel
theorem dX7_how_57 : decode cX7_how 57 = .ok (.getfield 57, 3) := by decide +kernel
theorem dX7_how_60 : decode cX7_how 60 = .ok (.getfield 235, 3) := by decide +kernel
theorem dX7_how_63 : decode cX7_how 63 = .ok (.ifCond .le 13, 3) := by decide +kernel
theorem dX7_how_66 : decode cX7_how 66 = .ok (.aload_n 0, 1) := by decide +kernel
theorem dX7_how_67 : decode cX7_how 67 = .ok (.getfield 57, 3) := by decide +kernel
theorem dX7_how_70 : decode cX7_how 70 = .ok (.getfield 238, 3) := by decide +kernel
theorem dX7_how_73 : decode cX7_how 73 = .ok (.goto 4, 3) := by decide +kernel
theorem dX7_how_76 : decode cX7_how 76 = .ok (.iconst 0, 1) := by decide +kernel
theorem dX7_how_77 : decode cX7_how 77 = .ok (.ireturn, 1) := by decide +kernel
theorem dX7_how_78 : decode cX7_how 78 = .ok (.aload_n 0, 1) := by decide +kernel
theorem dX7_how_79 : decode cX7_how 79 = .ok (.getfield 57, 3) := by decide +kernel
theorem dX7_how_82 : decode cX7_how 82 = .ok (.getfield 235, 3) := by decide +kernel
theorem dX7_how_85 : decode cX7_how 85 = .ok (.ifCond .le 15, 3) := by decide +kernel
theorem dX7_how_88 : decode cX7_how 88 = .ok (.aload_n 0, 1) := by decide +kernel
theorem dX7_how_89 : decode cX7_how 89 = .ok (.getfield 57, 3) := by decide +kernel
theorem dX7_how_92 : decode cX7_how 92 = .ok (.getfield 241, 3) := by decide +kernel
theorem dX7_how_95 : decode cX7_how 95 = .ok (.iload_n 3, 1) := by decide +kernel
theorem dX7_how_96 : decode cX7_how 96 = .ok (.iaload, 1) := by decide +kernel
theorem dX7_how_97 : decode cX7_how 97 = .ok (.goto 5, 3) := by decide +kernel
theorem dX7_how_100 : decode cX7_how 100 = .ok (.bipush (-3), 2) := by decide +kernel
theorem dX7_how_102 : decode cX7_how 102 = .ok (.ireturn, 1) := by decide +kernel
theorem dX7_supper_0 : decode cX7_supper 0 = .ok (.aload_n 0, 1) := by decide +kernel
theorem dX7_supper_1 : decode cX7_supper 1 = .ok (.iload_n 1, 1) := by decide +kernel
theorem dX7_supper_2 : decode cX7_supper 2 = .ok (.invokevirtual 120, 3) := by decide +kernel
theorem dX7_supper_5 : decode cX7_supper 5 = .ok (.ifCond .eq 16, 3) := by decide +kernel
theorem dX7_supper_8 : decode cX7_supper 8 = .ok (.aload_n 0, 1) := by decide +kernel
theorem dX7_supper_9 : decode cX7_supper 9 = .ok (.iload_n 2, 1) := by decide +kernel
theorem dX7_supper_10 : decode cX7_supper 10 = .ok (.invokevirtual 174, 3) := by decide +kernel
theorem dX7_supper_13 : decode cX7_supper 13 = .ok (.ifCond .eq 8, 3) := by decide +kernel
theorem dX7_supper_16 : decode cX7_supper 16 = .ok (.iload_n 3, 1) := by decide +kernel
theorem dX7_supper_17 : decode cX7_supper 17 = .ok (.iconst (-1), 1) := by decide +kernel
theorem dX7_supper_18 : decode cX7_supper 18 = .ok (.if_icmp .ge 5, 3) := by decide +kernel
theorem dX7_supper_21 : decode cX7_supper 21 = .ok (.iconst (-1), 1) := by decide +kernel
theorem dX7_supper_22 : decode cX7_supper 22 = .ok (.ireturn, 1) := by decide +kernel
theorem dX7_supper_23 : decode cX7_supper 23 = .ok (.iconst 0, 1) := by decide +kernel
theorem dX7_supper_24 : decode cX7_supper 24 = .ok (.istore 4, 2) := by decide +kernel
theorem dX7_supper_26 : decode cX7_supper 26 = .ok (.iconst 0, 1) := by decide +kernel
theorem dX7_supper_27 : decode cX7_supper 27 = .ok (.istore 5, 2) := by decide +kernel
theorem dX7_supper_29 : decode cX7_supper 29 = .ok (.iload 5, 2) := by decide +kernel
theorem dX7_supper_31 : decode cX7_supper 31 = .ok (.aload_n 0, 1) := by decide +kernel
theorem dX7_supper_32 : decode cX7_supper 32 = .ok (.getfield 33, 3) := by decide +kernel
theorem dX7_supper_35 : decode cX7_supper 35 = .ok (.getfield 87, 3) := by decide +kernel
theorem dX7_supper_38 : decode cX7_supper 38 = .ok (.if_icmp .ge 105, 3) := by decide +kernel
theorem dX7_supper_41 : decode cX7_supper 41 = .ok (.iload 5, 2) := by decide +kernel
theorem dX7_supper_43 : decode cX7_supper 43 = .ok (.iconst 1, 1) := by decide +kernel
theorem dX7_supper_44 : decode cX7_supper 44 = .ok (.iadd, 1) := by decide +kernel
theorem dX7_supper_45 : decode cX7_supper 45 = .ok (.istore 6, 2) := by decide +kernel
theorem dX7_supper_47 : decode cX7_supper 47 = .ok (.iload 6, 2) := by decide +kernel
theorem dX7_supper_49 : decode cX7_supper 49 = .ok (.aload_n 0, 1) := by decide +kernel
theorem dX7_supper_50 : decode cX7_supper 50 = .ok (.getfield 33, 3) := by decide +kernel
theorem dX7_supper_53 : decode cX7_supper 53 = .ok (.getfield 87, 3) := by decide +kernel
theorem dX7_supper_56 : decode cX7_supper 56 = .ok (.if_icmp .ge 81, 3) := by decide +kernel
theorem dX7_supper_59 : decode cX7_supper 59 = .ok (.aload_n 0, 1) := by decide +kernel
theorem dX7_supper_60 : decode cX7_supper 60 = .ok (.getfield 43, 3) := by decide +kernel
theorem dX7_supper_63 : decode cX7_supper 63 = .ok (.aload_n 0, 1) := by decide +kernel
theorem dX7_supper_64 : decode cX7_supper 64 = .ok (.getfield 33, 3) := by decide +kernel
theorem dX7_supper_67 : decode cX7_supper 67 = .ok (.getfield 150, 3) := by decide +kernel
theorem dX7_supper_70 : decode cX7_supper 70 = .ok (.invokevirtual 192, 3) := by decide +kernel
theorem dX7_supper_73 : decode cX7_supper 73 = .ok (.aload_n 0, 1) := by decide +kernel
theorem dX7_supper_74 : decode cX7_supper 74 = .ok (.getfield 43, 3) := by decide +kernel
theorem dX7_supper_77 : decode cX7_supper 77 = .ok (.iload 5, 2) := by decide +kernel
theorem dX7_supper_79 : decode cX7_supper 79 = .ok (.iload 6, 2) := by decide +kernel
theorem dX7_supper_81 : decode cX7_supper 81 = .ok (.invokevirtual 163, 3) := by decide +kernel
theorem dX7_supper_84 : decode cX7_supper 84 = .ok (.aload_n 0, 1) := by decide +kernel
theorem dX7_supper_85 : decode cX7_supper 85 = .ok (.aload_n 0, 1) := by decide +kernel
theorem dX7_supper_86 : decode cX7_supper 86 = .ok (.getfield 26, 3) := by decide +kernel
theorem dX7_supper_89 : decode cX7_supper 89 = .ok (.iload_n 1, 1) := by decide +kernel
theorem dX7_supper_90 : decode cX7_supper 90 = .ok (.aaload, 1) := by decide +kernel
theorem dX7_supper_91 : decode cX7_supper 91 = .ok (.invokevirtual 195, 3) := by decide +kernel
theorem dX7_supper_94 : decode cX7_supper 94 = .ok (.aload_n 0, 1) := by decide +kernel
theorem dX7_supper_95 : decode cX7_supper 95 = .ok (.getfield 43, 3) := by decide +kernel
theorem dX7_supper_98 : decode cX7_supper 98 = .ok (.getfield 177, 3) := by decide +kernel
theorem dX7_supper_101 : decode cX7_supper 101 = .ok (.iload_n 2, 1) := by decide +kernel
theorem dX7_supper_102 : decode cX7_supper 102 = .ok (.iaload, 1) := by decide +kernel
theorem dX7_supper_103 : decode cX7_supper 103 = .ok (.aload_n 0, 1) := by decide +kernel
theorem dX7_supper_104 : decode cX7_supper 104 = .ok (.getfield 33, 3) := by decide +kernel
theorem dX7_supper_107 : decode cX7_supper 107 = .ok (.getfield 220, 3) := by decide +kernel
theorem dX7_supper_110 : decode cX7_supper 110 = .ok (.if_icmp .ne 21, 3) := by decide +kernel
theorem dX7_supper_113 : decode cX7_supper 113 = .ok (.iload 4, 2) := by decide +kernel
theorem dX7_supper_115 : decode cX7_supper 115 = .ok (.iload_n 3, 1) := by decide +kernel
theorem dX7_supper_116 : decode cX7_supper 116 = .ok (.if_icmp .ne 12, 3) := by decide +kernel
theorem dX7_supper_119 : decode cX7_supper 119 = .ok (.bipush 8, 2) := by decide +kernel
theorem dX7_supper_121 : decode cX7_supper 121 = .ok (.iload 5, 2) := by decide +kernel
theorem dX7_supper_123 : decode cX7_supper 123 = .ok (.imul, 1) := by decide +kernel
theorem dX7_supper_124 : decode cX7_supper 124 = .ok (.iload 6, 2) := by decide +kernel
theorem dX7_supper_126 : decode cX7_supper 126 = .ok (.iadd, 1) := by decide +kernel
theorem dX7_supper_127 : decode cX7_supper 127 = .ok (.ireturn, 1) := by decide +kernel
theorem dX7_supper_128 : decode cX7_supper 128 = .ok (.iinc 4 1, 3) := by decide +kernel
theorem dX7_supper_131 : decode cX7_supper 131 = .ok (.iinc 6 1, 3) := by decide +kernel
theorem dX7_supper_134 : decode cX7_supper 134 = .ok (.goto (-87), 3) := by decide +kernel
theorem dX7_supper_137 : decode cX7_supper 137 = .ok (.iinc 5 1, 3) := by decide +kernel
theorem dX7_supper_140 : decode cX7_supper 140 = .ok (.goto (-111), 3) := by decide +kernel
theorem dX7_supper_143 : decode cX7_supper 143 = .ok (.iload_n 3, 1) := by decide +kernel
theorem dX7_supper_144 : decode cX7_supper 144 = .ok (.iconst (-1), 1) := by decide +kernel
theorem dX7_supper_145 : decode cX7_supper 145 = .ok (.if_icmp .ne 8, 3) := by decide +kernel
theorem dX7_supper_148 : decode cX7_supper 148 = .ok (.iload 4, 2) := by decide +kernel
theorem dX7_supper_150 : decode cX7_supper 150 = .ok (.goto 4, 3) := by decide +kernel
theorem dX7_supper_153 : decode cX7_supper 153 = .ok (.iconst (-1), 1) := by decide +kernel
theorem dX7_supper_154 : decode cX7_supper 154 = .ok (.ireturn, 1) := by decide +kernel
theorem dX7_image_0 : decode cX7_image 0 = .ok (.aload_n 0, 1) := by decide +kernel
theorem dX7_image_1 : decode cX7_image 1 = .ok (.getfield 37, 3) := by decide +kernel
theorem dX7_image_4 : decode cX7_image 4 = .ok (.aload_n 0, 1) := by decide +kernel
theorem dX7_image_5 : decode cX7_image 5 = .ok (.getfield 33, 3) := by decide +kernel
theorem dX7_image_8 : decode cX7_image 8 = .ok (.invokevirtual 244, 3) := by decide +kernel
theorem dX7_image_11 : decode cX7_image 11 = .ok (.aload_n 0, 1) := by decide +kernel
theorem dX7_image_12 : decode cX7_image 12 = .ok (.getfield 33, 3) := by decide +kernel
theorem dX7_image_15 : decode cX7_image 15 = .ok (.getfield 150, 3) := by decide +kernel
theorem dX7_image_18 : decode cX7_image 18 = .ok (.getfield 247, 3) := by decide +kernel
theorem dX7_image_21 : decode cX7_image 21 = .ok (.ireturn, 1) := by decide +kernel
theorem dX7_back_0 : decode cX7_back 0 = .ok (.aload_n 0, 1) := by decide +kernel
theorem dX7_back_1 : decode cX7_back 1 = .ok (.getfield 33, 3) := by decide +kernel
theorem dX7_back_4 : decode cX7_back 4 = .ok (.aload_n 0, 1) := by decide +kernel
theorem dX7_back_5 : decode cX7_back 5 = .ok (.getfield 37, 3) := by decide +kernel
theorem dX7_back_8 : decode cX7_back 8 = .ok (.invokevirtual 244, 3) := by decide +kernel
theorem dX7_back_11 : decode cX7_back 11 = .ok (.aload_n 0, 1) := by decide +kernel
theorem dX7_back_12 : decode cX7_back 12 = .ok (.getfield 33, 3) := by decide +kernel
theorem dX7_back_15 : decode cX7_back 15 = .ok (.getfield 150, 3) := by decide +kernel
theorem dX7_back_18 : decode cX7_back 18 = .ok (.getfield 247, 3) := by decide +kernel
theorem dX7_back_21 : decode cX7_back 21 = .ok (.ireturn, 1) := by decide +kernel
theorem dX7_about_0 : decode cX7_about 0 = .ok (.iload_n 1, 1) := by decide +kernel
theorem dX7_about_1 : decode cX7_about 1 = .ok (.bipush 20, 2) := by decide +kernel
theorem dX7_about_3 : decode cX7_about 3 = .ok (.if_icmp .lt 34, 3) := by decide +kernel
theorem dX7_about_6 : decode cX7_about 6 = .ok (.aload_n 0, 1) := by decide +kernel
theorem dX7_about_7 : decode cX7_about 7 = .ok (.iload_n 1, 1) := by decide +kernel
theorem dX7_about_8 : decode cX7_about 8 = .ok (.bipush 20, 2) := by decide +kernel
theorem dX7_about_10 : decode cX7_about 10 = .ok (.isub, 1) := by decide +kernel
theorem dX7_about_11 : decode cX7_about 11 = .ok (.invokevirtual 214, 3) := by decide +kernel
theorem dX7_about_14 : decode cX7_about 14 = .ok (.ifCond .eq 20, 3) := by decide +kernel
theorem dX7_about_17 : decode cX7_about 17 = .ok (.aload_n 0, 1) := by decide +kernel
theorem dX7_about_18 : decode cX7_about 18 = .ok (.getfield 33, 3) := by decide +kernel
theorem dX7_about_21 : decode cX7_about 21 = .ok (.getfield 150, 3) := by decide +kernel
theorem dX7_about_24 : decode cX7_about 24 = .ok (.iload_n 1, 1) := by decide +kernel
theorem dX7_about_25 : decode cX7_about 25 = .ok (.bipush 20, 2) := by decide +kernel
theorem dX7_about_27 : decode cX7_about 27 = .ok (.isub, 1) := by decide +kernel
theorem dX7_about_28 : decode cX7_about 28 = .ok (.invokevirtual 250, 3) := by decide +kernel
theorem dX7_about_31 : decode cX7_about 31 = .ok (.goto 5, 3) := by decide +kernel
theorem dX7_about_34 : decode cX7_about 34 = .ok (.bipush (-2), 2) := by decide +kernel
theorem dX7_about_36 : decode cX7_about 36 = .ok (.ireturn, 1) := by decide +kernel
theorem dX7_about_37 : decode cX7_about 37 = .ok (.iload_n 1, 1) := by decide +kernel
theorem dX7_about_38 : decode cX7_about 38 = .ok (.bipush 10, 2) := by decide +kernel
theorem dX7_about_40 : decode cX7_about 40 = .ok (.if_icmp .lt 32, 3) := by decide +kernel
theorem dX7_about_43 : decode cX7_about 43 = .ok (.aload_n 0, 1) := by decide +kernel
theorem dX7_about_44 : decode cX7_about 44 = .ok (.iload_n 1, 1) := by decide +kernel
theorem dX7_about_45 : decode cX7_about 45 = .ok (.bipush 10, 2) := by decide +kernel
theorem dX7_about_47 : decode cX7_about 47 = .ok (.isub, 1) := by decide +kernel
theorem dX7_about_48 : decode cX7_about 48 = .ok (.invokevirtual 226, 3) := by decide +kernel
theorem dX7_about_51 : decode cX7_about 51 = .ok (.ifCond .eq 18, 3) := by decide +kernel
theorem dX7_about_54 : decode cX7_about 54 = .ok (.aload_n 0, 1) := by decide +kernel
theorem dX7_about_55 : decode cX7_about 55 = .ok (.getfield 33, 3) := by decide +kernel
theorem dX7_about_58 : decode cX7_about 58 = .ok (.getfield 84, 3) := by decide +kernel
theorem dX7_about_61 : decode cX7_about 61 = .ok (.iload_n 1, 1) := by decide +kernel
theorem dX7_about_62 : decode cX7_about 62 = .ok (.bipush 10, 2) := by decide +kernel
theorem dX7_about_64 : decode cX7_about 64 = .ok (.isub, 1) := by decide +kernel
theorem dX7_about_65 : decode cX7_about 65 = .ok (.iaload, 1) := by decide +kernel
theorem dX7_about_66 : decode cX7_about 66 = .ok (.goto 5, 3) := by decide +kernel
theorem dX7_about_69 : decode cX7_about 69 = .ok (.bipush (-2), 2) := by decide +kernel
theorem dX7_about_71 : decode cX7_about 71 = .ok (.ireturn, 1) := by decide +kernel
theorem dX7_about_72 : decode cX7_about 72 = .ok (.iload_n 1, 1) := by decide +kernel
theorem dX7_about_73 : decode cX7_about 73 = .ok (.tableswitch 123 0 8 #[51, 56, 64, 72, 83, 91, 99, 110, 118], 51) := by decide +kernel
theorem dX7_about_124 : decode cX7_about 124 = .ok (.aload_n 0, 1) := by decide +kernel
theorem dX7_about_125 : decode cX7_about 125 = .ok (.getfield 77, 3) := by decide +kernel
theorem dX7_about_128 : decode cX7_about 128 = .ok (.ireturn, 1) := by decide +kernel
theorem dX7_about_129 : decode cX7_about 129 = .ok (.aload_n 0, 1) := by decide +kernel
theorem dX7_about_130 : decode cX7_about 130 = .ok (.getfield 33, 3) := by decide +kernel
theorem dX7_about_133 : decode cX7_about 133 = .ok (.getfield 81, 3) := by decide +kernel
theorem dX7_about_136 : decode cX7_about 136 = .ok (.ireturn, 1) := by decide +kernel
theorem dX7_about_137 : decode cX7_about 137 = .ok (.aload_n 0, 1) := by decide +kernel
theorem dX7_about_138 : decode cX7_about 138 = .ok (.getfield 33, 3) := by decide +kernel
theorem dX7_about_141 : decode cX7_about 141 = .ok (.getfield 87, 3) := by decide +kernel
theorem dX7_about_144 : decode cX7_about 144 = .ok (.ireturn, 1) := by decide +kernel
theorem dX7_about_145 : decode cX7_about 145 = .ok (.aload_n 0, 1) := by decide +kernel
theorem dX7_about_146 : decode cX7_about 146 = .ok (.getfield 33, 3) := by decide +kernel
theorem dX7_about_149 : decode cX7_about 149 = .ok (.getfield 150, 3) := by decide +kernel
theorem dX7_about_152 : decode cX7_about 152 = .ok (.getfield 247, 3) := by decide +kernel
theorem dX7_about_155 : decode cX7_about 155 = .ok (.ireturn, 1) := by decide +kernel
theorem dX7_about_156 : decode cX7_about 156 = .ok (.aload_n 0, 1) := by decide +kernel
theorem dX7_about_157 : decode cX7_about 157 = .ok (.getfield 33, 3) := by decide +kernel
theorem dX7_about_160 : decode cX7_about 160 = .ok (.getfield 100, 3) := by decide +kernel
theorem dX7_about_163 : decode cX7_about 163 = .ok (.ireturn, 1) := by decide +kernel
theorem dX7_about_164 : decode cX7_about 164 = .ok (.aload_n 0, 1) := by decide +kernel
theorem dX7_about_165 : decode cX7_about 165 = .ok (.getfield 33, 3) := by decide +kernel
theorem dX7_about_168 : decode cX7_about 168 = .ok (.getfield 124, 3) := by decide +kernel
theorem dX7_about_171 : decode cX7_about 171 = .ok (.ireturn, 1) := by decide +kernel
theorem dX7_about_172 : decode cX7_about 172 = .ok (.aload_n 0, 1) := by decide +kernel
theorem dX7_about_173 : decode cX7_about 173 = .ok (.getfield 33, 3) := by decide +kernel
theorem dX7_about_176 : decode cX7_about 176 = .ok (.getfield 146, 3) := by decide +kernel
theorem dX7_about_179 : decode cX7_about 179 = .ok (.getfield 171, 3) := by decide +kernel
theorem dX7_about_182 : decode cX7_about 182 = .ok (.ireturn, 1) := by decide +kernel
theorem dX7_about_183 : decode cX7_about 183 = .ok (.aload_n 0, 1) := by decide +kernel
theorem dX7_about_184 : decode cX7_about 184 = .ok (.getfield 33, 3) := by decide +kernel
theorem dX7_about_187 : decode cX7_about 187 = .ok (.getfield 223, 3) := by decide +kernel
theorem dX7_about_190 : decode cX7_about 190 = .ok (.ireturn, 1) := by decide +kernel
theorem dX7_about_191 : decode cX7_about 191 = .ok (.aload_n 0, 1) := by decide +kernel
theorem dX7_about_192 : decode cX7_about 192 = .ok (.getfield 13, 3) := by decide +kernel
theorem dX7_about_195 : decode cX7_about 195 = .ok (.ireturn, 1) := by decide +kernel
theorem dX7_about_196 : decode cX7_about 196 = .ok (.bipush (-2), 2) := by decide +kernel
theorem dX7_about_198 : decode cX7_about 198 = .ok (.ireturn, 1) := by decide +kernel
theorem dX7_isThing_0 : decode cX7_isThing 0 = .ok (.iload_n 1, 1) := by decide +kernel
theorem dX7_isThing_1 : decode cX7_isThing 1 = .ok (.ifCond .lt 18, 3) := by decide +kernel
theorem dX7_isThing_4 : decode cX7_isThing 4 = .ok (.iload_n 1, 1) := by decide +kernel
theorem dX7_isThing_5 : decode cX7_isThing 5 = .ok (.aload_n 0, 1) := by decide +kernel
theorem dX7_isThing_6 : decode cX7_isThing 6 = .ok (.getfield 33, 3) := by decide +kernel
theorem dX7_isThing_9 : decode cX7_isThing 9 = .ok (.getfield 81, 3) := by decide +kernel
theorem dX7_isThing_12 : decode cX7_isThing 12 = .ok (.if_icmp .ge 7, 3) := by decide +kernel
theorem dX7_isThing_15 : decode cX7_isThing 15 = .ok (.iconst 1, 1) := by decide +kernel
theorem dX7_isThing_16 : decode cX7_isThing 16 = .ok (.goto 4, 3) := by decide +kernel
theorem dX7_isThing_19 : decode cX7_isThing 19 = .ok (.iconst 0, 1) := by decide +kernel
theorem dX7_isThing_20 : decode cX7_isThing 20 = .ok (.ireturn, 1) := by decide +kernel
theorem dX7_isEye_0 : decode cX7_isEye 0 = .ok (.iload_n 1, 1) := by decide +kernel
theorem dX7_isEye_1 : decode cX7_isEye 1 = .ok (.ifCond .lt 18, 3) := by decide +kernel
theorem dX7_isEye_4 : decode cX7_isEye 4 = .ok (.iload_n 1, 1) := by decide +kernel
theorem dX7_isEye_5 : decode cX7_isEye 5 = .ok (.aload_n 0, 1) := by decide +kernel
theorem dX7_isEye_6 : decode cX7_isEye 6 = .ok (.getfield 33, 3) := by decide +kernel
theorem dX7_isEye_9 : decode cX7_isEye 9 = .ok (.getfield 87, 3) := by decide +kernel
theorem dX7_isEye_12 : decode cX7_isEye 12 = .ok (.if_icmp .ge 7, 3) := by decide +kernel
theorem dX7_isEye_15 : decode cX7_isEye 15 = .ok (.iconst 1, 1) := by decide +kernel
theorem dX7_isEye_16 : decode cX7_isEye 16 = .ok (.goto 4, 3) := by decide +kernel
theorem dX7_isEye_19 : decode cX7_isEye 19 = .ok (.iconst 0, 1) := by decide +kernel
theorem dX7_isEye_20 : decode cX7_isEye 20 = .ok (.ireturn, 1) := by decide +kernel
theorem dX7_isText_0 : decode cX7_isText 0 = .ok (.iload_n 1, 1) := by decide +kernel
theorem dX7_isText_1 : decode cX7_isText 1 = .ok (.ifCond .lt 18, 3) := by decide +kernel
theorem dX7_isText_4 : decode cX7_isText 4 = .ok (.iload_n 1, 1) := by decide +kernel
theorem dX7_isText_5 : decode cX7_isText 5 = .ok (.aload_n 0, 1) := by decide +kernel
theorem dX7_isText_6 : decode cX7_isText 6 = .ok (.getfield 33, 3) := by decide +kernel
theorem dX7_isText_9 : decode cX7_isText 9 = .ok (.getfield 100, 3) := by decide +kernel
theorem dX7_isText_12 : decode cX7_isText 12 = .ok (.if_icmp .ge 7, 3) := by decide +kernel
theorem dX7_isText_15 : decode cX7_isText 15 = .ok (.iconst 1, 1) := by decide +kernel
theorem dX7_isText_16 : decode cX7_isText 16 = .ok (.goto 4, 3) := by decide +kernel
theorem dX7_isText_19 : decode cX7_isText 19 = .ok (.iconst 0, 1) := by decide +kernel
theorem dX7_isText_20 : decode cX7_isText 20 = .ok (.ireturn, 1) := by decide +kernel
theorem dX7_isCourtier_0 : decode cX7_isCourtier 0 = .ok (.iload_n 1, 1) := by decide +kernel
theorem dX7_isCourtier_1 : decode cX7_isCourtier 1 = .ok (.ifCond .lt 15, 3) := by decide +kernel
theorem dX7_isCourtier_4 : decode cX7_isCourtier 4 = .ok (.iload_n 1, 1) := by decide +kernel
theorem dX7_isCourtier_5 : decode cX7_isCourtier 5 = .ok (.aload_n 0, 1) := by decide +kernel
theorem dX7_isCourtier_6 : decode cX7_isCourtier 6 = .ok (.getfield 77, 3) := by decide +kernel
theorem dX7_isCourtier_9 : decode cX7_isCourtier 9 = .ok (.if_icmp .ge 7, 3) := by decide +kernel
theorem dX7_isCourtier_12 : decode cX7_isCourtier 12 = .ok (.iconst 1, 1) := by decide +kernel
theorem dX7_isCourtier_13 : decode cX7_isCourtier 13 = .ok (.goto 4, 3) := by decide +kernel
theorem dX7_isCourtier_16 : decode cX7_isCourtier 16 = .ok (.iconst 0, 1) := by decide +kernel
theorem dX7_isCourtier_17 : decode cX7_isCourtier 17 = .ok (.ireturn, 1) := by decide +kernel
theorem dX7_addFourBytes_0 : decode cX7_addFourBytes 0 = .ok (.bipush 24, 2) := by decide +kernel
theorem dX7_addFourBytes_2 : decode cX7_addFourBytes 2 = .ok (.istore_n 2, 1) := by decide +kernel
theorem dX7_addFourBytes_3 : decode cX7_addFourBytes 3 = .ok (.iload_n 2, 1) := by decide +kernel
theorem dX7_addFourBytes_4 : decode cX7_addFourBytes 4 = .ok (.ifCond .lt 42, 3) := by decide +kernel
theorem dX7_addFourBytes_7 : decode cX7_addFourBytes 7 = .ok (.aload_n 0, 1) := by decide +kernel
theorem dX7_addFourBytes_8 : decode cX7_addFourBytes 8 = .ok (.getfield 13, 3) := by decide +kernel
theorem dX7_addFourBytes_11 : decode cX7_addFourBytes 11 = .ok (.sipush 300, 3) := by decide +kernel
theorem dX7_addFourBytes_14 : decode cX7_addFourBytes 14 = .ok (.if_icmp .ge 32, 3) := by decide +kernel
theorem dX7_addFourBytes_17 : decode cX7_addFourBytes 17 = .ok (.aload_n 0, 1) := by decide +kernel
theorem dX7_addFourBytes_18 : decode cX7_addFourBytes 18 = .ok (.getfield 9, 3) := by decide +kernel
theorem dX7_addFourBytes_21 : decode cX7_addFourBytes 21 = .ok (.aload_n 0, 1) := by decide +kernel
theorem dX7_addFourBytes_22 : decode cX7_addFourBytes 22 = .ok (.getfield 13, 3) := by decide +kernel
theorem dX7_addFourBytes_25 : decode cX7_addFourBytes 25 = .ok (.iload_n 1, 1) := by decide +kernel
theorem dX7_addFourBytes_26 : decode cX7_addFourBytes 26 = .ok (.iload_n 2, 1) := by decide +kernel
theorem dX7_addFourBytes_27 : decode cX7_addFourBytes 27 = .ok (.ishr, 1) := by decide +kernel
theorem dX7_addFourBytes_28 : decode cX7_addFourBytes 28 = .ok (.i2b, 1) := by decide +kernel
theorem dX7_addFourBytes_29 : decode cX7_addFourBytes 29 = .ok (.bastore, 1) := by decide +kernel
theorem dX7_addFourBytes_30 : decode cX7_addFourBytes 30 = .ok (.aload_n 0, 1) := by decide +kernel
theorem dX7_addFourBytes_31 : decode cX7_addFourBytes 31 = .ok (.dup, 1) := by decide +kernel
theorem dX7_addFourBytes_32 : decode cX7_addFourBytes 32 = .ok (.getfield 13, 3) := by decide +kernel
theorem dX7_addFourBytes_35 : decode cX7_addFourBytes 35 = .ok (.iconst 1, 1) := by decide +kernel
theorem dX7_addFourBytes_36 : decode cX7_addFourBytes 36 = .ok (.iadd, 1) := by decide +kernel
theorem dX7_addFourBytes_37 : decode cX7_addFourBytes 37 = .ok (.putfield 13, 3) := by decide +kernel
theorem dX7_addFourBytes_40 : decode cX7_addFourBytes 40 = .ok (.iinc 2 (-8), 3) := by decide +kernel
theorem dX7_addFourBytes_43 : decode cX7_addFourBytes 43 = .ok (.goto (-40), 3) := by decide +kernel
theorem dX7_addFourBytes_46 : decode cX7_addFourBytes 46 = .ok (.return_, 1) := by decide +kernel
theorem dX7_drawnAfter_0 : decode cX7_drawnAfter 0 = .ok (.iload_n 0, 1) := by decide +kernel
theorem dX7_drawnAfter_1 : decode cX7_drawnAfter 1 = .ok (.sipush 211, 3) := by decide +kernel
theorem dX7_drawnAfter_4 : decode cX7_drawnAfter 4 = .ok (.imul, 1) := by decide +kernel
theorem dX7_drawnAfter_5 : decode cX7_drawnAfter 5 = .ok (.bipush 83, 2) := by decide +kernel
theorem dX7_drawnAfter_7 : decode cX7_drawnAfter 7 = .ok (.iadd, 1) := by decide +kernel
theorem dX7_drawnAfter_8 : decode cX7_drawnAfter 8 = .ok (.sipush 30071, 3) := by decide +kernel
theorem dX7_drawnAfter_11 : decode cX7_drawnAfter 11 = .ok (.irem, 1) := by decide +kernel
theorem dX7_drawnAfter_12 : decode cX7_drawnAfter 12 = .ok (.ireturn, 1) := by decide +kernel
theorem dX7_byHand_0 : decode cX7_byHand 0 = .ok (.aload_n 0, 1) := by decide +kernel
theorem dX7_byHand_1 : decode cX7_byHand 1 = .ok (.aload_n 0, 1) := by decide +kernel
theorem dX7_byHand_2 : decode cX7_byHand 2 = .ok (.getfield 33, 3) := by decide +kernel
theorem dX7_byHand_5 : decode cX7_byHand 5 = .ok (.getfield 150, 3) := by decide +kernel
theorem dX7_byHand_8 : decode cX7_byHand 8 = .ok (.iload_n 1, 1) := by decide +kernel
theorem dX7_byHand_9 : decode cX7_byHand 9 = .ok (.iload_n 2, 1) := by decide +kernel
theorem dX7_byHand_10 : decode cX7_byHand 10 = .ok (.iload_n 3, 1) := by decide +kernel
theorem dX7_byHand_11 : decode cX7_byHand 11 = .ok (.invokevirtual 253, 3) := by decide +kernel
theorem dX7_byHand_14 : decode cX7_byHand 14 = .ok (.ifCond .ne 5, 3) := by decide +kernel
theorem dX7_byHand_17 : decode cX7_byHand 17 = .ok (.iconst (-1), 1) := by decide +kernel
theorem dX7_byHand_18 : decode cX7_byHand 18 = .ok (.ireturn, 1) := by decide +kernel
theorem dX7_byHand_19 : decode cX7_byHand 19 = .ok (.aload_n 0, 1) := by decide +kernel
theorem dX7_byHand_20 : decode cX7_byHand 20 = .ok (.getfield 33, 3) := by decide +kernel
theorem dX7_byHand_23 : decode cX7_byHand 23 = .ok (.getfield 146, 3) := by decide +kernel
theorem dX7_byHand_26 : decode cX7_byHand 26 = .ok (.aload_n 0, 1) := by decide +kernel
theorem dX7_byHand_27 : decode cX7_byHand 27 = .ok (.getfield 33, 3) := by decide +kernel
theorem dX7_byHand_30 : decode cX7_byHand 30 = .ok (.getfield 150, 3) := by decide +kernel
theorem dX7_byHand_33 : decode cX7_byHand 33 = .ok (.invokevirtual 153, 3) := by decide +kernel
theorem dX7_byHand_36 : decode cX7_byHand 36 = .ok (.aload_n 0, 1) := by decide +kernel
theorem dX7_byHand_37 : decode cX7_byHand 37 = .ok (.aload_n 0, 1) := by decide +kernel
theorem dX7_byHand_38 : decode cX7_byHand 38 = .ok (.getfield 33, 3) := by decide +kernel
theorem dX7_byHand_41 : decode cX7_byHand 41 = .ok (.getfield 150, 3) := by decide +kernel
theorem dX7_byHand_44 : decode cX7_byHand 44 = .ok (.iload_n 1, 1) := by decide +kernel
theorem dX7_byHand_45 : decode cX7_byHand 45 = .ok (.iload_n 2, 1) := by decide +kernel
theorem dX7_byHand_46 : decode cX7_byHand 46 = .ok (.iload_n 3, 1) := by decide +kernel
theorem dX7_byHand_47 : decode cX7_byHand 47 = .ok (.invokevirtual 257, 3) := by decide +kernel
theorem dX7_byHand_50 : decode cX7_byHand 50 = .ok (.ireturn, 1) := by decide +kernel
theorem dX7_tell_0 : decode cX7_tell 0 = .ok (.iconst 0, 1) := by decide +kernel
theorem dX7_tell_1 : decode cX7_tell 1 = .ok (.istore_n 2, 1) := by decide +kernel
theorem dX7_tell_2 : decode cX7_tell 2 = .ok (.iload_n 2, 1) := by decide +kernel
theorem dX7_tell_3 : decode cX7_tell 3 = .ok (.aload_n 1, 1) := by decide +kernel
theorem dX7_tell_4 : decode cX7_tell 4 = .ok (.getfield 131, 3) := by decide +kernel
theorem dX7_tell_7 : decode cX7_tell 7 = .ok (.if_icmp .ge 73, 3) := by decide +kernel
theorem dX7_tell_10 : decode cX7_tell 10 = .ok (.aload_n 1, 1) := by decide +kernel
theorem dX7_tell_11 : decode cX7_tell 11 = .ok (.iload_n 2, 1) := by decide +kernel
theorem dX7_tell_12 : decode cX7_tell 12 = .ok (.invokevirtual 134, 3) := by decide +kernel
theorem dX7_tell_15 : decode cX7_tell 15 = .ok (.ifCond .eq 59, 3) := by decide +kernel
theorem dX7_tell_18 : decode cX7_tell 18 = .ok (.aload_n 0, 1) := by decide +kernel
theorem dX7_tell_19 : decode cX7_tell 19 = .ok (.aload_n 0, 1) := by decide +kernel
theorem dX7_tell_20 : decode cX7_tell 20 = .ok (.getfield 43, 3) := by decide +kernel
theorem dX7_tell_23 : decode cX7_tell 23 = .ok (.aload_n 1, 1) := by decide +kernel
theorem dX7_tell_24 : decode cX7_tell 24 = .ok (.getfield 137, 3) := by decide +kernel
theorem dX7_tell_27 : decode cX7_tell 27 = .ok (.iload_n 2, 1) := by decide +kernel
theorem dX7_tell_28 : decode cX7_tell 28 = .ok (.iaload, 1) := by decide +kernel
theorem dX7_tell_29 : decode cX7_tell 29 = .ok (.aload_n 1, 1) := by decide +kernel
theorem dX7_tell_30 : decode cX7_tell 30 = .ok (.getfield 140, 3) := by decide +kernel
theorem dX7_tell_33 : decode cX7_tell 33 = .ok (.iload_n 2, 1) := by decide +kernel
theorem dX7_tell_34 : decode cX7_tell 34 = .ok (.iaload, 1) := by decide +kernel
theorem dX7_tell_35 : decode cX7_tell 35 = .ok (.aload_n 1, 1) := by decide +kernel
theorem dX7_tell_36 : decode cX7_tell 36 = .ok (.getfield 143, 3) := by decide +kernel
theorem dX7_tell_39 : decode cX7_tell 39 = .ok (.iload_n 2, 1) := by decide +kernel
theorem dX7_tell_40 : decode cX7_tell 40 = .ok (.iaload, 1) := by decide +kernel
theorem dX7_tell_41 : decode cX7_tell 41 = .ok (.invokevirtual 253, 3) := by decide +kernel
theorem dX7_tell_44 : decode cX7_tell 44 = .ok (.ifCond .eq 30, 3) := by decide +kernel
theorem dX7_tell_47 : decode cX7_tell 47 = .ok (.aload_n 0, 1) := by decide +kernel
theorem dX7_tell_48 : decode cX7_tell 48 = .ok (.aload_n 0, 1) := by decide +kernel
theorem dX7_tell_49 : decode cX7_tell 49 = .ok (.getfield 43, 3) := by decide +kernel
theorem dX7_tell_52 : decode cX7_tell 52 = .ok (.aload_n 1, 1) := by decide +kernel
theorem dX7_tell_53 : decode cX7_tell 53 = .ok (.getfield 137, 3) := by decide +kernel
theorem dX7_tell_56 : decode cX7_tell 56 = .ok (.iload_n 2, 1) := by decide +kernel
theorem dX7_tell_57 : decode cX7_tell 57 = .ok (.iaload, 1) := by decide +kernel
theorem dX7_tell_58 : decode cX7_tell 58 = .ok (.aload_n 1, 1) := by decide +kernel
theorem dX7_tell_59 : decode cX7_tell 59 = .ok (.getfield 140, 3) := by decide +kernel
theorem dX7_tell_62 : decode cX7_tell 62 = .ok (.iload_n 2, 1) := by decide +kernel
theorem dX7_tell_63 : decode cX7_tell 63 = .ok (.iaload, 1) := by decide +kernel
theorem dX7_tell_64 : decode cX7_tell 64 = .ok (.aload_n 1, 1) := by decide +kernel
theorem dX7_tell_65 : decode cX7_tell 65 = .ok (.getfield 143, 3) := by decide +kernel
theorem dX7_tell_68 : decode cX7_tell 68 = .ok (.iload_n 2, 1) := by decide +kernel
theorem dX7_tell_69 : decode cX7_tell 69 = .ok (.iaload, 1) := by decide +kernel
theorem dX7_tell_70 : decode cX7_tell 70 = .ok (.invokevirtual 257, 3) := by decide +kernel
theorem dX7_tell_73 : decode cX7_tell 73 = .ok (.pop, 1) := by decide +kernel
theorem dX7_tell_74 : decode cX7_tell 74 = .ok (.iinc 2 1, 3) := by decide +kernel
theorem dX7_tell_77 : decode cX7_tell 77 = .ok (.goto (-75), 3) := by decide +kernel
theorem dX7_tell_80 : decode cX7_tell 80 = .ok (.return_, 1) := by decide +kernel
theorem dX7_canBe_0 : decode cX7_canBe 0 = .ok (.iload_n 2, 1) := by decide +kernel
theorem dX7_canBe_1 : decode cX7_canBe 1 = .ok (.tableswitch 128 2 5 #[31, 64, 128, 99], 31) := by decide +kernel
theorem dX7_canBe_32 : decode cX7_canBe 32 = .ok (.aload_n 0, 1) := by decide +kernel
theorem dX7_canBe_33 : decode cX7_canBe 33 = .ok (.iload_n 3, 1) := by decide +kernel
theorem dX7_canBe_34 : decode cX7_canBe 34 = .ok (.invokevirtual 226, 3) := by decide +kernel
theorem dX7_canBe_37 : decode cX7_canBe 37 = .ok (.ifCond .eq 26, 3) := by decide +kernel
theorem dX7_canBe_40 : decode cX7_canBe 40 = .ok (.aload_n 0, 1) := by decide +kernel
theorem dX7_canBe_41 : decode cX7_canBe 41 = .ok (.iload 4, 2) := by decide +kernel
theorem dX7_canBe_43 : decode cX7_canBe 43 = .ok (.invokevirtual 214, 3) := by decide +kernel
theorem dX7_canBe_46 : decode cX7_canBe 46 = .ok (.ifCond .eq 17, 3) := by decide +kernel
theorem dX7_canBe_49 : decode cX7_canBe 49 = .ok (.aload_n 1, 1) := by decide +kernel
theorem dX7_canBe_50 : decode cX7_canBe 50 = .ok (.getfield 247, 3) := by decide +kernel
theorem dX7_canBe_53 : decode cX7_canBe 53 = .ok (.sipush 999, 3) := by decide +kernel
theorem dX7_canBe_56 : decode cX7_canBe 56 = .ok (.if_icmp .ge 7, 3) := by decide +kernel
theorem dX7_canBe_59 : decode cX7_canBe 59 = .ok (.iconst 1, 1) := by decide +kernel
theorem dX7_canBe_60 : decode cX7_canBe 60 = .ok (.goto 4, 3) := by decide +kernel
theorem dX7_canBe_63 : decode cX7_canBe 63 = .ok (.iconst 0, 1) := by decide +kernel
theorem dX7_canBe_64 : decode cX7_canBe 64 = .ok (.ireturn, 1) := by decide +kernel
theorem dX7_canBe_65 : decode cX7_canBe 65 = .ok (.aload_n 0, 1) := by decide +kernel
theorem dX7_canBe_66 : decode cX7_canBe 66 = .ok (.iload_n 3, 1) := by decide +kernel
theorem dX7_canBe_67 : decode cX7_canBe 67 = .ok (.invokevirtual 174, 3) := by decide +kernel
theorem dX7_canBe_70 : decode cX7_canBe 70 = .ok (.ifCond .eq 28, 3) := by decide +kernel
theorem dX7_canBe_73 : decode cX7_canBe 73 = .ok (.aload_n 1, 1) := by decide +kernel
theorem dX7_canBe_74 : decode cX7_canBe 74 = .ok (.getfield 183, 3) := by decide +kernel
theorem dX7_canBe_77 : decode cX7_canBe 77 = .ok (.iload_n 3, 1) := by decide +kernel
theorem dX7_canBe_78 : decode cX7_canBe 78 = .ok (.iaload, 1) := by decide +kernel
theorem dX7_canBe_79 : decode cX7_canBe 79 = .ok (.iload 4, 2) := by decide +kernel
theorem dX7_canBe_81 : decode cX7_canBe 81 = .ok (.if_icmp .eq 17, 3) := by decide +kernel
theorem dX7_canBe_84 : decode cX7_canBe 84 = .ok (.aload_n 0, 1) := by decide +kernel
theorem dX7_canBe_85 : decode cX7_canBe 85 = .ok (.aload_n 1, 1) := by decide +kernel
theorem dX7_canBe_86 : decode cX7_canBe 86 = .ok (.iload 4, 2) := by decide +kernel
theorem dX7_canBe_88 : decode cX7_canBe 88 = .ok (.invokevirtual 261, 3) := by decide +kernel
theorem dX7_canBe_91 : decode cX7_canBe 91 = .ok (.ifCond .eq 7, 3) := by decide +kernel
theorem dX7_canBe_94 : decode cX7_canBe 94 = .ok (.iconst 1, 1) := by decide +kernel
theorem dX7_canBe_95 : decode cX7_canBe 95 = .ok (.goto 4, 3) := by decide +kernel
theorem dX7_canBe_98 : decode cX7_canBe 98 = .ok (.iconst 0, 1) := by decide +kernel
theorem dX7_canBe_99 : decode cX7_canBe 99 = .ok (.ireturn, 1) := by decide +kernel
theorem dX7_canBe_100 : decode cX7_canBe 100 = .ok (.aload_n 0, 1) := by decide +kernel
theorem dX7_canBe_101 : decode cX7_canBe 101 = .ok (.iload_n 3, 1) := by decide +kernel
theorem dX7_canBe_102 : decode cX7_canBe 102 = .ok (.invokevirtual 174, 3) := by decide +kernel
theorem dX7_canBe_105 : decode cX7_canBe 105 = .ok (.ifCond .eq 22, 3) := by decide +kernel
theorem dX7_canBe_108 : decode cX7_canBe 108 = .ok (.aload_n 0, 1) := by decide +kernel
theorem dX7_canBe_109 : decode cX7_canBe 109 = .ok (.iload 4, 2) := by decide +kernel
theorem dX7_canBe_111 : decode cX7_canBe 111 = .ok (.invokevirtual 174, 3) := by decide +kernel
theorem dX7_canBe_114 : decode cX7_canBe 114 = .ok (.ifCond .eq 13, 3) := by decide +kernel
theorem dX7_canBe_117 : decode cX7_canBe 117 = .ok (.iload_n 3, 1) := by decide +kernel
theorem dX7_canBe_118 : decode cX7_canBe 118 = .ok (.iload 4, 2) := by decide +kernel
theorem dX7_canBe_120 : decode cX7_canBe 120 = .ok (.if_icmp .eq 7, 3) := by decide +kernel
theorem dX7_canBe_123 : decode cX7_canBe 123 = .ok (.iconst 1, 1) := by decide +kernel
theorem dX7_canBe_124 : decode cX7_canBe 124 = .ok (.goto 4, 3) := by decide +kernel
theorem dX7_canBe_127 : decode cX7_canBe 127 = .ok (.iconst 0, 1) := by decide +kernel
theorem dX7_canBe_128 : decode cX7_canBe 128 = .ok (.ireturn, 1) := by decide +kernel
theorem dX7_canBe_129 : decode cX7_canBe 129 = .ok (.aload_n 0, 1) := by decide +kernel
theorem dX7_canBe_130 : decode cX7_canBe 130 = .ok (.iload_n 3, 1) := by decide +kernel
theorem dX7_canBe_131 : decode cX7_canBe 131 = .ok (.invokevirtual 174, 3) := by decide +kernel
theorem dX7_canBe_134 : decode cX7_canBe 134 = .ok (.ireturn, 1) := by decide +kernel
theorem dX7_hasRoom_0 : decode cX7_hasRoom 0 = .ok (.iload_n 2, 1) := by decide +kernel
theorem dX7_hasRoom_1 : decode cX7_hasRoom 1 = .ok (.iconst (-1), 1) := by decide +kernel
theorem dX7_hasRoom_2 : decode cX7_hasRoom 2 = .ok (.if_icmp .eq 23, 3) := by decide +kernel
theorem dX7_hasRoom_5 : decode cX7_hasRoom 5 = .ok (.aload_n 0, 1) := by decide +kernel
theorem dX7_hasRoom_6 : decode cX7_hasRoom 6 = .ok (.iload_n 2, 1) := by decide +kernel
theorem dX7_hasRoom_7 : decode cX7_hasRoom 7 = .ok (.invokevirtual 214, 3) := by decide +kernel
theorem dX7_hasRoom_10 : decode cX7_hasRoom 10 = .ok (.ifCond .eq 19, 3) := by decide +kernel
theorem dX7_hasRoom_13 : decode cX7_hasRoom 13 = .ok (.aload_n 1, 1) := by decide +kernel
theorem dX7_hasRoom_14 : decode cX7_hasRoom 14 = .ok (.iload_n 2, 1) := by decide +kernel
theorem dX7_hasRoom_15 : decode cX7_hasRoom 15 = .ok (.invokevirtual 250, 3) := by decide +kernel
theorem dX7_hasRoom_18 : decode cX7_hasRoom 18 = .ok (.invokestatic 199, 3) := by decide +kernel
theorem dX7_hasRoom_21 : decode cX7_hasRoom 21 = .ok (.iconst 2, 1) := by decide +kernel
theorem dX7_hasRoom_22 : decode cX7_hasRoom 22 = .ok (.if_icmp .ge 7, 3) := by decide +kernel
theorem dX7_hasRoom_25 : decode cX7_hasRoom 25 = .ok (.iconst 1, 1) := by decide +kernel
theorem dX7_hasRoom_26 : decode cX7_hasRoom 26 = .ok (.goto 4, 3) := by decide +kernel
theorem dX7_hasRoom_29 : decode cX7_hasRoom 29 = .ok (.iconst 0, 1) := by decide +kernel
theorem dX7_hasRoom_30 : decode cX7_hasRoom 30 = .ok (.ireturn, 1) := by decide +kernel
theorem dX7_perform_0 : decode cX7_perform 0 = .ok (.iload_n 2, 1) := by decide +kernel
theorem dX7_perform_1 : decode cX7_perform 1 = .ok (.tableswitch 58 2 5 #[31, 40, 58, 49], 31) := by decide +kernel
theorem dX7_perform_32 : decode cX7_perform 32 = .ok (.aload_n 0, 1) := by decide +kernel
theorem dX7_perform_33 : decode cX7_perform 33 = .ok (.aload_n 1, 1) := by decide +kernel
theorem dX7_perform_34 : decode cX7_perform 34 = .ok (.iload_n 3, 1) := by decide +kernel
theorem dX7_perform_35 : decode cX7_perform 35 = .ok (.iload 4, 2) := by decide +kernel
theorem dX7_perform_37 : decode cX7_perform 37 = .ok (.invokevirtual 265, 3) := by decide +kernel
theorem dX7_perform_40 : decode cX7_perform 40 = .ok (.ireturn, 1) := by decide +kernel
theorem dX7_perform_41 : decode cX7_perform 41 = .ok (.aload_n 1, 1) := by decide +kernel
theorem dX7_perform_42 : decode cX7_perform 42 = .ok (.iload_n 3, 1) := by decide +kernel
theorem dX7_perform_43 : decode cX7_perform 43 = .ok (.iload 4, 2) := by decide +kernel
theorem dX7_perform_45 : decode cX7_perform 45 = .ok (.invokevirtual 269, 3) := by decide +kernel
theorem dX7_perform_48 : decode cX7_perform 48 = .ok (.iconst 0, 1) := by decide +kernel
theorem dX7_perform_49 : decode cX7_perform 49 = .ok (.ireturn, 1) := by decide +kernel
theorem dX7_perform_50 : decode cX7_perform 50 = .ok (.aload_n 1, 1) := by decide +kernel
theorem dX7_perform_51 : decode cX7_perform 51 = .ok (.iload_n 3, 1) := by decide +kernel
theorem dX7_perform_52 : decode cX7_perform 52 = .ok (.iload 4, 2) := by decide +kernel
theorem dX7_perform_54 : decode cX7_perform 54 = .ok (.invokevirtual 163, 3) := by decide +kernel
theorem dX7_perform_57 : decode cX7_perform 57 = .ok (.iconst 0, 1) := by decide +kernel
theorem dX7_perform_58 : decode cX7_perform 58 = .ok (.ireturn, 1) := by decide +kernel
theorem dX7_perform_59 : decode cX7_perform 59 = .ok (.aload_n 1, 1) := by decide +kernel
theorem dX7_perform_60 : decode cX7_perform 60 = .ok (.iload_n 3, 1) := by decide +kernel
theorem dX7_perform_61 : decode cX7_perform 61 = .ok (.invokevirtual 272, 3) := by decide +kernel
theorem dX7_perform_64 : decode cX7_perform 64 = .ok (.ireturn, 1) := by decide +kernel
theorem dX7_feel_0 : decode cX7_feel 0 = .ok (.aload_n 1, 1) := by decide +kernel
theorem dX7_feel_1 : decode cX7_feel 1 = .ok (.dup, 1) := by decide +kernel
theorem dX7_feel_2 : decode cX7_feel 2 = .ok (.getfield 247, 3) := by decide +kernel
theorem dX7_feel_5 : decode cX7_feel 5 = .ok (.iconst 1, 1) := by decide +kernel
theorem dX7_feel_6 : decode cX7_feel 6 = .ok (.iadd, 1) := by decide +kernel
theorem dX7_feel_7 : decode cX7_feel 7 = .ok (.putfield 247, 3) := by decide +kernel
theorem dX7_feel_10 : decode cX7_feel 10 = .ok (.iconst 0, 1) := by decide +kernel
theorem dX7_feel_11 : decode cX7_feel 11 = .ok (.istore 4, 2) := by decide +kernel
theorem dX7_feel_13 : decode cX7_feel 13 = .ok (.iconst 0, 1) := by decide +kernel
theorem dX7_feel_14 : decode cX7_feel 14 = .ok (.istore 5, 2) := by decide +kernel
theorem dX7_feel_16 : decode cX7_feel 16 = .ok (.iload 5, 2) := by decide +kernel
theorem dX7_feel_18 : decode cX7_feel 18 = .ok (.aload_n 0, 1) := by decide +kernel
theorem dX7_feel_19 : decode cX7_feel 19 = .ok (.getfield 33, 3) := by decide +kernel
theorem dX7_feel_22 : decode cX7_feel 22 = .ok (.getfield 87, 3) := by decide +kernel
theorem dX7_feel_25 : decode cX7_feel 25 = .ok (.if_icmp .ge 56, 3) := by decide +kernel
theorem dX7_feel_28 : decode cX7_feel 28 = .ok (.aload_n 1, 1) := by decide +kernel
theorem dX7_feel_29 : decode cX7_feel 29 = .ok (.getfield 183, 3) := by decide +kernel
theorem dX7_feel_32 : decode cX7_feel 32 = .ok (.iload 5, 2) := by decide +kernel
theorem dX7_feel_34 : decode cX7_feel 34 = .ok (.iaload, 1) := by decide +kernel
theorem dX7_feel_35 : decode cX7_feel 35 = .ok (.iload_n 3, 1) := by decide +kernel
theorem dX7_feel_36 : decode cX7_feel 36 = .ok (.if_icmp .ne 39, 3) := by decide +kernel
theorem dX7_feel_39 : decode cX7_feel 39 = .ok (.aload_n 0, 1) := by decide +kernel
theorem dX7_feel_40 : decode cX7_feel 40 = .ok (.aload_n 1, 1) := by decide +kernel
theorem dX7_feel_41 : decode cX7_feel 41 = .ok (.iload 5, 2) := by decide +kernel
theorem dX7_feel_43 : decode cX7_feel 43 = .ok (.iload_n 2, 1) := by decide +kernel
theorem dX7_feel_44 : decode cX7_feel 44 = .ok (.iload_n 3, 1) := by decide +kernel
theorem dX7_feel_45 : decode cX7_feel 45 = .ok (.invokevirtual 275, 3) := by decide +kernel
theorem dX7_feel_48 : decode cX7_feel 48 = .ok (.ifCond .eq 27, 3) := by decide +kernel
theorem dX7_feel_51 : decode cX7_feel 51 = .ok (.aload_n 1, 1) := by decide +kernel
theorem dX7_feel_52 : decode cX7_feel 52 = .ok (.getfield 177, 3) := by decide +kernel
theorem dX7_feel_55 : decode cX7_feel 55 = .ok (.iload 5, 2) := by decide +kernel
theorem dX7_feel_57 : decode cX7_feel 57 = .ok (.aload_n 0, 1) := by decide +kernel
theorem dX7_feel_58 : decode cX7_feel 58 = .ok (.aload_n 1, 1) := by decide +kernel
theorem dX7_feel_59 : decode cX7_feel 59 = .ok (.getfield 177, 3) := by decide +kernel
theorem dX7_feel_62 : decode cX7_feel 62 = .ok (.iload 5, 2) := by decide +kernel
theorem dX7_feel_64 : decode cX7_feel 64 = .ok (.iaload, 1) := by decide +kernel
theorem dX7_feel_65 : decode cX7_feel 65 = .ok (.iload 5, 2) := by decide +kernel
theorem dX7_feel_67 : decode cX7_feel 67 = .ok (.iload_n 2, 1) := by decide +kernel
theorem dX7_feel_68 : decode cX7_feel 68 = .ok (.invokevirtual 278, 3) := by decide +kernel
theorem dX7_feel_71 : decode cX7_feel 71 = .ok (.iastore, 1) := by decide +kernel
theorem dX7_feel_72 : decode cX7_feel 72 = .ok (.iinc 4 1, 3) := by decide +kernel
theorem dX7_feel_75 : decode cX7_feel 75 = .ok (.iinc 5 1, 3) := by decide +kernel
theorem dX7_feel_78 : decode cX7_feel 78 = .ok (.goto (-62), 3) := by decide +kernel
theorem dX7_feel_81 : decode cX7_feel 81 = .ok (.iload 4, 2) := by decide +kernel
theorem dX7_feel_83 : decode cX7_feel 83 = .ok (.ireturn, 1) := by decide +kernel
theorem dX7_learned_0 : decode cX7_learned 0 = .ok (.iload_n 1, 1) := by decide +kernel
theorem dX7_learned_1 : decode cX7_learned 1 = .ok (.iload_n 3, 1) := by decide +kernel
theorem dX7_learned_2 : decode cX7_learned 2 = .ok (.invokestatic 281, 3) := by decide +kernel
theorem dX7_learned_5 : decode cX7_learned 5 = .ok (.istore 4, 2) := by decide +kernel
theorem dX7_learned_7 : decode cX7_learned 7 = .ok (.aload_n 0, 1) := by decide +kernel
theorem dX7_learned_8 : decode cX7_learned 8 = .ok (.getfield 33, 3) := by decide +kernel
theorem dX7_learned_11 : decode cX7_learned 11 = .ok (.getfield 93, 3) := by decide +kernel
theorem dX7_learned_14 : decode cX7_learned 14 = .ok (.iload_n 2, 1) := by decide +kernel
theorem dX7_learned_15 : decode cX7_learned 15 = .ok (.iaload, 1) := by decide +kernel
theorem dX7_learned_16 : decode cX7_learned 16 = .ok (.iconst 1, 1) := by decide +kernel
theorem dX7_learned_17 : decode cX7_learned 17 = .ok (.if_icmp .ne 12, 3) := by decide +kernel
theorem dX7_learned_20 : decode cX7_learned 20 = .ok (.iload 4, 2) := by decide +kernel
theorem dX7_learned_22 : decode cX7_learned 22 = .ok (.iload_n 3, 1) := by decide +kernel
theorem dX7_learned_23 : decode cX7_learned 23 = .ok (.invokestatic 281, 3) := by decide +kernel
theorem dX7_learned_26 : decode cX7_learned 26 = .ok (.goto 5, 3) := by decide +kernel
theorem dX7_learned_29 : decode cX7_learned 29 = .ok (.iload 4, 2) := by decide +kernel
theorem dX7_learned_31 : decode cX7_learned 31 = .ok (.ireturn, 1) := by decide +kernel
theorem dX7_isSeen_0 : decode cX7_isSeen 0 = .ok (.aload_n 0, 1) := by decide +kernel
theorem dX7_isSeen_1 : decode cX7_isSeen 1 = .ok (.aload_n 0, 1) := by decide +kernel
theorem dX7_isSeen_2 : decode cX7_isSeen 2 = .ok (.getfield 33, 3) := by decide +kernel
theorem dX7_isSeen_5 : decode cX7_isSeen 5 = .ok (.getfield 124, 3) := by decide +kernel
theorem dX7_isSeen_8 : decode cX7_isSeen 8 = .ok (.invokevirtual 120, 3) := by decide +kernel
theorem dX7_isSeen_11 : decode cX7_isSeen 11 = .ok (.ifCond .ne 5, 3) := by decide +kernel
theorem dX7_isSeen_14 : decode cX7_isSeen 14 = .ok (.iconst 1, 1) := by decide +kernel
theorem dX7_isSeen_15 : decode cX7_isSeen 15 = .ok (.ireturn, 1) := by decide +kernel
theorem dX7_isSeen_16 : decode cX7_isSeen 16 = .ok (.aload_n 0, 1) := by decide +kernel
theorem dX7_isSeen_17 : decode cX7_isSeen 17 = .ok (.getfield 26, 3) := by decide +kernel
theorem dX7_isSeen_20 : decode cX7_isSeen 20 = .ok (.aload_n 0, 1) := by decide +kernel
theorem dX7_isSeen_21 : decode cX7_isSeen 21 = .ok (.getfield 33, 3) := by decide +kernel
theorem dX7_isSeen_24 : decode cX7_isSeen 24 = .ok (.getfield 124, 3) := by decide +kernel
theorem dX7_isSeen_27 : decode cX7_isSeen 27 = .ok (.aaload, 1) := by decide +kernel
theorem dX7_isSeen_28 : decode cX7_isSeen 28 = .ok (.astore 5, 2) := by decide +kernel
theorem dX7_isSeen_30 : decode cX7_isSeen 30 = .ok (.aload 5, 2) := by decide +kernel
theorem dX7_isSeen_32 : decode cX7_isSeen 32 = .ok (.getfield 284, 3) := by decide +kernel
theorem dX7_isSeen_35 : decode cX7_isSeen 35 = .ok (.iconst (-1), 1) := by decide +kernel
theorem dX7_isSeen_36 : decode cX7_isSeen 36 = .ok (.if_icmp .ne 5, 3) := by decide +kernel
theorem dX7_isSeen_39 : decode cX7_isSeen 39 = .ok (.iconst 1, 1) := by decide +kernel
theorem dX7_isSeen_40 : decode cX7_isSeen 40 = .ok (.ireturn, 1) := by decide +kernel
theorem dX7_isSeen_41 : decode cX7_isSeen 41 = .ok (.aload_n 0, 1) := by decide +kernel
theorem dX7_isSeen_42 : decode cX7_isSeen 42 = .ok (.aload_n 1, 1) := by decide +kernel
theorem dX7_isSeen_43 : decode cX7_isSeen 43 = .ok (.iload_n 2, 1) := by decide +kernel
theorem dX7_isSeen_44 : decode cX7_isSeen 44 = .ok (.invokevirtual 287, 3) := by decide +kernel
theorem dX7_isSeen_47 : decode cX7_isSeen 47 = .ok (.aload_n 0, 1) := by decide +kernel
theorem dX7_isSeen_48 : decode cX7_isSeen 48 = .ok (.getfield 50, 3) := by decide +kernel
theorem dX7_isSeen_51 : decode cX7_isSeen 51 = .ok (.iload_n 3, 1) := by decide +kernel
theorem dX7_isSeen_52 : decode cX7_isSeen 52 = .ok (.aload_n 0, 1) := by decide +kernel
theorem dX7_isSeen_53 : decode cX7_isSeen 53 = .ok (.getfield 33, 3) := by decide +kernel
theorem dX7_isSeen_56 : decode cX7_isSeen 56 = .ok (.getfield 84, 3) := by decide +kernel
theorem dX7_isSeen_59 : decode cX7_isSeen 59 = .ok (.iload_n 3, 1) := by decide +kernel
theorem dX7_isSeen_60 : decode cX7_isSeen 60 = .ok (.iaload, 1) := by decide +kernel
theorem dX7_isSeen_61 : decode cX7_isSeen 61 = .ok (.iload 4, 2) := by decide +kernel
theorem dX7_isSeen_63 : decode cX7_isSeen 63 = .ok (.invokevirtual 291, 3) := by decide +kernel
theorem dX7_isSeen_66 : decode cX7_isSeen 66 = .ok (.aload_n 0, 1) := by decide +kernel
theorem dX7_isSeen_67 : decode cX7_isSeen 67 = .ok (.getfield 50, 3) := by decide +kernel
theorem dX7_isSeen_70 : decode cX7_isSeen 70 = .ok (.aload 5, 2) := by decide +kernel
theorem dX7_isSeen_72 : decode cX7_isSeen 72 = .ok (.getfield 295, 3) := by decide +kernel
theorem dX7_isSeen_75 : decode cX7_isSeen 75 = .ok (.aload 5, 2) := by decide +kernel
theorem dX7_isSeen_77 : decode cX7_isSeen 77 = .ok (.getfield 284, 3) := by decide +kernel
theorem dX7_isSeen_80 : decode cX7_isSeen 80 = .ok (.aload 5, 2) := by decide +kernel
theorem dX7_isSeen_82 : decode cX7_isSeen 82 = .ok (.getfield 298, 3) := by decide +kernel
theorem dX7_isSeen_85 : decode cX7_isSeen 85 = .ok (.invokevirtual 301, 3) := by decide +kernel
theorem dX7_isSeen_88 : decode cX7_isSeen 88 = .ok (.ifCond .eq 7, 3) := by decide +kernel
theorem dX7_isSeen_91 : decode cX7_isSeen 91 = .ok (.iconst 1, 1) := by decide +kernel
theorem dX7_isSeen_92 : decode cX7_isSeen 92 = .ok (.goto 4, 3) := by decide +kernel
theorem dX7_isSeen_95 : decode cX7_isSeen 95 = .ok (.iconst 0, 1) := by decide +kernel
theorem dX7_isSeen_96 : decode cX7_isSeen 96 = .ok (.ireturn, 1) := by decide +kernel
theorem dX7_rubsOf_0 : decode cX7_rubsOf 0 = .ok (.aload_n 0, 1) := by decide +kernel
theorem dX7_rubsOf_1 : decode cX7_rubsOf 1 = .ok (.aload_n 0, 1) := by decide +kernel
theorem dX7_rubsOf_2 : decode cX7_rubsOf 2 = .ok (.getfield 33, 3) := by decide +kernel
theorem dX7_rubsOf_5 : decode cX7_rubsOf 5 = .ok (.getfield 124, 3) := by decide +kernel
theorem dX7_rubsOf_8 : decode cX7_rubsOf 8 = .ok (.invokevirtual 120, 3) := by decide +kernel
theorem dX7_rubsOf_11 : decode cX7_rubsOf 11 = .ok (.ifCond .ne 5, 3) := by decide +kernel
theorem dX7_rubsOf_14 : decode cX7_rubsOf 14 = .ok (.iconst 1, 1) := by decide +kernel
theorem dX7_rubsOf_15 : decode cX7_rubsOf 15 = .ok (.ireturn, 1) := by decide +kernel
theorem dX7_rubsOf_16 : decode cX7_rubsOf 16 = .ok (.aload_n 0, 1) := by decide +kernel
theorem dX7_rubsOf_17 : decode cX7_rubsOf 17 = .ok (.getfield 26, 3) := by decide +kernel
theorem dX7_rubsOf_20 : decode cX7_rubsOf 20 = .ok (.aload_n 0, 1) := by decide +kernel
theorem dX7_rubsOf_21 : decode cX7_rubsOf 21 = .ok (.getfield 33, 3) := by decide +kernel
theorem dX7_rubsOf_24 : decode cX7_rubsOf 24 = .ok (.getfield 124, 3) := by decide +kernel
theorem dX7_rubsOf_27 : decode cX7_rubsOf 27 = .ok (.aaload, 1) := by decide +kernel
theorem dX7_rubsOf_28 : decode cX7_rubsOf 28 = .ok (.astore_n 2, 1) := by decide +kernel
theorem dX7_rubsOf_29 : decode cX7_rubsOf 29 = .ok (.aload_n 2, 1) := by decide +kernel
theorem dX7_rubsOf_30 : decode cX7_rubsOf 30 = .ok (.getfield 305, 3) := by decide +kernel
theorem dX7_rubsOf_33 : decode cX7_rubsOf 33 = .ok (.iconst (-1), 1) := by decide +kernel
theorem dX7_rubsOf_34 : decode cX7_rubsOf 34 = .ok (.if_icmp .ne 5, 3) := by decide +kernel
theorem dX7_rubsOf_37 : decode cX7_rubsOf 37 = .ok (.iconst 1, 1) := by decide +kernel
theorem dX7_rubsOf_38 : decode cX7_rubsOf 38 = .ok (.ireturn, 1) := by decide +kernel
theorem dX7_rubsOf_39 : decode cX7_rubsOf 39 = .ok (.aload_n 0, 1) := by decide +kernel
theorem dX7_rubsOf_40 : decode cX7_rubsOf 40 = .ok (.aload_n 0, 1) := by decide +kernel
theorem dX7_rubsOf_41 : decode cX7_rubsOf 41 = .ok (.getfield 33, 3) := by decide +kernel
theorem dX7_rubsOf_44 : decode cX7_rubsOf 44 = .ok (.getfield 150, 3) := by decide +kernel
theorem dX7_rubsOf_47 : decode cX7_rubsOf 47 = .ok (.iload_n 1, 1) := by decide +kernel
theorem dX7_rubsOf_48 : decode cX7_rubsOf 48 = .ok (.invokevirtual 287, 3) := by decide +kernel
theorem dX7_rubsOf_51 : decode cX7_rubsOf 51 = .ok (.aload_n 0, 1) := by decide +kernel
theorem dX7_rubsOf_52 : decode cX7_rubsOf 52 = .ok (.getfield 50, 3) := by decide +kernel
theorem dX7_rubsOf_55 : decode cX7_rubsOf 55 = .ok (.aload_n 2, 1) := by decide +kernel
theorem dX7_rubsOf_56 : decode cX7_rubsOf 56 = .ok (.getfield 295, 3) := by decide +kernel
theorem dX7_rubsOf_59 : decode cX7_rubsOf 59 = .ok (.aload_n 2, 1) := by decide +kernel
theorem dX7_rubsOf_60 : decode cX7_rubsOf 60 = .ok (.getfield 305, 3) := by decide +kernel
theorem dX7_rubsOf_63 : decode cX7_rubsOf 63 = .ok (.aload_n 2, 1) := by decide +kernel
theorem dX7_rubsOf_64 : decode cX7_rubsOf 64 = .ok (.getfield 308, 3) := by decide +kernel
theorem dX7_rubsOf_67 : decode cX7_rubsOf 67 = .ok (.invokevirtual 301, 3) := by decide +kernel
theorem dX7_rubsOf_70 : decode cX7_rubsOf 70 = .ok (.istore_n 3, 1) := by decide +kernel
theorem dX7_rubsOf_71 : decode cX7_rubsOf 71 = .ok (.iconst 0, 1) := by decide +kernel
theorem dX7_rubsOf_72 : decode cX7_rubsOf 72 = .ok (.bipush 99, 2) := by decide +kernel
theorem dX7_rubsOf_74 : decode cX7_rubsOf 74 = .ok (.iload_n 3, 1) := by decide +kernel
theorem dX7_rubsOf_75 : decode cX7_rubsOf 75 = .ok (.invokestatic 68, 3) := by decide +kernel
theorem dX7_rubsOf_78 : decode cX7_rubsOf 78 = .ok (.invokestatic 74, 3) := by decide +kernel
theorem dX7_rubsOf_81 : decode cX7_rubsOf 81 = .ok (.ireturn, 1) := by decide +kernel
theorem dX7_nameEye_0 : decode cX7_nameEye 0 = .ok (.aload_n 0, 1) := by decide +kernel
theorem dX7_nameEye_1 : decode cX7_nameEye 1 = .ok (.getfield 50, 3) := by decide +kernel
theorem dX7_nameEye_4 : decode cX7_nameEye 4 = .ok (.iload_n 2, 1) := by decide +kernel
theorem dX7_nameEye_5 : decode cX7_nameEye 5 = .ok (.aload_n 0, 1) := by decide +kernel
theorem dX7_nameEye_6 : decode cX7_nameEye 6 = .ok (.getfield 33, 3) := by decide +kernel
theorem dX7_nameEye_9 : decode cX7_nameEye 9 = .ok (.getfield 90, 3) := by decide +kernel
theorem dX7_nameEye_12 : decode cX7_nameEye 12 = .ok (.iload_n 2, 1) := by decide +kernel
theorem dX7_nameEye_13 : decode cX7_nameEye 13 = .ok (.iaload, 1) := by decide +kernel
theorem dX7_nameEye_14 : decode cX7_nameEye 14 = .ok (.aload_n 0, 1) := by decide +kernel
theorem dX7_nameEye_15 : decode cX7_nameEye 15 = .ok (.getfield 33, 3) := by decide +kernel
theorem dX7_nameEye_18 : decode cX7_nameEye 18 = .ok (.getfield 93, 3) := by decide +kernel
theorem dX7_nameEye_21 : decode cX7_nameEye 21 = .ok (.iload_n 2, 1) := by decide +kernel
theorem dX7_nameEye_22 : decode cX7_nameEye 22 = .ok (.iaload, 1) := by decide +kernel
theorem dX7_nameEye_23 : decode cX7_nameEye 23 = .ok (.invokevirtual 311, 3) := by decide +kernel
theorem dX7_nameEye_26 : decode cX7_nameEye 26 = .ok (.aload_n 0, 1) := by decide +kernel
theorem dX7_nameEye_27 : decode cX7_nameEye 27 = .ok (.getfield 50, 3) := by decide +kernel
theorem dX7_nameEye_30 : decode cX7_nameEye 30 = .ok (.aload_n 1, 1) := by decide +kernel
theorem dX7_nameEye_31 : decode cX7_nameEye 31 = .ok (.getfield 247, 3) := by decide +kernel
theorem dX7_nameEye_34 : decode cX7_nameEye 34 = .ok (.aload_n 1, 1) := by decide +kernel
theorem dX7_nameEye_35 : decode cX7_nameEye 35 = .ok (.getfield 247, 3) := by decide +kernel
theorem dX7_nameEye_38 : decode cX7_nameEye 38 = .ok (.aload_n 1, 1) := by decide +kernel
theorem dX7_nameEye_39 : decode cX7_nameEye 39 = .ok (.getfield 186, 3) := by decide +kernel
theorem dX7_nameEye_42 : decode cX7_nameEye 42 = .ok (.iload_n 2, 1) := by decide +kernel
theorem dX7_nameEye_43 : decode cX7_nameEye 43 = .ok (.iaload, 1) := by decide +kernel
theorem dX7_nameEye_44 : decode cX7_nameEye 44 = .ok (.isub, 1) := by decide +kernel
theorem dX7_nameEye_45 : decode cX7_nameEye 45 = .ok (.aload_n 1, 1) := by decide +kernel
theorem dX7_nameEye_46 : decode cX7_nameEye 46 = .ok (.getfield 177, 3) := by decide +kernel
theorem dX7_nameEye_49 : decode cX7_nameEye 49 = .ok (.iload_n 2, 1) := by decide +kernel
theorem dX7_nameEye_50 : decode cX7_nameEye 50 = .ok (.iaload, 1) := by decide +kernel
theorem dX7_nameEye_51 : decode cX7_nameEye 51 = .ok (.invokestatic 313, 3) := by decide +kernel
theorem dX7_nameEye_54 : decode cX7_nameEye 54 = .ok (.invokevirtual 316, 3) := by decide +kernel
theorem dX7_nameEye_57 : decode cX7_nameEye 57 = .ok (.return_, 1) := by decide +kernel
theorem dX7_tellAll_0 : decode cX7_tellAll 0 = .ok (.iconst 0, 1) := by decide +kernel
theorem dX7_tellAll_1 : decode cX7_tellAll 1 = .ok (.istore_n 2, 1) := by decide +kernel
theorem dX7_tellAll_2 : decode cX7_tellAll 2 = .ok (.iload_n 2, 1) := by decide +kernel
theorem dX7_tellAll_3 : decode cX7_tellAll 3 = .ok (.aload_n 0, 1) := by decide +kernel
theorem dX7_tellAll_4 : decode cX7_tellAll 4 = .ok (.getfield 33, 3) := by decide +kernel
theorem dX7_tellAll_7 : decode cX7_tellAll 7 = .ok (.getfield 100, 3) := by decide +kernel
theorem dX7_tellAll_10 : decode cX7_tellAll 10 = .ok (.if_icmp .ge 63, 3) := by decide +kernel
theorem dX7_tellAll_13 : decode cX7_tellAll 13 = .ok (.iload_n 1, 1) := by decide +kernel
theorem dX7_tellAll_14 : decode cX7_tellAll 14 = .ok (.iload_n 2, 1) := by decide +kernel
theorem dX7_tellAll_15 : decode cX7_tellAll 15 = .ok (.ishr, 1) := by decide +kernel
theorem dX7_tellAll_16 : decode cX7_tellAll 16 = .ok (.iconst 1, 1) := by decide +kernel
theorem dX7_tellAll_17 : decode cX7_tellAll 17 = .ok (.iand, 1) := by decide +kernel
theorem dX7_tellAll_18 : decode cX7_tellAll 18 = .ok (.iconst 1, 1) := by decide +kernel
theorem dX7_tellAll_19 : decode cX7_tellAll 19 = .ok (.if_icmp .ne 48, 3) := by decide +kernel
theorem dX7_tellAll_22 : decode cX7_tellAll 22 = .ok (.aload_n 0, 1) := by decide +kernel
theorem dX7_tellAll_23 : decode cX7_tellAll 23 = .ok (.getfield 43, 3) := by decide +kernel
theorem dX7_tellAll_26 : decode cX7_tellAll 26 = .ok (.aload_n 0, 1) := by decide +kernel
theorem dX7_tellAll_27 : decode cX7_tellAll 27 = .ok (.getfield 33, 3) := by decide +kernel
theorem dX7_tellAll_30 : decode cX7_tellAll 30 = .ok (.getfield 150, 3) := by decide +kernel
theorem dX7_tellAll_33 : decode cX7_tellAll 33 = .ok (.invokevirtual 192, 3) := by decide +kernel
theorem dX7_tellAll_36 : decode cX7_tellAll 36 = .ok (.aload_n 0, 1) := by decide +kernel
theorem dX7_tellAll_37 : decode cX7_tellAll 37 = .ok (.aload_n 0, 1) := by decide +kernel
theorem dX7_tellAll_38 : decode cX7_tellAll 38 = .ok (.getfield 26, 3) := by decide +kernel
theorem dX7_tellAll_41 : decode cX7_tellAll 41 = .ok (.iload_n 2, 1) := by decide +kernel
theorem dX7_tellAll_42 : decode cX7_tellAll 42 = .ok (.aaload, 1) := by decide +kernel
theorem dX7_tellAll_43 : decode cX7_tellAll 43 = .ok (.invokevirtual 195, 3) := by decide +kernel
theorem dX7_tellAll_46 : decode cX7_tellAll 46 = .ok (.aload_n 0, 1) := by decide +kernel
theorem dX7_tellAll_47 : decode cX7_tellAll 47 = .ok (.getfield 43, 3) := by decide +kernel
theorem dX7_tellAll_50 : decode cX7_tellAll 50 = .ok (.getfield 177, 3) := by decide +kernel
theorem dX7_tellAll_53 : decode cX7_tellAll 53 = .ok (.iconst 0, 1) := by decide +kernel
theorem dX7_tellAll_54 : decode cX7_tellAll 54 = .ok (.aload_n 0, 1) := by decide +kernel
theorem dX7_tellAll_55 : decode cX7_tellAll 55 = .ok (.getfield 61, 3) := by decide +kernel
theorem dX7_tellAll_58 : decode cX7_tellAll 58 = .ok (.iload_n 2, 1) := by decide +kernel
theorem dX7_tellAll_59 : decode cX7_tellAll 59 = .ok (.bipush 8, 2) := by decide +kernel
theorem dX7_tellAll_61 : decode cX7_tellAll 61 = .ok (.imul, 1) := by decide +kernel
theorem dX7_tellAll_62 : decode cX7_tellAll 62 = .ok (.bipush 8, 2) := by decide +kernel
theorem dX7_tellAll_64 : decode cX7_tellAll 64 = .ok (.invokestatic 319, 3) := by decide +kernel
theorem dX7_tellAll_67 : decode cX7_tellAll 67 = .ok (.iinc 2 1, 3) := by decide +kernel
theorem dX7_tellAll_70 : decode cX7_tellAll 70 = .ok (.goto (-68), 3) := by decide +kernel
theorem dX7_tellAll_73 : decode cX7_tellAll 73 = .ok (.return_, 1) := by decide +kernel
theorem dX7_tellsApart_0 : decode cX7_tellsApart 0 = .ok (.iconst 0, 1) := by decide +kernel
theorem dX7_tellsApart_1 : decode cX7_tellsApart 1 = .ok (.istore_n 3, 1) := by decide +kernel
theorem dX7_tellsApart_2 : decode cX7_tellsApart 2 = .ok (.iload_n 3, 1) := by decide +kernel
theorem dX7_tellsApart_3 : decode cX7_tellsApart 3 = .ok (.aload_n 0, 1) := by decide +kernel
theorem dX7_tellsApart_4 : decode cX7_tellsApart 4 = .ok (.getfield 33, 3) := by decide +kernel
theorem dX7_tellsApart_7 : decode cX7_tellsApart 7 = .ok (.getfield 100, 3) := by decide +kernel
theorem dX7_tellsApart_10 : decode cX7_tellsApart 10 = .ok (.if_icmp .ge 77, 3) := by decide +kernel
theorem dX7_tellsApart_13 : decode cX7_tellsApart 13 = .ok (.iload_n 3, 1) := by decide +kernel
theorem dX7_tellsApart_14 : decode cX7_tellsApart 14 = .ok (.iconst 1, 1) := by decide +kernel
theorem dX7_tellsApart_15 : decode cX7_tellsApart 15 = .ok (.iadd, 1) := by decide +kernel
theorem dX7_tellsApart_16 : decode cX7_tellsApart 16 = .ok (.istore 4, 2) := by decide +kernel
theorem dX7_tellsApart_18 : decode cX7_tellsApart 18 = .ok (.iload 4, 2) := by decide +kernel
theorem dX7_tellsApart_20 : decode cX7_tellsApart 20 = .ok (.aload_n 0, 1) := by decide +kernel
theorem dX7_tellsApart_21 : decode cX7_tellsApart 21 = .ok (.getfield 33, 3) := by decide +kernel
theorem dX7_tellsApart_24 : decode cX7_tellsApart 24 = .ok (.getfield 100, 3) := by decide +kernel
theorem dX7_tellsApart_27 : decode cX7_tellsApart 27 = .ok (.if_icmp .ge 54, 3) := by decide +kernel
theorem dX7_tellsApart_30 : decode cX7_tellsApart 30 = .ok (.iload_n 2, 1) := by decide +kernel
theorem dX7_tellsApart_31 : decode cX7_tellsApart 31 = .ok (.iload_n 3, 1) := by decide +kernel
theorem dX7_tellsApart_32 : decode cX7_tellsApart 32 = .ok (.ishr, 1) := by decide +kernel
theorem dX7_tellsApart_33 : decode cX7_tellsApart 33 = .ok (.iload_n 2, 1) := by decide +kernel
theorem dX7_tellsApart_34 : decode cX7_tellsApart 34 = .ok (.iload 4, 2) := by decide +kernel
theorem dX7_tellsApart_36 : decode cX7_tellsApart 36 = .ok (.ishr, 1) := by decide +kernel
theorem dX7_tellsApart_37 : decode cX7_tellsApart 37 = .ok (.iand, 1) := by decide +kernel
theorem dX7_tellsApart_38 : decode cX7_tellsApart 38 = .ok (.iconst 1, 1) := by decide +kernel
theorem dX7_tellsApart_39 : decode cX7_tellsApart 39 = .ok (.iand, 1) := by decide +kernel
theorem dX7_tellsApart_40 : decode cX7_tellsApart 40 = .ok (.iconst 1, 1) := by decide +kernel
theorem dX7_tellsApart_41 : decode cX7_tellsApart 41 = .ok (.if_icmp .ne 7, 3) := by decide +kernel
theorem dX7_tellsApart_44 : decode cX7_tellsApart 44 = .ok (.iconst 1, 1) := by decide +kernel
theorem dX7_tellsApart_45 : decode cX7_tellsApart 45 = .ok (.goto 4, 3) := by decide +kernel
theorem dX7_tellsApart_48 : decode cX7_tellsApart 48 = .ok (.iconst 0, 1) := by decide +kernel
theorem dX7_tellsApart_49 : decode cX7_tellsApart 49 = .ok (.istore 5, 2) := by decide +kernel
theorem dX7_tellsApart_51 : decode cX7_tellsApart 51 = .ok (.iload 5, 2) := by decide +kernel
theorem dX7_tellsApart_53 : decode cX7_tellsApart 53 = .ok (.ifCond .eq 22, 3) := by decide +kernel
theorem dX7_tellsApart_56 : decode cX7_tellsApart 56 = .ok (.aload_n 0, 1) := by decide +kernel
theorem dX7_tellsApart_57 : decode cX7_tellsApart 57 = .ok (.iload_n 1, 1) := by decide +kernel
theorem dX7_tellsApart_58 : decode cX7_tellsApart 58 = .ok (.iload_n 3, 1) := by decide +kernel
theorem dX7_tellsApart_59 : decode cX7_tellsApart 59 = .ok (.bipush 8, 2) := by decide +kernel
theorem dX7_tellsApart_61 : decode cX7_tellsApart 61 = .ok (.imul, 1) := by decide +kernel
theorem dX7_tellsApart_62 : decode cX7_tellsApart 62 = .ok (.iload 4, 2) := by decide +kernel
theorem dX7_tellsApart_64 : decode cX7_tellsApart 64 = .ok (.bipush 8, 2) := by decide +kernel
theorem dX7_tellsApart_66 : decode cX7_tellsApart 66 = .ok (.imul, 1) := by decide +kernel
theorem dX7_tellsApart_67 : decode cX7_tellsApart 67 = .ok (.invokevirtual 325, 3) := by decide +kernel
theorem dX7_tellsApart_70 : decode cX7_tellsApart 70 = .ok (.ifCond .ne 5, 3) := by decide +kernel
theorem dX7_tellsApart_73 : decode cX7_tellsApart 73 = .ok (.iconst 0, 1) := by decide +kernel
theorem dX7_tellsApart_74 : decode cX7_tellsApart 74 = .ok (.ireturn, 1) := by decide +kernel
theorem dX7_tellsApart_75 : decode cX7_tellsApart 75 = .ok (.iinc 4 1, 3) := by decide +kernel
theorem dX7_tellsApart_78 : decode cX7_tellsApart 78 = .ok (.goto (-60), 3) := by decide +kernel
theorem dX7_tellsApart_81 : decode cX7_tellsApart 81 = .ok (.iinc 3 1, 3) := by decide +kernel
theorem dX7_tellsApart_84 : decode cX7_tellsApart 84 = .ok (.goto (-82), 3) := by decide +kernel
theorem dX7_tellsApart_87 : decode cX7_tellsApart 87 = .ok (.iconst 1, 1) := by decide +kernel
theorem dX7_tellsApart_88 : decode cX7_tellsApart 88 = .ok (.ireturn, 1) := by decide +kernel
theorem dX7_differ_0 : decode cX7_differ 0 = .ok (.iconst 0, 1) := by decide +kernel
theorem dX7_differ_1 : decode cX7_differ 1 = .ok (.istore 4, 2) := by decide +kernel
theorem dX7_differ_3 : decode cX7_differ 3 = .ok (.iload 4, 2) := by decide +kernel
theorem dX7_differ_5 : decode cX7_differ 5 = .ok (.aload_n 0, 1) := by decide +kernel
theorem dX7_differ_6 : decode cX7_differ 6 = .ok (.getfield 33, 3) := by decide +kernel
theorem dX7_differ_9 : decode cX7_differ 9 = .ok (.getfield 87, 3) := by decide +kernel
theorem dX7_differ_12 : decode cX7_differ 12 = .ok (.if_icmp .ge 42, 3) := by decide +kernel
theorem dX7_differ_15 : decode cX7_differ 15 = .ok (.iload_n 1, 1) := by decide +kernel
theorem dX7_differ_16 : decode cX7_differ 16 = .ok (.iload 4, 2) := by decide +kernel
theorem dX7_differ_18 : decode cX7_differ 18 = .ok (.ishr, 1) := by decide +kernel
theorem dX7_differ_19 : decode cX7_differ 19 = .ok (.iconst 1, 1) := by decide +kernel
theorem dX7_differ_20 : decode cX7_differ 20 = .ok (.iand, 1) := by decide +kernel
theorem dX7_differ_21 : decode cX7_differ 21 = .ok (.iconst 1, 1) := by decide +kernel
theorem dX7_differ_22 : decode cX7_differ 22 = .ok (.if_icmp .ne 26, 3) := by decide +kernel
theorem dX7_differ_25 : decode cX7_differ 25 = .ok (.aload_n 0, 1) := by decide +kernel
theorem dX7_differ_26 : decode cX7_differ 26 = .ok (.getfield 61, 3) := by decide +kernel
theorem dX7_differ_29 : decode cX7_differ 29 = .ok (.iload_n 2, 1) := by decide +kernel
theorem dX7_differ_30 : decode cX7_differ 30 = .ok (.iload 4, 2) := by decide +kernel
theorem dX7_differ_32 : decode cX7_differ 32 = .ok (.iadd, 1) := by decide +kernel
theorem dX7_differ_33 : decode cX7_differ 33 = .ok (.iaload, 1) := by decide +kernel
theorem dX7_differ_34 : decode cX7_differ 34 = .ok (.aload_n 0, 1) := by decide +kernel
theorem dX7_differ_35 : decode cX7_differ 35 = .ok (.getfield 61, 3) := by decide +kernel
theorem dX7_differ_38 : decode cX7_differ 38 = .ok (.iload_n 3, 1) := by decide +kernel
theorem dX7_differ_39 : decode cX7_differ 39 = .ok (.iload 4, 2) := by decide +kernel
theorem dX7_differ_41 : decode cX7_differ 41 = .ok (.iadd, 1) := by decide +kernel
theorem dX7_differ_42 : decode cX7_differ 42 = .ok (.iaload, 1) := by decide +kernel
theorem dX7_differ_43 : decode cX7_differ 43 = .ok (.if_icmp .eq 5, 3) := by decide +kernel
theorem dX7_differ_46 : decode cX7_differ 46 = .ok (.iconst 1, 1) := by decide +kernel
theorem dX7_differ_47 : decode cX7_differ 47 = .ok (.ireturn, 1) := by decide +kernel
theorem dX7_differ_48 : decode cX7_differ 48 = .ok (.iinc 4 1, 3) := by decide +kernel
theorem dX7_differ_51 : decode cX7_differ 51 = .ok (.goto (-48), 3) := by decide +kernel
theorem dX7_differ_54 : decode cX7_differ 54 = .ok (.iconst 0, 1) := by decide +kernel
theorem dX7_differ_55 : decode cX7_differ 55 = .ok (.ireturn, 1) := by decide +kernel
theorem dX7_isNoWorse_0 : decode cX7_isNoWorse 0 = .ok (.aload_n 0, 1) := by decide +kernel
theorem dX7_isNoWorse_1 : decode cX7_isNoWorse 1 = .ok (.iload_n 2, 1) := by decide +kernel
theorem dX7_isNoWorse_2 : decode cX7_isNoWorse 2 = .ok (.invokevirtual 329, 3) := by decide +kernel
theorem dX7_isNoWorse_5 : decode cX7_isNoWorse 5 = .ok (.aload_n 0, 1) := by decide +kernel
theorem dX7_isNoWorse_6 : decode cX7_isNoWorse 6 = .ok (.iload_n 1, 1) := by decide +kernel
theorem dX7_isNoWorse_7 : decode cX7_isNoWorse 7 = .ok (.invokevirtual 329, 3) := by decide +kernel
theorem dX7_isNoWorse_10 : decode cX7_isNoWorse 10 = .ok (.isub, 1) := by decide +kernel
theorem dX7_isNoWorse_11 : decode cX7_isNoWorse 11 = .ok (.istore_n 3, 1) := by decide +kernel
theorem dX7_isNoWorse_12 : decode cX7_isNoWorse 12 = .ok (.iload_n 3, 1) := by decide +kernel
theorem dX7_isNoWorse_13 : decode cX7_isNoWorse 13 = .ok (.ifCond .gt 18, 3) := by decide +kernel
theorem dX7_isNoWorse_16 : decode cX7_isNoWorse 16 = .ok (.iload_n 3, 1) := by decide +kernel
theorem dX7_isNoWorse_17 : decode cX7_isNoWorse 17 = .ok (.ifCond .ne 18, 3) := by decide +kernel
theorem dX7_isNoWorse_20 : decode cX7_isNoWorse 20 = .ok (.iload_n 1, 1) := by decide +kernel
theorem dX7_isNoWorse_21 : decode cX7_isNoWorse 21 = .ok (.invokestatic 199, 3) := by decide +kernel
theorem dX7_isNoWorse_24 : decode cX7_isNoWorse 24 = .ok (.iload_n 2, 1) := by decide +kernel
theorem dX7_isNoWorse_25 : decode cX7_isNoWorse 25 = .ok (.invokestatic 199, 3) := by decide +kernel
theorem dX7_isNoWorse_28 : decode cX7_isNoWorse 28 = .ok (.if_icmp .gt 7, 3) := by decide +kernel
theorem dX7_isNoWorse_31 : decode cX7_isNoWorse 31 = .ok (.iconst 1, 1) := by decide +kernel
theorem dX7_isNoWorse_32 : decode cX7_isNoWorse 32 = .ok (.goto 4, 3) := by decide +kernel
theorem dX7_isNoWorse_35 : decode cX7_isNoWorse 35 = .ok (.iconst 0, 1) := by decide +kernel
theorem dX7_isNoWorse_36 : decode cX7_isNoWorse 36 = .ok (.ireturn, 1) := by decide +kernel
theorem dX7_priceOf_0 : decode cX7_priceOf 0 = .ok (.iconst 0, 1) := by decide +kernel
theorem dX7_priceOf_1 : decode cX7_priceOf 1 = .ok (.istore_n 2, 1) := by decide +kernel
theorem dX7_priceOf_2 : decode cX7_priceOf 2 = .ok (.iconst 0, 1) := by decide +kernel
theorem dX7_priceOf_3 : decode cX7_priceOf 3 = .ok (.istore_n 3, 1) := by decide +kernel
theorem dX7_priceOf_4 : decode cX7_priceOf 4 = .ok (.iload_n 3, 1) := by decide +kernel
theorem dX7_priceOf_5 : decode cX7_priceOf 5 = .ok (.aload_n 0, 1) := by decide +kernel
theorem dX7_priceOf_6 : decode cX7_priceOf 6 = .ok (.getfield 33, 3) := by decide +kernel
theorem dX7_priceOf_9 : decode cX7_priceOf 9 = .ok (.getfield 87, 3) := by decide +kernel
theorem dX7_priceOf_12 : decode cX7_priceOf 12 = .ok (.if_icmp .ge 24, 3) := by decide +kernel
theorem dX7_priceOf_15 : decode cX7_priceOf 15 = .ok (.iload_n 2, 1) := by decide +kernel
theorem dX7_priceOf_16 : decode cX7_priceOf 16 = .ok (.aload_n 0, 1) := by decide +kernel
theorem dX7_priceOf_17 : decode cX7_priceOf 17 = .ok (.getfield 65, 3) := by decide +kernel
theorem dX7_priceOf_20 : decode cX7_priceOf 20 = .ok (.iload_n 3, 1) := by decide +kernel
theorem dX7_priceOf_21 : decode cX7_priceOf 21 = .ok (.iaload, 1) := by decide +kernel
theorem dX7_priceOf_22 : decode cX7_priceOf 22 = .ok (.iload_n 1, 1) := by decide +kernel
theorem dX7_priceOf_23 : decode cX7_priceOf 23 = .ok (.iload_n 3, 1) := by decide +kernel
theorem dX7_priceOf_24 : decode cX7_priceOf 24 = .ok (.ishr, 1) := by decide +kernel
theorem dX7_priceOf_25 : decode cX7_priceOf 25 = .ok (.iconst 1, 1) := by decide +kernel
theorem dX7_priceOf_26 : decode cX7_priceOf 26 = .ok (.iand, 1) := by decide +kernel
theorem dX7_priceOf_27 : decode cX7_priceOf 27 = .ok (.imul, 1) := by decide +kernel
theorem dX7_priceOf_28 : decode cX7_priceOf 28 = .ok (.iadd, 1) := by decide +kernel
theorem dX7_priceOf_29 : decode cX7_priceOf 29 = .ok (.istore_n 2, 1) := by decide +kernel
theorem dX7_priceOf_30 : decode cX7_priceOf 30 = .ok (.iinc 3 1, 3) := by decide +kernel
theorem dX7_priceOf_33 : decode cX7_priceOf 33 = .ok (.goto (-29), 3) := by decide +kernel
theorem dX7_priceOf_36 : decode cX7_priceOf 36 = .ok (.iload_n 2, 1) := by decide +kernel
theorem dX7_priceOf_37 : decode cX7_priceOf 37 = .ok (.ireturn, 1) := by decide +kernel
theorem dX7_findRows_0 : decode cX7_findRows 0 = .ok (.aload_n 0, 1) := by decide +kernel
theorem dX7_findRows_1 : decode cX7_findRows 1 = .ok (.getfield 43, 3) := by decide +kernel
theorem dX7_findRows_4 : decode cX7_findRows 4 = .ok (.aload_n 0, 1) := by decide +kernel
theorem dX7_findRows_5 : decode cX7_findRows 5 = .ok (.getfield 33, 3) := by decide +kernel
theorem dX7_findRows_8 : decode cX7_findRows 8 = .ok (.getfield 150, 3) := by decide +kernel
theorem dX7_findRows_11 : decode cX7_findRows 11 = .ok (.invokevirtual 192, 3) := by decide +kernel
theorem dX7_findRows_14 : decode cX7_findRows 14 = .ok (.aload_n 0, 1) := by decide +kernel
theorem dX7_findRows_15 : decode cX7_findRows 15 = .ok (.getfield 57, 3) := by decide +kernel
theorem dX7_findRows_18 : decode cX7_findRows 18 = .ok (.iload_n 1, 1) := by decide +kernel
theorem dX7_findRows_19 : decode cX7_findRows 19 = .ok (.iload_n 2, 1) := by decide +kernel
theorem dX7_findRows_20 : decode cX7_findRows 20 = .ok (.aload_n 0, 1) := by decide +kernel
theorem dX7_findRows_21 : decode cX7_findRows 21 = .ok (.getfield 43, 3) := by decide +kernel
theorem dX7_findRows_24 : decode cX7_findRows 24 = .ok (.getfield 183, 3) := by decide +kernel
theorem dX7_findRows_27 : decode cX7_findRows 27 = .ok (.iload_n 1, 1) := by decide +kernel
theorem dX7_findRows_28 : decode cX7_findRows 28 = .ok (.iaload, 1) := by decide +kernel
theorem dX7_findRows_29 : decode cX7_findRows 29 = .ok (.aload_n 0, 1) := by decide +kernel
theorem dX7_findRows_30 : decode cX7_findRows 30 = .ok (.getfield 77, 3) := by decide +kernel
theorem dX7_findRows_33 : decode cX7_findRows 33 = .ok (.invokevirtual 332, 3) := by decide +kernel
theorem dX7_findRows_36 : decode cX7_findRows 36 = .ok (.aload_n 0, 1) := by decide +kernel
theorem dX7_findRows_37 : decode cX7_findRows 37 = .ok (.getfield 43, 3) := by decide +kernel
theorem dX7_findRows_40 : decode cX7_findRows 40 = .ok (.getfield 247, 3) := by decide +kernel
theorem dX7_findRows_43 : decode cX7_findRows 43 = .ok (.iload_n 2, 1) := by decide +kernel
theorem dX7_findRows_44 : decode cX7_findRows 44 = .ok (.iadd, 1) := by decide +kernel
theorem dX7_findRows_45 : decode cX7_findRows 45 = .ok (.sipush 999, 3) := by decide +kernel
theorem dX7_findRows_48 : decode cX7_findRows 48 = .ok (.if_icmp .gt 19, 3) := by decide +kernel
theorem dX7_findRows_51 : decode cX7_findRows 51 = .ok (.aload_n 0, 1) := by decide +kernel
theorem dX7_findRows_52 : decode cX7_findRows 52 = .ok (.iconst 0, 1) := by decide +kernel
theorem dX7_findRows_53 : decode cX7_findRows 53 = .ok (.aload_n 0, 1) := by decide +kernel
theorem dX7_findRows_54 : decode cX7_findRows 54 = .ok (.getfield 43, 3) := by decide +kernel
theorem dX7_findRows_57 : decode cX7_findRows 57 = .ok (.getfield 177, 3) := by decide +kernel
theorem dX7_findRows_60 : decode cX7_findRows 60 = .ok (.iload_n 1, 1) := by decide +kernel
theorem dX7_findRows_61 : decode cX7_findRows 61 = .ok (.iaload, 1) := by decide +kernel
theorem dX7_findRows_62 : decode cX7_findRows 62 = .ok (.iconst 1, 1) := by decide +kernel
theorem dX7_findRows_63 : decode cX7_findRows 63 = .ok (.iconst 0, 1) := by decide +kernel
theorem dX7_findRows_64 : decode cX7_findRows 64 = .ok (.invokevirtual 335, 3) := by decide +kernel
theorem dX7_findRows_67 : decode cX7_findRows 67 = .ok (.return_, 1) := by decide +kernel
theorem dX7_goThroughRows_0 : decode cX7_goThroughRows 0 = .ok (.iload_n 1, 1) := by decide +kernel
theorem dX7_goThroughRows_1 : decode cX7_goThroughRows 1 = .ok (.aload_n 0, 1) := by decide +kernel
theorem dX7_goThroughRows_2 : decode cX7_goThroughRows 2 = .ok (.getfield 57, 3) := by decide +kernel
theorem dX7_goThroughRows_5 : decode cX7_goThroughRows 5 = .ok (.getfield 338, 3) := by decide +kernel
theorem dX7_goThroughRows_8 : decode cX7_goThroughRows 8 = .ok (.if_icmp .lt 25, 3) := by decide +kernel
theorem dX7_goThroughRows_11 : decode cX7_goThroughRows 11 = .ok (.iload_n 2, 1) := by decide +kernel
theorem dX7_goThroughRows_12 : decode cX7_goThroughRows 12 = .ok (.aload_n 0, 1) := by decide +kernel
theorem dX7_goThroughRows_13 : decode cX7_goThroughRows 13 = .ok (.getfield 33, 3) := by decide +kernel
theorem dX7_goThroughRows_16 : decode cX7_goThroughRows 16 = .ok (.getfield 220, 3) := by decide +kernel
theorem dX7_goThroughRows_19 : decode cX7_goThroughRows 19 = .ok (.if_icmp .ne 13, 3) := by decide +kernel
theorem dX7_goThroughRows_22 : decode cX7_goThroughRows 22 = .ok (.aload_n 0, 1) := by decide +kernel
theorem dX7_goThroughRows_23 : decode cX7_goThroughRows 23 = .ok (.getfield 57, 3) := by decide +kernel
theorem dX7_goThroughRows_26 : decode cX7_goThroughRows 26 = .ok (.iload_n 3, 1) := by decide +kernel
theorem dX7_goThroughRows_27 : decode cX7_goThroughRows 27 = .ok (.iload 4, 2) := by decide +kernel
theorem dX7_goThroughRows_29 : decode cX7_goThroughRows 29 = .ok (.invokevirtual 341, 3) := by decide +kernel
theorem dX7_goThroughRows_32 : decode cX7_goThroughRows 32 = .ok (.return_, 1) := by decide +kernel
theorem dX7_goThroughRows_33 : decode cX7_goThroughRows 33 = .ok (.aload_n 0, 1) := by decide +kernel
theorem dX7_goThroughRows_34 : decode cX7_goThroughRows 34 = .ok (.getfield 57, 3) := by decide +kernel
theorem dX7_goThroughRows_37 : decode cX7_goThroughRows 37 = .ok (.getfield 344, 3) := by decide +kernel
theorem dX7_goThroughRows_40 : decode cX7_goThroughRows 40 = .ok (.ifCond .eq 12, 3) := by decide +kernel
theorem dX7_goThroughRows_43 : decode cX7_goThroughRows 43 = .ok (.aload_n 0, 1) := by decide +kernel
theorem dX7_goThroughRows_44 : decode cX7_goThroughRows 44 = .ok (.iload_n 1, 1) := by decide +kernel
theorem dX7_goThroughRows_45 : decode cX7_goThroughRows 45 = .ok (.iload_n 2, 1) := by decide +kernel
theorem dX7_goThroughRows_46 : decode cX7_goThroughRows 46 = .ok (.iload_n 3, 1) := by decide +kernel
theorem dX7_goThroughRows_47 : decode cX7_goThroughRows 47 = .ok (.iload 4, 2) := by decide +kernel
theorem dX7_goThroughRows_49 : decode cX7_goThroughRows 49 = .ok (.invokevirtual 347, 3) := by decide +kernel
theorem dX7_goThroughRows_52 : decode cX7_goThroughRows 52 = .ok (.aload_n 0, 1) := by decide +kernel
theorem dX7_goThroughRows_53 : decode cX7_goThroughRows 53 = .ok (.getfield 57, 3) := by decide +kernel
theorem dX7_goThroughRows_56 : decode cX7_goThroughRows 56 = .ok (.getfield 344, 3) := by decide +kernel
theorem dX7_goThroughRows_59 : decode cX7_goThroughRows 59 = .ok (.iconst (-1), 1) := by decide +kernel
theorem dX7_goThroughRows_60 : decode cX7_goThroughRows 60 = .ok (.if_icmp .eq 12, 3) := by decide +kernel
theorem dX7_goThroughRows_63 : decode cX7_goThroughRows 63 = .ok (.aload_n 0, 1) := by decide +kernel
theorem dX7_goThroughRows_64 : decode cX7_goThroughRows 64 = .ok (.iload_n 1, 1) := by decide +kernel
theorem dX7_goThroughRows_65 : decode cX7_goThroughRows 65 = .ok (.iload_n 2, 1) := by decide +kernel
theorem dX7_goThroughRows_66 : decode cX7_goThroughRows 66 = .ok (.iload_n 3, 1) := by decide +kernel
theorem dX7_goThroughRows_67 : decode cX7_goThroughRows 67 = .ok (.iload 4, 2) := by decide +kernel
theorem dX7_goThroughRows_69 : decode cX7_goThroughRows 69 = .ok (.invokevirtual 350, 3) := by decide +kernel
theorem dX7_goThroughRows_72 : decode cX7_goThroughRows 72 = .ok (.aload_n 0, 1) := by decide +kernel
theorem dX7_goThroughRows_73 : decode cX7_goThroughRows 73 = .ok (.getfield 57, 3) := by decide +kernel
theorem dX7_goThroughRows_76 : decode cX7_goThroughRows 76 = .ok (.getfield 344, 3) := by decide +kernel
theorem dX7_goThroughRows_79 : decode cX7_goThroughRows 79 = .ok (.ifCond .ne 12, 3) := by decide +kernel
theorem dX7_goThroughRows_82 : decode cX7_goThroughRows 82 = .ok (.aload_n 0, 1) := by decide +kernel
theorem dX7_goThroughRows_83 : decode cX7_goThroughRows 83 = .ok (.iload_n 1, 1) := by decide +kernel
theorem dX7_goThroughRows_84 : decode cX7_goThroughRows 84 = .ok (.iload_n 2, 1) := by decide +kernel
theorem dX7_goThroughRows_85 : decode cX7_goThroughRows 85 = .ok (.iload_n 3, 1) := by decide +kernel
theorem dX7_goThroughRows_86 : decode cX7_goThroughRows 86 = .ok (.iload 4, 2) := by decide +kernel
theorem dX7_goThroughRows_88 : decode cX7_goThroughRows 88 = .ok (.invokevirtual 347, 3) := by decide +kernel
theorem dX7_goThroughRows_91 : decode cX7_goThroughRows 91 = .ok (.return_, 1) := by decide +kernel
theorem dX7_touchByOthers_0 : decode cX7_touchByOthers 0 = .ok (.aload_n 0, 1) := by decide +kernel
theorem dX7_touchByOthers_1 : decode cX7_touchByOthers 1 = .ok (.getfield 57, 3) := by decide +kernel
theorem dX7_touchByOthers_4 : decode cX7_touchByOthers 4 = .ok (.getfield 353, 3) := by decide +kernel
theorem dX7_touchByOthers_7 : decode cX7_touchByOthers 7 = .ok (.aload_n 0, 1) := by decide +kernel
theorem dX7_touchByOthers_8 : decode cX7_touchByOthers 8 = .ok (.getfield 33, 3) := by decide +kernel
theorem dX7_touchByOthers_11 : decode cX7_touchByOthers 11 = .ok (.getfield 81, 3) := by decide +kernel
theorem dX7_touchByOthers_14 : decode cX7_touchByOthers 14 = .ok (.imul, 1) := by decide +kernel
theorem dX7_touchByOthers_15 : decode cX7_touchByOthers 15 = .ok (.istore 5, 2) := by decide +kernel
theorem dX7_touchByOthers_17 : decode cX7_touchByOthers 17 = .ok (.iload 5, 2) := by decide +kernel
theorem dX7_touchByOthers_19 : decode cX7_touchByOthers 19 = .ok (.ifCond .le 43, 3) := by decide +kernel
theorem dX7_touchByOthers_22 : decode cX7_touchByOthers 22 = .ok (.iload_n 1, 1) := by decide +kernel
theorem dX7_touchByOthers_23 : decode cX7_touchByOthers 23 = .ok (.iconst 3, 1) := by decide +kernel
theorem dX7_touchByOthers_24 : decode cX7_touchByOthers 24 = .ok (.if_icmp .ge 38, 3) := by decide +kernel
theorem dX7_touchByOthers_27 : decode cX7_touchByOthers 27 = .ok (.aload_n 0, 1) := by decide +kernel
theorem dX7_touchByOthers_28 : decode cX7_touchByOthers 28 = .ok (.getfield 57, 3) := by decide +kernel
theorem dX7_touchByOthers_31 : decode cX7_touchByOthers 31 = .ok (.getfield 355, 3) := by decide +kernel
theorem dX7_touchByOthers_34 : decode cX7_touchByOthers 34 = .ok (.iload_n 1, 1) := by decide +kernel
theorem dX7_touchByOthers_35 : decode cX7_touchByOthers 35 = .ok (.bipush 8, 2) := by decide +kernel
theorem dX7_touchByOthers_37 : decode cX7_touchByOthers 37 = .ok (.aload_n 0, 1) := by decide +kernel
theorem dX7_touchByOthers_38 : decode cX7_touchByOthers 38 = .ok (.getfield 57, 3) := by decide +kernel
theorem dX7_touchByOthers_41 : decode cX7_touchByOthers 41 = .ok (.getfield 358, 3) := by decide +kernel
theorem dX7_touchByOthers_44 : decode cX7_touchByOthers 44 = .ok (.imul, 1) := by decide +kernel
theorem dX7_touchByOthers_45 : decode cX7_touchByOthers 45 = .ok (.iastore, 1) := by decide +kernel
theorem dX7_touchByOthers_46 : decode cX7_touchByOthers 46 = .ok (.aload_n 0, 1) := by decide +kernel
theorem dX7_touchByOthers_47 : decode cX7_touchByOthers 47 = .ok (.iload_n 1, 1) := by decide +kernel
theorem dX7_touchByOthers_48 : decode cX7_touchByOthers 48 = .ok (.iconst 1, 1) := by decide +kernel
theorem dX7_touchByOthers_49 : decode cX7_touchByOthers 49 = .ok (.iadd, 1) := by decide +kernel
theorem dX7_touchByOthers_50 : decode cX7_touchByOthers 50 = .ok (.iload_n 2, 1) := by decide +kernel
theorem dX7_touchByOthers_51 : decode cX7_touchByOthers 51 = .ok (.iload_n 3, 1) := by decide +kernel
theorem dX7_touchByOthers_52 : decode cX7_touchByOthers 52 = .ok (.iload 5, 2) := by decide +kernel
theorem dX7_touchByOthers_54 : decode cX7_touchByOthers 54 = .ok (.imul, 1) := by decide +kernel
theorem dX7_touchByOthers_55 : decode cX7_touchByOthers 55 = .ok (.iload 4, 2) := by decide +kernel
theorem dX7_touchByOthers_57 : decode cX7_touchByOthers 57 = .ok (.iconst 2, 1) := by decide +kernel
theorem dX7_touchByOthers_58 : decode cX7_touchByOthers 58 = .ok (.ior, 1) := by decide +kernel
theorem dX7_touchByOthers_59 : decode cX7_touchByOthers 59 = .ok (.invokevirtual 335, 3) := by decide +kernel
theorem dX7_touchByOthers_62 : decode cX7_touchByOthers 62 = .ok (.return_, 1) := by decide +kernel
theorem dX7_touchByWearer_0 : decode cX7_touchByWearer 0 = .ok (.aload_n 0, 1) := by decide +kernel
theorem dX7_touchByWearer_1 : decode cX7_touchByWearer 1 = .ok (.getfield 33, 3) := by decide +kernel
theorem dX7_touchByWearer_4 : decode cX7_touchByWearer 4 = .ok (.getfield 150, 3) := by decide +kernel
theorem dX7_touchByWearer_7 : decode cX7_touchByWearer 7 = .ok (.getfield 247, 3) := by decide +kernel
theorem dX7_touchByWearer_10 : decode cX7_touchByWearer 10 = .ok (.iload_n 1, 1) := by decide +kernel
theorem dX7_touchByWearer_11 : decode cX7_touchByWearer 11 = .ok (.iadd, 1) := by decide +kernel
theorem dX7_touchByWearer_12 : decode cX7_touchByWearer 12 = .ok (.iconst 1, 1) := by decide +kernel
theorem dX7_touchByWearer_13 : decode cX7_touchByWearer 13 = .ok (.iadd, 1) := by decide +kernel
theorem dX7_touchByWearer_14 : decode cX7_touchByWearer 14 = .ok (.istore 5, 2) := by decide +kernel
theorem dX7_touchByWearer_16 : decode cX7_touchByWearer 16 = .ok (.iconst 0, 1) := by decide +kernel
theorem dX7_touchByWearer_17 : decode cX7_touchByWearer 17 = .ok (.istore 6, 2) := by decide +kernel
theorem dX7_touchByWearer_19 : decode cX7_touchByWearer 19 = .ok (.iload 6, 2) := by decide +kernel
theorem dX7_touchByWearer_21 : decode cX7_touchByWearer 21 = .ok (.aload_n 0, 1) := by decide +kernel
theorem dX7_touchByWearer_22 : decode cX7_touchByWearer 22 = .ok (.getfield 33, 3) := by decide +kernel
theorem dX7_touchByWearer_25 : decode cX7_touchByWearer 25 = .ok (.getfield 81, 3) := by decide +kernel
theorem dX7_touchByWearer_28 : decode cX7_touchByWearer 28 = .ok (.if_icmp .ge 122, 3) := by decide +kernel
theorem dX7_touchByWearer_31 : decode cX7_touchByWearer 31 = .ok (.iload_n 1, 1) := by decide +kernel
theorem dX7_touchByWearer_32 : decode cX7_touchByWearer 32 = .ok (.iconst 3, 1) := by decide +kernel
theorem dX7_touchByWearer_33 : decode cX7_touchByWearer 33 = .ok (.if_icmp .ge 117, 3) := by decide +kernel
theorem dX7_touchByWearer_36 : decode cX7_touchByWearer 36 = .ok (.aload_n 0, 1) := by decide +kernel
theorem dX7_touchByWearer_37 : decode cX7_touchByWearer 37 = .ok (.getfield 43, 3) := by decide +kernel
theorem dX7_touchByWearer_40 : decode cX7_touchByWearer 40 = .ok (.iload 5, 2) := by decide +kernel
theorem dX7_touchByWearer_42 : decode cX7_touchByWearer 42 = .ok (.putfield 247, 3) := by decide +kernel
theorem dX7_touchByWearer_45 : decode cX7_touchByWearer 45 = .ok (.aload_n 0, 1) := by decide +kernel
theorem dX7_touchByWearer_46 : decode cX7_touchByWearer 46 = .ok (.getfield 43, 3) := by decide +kernel
theorem dX7_touchByWearer_49 : decode cX7_touchByWearer 49 = .ok (.getfield 177, 3) := by decide +kernel
theorem dX7_touchByWearer_52 : decode cX7_touchByWearer 52 = .ok (.aload_n 0, 1) := by decide +kernel
theorem dX7_touchByWearer_53 : decode cX7_touchByWearer 53 = .ok (.getfield 57, 3) := by decide +kernel
theorem dX7_touchByWearer_56 : decode cX7_touchByWearer 56 = .ok (.getfield 361, 3) := by decide +kernel
theorem dX7_touchByWearer_59 : decode cX7_touchByWearer 59 = .ok (.iload_n 2, 1) := by decide +kernel
theorem dX7_touchByWearer_60 : decode cX7_touchByWearer 60 = .ok (.iastore, 1) := by decide +kernel
theorem dX7_touchByWearer_61 : decode cX7_touchByWearer 61 = .ok (.aload_n 0, 1) := by decide +kernel
theorem dX7_touchByWearer_62 : decode cX7_touchByWearer 62 = .ok (.aload_n 0, 1) := by decide +kernel
theorem dX7_touchByWearer_63 : decode cX7_touchByWearer 63 = .ok (.getfield 43, 3) := by decide +kernel
theorem dX7_touchByWearer_66 : decode cX7_touchByWearer 66 = .ok (.aload_n 0, 1) := by decide +kernel
theorem dX7_touchByWearer_67 : decode cX7_touchByWearer 67 = .ok (.getfield 57, 3) := by decide +kernel
theorem dX7_touchByWearer_70 : decode cX7_touchByWearer 70 = .ok (.getfield 361, 3) := by decide +kernel
theorem dX7_touchByWearer_73 : decode cX7_touchByWearer 73 = .ok (.iload 6, 2) := by decide +kernel
theorem dX7_touchByWearer_75 : decode cX7_touchByWearer 75 = .ok (.aload_n 0, 1) := by decide +kernel
theorem dX7_touchByWearer_76 : decode cX7_touchByWearer 76 = .ok (.getfield 57, 3) := by decide +kernel
theorem dX7_touchByWearer_79 : decode cX7_touchByWearer 79 = .ok (.getfield 344, 3) := by decide +kernel
theorem dX7_touchByWearer_82 : decode cX7_touchByWearer 82 = .ok (.invokevirtual 275, 3) := by decide +kernel
theorem dX7_touchByWearer_85 : decode cX7_touchByWearer 85 = .ok (.istore 7, 2) := by decide +kernel
theorem dX7_touchByWearer_87 : decode cX7_touchByWearer 87 = .ok (.aload_n 0, 1) := by decide +kernel
theorem dX7_touchByWearer_88 : decode cX7_touchByWearer 88 = .ok (.getfield 57, 3) := by decide +kernel
theorem dX7_touchByWearer_91 : decode cX7_touchByWearer 91 = .ok (.getfield 355, 3) := by decide +kernel
theorem dX7_touchByWearer_94 : decode cX7_touchByWearer 94 = .ok (.iload_n 1, 1) := by decide +kernel
theorem dX7_touchByWearer_95 : decode cX7_touchByWearer 95 = .ok (.bipush 8, 2) := by decide +kernel
theorem dX7_touchByWearer_97 : decode cX7_touchByWearer 97 = .ok (.aload_n 0, 1) := by decide +kernel
theorem dX7_touchByWearer_98 : decode cX7_touchByWearer 98 = .ok (.getfield 57, 3) := by decide +kernel
theorem dX7_touchByWearer_101 : decode cX7_touchByWearer 101 = .ok (.getfield 344, 3) := by decide +kernel
theorem dX7_touchByWearer_104 : decode cX7_touchByWearer 104 = .ok (.imul, 1) := by decide +kernel
theorem dX7_touchByWearer_105 : decode cX7_touchByWearer 105 = .ok (.iload 6, 2) := by decide +kernel
theorem dX7_touchByWearer_107 : decode cX7_touchByWearer 107 = .ok (.iadd, 1) := by decide +kernel
theorem dX7_touchByWearer_108 : decode cX7_touchByWearer 108 = .ok (.iastore, 1) := by decide +kernel
theorem dX7_touchByWearer_109 : decode cX7_touchByWearer 109 = .ok (.aload_n 0, 1) := by decide +kernel
theorem dX7_touchByWearer_110 : decode cX7_touchByWearer 110 = .ok (.iload_n 1, 1) := by decide +kernel
theorem dX7_touchByWearer_111 : decode cX7_touchByWearer 111 = .ok (.iconst 1, 1) := by decide +kernel
theorem dX7_touchByWearer_112 : decode cX7_touchByWearer 112 = .ok (.iadd, 1) := by decide +kernel
theorem dX7_touchByWearer_113 : decode cX7_touchByWearer 113 = .ok (.iload 7, 2) := by decide +kernel
theorem dX7_touchByWearer_115 : decode cX7_touchByWearer 115 = .ok (.ifCond .eq 20, 3) := by decide +kernel
theorem dX7_touchByWearer_118 : decode cX7_touchByWearer 118 = .ok (.aload_n 0, 1) := by decide +kernel
theorem dX7_touchByWearer_119 : decode cX7_touchByWearer 119 = .ok (.iload_n 2, 1) := by decide +kernel
theorem dX7_touchByWearer_120 : decode cX7_touchByWearer 120 = .ok (.aload_n 0, 1) := by decide +kernel
theorem dX7_touchByWearer_121 : decode cX7_touchByWearer 121 = .ok (.getfield 57, 3) := by decide +kernel
theorem dX7_touchByWearer_124 : decode cX7_touchByWearer 124 = .ok (.getfield 361, 3) := by decide +kernel
theorem dX7_touchByWearer_127 : decode cX7_touchByWearer 127 = .ok (.iload 6, 2) := by decide +kernel
theorem dX7_touchByWearer_129 : decode cX7_touchByWearer 129 = .ok (.invokevirtual 278, 3) := by decide +kernel
theorem dX7_touchByWearer_132 : decode cX7_touchByWearer 132 = .ok (.goto 4, 3) := by decide +kernel
theorem dX7_touchByWearer_135 : decode cX7_touchByWearer 135 = .ok (.iload_n 2, 1) := by decide +kernel
theorem dX7_touchByWearer_136 : decode cX7_touchByWearer 136 = .ok (.iload_n 3, 1) := by decide +kernel
theorem dX7_touchByWearer_137 : decode cX7_touchByWearer 137 = .ok (.iload 4, 2) := by decide +kernel
theorem dX7_touchByWearer_139 : decode cX7_touchByWearer 139 = .ok (.iconst 1, 1) := by decide +kernel
theorem dX7_touchByWearer_140 : decode cX7_touchByWearer 140 = .ok (.ior, 1) := by decide +kernel
theorem dX7_touchByWearer_141 : decode cX7_touchByWearer 141 = .ok (.invokevirtual 335, 3) := by decide +kernel
theorem dX7_touchByWearer_144 : decode cX7_touchByWearer 144 = .ok (.iinc 6 1, 3) := by decide +kernel
theorem dX7_touchByWearer_147 : decode cX7_touchByWearer 147 = .ok (.goto (-128), 3) := by decide +kernel
theorem dX7_touchByWearer_150 : decode cX7_touchByWearer 150 = .ok (.return_, 1) := by decide +kernel
theorem dX8_init_0 : decode cX8_init 0 = .ok (.aload_n 0, 1) := by decide +kernel
theorem dX8_init_1 : decode cX8_init 1 = .ok (.invokespecial 1, 3) := by decide +kernel
theorem dX8_init_4 : decode cX8_init 4 = .ok (.aload_n 0, 1) := by decide +kernel
theorem dX8_init_5 : decode cX8_init 5 = .ok (.sipush 1584, 3) := by decide +kernel
theorem dX8_init_8 : decode cX8_init 8 = .ok (.newarray .int, 2) := by decide +kernel
theorem dX8_init_10 : decode cX8_init 10 = .ok (.putfield 7, 3) := by decide +kernel
theorem dX8_init_13 : decode cX8_init 13 = .ok (.aload_n 0, 1) := by decide +kernel
theorem dX8_init_14 : decode cX8_init 14 = .ok (.sipush 1584, 3) := by decide +kernel
theorem dX8_init_17 : decode cX8_init 17 = .ok (.newarray .int, 2) := by decide +kernel
theorem dX8_init_19 : decode cX8_init 19 = .ok (.putfield 13, 3) := by decide +kernel
theorem dX8_init_22 : decode cX8_init 22 = .ok (.aload_n 0, 1) := by decide +kernel
theorem dX8_init_23 : decode cX8_init 23 = .ok (.sipush 1584, 3) := by decide +kernel
theorem dX8_init_26 : decode cX8_init 26 = .ok (.newarray .int, 2) := by decide +kernel
theorem dX8_init_28 : decode cX8_init 28 = .ok (.putfield 16, 3) := by decide +kernel
theorem dX8_init_31 : decode cX8_init 31 = .ok (.aload_n 0, 1) := by decide +kernel
theorem dX8_init_32 : decode cX8_init 32 = .ok (.sipush 2720, 3) := by decide +kernel
theorem dX8_init_35 : decode cX8_init 35 = .ok (.newarray .int, 2) := by decide +kernel
theorem dX8_init_37 : decode cX8_init 37 = .ok (.putfield 19, 3) := by decide +kernel
theorem dX8_init_40 : decode cX8_init 40 = .ok (.aload_n 0, 1) := by decide +kernel
theorem dX8_init_41 : decode cX8_init 41 = .ok (.sipush 300, 3) := by decide +kernel
theorem dX8_init_44 : decode cX8_init 44 = .ok (.newarray .int, 2) := by decide +kernel
theorem dX8_init_46 : decode cX8_init 46 = .ok (.putfield 22, 3) := by decide +kernel
theorem dX8_init_49 : decode cX8_init 49 = .ok (.aload_n 0, 1) := by decide +kernel
theorem dX8_init_50 : decode cX8_init 50 = .ok (.iconst (-1), 1) := by decide +kernel
theorem dX8_init_51 : decode cX8_init 51 = .ok (.putfield 25, 3) := by decide +kernel
theorem dX8_init_54 : decode cX8_init 54 = .ok (.aload_n 0, 1) := by decide +kernel
theorem dX8_init_55 : decode cX8_init 55 = .ok (.iconst (-1), 1) := by decide +kernel
theorem dX8_init_56 : decode cX8_init 56 = .ok (.putfield 29, 3) := by decide +kernel
theorem dX8_init_59 : decode cX8_init 59 = .ok (.aload_n 0, 1) := by decide +kernel
theorem dX8_init_60 : decode cX8_init 60 = .ok (.sipush 160, 3) := by decide +kernel
theorem dX8_init_63 : decode cX8_init 63 = .ok (.newarray .int, 2) := by decide +kernel
theorem dX8_init_65 : decode cX8_init 65 = .ok (.putfield 32, 3) := by decide +kernel
theorem dX8_init_68 : decode cX8_init 68 = .ok (.aload_n 0, 1) := by decide +kernel
theorem dX8_init_69 : decode cX8_init 69 = .ok (.bipush 9, 2) := by decide +kernel
theorem dX8_init_71 : decode cX8_init 71 = .ok (.newarray .int, 2) := by decide +kernel
theorem dX8_init_73 : decode cX8_init 73 = .ok (.putfield 35, 3) := by decide +kernel
theorem dX8_init_76 : decode cX8_init 76 = .ok (.aload_n 0, 1) := by decide +kernel
theorem dX8_init_77 : decode cX8_init 77 = .ok (.sipush 330, 3) := by decide +kernel
theorem dX8_init_80 : decode cX8_init 80 = .ok (.newarray .long, 2) := by decide +kernel
theorem dX8_init_82 : decode cX8_init 82 = .ok (.putfield 38, 3) := by decide +kernel
theorem dX8_init_85 : decode cX8_init 85 = .ok (.aload_n 0, 1) := by decide +kernel
theorem dX8_init_86 : decode cX8_init 86 = .ok (.sipush 330, 3) := by decide +kernel
theorem dX8_init_89 : decode cX8_init 89 = .ok (.newarray .boolean, 2) := by decide +kernel
theorem dX8_init_91 : decode cX8_init 91 = .ok (.putfield 42, 3) := by decide +kernel
theorem dX8_init_94 : decode cX8_init 94 = .ok (.aload_n 0, 1) := by decide +kernel
theorem dX8_init_95 : decode cX8_init 95 = .ok (.sipush 128, 3) := by decide +kernel
theorem dX8_init_98 : decode cX8_init 98 = .ok (.newarray .int, 2) := by decide +kernel
theorem dX8_init_100 : decode cX8_init 100 = .ok (.putfield 46, 3) := by decide +kernel
theorem dX8_init_103 : decode cX8_init 103 = .ok (.aload_n 0, 1) := by decide +kernel
theorem dX8_init_104 : decode cX8_init 104 = .ok (.iconst 4, 1) := by decide +kernel
theorem dX8_init_105 : decode cX8_init 105 = .ok (.newarray .int, 2) := by decide +kernel
theorem dX8_init_107 : decode cX8_init 107 = .ok (.putfield 49, 3) := by decide +kernel
theorem dX8_init_110 : decode cX8_init 110 = .ok (.aload_n 0, 1) := by decide +kernel
theorem dX8_init_111 : decode cX8_init 111 = .ok (.bipush 16, 2) := by decide +kernel
theorem dX8_init_113 : decode cX8_init 113 = .ok (.newarray .int, 2) := by decide +kernel
theorem dX8_init_115 : decode cX8_init 115 = .ok (.putfield 52, 3) := by decide +kernel
theorem dX8_init_118 : decode cX8_init 118 = .ok (.aload_n 0, 1) := by decide +kernel
theorem dX8_init_119 : decode cX8_init 119 = .ok (.iconst 3, 1) := by decide +kernel
theorem dX8_init_120 : decode cX8_init 120 = .ok (.newarray .int, 2) := by decide +kernel
theorem dX8_init_122 : decode cX8_init 122 = .ok (.putfield 55, 3) := by decide +kernel
theorem dX8_init_125 : decode cX8_init 125 = .ok (.aload_n 0, 1) := by decide +kernel
theorem dX8_init_126 : decode cX8_init 126 = .ok (.iload_n 1, 1) := by decide +kernel
theorem dX8_init_127 : decode cX8_init 127 = .ok (.iconst 1, 1) := by decide +kernel
theorem dX8_init_128 : decode cX8_init 128 = .ok (.if_icmp .ge 7, 3) := by decide +kernel
theorem dX8_init_131 : decode cX8_init 131 = .ok (.iconst 1, 1) := by decide +kernel
theorem dX8_init_132 : decode cX8_init 132 = .ok (.goto 15, 3) := by decide +kernel
theorem dX8_init_135 : decode cX8_init 135 = .ok (.iload_n 1, 1) := by decide +kernel
theorem dX8_init_136 : decode cX8_init 136 = .ok (.bipush 6, 2) := by decide +kernel
theorem dX8_init_138 : decode cX8_init 138 = .ok (.if_icmp .le 8, 3) := by decide +kernel
theorem dX8_init_141 : decode cX8_init 141 = .ok (.bipush 6, 2) := by decide +kernel
theorem dX8_init_143 : decode cX8_init 143 = .ok (.goto 4, 3) := by decide +kernel
theorem dX8_init_146 : decode cX8_init 146 = .ok (.iload_n 1, 1) := by decide +kernel
theorem dX8_init_147 : decode cX8_init 147 = .ok (.putfield 58, 3) := by decide +kernel
theorem dX8_init_150 : decode cX8_init 150 = .ok (.aload_n 0, 1) := by decide +kernel
theorem dX8_init_151 : decode cX8_init 151 = .ok (.getfield 7, 3) := by decide +kernel
theorem dX8_init_154 : decode cX8_init 154 = .ok (.iconst 4, 1) := by decide +kernel
theorem dX8_init_155 : decode cX8_init 155 = .ok (.iconst (-1), 1) := by decide +kernel
theorem dX8_init_156 : decode cX8_init 156 = .ok (.iastore, 1) := by decide +kernel
theorem dX8_init_157 : decode cX8_init 157 = .ok (.iconst 0, 1) := by decide +kernel
theorem dX8_init_158 : decode cX8_init 158 = .ok (.istore_n 2, 1) := by decide +kernel
theorem dX8_init_159 : decode cX8_init 159 = .ok (.iload_n 2, 1) := by decide +kernel
theorem dX8_init_160 : decode cX8_init 160 = .ok (.bipush 8, 2) := by decide +kernel
theorem dX8_init_162 : decode cX8_init 162 = .ok (.if_icmp .ge 14, 3) := by decide +kernel
theorem dX8_init_165 : decode cX8_init 165 = .ok (.aload_n 0, 1) := by decide +kernel
theorem dX8_init_166 : decode cX8_init 166 = .ok (.iload_n 2, 1) := by decide +kernel
theorem dX8_init_167 : decode cX8_init 167 = .ok (.invokevirtual 61, 3) := by decide +kernel
theorem dX8_init_170 : decode cX8_init 170 = .ok (.iinc 2 1, 3) := by decide +kernel
theorem dX8_init_173 : decode cX8_init 173 = .ok (.goto (-14), 3) := by decide +kernel
theorem dX8_init_176 : decode cX8_init 176 = .ok (.aload_n 0, 1) := by decide +kernel
theorem dX8_init_177 : decode cX8_init 177 = .ok (.getfield 7, 3) := by decide +kernel
theorem dX8_init_180 : decode cX8_init 180 = .ok (.aload_n 0, 1) := by decide +kernel
theorem dX8_init_181 : decode cX8_init 181 = .ok (.getfield 13, 3) := by decide +kernel
theorem dX8_init_184 : decode cX8_init 184 = .ok (.invokestatic 65, 3) := by decide +kernel
theorem dX8_init_187 : decode cX8_init 187 = .ok (.return_, 1) := by decide +kernel
theorem dX8_copy_0 : decode cX8_copy 0 = .ok (.iconst 0, 1) := by decide +kernel
theorem dX8_copy_1 : decode cX8_copy 1 = .ok (.istore_n 2, 1) := by decide +kernel
theorem dX8_copy_2 : decode cX8_copy 2 = .ok (.iload_n 2, 1) := by decide +kernel
theorem dX8_copy_3 : decode cX8_copy 3 = .ok (.sipush 1584, 3) := by decide +kernel
theorem dX8_copy_6 : decode cX8_copy 6 = .ok (.if_icmp .ge 15, 3) := by decide +kernel
theorem dX8_copy_9 : decode cX8_copy 9 = .ok (.aload_n 1, 1) := by decide +kernel
theorem dX8_copy_10 : decode cX8_copy 10 = .ok (.iload_n 2, 1) := by decide +kernel
theorem dX8_copy_11 : decode cX8_copy 11 = .ok (.aload_n 0, 1) := by decide +kernel
theorem dX8_copy_12 : decode cX8_copy 12 = .ok (.iload_n 2, 1) := by decide +kernel
theorem dX8_copy_13 : decode cX8_copy 13 = .ok (.iaload, 1) := by decide +kernel
theorem dX8_copy_14 : decode cX8_copy 14 = .ok (.iastore, 1) := by decide +kernel
theorem dX8_copy_15 : decode cX8_copy 15 = .ok (.iinc 2 1, 3) := by decide +kernel
theorem dX8_copy_18 : decode cX8_copy 18 = .ok (.goto (-16), 3) := by decide +kernel
theorem dX8_copy_21 : decode cX8_copy 21 = .ok (.return_, 1) := by decide +kernel
theorem dX8_isIn_0 : decode cX8_isIn 0 = .ok (.iload_n 0, 1) := by decide +kernel
theorem dX8_isIn_1 : decode cX8_isIn 1 = .ok (.iload_n 1, 1) := by decide +kernel
theorem dX8_isIn_2 : decode cX8_isIn 2 = .ok (.if_icmp .lt 12, 3) := by decide +kernel
theorem dX8_isIn_5 : decode cX8_isIn 5 = .ok (.iload_n 0, 1) := by decide +kernel
theorem dX8_isIn_6 : decode cX8_isIn 6 = .ok (.iload_n 2, 1) := by decide +kernel
theorem dX8_isIn_7 : decode cX8_isIn 7 = .ok (.if_icmp .gt 7, 3) := by decide +kernel
theorem dX8_isIn_10 : decode cX8_isIn 10 = .ok (.iconst 1, 1) := by decide +kernel
theorem dX8_isIn_11 : decode cX8_isIn 11 = .ok (.goto 4, 3) := by decide +kernel
theorem dX8_isIn_14 : decode cX8_isIn 14 = .ok (.iconst 0, 1) := by decide +kernel
theorem dX8_isIn_15 : decode cX8_isIn 15 = .ok (.ireturn, 1) := by decide +kernel
theorem dX8_has_0 : decode cX8_has 0 = .ok (.iload_n 0, 1) := by decide +kernel
theorem dX8_has_1 : decode cX8_has 1 = .ok (.iload_n 1, 1) := by decide +kernel
theorem dX8_has_2 : decode cX8_has 2 = .ok (.ishr, 1) := by decide +kernel
theorem dX8_has_3 : decode cX8_has 3 = .ok (.iconst 1, 1) := by decide +kernel
theorem dX8_has_4 : decode cX8_has 4 = .ok (.iand, 1) := by decide +kernel
theorem dX8_has_5 : decode cX8_has 5 = .ok (.iconst 1, 1) := by decide +kernel
theorem dX8_has_6 : decode cX8_has 6 = .ok (.if_icmp .ne 7, 3) := by decide +kernel
theorem dX8_has_9 : decode cX8_has 9 = .ok (.iconst 1, 1) := by decide +kernel
theorem dX8_has_10 : decode cX8_has 10 = .ok (.goto 4, 3) := by decide +kernel
theorem dX8_has_13 : decode cX8_has 13 = .ok (.iconst 0, 1) := by decide +kernel
theorem dX8_has_14 : decode cX8_has 14 = .ok (.ireturn, 1) := by decide +kernel
theorem dX8_bits_0 : decode cX8_bits 0 = .ok (.iconst 0, 1) := by decide +kernel
theorem dX8_bits_1 : decode cX8_bits 1 = .ok (.istore_n 1, 1) := by decide +kernel
theorem dX8_bits_2 : decode cX8_bits 2 = .ok (.iconst 0, 1) := by decide +kernel
theorem dX8_bits_3 : decode cX8_bits 3 = .ok (.istore_n 2, 1) := by decide +kernel
theorem dX8_bits_4 : decode cX8_bits 4 = .ok (.iload_n 2, 1) := by decide +kernel
theorem dX8_bits_5 : decode cX8_bits 5 = .ok (.bipush 8, 2) := by decide +kernel
theorem dX8_bits_7 : decode cX8_bits 7 = .ok (.if_icmp .ge 17, 3) := by decide +kernel
theorem dX8_bits_10 : decode cX8_bits 10 = .ok (.iload_n 1, 1) := by decide +kernel
theorem dX8_bits_11 : decode cX8_bits 11 = .ok (.iload_n 0, 1) := by decide +kernel
theorem dX8_bits_12 : decode cX8_bits 12 = .ok (.iload_n 2, 1) := by decide +kernel
theorem dX8_bits_13 : decode cX8_bits 13 = .ok (.ishr, 1) := by decide +kernel
theorem dX8_bits_14 : decode cX8_bits 14 = .ok (.iconst 1, 1) := by decide +kernel
theorem dX8_bits_15 : decode cX8_bits 15 = .ok (.iand, 1) := by decide +kernel
theorem dX8_bits_16 : decode cX8_bits 16 = .ok (.iadd, 1) := by decide +kernel
theorem dX8_bits_17 : decode cX8_bits 17 = .ok (.istore_n 1, 1) := by decide +kernel
theorem dX8_bits_18 : decode cX8_bits 18 = .ok (.iinc 2 1, 3) := by decide +kernel
theorem dX8_bits_21 : decode cX8_bits 21 = .ok (.goto (-17), 3) := by decide +kernel
theorem dX8_bits_24 : decode cX8_bits 24 = .ok (.iload_n 1, 1) := by decide +kernel
theorem dX8_bits_25 : decode cX8_bits 25 = .ok (.ireturn, 1) := by decide +kernel
theorem dX8_isThing_0 : decode cX8_isThing 0 = .ok (.iload_n 1, 1) := by decide +kernel
theorem dX8_isThing_1 : decode cX8_isThing 1 = .ok (.iconst 0, 1) := by decide +kernel
theorem dX8_isThing_2 : decode cX8_isThing 2 = .ok (.aload_n 0, 1) := by decide +kernel
theorem dX8_isThing_3 : decode cX8_isThing 3 = .ok (.getfield 7, 3) := by decide +kernel
theorem dX8_isThing_6 : decode cX8_isThing 6 = .ok (.iconst 0, 1) := by decide +kernel
theorem dX8_isThing_7 : decode cX8_isThing 7 = .ok (.iaload, 1) := by decide +kernel
theorem dX8_isThing_8 : decode cX8_isThing 8 = .ok (.iconst 1, 1) := by decide +kernel
theorem dX8_isThing_9 : decode cX8_isThing 9 = .ok (.isub, 1) := by decide +kernel
theorem dX8_isThing_10 : decode cX8_isThing 10 = .ok (.invokestatic 69, 3) := by decide +kernel
theorem dX8_isThing_13 : decode cX8_isThing 13 = .ok (.ireturn, 1) := by decide +kernel
theorem dX8_isEye_0 : decode cX8_isEye 0 = .ok (.iload_n 1, 1) := by decide +kernel
theorem dX8_isEye_1 : decode cX8_isEye 1 = .ok (.iconst 0, 1) := by decide +kernel
theorem dX8_isEye_2 : decode cX8_isEye 2 = .ok (.aload_n 0, 1) := by decide +kernel
theorem dX8_isEye_3 : decode cX8_isEye 3 = .ok (.getfield 7, 3) := by decide +kernel
theorem dX8_isEye_6 : decode cX8_isEye 6 = .ok (.iconst 1, 1) := by decide +kernel
theorem dX8_isEye_7 : decode cX8_isEye 7 = .ok (.iaload, 1) := by decide +kernel
theorem dX8_isEye_8 : decode cX8_isEye 8 = .ok (.iconst 1, 1) := by decide +kernel
theorem dX8_isEye_9 : decode cX8_isEye 9 = .ok (.isub, 1) := by decide +kernel
theorem dX8_isEye_10 : decode cX8_isEye 10 = .ok (.invokestatic 69, 3) := by decide +kernel
theorem dX8_isEye_13 : decode cX8_isEye 13 = .ok (.ireturn, 1) := by decide +kernel
theorem dX8_isOne_0 : decode cX8_isOne 0 = .ok (.iload_n 1, 1) := by decide +kernel
theorem dX8_isOne_1 : decode cX8_isOne 1 = .ok (.iconst 0, 1) := by decide +kernel
theorem dX8_isOne_2 : decode cX8_isOne 2 = .ok (.aload_n 0, 1) := by decide +kernel
theorem dX8_isOne_3 : decode cX8_isOne 3 = .ok (.getfield 58, 3) := by decide +kernel
theorem dX8_isOne_6 : decode cX8_isOne 6 = .ok (.iconst 1, 1) := by decide +kernel
theorem dX8_isOne_7 : decode cX8_isOne 7 = .ok (.isub, 1) := by decide +kernel
theorem dX8_isOne_8 : decode cX8_isOne 8 = .ok (.invokestatic 69, 3) := by decide +kernel
theorem dX8_isOne_11 : decode cX8_isOne 11 = .ok (.ireturn, 1) := by decide +kernel
theorem dX8_get_0 : decode cX8_get 0 = .ok (.aload_n 0, 1) := by decide +kernel
theorem dX8_get_1 : decode cX8_get 1 = .ok (.getfield 7, 3) := by decide +kernel
theorem dX8_get_4 : decode cX8_get 4 = .ok (.bipush 20, 2) := by decide +kernel
theorem dX8_get_6 : decode cX8_get 6 = .ok (.bipush 8, 2) := by decide +kernel
theorem dX8_get_8 : decode cX8_get 8 = .ok (.iload_n 1, 1) := by decide +kernel
theorem dX8_get_9 : decode cX8_get 9 = .ok (.imul, 1) := by decide +kernel
theorem dX8_get_10 : decode cX8_get 10 = .ok (.iadd, 1) := by decide +kernel
theorem dX8_get_11 : decode cX8_get 11 = .ok (.iload_n 2, 1) := by decide +kernel
theorem dX8_get_12 : decode cX8_get 12 = .ok (.iadd, 1) := by decide +kernel
theorem dX8_get_13 : decode cX8_get 13 = .ok (.iaload, 1) := by decide +kernel
theorem dX8_get_14 : decode cX8_get 14 = .ok (.ireturn, 1) := by decide +kernel
theorem dX8_set_0 : decode cX8_set 0 = .ok (.aload_n 0, 1) := by decide +kernel
theorem dX8_set_1 : decode cX8_set 1 = .ok (.getfield 7, 3) := by decide +kernel
theorem dX8_set_4 : decode cX8_set 4 = .ok (.bipush 20, 2) := by decide +kernel
theorem dX8_set_6 : decode cX8_set 6 = .ok (.bipush 8, 2) := by decide +kernel
theorem dX8_set_8 : decode cX8_set 8 = .ok (.iload_n 1, 1) := by decide +kernel
theorem dX8_set_9 : decode cX8_set 9 = .ok (.imul, 1) := by decide +kernel
theorem dX8_set_10 : decode cX8_set 10 = .ok (.iadd, 1) := by decide +kernel
theorem dX8_set_11 : decode cX8_set 11 = .ok (.iload_n 2, 1) := by decide +kernel
theorem dX8_set_12 : decode cX8_set 12 = .ok (.iadd, 1) := by decide +kernel
theorem dX8_set_13 : decode cX8_set 13 = .ok (.iload_n 3, 1) := by decide +kernel
theorem dX8_set_14 : decode cX8_set 14 = .ok (.iastore, 1) := by decide +kernel
theorem dX8_set_15 : decode cX8_set 15 = .ok (.return_, 1) := by decide +kernel
theorem dX8_clear_0 : decode cX8_clear 0 = .ok (.aload_n 0, 1) := by decide +kernel
theorem dX8_clear_1 : decode cX8_clear 1 = .ok (.iload_n 1, 1) := by decide +kernel
theorem dX8_clear_2 : decode cX8_clear 2 = .ok (.iconst 2, 1) := by decide +kernel
theorem dX8_clear_3 : decode cX8_clear 3 = .ok (.iconst (-1), 1) := by decide +kernel
theorem dX8_clear_4 : decode cX8_clear 4 = .ok (.invokevirtual 73, 3) := by decide +kernel
theorem dX8_clear_7 : decode cX8_clear 7 = .ok (.aload_n 0, 1) := by decide +kernel
theorem dX8_clear_8 : decode cX8_clear 8 = .ok (.iload_n 1, 1) := by decide +kernel
theorem dX8_clear_9 : decode cX8_clear 9 = .ok (.iconst 3, 1) := by decide +kernel
theorem dX8_clear_10 : decode cX8_clear 10 = .ok (.iconst 0, 1) := by decide +kernel
theorem dX8_clear_11 : decode cX8_clear 11 = .ok (.invokevirtual 73, 3) := by decide +kernel
theorem dX8_clear_14 : decode cX8_clear 14 = .ok (.iconst 0, 1) := by decide +kernel
theorem dX8_clear_15 : decode cX8_clear 15 = .ok (.istore_n 2, 1) := by decide +kernel
theorem dX8_clear_16 : decode cX8_clear 16 = .ok (.iload_n 2, 1) := by decide +kernel
theorem dX8_clear_17 : decode cX8_clear 17 = .ok (.iconst 4, 1) := by decide +kernel
theorem dX8_clear_18 : decode cX8_clear 18 = .ok (.if_icmp .ge 18, 3) := by decide +kernel
theorem dX8_clear_21 : decode cX8_clear 21 = .ok (.aload_n 0, 1) := by decide +kernel
theorem dX8_clear_22 : decode cX8_clear 22 = .ok (.iload_n 1, 1) := by decide +kernel
theorem dX8_clear_23 : decode cX8_clear 23 = .ok (.iconst 4, 1) := by decide +kernel
theorem dX8_clear_24 : decode cX8_clear 24 = .ok (.iload_n 2, 1) := by decide +kernel
theorem dX8_clear_25 : decode cX8_clear 25 = .ok (.iadd, 1) := by decide +kernel
theorem dX8_clear_26 : decode cX8_clear 26 = .ok (.iconst (-1), 1) := by decide +kernel
theorem dX8_clear_27 : decode cX8_clear 27 = .ok (.invokevirtual 73, 3) := by decide +kernel
theorem dX8_clear_30 : decode cX8_clear 30 = .ok (.iinc 2 1, 3) := by decide +kernel
theorem dX8_clear_33 : decode cX8_clear 33 = .ok (.goto (-17), 3) := by decide +kernel
theorem dX8_clear_36 : decode cX8_clear 36 = .ok (.return_, 1) := by decide +kernel
theorem dX8_manyOf_0 : decode cX8_manyOf 0 = .ok (.iconst 0, 1) := by decide +kernel
theorem dX8_manyOf_1 : decode cX8_manyOf 1 = .ok (.istore_n 2, 1) := by decide +kernel
theorem dX8_manyOf_2 : decode cX8_manyOf 2 = .ok (.iconst 0, 1) := by decide +kernel
theorem dX8_manyOf_3 : decode cX8_manyOf 3 = .ok (.istore_n 3, 1) := by decide +kernel
theorem dX8_manyOf_4 : decode cX8_manyOf 4 = .ok (.iload_n 3, 1) := by decide +kernel
theorem dX8_manyOf_5 : decode cX8_manyOf 5 = .ok (.iconst 4, 1) := by decide +kernel
theorem dX8_manyOf_6 : decode cX8_manyOf 6 = .ok (.if_icmp .ge 28, 3) := by decide +kernel
theorem dX8_manyOf_9 : decode cX8_manyOf 9 = .ok (.iload_n 2, 1) := by decide +kernel
theorem dX8_manyOf_10 : decode cX8_manyOf 10 = .ok (.aload_n 0, 1) := by decide +kernel
theorem dX8_manyOf_11 : decode cX8_manyOf 11 = .ok (.iload_n 1, 1) := by decide +kernel
theorem dX8_manyOf_12 : decode cX8_manyOf 12 = .ok (.iconst 4, 1) := by decide +kernel
theorem dX8_manyOf_13 : decode cX8_manyOf 13 = .ok (.iload_n 3, 1) := by decide +kernel
theorem dX8_manyOf_14 : decode cX8_manyOf 14 = .ok (.iadd, 1) := by decide +kernel
theorem dX8_manyOf_15 : decode cX8_manyOf 15 = .ok (.invokevirtual 77, 3) := by decide +kernel
theorem dX8_manyOf_18 : decode cX8_manyOf 18 = .ok (.ifCond .lt 7, 3) := by decide +kernel
theorem dX8_manyOf_21 : decode cX8_manyOf 21 = .ok (.iconst 1, 1) := by decide +kernel
theorem dX8_manyOf_22 : decode cX8_manyOf 22 = .ok (.goto 4, 3) := by decide +kernel
theorem dX8_manyOf_25 : decode cX8_manyOf 25 = .ok (.iconst 0, 1) := by decide +kernel
theorem dX8_manyOf_26 : decode cX8_manyOf 26 = .ok (.iadd, 1) := by decide +kernel
theorem dX8_manyOf_27 : decode cX8_manyOf 27 = .ok (.istore_n 2, 1) := by decide +kernel
theorem dX8_manyOf_28 : decode cX8_manyOf 28 = .ok (.iinc 3 1, 3) := by decide +kernel
theorem dX8_manyOf_31 : decode cX8_manyOf 31 = .ok (.goto (-27), 3) := by decide +kernel
theorem dX8_manyOf_34 : decode cX8_manyOf 34 = .ok (.iload_n 2, 1) := by decide +kernel
theorem dX8_manyOf_35 : decode cX8_manyOf 35 = .ok (.ireturn, 1) := by decide +kernel
theorem dX8_wornBy_0 : decode cX8_wornBy 0 = .ok (.iconst 0, 1) := by decide +kernel
theorem dX8_wornBy_1 : decode cX8_wornBy 1 = .ok (.istore_n 2, 1) := by decide +kernel
theorem dX8_wornBy_2 : decode cX8_wornBy 2 = .ok (.iconst 0, 1) := by decide +kernel
theorem dX8_wornBy_3 : decode cX8_wornBy 3 = .ok (.istore_n 3, 1) := by decide +kernel
theorem dX8_wornBy_4 : decode cX8_wornBy 4 = .ok (.iload_n 3, 1) := by decide +kernel
theorem dX8_wornBy_5 : decode cX8_wornBy 5 = .ok (.aload_n 0, 1) := by decide +kernel
theorem dX8_wornBy_6 : decode cX8_wornBy 6 = .ok (.getfield 7, 3) := by decide +kernel
theorem dX8_wornBy_9 : decode cX8_wornBy 9 = .ok (.iconst 1, 1) := by decide +kernel
theorem dX8_wornBy_10 : decode cX8_wornBy 10 = .ok (.iaload, 1) := by decide +kernel
theorem dX8_wornBy_11 : decode cX8_wornBy 11 = .ok (.if_icmp .ge 29, 3) := by decide +kernel
theorem dX8_wornBy_14 : decode cX8_wornBy 14 = .ok (.iload_n 2, 1) := by decide +kernel
theorem dX8_wornBy_15 : decode cX8_wornBy 15 = .ok (.aload_n 0, 1) := by decide +kernel
theorem dX8_wornBy_16 : decode cX8_wornBy 16 = .ok (.iload_n 3, 1) := by decide +kernel
theorem dX8_wornBy_17 : decode cX8_wornBy 17 = .ok (.iconst 2, 1) := by decide +kernel
theorem dX8_wornBy_18 : decode cX8_wornBy 18 = .ok (.invokevirtual 77, 3) := by decide +kernel
theorem dX8_wornBy_21 : decode cX8_wornBy 21 = .ok (.iload_n 1, 1) := by decide +kernel
theorem dX8_wornBy_22 : decode cX8_wornBy 22 = .ok (.if_icmp .ne 9, 3) := by decide +kernel
theorem dX8_wornBy_25 : decode cX8_wornBy 25 = .ok (.iconst 1, 1) := by decide +kernel
theorem dX8_wornBy_26 : decode cX8_wornBy 26 = .ok (.iload_n 3, 1) := by decide +kernel
theorem dX8_wornBy_27 : decode cX8_wornBy 27 = .ok (.ishl, 1) := by decide +kernel
theorem dX8_wornBy_28 : decode cX8_wornBy 28 = .ok (.goto 4, 3) := by decide +kernel
theorem dX8_wornBy_31 : decode cX8_wornBy 31 = .ok (.iconst 0, 1) := by decide +kernel
theorem dX8_wornBy_32 : decode cX8_wornBy 32 = .ok (.ior, 1) := by decide +kernel
theorem dX8_wornBy_33 : decode cX8_wornBy 33 = .ok (.istore_n 2, 1) := by decide +kernel
theorem dX8_wornBy_34 : decode cX8_wornBy 34 = .ok (.iinc 3 1, 3) := by decide +kernel
theorem dX8_wornBy_37 : decode cX8_wornBy 37 = .ok (.goto (-33), 3) := by decide +kernel
theorem dX8_wornBy_40 : decode cX8_wornBy 40 = .ok (.iload_n 2, 1) := by decide +kernel
theorem dX8_wornBy_41 : decode cX8_wornBy 41 = .ok (.ireturn, 1) := by decide +kernel
theorem dX8_thing_0 : decode cX8_thing 0 = .ok (.iload_n 1, 1) := by decide +kernel
theorem dX8_thing_1 : decode cX8_thing 1 = .ok (.iconst 0, 1) := by decide +kernel
theorem dX8_thing_2 : decode cX8_thing 2 = .ok (.iconst 3, 1) := by decide +kernel
theorem dX8_thing_3 : decode cX8_thing 3 = .ok (.invokestatic 69, 3) := by decide +kernel
theorem dX8_thing_6 : decode cX8_thing 6 = .ok (.ifCond .eq 14, 3) := by decide +kernel
theorem dX8_thing_9 : decode cX8_thing 9 = .ok (.aload_n 0, 1) := by decide +kernel
theorem dX8_thing_10 : decode cX8_thing 10 = .ok (.getfield 7, 3) := by decide +kernel
theorem dX8_thing_13 : decode cX8_thing 13 = .ok (.iconst 0, 1) := by decide +kernel
theorem dX8_thing_14 : decode cX8_thing 14 = .ok (.iaload, 1) := by decide +kernel
theorem dX8_thing_15 : decode cX8_thing 15 = .ok (.bipush 8, 2) := by decide +kernel
theorem dX8_thing_17 : decode cX8_thing 17 = .ok (.if_icmp .ne 5, 3) := by decide +kernel
theorem dX8_thing_20 : decode cX8_thing 20 = .ok (.iconst (-1), 1) := by decide +kernel
theorem dX8_thing_21 : decode cX8_thing 21 = .ok (.ireturn, 1) := by decide +kernel
theorem dX8_thing_22 : decode cX8_thing 22 = .ok (.aload_n 0, 1) := by decide +kernel
theorem dX8_thing_23 : decode cX8_thing 23 = .ok (.getfield 7, 3) := by decide +kernel
theorem dX8_thing_26 : decode cX8_thing 26 = .ok (.bipush 8, 2) := by decide +kernel
theorem dX8_thing_28 : decode cX8_thing 28 = .ok (.aload_n 0, 1) := by decide +kernel
theorem dX8_thing_29 : decode cX8_thing 29 = .ok (.getfield 7, 3) := by decide +kernel
theorem dX8_thing_32 : decode cX8_thing 32 = .ok (.iconst 0, 1) := by decide +kernel
theorem dX8_thing_33 : decode cX8_thing 33 = .ok (.iaload, 1) := by decide +kernel
theorem dX8_thing_34 : decode cX8_thing 34 = .ok (.iadd, 1) := by decide +kernel
theorem dX8_thing_35 : decode cX8_thing 35 = .ok (.iload_n 1, 1) := by decide +kernel
theorem dX8_thing_36 : decode cX8_thing 36 = .ok (.iastore, 1) := by decide +kernel
theorem dX8_thing_37 : decode cX8_thing 37 = .ok (.aload_n 0, 1) := by decide +kernel
theorem dX8_thing_38 : decode cX8_thing 38 = .ok (.getfield 7, 3) := by decide +kernel
theorem dX8_thing_41 : decode cX8_thing 41 = .ok (.iconst 0, 1) := by decide +kernel
theorem dX8_thing_42 : decode cX8_thing 42 = .ok (.dup2, 1) := by decide +kernel
theorem dX8_thing_43 : decode cX8_thing 43 = .ok (.iaload, 1) := by decide +kernel
theorem dX8_thing_44 : decode cX8_thing 44 = .ok (.iconst 1, 1) := by decide +kernel
theorem dX8_thing_45 : decode cX8_thing 45 = .ok (.iadd, 1) := by decide +kernel
theorem dX8_thing_46 : decode cX8_thing 46 = .ok (.iastore, 1) := by decide +kernel
theorem dX8_thing_47 : decode cX8_thing 47 = .ok (.aload_n 0, 1) := by decide +kernel
theorem dX8_thing_48 : decode cX8_thing 48 = .ok (.getfield 7, 3) := by decide +kernel
theorem dX8_thing_51 : decode cX8_thing 51 = .ok (.iconst 0, 1) := by decide +kernel
theorem dX8_thing_52 : decode cX8_thing 52 = .ok (.iaload, 1) := by decide +kernel
theorem dX8_thing_53 : decode cX8_thing 53 = .ok (.iconst 1, 1) := by decide +kernel
theorem dX8_thing_54 : decode cX8_thing 54 = .ok (.isub, 1) := by decide +kernel
theorem dX8_thing_55 : decode cX8_thing 55 = .ok (.ireturn, 1) := by decide +kernel
theorem dX8_eye_0 : decode cX8_eye 0 = .ok (.iload_n 1, 1) := by decide +kernel
theorem dX8_eye_1 : decode cX8_eye 1 = .ok (.iconst 0, 1) := by decide +kernel
theorem dX8_eye_2 : decode cX8_eye 2 = .ok (.iconst 3, 1) := by decide +kernel
theorem dX8_eye_3 : decode cX8_eye 3 = .ok (.invokestatic 69, 3) := by decide +kernel
theorem dX8_eye_6 : decode cX8_eye 6 = .ok (.ifCond .eq 14, 3) := by decide +kernel
theorem dX8_eye_9 : decode cX8_eye 9 = .ok (.aload_n 0, 1) := by decide +kernel
theorem dX8_eye_10 : decode cX8_eye 10 = .ok (.getfield 7, 3) := by decide +kernel
theorem dX8_eye_13 : decode cX8_eye 13 = .ok (.iconst 1, 1) := by decide +kernel
theorem dX8_eye_14 : decode cX8_eye 14 = .ok (.iaload, 1) := by decide +kernel
theorem dX8_eye_15 : decode cX8_eye 15 = .ok (.bipush 8, 2) := by decide +kernel
theorem dX8_eye_17 : decode cX8_eye 17 = .ok (.if_icmp .ne 5, 3) := by decide +kernel
theorem dX8_eye_20 : decode cX8_eye 20 = .ok (.iconst (-1), 1) := by decide +kernel
theorem dX8_eye_21 : decode cX8_eye 21 = .ok (.ireturn, 1) := by decide +kernel
theorem dX8_eye_22 : decode cX8_eye 22 = .ok (.aload_n 0, 1) := by decide +kernel
theorem dX8_eye_23 : decode cX8_eye 23 = .ok (.getfield 7, 3) := by decide +kernel
theorem dX8_eye_26 : decode cX8_eye 26 = .ok (.iconst 1, 1) := by decide +kernel
theorem dX8_eye_27 : decode cX8_eye 27 = .ok (.iaload, 1) := by decide +kernel
theorem dX8_eye_28 : decode cX8_eye 28 = .ok (.istore_n 3, 1) := by decide +kernel
theorem dX8_eye_29 : decode cX8_eye 29 = .ok (.aload_n 0, 1) := by decide +kernel
theorem dX8_eye_30 : decode cX8_eye 30 = .ok (.iload_n 3, 1) := by decide +kernel
theorem dX8_eye_31 : decode cX8_eye 31 = .ok (.iconst 0, 1) := by decide +kernel
theorem dX8_eye_32 : decode cX8_eye 32 = .ok (.iload_n 1, 1) := by decide +kernel
theorem dX8_eye_33 : decode cX8_eye 33 = .ok (.invokevirtual 73, 3) := by decide +kernel
theorem dX8_eye_36 : decode cX8_eye 36 = .ok (.aload_n 0, 1) := by decide +kernel
theorem dX8_eye_37 : decode cX8_eye 37 = .ok (.iload_n 3, 1) := by decide +kernel
theorem dX8_eye_38 : decode cX8_eye 38 = .ok (.iconst 1, 1) := by decide +kernel
theorem dX8_eye_39 : decode cX8_eye 39 = .ok (.iload_n 2, 1) := by decide +kernel
theorem dX8_eye_40 : decode cX8_eye 40 = .ok (.ifCond .eq 7, 3) := by decide +kernel
theorem dX8_eye_43 : decode cX8_eye 43 = .ok (.iconst 1, 1) := by decide +kernel
theorem dX8_eye_44 : decode cX8_eye 44 = .ok (.goto 4, 3) := by decide +kernel
theorem dX8_eye_47 : decode cX8_eye 47 = .ok (.iconst 0, 1) := by decide +kernel
theorem dX8_eye_48 : decode cX8_eye 48 = .ok (.invokevirtual 73, 3) := by decide +kernel
theorem dX8_eye_51 : decode cX8_eye 51 = .ok (.aload_n 0, 1) := by decide +kernel
theorem dX8_eye_52 : decode cX8_eye 52 = .ok (.iload_n 3, 1) := by decide +kernel
theorem dX8_eye_53 : decode cX8_eye 53 = .ok (.invokevirtual 61, 3) := by decide +kernel
theorem dX8_eye_56 : decode cX8_eye 56 = .ok (.aload_n 0, 1) := by decide +kernel
theorem dX8_eye_57 : decode cX8_eye 57 = .ok (.getfield 7, 3) := by decide +kernel
theorem dX8_eye_60 : decode cX8_eye 60 = .ok (.iconst 1, 1) := by decide +kernel
theorem dX8_eye_61 : decode cX8_eye 61 = .ok (.dup2, 1) := by decide +kernel
theorem dX8_eye_62 : decode cX8_eye 62 = .ok (.iaload, 1) := by decide +kernel
theorem dX8_eye_63 : decode cX8_eye 63 = .ok (.iconst 1, 1) := by decide +kernel
theorem dX8_eye_64 : decode cX8_eye 64 = .ok (.iadd, 1) := by decide +kernel
theorem dX8_eye_65 : decode cX8_eye 65 = .ok (.iastore, 1) := by decide +kernel
theorem dX8_eye_66 : decode cX8_eye 66 = .ok (.iload_n 3, 1) := by decide +kernel
theorem dX8_eye_67 : decode cX8_eye 67 = .ok (.ireturn, 1) := by decide +kernel
theorem dX8_four_0 : decode cX8_four 0 = .ok (.bipush 24, 2) := by decide +kernel
theorem dX8_four_2 : decode cX8_four 2 = .ok (.istore_n 2, 1) := by decide +kernel
theorem dX8_four_3 : decode cX8_four 3 = .ok (.iload_n 2, 1) := by decide +kernel
theorem dX8_four_4 : decode cX8_four 4 = .ok (.ifCond .lt 35, 3) := by decide +kernel
theorem dX8_four_7 : decode cX8_four 7 = .ok (.aload_n 0, 1) := by decide +kernel
theorem dX8_four_8 : decode cX8_four 8 = .ok (.getfield 22, 3) := by decide +kernel
theorem dX8_four_11 : decode cX8_four 11 = .ok (.aload_n 0, 1) := by decide +kernel
theorem dX8_four_12 : decode cX8_four 12 = .ok (.getfield 81, 3) := by decide +kernel
theorem dX8_four_15 : decode cX8_four 15 = .ok (.iload_n 1, 1) := by decide +kernel
theorem dX8_four_16 : decode cX8_four 16 = .ok (.iload_n 2, 1) := by decide +kernel
theorem dX8_four_17 : decode cX8_four 17 = .ok (.ishr, 1) := by decide +kernel
theorem dX8_four_18 : decode cX8_four 18 = .ok (.sipush 255, 3) := by decide +kernel
theorem dX8_four_21 : decode cX8_four 21 = .ok (.iand, 1) := by decide +kernel
theorem dX8_four_22 : decode cX8_four 22 = .ok (.iastore, 1) := by decide +kernel
theorem dX8_four_23 : decode cX8_four 23 = .ok (.aload_n 0, 1) := by decide +kernel
theorem dX8_four_24 : decode cX8_four 24 = .ok (.dup, 1) := by decide +kernel
theorem dX8_four_25 : decode cX8_four 25 = .ok (.getfield 81, 3) := by decide +kernel
theorem dX8_four_28 : decode cX8_four 28 = .ok (.iconst 1, 1) := by decide +kernel
theorem dX8_four_29 : decode cX8_four 29 = .ok (.iadd, 1) := by decide +kernel
theorem dX8_four_30 : decode cX8_four 30 = .ok (.putfield 81, 3) := by decide +kernel
theorem dX8_four_33 : decode cX8_four 33 = .ok (.iinc 2 (-8), 3) := by decide +kernel
theorem dX8_four_36 : decode cX8_four 36 = .ok (.goto (-33), 3) := by decide +kernel
theorem dX8_four_39 : decode cX8_four 39 = .ok (.return_, 1) := by decide +kernel
theorem dX8_feed_0 : decode cX8_feed 0 = .ok (.aload_n 0, 1) := by decide +kernel
theorem dX8_feed_1 : decode cX8_feed 1 = .ok (.getfield 81, 3) := by decide +kernel
theorem dX8_feed_4 : decode cX8_feed 4 = .ok (.bipush 20, 2) := by decide +kernel
theorem dX8_feed_6 : decode cX8_feed 6 = .ok (.iadd, 1) := by decide +kernel
theorem dX8_feed_7 : decode cX8_feed 7 = .ok (.sipush 300, 3) := by decide +kernel
theorem dX8_feed_10 : decode cX8_feed 10 = .ok (.if_icmp .le 5, 3) := by decide +kernel
theorem dX8_feed_13 : decode cX8_feed 13 = .ok (.iconst (-1), 1) := by decide +kernel
theorem dX8_feed_14 : decode cX8_feed 14 = .ok (.ireturn, 1) := by decide +kernel
theorem dX8_feed_15 : decode cX8_feed 15 = .ok (.aload_n 0, 1) := by decide +kernel
theorem dX8_feed_16 : decode cX8_feed 16 = .ok (.iload_n 1, 1) := by decide +kernel
theorem dX8_feed_17 : decode cX8_feed 17 = .ok (.invokevirtual 84, 3) := by decide +kernel
theorem dX8_feed_20 : decode cX8_feed 20 = .ok (.aload_n 0, 1) := by decide +kernel
theorem dX8_feed_21 : decode cX8_feed 21 = .ok (.iload_n 2, 1) := by decide +kernel
theorem dX8_feed_22 : decode cX8_feed 22 = .ok (.invokevirtual 84, 3) := by decide +kernel
theorem dX8_feed_25 : decode cX8_feed 25 = .ok (.aload_n 0, 1) := by decide +kernel
theorem dX8_feed_26 : decode cX8_feed 26 = .ok (.iload_n 3, 1) := by decide +kernel
theorem dX8_feed_27 : decode cX8_feed 27 = .ok (.invokevirtual 84, 3) := by decide +kernel
theorem dX8_feed_30 : decode cX8_feed 30 = .ok (.aload_n 0, 1) := by decide +kernel
theorem dX8_feed_31 : decode cX8_feed 31 = .ok (.iload 4, 2) := by decide +kernel
theorem dX8_feed_33 : decode cX8_feed 33 = .ok (.invokevirtual 84, 3) := by decide +kernel
theorem dX8_feed_36 : decode cX8_feed 36 = .ok (.aload_n 0, 1) := by decide +kernel
theorem dX8_feed_37 : decode cX8_feed 37 = .ok (.iload 5, 2) := by decide +kernel
theorem dX8_feed_39 : decode cX8_feed 39 = .ok (.invokevirtual 84, 3) := by decide +kernel
theorem dX8_feed_42 : decode cX8_feed 42 = .ok (.aload_n 0, 1) := by decide +kernel
theorem dX8_feed_43 : decode cX8_feed 43 = .ok (.getfield 81, 3) := by decide +kernel
theorem dX8_feed_46 : decode cX8_feed 46 = .ok (.ireturn, 1) := by decide +kernel
theorem dX8_end_0 : decode cX8_end 0 = .ok (.iload_n 1, 1) := by decide +kernel
theorem dX8_end_1 : decode cX8_end 1 = .ok (.iconst 0, 1) := by decide +kernel
theorem dX8_end_2 : decode cX8_end 2 = .ok (.aload_n 0, 1) := by decide +kernel
theorem dX8_end_3 : decode cX8_end 3 = .ok (.getfield 81, 3) := by decide +kernel
theorem dX8_end_6 : decode cX8_end 6 = .ok (.invokestatic 69, 3) := by decide +kernel
theorem dX8_end_9 : decode cX8_end 9 = .ok (.ifCond .ne 5, 3) := by decide +kernel
theorem dX8_end_12 : decode cX8_end 12 = .ok (.iconst (-1), 1) := by decide +kernel
theorem dX8_end_13 : decode cX8_end 13 = .ok (.ireturn, 1) := by decide +kernel
theorem dX8_end_14 : decode cX8_end 14 = .ok (.aload_n 0, 1) := by decide +kernel
theorem dX8_end_15 : decode cX8_end 15 = .ok (.iload_n 1, 1) := by decide +kernel
theorem dX8_end_16 : decode cX8_end 16 = .ok (.putfield 81, 3) := by decide +kernel
theorem dX8_end_19 : decode cX8_end 19 = .ok (.iload_n 1, 1) := by decide +kernel
theorem dX8_end_20 : decode cX8_end 20 = .ok (.ireturn, 1) := by decide +kernel
theorem dX8_byteAt_0 : decode cX8_byteAt 0 = .ok (.iload_n 1, 1) := by decide +kernel
theorem dX8_byteAt_1 : decode cX8_byteAt 1 = .ok (.aload_n 0, 1) := by decide +kernel
theorem dX8_byteAt_2 : decode cX8_byteAt 2 = .ok (.getfield 81, 3) := by decide +kernel
theorem dX8_byteAt_5 : decode cX8_byteAt 5 = .ok (.if_icmp .ge 12, 3) := by decide +kernel
theorem dX8_byteAt_8 : decode cX8_byteAt 8 = .ok (.aload_n 0, 1) := by decide +kernel
theorem dX8_byteAt_9 : decode cX8_byteAt 9 = .ok (.getfield 22, 3) := by decide +kernel
theorem dX8_byteAt_12 : decode cX8_byteAt 12 = .ok (.iload_n 1, 1) := by decide +kernel
theorem dX8_byteAt_13 : decode cX8_byteAt 13 = .ok (.iaload, 1) := by decide +kernel
theorem dX8_byteAt_14 : decode cX8_byteAt 14 = .ok (.goto 4, 3) := by decide +kernel
theorem dX8_byteAt_17 : decode cX8_byteAt 17 = .ok (.iconst (-1), 1) := by decide +kernel
theorem dX8_byteAt_18 : decode cX8_byteAt 18 = .ok (.ireturn, 1) := by decide +kernel
theorem dX8_isLetter_0 : decode cX8_isLetter 0 = .ok (.iload_n 0, 1) := by decide +kernel
theorem dX8_isLetter_1 : decode cX8_isLetter 1 = .ok (.bipush 97, 2) := by decide +kernel
theorem dX8_isLetter_3 : decode cX8_isLetter 3 = .ok (.bipush 122, 2) := by decide +kernel
theorem dX8_isLetter_5 : decode cX8_isLetter 5 = .ok (.invokestatic 69, 3) := by decide +kernel
theorem dX8_isLetter_8 : decode cX8_isLetter 8 = .ok (.ifCond .ne 14, 3) := by decide +kernel
theorem dX8_isLetter_11 : decode cX8_isLetter 11 = .ok (.iload_n 0, 1) := by decide +kernel
theorem dX8_isLetter_12 : decode cX8_isLetter 12 = .ok (.bipush 65, 2) := by decide +kernel
theorem dX8_isLetter_14 : decode cX8_isLetter 14 = .ok (.bipush 90, 2) := by decide +kernel
theorem dX8_isLetter_16 : decode cX8_isLetter 16 = .ok (.invokestatic 69, 3) := by decide +kernel
theorem dX8_isLetter_19 : decode cX8_isLetter 19 = .ok (.ifCond .eq 7, 3) := by decide +kernel
theorem dX8_isLetter_22 : decode cX8_isLetter 22 = .ok (.iconst 1, 1) := by decide +kernel
theorem dX8_isLetter_23 : decode cX8_isLetter 23 = .ok (.goto 4, 3) := by decide +kernel
theorem dX8_isLetter_26 : decode cX8_isLetter 26 = .ok (.iconst 0, 1) := by decide +kernel
theorem dX8_isLetter_27 : decode cX8_isLetter 27 = .ok (.ireturn, 1) := by decide +kernel
theorem dX8_isDigit_0 : decode cX8_isDigit 0 = .ok (.iload_n 0, 1) := by decide +kernel
theorem dX8_isDigit_1 : decode cX8_isDigit 1 = .ok (.bipush 48, 2) := by decide +kernel
theorem dX8_isDigit_3 : decode cX8_isDigit 3 = .ok (.bipush 57, 2) := by decide +kernel
theorem dX8_isDigit_5 : decode cX8_isDigit 5 = .ok (.invokestatic 69, 3) := by decide +kernel
theorem dX8_isDigit_8 : decode cX8_isDigit 8 = .ok (.ireturn, 1) := by decide +kernel
theorem dX8_nextToken_0 : decode cX8_nextToken 0 = .ok (.aload_n 0, 1) := by decide +kernel
theorem dX8_nextToken_1 : decode cX8_nextToken 1 = .ok (.aload_n 0, 1) := by decide +kernel
theorem dX8_nextToken_2 : decode cX8_nextToken 2 = .ok (.getfield 87, 3) := by decide +kernel
theorem dX8_nextToken_5 : decode cX8_nextToken 5 = .ok (.invokevirtual 90, 3) := by decide +kernel
theorem dX8_nextToken_8 : decode cX8_nextToken 8 = .ok (.bipush 32, 2) := by decide +kernel
theorem dX8_nextToken_10 : decode cX8_nextToken 10 = .ok (.if_icmp .eq 16, 3) := by decide +kernel
theorem dX8_nextToken_13 : decode cX8_nextToken 13 = .ok (.aload_n 0, 1) := by decide +kernel
theorem dX8_nextToken_14 : decode cX8_nextToken 14 = .ok (.aload_n 0, 1) := by decide +kernel
theorem dX8_nextToken_15 : decode cX8_nextToken 15 = .ok (.getfield 87, 3) := by decide +kernel
theorem dX8_nextToken_18 : decode cX8_nextToken 18 = .ok (.invokevirtual 90, 3) := by decide +kernel
theorem dX8_nextToken_21 : decode cX8_nextToken 21 = .ok (.bipush 10, 2) := by decide +kernel
theorem dX8_nextToken_23 : decode cX8_nextToken 23 = .ok (.if_icmp .ne 16, 3) := by decide +kernel
theorem dX8_nextToken_26 : decode cX8_nextToken 26 = .ok (.aload_n 0, 1) := by decide +kernel
theorem dX8_nextToken_27 : decode cX8_nextToken 27 = .ok (.dup, 1) := by decide +kernel
theorem dX8_nextToken_28 : decode cX8_nextToken 28 = .ok (.getfield 87, 3) := by decide +kernel
theorem dX8_nextToken_31 : decode cX8_nextToken 31 = .ok (.iconst 1, 1) := by decide +kernel
theorem dX8_nextToken_32 : decode cX8_nextToken 32 = .ok (.iadd, 1) := by decide +kernel
theorem dX8_nextToken_33 : decode cX8_nextToken 33 = .ok (.putfield 87, 3) := by decide +kernel
theorem dX8_nextToken_36 : decode cX8_nextToken 36 = .ok (.goto (-36), 3) := by decide +kernel
theorem dX8_nextToken_39 : decode cX8_nextToken 39 = .ok (.aload_n 0, 1) := by decide +kernel
theorem dX8_nextToken_40 : decode cX8_nextToken 40 = .ok (.aload_n 0, 1) := by decide +kernel
theorem dX8_nextToken_41 : decode cX8_nextToken 41 = .ok (.getfield 87, 3) := by decide +kernel
theorem dX8_nextToken_44 : decode cX8_nextToken 44 = .ok (.putfield 94, 3) := by decide +kernel
theorem dX8_nextToken_47 : decode cX8_nextToken 47 = .ok (.aload_n 0, 1) := by decide +kernel
theorem dX8_nextToken_48 : decode cX8_nextToken 48 = .ok (.aload_n 0, 1) := by decide +kernel
theorem dX8_nextToken_49 : decode cX8_nextToken 49 = .ok (.getfield 87, 3) := by decide +kernel
end
section
theorem dX8_nextToken_52 : decode cX8_nextToken 52 = .ok (.invokevirtual 90, 3) := by decide +kernel
theorem dX8_nextToken_55 : decode cX8_nextToken 55 = .ok (.istore_n 1, 1) := by decide +kernel
theorem dX8_nextToken_56 : decode cX8_nextToken 56 = .ok (.iload_n 1, 1) := by decide +kernel
theorem dX8_nextToken_57 : decode cX8_nextToken 57 = .ok (.ifCond .ge 11, 3) := by decide +kernel
theorem dX8_nextToken_60 : decode cX8_nextToken 60 = .ok (.aload_n 0, 1) := by decide +kernel
theorem dX8_nextToken_61 : decode cX8_nextToken 61 = .ok (.iconst 0, 1) := by decide +kernel
theorem dX8_nextToken_62 : decode cX8_nextToken 62 = .ok (.putfield 97, 3) := by decide +kernel
theorem dX8_nextToken_65 : decode cX8_nextToken 65 = .ok (.goto 325, 3) := by decide +kernel
theorem dX8_nextToken_68 : decode cX8_nextToken 68 = .ok (.iload_n 1, 1) := by decide +kernel
theorem dX8_nextToken_69 : decode cX8_nextToken 69 = .ok (.invokestatic 100, 3) := by decide +kernel
theorem dX8_nextToken_72 : decode cX8_nextToken 72 = .ok (.ifCond .eq 72, 3) := by decide +kernel
theorem dX8_nextToken_75 : decode cX8_nextToken 75 = .ok (.aload_n 0, 1) := by decide +kernel
theorem dX8_nextToken_76 : decode cX8_nextToken 76 = .ok (.iconst 1, 1) := by decide +kernel
theorem dX8_nextToken_77 : decode cX8_nextToken 77 = .ok (.putfield 97, 3) := by decide +kernel
theorem dX8_nextToken_80 : decode cX8_nextToken 80 = .ok (.aload_n 0, 1) := by decide +kernel
theorem dX8_nextToken_81 : decode cX8_nextToken 81 = .ok (.iconst 0, 1) := by decide +kernel
theorem dX8_nextToken_82 : decode cX8_nextToken 82 = .ok (.putfield 104, 3) := by decide +kernel
theorem dX8_nextToken_85 : decode cX8_nextToken 85 = .ok (.aload_n 0, 1) := by decide +kernel
theorem dX8_nextToken_86 : decode cX8_nextToken 86 = .ok (.aload_n 0, 1) := by decide +kernel
theorem dX8_nextToken_87 : decode cX8_nextToken 87 = .ok (.getfield 87, 3) := by decide +kernel
theorem dX8_nextToken_90 : decode cX8_nextToken 90 = .ok (.invokevirtual 90, 3) := by decide +kernel
theorem dX8_nextToken_93 : decode cX8_nextToken 93 = .ok (.invokestatic 100, 3) := by decide +kernel
theorem dX8_nextToken_96 : decode cX8_nextToken 96 = .ok (.ifCond .eq 294, 3) := by decide +kernel
theorem dX8_nextToken_99 : decode cX8_nextToken 99 = .ok (.aload_n 0, 1) := by decide +kernel
theorem dX8_nextToken_100 : decode cX8_nextToken 100 = .ok (.getfield 104, 3) := by decide +kernel
theorem dX8_nextToken_103 : decode cX8_nextToken 103 = .ok (.ldc 107, 2) := by decide +kernel
theorem dX8_nextToken_105 : decode cX8_nextToken 105 = .ok (.if_icmp .ge 26, 3) := by decide +kernel
theorem dX8_nextToken_108 : decode cX8_nextToken 108 = .ok (.aload_n 0, 1) := by decide +kernel
theorem dX8_nextToken_109 : decode cX8_nextToken 109 = .ok (.bipush 10, 2) := by decide +kernel
theorem dX8_nextToken_111 : decode cX8_nextToken 111 = .ok (.aload_n 0, 1) := by decide +kernel
theorem dX8_nextToken_112 : decode cX8_nextToken 112 = .ok (.getfield 104, 3) := by decide +kernel
theorem dX8_nextToken_115 : decode cX8_nextToken 115 = .ok (.imul, 1) := by decide +kernel
theorem dX8_nextToken_116 : decode cX8_nextToken 116 = .ok (.aload_n 0, 1) := by decide +kernel
theorem dX8_nextToken_117 : decode cX8_nextToken 117 = .ok (.aload_n 0, 1) := by decide +kernel
theorem dX8_nextToken_118 : decode cX8_nextToken 118 = .ok (.getfield 87, 3) := by decide +kernel
theorem dX8_nextToken_121 : decode cX8_nextToken 121 = .ok (.invokevirtual 90, 3) := by decide +kernel
theorem dX8_nextToken_124 : decode cX8_nextToken 124 = .ok (.iadd, 1) := by decide +kernel
theorem dX8_nextToken_125 : decode cX8_nextToken 125 = .ok (.bipush 48, 2) := by decide +kernel
theorem dX8_nextToken_127 : decode cX8_nextToken 127 = .ok (.isub, 1) := by decide +kernel
theorem dX8_nextToken_128 : decode cX8_nextToken 128 = .ok (.putfield 104, 3) := by decide +kernel
theorem dX8_nextToken_131 : decode cX8_nextToken 131 = .ok (.aload_n 0, 1) := by decide +kernel
theorem dX8_nextToken_132 : decode cX8_nextToken 132 = .ok (.dup, 1) := by decide +kernel
theorem dX8_nextToken_133 : decode cX8_nextToken 133 = .ok (.getfield 87, 3) := by decide +kernel
theorem dX8_nextToken_136 : decode cX8_nextToken 136 = .ok (.iconst 1, 1) := by decide +kernel
theorem dX8_nextToken_137 : decode cX8_nextToken 137 = .ok (.iadd, 1) := by decide +kernel
theorem dX8_nextToken_138 : decode cX8_nextToken 138 = .ok (.putfield 87, 3) := by decide +kernel
theorem dX8_nextToken_141 : decode cX8_nextToken 141 = .ok (.goto (-56), 3) := by decide +kernel
theorem dX8_nextToken_144 : decode cX8_nextToken 144 = .ok (.iload_n 1, 1) := by decide +kernel
theorem dX8_nextToken_145 : decode cX8_nextToken 145 = .ok (.invokestatic 108, 3) := by decide +kernel
theorem dX8_nextToken_148 : decode cX8_nextToken 148 = .ok (.ifCond .eq 97, 3) := by decide +kernel
theorem dX8_nextToken_151 : decode cX8_nextToken 151 = .ok (.aload_n 0, 1) := by decide +kernel
theorem dX8_nextToken_152 : decode cX8_nextToken 152 = .ok (.iconst 2, 1) := by decide +kernel
theorem dX8_nextToken_153 : decode cX8_nextToken 153 = .ok (.putfield 97, 3) := by decide +kernel
theorem dX8_nextToken_156 : decode cX8_nextToken 156 = .ok (.aload_n 0, 1) := by decide +kernel
theorem dX8_nextToken_157 : decode cX8_nextToken 157 = .ok (.lconst 0, 1) := by decide +kernel
theorem dX8_nextToken_158 : decode cX8_nextToken 158 = .ok (.putfield 111, 3) := by decide +kernel
theorem dX8_nextToken_161 : decode cX8_nextToken 161 = .ok (.aload_n 0, 1) := by decide +kernel
theorem dX8_nextToken_162 : decode cX8_nextToken 162 = .ok (.aload_n 0, 1) := by decide +kernel
theorem dX8_nextToken_163 : decode cX8_nextToken 163 = .ok (.getfield 87, 3) := by decide +kernel
theorem dX8_nextToken_166 : decode cX8_nextToken 166 = .ok (.invokevirtual 90, 3) := by decide +kernel
theorem dX8_nextToken_169 : decode cX8_nextToken 169 = .ok (.invokestatic 108, 3) := by decide +kernel
theorem dX8_nextToken_172 : decode cX8_nextToken 172 = .ok (.ifCond .eq 51, 3) := by decide +kernel
theorem dX8_nextToken_175 : decode cX8_nextToken 175 = .ok (.aload_n 0, 1) := by decide +kernel
theorem dX8_nextToken_176 : decode cX8_nextToken 176 = .ok (.getfield 87, 3) := by decide +kernel
theorem dX8_nextToken_179 : decode cX8_nextToken 179 = .ok (.aload_n 0, 1) := by decide +kernel
theorem dX8_nextToken_180 : decode cX8_nextToken 180 = .ok (.getfield 94, 3) := by decide +kernel
theorem dX8_nextToken_183 : decode cX8_nextToken 183 = .ok (.isub, 1) := by decide +kernel
theorem dX8_nextToken_184 : decode cX8_nextToken 184 = .ok (.bipush 7, 2) := by decide +kernel
theorem dX8_nextToken_186 : decode cX8_nextToken 186 = .ok (.if_icmp .ge 24, 3) := by decide +kernel
theorem dX8_nextToken_189 : decode cX8_nextToken 189 = .ok (.aload_n 0, 1) := by decide +kernel
theorem dX8_nextToken_190 : decode cX8_nextToken 190 = .ok (.aload_n 0, 1) := by decide +kernel
theorem dX8_nextToken_191 : decode cX8_nextToken 191 = .ok (.getfield 111, 3) := by decide +kernel
theorem dX8_nextToken_194 : decode cX8_nextToken 194 = .ok (.bipush 8, 2) := by decide +kernel
theorem dX8_nextToken_196 : decode cX8_nextToken 196 = .ok (.lshl, 1) := by decide +kernel
theorem dX8_nextToken_197 : decode cX8_nextToken 197 = .ok (.aload_n 0, 1) := by decide +kernel
theorem dX8_nextToken_198 : decode cX8_nextToken 198 = .ok (.aload_n 0, 1) := by decide +kernel
theorem dX8_nextToken_199 : decode cX8_nextToken 199 = .ok (.getfield 87, 3) := by decide +kernel
theorem dX8_nextToken_202 : decode cX8_nextToken 202 = .ok (.invokevirtual 90, 3) := by decide +kernel
theorem dX8_nextToken_205 : decode cX8_nextToken 205 = .ok (.i2l, 1) := by decide +kernel
theorem dX8_nextToken_206 : decode cX8_nextToken 206 = .ok (.lor, 1) := by decide +kernel
theorem dX8_nextToken_207 : decode cX8_nextToken 207 = .ok (.putfield 111, 3) := by decide +kernel
theorem dX8_nextToken_210 : decode cX8_nextToken 210 = .ok (.aload_n 0, 1) := by decide +kernel
theorem dX8_nextToken_211 : decode cX8_nextToken 211 = .ok (.dup, 1) := by decide +kernel
theorem dX8_nextToken_212 : decode cX8_nextToken 212 = .ok (.getfield 87, 3) := by decide +kernel
theorem dX8_nextToken_215 : decode cX8_nextToken 215 = .ok (.iconst 1, 1) := by decide +kernel
theorem dX8_nextToken_216 : decode cX8_nextToken 216 = .ok (.iadd, 1) := by decide +kernel
theorem dX8_nextToken_217 : decode cX8_nextToken 217 = .ok (.putfield 87, 3) := by decide +kernel
theorem dX8_nextToken_220 : decode cX8_nextToken 220 = .ok (.goto (-59), 3) := by decide +kernel
theorem dX8_nextToken_223 : decode cX8_nextToken 223 = .ok (.aload_n 0, 1) := by decide +kernel
theorem dX8_nextToken_224 : decode cX8_nextToken 224 = .ok (.getfield 87, 3) := by decide +kernel
theorem dX8_nextToken_227 : decode cX8_nextToken 227 = .ok (.aload_n 0, 1) := by decide +kernel
theorem dX8_nextToken_228 : decode cX8_nextToken 228 = .ok (.getfield 94, 3) := by decide +kernel
theorem dX8_nextToken_231 : decode cX8_nextToken 231 = .ok (.isub, 1) := by decide +kernel
theorem dX8_nextToken_232 : decode cX8_nextToken 232 = .ok (.bipush 7, 2) := by decide +kernel
theorem dX8_nextToken_234 : decode cX8_nextToken 234 = .ok (.if_icmp .le 156, 3) := by decide +kernel
theorem dX8_nextToken_237 : decode cX8_nextToken 237 = .ok (.aload_n 0, 1) := by decide +kernel
theorem dX8_nextToken_238 : decode cX8_nextToken 238 = .ok (.lconst 0, 1) := by decide +kernel
theorem dX8_nextToken_239 : decode cX8_nextToken 239 = .ok (.putfield 111, 3) := by decide +kernel
theorem dX8_nextToken_242 : decode cX8_nextToken 242 = .ok (.goto 148, 3) := by decide +kernel
theorem dX8_nextToken_245 : decode cX8_nextToken 245 = .ok (.aload_n 0, 1) := by decide +kernel
theorem dX8_nextToken_246 : decode cX8_nextToken 246 = .ok (.dup, 1) := by decide +kernel
theorem dX8_nextToken_247 : decode cX8_nextToken 247 = .ok (.getfield 87, 3) := by decide +kernel
theorem dX8_nextToken_250 : decode cX8_nextToken 250 = .ok (.iconst 1, 1) := by decide +kernel
theorem dX8_nextToken_251 : decode cX8_nextToken 251 = .ok (.iadd, 1) := by decide +kernel
theorem dX8_nextToken_252 : decode cX8_nextToken 252 = .ok (.putfield 87, 3) := by decide +kernel
theorem dX8_nextToken_255 : decode cX8_nextToken 255 = .ok (.iload_n 1, 1) := by decide +kernel
theorem dX8_nextToken_256 : decode cX8_nextToken 256 = .ok (.bipush 60, 2) := by decide +kernel
theorem dX8_nextToken_258 : decode cX8_nextToken 258 = .ok (.if_icmp .eq 63, 3) := by decide +kernel
theorem dX8_nextToken_261 : decode cX8_nextToken 261 = .ok (.iload_n 1, 1) := by decide +kernel
theorem dX8_nextToken_262 : decode cX8_nextToken 262 = .ok (.bipush 62, 2) := by decide +kernel
theorem dX8_nextToken_264 : decode cX8_nextToken 264 = .ok (.if_icmp .eq 57, 3) := by decide +kernel
theorem dX8_nextToken_267 : decode cX8_nextToken 267 = .ok (.iload_n 1, 1) := by decide +kernel
theorem dX8_nextToken_268 : decode cX8_nextToken 268 = .ok (.bipush 61, 2) := by decide +kernel
theorem dX8_nextToken_270 : decode cX8_nextToken 270 = .ok (.if_icmp .eq 51, 3) := by decide +kernel
theorem dX8_nextToken_273 : decode cX8_nextToken 273 = .ok (.iload_n 1, 1) := by decide +kernel
theorem dX8_nextToken_274 : decode cX8_nextToken 274 = .ok (.bipush 35, 2) := by decide +kernel
theorem dX8_nextToken_276 : decode cX8_nextToken 276 = .ok (.if_icmp .eq 45, 3) := by decide +kernel
theorem dX8_nextToken_279 : decode cX8_nextToken 279 = .ok (.iload_n 1, 1) := by decide +kernel
theorem dX8_nextToken_280 : decode cX8_nextToken 280 = .ok (.bipush 43, 2) := by decide +kernel
theorem dX8_nextToken_282 : decode cX8_nextToken 282 = .ok (.if_icmp .eq 39, 3) := by decide +kernel
theorem dX8_nextToken_285 : decode cX8_nextToken 285 = .ok (.iload_n 1, 1) := by decide +kernel
theorem dX8_nextToken_286 : decode cX8_nextToken 286 = .ok (.bipush 45, 2) := by decide +kernel
theorem dX8_nextToken_288 : decode cX8_nextToken 288 = .ok (.if_icmp .eq 33, 3) := by decide +kernel
theorem dX8_nextToken_291 : decode cX8_nextToken 291 = .ok (.iload_n 1, 1) := by decide +kernel
theorem dX8_nextToken_292 : decode cX8_nextToken 292 = .ok (.bipush 42, 2) := by decide +kernel
theorem dX8_nextToken_294 : decode cX8_nextToken 294 = .ok (.if_icmp .eq 27, 3) := by decide +kernel
theorem dX8_nextToken_297 : decode cX8_nextToken 297 = .ok (.iload_n 1, 1) := by decide +kernel
theorem dX8_nextToken_298 : decode cX8_nextToken 298 = .ok (.bipush 47, 2) := by decide +kernel
theorem dX8_nextToken_300 : decode cX8_nextToken 300 = .ok (.if_icmp .eq 21, 3) := by decide +kernel
theorem dX8_nextToken_303 : decode cX8_nextToken 303 = .ok (.iload_n 1, 1) := by decide +kernel
theorem dX8_nextToken_304 : decode cX8_nextToken 304 = .ok (.bipush 40, 2) := by decide +kernel
theorem dX8_nextToken_306 : decode cX8_nextToken 306 = .ok (.if_icmp .eq 15, 3) := by decide +kernel
theorem dX8_nextToken_309 : decode cX8_nextToken 309 = .ok (.iload_n 1, 1) := by decide +kernel
theorem dX8_nextToken_310 : decode cX8_nextToken 310 = .ok (.bipush 41, 2) := by decide +kernel
theorem dX8_nextToken_312 : decode cX8_nextToken 312 = .ok (.if_icmp .eq 9, 3) := by decide +kernel
theorem dX8_nextToken_315 : decode cX8_nextToken 315 = .ok (.iload_n 1, 1) := by decide +kernel
theorem dX8_nextToken_316 : decode cX8_nextToken 316 = .ok (.bipush 59, 2) := by decide +kernel
theorem dX8_nextToken_318 : decode cX8_nextToken 318 = .ok (.if_icmp .ne 7, 3) := by decide +kernel
theorem dX8_nextToken_321 : decode cX8_nextToken 321 = .ok (.iconst 1, 1) := by decide +kernel
theorem dX8_nextToken_322 : decode cX8_nextToken 322 = .ok (.goto 4, 3) := by decide +kernel
theorem dX8_nextToken_325 : decode cX8_nextToken 325 = .ok (.iconst 0, 1) := by decide +kernel
theorem dX8_nextToken_326 : decode cX8_nextToken 326 = .ok (.istore_n 2, 1) := by decide +kernel
theorem dX8_nextToken_327 : decode cX8_nextToken 327 = .ok (.aload_n 0, 1) := by decide +kernel
theorem dX8_nextToken_328 : decode cX8_nextToken 328 = .ok (.iload_n 2, 1) := by decide +kernel
theorem dX8_nextToken_329 : decode cX8_nextToken 329 = .ok (.ifCond .eq 7, 3) := by decide +kernel
theorem dX8_nextToken_332 : decode cX8_nextToken 332 = .ok (.iload_n 1, 1) := by decide +kernel
theorem dX8_nextToken_333 : decode cX8_nextToken 333 = .ok (.goto 4, 3) := by decide +kernel
theorem dX8_nextToken_336 : decode cX8_nextToken 336 = .ok (.iconst 3, 1) := by decide +kernel
theorem dX8_nextToken_337 : decode cX8_nextToken 337 = .ok (.putfield 97, 3) := by decide +kernel
theorem dX8_nextToken_340 : decode cX8_nextToken 340 = .ok (.iload_n 1, 1) := by decide +kernel
theorem dX8_nextToken_341 : decode cX8_nextToken 341 = .ok (.bipush 60, 2) := by decide +kernel
theorem dX8_nextToken_343 : decode cX8_nextToken 343 = .ok (.if_icmp .eq 9, 3) := by decide +kernel
theorem dX8_nextToken_346 : decode cX8_nextToken 346 = .ok (.iload_n 1, 1) := by decide +kernel
theorem dX8_nextToken_347 : decode cX8_nextToken 347 = .ok (.bipush 62, 2) := by decide +kernel
theorem dX8_nextToken_349 : decode cX8_nextToken 349 = .ok (.if_icmp .ne 41, 3) := by decide +kernel
theorem dX8_nextToken_352 : decode cX8_nextToken 352 = .ok (.aload_n 0, 1) := by decide +kernel
theorem dX8_nextToken_353 : decode cX8_nextToken 353 = .ok (.aload_n 0, 1) := by decide +kernel
theorem dX8_nextToken_354 : decode cX8_nextToken 354 = .ok (.getfield 87, 3) := by decide +kernel
theorem dX8_nextToken_357 : decode cX8_nextToken 357 = .ok (.invokevirtual 90, 3) := by decide +kernel
theorem dX8_nextToken_360 : decode cX8_nextToken 360 = .ok (.bipush 61, 2) := by decide +kernel
theorem dX8_nextToken_362 : decode cX8_nextToken 362 = .ok (.if_icmp .ne 28, 3) := by decide +kernel
theorem dX8_nextToken_365 : decode cX8_nextToken 365 = .ok (.aload_n 0, 1) := by decide +kernel
theorem dX8_nextToken_366 : decode cX8_nextToken 366 = .ok (.dup, 1) := by decide +kernel
theorem dX8_nextToken_367 : decode cX8_nextToken 367 = .ok (.getfield 87, 3) := by decide +kernel
theorem dX8_nextToken_370 : decode cX8_nextToken 370 = .ok (.iconst 1, 1) := by decide +kernel
theorem dX8_nextToken_371 : decode cX8_nextToken 371 = .ok (.iadd, 1) := by decide +kernel
theorem dX8_nextToken_372 : decode cX8_nextToken 372 = .ok (.putfield 87, 3) := by decide +kernel
theorem dX8_nextToken_375 : decode cX8_nextToken 375 = .ok (.aload_n 0, 1) := by decide +kernel
theorem dX8_nextToken_376 : decode cX8_nextToken 376 = .ok (.iload_n 1, 1) := by decide +kernel
theorem dX8_nextToken_377 : decode cX8_nextToken 377 = .ok (.bipush 60, 2) := by decide +kernel
theorem dX8_nextToken_379 : decode cX8_nextToken 379 = .ok (.if_icmp .ne 7, 3) := by decide +kernel
theorem dX8_nextToken_382 : decode cX8_nextToken 382 = .ok (.iconst 4, 1) := by decide +kernel
theorem dX8_nextToken_383 : decode cX8_nextToken 383 = .ok (.goto 4, 3) := by decide +kernel
theorem dX8_nextToken_386 : decode cX8_nextToken 386 = .ok (.iconst 5, 1) := by decide +kernel
theorem dX8_nextToken_387 : decode cX8_nextToken 387 = .ok (.putfield 97, 3) := by decide +kernel
theorem dX8_nextToken_390 : decode cX8_nextToken 390 = .ok (.return_, 1) := by decide +kernel
theorem dX8_w3_0 : decode cX8_w3 0 = .ok (.iload_n 0, 1) := by decide +kernel
theorem dX8_w3_1 : decode cX8_w3 1 = .ok (.i2l, 1) := by decide +kernel
theorem dX8_w3_2 : decode cX8_w3 2 = .ok (.bipush 8, 2) := by decide +kernel
theorem dX8_w3_4 : decode cX8_w3 4 = .ok (.lshl, 1) := by decide +kernel
theorem dX8_w3_5 : decode cX8_w3 5 = .ok (.iload_n 1, 1) := by decide +kernel
theorem dX8_w3_6 : decode cX8_w3 6 = .ok (.i2l, 1) := by decide +kernel
theorem dX8_w3_7 : decode cX8_w3 7 = .ok (.lor, 1) := by decide +kernel
theorem dX8_w3_8 : decode cX8_w3 8 = .ok (.bipush 8, 2) := by decide +kernel
theorem dX8_w3_10 : decode cX8_w3 10 = .ok (.lshl, 1) := by decide +kernel
theorem dX8_w3_11 : decode cX8_w3 11 = .ok (.iload_n 2, 1) := by decide +kernel
theorem dX8_w3_12 : decode cX8_w3 12 = .ok (.i2l, 1) := by decide +kernel
theorem dX8_w3_13 : decode cX8_w3 13 = .ok (.lor, 1) := by decide +kernel
theorem dX8_w3_14 : decode cX8_w3 14 = .ok (.lreturn, 1) := by decide +kernel
theorem dX8_w5_0 : decode cX8_w5 0 = .ok (.iload_n 0, 1) := by decide +kernel
theorem dX8_w5_1 : decode cX8_w5 1 = .ok (.iload_n 1, 1) := by decide +kernel
theorem dX8_w5_2 : decode cX8_w5 2 = .ok (.iload_n 2, 1) := by decide +kernel
theorem dX8_w5_3 : decode cX8_w5 3 = .ok (.invokestatic 115, 3) := by decide +kernel
theorem dX8_w5_6 : decode cX8_w5 6 = .ok (.bipush 8, 2) := by decide +kernel
theorem dX8_w5_8 : decode cX8_w5 8 = .ok (.lshl, 1) := by decide +kernel
theorem dX8_w5_9 : decode cX8_w5 9 = .ok (.iload_n 3, 1) := by decide +kernel
theorem dX8_w5_10 : decode cX8_w5 10 = .ok (.i2l, 1) := by decide +kernel
theorem dX8_w5_11 : decode cX8_w5 11 = .ok (.lor, 1) := by decide +kernel
theorem dX8_w5_12 : decode cX8_w5 12 = .ok (.bipush 8, 2) := by decide +kernel
theorem dX8_w5_14 : decode cX8_w5 14 = .ok (.lshl, 1) := by decide +kernel
theorem dX8_w5_15 : decode cX8_w5 15 = .ok (.iload 4, 2) := by decide +kernel
theorem dX8_w5_17 : decode cX8_w5 17 = .ok (.i2l, 1) := by decide +kernel
theorem dX8_w5_18 : decode cX8_w5 18 = .ok (.lor, 1) := by decide +kernel
theorem dX8_w5_19 : decode cX8_w5 19 = .ok (.lreturn, 1) := by decide +kernel
theorem dX8_w4_0 : decode cX8_w4 0 = .ok (.iload_n 0, 1) := by decide +kernel
theorem dX8_w4_1 : decode cX8_w4 1 = .ok (.iload_n 1, 1) := by decide +kernel
theorem dX8_w4_2 : decode cX8_w4 2 = .ok (.iload_n 2, 1) := by decide +kernel
theorem dX8_w4_3 : decode cX8_w4 3 = .ok (.invokestatic 115, 3) := by decide +kernel
theorem dX8_w4_6 : decode cX8_w4 6 = .ok (.bipush 8, 2) := by decide +kernel
theorem dX8_w4_8 : decode cX8_w4 8 = .ok (.lshl, 1) := by decide +kernel
theorem dX8_w4_9 : decode cX8_w4 9 = .ok (.iload_n 3, 1) := by decide +kernel
theorem dX8_w4_10 : decode cX8_w4 10 = .ok (.i2l, 1) := by decide +kernel
theorem dX8_w4_11 : decode cX8_w4 11 = .ok (.lor, 1) := by decide +kernel
theorem dX8_w4_12 : decode cX8_w4 12 = .ok (.lreturn, 1) := by decide +kernel
theorem dX8_w6_0 : decode cX8_w6 0 = .ok (.iload_n 0, 1) := by decide +kernel
theorem dX8_w6_1 : decode cX8_w6 1 = .ok (.iload_n 1, 1) := by decide +kernel
theorem dX8_w6_2 : decode cX8_w6 2 = .ok (.iload_n 2, 1) := by decide +kernel
theorem dX8_w6_3 : decode cX8_w6 3 = .ok (.iload_n 3, 1) := by decide +kernel
theorem dX8_w6_4 : decode cX8_w6 4 = .ok (.iload 4, 2) := by decide +kernel
theorem dX8_w6_6 : decode cX8_w6 6 = .ok (.invokestatic 119, 3) := by decide +kernel
theorem dX8_w6_9 : decode cX8_w6 9 = .ok (.bipush 8, 2) := by decide +kernel
theorem dX8_w6_11 : decode cX8_w6 11 = .ok (.lshl, 1) := by decide +kernel
theorem dX8_w6_12 : decode cX8_w6 12 = .ok (.iload 5, 2) := by decide +kernel
theorem dX8_w6_14 : decode cX8_w6 14 = .ok (.i2l, 1) := by decide +kernel
theorem dX8_w6_15 : decode cX8_w6 15 = .ok (.lor, 1) := by decide +kernel
theorem dX8_w6_16 : decode cX8_w6 16 = .ok (.lreturn, 1) := by decide +kernel
theorem dX8_isWord_0 : decode cX8_isWord 0 = .ok (.aload_n 0, 1) := by decide +kernel
theorem dX8_isWord_1 : decode cX8_isWord 1 = .ok (.getfield 97, 3) := by decide +kernel
theorem dX8_isWord_4 : decode cX8_isWord 4 = .ok (.iconst 2, 1) := by decide +kernel
theorem dX8_isWord_5 : decode cX8_isWord 5 = .ok (.if_icmp .ne 16, 3) := by decide +kernel
theorem dX8_isWord_8 : decode cX8_isWord 8 = .ok (.aload_n 0, 1) := by decide +kernel
theorem dX8_isWord_9 : decode cX8_isWord 9 = .ok (.getfield 111, 3) := by decide +kernel
theorem dX8_isWord_12 : decode cX8_isWord 12 = .ok (.lload_n 1, 1) := by decide +kernel
theorem dX8_isWord_13 : decode cX8_isWord 13 = .ok (.lcmp, 1) := by decide +kernel
theorem dX8_isWord_14 : decode cX8_isWord 14 = .ok (.ifCond .ne 7, 3) := by decide +kernel
theorem dX8_isWord_17 : decode cX8_isWord 17 = .ok (.iconst 1, 1) := by decide +kernel
theorem dX8_isWord_18 : decode cX8_isWord 18 = .ok (.goto 4, 3) := by decide +kernel
theorem dX8_isWord_21 : decode cX8_isWord 21 = .ok (.iconst 0, 1) := by decide +kernel
theorem dX8_isWord_22 : decode cX8_isWord 22 = .ok (.ireturn, 1) := by decide +kernel
theorem dX8_emit_0 : decode cX8_emit 0 = .ok (.aload_n 0, 1) := by decide +kernel
theorem dX8_emit_1 : decode cX8_emit 1 = .ok (.getfield 19, 3) := by decide +kernel
theorem dX8_emit_4 : decode cX8_emit 4 = .ok (.aload_n 0, 1) := by decide +kernel
theorem dX8_emit_5 : decode cX8_emit 5 = .ok (.getfield 123, 3) := by decide +kernel
theorem dX8_emit_8 : decode cX8_emit 8 = .ok (.bipush 75, 2) := by decide +kernel
theorem dX8_emit_10 : decode cX8_emit 10 = .ok (.iadd, 1) := by decide +kernel
theorem dX8_emit_11 : decode cX8_emit 11 = .ok (.iconst 2, 1) := by decide +kernel
theorem dX8_emit_12 : decode cX8_emit 12 = .ok (.aload_n 0, 1) := by decide +kernel
theorem dX8_emit_13 : decode cX8_emit 13 = .ok (.getfield 126, 3) := by decide +kernel
theorem dX8_emit_16 : decode cX8_emit 16 = .ok (.imul, 1) := by decide +kernel
theorem dX8_emit_17 : decode cX8_emit 17 = .ok (.iadd, 1) := by decide +kernel
theorem dX8_emit_18 : decode cX8_emit 18 = .ok (.iload_n 1, 1) := by decide +kernel
theorem dX8_emit_19 : decode cX8_emit 19 = .ok (.iastore, 1) := by decide +kernel
theorem dX8_emit_20 : decode cX8_emit 20 = .ok (.aload_n 0, 1) := by decide +kernel
theorem dX8_emit_21 : decode cX8_emit 21 = .ok (.getfield 19, 3) := by decide +kernel
theorem dX8_emit_24 : decode cX8_emit 24 = .ok (.aload_n 0, 1) := by decide +kernel
theorem dX8_emit_25 : decode cX8_emit 25 = .ok (.getfield 123, 3) := by decide +kernel
theorem dX8_emit_28 : decode cX8_emit 28 = .ok (.bipush 75, 2) := by decide +kernel
theorem dX8_emit_30 : decode cX8_emit 30 = .ok (.iadd, 1) := by decide +kernel
theorem dX8_emit_31 : decode cX8_emit 31 = .ok (.iconst 2, 1) := by decide +kernel
theorem dX8_emit_32 : decode cX8_emit 32 = .ok (.aload_n 0, 1) := by decide +kernel
theorem dX8_emit_33 : decode cX8_emit 33 = .ok (.getfield 126, 3) := by decide +kernel
theorem dX8_emit_36 : decode cX8_emit 36 = .ok (.imul, 1) := by decide +kernel
theorem dX8_emit_37 : decode cX8_emit 37 = .ok (.iadd, 1) := by decide +kernel
theorem dX8_emit_38 : decode cX8_emit 38 = .ok (.iconst 1, 1) := by decide +kernel
theorem dX8_emit_39 : decode cX8_emit 39 = .ok (.iadd, 1) := by decide +kernel
theorem dX8_emit_40 : decode cX8_emit 40 = .ok (.iload_n 2, 1) := by decide +kernel
theorem dX8_emit_41 : decode cX8_emit 41 = .ok (.iastore, 1) := by decide +kernel
theorem dX8_emit_42 : decode cX8_emit 42 = .ok (.aload_n 0, 1) := by decide +kernel
theorem dX8_emit_43 : decode cX8_emit 43 = .ok (.dup, 1) := by decide +kernel
theorem dX8_emit_44 : decode cX8_emit 44 = .ok (.getfield 126, 3) := by decide +kernel
theorem dX8_emit_47 : decode cX8_emit 47 = .ok (.iconst 1, 1) := by decide +kernel
theorem dX8_emit_48 : decode cX8_emit 48 = .ok (.iadd, 1) := by decide +kernel
theorem dX8_emit_49 : decode cX8_emit 49 = .ok (.putfield 126, 3) := by decide +kernel
theorem dX8_emit_52 : decode cX8_emit 52 = .ok (.return_, 1) := by decide +kernel
theorem dX8_push_0 : decode cX8_push 0 = .ok (.aload_n 0, 1) := by decide +kernel
theorem dX8_push_1 : decode cX8_push 1 = .ok (.getfield 32, 3) := by decide +kernel
theorem dX8_push_4 : decode cX8_push 4 = .ok (.aload_n 0, 1) := by decide +kernel
theorem dX8_push_5 : decode cX8_push 5 = .ok (.getfield 129, 3) := by decide +kernel
theorem dX8_push_8 : decode cX8_push 8 = .ok (.iload_n 1, 1) := by decide +kernel
theorem dX8_push_9 : decode cX8_push 9 = .ok (.iastore, 1) := by decide +kernel
theorem dX8_push_10 : decode cX8_push 10 = .ok (.aload_n 0, 1) := by decide +kernel
theorem dX8_push_11 : decode cX8_push 11 = .ok (.dup, 1) := by decide +kernel
theorem dX8_push_12 : decode cX8_push 12 = .ok (.getfield 129, 3) := by decide +kernel
theorem dX8_push_15 : decode cX8_push 15 = .ok (.iconst 1, 1) := by decide +kernel
theorem dX8_push_16 : decode cX8_push 16 = .ok (.iadd, 1) := by decide +kernel
theorem dX8_push_17 : decode cX8_push 17 = .ok (.putfield 129, 3) := by decide +kernel
theorem dX8_push_20 : decode cX8_push 20 = .ok (.return_, 1) := by decide +kernel
theorem dX8_whole_0 : decode cX8_whole 0 = .ok (.aload_n 0, 1) := by decide +kernel
theorem dX8_whole_1 : decode cX8_whole 1 = .ok (.iconst 1, 1) := by decide +kernel
theorem dX8_whole_2 : decode cX8_whole 2 = .ok (.putfield 132, 3) := by decide +kernel
theorem dX8_whole_5 : decode cX8_whole 5 = .ok (.aload_n 0, 1) := by decide +kernel
theorem dX8_whole_6 : decode cX8_whole 6 = .ok (.getfield 129, 3) := by decide +kernel
theorem dX8_whole_9 : decode cX8_whole 9 = .ok (.ifCond .le 47, 3) := by decide +kernel
theorem dX8_whole_12 : decode cX8_whole 12 = .ok (.aload_n 0, 1) := by decide +kernel
theorem dX8_whole_13 : decode cX8_whole 13 = .ok (.getfield 32, 3) := by decide +kernel
theorem dX8_whole_16 : decode cX8_whole 16 = .ok (.aload_n 0, 1) := by decide +kernel
theorem dX8_whole_17 : decode cX8_whole 17 = .ok (.getfield 129, 3) := by decide +kernel
theorem dX8_whole_20 : decode cX8_whole 20 = .ok (.iconst 1, 1) := by decide +kernel
theorem dX8_whole_21 : decode cX8_whole 21 = .ok (.isub, 1) := by decide +kernel
theorem dX8_whole_22 : decode cX8_whole 22 = .ok (.iaload, 1) := by decide +kernel
theorem dX8_whole_23 : decode cX8_whole 23 = .ok (.iconst 2, 1) := by decide +kernel
theorem dX8_whole_24 : decode cX8_whole 24 = .ok (.if_icmp .ne 32, 3) := by decide +kernel
theorem dX8_whole_27 : decode cX8_whole 27 = .ok (.aload_n 0, 1) := by decide +kernel
theorem dX8_whole_28 : decode cX8_whole 28 = .ok (.dup, 1) := by decide +kernel
theorem dX8_whole_29 : decode cX8_whole 29 = .ok (.getfield 129, 3) := by decide +kernel
theorem dX8_whole_32 : decode cX8_whole 32 = .ok (.iconst 1, 1) := by decide +kernel
theorem dX8_whole_33 : decode cX8_whole 33 = .ok (.isub, 1) := by decide +kernel
theorem dX8_whole_34 : decode cX8_whole 34 = .ok (.putfield 129, 3) := by decide +kernel
theorem dX8_whole_37 : decode cX8_whole 37 = .ok (.aload_n 0, 1) := by decide +kernel
theorem dX8_whole_38 : decode cX8_whole 38 = .ok (.dup, 1) := by decide +kernel
theorem dX8_whole_39 : decode cX8_whole 39 = .ok (.getfield 136, 3) := by decide +kernel
theorem dX8_whole_42 : decode cX8_whole 42 = .ok (.iconst 1, 1) := by decide +kernel
theorem dX8_whole_43 : decode cX8_whole 43 = .ok (.isub, 1) := by decide +kernel
theorem dX8_whole_44 : decode cX8_whole 44 = .ok (.putfield 136, 3) := by decide +kernel
theorem dX8_whole_47 : decode cX8_whole 47 = .ok (.aload_n 0, 1) := by decide +kernel
theorem dX8_whole_48 : decode cX8_whole 48 = .ok (.iconst 2, 1) := by decide +kernel
theorem dX8_whole_49 : decode cX8_whole 49 = .ok (.iconst 0, 1) := by decide +kernel
theorem dX8_whole_50 : decode cX8_whole 50 = .ok (.invokevirtual 139, 3) := by decide +kernel
theorem dX8_whole_53 : decode cX8_whole 53 = .ok (.goto (-48), 3) := by decide +kernel
theorem dX8_whole_56 : decode cX8_whole 56 = .ok (.return_, 1) := by decide +kernel
theorem dX8_settle_0 : decode cX8_settle 0 = .ok (.aload_n 0, 1) := by decide +kernel
theorem dX8_settle_1 : decode cX8_settle 1 = .ok (.getfield 129, 3) := by decide +kernel
theorem dX8_settle_4 : decode cX8_settle 4 = .ok (.ifCond .le 61, 3) := by decide +kernel
theorem dX8_settle_7 : decode cX8_settle 7 = .ok (.aload_n 0, 1) := by decide +kernel
theorem dX8_settle_8 : decode cX8_settle 8 = .ok (.getfield 32, 3) := by decide +kernel
theorem dX8_settle_11 : decode cX8_settle 11 = .ok (.aload_n 0, 1) := by decide +kernel
theorem dX8_settle_12 : decode cX8_settle 12 = .ok (.getfield 129, 3) := by decide +kernel
theorem dX8_settle_15 : decode cX8_settle 15 = .ok (.iconst 1, 1) := by decide +kernel
theorem dX8_settle_16 : decode cX8_settle 16 = .ok (.isub, 1) := by decide +kernel
theorem dX8_settle_17 : decode cX8_settle 17 = .ok (.iaload, 1) := by decide +kernel
theorem dX8_settle_18 : decode cX8_settle 18 = .ok (.bipush 40, 2) := by decide +kernel
theorem dX8_settle_20 : decode cX8_settle 20 = .ok (.if_icmp .ge 45, 3) := by decide +kernel
theorem dX8_settle_23 : decode cX8_settle 23 = .ok (.aload_n 0, 1) := by decide +kernel
theorem dX8_settle_24 : decode cX8_settle 24 = .ok (.getfield 32, 3) := by decide +kernel
theorem dX8_settle_27 : decode cX8_settle 27 = .ok (.aload_n 0, 1) := by decide +kernel
theorem dX8_settle_28 : decode cX8_settle 28 = .ok (.getfield 129, 3) := by decide +kernel
theorem dX8_settle_31 : decode cX8_settle 31 = .ok (.iconst 1, 1) := by decide +kernel
theorem dX8_settle_32 : decode cX8_settle 32 = .ok (.isub, 1) := by decide +kernel
theorem dX8_settle_33 : decode cX8_settle 33 = .ok (.iaload, 1) := by decide +kernel
theorem dX8_settle_34 : decode cX8_settle 34 = .ok (.iload_n 1, 1) := by decide +kernel
theorem dX8_settle_35 : decode cX8_settle 35 = .ok (.if_icmp .lt 30, 3) := by decide +kernel
theorem dX8_settle_38 : decode cX8_settle 38 = .ok (.aload_n 0, 1) := by decide +kernel
theorem dX8_settle_39 : decode cX8_settle 39 = .ok (.dup, 1) := by decide +kernel
theorem dX8_settle_40 : decode cX8_settle 40 = .ok (.getfield 129, 3) := by decide +kernel
theorem dX8_settle_43 : decode cX8_settle 43 = .ok (.iconst 1, 1) := by decide +kernel
theorem dX8_settle_44 : decode cX8_settle 44 = .ok (.isub, 1) := by decide +kernel
theorem dX8_settle_45 : decode cX8_settle 45 = .ok (.putfield 129, 3) := by decide +kernel
theorem dX8_settle_48 : decode cX8_settle 48 = .ok (.aload_n 0, 1) := by decide +kernel
theorem dX8_settle_49 : decode cX8_settle 49 = .ok (.aload_n 0, 1) := by decide +kernel
theorem dX8_settle_50 : decode cX8_settle 50 = .ok (.getfield 32, 3) := by decide +kernel
theorem dX8_settle_53 : decode cX8_settle 53 = .ok (.aload_n 0, 1) := by decide +kernel
theorem dX8_settle_54 : decode cX8_settle 54 = .ok (.getfield 129, 3) := by decide +kernel
theorem dX8_settle_57 : decode cX8_settle 57 = .ok (.iaload, 1) := by decide +kernel
theorem dX8_settle_58 : decode cX8_settle 58 = .ok (.iconst 0, 1) := by decide +kernel
theorem dX8_settle_59 : decode cX8_settle 59 = .ok (.invokevirtual 139, 3) := by decide +kernel
theorem dX8_settle_62 : decode cX8_settle 62 = .ok (.goto (-62), 3) := by decide +kernel
theorem dX8_settle_65 : decode cX8_settle 65 = .ok (.return_, 1) := by decide +kernel
theorem dX8_nameOf_0 : decode cX8_nameOf 0 = .ok (.aload_n 0, 1) := by decide +kernel
theorem dX8_nameOf_1 : decode cX8_nameOf 1 = .ok (.getfield 97, 3) := by decide +kernel
theorem dX8_nameOf_4 : decode cX8_nameOf 4 = .ok (.iconst 2, 1) := by decide +kernel
theorem dX8_nameOf_5 : decode cX8_nameOf 5 = .ok (.if_icmp .eq 5, 3) := by decide +kernel
theorem dX8_nameOf_8 : decode cX8_nameOf 8 = .ok (.iconst (-1), 1) := by decide +kernel
theorem dX8_nameOf_9 : decode cX8_nameOf 9 = .ok (.ireturn, 1) := by decide +kernel
theorem dX8_nameOf_10 : decode cX8_nameOf 10 = .ok (.aload_n 0, 1) := by decide +kernel
theorem dX8_nameOf_11 : decode cX8_nameOf 11 = .ok (.getfield 111, 3) := by decide +kernel
theorem dX8_nameOf_14 : decode cX8_nameOf 14 = .ok (.bipush 101, 2) := by decide +kernel
theorem dX8_nameOf_16 : decode cX8_nameOf 16 = .ok (.bipush 121, 2) := by decide +kernel
theorem dX8_nameOf_18 : decode cX8_nameOf 18 = .ok (.bipush 101, 2) := by decide +kernel
theorem dX8_nameOf_20 : decode cX8_nameOf 20 = .ok (.invokestatic 115, 3) := by decide +kernel
theorem dX8_nameOf_23 : decode cX8_nameOf 23 = .ok (.lcmp, 1) := by decide +kernel
theorem dX8_nameOf_24 : decode cX8_nameOf 24 = .ok (.ifCond .ne 5, 3) := by decide +kernel
theorem dX8_nameOf_27 : decode cX8_nameOf 27 = .ok (.iconst 0, 1) := by decide +kernel
theorem dX8_nameOf_28 : decode cX8_nameOf 28 = .ok (.ireturn, 1) := by decide +kernel
theorem dX8_nameOf_29 : decode cX8_nameOf 29 = .ok (.aload_n 0, 1) := by decide +kernel
theorem dX8_nameOf_30 : decode cX8_nameOf 30 = .ok (.getfield 111, 3) := by decide +kernel
theorem dX8_nameOf_33 : decode cX8_nameOf 33 = .ok (.bipush 99, 2) := by decide +kernel
theorem dX8_nameOf_35 : decode cX8_nameOf 35 = .ok (.bipush 111, 2) := by decide +kernel
theorem dX8_nameOf_37 : decode cX8_nameOf 37 = .ok (.bipush 108, 2) := by decide +kernel
theorem dX8_nameOf_39 : decode cX8_nameOf 39 = .ok (.bipush 111, 2) := by decide +kernel
theorem dX8_nameOf_41 : decode cX8_nameOf 41 = .ok (.bipush 117, 2) := by decide +kernel
theorem dX8_nameOf_43 : decode cX8_nameOf 43 = .ok (.bipush 114, 2) := by decide +kernel
theorem dX8_nameOf_45 : decode cX8_nameOf 45 = .ok (.invokestatic 143, 3) := by decide +kernel
theorem dX8_nameOf_48 : decode cX8_nameOf 48 = .ok (.lcmp, 1) := by decide +kernel
theorem dX8_nameOf_49 : decode cX8_nameOf 49 = .ok (.ifCond .ne 5, 3) := by decide +kernel
theorem dX8_nameOf_52 : decode cX8_nameOf 52 = .ok (.iconst 1, 1) := by decide +kernel
theorem dX8_nameOf_53 : decode cX8_nameOf 53 = .ok (.ireturn, 1) := by decide +kernel
theorem dX8_nameOf_54 : decode cX8_nameOf 54 = .ok (.aload_n 0, 1) := by decide +kernel
theorem dX8_nameOf_55 : decode cX8_nameOf 55 = .ok (.getfield 111, 3) := by decide +kernel
theorem dX8_nameOf_58 : decode cX8_nameOf 58 = .ok (.bipush 99, 2) := by decide +kernel
theorem dX8_nameOf_60 : decode cX8_nameOf 60 = .ok (.bipush 104, 2) := by decide +kernel
theorem dX8_nameOf_62 : decode cX8_nameOf 62 = .ok (.bipush 105, 2) := by decide +kernel
theorem dX8_nameOf_64 : decode cX8_nameOf 64 = .ok (.invokestatic 115, 3) := by decide +kernel
theorem dX8_nameOf_67 : decode cX8_nameOf 67 = .ok (.bipush 32, 2) := by decide +kernel
theorem dX8_nameOf_69 : decode cX8_nameOf 69 = .ok (.lshl, 1) := by decide +kernel
theorem dX8_nameOf_70 : decode cX8_nameOf 70 = .ok (.bipush 112, 2) := by decide +kernel
theorem dX8_nameOf_72 : decode cX8_nameOf 72 = .ok (.bipush 112, 2) := by decide +kernel
theorem dX8_nameOf_74 : decode cX8_nameOf 74 = .ok (.bipush 101, 2) := by decide +kernel
theorem dX8_nameOf_76 : decode cX8_nameOf 76 = .ok (.bipush 100, 2) := by decide +kernel
theorem dX8_nameOf_78 : decode cX8_nameOf 78 = .ok (.invokestatic 147, 3) := by decide +kernel
theorem dX8_nameOf_81 : decode cX8_nameOf 81 = .ok (.lor, 1) := by decide +kernel
theorem dX8_nameOf_82 : decode cX8_nameOf 82 = .ok (.lcmp, 1) := by decide +kernel
theorem dX8_nameOf_83 : decode cX8_nameOf 83 = .ok (.ifCond .ne 5, 3) := by decide +kernel
theorem dX8_nameOf_86 : decode cX8_nameOf 86 = .ok (.iconst 2, 1) := by decide +kernel
theorem dX8_nameOf_87 : decode cX8_nameOf 87 = .ok (.ireturn, 1) := by decide +kernel
theorem dX8_nameOf_88 : decode cX8_nameOf 88 = .ok (.aload_n 0, 1) := by decide +kernel
theorem dX8_nameOf_89 : decode cX8_nameOf 89 = .ok (.getfield 111, 3) := by decide +kernel
theorem dX8_nameOf_92 : decode cX8_nameOf 92 = .ok (.bipush 104, 2) := by decide +kernel
theorem dX8_nameOf_94 : decode cX8_nameOf 94 = .ok (.bipush 111, 2) := by decide +kernel
theorem dX8_nameOf_96 : decode cX8_nameOf 96 = .ok (.bipush 117, 2) := by decide +kernel
theorem dX8_nameOf_98 : decode cX8_nameOf 98 = .ok (.bipush 114, 2) := by decide +kernel
theorem dX8_nameOf_100 : decode cX8_nameOf 100 = .ok (.invokestatic 147, 3) := by decide +kernel
theorem dX8_nameOf_103 : decode cX8_nameOf 103 = .ok (.lcmp, 1) := by decide +kernel
theorem dX8_nameOf_104 : decode cX8_nameOf 104 = .ok (.ifCond .ne 5, 3) := by decide +kernel
theorem dX8_nameOf_107 : decode cX8_nameOf 107 = .ok (.iconst 3, 1) := by decide +kernel
theorem dX8_nameOf_108 : decode cX8_nameOf 108 = .ok (.ireturn, 1) := by decide +kernel
theorem dX8_nameOf_109 : decode cX8_nameOf 109 = .ok (.aload_n 0, 1) := by decide +kernel
theorem dX8_nameOf_110 : decode cX8_nameOf 110 = .ok (.getfield 111, 3) := by decide +kernel
theorem dX8_nameOf_113 : decode cX8_nameOf 113 = .ok (.bipush 115, 2) := by decide +kernel
theorem dX8_nameOf_115 : decode cX8_nameOf 115 = .ok (.bipush 105, 2) := by decide +kernel
theorem dX8_nameOf_117 : decode cX8_nameOf 117 = .ok (.bipush 110, 2) := by decide +kernel
theorem dX8_nameOf_119 : decode cX8_nameOf 119 = .ok (.bipush 99, 2) := by decide +kernel
theorem dX8_nameOf_121 : decode cX8_nameOf 121 = .ok (.bipush 101, 2) := by decide +kernel
theorem dX8_nameOf_123 : decode cX8_nameOf 123 = .ok (.invokestatic 119, 3) := by decide +kernel
theorem dX8_nameOf_126 : decode cX8_nameOf 126 = .ok (.lcmp, 1) := by decide +kernel
theorem dX8_nameOf_127 : decode cX8_nameOf 127 = .ok (.ifCond .ne 5, 3) := by decide +kernel
theorem dX8_nameOf_130 : decode cX8_nameOf 130 = .ok (.iconst 4, 1) := by decide +kernel
theorem dX8_nameOf_131 : decode cX8_nameOf 131 = .ok (.ireturn, 1) := by decide +kernel
theorem dX8_nameOf_132 : decode cX8_nameOf 132 = .ok (.aload_n 0, 1) := by decide +kernel
theorem dX8_nameOf_133 : decode cX8_nameOf 133 = .ok (.getfield 111, 3) := by decide +kernel
theorem dX8_nameOf_136 : decode cX8_nameOf 136 = .ok (.bipush 109, 2) := by decide +kernel
theorem dX8_nameOf_138 : decode cX8_nameOf 138 = .ok (.bipush 97, 2) := by decide +kernel
theorem dX8_nameOf_140 : decode cX8_nameOf 140 = .ok (.bipush 110, 2) := by decide +kernel
theorem dX8_nameOf_142 : decode cX8_nameOf 142 = .ok (.bipush 121, 2) := by decide +kernel
theorem dX8_nameOf_144 : decode cX8_nameOf 144 = .ok (.invokestatic 147, 3) := by decide +kernel
theorem dX8_nameOf_147 : decode cX8_nameOf 147 = .ok (.lcmp, 1) := by decide +kernel
theorem dX8_nameOf_148 : decode cX8_nameOf 148 = .ok (.ifCond .ne 5, 3) := by decide +kernel
theorem dX8_nameOf_151 : decode cX8_nameOf 151 = .ok (.iconst 5, 1) := by decide +kernel
theorem dX8_nameOf_152 : decode cX8_nameOf 152 = .ok (.ireturn, 1) := by decide +kernel
theorem dX8_nameOf_153 : decode cX8_nameOf 153 = .ok (.aload_n 0, 1) := by decide +kernel
theorem dX8_nameOf_154 : decode cX8_nameOf 154 = .ok (.getfield 111, 3) := by decide +kernel
theorem dX8_nameOf_157 : decode cX8_nameOf 157 = .ok (.bipush 116, 2) := by decide +kernel
theorem dX8_nameOf_159 : decode cX8_nameOf 159 = .ok (.bipush 104, 2) := by decide +kernel
theorem dX8_nameOf_161 : decode cX8_nameOf 161 = .ok (.bipush 105, 2) := by decide +kernel
theorem dX8_nameOf_163 : decode cX8_nameOf 163 = .ok (.bipush 110, 2) := by decide +kernel
theorem dX8_nameOf_165 : decode cX8_nameOf 165 = .ok (.bipush 103, 2) := by decide +kernel
theorem dX8_nameOf_167 : decode cX8_nameOf 167 = .ok (.invokestatic 119, 3) := by decide +kernel
theorem dX8_nameOf_170 : decode cX8_nameOf 170 = .ok (.lcmp, 1) := by decide +kernel
theorem dX8_nameOf_171 : decode cX8_nameOf 171 = .ok (.ifCond .ne 6, 3) := by decide +kernel
theorem dX8_nameOf_174 : decode cX8_nameOf 174 = .ok (.bipush 6, 2) := by decide +kernel
theorem dX8_nameOf_176 : decode cX8_nameOf 176 = .ok (.ireturn, 1) := by decide +kernel
theorem dX8_nameOf_177 : decode cX8_nameOf 177 = .ok (.aload_n 0, 1) := by decide +kernel
theorem dX8_nameOf_178 : decode cX8_nameOf 178 = .ok (.getfield 111, 3) := by decide +kernel
theorem dX8_nameOf_181 : decode cX8_nameOf 181 = .ok (.bipush 107, 2) := by decide +kernel
theorem dX8_nameOf_183 : decode cX8_nameOf 183 = .ok (.bipush 105, 2) := by decide +kernel
theorem dX8_nameOf_185 : decode cX8_nameOf 185 = .ok (.bipush 110, 2) := by decide +kernel
theorem dX8_nameOf_187 : decode cX8_nameOf 187 = .ok (.bipush 100, 2) := by decide +kernel
theorem dX8_nameOf_189 : decode cX8_nameOf 189 = .ok (.invokestatic 147, 3) := by decide +kernel
theorem dX8_nameOf_192 : decode cX8_nameOf 192 = .ok (.lcmp, 1) := by decide +kernel
theorem dX8_nameOf_193 : decode cX8_nameOf 193 = .ok (.ifCond .ne 8, 3) := by decide +kernel
theorem dX8_nameOf_196 : decode cX8_nameOf 196 = .ok (.bipush 7, 2) := by decide +kernel
theorem dX8_nameOf_198 : decode cX8_nameOf 198 = .ok (.goto 26, 3) := by decide +kernel
theorem dX8_nameOf_201 : decode cX8_nameOf 201 = .ok (.aload_n 0, 1) := by decide +kernel
theorem dX8_nameOf_202 : decode cX8_nameOf 202 = .ok (.getfield 111, 3) := by decide +kernel
theorem dX8_nameOf_205 : decode cX8_nameOf 205 = .ok (.bipush 119, 2) := by decide +kernel
theorem dX8_nameOf_207 : decode cX8_nameOf 207 = .ok (.bipush 104, 2) := by decide +kernel
theorem dX8_nameOf_209 : decode cX8_nameOf 209 = .ok (.bipush 111, 2) := by decide +kernel
theorem dX8_nameOf_211 : decode cX8_nameOf 211 = .ok (.invokestatic 115, 3) := by decide +kernel
theorem dX8_nameOf_214 : decode cX8_nameOf 214 = .ok (.lcmp, 1) := by decide +kernel
theorem dX8_nameOf_215 : decode cX8_nameOf 215 = .ok (.ifCond .ne 8, 3) := by decide +kernel
theorem dX8_nameOf_218 : decode cX8_nameOf 218 = .ok (.bipush 8, 2) := by decide +kernel
theorem dX8_nameOf_220 : decode cX8_nameOf 220 = .ok (.goto 4, 3) := by decide +kernel
theorem dX8_nameOf_223 : decode cX8_nameOf 223 = .ok (.iconst (-1), 1) := by decide +kernel
theorem dX8_nameOf_224 : decode cX8_nameOf 224 = .ok (.ireturn, 1) := by decide +kernel
theorem dX8_isBarred_0 : decode cX8_isBarred 0 = .ok (.iload_n 1, 1) := by decide +kernel
theorem dX8_isBarred_1 : decode cX8_isBarred 1 = .ok (.iconst 5, 1) := by decide +kernel
theorem dX8_isBarred_2 : decode cX8_isBarred 2 = .ok (.if_icmp .le 15, 3) := by decide +kernel
theorem dX8_isBarred_5 : decode cX8_isBarred 5 = .ok (.aload_n 0, 1) := by decide +kernel
theorem dX8_isBarred_6 : decode cX8_isBarred 6 = .ok (.getfield 151, 3) := by decide +kernel
theorem dX8_isBarred_9 : decode cX8_isBarred 9 = .ok (.iconst 1, 1) := by decide +kernel
theorem dX8_isBarred_10 : decode cX8_isBarred 10 = .ok (.if_icmp .ne 7, 3) := by decide +kernel
theorem dX8_isBarred_13 : decode cX8_isBarred 13 = .ok (.iconst 1, 1) := by decide +kernel
theorem dX8_isBarred_14 : decode cX8_isBarred 14 = .ok (.goto 4, 3) := by decide +kernel
theorem dX8_isBarred_17 : decode cX8_isBarred 17 = .ok (.iconst 0, 1) := by decide +kernel
theorem dX8_isBarred_18 : decode cX8_isBarred 18 = .ok (.ireturn, 1) := by decide +kernel
theorem dX8_beginOne_0 : decode cX8_beginOne 0 = .ok (.aload_n 0, 1) := by decide +kernel
theorem dX8_beginOne_1 : decode cX8_beginOne 1 = .ok (.getfield 97, 3) := by decide +kernel
theorem dX8_beginOne_4 : decode cX8_beginOne 4 = .ok (.iconst 1, 1) := by decide +kernel
theorem dX8_beginOne_5 : decode cX8_beginOne 5 = .ok (.if_icmp .ne 34, 3) := by decide +kernel
theorem dX8_beginOne_8 : decode cX8_beginOne 8 = .ok (.aload_n 0, 1) := by decide +kernel
theorem dX8_beginOne_9 : decode cX8_beginOne 9 = .ok (.getfield 104, 3) := by decide +kernel
theorem dX8_beginOne_12 : decode cX8_beginOne 12 = .ok (.sipush 9999, 3) := by decide +kernel
theorem dX8_beginOne_15 : decode cX8_beginOne 15 = .ok (.if_icmp .le 5, 3) := by decide +kernel
theorem dX8_beginOne_18 : decode cX8_beginOne 18 = .ok (.iconst 2, 1) := by decide +kernel
theorem dX8_beginOne_19 : decode cX8_beginOne 19 = .ok (.ireturn, 1) := by decide +kernel
theorem dX8_beginOne_20 : decode cX8_beginOne 20 = .ok (.aload_n 0, 1) := by decide +kernel
theorem dX8_beginOne_21 : decode cX8_beginOne 21 = .ok (.iconst 0, 1) := by decide +kernel
theorem dX8_beginOne_22 : decode cX8_beginOne 22 = .ok (.aload_n 0, 1) := by decide +kernel
theorem dX8_beginOne_23 : decode cX8_beginOne 23 = .ok (.getfield 104, 3) := by decide +kernel
theorem dX8_beginOne_26 : decode cX8_beginOne 26 = .ok (.invokevirtual 139, 3) := by decide +kernel
theorem dX8_beginOne_29 : decode cX8_beginOne 29 = .ok (.aload_n 0, 1) := by decide +kernel
theorem dX8_beginOne_30 : decode cX8_beginOne 30 = .ok (.invokevirtual 154, 3) := by decide +kernel
theorem dX8_beginOne_33 : decode cX8_beginOne 33 = .ok (.aload_n 0, 1) := by decide +kernel
theorem dX8_beginOne_34 : decode cX8_beginOne 34 = .ok (.invokevirtual 157, 3) := by decide +kernel
theorem dX8_beginOne_37 : decode cX8_beginOne 37 = .ok (.iconst 0, 1) := by decide +kernel
theorem dX8_beginOne_38 : decode cX8_beginOne 38 = .ok (.ireturn, 1) := by decide +kernel
theorem dX8_beginOne_39 : decode cX8_beginOne 39 = .ok (.aload_n 0, 1) := by decide +kernel
theorem dX8_beginOne_40 : decode cX8_beginOne 40 = .ok (.invokevirtual 160, 3) := by decide +kernel
theorem dX8_beginOne_43 : decode cX8_beginOne 43 = .ok (.ifCond .lt 35, 3) := by decide +kernel
theorem dX8_beginOne_46 : decode cX8_beginOne 46 = .ok (.aload_n 0, 1) := by decide +kernel
theorem dX8_beginOne_47 : decode cX8_beginOne 47 = .ok (.aload_n 0, 1) := by decide +kernel
theorem dX8_beginOne_48 : decode cX8_beginOne 48 = .ok (.invokevirtual 160, 3) := by decide +kernel
theorem dX8_beginOne_51 : decode cX8_beginOne 51 = .ok (.invokevirtual 164, 3) := by decide +kernel
theorem dX8_beginOne_54 : decode cX8_beginOne 54 = .ok (.ifCond .eq 5, 3) := by decide +kernel
theorem dX8_beginOne_57 : decode cX8_beginOne 57 = .ok (.iconst 5, 1) := by decide +kernel
theorem dX8_beginOne_58 : decode cX8_beginOne 58 = .ok (.ireturn, 1) := by decide +kernel
theorem dX8_beginOne_59 : decode cX8_beginOne 59 = .ok (.aload_n 0, 1) := by decide +kernel
theorem dX8_beginOne_60 : decode cX8_beginOne 60 = .ok (.iconst 1, 1) := by decide +kernel
theorem dX8_beginOne_61 : decode cX8_beginOne 61 = .ok (.aload_n 0, 1) := by decide +kernel
theorem dX8_beginOne_62 : decode cX8_beginOne 62 = .ok (.invokevirtual 160, 3) := by decide +kernel
theorem dX8_beginOne_65 : decode cX8_beginOne 65 = .ok (.invokevirtual 139, 3) := by decide +kernel
theorem dX8_beginOne_68 : decode cX8_beginOne 68 = .ok (.aload_n 0, 1) := by decide +kernel
theorem dX8_beginOne_69 : decode cX8_beginOne 69 = .ok (.invokevirtual 154, 3) := by decide +kernel
theorem dX8_beginOne_72 : decode cX8_beginOne 72 = .ok (.aload_n 0, 1) := by decide +kernel
theorem dX8_beginOne_73 : decode cX8_beginOne 73 = .ok (.invokevirtual 157, 3) := by decide +kernel
theorem dX8_beginOne_76 : decode cX8_beginOne 76 = .ok (.iconst 0, 1) := by decide +kernel
theorem dX8_beginOne_77 : decode cX8_beginOne 77 = .ok (.ireturn, 1) := by decide +kernel
theorem dX8_beginOne_78 : decode cX8_beginOne 78 = .ok (.aload_n 0, 1) := by decide +kernel
theorem dX8_beginOne_79 : decode cX8_beginOne 79 = .ok (.getfield 97, 3) := by decide +kernel
theorem dX8_beginOne_82 : decode cX8_beginOne 82 = .ok (.bipush 40, 2) := by decide +kernel
theorem dX8_beginOne_84 : decode cX8_beginOne 84 = .ok (.if_icmp .ne 8, 3) := by decide +kernel
theorem dX8_beginOne_87 : decode cX8_beginOne 87 = .ok (.bipush 40, 2) := by decide +kernel
theorem dX8_beginOne_89 : decode cX8_beginOne 89 = .ok (.goto 17, 3) := by decide +kernel
theorem dX8_beginOne_92 : decode cX8_beginOne 92 = .ok (.aload_n 0, 1) := by decide +kernel
theorem dX8_beginOne_93 : decode cX8_beginOne 93 = .ok (.getfield 97, 3) := by decide +kernel
theorem dX8_beginOne_96 : decode cX8_beginOne 96 = .ok (.bipush 45, 2) := by decide +kernel
theorem dX8_beginOne_98 : decode cX8_beginOne 98 = .ok (.if_icmp .ne 7, 3) := by decide +kernel
theorem dX8_beginOne_101 : decode cX8_beginOne 101 = .ok (.iconst 2, 1) := by decide +kernel
theorem dX8_beginOne_102 : decode cX8_beginOne 102 = .ok (.goto 4, 3) := by decide +kernel
theorem dX8_beginOne_105 : decode cX8_beginOne 105 = .ok (.iconst 0, 1) := by decide +kernel
theorem dX8_beginOne_106 : decode cX8_beginOne 106 = .ok (.istore_n 1, 1) := by decide +kernel
theorem dX8_beginOne_107 : decode cX8_beginOne 107 = .ok (.iload_n 1, 1) := by decide +kernel
theorem dX8_beginOne_108 : decode cX8_beginOne 108 = .ok (.ifCond .ne 5, 3) := by decide +kernel
theorem dX8_beginOne_111 : decode cX8_beginOne 111 = .ok (.iconst 1, 1) := by decide +kernel
theorem dX8_beginOne_112 : decode cX8_beginOne 112 = .ok (.ireturn, 1) := by decide +kernel
theorem dX8_beginOne_113 : decode cX8_beginOne 113 = .ok (.aload_n 0, 1) := by decide +kernel
theorem dX8_beginOne_114 : decode cX8_beginOne 114 = .ok (.getfield 136, 3) := by decide +kernel
theorem dX8_beginOne_117 : decode cX8_beginOne 117 = .ok (.bipush 8, 2) := by decide +kernel
theorem dX8_beginOne_119 : decode cX8_beginOne 119 = .ok (.if_icmp .ne 5, 3) := by decide +kernel
theorem dX8_beginOne_122 : decode cX8_beginOne 122 = .ok (.iconst 3, 1) := by decide +kernel
theorem dX8_beginOne_123 : decode cX8_beginOne 123 = .ok (.ireturn, 1) := by decide +kernel
theorem dX8_beginOne_124 : decode cX8_beginOne 124 = .ok (.aload_n 0, 1) := by decide +kernel
theorem dX8_beginOne_125 : decode cX8_beginOne 125 = .ok (.dup, 1) := by decide +kernel
theorem dX8_beginOne_126 : decode cX8_beginOne 126 = .ok (.getfield 136, 3) := by decide +kernel
theorem dX8_beginOne_129 : decode cX8_beginOne 129 = .ok (.iconst 1, 1) := by decide +kernel
theorem dX8_beginOne_130 : decode cX8_beginOne 130 = .ok (.iadd, 1) := by decide +kernel
theorem dX8_beginOne_131 : decode cX8_beginOne 131 = .ok (.putfield 136, 3) := by decide +kernel
theorem dX8_beginOne_134 : decode cX8_beginOne 134 = .ok (.aload_n 0, 1) := by decide +kernel
theorem dX8_beginOne_135 : decode cX8_beginOne 135 = .ok (.iload_n 1, 1) := by decide +kernel
theorem dX8_beginOne_136 : decode cX8_beginOne 136 = .ok (.invokevirtual 167, 3) := by decide +kernel
theorem dX8_beginOne_139 : decode cX8_beginOne 139 = .ok (.aload_n 0, 1) := by decide +kernel
theorem dX8_beginOne_140 : decode cX8_beginOne 140 = .ok (.invokevirtual 154, 3) := by decide +kernel
theorem dX8_beginOne_143 : decode cX8_beginOne 143 = .ok (.iconst 0, 1) := by decide +kernel
theorem dX8_beginOne_144 : decode cX8_beginOne 144 = .ok (.ireturn, 1) := by decide +kernel
theorem dX8_hasParen_0 : decode cX8_hasParen 0 = .ok (.iconst 0, 1) := by decide +kernel
theorem dX8_hasParen_1 : decode cX8_hasParen 1 = .ok (.istore_n 1, 1) := by decide +kernel
theorem dX8_hasParen_2 : decode cX8_hasParen 2 = .ok (.iload_n 1, 1) := by decide +kernel
theorem dX8_hasParen_3 : decode cX8_hasParen 3 = .ok (.aload_n 0, 1) := by decide +kernel
theorem dX8_hasParen_4 : decode cX8_hasParen 4 = .ok (.getfield 129, 3) := by decide +kernel
theorem dX8_hasParen_7 : decode cX8_hasParen 7 = .ok (.if_icmp .ge 22, 3) := by decide +kernel
theorem dX8_hasParen_10 : decode cX8_hasParen 10 = .ok (.aload_n 0, 1) := by decide +kernel
theorem dX8_hasParen_11 : decode cX8_hasParen 11 = .ok (.getfield 32, 3) := by decide +kernel
theorem dX8_hasParen_14 : decode cX8_hasParen 14 = .ok (.iload_n 1, 1) := by decide +kernel
theorem dX8_hasParen_15 : decode cX8_hasParen 15 = .ok (.iaload, 1) := by decide +kernel
theorem dX8_hasParen_16 : decode cX8_hasParen 16 = .ok (.bipush 40, 2) := by decide +kernel
theorem dX8_hasParen_18 : decode cX8_hasParen 18 = .ok (.if_icmp .ne 5, 3) := by decide +kernel
theorem dX8_hasParen_21 : decode cX8_hasParen 21 = .ok (.iconst 1, 1) := by decide +kernel
theorem dX8_hasParen_22 : decode cX8_hasParen 22 = .ok (.ireturn, 1) := by decide +kernel
theorem dX8_hasParen_23 : decode cX8_hasParen 23 = .ok (.iinc 1 1, 3) := by decide +kernel
theorem dX8_hasParen_26 : decode cX8_hasParen 26 = .ok (.goto (-24), 3) := by decide +kernel
theorem dX8_hasParen_29 : decode cX8_hasParen 29 = .ok (.iconst 0, 1) := by decide +kernel
theorem dX8_hasParen_30 : decode cX8_hasParen 30 = .ok (.ireturn, 1) := by decide +kernel
theorem dX8_goesOn_0 : decode cX8_goesOn 0 = .ok (.aload_n 0, 1) := by decide +kernel
theorem dX8_goesOn_1 : decode cX8_goesOn 1 = .ok (.getfield 97, 3) := by decide +kernel
theorem dX8_goesOn_4 : decode cX8_goesOn 4 = .ok (.bipush 43, 2) := by decide +kernel
theorem dX8_goesOn_6 : decode cX8_goesOn 6 = .ok (.if_icmp .eq 46, 3) := by decide +kernel
theorem dX8_goesOn_9 : decode cX8_goesOn 9 = .ok (.aload_n 0, 1) := by decide +kernel
theorem dX8_goesOn_10 : decode cX8_goesOn 10 = .ok (.getfield 97, 3) := by decide +kernel
theorem dX8_goesOn_13 : decode cX8_goesOn 13 = .ok (.bipush 45, 2) := by decide +kernel
theorem dX8_goesOn_15 : decode cX8_goesOn 15 = .ok (.if_icmp .eq 37, 3) := by decide +kernel
theorem dX8_goesOn_18 : decode cX8_goesOn 18 = .ok (.aload_n 0, 1) := by decide +kernel
theorem dX8_goesOn_19 : decode cX8_goesOn 19 = .ok (.getfield 97, 3) := by decide +kernel
theorem dX8_goesOn_22 : decode cX8_goesOn 22 = .ok (.bipush 42, 2) := by decide +kernel
theorem dX8_goesOn_24 : decode cX8_goesOn 24 = .ok (.if_icmp .eq 28, 3) := by decide +kernel
theorem dX8_goesOn_27 : decode cX8_goesOn 27 = .ok (.aload_n 0, 1) := by decide +kernel
theorem dX8_goesOn_28 : decode cX8_goesOn 28 = .ok (.getfield 97, 3) := by decide +kernel
theorem dX8_goesOn_31 : decode cX8_goesOn 31 = .ok (.bipush 47, 2) := by decide +kernel
theorem dX8_goesOn_33 : decode cX8_goesOn 33 = .ok (.if_icmp .eq 19, 3) := by decide +kernel
theorem dX8_goesOn_36 : decode cX8_goesOn 36 = .ok (.aload_n 0, 1) := by decide +kernel
theorem dX8_goesOn_37 : decode cX8_goesOn 37 = .ok (.getfield 97, 3) := by decide +kernel
theorem dX8_goesOn_40 : decode cX8_goesOn 40 = .ok (.bipush 41, 2) := by decide +kernel
theorem dX8_goesOn_42 : decode cX8_goesOn 42 = .ok (.if_icmp .ne 14, 3) := by decide +kernel
theorem dX8_goesOn_45 : decode cX8_goesOn 45 = .ok (.aload_n 0, 1) := by decide +kernel
theorem dX8_goesOn_46 : decode cX8_goesOn 46 = .ok (.invokevirtual 170, 3) := by decide +kernel
theorem dX8_goesOn_49 : decode cX8_goesOn 49 = .ok (.ifCond .eq 7, 3) := by decide +kernel
theorem dX8_goesOn_52 : decode cX8_goesOn 52 = .ok (.iconst 1, 1) := by decide +kernel
theorem dX8_goesOn_53 : decode cX8_goesOn 53 = .ok (.goto 4, 3) := by decide +kernel
theorem dX8_goesOn_56 : decode cX8_goesOn 56 = .ok (.iconst 0, 1) := by decide +kernel
theorem dX8_goesOn_57 : decode cX8_goesOn 57 = .ok (.ireturn, 1) := by decide +kernel
theorem dX8_behindOne_0 : decode cX8_behindOne 0 = .ok (.aload_n 0, 1) := by decide +kernel
theorem dX8_behindOne_1 : decode cX8_behindOne 1 = .ok (.getfield 97, 3) := by decide +kernel
theorem dX8_behindOne_4 : decode cX8_behindOne 4 = .ok (.istore_n 1, 1) := by decide +kernel
theorem dX8_behindOne_5 : decode cX8_behindOne 5 = .ok (.iload_n 1, 1) := by decide +kernel
theorem dX8_behindOne_6 : decode cX8_behindOne 6 = .ok (.bipush 43, 2) := by decide +kernel
theorem dX8_behindOne_8 : decode cX8_behindOne 8 = .ok (.if_icmp .eq 9, 3) := by decide +kernel
theorem dX8_behindOne_11 : decode cX8_behindOne 11 = .ok (.iload_n 1, 1) := by decide +kernel
theorem dX8_behindOne_12 : decode cX8_behindOne 12 = .ok (.bipush 45, 2) := by decide +kernel
theorem dX8_behindOne_14 : decode cX8_behindOne 14 = .ok (.if_icmp .ne 31, 3) := by decide +kernel
theorem dX8_behindOne_17 : decode cX8_behindOne 17 = .ok (.aload_n 0, 1) := by decide +kernel
theorem dX8_behindOne_18 : decode cX8_behindOne 18 = .ok (.iconst 3, 1) := by decide +kernel
theorem dX8_behindOne_19 : decode cX8_behindOne 19 = .ok (.invokevirtual 174, 3) := by decide +kernel
theorem dX8_behindOne_22 : decode cX8_behindOne 22 = .ok (.aload_n 0, 1) := by decide +kernel
theorem dX8_behindOne_23 : decode cX8_behindOne 23 = .ok (.iload_n 1, 1) := by decide +kernel
theorem dX8_behindOne_24 : decode cX8_behindOne 24 = .ok (.bipush 43, 2) := by decide +kernel
theorem dX8_behindOne_26 : decode cX8_behindOne 26 = .ok (.if_icmp .ne 7, 3) := by decide +kernel
theorem dX8_behindOne_29 : decode cX8_behindOne 29 = .ok (.iconst 3, 1) := by decide +kernel
theorem dX8_behindOne_30 : decode cX8_behindOne 30 = .ok (.goto 4, 3) := by decide +kernel
theorem dX8_behindOne_33 : decode cX8_behindOne 33 = .ok (.iconst 4, 1) := by decide +kernel
theorem dX8_behindOne_34 : decode cX8_behindOne 34 = .ok (.invokevirtual 167, 3) := by decide +kernel
theorem dX8_behindOne_37 : decode cX8_behindOne 37 = .ok (.aload_n 0, 1) := by decide +kernel
theorem dX8_behindOne_38 : decode cX8_behindOne 38 = .ok (.iconst 0, 1) := by decide +kernel
theorem dX8_behindOne_39 : decode cX8_behindOne 39 = .ok (.putfield 132, 3) := by decide +kernel
theorem dX8_behindOne_42 : decode cX8_behindOne 42 = .ok (.goto 73, 3) := by decide +kernel
theorem dX8_behindOne_45 : decode cX8_behindOne 45 = .ok (.iload_n 1, 1) := by decide +kernel
theorem dX8_behindOne_46 : decode cX8_behindOne 46 = .ok (.bipush 42, 2) := by decide +kernel
theorem dX8_behindOne_48 : decode cX8_behindOne 48 = .ok (.if_icmp .eq 9, 3) := by decide +kernel
theorem dX8_behindOne_51 : decode cX8_behindOne 51 = .ok (.iload_n 1, 1) := by decide +kernel
theorem dX8_behindOne_52 : decode cX8_behindOne 52 = .ok (.bipush 47, 2) := by decide +kernel
theorem dX8_behindOne_54 : decode cX8_behindOne 54 = .ok (.if_icmp .ne 32, 3) := by decide +kernel
theorem dX8_behindOne_57 : decode cX8_behindOne 57 = .ok (.aload_n 0, 1) := by decide +kernel
theorem dX8_behindOne_58 : decode cX8_behindOne 58 = .ok (.iconst 5, 1) := by decide +kernel
theorem dX8_behindOne_59 : decode cX8_behindOne 59 = .ok (.invokevirtual 174, 3) := by decide +kernel
theorem dX8_behindOne_62 : decode cX8_behindOne 62 = .ok (.aload_n 0, 1) := by decide +kernel
theorem dX8_behindOne_63 : decode cX8_behindOne 63 = .ok (.iload_n 1, 1) := by decide +kernel
theorem dX8_behindOne_64 : decode cX8_behindOne 64 = .ok (.bipush 42, 2) := by decide +kernel
theorem dX8_behindOne_66 : decode cX8_behindOne 66 = .ok (.if_icmp .ne 7, 3) := by decide +kernel
theorem dX8_behindOne_69 : decode cX8_behindOne 69 = .ok (.iconst 5, 1) := by decide +kernel
theorem dX8_behindOne_70 : decode cX8_behindOne 70 = .ok (.goto 5, 3) := by decide +kernel
theorem dX8_behindOne_73 : decode cX8_behindOne 73 = .ok (.bipush 6, 2) := by decide +kernel
theorem dX8_behindOne_75 : decode cX8_behindOne 75 = .ok (.invokevirtual 167, 3) := by decide +kernel
theorem dX8_behindOne_78 : decode cX8_behindOne 78 = .ok (.aload_n 0, 1) := by decide +kernel
theorem dX8_behindOne_79 : decode cX8_behindOne 79 = .ok (.iconst 0, 1) := by decide +kernel
theorem dX8_behindOne_80 : decode cX8_behindOne 80 = .ok (.putfield 132, 3) := by decide +kernel
theorem dX8_behindOne_83 : decode cX8_behindOne 83 = .ok (.goto 32, 3) := by decide +kernel
theorem dX8_behindOne_86 : decode cX8_behindOne 86 = .ok (.aload_n 0, 1) := by decide +kernel
theorem dX8_behindOne_87 : decode cX8_behindOne 87 = .ok (.iconst 3, 1) := by decide +kernel
theorem dX8_behindOne_88 : decode cX8_behindOne 88 = .ok (.invokevirtual 174, 3) := by decide +kernel
theorem dX8_behindOne_91 : decode cX8_behindOne 91 = .ok (.aload_n 0, 1) := by decide +kernel
theorem dX8_behindOne_92 : decode cX8_behindOne 92 = .ok (.dup, 1) := by decide +kernel
theorem dX8_behindOne_93 : decode cX8_behindOne 93 = .ok (.getfield 129, 3) := by decide +kernel
theorem dX8_behindOne_96 : decode cX8_behindOne 96 = .ok (.iconst 1, 1) := by decide +kernel
theorem dX8_behindOne_97 : decode cX8_behindOne 97 = .ok (.isub, 1) := by decide +kernel
theorem dX8_behindOne_98 : decode cX8_behindOne 98 = .ok (.putfield 129, 3) := by decide +kernel
theorem dX8_behindOne_101 : decode cX8_behindOne 101 = .ok (.aload_n 0, 1) := by decide +kernel
theorem dX8_behindOne_102 : decode cX8_behindOne 102 = .ok (.dup, 1) := by decide +kernel
theorem dX8_behindOne_103 : decode cX8_behindOne 103 = .ok (.getfield 136, 3) := by decide +kernel
theorem dX8_behindOne_106 : decode cX8_behindOne 106 = .ok (.iconst 1, 1) := by decide +kernel
theorem dX8_behindOne_107 : decode cX8_behindOne 107 = .ok (.isub, 1) := by decide +kernel
theorem dX8_behindOne_108 : decode cX8_behindOne 108 = .ok (.putfield 136, 3) := by decide +kernel
theorem dX8_behindOne_111 : decode cX8_behindOne 111 = .ok (.aload_n 0, 1) := by decide +kernel
theorem dX8_behindOne_112 : decode cX8_behindOne 112 = .ok (.invokevirtual 157, 3) := by decide +kernel
theorem dX8_behindOne_115 : decode cX8_behindOne 115 = .ok (.aload_n 0, 1) := by decide +kernel
theorem dX8_behindOne_116 : decode cX8_behindOne 116 = .ok (.invokevirtual 154, 3) := by decide +kernel
theorem dX8_behindOne_119 : decode cX8_behindOne 119 = .ok (.iconst 0, 1) := by decide +kernel
theorem dX8_behindOne_120 : decode cX8_behindOne 120 = .ok (.ireturn, 1) := by decide +kernel
theorem dX8_summed_0 : decode cX8_summed 0 = .ok (.aload_n 0, 1) := by decide +kernel
theorem dX8_summed_1 : decode cX8_summed 1 = .ok (.iconst 0, 1) := by decide +kernel
theorem dX8_summed_2 : decode cX8_summed 2 = .ok (.putfield 129, 3) := by decide +kernel
theorem dX8_summed_5 : decode cX8_summed 5 = .ok (.aload_n 0, 1) := by decide +kernel
theorem dX8_summed_6 : decode cX8_summed 6 = .ok (.iconst 0, 1) := by decide +kernel
theorem dX8_summed_7 : decode cX8_summed 7 = .ok (.putfield 132, 3) := by decide +kernel
theorem dX8_summed_10 : decode cX8_summed 10 = .ok (.aload_n 0, 1) := by decide +kernel
theorem dX8_summed_11 : decode cX8_summed 11 = .ok (.getfield 132, 3) := by decide +kernel
theorem dX8_summed_14 : decode cX8_summed 14 = .ok (.ifCond .eq 10, 3) := by decide +kernel
theorem dX8_summed_17 : decode cX8_summed 17 = .ok (.aload_n 0, 1) := by decide +kernel
theorem dX8_summed_18 : decode cX8_summed 18 = .ok (.invokevirtual 177, 3) := by decide +kernel
theorem dX8_summed_21 : decode cX8_summed 21 = .ok (.ifCond .eq 31, 3) := by decide +kernel
theorem dX8_summed_24 : decode cX8_summed 24 = .ok (.aload_n 0, 1) := by decide +kernel
theorem dX8_summed_25 : decode cX8_summed 25 = .ok (.getfield 132, 3) := by decide +kernel
theorem dX8_summed_28 : decode cX8_summed 28 = .ok (.ifCond .eq 10, 3) := by decide +kernel
theorem dX8_summed_31 : decode cX8_summed 31 = .ok (.aload_n 0, 1) := by decide +kernel
theorem dX8_summed_32 : decode cX8_summed 32 = .ok (.invokevirtual 180, 3) := by decide +kernel
theorem dX8_summed_35 : decode cX8_summed 35 = .ok (.goto 7, 3) := by decide +kernel
theorem dX8_summed_38 : decode cX8_summed 38 = .ok (.aload_n 0, 1) := by decide +kernel
theorem dX8_summed_39 : decode cX8_summed 39 = .ok (.invokevirtual 183, 3) := by decide +kernel
theorem dX8_summed_42 : decode cX8_summed 42 = .ok (.istore_n 1, 1) := by decide +kernel
theorem dX8_summed_43 : decode cX8_summed 43 = .ok (.iload_n 1, 1) := by decide +kernel
theorem dX8_summed_44 : decode cX8_summed 44 = .ok (.ifCond .eq 5, 3) := by decide +kernel
theorem dX8_summed_47 : decode cX8_summed 47 = .ok (.iload_n 1, 1) := by decide +kernel
theorem dX8_summed_48 : decode cX8_summed 48 = .ok (.ireturn, 1) := by decide +kernel
theorem dX8_summed_49 : decode cX8_summed 49 = .ok (.goto (-39), 3) := by decide +kernel
theorem dX8_summed_52 : decode cX8_summed 52 = .ok (.aload_n 0, 1) := by decide +kernel
theorem dX8_summed_53 : decode cX8_summed 53 = .ok (.iconst 3, 1) := by decide +kernel
theorem dX8_summed_54 : decode cX8_summed 54 = .ok (.invokevirtual 174, 3) := by decide +kernel
theorem dX8_summed_57 : decode cX8_summed 57 = .ok (.aload_n 0, 1) := by decide +kernel
theorem dX8_summed_58 : decode cX8_summed 58 = .ok (.getfield 129, 3) := by decide +kernel
theorem dX8_summed_61 : decode cX8_summed 61 = .ok (.ifCond .le 7, 3) := by decide +kernel
theorem dX8_summed_64 : decode cX8_summed 64 = .ok (.iconst 1, 1) := by decide +kernel
theorem dX8_summed_65 : decode cX8_summed 65 = .ok (.goto 4, 3) := by decide +kernel
theorem dX8_summed_68 : decode cX8_summed 68 = .ok (.iconst 0, 1) := by decide +kernel
theorem dX8_summed_69 : decode cX8_summed 69 = .ok (.ireturn, 1) := by decide +kernel
theorem dX8_compareOf_0 : decode cX8_compareOf 0 = .ok (.aload_n 0, 1) := by decide +kernel
theorem dX8_compareOf_1 : decode cX8_compareOf 1 = .ok (.getfield 97, 3) := by decide +kernel
theorem dX8_compareOf_4 : decode cX8_compareOf 4 = .ok (.bipush 60, 2) := by decide +kernel
theorem dX8_compareOf_6 : decode cX8_compareOf 6 = .ok (.if_icmp .ne 8, 3) := by decide +kernel
theorem dX8_compareOf_9 : decode cX8_compareOf 9 = .ok (.bipush 10, 2) := by decide +kernel
theorem dX8_compareOf_11 : decode cX8_compareOf 11 = .ok (.goto 72, 3) := by decide +kernel
theorem dX8_compareOf_14 : decode cX8_compareOf 14 = .ok (.aload_n 0, 1) := by decide +kernel
theorem dX8_compareOf_15 : decode cX8_compareOf 15 = .ok (.getfield 97, 3) := by decide +kernel
theorem dX8_compareOf_18 : decode cX8_compareOf 18 = .ok (.iconst 4, 1) := by decide +kernel
theorem dX8_compareOf_19 : decode cX8_compareOf 19 = .ok (.if_icmp .ne 8, 3) := by decide +kernel
theorem dX8_compareOf_22 : decode cX8_compareOf 22 = .ok (.bipush 11, 2) := by decide +kernel
theorem dX8_compareOf_24 : decode cX8_compareOf 24 = .ok (.goto 59, 3) := by decide +kernel
theorem dX8_compareOf_27 : decode cX8_compareOf 27 = .ok (.aload_n 0, 1) := by decide +kernel
theorem dX8_compareOf_28 : decode cX8_compareOf 28 = .ok (.getfield 97, 3) := by decide +kernel
theorem dX8_compareOf_31 : decode cX8_compareOf 31 = .ok (.bipush 62, 2) := by decide +kernel
theorem dX8_compareOf_33 : decode cX8_compareOf 33 = .ok (.if_icmp .ne 8, 3) := by decide +kernel
theorem dX8_compareOf_36 : decode cX8_compareOf 36 = .ok (.bipush 12, 2) := by decide +kernel
theorem dX8_compareOf_38 : decode cX8_compareOf 38 = .ok (.goto 45, 3) := by decide +kernel
theorem dX8_compareOf_41 : decode cX8_compareOf 41 = .ok (.aload_n 0, 1) := by decide +kernel
theorem dX8_compareOf_42 : decode cX8_compareOf 42 = .ok (.getfield 97, 3) := by decide +kernel
theorem dX8_compareOf_45 : decode cX8_compareOf 45 = .ok (.iconst 5, 1) := by decide +kernel
theorem dX8_compareOf_46 : decode cX8_compareOf 46 = .ok (.if_icmp .ne 8, 3) := by decide +kernel
theorem dX8_compareOf_49 : decode cX8_compareOf 49 = .ok (.bipush 13, 2) := by decide +kernel
theorem dX8_compareOf_51 : decode cX8_compareOf 51 = .ok (.goto 32, 3) := by decide +kernel
theorem dX8_compareOf_54 : decode cX8_compareOf 54 = .ok (.aload_n 0, 1) := by decide +kernel
theorem dX8_compareOf_55 : decode cX8_compareOf 55 = .ok (.getfield 97, 3) := by decide +kernel
theorem dX8_compareOf_58 : decode cX8_compareOf 58 = .ok (.bipush 61, 2) := by decide +kernel
theorem dX8_compareOf_60 : decode cX8_compareOf 60 = .ok (.if_icmp .ne 8, 3) := by decide +kernel
theorem dX8_compareOf_63 : decode cX8_compareOf 63 = .ok (.bipush 14, 2) := by decide +kernel
theorem dX8_compareOf_65 : decode cX8_compareOf 65 = .ok (.goto 18, 3) := by decide +kernel
theorem dX8_compareOf_68 : decode cX8_compareOf 68 = .ok (.aload_n 0, 1) := by decide +kernel
theorem dX8_compareOf_69 : decode cX8_compareOf 69 = .ok (.getfield 97, 3) := by decide +kernel
theorem dX8_compareOf_72 : decode cX8_compareOf 72 = .ok (.bipush 35, 2) := by decide +kernel
theorem dX8_compareOf_74 : decode cX8_compareOf 74 = .ok (.if_icmp .ne 8, 3) := by decide +kernel
theorem dX8_compareOf_77 : decode cX8_compareOf 77 = .ok (.bipush 15, 2) := by decide +kernel
theorem dX8_compareOf_79 : decode cX8_compareOf 79 = .ok (.goto 4, 3) := by decide +kernel
theorem dX8_compareOf_82 : decode cX8_compareOf 82 = .ok (.iconst (-1), 1) := by decide +kernel
theorem dX8_compareOf_83 : decode cX8_compareOf 83 = .ok (.ireturn, 1) := by decide +kernel
theorem dX8_asks_0 : decode cX8_asks 0 = .ok (.iconst 0, 1) := by decide +kernel
theorem dX8_asks_1 : decode cX8_asks 1 = .ok (.istore_n 1, 1) := by decide +kernel
theorem dX8_asks_2 : decode cX8_asks 2 = .ok (.aload_n 0, 1) := by decide +kernel
theorem dX8_asks_3 : decode cX8_asks 3 = .ok (.bipush 110, 2) := by decide +kernel
theorem dX8_asks_5 : decode cX8_asks 5 = .ok (.bipush 111, 2) := by decide +kernel
theorem dX8_asks_7 : decode cX8_asks 7 = .ok (.bipush 116, 2) := by decide +kernel
theorem dX8_asks_9 : decode cX8_asks 9 = .ok (.invokestatic 115, 3) := by decide +kernel
theorem dX8_asks_12 : decode cX8_asks 12 = .ok (.invokevirtual 186, 3) := by decide +kernel
theorem dX8_asks_15 : decode cX8_asks 15 = .ok (.ifCond .eq 34, 3) := by decide +kernel
theorem dX8_asks_18 : decode cX8_asks 18 = .ok (.aload_n 0, 1) := by decide +kernel
theorem dX8_asks_19 : decode cX8_asks 19 = .ok (.getfield 136, 3) := by decide +kernel
theorem dX8_asks_22 : decode cX8_asks 22 = .ok (.bipush 8, 2) := by decide +kernel
theorem dX8_asks_24 : decode cX8_asks 24 = .ok (.if_icmp .ne 5, 3) := by decide +kernel
theorem dX8_asks_27 : decode cX8_asks 27 = .ok (.iconst 3, 1) := by decide +kernel
theorem dX8_asks_28 : decode cX8_asks 28 = .ok (.ireturn, 1) := by decide +kernel
theorem dX8_asks_29 : decode cX8_asks 29 = .ok (.aload_n 0, 1) := by decide +kernel
theorem dX8_asks_30 : decode cX8_asks 30 = .ok (.dup, 1) := by decide +kernel
theorem dX8_asks_31 : decode cX8_asks 31 = .ok (.getfield 136, 3) := by decide +kernel
theorem dX8_asks_34 : decode cX8_asks 34 = .ok (.iconst 1, 1) := by decide +kernel
theorem dX8_asks_35 : decode cX8_asks 35 = .ok (.iadd, 1) := by decide +kernel
theorem dX8_asks_36 : decode cX8_asks 36 = .ok (.putfield 136, 3) := by decide +kernel
theorem dX8_asks_39 : decode cX8_asks 39 = .ok (.iinc 1 1, 3) := by decide +kernel
theorem dX8_asks_42 : decode cX8_asks 42 = .ok (.aload_n 0, 1) := by decide +kernel
theorem dX8_asks_43 : decode cX8_asks 43 = .ok (.invokevirtual 154, 3) := by decide +kernel
theorem dX8_asks_46 : decode cX8_asks 46 = .ok (.goto (-44), 3) := by decide +kernel
theorem dX8_asks_49 : decode cX8_asks 49 = .ok (.aload_n 0, 1) := by decide +kernel
theorem dX8_asks_50 : decode cX8_asks 50 = .ok (.invokevirtual 190, 3) := by decide +kernel
theorem dX8_asks_53 : decode cX8_asks 53 = .ok (.istore_n 2, 1) := by decide +kernel
theorem dX8_asks_54 : decode cX8_asks 54 = .ok (.iload_n 2, 1) := by decide +kernel
theorem dX8_asks_55 : decode cX8_asks 55 = .ok (.ifCond .eq 5, 3) := by decide +kernel
theorem dX8_asks_58 : decode cX8_asks 58 = .ok (.iload_n 2, 1) := by decide +kernel
theorem dX8_asks_59 : decode cX8_asks 59 = .ok (.ireturn, 1) := by decide +kernel
theorem dX8_asks_60 : decode cX8_asks 60 = .ok (.aload_n 0, 1) := by decide +kernel
theorem dX8_asks_61 : decode cX8_asks 61 = .ok (.invokevirtual 193, 3) := by decide +kernel
theorem dX8_asks_64 : decode cX8_asks 64 = .ok (.istore_n 3, 1) := by decide +kernel
theorem dX8_asks_65 : decode cX8_asks 65 = .ok (.iload_n 3, 1) := by decide +kernel
theorem dX8_asks_66 : decode cX8_asks 66 = .ok (.ifCond .ge 5, 3) := by decide +kernel
theorem dX8_asks_69 : decode cX8_asks 69 = .ok (.iconst 1, 1) := by decide +kernel
theorem dX8_asks_70 : decode cX8_asks 70 = .ok (.ireturn, 1) := by decide +kernel
theorem dX8_asks_71 : decode cX8_asks 71 = .ok (.aload_n 0, 1) := by decide +kernel
theorem dX8_asks_72 : decode cX8_asks 72 = .ok (.invokevirtual 154, 3) := by decide +kernel
theorem dX8_asks_75 : decode cX8_asks 75 = .ok (.aload_n 0, 1) := by decide +kernel
theorem dX8_asks_76 : decode cX8_asks 76 = .ok (.invokevirtual 190, 3) := by decide +kernel
theorem dX8_asks_79 : decode cX8_asks 79 = .ok (.istore_n 2, 1) := by decide +kernel
theorem dX8_asks_80 : decode cX8_asks 80 = .ok (.iload_n 2, 1) := by decide +kernel
theorem dX8_asks_81 : decode cX8_asks 81 = .ok (.ifCond .eq 5, 3) := by decide +kernel
theorem dX8_asks_84 : decode cX8_asks 84 = .ok (.iload_n 2, 1) := by decide +kernel
theorem dX8_asks_85 : decode cX8_asks 85 = .ok (.ireturn, 1) := by decide +kernel
theorem dX8_asks_86 : decode cX8_asks 86 = .ok (.aload_n 0, 1) := by decide +kernel
theorem dX8_asks_87 : decode cX8_asks 87 = .ok (.iload_n 3, 1) := by decide +kernel
theorem dX8_asks_88 : decode cX8_asks 88 = .ok (.iconst 0, 1) := by decide +kernel
theorem dX8_asks_89 : decode cX8_asks 89 = .ok (.invokevirtual 139, 3) := by decide +kernel
theorem dX8_asks_92 : decode cX8_asks 92 = .ok (.aload_n 0, 1) := by decide +kernel
theorem dX8_asks_93 : decode cX8_asks 93 = .ok (.dup, 1) := by decide +kernel
theorem dX8_asks_94 : decode cX8_asks 94 = .ok (.getfield 136, 3) := by decide +kernel
theorem dX8_asks_97 : decode cX8_asks 97 = .ok (.iload_n 1, 1) := by decide +kernel
theorem dX8_asks_98 : decode cX8_asks 98 = .ok (.isub, 1) := by decide +kernel
theorem dX8_asks_99 : decode cX8_asks 99 = .ok (.putfield 136, 3) := by decide +kernel
theorem dX8_asks_102 : decode cX8_asks 102 = .ok (.iconst 0, 1) := by decide +kernel
theorem dX8_asks_103 : decode cX8_asks 103 = .ok (.istore 4, 2) := by decide +kernel
theorem dX8_asks_105 : decode cX8_asks 105 = .ok (.iload 4, 2) := by decide +kernel
theorem dX8_asks_107 : decode cX8_asks 107 = .ok (.iload_n 1, 1) := by decide +kernel
theorem dX8_asks_108 : decode cX8_asks 108 = .ok (.if_icmp .ge 16, 3) := by decide +kernel
theorem dX8_asks_111 : decode cX8_asks 111 = .ok (.aload_n 0, 1) := by decide +kernel
theorem dX8_asks_112 : decode cX8_asks 112 = .ok (.bipush 20, 2) := by decide +kernel
theorem dX8_asks_114 : decode cX8_asks 114 = .ok (.iconst 0, 1) := by decide +kernel
theorem dX8_asks_115 : decode cX8_asks 115 = .ok (.invokevirtual 139, 3) := by decide +kernel
theorem dX8_asks_118 : decode cX8_asks 118 = .ok (.iinc 4 1, 3) := by decide +kernel
theorem dX8_asks_121 : decode cX8_asks 121 = .ok (.goto (-16), 3) := by decide +kernel
theorem dX8_asks_124 : decode cX8_asks 124 = .ok (.iconst 0, 1) := by decide +kernel
theorem dX8_asks_125 : decode cX8_asks 125 = .ok (.ireturn, 1) := by decide +kernel
theorem dX8_either_0 : decode cX8_either 0 = .ok (.iconst 0, 1) := by decide +kernel
theorem dX8_either_1 : decode cX8_either 1 = .ok (.istore_n 1, 1) := by decide +kernel
theorem dX8_either_2 : decode cX8_either 2 = .ok (.iconst 0, 1) := by decide +kernel
theorem dX8_either_3 : decode cX8_either 3 = .ok (.istore_n 2, 1) := by decide +kernel
theorem dX8_either_4 : decode cX8_either 4 = .ok (.iconst 1, 1) := by decide +kernel
theorem dX8_either_5 : decode cX8_either 5 = .ok (.istore_n 3, 1) := by decide +kernel
theorem dX8_either_6 : decode cX8_either 6 = .ok (.iload_n 3, 1) := by decide +kernel
theorem dX8_either_7 : decode cX8_either 7 = .ok (.ifCond .eq 112, 3) := by decide +kernel
theorem dX8_either_10 : decode cX8_either 10 = .ok (.aload_n 0, 1) := by decide +kernel
theorem dX8_either_11 : decode cX8_either 11 = .ok (.invokevirtual 196, 3) := by decide +kernel
theorem dX8_either_14 : decode cX8_either 14 = .ok (.istore 4, 2) := by decide +kernel
theorem dX8_either_16 : decode cX8_either 16 = .ok (.iload 4, 2) := by decide +kernel
theorem dX8_either_18 : decode cX8_either 18 = .ok (.ifCond .eq 6, 3) := by decide +kernel
theorem dX8_either_21 : decode cX8_either 21 = .ok (.iload 4, 2) := by decide +kernel
theorem dX8_either_23 : decode cX8_either 23 = .ok (.ireturn, 1) := by decide +kernel
theorem dX8_either_24 : decode cX8_either 24 = .ok (.iload_n 1, 1) := by decide +kernel
theorem dX8_either_25 : decode cX8_either 25 = .ok (.ifCond .eq 10, 3) := by decide +kernel
theorem dX8_either_28 : decode cX8_either 28 = .ok (.aload_n 0, 1) := by decide +kernel
theorem dX8_either_29 : decode cX8_either 29 = .ok (.bipush 21, 2) := by decide +kernel
theorem dX8_either_31 : decode cX8_either 31 = .ok (.iconst 0, 1) := by decide +kernel
theorem dX8_either_32 : decode cX8_either 32 = .ok (.invokevirtual 139, 3) := by decide +kernel
theorem dX8_either_35 : decode cX8_either 35 = .ok (.aload_n 0, 1) := by decide +kernel
theorem dX8_either_36 : decode cX8_either 36 = .ok (.bipush 97, 2) := by decide +kernel
theorem dX8_either_38 : decode cX8_either 38 = .ok (.bipush 110, 2) := by decide +kernel
theorem dX8_either_40 : decode cX8_either 40 = .ok (.bipush 100, 2) := by decide +kernel
theorem dX8_either_42 : decode cX8_either 42 = .ok (.invokestatic 115, 3) := by decide +kernel
theorem dX8_either_45 : decode cX8_either 45 = .ok (.invokevirtual 186, 3) := by decide +kernel
theorem dX8_either_48 : decode cX8_either 48 = .ok (.istore_n 1, 1) := by decide +kernel
theorem dX8_either_49 : decode cX8_either 49 = .ok (.aload_n 0, 1) := by decide +kernel
theorem dX8_either_50 : decode cX8_either 50 = .ok (.getfield 97, 3) := by decide +kernel
theorem dX8_either_53 : decode cX8_either 53 = .ok (.iconst 2, 1) := by decide +kernel
theorem dX8_either_54 : decode cX8_either 54 = .ok (.if_icmp .ne 18, 3) := by decide +kernel
theorem dX8_either_57 : decode cX8_either 57 = .ok (.aload_n 0, 1) := by decide +kernel
theorem dX8_either_58 : decode cX8_either 58 = .ok (.getfield 111, 3) := by decide +kernel
theorem dX8_either_61 : decode cX8_either 61 = .ok (.ldc2_w 199, 3) := by decide +kernel
theorem dX8_either_64 : decode cX8_either 64 = .ok (.lcmp, 1) := by decide +kernel
theorem dX8_either_65 : decode cX8_either 65 = .ok (.ifCond .ne 7, 3) := by decide +kernel
theorem dX8_either_68 : decode cX8_either 68 = .ok (.iconst 1, 1) := by decide +kernel
theorem dX8_either_69 : decode cX8_either 69 = .ok (.goto 4, 3) := by decide +kernel
theorem dX8_either_72 : decode cX8_either 72 = .ok (.iconst 0, 1) := by decide +kernel
theorem dX8_either_73 : decode cX8_either 73 = .ok (.istore 5, 2) := by decide +kernel
theorem dX8_either_75 : decode cX8_either 75 = .ok (.iload_n 1, 1) := by decide +kernel
theorem dX8_either_76 : decode cX8_either 76 = .ok (.ifCond .ne 17, 3) := by decide +kernel
theorem dX8_either_79 : decode cX8_either 79 = .ok (.iload_n 2, 1) := by decide +kernel
theorem dX8_either_80 : decode cX8_either 80 = .ok (.ifCond .eq 10, 3) := by decide +kernel
theorem dX8_either_83 : decode cX8_either 83 = .ok (.aload_n 0, 1) := by decide +kernel
theorem dX8_either_84 : decode cX8_either 84 = .ok (.bipush 22, 2) := by decide +kernel
theorem dX8_either_86 : decode cX8_either 86 = .ok (.iconst 0, 1) := by decide +kernel
theorem dX8_either_87 : decode cX8_either 87 = .ok (.invokevirtual 139, 3) := by decide +kernel
theorem dX8_either_90 : decode cX8_either 90 = .ok (.iload 5, 2) := by decide +kernel
theorem dX8_either_92 : decode cX8_either 92 = .ok (.istore_n 2, 1) := by decide +kernel
theorem dX8_either_93 : decode cX8_either 93 = .ok (.iload_n 1, 1) := by decide +kernel
theorem dX8_either_94 : decode cX8_either 94 = .ok (.ifCond .ne 8, 3) := by decide +kernel
theorem dX8_either_97 : decode cX8_either 97 = .ok (.iload 5, 2) := by decide +kernel
theorem dX8_either_99 : decode cX8_either 99 = .ok (.ifCond .eq 7, 3) := by decide +kernel
theorem dX8_either_102 : decode cX8_either 102 = .ok (.iconst 1, 1) := by decide +kernel
theorem dX8_either_103 : decode cX8_either 103 = .ok (.goto 4, 3) := by decide +kernel
theorem dX8_either_106 : decode cX8_either 106 = .ok (.iconst 0, 1) := by decide +kernel
theorem dX8_either_107 : decode cX8_either 107 = .ok (.istore_n 3, 1) := by decide +kernel
theorem dX8_either_108 : decode cX8_either 108 = .ok (.iload_n 3, 1) := by decide +kernel
theorem dX8_either_109 : decode cX8_either 109 = .ok (.ifCond .eq 7, 3) := by decide +kernel
theorem dX8_either_112 : decode cX8_either 112 = .ok (.aload_n 0, 1) := by decide +kernel
theorem dX8_either_113 : decode cX8_either 113 = .ok (.invokevirtual 154, 3) := by decide +kernel
theorem dX8_either_116 : decode cX8_either 116 = .ok (.goto (-110), 3) := by decide +kernel
theorem dX8_either_119 : decode cX8_either 119 = .ok (.iconst 0, 1) := by decide +kernel
theorem dX8_either_120 : decode cX8_either 120 = .ok (.ireturn, 1) := by decide +kernel
theorem dX8_sortOf_0 : decode cX8_sortOf 0 = .ok (.aload_n 0, 1) := by decide +kernel
theorem dX8_sortOf_1 : decode cX8_sortOf 1 = .ok (.bipush 115, 2) := by decide +kernel
theorem dX8_sortOf_3 : decode cX8_sortOf 3 = .ok (.bipush 101, 2) := by decide +kernel
theorem dX8_sortOf_5 : decode cX8_sortOf 5 = .ok (.bipush 101, 2) := by decide +kernel
theorem dX8_sortOf_7 : decode cX8_sortOf 7 = .ok (.bipush 115, 2) := by decide +kernel
theorem dX8_sortOf_9 : decode cX8_sortOf 9 = .ok (.invokestatic 147, 3) := by decide +kernel
theorem dX8_sortOf_12 : decode cX8_sortOf 12 = .ok (.invokevirtual 186, 3) := by decide +kernel
theorem dX8_sortOf_15 : decode cX8_sortOf 15 = .ok (.ifCond .eq 5, 3) := by decide +kernel
theorem dX8_sortOf_18 : decode cX8_sortOf 18 = .ok (.iconst 0, 1) := by decide +kernel
theorem dX8_sortOf_19 : decode cX8_sortOf 19 = .ok (.ireturn, 1) := by decide +kernel
theorem dX8_sortOf_20 : decode cX8_sortOf 20 = .ok (.aload_n 0, 1) := by decide +kernel
theorem dX8_sortOf_21 : decode cX8_sortOf 21 = .ok (.bipush 114, 2) := by decide +kernel
theorem dX8_sortOf_23 : decode cX8_sortOf 23 = .ok (.bipush 117, 2) := by decide +kernel
theorem dX8_sortOf_25 : decode cX8_sortOf 25 = .ok (.bipush 98, 2) := by decide +kernel
theorem dX8_sortOf_27 : decode cX8_sortOf 27 = .ok (.bipush 115, 2) := by decide +kernel
theorem dX8_sortOf_29 : decode cX8_sortOf 29 = .ok (.invokestatic 147, 3) := by decide +kernel
theorem dX8_sortOf_32 : decode cX8_sortOf 32 = .ok (.invokevirtual 186, 3) := by decide +kernel
theorem dX8_sortOf_35 : decode cX8_sortOf 35 = .ok (.ifCond .eq 5, 3) := by decide +kernel
theorem dX8_sortOf_38 : decode cX8_sortOf 38 = .ok (.iconst 1, 1) := by decide +kernel
theorem dX8_sortOf_39 : decode cX8_sortOf 39 = .ok (.ireturn, 1) := by decide +kernel
theorem dX8_sortOf_40 : decode cX8_sortOf 40 = .ok (.aload_n 0, 1) := by decide +kernel
theorem dX8_sortOf_41 : decode cX8_sortOf 41 = .ok (.bipush 116, 2) := by decide +kernel
theorem dX8_sortOf_43 : decode cX8_sortOf 43 = .ok (.bipush 111, 2) := by decide +kernel
theorem dX8_sortOf_45 : decode cX8_sortOf 45 = .ok (.bipush 117, 2) := by decide +kernel
theorem dX8_sortOf_47 : decode cX8_sortOf 47 = .ok (.bipush 99, 2) := by decide +kernel
theorem dX8_sortOf_49 : decode cX8_sortOf 49 = .ok (.bipush 104, 2) := by decide +kernel
theorem dX8_sortOf_51 : decode cX8_sortOf 51 = .ok (.invokestatic 119, 3) := by decide +kernel
theorem dX8_sortOf_54 : decode cX8_sortOf 54 = .ok (.invokevirtual 186, 3) := by decide +kernel
theorem dX8_sortOf_57 : decode cX8_sortOf 57 = .ok (.ifCond .eq 5, 3) := by decide +kernel
theorem dX8_sortOf_60 : decode cX8_sortOf 60 = .ok (.iconst 2, 1) := by decide +kernel
theorem dX8_sortOf_61 : decode cX8_sortOf 61 = .ok (.ireturn, 1) := by decide +kernel
theorem dX8_sortOf_62 : decode cX8_sortOf 62 = .ok (.aload_n 0, 1) := by decide +kernel
theorem dX8_sortOf_63 : decode cX8_sortOf 63 = .ok (.bipush 112, 2) := by decide +kernel
theorem dX8_sortOf_65 : decode cX8_sortOf 65 = .ok (.bipush 117, 2) := by decide +kernel
theorem dX8_sortOf_67 : decode cX8_sortOf 67 = .ok (.bipush 116, 2) := by decide +kernel
theorem dX8_sortOf_69 : decode cX8_sortOf 69 = .ok (.invokestatic 115, 3) := by decide +kernel
theorem dX8_sortOf_72 : decode cX8_sortOf 72 = .ok (.invokevirtual 186, 3) := by decide +kernel
theorem dX8_sortOf_75 : decode cX8_sortOf 75 = .ok (.ifCond .eq 5, 3) := by decide +kernel
theorem dX8_sortOf_78 : decode cX8_sortOf 78 = .ok (.iconst 3, 1) := by decide +kernel
theorem dX8_sortOf_79 : decode cX8_sortOf 79 = .ok (.ireturn, 1) := by decide +kernel
theorem dX8_sortOf_80 : decode cX8_sortOf 80 = .ok (.aload_n 0, 1) := by decide +kernel
theorem dX8_sortOf_81 : decode cX8_sortOf 81 = .ok (.bipush 100, 2) := by decide +kernel
theorem dX8_sortOf_83 : decode cX8_sortOf 83 = .ok (.bipush 114, 2) := by decide +kernel
theorem dX8_sortOf_85 : decode cX8_sortOf 85 = .ok (.bipush 97, 2) := by decide +kernel
theorem dX8_sortOf_87 : decode cX8_sortOf 87 = .ok (.bipush 119, 2) := by decide +kernel
theorem dX8_sortOf_89 : decode cX8_sortOf 89 = .ok (.bipush 101, 2) := by decide +kernel
theorem dX8_sortOf_91 : decode cX8_sortOf 91 = .ok (.bipush 114, 2) := by decide +kernel
theorem dX8_sortOf_93 : decode cX8_sortOf 93 = .ok (.invokestatic 143, 3) := by decide +kernel
theorem dX8_sortOf_96 : decode cX8_sortOf 96 = .ok (.invokevirtual 186, 3) := by decide +kernel
theorem dX8_sortOf_99 : decode cX8_sortOf 99 = .ok (.ifCond .eq 5, 3) := by decide +kernel
theorem dX8_sortOf_102 : decode cX8_sortOf 102 = .ok (.iconst 4, 1) := by decide +kernel
theorem dX8_sortOf_103 : decode cX8_sortOf 103 = .ok (.ireturn, 1) := by decide +kernel
theorem dX8_sortOf_104 : decode cX8_sortOf 104 = .ok (.aload_n 0, 1) := by decide +kernel
theorem dX8_sortOf_105 : decode cX8_sortOf 105 = .ok (.bipush 115, 2) := by decide +kernel
theorem dX8_sortOf_107 : decode cX8_sortOf 107 = .ok (.bipush 119, 2) := by decide +kernel
theorem dX8_sortOf_109 : decode cX8_sortOf 109 = .ok (.bipush 97, 2) := by decide +kernel
theorem dX8_sortOf_111 : decode cX8_sortOf 111 = .ok (.bipush 112, 2) := by decide +kernel
theorem dX8_sortOf_113 : decode cX8_sortOf 113 = .ok (.invokestatic 147, 3) := by decide +kernel
theorem dX8_sortOf_116 : decode cX8_sortOf 116 = .ok (.invokevirtual 186, 3) := by decide +kernel
theorem dX8_sortOf_119 : decode cX8_sortOf 119 = .ok (.ifCond .eq 7, 3) := by decide +kernel
theorem dX8_sortOf_122 : decode cX8_sortOf 122 = .ok (.iconst 5, 1) := by decide +kernel
theorem dX8_sortOf_123 : decode cX8_sortOf 123 = .ok (.goto 31, 3) := by decide +kernel
theorem dX8_sortOf_126 : decode cX8_sortOf 126 = .ok (.aload_n 0, 1) := by decide +kernel
theorem dX8_sortOf_127 : decode cX8_sortOf 127 = .ok (.bipush 112, 2) := by decide +kernel
theorem dX8_sortOf_129 : decode cX8_sortOf 129 = .ok (.bipush 111, 2) := by decide +kernel
theorem dX8_sortOf_131 : decode cX8_sortOf 131 = .ok (.bipush 108, 2) := by decide +kernel
theorem dX8_sortOf_133 : decode cX8_sortOf 133 = .ok (.bipush 105, 2) := by decide +kernel
theorem dX8_sortOf_135 : decode cX8_sortOf 135 = .ok (.bipush 115, 2) := by decide +kernel
theorem dX8_sortOf_137 : decode cX8_sortOf 137 = .ok (.bipush 104, 2) := by decide +kernel
theorem dX8_sortOf_139 : decode cX8_sortOf 139 = .ok (.invokestatic 143, 3) := by decide +kernel
theorem dX8_sortOf_142 : decode cX8_sortOf 142 = .ok (.invokevirtual 186, 3) := by decide +kernel
theorem dX8_sortOf_145 : decode cX8_sortOf 145 = .ok (.ifCond .eq 8, 3) := by decide +kernel
theorem dX8_sortOf_148 : decode cX8_sortOf 148 = .ok (.bipush 6, 2) := by decide +kernel
theorem dX8_sortOf_150 : decode cX8_sortOf 150 = .ok (.goto 4, 3) := by decide +kernel
theorem dX8_sortOf_153 : decode cX8_sortOf 153 = .ok (.iconst (-1), 1) := by decide +kernel
theorem dX8_sortOf_154 : decode cX8_sortOf 154 = .ok (.ireturn, 1) := by decide +kernel
theorem dX8_figure_0 : decode cX8_figure 0 = .ok (.aload_n 0, 1) := by decide +kernel
theorem dX8_figure_1 : decode cX8_figure 1 = .ok (.getfield 97, 3) := by decide +kernel
theorem dX8_figure_4 : decode cX8_figure 4 = .ok (.iconst 1, 1) := by decide +kernel
theorem dX8_figure_5 : decode cX8_figure 5 = .ok (.if_icmp .eq 5, 3) := by decide +kernel
theorem dX8_figure_8 : decode cX8_figure 8 = .ok (.iconst 1, 1) := by decide +kernel
theorem dX8_figure_9 : decode cX8_figure 9 = .ok (.ireturn, 1) := by decide +kernel
theorem dX8_figure_10 : decode cX8_figure 10 = .ok (.aload_n 0, 1) := by decide +kernel
theorem dX8_figure_11 : decode cX8_figure 11 = .ok (.getfield 104, 3) := by decide +kernel
theorem dX8_figure_14 : decode cX8_figure 14 = .ok (.iload_n 2, 1) := by decide +kernel
theorem dX8_figure_15 : decode cX8_figure 15 = .ok (.if_icmp .le 5, 3) := by decide +kernel
theorem dX8_figure_18 : decode cX8_figure 18 = .ok (.iconst 2, 1) := by decide +kernel
theorem dX8_figure_19 : decode cX8_figure 19 = .ok (.ireturn, 1) := by decide +kernel
theorem dX8_figure_20 : decode cX8_figure 20 = .ok (.aload_n 0, 1) := by decide +kernel
theorem dX8_figure_21 : decode cX8_figure 21 = .ok (.getfield 19, 3) := by decide +kernel
theorem dX8_figure_24 : decode cX8_figure 24 = .ok (.iload_n 1, 1) := by decide +kernel
theorem dX8_figure_25 : decode cX8_figure 25 = .ok (.aload_n 0, 1) := by decide +kernel
theorem dX8_figure_26 : decode cX8_figure 26 = .ok (.getfield 104, 3) := by decide +kernel
theorem dX8_figure_29 : decode cX8_figure 29 = .ok (.iastore, 1) := by decide +kernel
theorem dX8_figure_30 : decode cX8_figure 30 = .ok (.aload_n 0, 1) := by decide +kernel
theorem dX8_figure_31 : decode cX8_figure 31 = .ok (.invokevirtual 154, 3) := by decide +kernel
theorem dX8_figure_34 : decode cX8_figure 34 = .ok (.iconst 0, 1) := by decide +kernel
theorem dX8_figure_35 : decode cX8_figure 35 = .ok (.ireturn, 1) := by decide +kernel
theorem dX8_isBetween_0 : decode cX8_isBetween 0 = .ok (.iload_n 1, 1) := by decide +kernel
theorem dX8_isBetween_1 : decode cX8_isBetween 1 = .ok (.iconst 2, 1) := by decide +kernel
theorem dX8_isBetween_2 : decode cX8_isBetween 2 = .ok (.if_icmp .ne 28, 3) := by decide +kernel
theorem dX8_isBetween_5 : decode cX8_isBetween 5 = .ok (.aload_n 0, 1) := by decide +kernel
theorem dX8_isBetween_6 : decode cX8_isBetween 6 = .ok (.getfield 97, 3) := by decide +kernel
theorem dX8_isBetween_9 : decode cX8_isBetween 9 = .ok (.iconst 2, 1) := by decide +kernel
theorem dX8_isBetween_10 : decode cX8_isBetween 10 = .ok (.if_icmp .ne 18, 3) := by decide +kernel
theorem dX8_isBetween_13 : decode cX8_isBetween 13 = .ok (.aload_n 0, 1) := by decide +kernel
theorem dX8_isBetween_14 : decode cX8_isBetween 14 = .ok (.getfield 111, 3) := by decide +kernel
theorem dX8_isBetween_17 : decode cX8_isBetween 17 = .ok (.ldc2_w 201, 3) := by decide +kernel
theorem dX8_isBetween_20 : decode cX8_isBetween 20 = .ok (.lcmp, 1) := by decide +kernel
theorem dX8_isBetween_21 : decode cX8_isBetween 21 = .ok (.ifCond .ne 7, 3) := by decide +kernel
theorem dX8_isBetween_24 : decode cX8_isBetween 24 = .ok (.iconst 1, 1) := by decide +kernel
theorem dX8_isBetween_25 : decode cX8_isBetween 25 = .ok (.goto 4, 3) := by decide +kernel
theorem dX8_isBetween_28 : decode cX8_isBetween 28 = .ok (.iconst 0, 1) := by decide +kernel
theorem dX8_isBetween_29 : decode cX8_isBetween 29 = .ok (.ireturn, 1) := by decide +kernel
theorem dX8_isBetween_30 : decode cX8_isBetween 30 = .ok (.iload_n 1, 1) := by decide +kernel
theorem dX8_isBetween_31 : decode cX8_isBetween 31 = .ok (.iconst 3, 1) := by decide +kernel
theorem dX8_isBetween_32 : decode cX8_isBetween 32 = .ok (.if_icmp .ne 30, 3) := by decide +kernel
theorem dX8_isBetween_35 : decode cX8_isBetween 35 = .ok (.aload_n 0, 1) := by decide +kernel
theorem dX8_isBetween_36 : decode cX8_isBetween 36 = .ok (.getfield 97, 3) := by decide +kernel
theorem dX8_isBetween_39 : decode cX8_isBetween 39 = .ok (.iconst 2, 1) := by decide +kernel
theorem dX8_isBetween_40 : decode cX8_isBetween 40 = .ok (.if_icmp .ne 18, 3) := by decide +kernel
theorem dX8_isBetween_43 : decode cX8_isBetween 43 = .ok (.aload_n 0, 1) := by decide +kernel
theorem dX8_isBetween_44 : decode cX8_isBetween 44 = .ok (.getfield 111, 3) := by decide +kernel
theorem dX8_isBetween_47 : decode cX8_isBetween 47 = .ok (.ldc2_w 203, 3) := by decide +kernel
theorem dX8_isBetween_50 : decode cX8_isBetween 50 = .ok (.lcmp, 1) := by decide +kernel
theorem dX8_isBetween_51 : decode cX8_isBetween 51 = .ok (.ifCond .ne 7, 3) := by decide +kernel
theorem dX8_isBetween_54 : decode cX8_isBetween 54 = .ok (.iconst 1, 1) := by decide +kernel
theorem dX8_isBetween_55 : decode cX8_isBetween 55 = .ok (.goto 22, 3) := by decide +kernel
theorem dX8_isBetween_58 : decode cX8_isBetween 58 = .ok (.iconst 0, 1) := by decide +kernel
theorem dX8_isBetween_59 : decode cX8_isBetween 59 = .ok (.goto 18, 3) := by decide +kernel
theorem dX8_isBetween_62 : decode cX8_isBetween 62 = .ok (.aload_n 0, 1) := by decide +kernel
theorem dX8_isBetween_63 : decode cX8_isBetween 63 = .ok (.bipush 119, 2) := by decide +kernel
theorem dX8_isBetween_65 : decode cX8_isBetween 65 = .ok (.bipush 105, 2) := by decide +kernel
theorem dX8_isBetween_67 : decode cX8_isBetween 67 = .ok (.bipush 116, 2) := by decide +kernel
theorem dX8_isBetween_69 : decode cX8_isBetween 69 = .ok (.bipush 104, 2) := by decide +kernel
theorem dX8_isBetween_71 : decode cX8_isBetween 71 = .ok (.invokestatic 147, 3) := by decide +kernel
theorem dX8_isBetween_74 : decode cX8_isBetween 74 = .ok (.invokevirtual 186, 3) := by decide +kernel
theorem dX8_isBetween_77 : decode cX8_isBetween 77 = .ok (.ireturn, 1) := by decide +kernel
theorem dX8_line_0 : decode cX8_line 0 = .ok (.aload_n 0, 1) := by decide +kernel
theorem dX8_line_1 : decode cX8_line 1 = .ok (.iload_n 2, 1) := by decide +kernel
theorem dX8_line_2 : decode cX8_line 2 = .ok (.iconst 1, 1) := by decide +kernel
theorem dX8_line_3 : decode cX8_line 3 = .ok (.iadd, 1) := by decide +kernel
theorem dX8_line_4 : decode cX8_line 4 = .ok (.bipush 7, 2) := by decide +kernel
theorem dX8_line_6 : decode cX8_line 6 = .ok (.invokevirtual 205, 3) := by decide +kernel
theorem dX8_line_9 : decode cX8_line 9 = .ok (.istore_n 3, 1) := by decide +kernel
theorem dX8_line_10 : decode cX8_line 10 = .ok (.iload_n 3, 1) := by decide +kernel
theorem dX8_line_11 : decode cX8_line 11 = .ok (.ifCond .ne 14, 3) := by decide +kernel
theorem dX8_line_14 : decode cX8_line 14 = .ok (.iload_n 1, 1) := by decide +kernel
theorem dX8_line_15 : decode cX8_line 15 = .ok (.iconst 4, 1) := by decide +kernel
theorem dX8_line_16 : decode cX8_line 16 = .ok (.if_icmp .eq 9, 3) := by decide +kernel
theorem dX8_line_19 : decode cX8_line 19 = .ok (.iload_n 1, 1) := by decide +kernel
theorem dX8_line_20 : decode cX8_line 20 = .ok (.bipush 6, 2) := by decide +kernel
theorem dX8_line_22 : decode cX8_line 22 = .ok (.if_icmp .ne 5, 3) := by decide +kernel
theorem dX8_line_25 : decode cX8_line 25 = .ok (.iload_n 3, 1) := by decide +kernel
theorem dX8_line_26 : decode cX8_line 26 = .ok (.ireturn, 1) := by decide +kernel
theorem dX8_line_27 : decode cX8_line 27 = .ok (.aload_n 0, 1) := by decide +kernel
theorem dX8_line_28 : decode cX8_line 28 = .ok (.iload_n 1, 1) := by decide +kernel
theorem dX8_line_29 : decode cX8_line 29 = .ok (.invokevirtual 208, 3) := by decide +kernel
theorem dX8_line_32 : decode cX8_line 32 = .ok (.ifCond .ne 5, 3) := by decide +kernel
theorem dX8_line_35 : decode cX8_line 35 = .ok (.iconst 1, 1) := by decide +kernel
theorem dX8_line_36 : decode cX8_line 36 = .ok (.ireturn, 1) := by decide +kernel
theorem dX8_line_37 : decode cX8_line 37 = .ok (.aload_n 0, 1) := by decide +kernel
theorem dX8_line_38 : decode cX8_line 38 = .ok (.invokevirtual 154, 3) := by decide +kernel
theorem dX8_line_41 : decode cX8_line 41 = .ok (.aload_n 0, 1) := by decide +kernel
theorem dX8_line_42 : decode cX8_line 42 = .ok (.iload_n 2, 1) := by decide +kernel
theorem dX8_line_43 : decode cX8_line 43 = .ok (.iconst 2, 1) := by decide +kernel
theorem dX8_line_44 : decode cX8_line 44 = .ok (.iadd, 1) := by decide +kernel
theorem dX8_line_45 : decode cX8_line 45 = .ok (.iload_n 1, 1) := by decide +kernel
theorem dX8_line_46 : decode cX8_line 46 = .ok (.iconst 5, 1) := by decide +kernel
theorem dX8_line_47 : decode cX8_line 47 = .ok (.if_icmp .ne 8, 3) := by decide +kernel
theorem dX8_line_50 : decode cX8_line 50 = .ok (.bipush 7, 2) := by decide +kernel
theorem dX8_line_52 : decode cX8_line 52 = .ok (.goto 4, 3) := by decide +kernel
theorem dX8_line_55 : decode cX8_line 55 = .ok (.iconst 5, 1) := by decide +kernel
theorem dX8_line_56 : decode cX8_line 56 = .ok (.invokevirtual 205, 3) := by decide +kernel
theorem dX8_line_59 : decode cX8_line 59 = .ok (.ireturn, 1) := by decide +kernel
theorem dX8_clause_0 : decode cX8_clause 0 = .ok (.aload_n 0, 1) := by decide +kernel
theorem dX8_clause_1 : decode cX8_clause 1 = .ok (.invokevirtual 211, 3) := by decide +kernel
theorem dX8_clause_4 : decode cX8_clause 4 = .ok (.istore_n 1, 1) := by decide +kernel
theorem dX8_clause_5 : decode cX8_clause 5 = .ok (.iload_n 1, 1) := by decide +kernel
theorem dX8_clause_6 : decode cX8_clause 6 = .ok (.ifCond .ge 5, 3) := by decide +kernel
theorem dX8_clause_9 : decode cX8_clause 9 = .ok (.iconst 1, 1) := by decide +kernel
theorem dX8_clause_10 : decode cX8_clause 10 = .ok (.ireturn, 1) := by decide +kernel
theorem dX8_clause_11 : decode cX8_clause 11 = .ok (.iload_n 1, 1) := by decide +kernel
theorem dX8_clause_12 : decode cX8_clause 12 = .ok (.iconst 2, 1) := by decide +kernel
theorem dX8_clause_13 : decode cX8_clause 13 = .ok (.if_icmp .ge 17, 3) := by decide +kernel
theorem dX8_clause_16 : decode cX8_clause 16 = .ok (.aload_n 0, 1) := by decide +kernel
theorem dX8_clause_17 : decode cX8_clause 17 = .ok (.getfield 214, 3) := by decide +kernel
theorem dX8_clause_20 : decode cX8_clause 20 = .ok (.iload_n 1, 1) := by decide +kernel
theorem dX8_clause_21 : decode cX8_clause 21 = .ok (.ishr, 1) := by decide +kernel
theorem dX8_clause_22 : decode cX8_clause 22 = .ok (.iconst 1, 1) := by decide +kernel
theorem dX8_clause_23 : decode cX8_clause 23 = .ok (.iand, 1) := by decide +kernel
theorem dX8_clause_24 : decode cX8_clause 24 = .ok (.iconst 1, 1) := by decide +kernel
theorem dX8_clause_25 : decode cX8_clause 25 = .ok (.if_icmp .ne 5, 3) := by decide +kernel
theorem dX8_clause_28 : decode cX8_clause 28 = .ok (.iconst 4, 1) := by decide +kernel
theorem dX8_clause_29 : decode cX8_clause 29 = .ok (.ireturn, 1) := by decide +kernel
theorem dX8_clause_30 : decode cX8_clause 30 = .ok (.aload_n 0, 1) := by decide +kernel
theorem dX8_clause_31 : decode cX8_clause 31 = .ok (.getfield 19, 3) := by decide +kernel
theorem dX8_clause_34 : decode cX8_clause 34 = .ok (.aload_n 0, 1) := by decide +kernel
theorem dX8_clause_35 : decode cX8_clause 35 = .ok (.getfield 123, 3) := by decide +kernel
theorem dX8_clause_38 : decode cX8_clause 38 = .ok (.iaload, 1) := by decide +kernel
theorem dX8_clause_39 : decode cX8_clause 39 = .ok (.istore_n 2, 1) := by decide +kernel
theorem dX8_clause_40 : decode cX8_clause 40 = .ok (.iload_n 2, 1) := by decide +kernel
theorem dX8_clause_41 : decode cX8_clause 41 = .ok (.bipush 24, 2) := by decide +kernel
theorem dX8_clause_43 : decode cX8_clause 43 = .ok (.if_icmp .ne 6, 3) := by decide +kernel
theorem dX8_clause_46 : decode cX8_clause 46 = .ok (.bipush 6, 2) := by decide +kernel
theorem dX8_clause_48 : decode cX8_clause 48 = .ok (.ireturn, 1) := by decide +kernel
theorem dX8_clause_49 : decode cX8_clause 49 = .ok (.iload_n 1, 1) := by decide +kernel
theorem dX8_clause_50 : decode cX8_clause 50 = .ok (.iconst 2, 1) := by decide +kernel
theorem dX8_clause_51 : decode cX8_clause 51 = .ok (.if_icmp .ge 15, 3) := by decide +kernel
theorem dX8_clause_54 : decode cX8_clause 54 = .ok (.aload_n 0, 1) := by decide +kernel
theorem dX8_clause_55 : decode cX8_clause 55 = .ok (.dup, 1) := by decide +kernel
theorem dX8_clause_56 : decode cX8_clause 56 = .ok (.getfield 214, 3) := by decide +kernel
theorem dX8_clause_59 : decode cX8_clause 59 = .ok (.iconst 1, 1) := by decide +kernel
theorem dX8_clause_60 : decode cX8_clause 60 = .ok (.iload_n 1, 1) := by decide +kernel
theorem dX8_clause_61 : decode cX8_clause 61 = .ok (.ishl, 1) := by decide +kernel
theorem dX8_clause_62 : decode cX8_clause 62 = .ok (.ior, 1) := by decide +kernel
theorem dX8_clause_63 : decode cX8_clause 63 = .ok (.putfield 214, 3) := by decide +kernel
theorem dX8_clause_66 : decode cX8_clause 66 = .ok (.aload_n 0, 1) := by decide +kernel
theorem dX8_clause_67 : decode cX8_clause 67 = .ok (.iload_n 1, 1) := by decide +kernel
theorem dX8_clause_68 : decode cX8_clause 68 = .ok (.putfield 151, 3) := by decide +kernel
theorem dX8_clause_71 : decode cX8_clause 71 = .ok (.aload_n 0, 1) := by decide +kernel
theorem dX8_clause_72 : decode cX8_clause 72 = .ok (.invokevirtual 154, 3) := by decide +kernel
theorem dX8_clause_75 : decode cX8_clause 75 = .ok (.aload_n 0, 1) := by decide +kernel
theorem dX8_clause_76 : decode cX8_clause 76 = .ok (.getfield 123, 3) := by decide +kernel
theorem dX8_clause_79 : decode cX8_clause 79 = .ok (.iconst 1, 1) := by decide +kernel
theorem dX8_clause_80 : decode cX8_clause 80 = .ok (.iadd, 1) := by decide +kernel
theorem dX8_clause_81 : decode cX8_clause 81 = .ok (.iconst 3, 1) := by decide +kernel
theorem dX8_clause_82 : decode cX8_clause 82 = .ok (.iload_n 2, 1) := by decide +kernel
theorem dX8_clause_83 : decode cX8_clause 83 = .ok (.imul, 1) := by decide +kernel
theorem dX8_clause_84 : decode cX8_clause 84 = .ok (.iadd, 1) := by decide +kernel
theorem dX8_clause_85 : decode cX8_clause 85 = .ok (.istore_n 3, 1) := by decide +kernel
theorem dX8_clause_86 : decode cX8_clause 86 = .ok (.aload_n 0, 1) := by decide +kernel
theorem dX8_clause_87 : decode cX8_clause 87 = .ok (.getfield 19, 3) := by decide +kernel
theorem dX8_clause_90 : decode cX8_clause 90 = .ok (.iload_n 3, 1) := by decide +kernel
theorem dX8_clause_91 : decode cX8_clause 91 = .ok (.iload_n 1, 1) := by decide +kernel
theorem dX8_clause_92 : decode cX8_clause 92 = .ok (.iastore, 1) := by decide +kernel
theorem dX8_clause_93 : decode cX8_clause 93 = .ok (.aload_n 0, 1) := by decide +kernel
theorem dX8_clause_94 : decode cX8_clause 94 = .ok (.getfield 126, 3) := by decide +kernel
theorem dX8_clause_97 : decode cX8_clause 97 = .ok (.istore 4, 2) := by decide +kernel
theorem dX8_clause_99 : decode cX8_clause 99 = .ok (.iload_n 1, 1) := by decide +kernel
theorem dX8_clause_100 : decode cX8_clause 100 = .ok (.ifCond .ne 10, 3) := by decide +kernel
theorem dX8_clause_103 : decode cX8_clause 103 = .ok (.aload_n 0, 1) := by decide +kernel
theorem dX8_clause_104 : decode cX8_clause 104 = .ok (.invokevirtual 217, 3) := by decide +kernel
theorem dX8_clause_107 : decode cX8_clause 107 = .ok (.goto 21, 3) := by decide +kernel
theorem dX8_clause_110 : decode cX8_clause 110 = .ok (.iload_n 1, 1) := by decide +kernel
theorem dX8_clause_111 : decode cX8_clause 111 = .ok (.iconst 1, 1) := by decide +kernel
theorem dX8_clause_112 : decode cX8_clause 112 = .ok (.if_icmp .ne 10, 3) := by decide +kernel
theorem dX8_clause_115 : decode cX8_clause 115 = .ok (.aload_n 0, 1) := by decide +kernel
theorem dX8_clause_116 : decode cX8_clause 116 = .ok (.invokevirtual 190, 3) := by decide +kernel
theorem dX8_clause_119 : decode cX8_clause 119 = .ok (.goto 9, 3) := by decide +kernel
theorem dX8_clause_122 : decode cX8_clause 122 = .ok (.aload_n 0, 1) := by decide +kernel
theorem dX8_clause_123 : decode cX8_clause 123 = .ok (.iload_n 1, 1) := by decide +kernel
theorem dX8_clause_124 : decode cX8_clause 124 = .ok (.iload_n 3, 1) := by decide +kernel
theorem dX8_clause_125 : decode cX8_clause 125 = .ok (.invokevirtual 220, 3) := by decide +kernel
theorem dX8_clause_128 : decode cX8_clause 128 = .ok (.istore 5, 2) := by decide +kernel
theorem dX8_clause_130 : decode cX8_clause 130 = .ok (.iload 5, 2) := by decide +kernel
theorem dX8_clause_132 : decode cX8_clause 132 = .ok (.ifCond .eq 6, 3) := by decide +kernel
theorem dX8_clause_135 : decode cX8_clause 135 = .ok (.iload 5, 2) := by decide +kernel
theorem dX8_clause_137 : decode cX8_clause 137 = .ok (.ireturn, 1) := by decide +kernel
theorem dX8_clause_138 : decode cX8_clause 138 = .ok (.iload_n 1, 1) := by decide +kernel
theorem dX8_clause_139 : decode cX8_clause 139 = .ok (.iconst 2, 1) := by decide +kernel
theorem dX8_clause_140 : decode cX8_clause 140 = .ok (.if_icmp .ge 25, 3) := by decide +kernel
theorem dX8_clause_143 : decode cX8_clause 143 = .ok (.aload_n 0, 1) := by decide +kernel
theorem dX8_clause_144 : decode cX8_clause 144 = .ok (.getfield 19, 3) := by decide +kernel
theorem dX8_clause_147 : decode cX8_clause 147 = .ok (.iload_n 3, 1) := by decide +kernel
theorem dX8_clause_148 : decode cX8_clause 148 = .ok (.iconst 1, 1) := by decide +kernel
theorem dX8_clause_149 : decode cX8_clause 149 = .ok (.iadd, 1) := by decide +kernel
theorem dX8_clause_150 : decode cX8_clause 150 = .ok (.iload 4, 2) := by decide +kernel
theorem dX8_clause_152 : decode cX8_clause 152 = .ok (.iastore, 1) := by decide +kernel
theorem dX8_clause_153 : decode cX8_clause 153 = .ok (.aload_n 0, 1) := by decide +kernel
theorem dX8_clause_154 : decode cX8_clause 154 = .ok (.getfield 19, 3) := by decide +kernel
theorem dX8_clause_157 : decode cX8_clause 157 = .ok (.iload_n 3, 1) := by decide +kernel
theorem dX8_clause_158 : decode cX8_clause 158 = .ok (.iconst 2, 1) := by decide +kernel
theorem dX8_clause_159 : decode cX8_clause 159 = .ok (.iadd, 1) := by decide +kernel
theorem dX8_clause_160 : decode cX8_clause 160 = .ok (.aload_n 0, 1) := by decide +kernel
theorem dX8_clause_161 : decode cX8_clause 161 = .ok (.getfield 126, 3) := by decide +kernel
theorem dX8_clause_164 : decode cX8_clause 164 = .ok (.iastore, 1) := by decide +kernel
theorem dX8_clause_165 : decode cX8_clause 165 = .ok (.aload_n 0, 1) := by decide +kernel
theorem dX8_clause_166 : decode cX8_clause 166 = .ok (.getfield 19, 3) := by decide +kernel
theorem dX8_clause_169 : decode cX8_clause 169 = .ok (.aload_n 0, 1) := by decide +kernel
theorem dX8_clause_170 : decode cX8_clause 170 = .ok (.getfield 123, 3) := by decide +kernel
theorem dX8_clause_173 : decode cX8_clause 173 = .ok (.dup2, 1) := by decide +kernel
theorem dX8_clause_174 : decode cX8_clause 174 = .ok (.iaload, 1) := by decide +kernel
theorem dX8_clause_175 : decode cX8_clause 175 = .ok (.iconst 1, 1) := by decide +kernel
theorem dX8_clause_176 : decode cX8_clause 176 = .ok (.iadd, 1) := by decide +kernel
theorem dX8_clause_177 : decode cX8_clause 177 = .ok (.iastore, 1) := by decide +kernel
theorem dX8_clause_178 : decode cX8_clause 178 = .ok (.aload_n 0, 1) := by decide +kernel
theorem dX8_clause_179 : decode cX8_clause 179 = .ok (.getfield 97, 3) := by decide +kernel
theorem dX8_clause_182 : decode cX8_clause 182 = .ok (.bipush 59, 2) := by decide +kernel
theorem dX8_clause_184 : decode cX8_clause 184 = .ok (.if_icmp .eq 5, 3) := by decide +kernel
theorem dX8_clause_187 : decode cX8_clause 187 = .ok (.iconst 1, 1) := by decide +kernel
theorem dX8_clause_188 : decode cX8_clause 188 = .ok (.ireturn, 1) := by decide +kernel
theorem dX8_clause_189 : decode cX8_clause 189 = .ok (.aload_n 0, 1) := by decide +kernel
theorem dX8_clause_190 : decode cX8_clause 190 = .ok (.invokevirtual 154, 3) := by decide +kernel
theorem dX8_clause_193 : decode cX8_clause 193 = .ok (.iconst 0, 1) := by decide +kernel
theorem dX8_clause_194 : decode cX8_clause 194 = .ok (.ireturn, 1) := by decide +kernel
theorem dX8_readText_0 : decode cX8_readText 0 = .ok (.aload_n 0, 1) := by decide +kernel
theorem dX8_readText_1 : decode cX8_readText 1 = .ok (.sipush 680, 3) := by decide +kernel
theorem dX8_readText_4 : decode cX8_readText 4 = .ok (.aload_n 0, 1) := by decide +kernel
theorem dX8_readText_5 : decode cX8_readText 5 = .ok (.getfield 7, 3) := by decide +kernel
theorem dX8_readText_8 : decode cX8_readText 8 = .ok (.iconst 3, 1) := by decide +kernel
theorem dX8_readText_9 : decode cX8_readText 9 = .ok (.iaload, 1) := by decide +kernel
theorem dX8_readText_10 : decode cX8_readText 10 = .ok (.imul, 1) := by decide +kernel
theorem dX8_readText_11 : decode cX8_readText 11 = .ok (.putfield 123, 3) := by decide +kernel
theorem dX8_readText_14 : decode cX8_readText 14 = .ok (.aload_n 0, 1) := by decide +kernel
theorem dX8_readText_15 : decode cX8_readText 15 = .ok (.getfield 19, 3) := by decide +kernel
theorem dX8_readText_18 : decode cX8_readText 18 = .ok (.aload_n 0, 1) := by decide +kernel
theorem dX8_readText_19 : decode cX8_readText 19 = .ok (.getfield 123, 3) := by decide +kernel
theorem dX8_readText_22 : decode cX8_readText 22 = .ok (.iconst 0, 1) := by decide +kernel
theorem dX8_readText_23 : decode cX8_readText 23 = .ok (.iastore, 1) := by decide +kernel
theorem dX8_readText_24 : decode cX8_readText 24 = .ok (.aload_n 0, 1) := by decide +kernel
theorem dX8_readText_25 : decode cX8_readText 25 = .ok (.iconst 0, 1) := by decide +kernel
theorem dX8_readText_26 : decode cX8_readText 26 = .ok (.putfield 126, 3) := by decide +kernel
theorem dX8_readText_29 : decode cX8_readText 29 = .ok (.aload_n 0, 1) := by decide +kernel
theorem dX8_readText_30 : decode cX8_readText 30 = .ok (.iconst 0, 1) := by decide +kernel
theorem dX8_readText_31 : decode cX8_readText 31 = .ok (.putfield 136, 3) := by decide +kernel
theorem dX8_readText_34 : decode cX8_readText 34 = .ok (.aload_n 0, 1) := by decide +kernel
theorem dX8_readText_35 : decode cX8_readText 35 = .ok (.iconst 0, 1) := by decide +kernel
theorem dX8_readText_36 : decode cX8_readText 36 = .ok (.putfield 214, 3) := by decide +kernel
theorem dX8_readText_39 : decode cX8_readText 39 = .ok (.aload_n 0, 1) := by decide +kernel
theorem dX8_readText_40 : decode cX8_readText 40 = .ok (.iconst 0, 1) := by decide +kernel
theorem dX8_readText_41 : decode cX8_readText 41 = .ok (.putfield 87, 3) := by decide +kernel
theorem dX8_readText_44 : decode cX8_readText 44 = .ok (.aload_n 0, 1) := by decide +kernel
theorem dX8_readText_45 : decode cX8_readText 45 = .ok (.invokevirtual 154, 3) := by decide +kernel
theorem dX8_readText_48 : decode cX8_readText 48 = .ok (.aload_n 0, 1) := by decide +kernel
theorem dX8_readText_49 : decode cX8_readText 49 = .ok (.getfield 97, 3) := by decide +kernel
theorem dX8_readText_52 : decode cX8_readText 52 = .ok (.ifCond .eq 17, 3) := by decide +kernel
theorem dX8_readText_55 : decode cX8_readText 55 = .ok (.aload_n 0, 1) := by decide +kernel
theorem dX8_readText_56 : decode cX8_readText 56 = .ok (.invokevirtual 223, 3) := by decide +kernel
theorem dX8_readText_59 : decode cX8_readText 59 = .ok (.istore_n 1, 1) := by decide +kernel
theorem dX8_readText_60 : decode cX8_readText 60 = .ok (.iload_n 1, 1) := by decide +kernel
theorem dX8_readText_61 : decode cX8_readText 61 = .ok (.ifCond .eq 5, 3) := by decide +kernel
theorem dX8_readText_64 : decode cX8_readText 64 = .ok (.iload_n 1, 1) := by decide +kernel
theorem dX8_readText_65 : decode cX8_readText 65 = .ok (.ireturn, 1) := by decide +kernel
theorem dX8_readText_66 : decode cX8_readText 66 = .ok (.goto (-18), 3) := by decide +kernel
theorem dX8_readText_69 : decode cX8_readText 69 = .ok (.iconst 0, 1) := by decide +kernel
theorem dX8_readText_70 : decode cX8_readText 70 = .ok (.ireturn, 1) := by decide +kernel
theorem dX8_text_0 : decode cX8_text 0 = .ok (.aload_n 0, 1) := by decide +kernel
theorem dX8_text_1 : decode cX8_text 1 = .ok (.getfield 7, 3) := by decide +kernel
theorem dX8_text_4 : decode cX8_text 4 = .ok (.iconst 3, 1) := by decide +kernel
theorem dX8_text_5 : decode cX8_text 5 = .ok (.iaload, 1) := by decide +kernel
theorem dX8_text_6 : decode cX8_text 6 = .ok (.iconst 4, 1) := by decide +kernel
theorem dX8_text_7 : decode cX8_text 7 = .ok (.if_icmp .ne 5, 3) := by decide +kernel
theorem dX8_text_10 : decode cX8_text 10 = .ok (.iconst (-1), 1) := by decide +kernel
theorem dX8_text_11 : decode cX8_text 11 = .ok (.ireturn, 1) := by decide +kernel
theorem dX8_text_12 : decode cX8_text 12 = .ok (.aload_n 0, 1) := by decide +kernel
theorem dX8_text_13 : decode cX8_text 13 = .ok (.aload_n 0, 1) := by decide +kernel
theorem dX8_text_14 : decode cX8_text 14 = .ok (.invokevirtual 226, 3) := by decide +kernel
theorem dX8_text_17 : decode cX8_text 17 = .ok (.putfield 25, 3) := by decide +kernel
theorem dX8_text_20 : decode cX8_text 20 = .ok (.aload_n 0, 1) := by decide +kernel
theorem dX8_text_21 : decode cX8_text 21 = .ok (.aload_n 0, 1) := by decide +kernel
theorem dX8_text_22 : decode cX8_text 22 = .ok (.getfield 25, 3) := by decide +kernel
theorem dX8_text_25 : decode cX8_text 25 = .ok (.ifCond .ne 7, 3) := by decide +kernel
theorem dX8_text_28 : decode cX8_text 28 = .ok (.iconst (-1), 1) := by decide +kernel
theorem dX8_text_29 : decode cX8_text 29 = .ok (.goto 7, 3) := by decide +kernel
theorem dX8_text_32 : decode cX8_text 32 = .ok (.aload_n 0, 1) := by decide +kernel
theorem dX8_text_33 : decode cX8_text 33 = .ok (.getfield 94, 3) := by decide +kernel
theorem dX8_text_36 : decode cX8_text 36 = .ok (.putfield 29, 3) := by decide +kernel
theorem dX8_text_39 : decode cX8_text 39 = .ok (.aload_n 0, 1) := by decide +kernel
theorem dX8_text_40 : decode cX8_text 40 = .ok (.iconst 0, 1) := by decide +kernel
theorem dX8_text_41 : decode cX8_text 41 = .ok (.putfield 81, 3) := by decide +kernel
theorem dX8_text_44 : decode cX8_text 44 = .ok (.aload_n 0, 1) := by decide +kernel
theorem dX8_text_45 : decode cX8_text 45 = .ok (.getfield 25, 3) := by decide +kernel
theorem dX8_text_48 : decode cX8_text 48 = .ok (.ifCond .eq 5, 3) := by decide +kernel
theorem dX8_text_51 : decode cX8_text 51 = .ok (.iconst (-1), 1) := by decide +kernel
theorem dX8_text_52 : decode cX8_text 52 = .ok (.ireturn, 1) := by decide +kernel
theorem dX8_text_53 : decode cX8_text 53 = .ok (.aload_n 0, 1) := by decide +kernel
theorem dX8_text_54 : decode cX8_text 54 = .ok (.getfield 7, 3) := by decide +kernel
theorem dX8_text_57 : decode cX8_text 57 = .ok (.iconst 3, 1) := by decide +kernel
theorem dX8_text_58 : decode cX8_text 58 = .ok (.dup2, 1) := by decide +kernel
theorem dX8_text_59 : decode cX8_text 59 = .ok (.iaload, 1) := by decide +kernel
theorem dX8_text_60 : decode cX8_text 60 = .ok (.iconst 1, 1) := by decide +kernel
theorem dX8_text_61 : decode cX8_text 61 = .ok (.iadd, 1) := by decide +kernel
theorem dX8_text_62 : decode cX8_text 62 = .ok (.iastore, 1) := by decide +kernel
theorem dX8_text_63 : decode cX8_text 63 = .ok (.aload_n 0, 1) := by decide +kernel
theorem dX8_text_64 : decode cX8_text 64 = .ok (.getfield 7, 3) := by decide +kernel
theorem dX8_text_67 : decode cX8_text 67 = .ok (.iconst 3, 1) := by decide +kernel
theorem dX8_text_68 : decode cX8_text 68 = .ok (.iaload, 1) := by decide +kernel
theorem dX8_text_69 : decode cX8_text 69 = .ok (.iconst 1, 1) := by decide +kernel
theorem dX8_text_70 : decode cX8_text 70 = .ok (.isub, 1) := by decide +kernel
theorem dX8_text_71 : decode cX8_text 71 = .ok (.ireturn, 1) := by decide +kernel
theorem dX8_fault_0 : decode cX8_fault 0 = .ok (.iload_n 1, 1) := by decide +kernel
theorem dX8_fault_1 : decode cX8_fault 1 = .ok (.ifCond .ne 10, 3) := by decide +kernel
theorem dX8_fault_4 : decode cX8_fault 4 = .ok (.aload_n 0, 1) := by decide +kernel
theorem dX8_fault_5 : decode cX8_fault 5 = .ok (.getfield 25, 3) := by decide +kernel
theorem dX8_fault_8 : decode cX8_fault 8 = .ok (.goto 16, 3) := by decide +kernel
theorem dX8_fault_11 : decode cX8_fault 11 = .ok (.iload_n 1, 1) := by decide +kernel
theorem dX8_fault_12 : decode cX8_fault 12 = .ok (.iconst 1, 1) := by decide +kernel
theorem dX8_fault_13 : decode cX8_fault 13 = .ok (.if_icmp .ne 10, 3) := by decide +kernel
theorem dX8_fault_16 : decode cX8_fault 16 = .ok (.aload_n 0, 1) := by decide +kernel
theorem dX8_fault_17 : decode cX8_fault 17 = .ok (.getfield 29, 3) := by decide +kernel
theorem dX8_fault_20 : decode cX8_fault 20 = .ok (.goto 4, 3) := by decide +kernel
theorem dX8_fault_23 : decode cX8_fault 23 = .ok (.iconst (-1), 1) := by decide +kernel
theorem dX8_fault_24 : decode cX8_fault 24 = .ok (.ireturn, 1) := by decide +kernel
theorem dX8_isText_0 : decode cX8_isText 0 = .ok (.iload_n 1, 1) := by decide +kernel
theorem dX8_isText_1 : decode cX8_isText 1 = .ok (.iconst 0, 1) := by decide +kernel
theorem dX8_isText_2 : decode cX8_isText 2 = .ok (.aload_n 0, 1) := by decide +kernel
theorem dX8_isText_3 : decode cX8_isText 3 = .ok (.getfield 7, 3) := by decide +kernel
theorem dX8_isText_6 : decode cX8_isText 6 = .ok (.iconst 3, 1) := by decide +kernel
theorem dX8_isText_7 : decode cX8_isText 7 = .ok (.iaload, 1) := by decide +kernel
theorem dX8_isText_8 : decode cX8_isText 8 = .ok (.iconst 1, 1) := by decide +kernel
theorem dX8_isText_9 : decode cX8_isText 9 = .ok (.isub, 1) := by decide +kernel
theorem dX8_isText_10 : decode cX8_isText 10 = .ok (.invokestatic 69, 3) := by decide +kernel
theorem dX8_isText_13 : decode cX8_isText 13 = .ok (.ireturn, 1) := by decide +kernel
theorem dX8_by_0 : decode cX8_by 0 = .ok (.iload_n 1, 1) := by decide +kernel
theorem dX8_by_1 : decode cX8_by 1 = .ok (.iconst (-1), 1) := by decide +kernel
theorem dX8_by_2 : decode cX8_by 2 = .ok (.if_icmp .eq 13, 3) := by decide +kernel
theorem dX8_by_5 : decode cX8_by 5 = .ok (.aload_n 0, 1) := by decide +kernel
theorem dX8_by_6 : decode cX8_by 6 = .ok (.iload_n 1, 1) := by decide +kernel
theorem dX8_by_7 : decode cX8_by 7 = .ok (.invokevirtual 229, 3) := by decide +kernel
theorem dX8_by_10 : decode cX8_by 10 = .ok (.ifCond .ne 5, 3) := by decide +kernel
theorem dX8_by_13 : decode cX8_by 13 = .ok (.iconst 0, 1) := by decide +kernel
theorem dX8_by_14 : decode cX8_by 14 = .ok (.ireturn, 1) := by decide +kernel
theorem dX8_by_15 : decode cX8_by 15 = .ok (.aload_n 0, 1) := by decide +kernel
theorem dX8_by_16 : decode cX8_by 16 = .ok (.getfield 7, 3) := by decide +kernel
theorem dX8_by_19 : decode cX8_by 19 = .ok (.iconst 4, 1) := by decide +kernel
theorem dX8_by_20 : decode cX8_by 20 = .ok (.iload_n 1, 1) := by decide +kernel
theorem dX8_by_21 : decode cX8_by 21 = .ok (.iastore, 1) := by decide +kernel
theorem dX8_by_22 : decode cX8_by 22 = .ok (.iconst 1, 1) := by decide +kernel
theorem dX8_by_23 : decode cX8_by 23 = .ok (.ireturn, 1) := by decide +kernel
theorem dX8_clip_0 : decode cX8_clip 0 = .ok (.lload_n 0, 1) := by decide +kernel
theorem dX8_clip_1 : decode cX8_clip 1 = .ok (.ldc2_w 232, 3) := by decide +kernel
theorem dX8_clip_4 : decode cX8_clip 4 = .ok (.lcmp, 1) := by decide +kernel
theorem dX8_clip_5 : decode cX8_clip 5 = .ok (.ifCond .le 9, 3) := by decide +kernel
theorem dX8_clip_8 : decode cX8_clip 8 = .ok (.ldc2_w 232, 3) := by decide +kernel
theorem dX8_clip_11 : decode cX8_clip 11 = .ok (.goto 18, 3) := by decide +kernel
theorem dX8_clip_14 : decode cX8_clip 14 = .ok (.lload_n 0, 1) := by decide +kernel
theorem dX8_clip_15 : decode cX8_clip 15 = .ok (.ldc2_w 234, 3) := by decide +kernel
theorem dX8_clip_18 : decode cX8_clip 18 = .ok (.lcmp, 1) := by decide +kernel
theorem dX8_clip_19 : decode cX8_clip 19 = .ok (.ifCond .ge 9, 3) := by decide +kernel
theorem dX8_clip_22 : decode cX8_clip 22 = .ok (.ldc2_w 234, 3) := by decide +kernel
theorem dX8_clip_25 : decode cX8_clip 25 = .ok (.goto 4, 3) := by decide +kernel
theorem dX8_clip_28 : decode cX8_clip 28 = .ok (.lload_n 0, 1) := by decide +kernel
theorem dX8_clip_29 : decode cX8_clip 29 = .ok (.lreturn, 1) := by decide +kernel
theorem dX8_two_0 : decode cX8_two 0 = .ok (.iload_n 0, 1) := by decide +kernel
theorem dX8_two_1 : decode cX8_two 1 = .ok (.tableswitch 48 3 5 #[27, 34, 41], 27) := by decide +kernel
theorem dX8_two_28 : decode cX8_two 28 = .ok (.lload_n 1, 1) := by decide +kernel
theorem dX8_two_29 : decode cX8_two 29 = .ok (.lload_n 3, 1) := by decide +kernel
theorem dX8_two_30 : decode cX8_two 30 = .ok (.ladd, 1) := by decide +kernel
theorem dX8_two_31 : decode cX8_two 31 = .ok (.invokestatic 236, 3) := by decide +kernel
theorem dX8_two_34 : decode cX8_two 34 = .ok (.lreturn, 1) := by decide +kernel
theorem dX8_two_35 : decode cX8_two 35 = .ok (.lload_n 1, 1) := by decide +kernel
theorem dX8_two_36 : decode cX8_two 36 = .ok (.lload_n 3, 1) := by decide +kernel
theorem dX8_two_37 : decode cX8_two 37 = .ok (.lsub, 1) := by decide +kernel
theorem dX8_two_38 : decode cX8_two 38 = .ok (.invokestatic 236, 3) := by decide +kernel
theorem dX8_two_41 : decode cX8_two 41 = .ok (.lreturn, 1) := by decide +kernel
theorem dX8_two_42 : decode cX8_two 42 = .ok (.lload_n 1, 1) := by decide +kernel
theorem dX8_two_43 : decode cX8_two 43 = .ok (.lload_n 3, 1) := by decide +kernel
theorem dX8_two_44 : decode cX8_two 44 = .ok (.lmul, 1) := by decide +kernel
theorem dX8_two_45 : decode cX8_two 45 = .ok (.invokestatic 236, 3) := by decide +kernel
theorem dX8_two_48 : decode cX8_two 48 = .ok (.lreturn, 1) := by decide +kernel
theorem dX8_two_49 : decode cX8_two 49 = .ok (.lload_n 3, 1) := by decide +kernel
theorem dX8_two_50 : decode cX8_two 50 = .ok (.lconst 0, 1) := by decide +kernel
theorem dX8_two_51 : decode cX8_two 51 = .ok (.lcmp, 1) := by decide +kernel
theorem dX8_two_52 : decode cX8_two 52 = .ok (.ifCond .ne 7, 3) := by decide +kernel
theorem dX8_two_55 : decode cX8_two 55 = .ok (.lconst 0, 1) := by decide +kernel
theorem dX8_two_56 : decode cX8_two 56 = .ok (.goto 9, 3) := by decide +kernel
theorem dX8_two_59 : decode cX8_two 59 = .ok (.lload_n 1, 1) := by decide +kernel
theorem dX8_two_60 : decode cX8_two 60 = .ok (.lload_n 3, 1) := by decide +kernel
theorem dX8_two_61 : decode cX8_two 61 = .ok (.ldiv, 1) := by decide +kernel
theorem dX8_two_62 : decode cX8_two 62 = .ok (.invokestatic 236, 3) := by decide +kernel
theorem dX8_two_65 : decode cX8_two 65 = .ok (.lreturn, 1) := by decide +kernel
theorem dX8_isAsked_0 : decode cX8_isAsked 0 = .ok (.iload_n 0, 1) := by decide +kernel
theorem dX8_isAsked_1 : decode cX8_isAsked 1 = .ok (.bipush 10, 2) := by decide +kernel
theorem dX8_isAsked_3 : decode cX8_isAsked 3 = .ok (.if_icmp .ne 17, 3) := by decide +kernel
theorem dX8_isAsked_6 : decode cX8_isAsked 6 = .ok (.lload_n 1, 1) := by decide +kernel
theorem dX8_isAsked_7 : decode cX8_isAsked 7 = .ok (.lload_n 3, 1) := by decide +kernel
theorem dX8_isAsked_8 : decode cX8_isAsked 8 = .ok (.lcmp, 1) := by decide +kernel
theorem dX8_isAsked_9 : decode cX8_isAsked 9 = .ok (.ifCond .ge 7, 3) := by decide +kernel
theorem dX8_isAsked_12 : decode cX8_isAsked 12 = .ok (.iconst 1, 1) := by decide +kernel
theorem dX8_isAsked_13 : decode cX8_isAsked 13 = .ok (.goto 98, 3) := by decide +kernel
theorem dX8_isAsked_16 : decode cX8_isAsked 16 = .ok (.iconst 0, 1) := by decide +kernel
theorem dX8_isAsked_17 : decode cX8_isAsked 17 = .ok (.goto 94, 3) := by decide +kernel
theorem dX8_isAsked_20 : decode cX8_isAsked 20 = .ok (.iload_n 0, 1) := by decide +kernel
theorem dX8_isAsked_21 : decode cX8_isAsked 21 = .ok (.bipush 11, 2) := by decide +kernel
theorem dX8_isAsked_23 : decode cX8_isAsked 23 = .ok (.if_icmp .ne 17, 3) := by decide +kernel
theorem dX8_isAsked_26 : decode cX8_isAsked 26 = .ok (.lload_n 1, 1) := by decide +kernel
theorem dX8_isAsked_27 : decode cX8_isAsked 27 = .ok (.lload_n 3, 1) := by decide +kernel
theorem dX8_isAsked_28 : decode cX8_isAsked 28 = .ok (.lcmp, 1) := by decide +kernel
theorem dX8_isAsked_29 : decode cX8_isAsked 29 = .ok (.ifCond .gt 7, 3) := by decide +kernel
theorem dX8_isAsked_32 : decode cX8_isAsked 32 = .ok (.iconst 1, 1) := by decide +kernel
theorem dX8_isAsked_33 : decode cX8_isAsked 33 = .ok (.goto 78, 3) := by decide +kernel
theorem dX8_isAsked_36 : decode cX8_isAsked 36 = .ok (.iconst 0, 1) := by decide +kernel
theorem dX8_isAsked_37 : decode cX8_isAsked 37 = .ok (.goto 74, 3) := by decide +kernel
theorem dX8_isAsked_40 : decode cX8_isAsked 40 = .ok (.iload_n 0, 1) := by decide +kernel
theorem dX8_isAsked_41 : decode cX8_isAsked 41 = .ok (.bipush 12, 2) := by decide +kernel
theorem dX8_isAsked_43 : decode cX8_isAsked 43 = .ok (.if_icmp .ne 17, 3) := by decide +kernel
theorem dX8_isAsked_46 : decode cX8_isAsked 46 = .ok (.lload_n 1, 1) := by decide +kernel
theorem dX8_isAsked_47 : decode cX8_isAsked 47 = .ok (.lload_n 3, 1) := by decide +kernel
theorem dX8_isAsked_48 : decode cX8_isAsked 48 = .ok (.lcmp, 1) := by decide +kernel
theorem dX8_isAsked_49 : decode cX8_isAsked 49 = .ok (.ifCond .le 7, 3) := by decide +kernel
theorem dX8_isAsked_52 : decode cX8_isAsked 52 = .ok (.iconst 1, 1) := by decide +kernel
theorem dX8_isAsked_53 : decode cX8_isAsked 53 = .ok (.goto 58, 3) := by decide +kernel
theorem dX8_isAsked_56 : decode cX8_isAsked 56 = .ok (.iconst 0, 1) := by decide +kernel
theorem dX8_isAsked_57 : decode cX8_isAsked 57 = .ok (.goto 54, 3) := by decide +kernel
theorem dX8_isAsked_60 : decode cX8_isAsked 60 = .ok (.iload_n 0, 1) := by decide +kernel
theorem dX8_isAsked_61 : decode cX8_isAsked 61 = .ok (.bipush 13, 2) := by decide +kernel
theorem dX8_isAsked_63 : decode cX8_isAsked 63 = .ok (.if_icmp .ne 17, 3) := by decide +kernel
theorem dX8_isAsked_66 : decode cX8_isAsked 66 = .ok (.lload_n 1, 1) := by decide +kernel
theorem dX8_isAsked_67 : decode cX8_isAsked 67 = .ok (.lload_n 3, 1) := by decide +kernel
theorem dX8_isAsked_68 : decode cX8_isAsked 68 = .ok (.lcmp, 1) := by decide +kernel
theorem dX8_isAsked_69 : decode cX8_isAsked 69 = .ok (.ifCond .lt 7, 3) := by decide +kernel
theorem dX8_isAsked_72 : decode cX8_isAsked 72 = .ok (.iconst 1, 1) := by decide +kernel
theorem dX8_isAsked_73 : decode cX8_isAsked 73 = .ok (.goto 38, 3) := by decide +kernel
theorem dX8_isAsked_76 : decode cX8_isAsked 76 = .ok (.iconst 0, 1) := by decide +kernel
theorem dX8_isAsked_77 : decode cX8_isAsked 77 = .ok (.goto 34, 3) := by decide +kernel
theorem dX8_isAsked_80 : decode cX8_isAsked 80 = .ok (.iload_n 0, 1) := by decide +kernel
theorem dX8_isAsked_81 : decode cX8_isAsked 81 = .ok (.bipush 14, 2) := by decide +kernel
theorem dX8_isAsked_83 : decode cX8_isAsked 83 = .ok (.if_icmp .ne 17, 3) := by decide +kernel
theorem dX8_isAsked_86 : decode cX8_isAsked 86 = .ok (.lload_n 1, 1) := by decide +kernel
theorem dX8_isAsked_87 : decode cX8_isAsked 87 = .ok (.lload_n 3, 1) := by decide +kernel
theorem dX8_isAsked_88 : decode cX8_isAsked 88 = .ok (.lcmp, 1) := by decide +kernel
theorem dX8_isAsked_89 : decode cX8_isAsked 89 = .ok (.ifCond .ne 7, 3) := by decide +kernel
theorem dX8_isAsked_92 : decode cX8_isAsked 92 = .ok (.iconst 1, 1) := by decide +kernel
theorem dX8_isAsked_93 : decode cX8_isAsked 93 = .ok (.goto 18, 3) := by decide +kernel
theorem dX8_isAsked_96 : decode cX8_isAsked 96 = .ok (.iconst 0, 1) := by decide +kernel
theorem dX8_isAsked_97 : decode cX8_isAsked 97 = .ok (.goto 14, 3) := by decide +kernel
theorem dX8_isAsked_100 : decode cX8_isAsked 100 = .ok (.lload_n 1, 1) := by decide +kernel
theorem dX8_isAsked_101 : decode cX8_isAsked 101 = .ok (.lload_n 3, 1) := by decide +kernel
theorem dX8_isAsked_102 : decode cX8_isAsked 102 = .ok (.lcmp, 1) := by decide +kernel
theorem dX8_isAsked_103 : decode cX8_isAsked 103 = .ok (.ifCond .eq 7, 3) := by decide +kernel
theorem dX8_isAsked_106 : decode cX8_isAsked 106 = .ok (.iconst 1, 1) := by decide +kernel
theorem dX8_isAsked_107 : decode cX8_isAsked 107 = .ok (.goto 4, 3) := by decide +kernel
theorem dX8_isAsked_110 : decode cX8_isAsked 110 = .ok (.iconst 0, 1) := by decide +kernel
theorem dX8_isAsked_111 : decode cX8_isAsked 111 = .ok (.ireturn, 1) := by decide +kernel
theorem dX8_work_0 : decode cX8_work 0 = .ok (.sipush 680, 3) := by decide +kernel
theorem dX8_work_3 : decode cX8_work 3 = .ok (.aload_n 0, 1) := by decide +kernel
theorem dX8_work_4 : decode cX8_work 4 = .ok (.getfield 7, 3) := by decide +kernel
theorem dX8_work_7 : decode cX8_work 7 = .ok (.iconst 4, 1) := by decide +kernel
theorem dX8_work_8 : decode cX8_work 8 = .ok (.iaload, 1) := by decide +kernel
theorem dX8_work_9 : decode cX8_work 9 = .ok (.imul, 1) := by decide +kernel
theorem dX8_work_10 : decode cX8_work 10 = .ok (.iconst 1, 1) := by decide +kernel
theorem dX8_work_11 : decode cX8_work 11 = .ok (.iadd, 1) := by decide +kernel
theorem dX8_work_12 : decode cX8_work 12 = .ok (.iconst 3, 1) := by decide +kernel
theorem dX8_work_13 : decode cX8_work 13 = .ok (.iload_n 1, 1) := by decide +kernel
theorem dX8_work_14 : decode cX8_work 14 = .ok (.imul, 1) := by decide +kernel
theorem dX8_work_15 : decode cX8_work 15 = .ok (.iadd, 1) := by decide +kernel
theorem dX8_work_16 : decode cX8_work 16 = .ok (.istore_n 2, 1) := by decide +kernel
theorem dX8_work_17 : decode cX8_work 17 = .ok (.sipush 680, 3) := by decide +kernel
theorem dX8_work_20 : decode cX8_work 20 = .ok (.aload_n 0, 1) := by decide +kernel
theorem dX8_work_21 : decode cX8_work 21 = .ok (.getfield 7, 3) := by decide +kernel
theorem dX8_work_24 : decode cX8_work 24 = .ok (.iconst 4, 1) := by decide +kernel
theorem dX8_work_25 : decode cX8_work 25 = .ok (.iaload, 1) := by decide +kernel
theorem dX8_work_26 : decode cX8_work 26 = .ok (.imul, 1) := by decide +kernel
theorem dX8_work_27 : decode cX8_work 27 = .ok (.bipush 75, 2) := by decide +kernel
theorem dX8_work_29 : decode cX8_work 29 = .ok (.iadd, 1) := by decide +kernel
theorem dX8_work_30 : decode cX8_work 30 = .ok (.istore_n 3, 1) := by decide +kernel
theorem dX8_work_31 : decode cX8_work 31 = .ok (.iconst 0, 1) := by decide +kernel
theorem dX8_work_32 : decode cX8_work 32 = .ok (.istore 4, 2) := by decide +kernel
theorem dX8_work_34 : decode cX8_work 34 = .ok (.iconst 0, 1) := by decide +kernel
theorem dX8_work_35 : decode cX8_work 35 = .ok (.istore 5, 2) := by decide +kernel
theorem dX8_work_37 : decode cX8_work 37 = .ok (.aload_n 0, 1) := by decide +kernel
theorem dX8_work_38 : decode cX8_work 38 = .ok (.getfield 19, 3) := by decide +kernel
theorem dX8_work_41 : decode cX8_work 41 = .ok (.iload_n 2, 1) := by decide +kernel
theorem dX8_work_42 : decode cX8_work 42 = .ok (.iconst 1, 1) := by decide +kernel
theorem dX8_work_43 : decode cX8_work 43 = .ok (.iadd, 1) := by decide +kernel
theorem dX8_work_44 : decode cX8_work 44 = .ok (.iaload, 1) := by decide +kernel
theorem dX8_work_45 : decode cX8_work 45 = .ok (.istore 6, 2) := by decide +kernel
theorem dX8_work_47 : decode cX8_work 47 = .ok (.iload 6, 2) := by decide +kernel
theorem dX8_work_49 : decode cX8_work 49 = .ok (.aload_n 0, 1) := by decide +kernel
theorem dX8_work_50 : decode cX8_work 50 = .ok (.getfield 19, 3) := by decide +kernel
theorem dX8_work_53 : decode cX8_work 53 = .ok (.iload_n 2, 1) := by decide +kernel
theorem dX8_work_54 : decode cX8_work 54 = .ok (.iconst 2, 1) := by decide +kernel
theorem dX8_work_55 : decode cX8_work 55 = .ok (.iadd, 1) := by decide +kernel
theorem dX8_work_56 : decode cX8_work 56 = .ok (.iaload, 1) := by decide +kernel
theorem dX8_work_57 : decode cX8_work 57 = .ok (.if_icmp .ge 302, 3) := by decide +kernel
theorem dX8_work_60 : decode cX8_work 60 = .ok (.aload_n 0, 1) := by decide +kernel
theorem dX8_work_61 : decode cX8_work 61 = .ok (.getfield 19, 3) := by decide +kernel
theorem dX8_work_64 : decode cX8_work 64 = .ok (.iload_n 3, 1) := by decide +kernel
theorem dX8_work_65 : decode cX8_work 65 = .ok (.iconst 2, 1) := by decide +kernel
theorem dX8_work_66 : decode cX8_work 66 = .ok (.iload 6, 2) := by decide +kernel
theorem dX8_work_68 : decode cX8_work 68 = .ok (.imul, 1) := by decide +kernel
theorem dX8_work_69 : decode cX8_work 69 = .ok (.iadd, 1) := by decide +kernel
theorem dX8_work_70 : decode cX8_work 70 = .ok (.iaload, 1) := by decide +kernel
theorem dX8_work_71 : decode cX8_work 71 = .ok (.istore 7, 2) := by decide +kernel
theorem dX8_work_73 : decode cX8_work 73 = .ok (.aload_n 0, 1) := by decide +kernel
theorem dX8_work_74 : decode cX8_work 74 = .ok (.getfield 19, 3) := by decide +kernel
theorem dX8_work_77 : decode cX8_work 77 = .ok (.iload_n 3, 1) := by decide +kernel
theorem dX8_work_78 : decode cX8_work 78 = .ok (.iconst 2, 1) := by decide +kernel
theorem dX8_work_79 : decode cX8_work 79 = .ok (.iload 6, 2) := by decide +kernel
theorem dX8_work_81 : decode cX8_work 81 = .ok (.imul, 1) := by decide +kernel
theorem dX8_work_82 : decode cX8_work 82 = .ok (.iadd, 1) := by decide +kernel
theorem dX8_work_83 : decode cX8_work 83 = .ok (.iconst 1, 1) := by decide +kernel
theorem dX8_work_84 : decode cX8_work 84 = .ok (.iadd, 1) := by decide +kernel
theorem dX8_work_85 : decode cX8_work 85 = .ok (.iaload, 1) := by decide +kernel
theorem dX8_work_86 : decode cX8_work 86 = .ok (.istore 8, 2) := by decide +kernel
theorem dX8_work_88 : decode cX8_work 88 = .ok (.iload 7, 2) := by decide +kernel
theorem dX8_work_90 : decode cX8_work 90 = .ok (.iconst 1, 1) := by decide +kernel
theorem dX8_work_91 : decode cX8_work 91 = .ok (.if_icmp .gt 35, 3) := by decide +kernel
theorem dX8_work_94 : decode cX8_work 94 = .ok (.aload_n 0, 1) := by decide +kernel
theorem dX8_work_95 : decode cX8_work 95 = .ok (.getfield 38, 3) := by decide +kernel
theorem dX8_work_98 : decode cX8_work 98 = .ok (.iload 4, 2) := by decide +kernel
theorem dX8_work_100 : decode cX8_work 100 = .ok (.iload 7, 2) := by decide +kernel
theorem dX8_work_102 : decode cX8_work 102 = .ok (.ifCond .ne 9, 3) := by decide +kernel
theorem dX8_work_105 : decode cX8_work 105 = .ok (.iload 8, 2) := by decide +kernel
theorem dX8_work_107 : decode cX8_work 107 = .ok (.i2l, 1) := by decide +kernel
theorem dX8_work_108 : decode cX8_work 108 = .ok (.goto 11, 3) := by decide +kernel
theorem dX8_work_111 : decode cX8_work 111 = .ok (.aload_n 0, 1) := by decide +kernel
theorem dX8_work_112 : decode cX8_work 112 = .ok (.getfield 35, 3) := by decide +kernel
theorem dX8_work_115 : decode cX8_work 115 = .ok (.iload 8, 2) := by decide +kernel
theorem dX8_work_117 : decode cX8_work 117 = .ok (.iaload, 1) := by decide +kernel
theorem dX8_work_118 : decode cX8_work 118 = .ok (.i2l, 1) := by decide +kernel
theorem dX8_work_119 : decode cX8_work 119 = .ok (.lastore, 1) := by decide +kernel
theorem dX8_work_120 : decode cX8_work 120 = .ok (.iinc 4 1, 3) := by decide +kernel
theorem dX8_work_123 : decode cX8_work 123 = .ok (.goto 230, 3) := by decide +kernel
theorem dX8_work_126 : decode cX8_work 126 = .ok (.iload 7, 2) := by decide +kernel
theorem dX8_work_128 : decode cX8_work 128 = .ok (.iconst 2, 1) := by decide +kernel
theorem dX8_work_129 : decode cX8_work 129 = .ok (.if_icmp .ne 25, 3) := by decide +kernel
theorem dX8_work_132 : decode cX8_work 132 = .ok (.aload_n 0, 1) := by decide +kernel
theorem dX8_work_133 : decode cX8_work 133 = .ok (.getfield 38, 3) := by decide +kernel
theorem dX8_work_136 : decode cX8_work 136 = .ok (.iload 4, 2) := by decide +kernel
theorem dX8_work_138 : decode cX8_work 138 = .ok (.iconst 1, 1) := by decide +kernel
theorem dX8_work_139 : decode cX8_work 139 = .ok (.isub, 1) := by decide +kernel
theorem dX8_work_140 : decode cX8_work 140 = .ok (.aload_n 0, 1) := by decide +kernel
theorem dX8_work_141 : decode cX8_work 141 = .ok (.getfield 38, 3) := by decide +kernel
theorem dX8_work_144 : decode cX8_work 144 = .ok (.iload 4, 2) := by decide +kernel
theorem dX8_work_146 : decode cX8_work 146 = .ok (.iconst 1, 1) := by decide +kernel
theorem dX8_work_147 : decode cX8_work 147 = .ok (.isub, 1) := by decide +kernel
theorem dX8_work_148 : decode cX8_work 148 = .ok (.laload, 1) := by decide +kernel
theorem dX8_work_149 : decode cX8_work 149 = .ok (.lneg, 1) := by decide +kernel
theorem dX8_work_150 : decode cX8_work 150 = .ok (.lastore, 1) := by decide +kernel
theorem dX8_work_151 : decode cX8_work 151 = .ok (.goto 202, 3) := by decide +kernel
theorem dX8_work_154 : decode cX8_work 154 = .ok (.iload 7, 2) := by decide +kernel
theorem dX8_work_156 : decode cX8_work 156 = .ok (.bipush 10, 2) := by decide +kernel
theorem dX8_work_158 : decode cX8_work 158 = .ok (.if_icmp .ge 39, 3) := by decide +kernel
theorem dX8_work_161 : decode cX8_work 161 = .ok (.iinc 4 (-1), 3) := by decide +kernel
theorem dX8_work_164 : decode cX8_work 164 = .ok (.aload_n 0, 1) := by decide +kernel
theorem dX8_work_165 : decode cX8_work 165 = .ok (.getfield 38, 3) := by decide +kernel
theorem dX8_work_168 : decode cX8_work 168 = .ok (.iload 4, 2) := by decide +kernel
theorem dX8_work_170 : decode cX8_work 170 = .ok (.iconst 1, 1) := by decide +kernel
theorem dX8_work_171 : decode cX8_work 171 = .ok (.isub, 1) := by decide +kernel
theorem dX8_work_172 : decode cX8_work 172 = .ok (.iload 7, 2) := by decide +kernel
theorem dX8_work_174 : decode cX8_work 174 = .ok (.aload_n 0, 1) := by decide +kernel
theorem dX8_work_175 : decode cX8_work 175 = .ok (.getfield 38, 3) := by decide +kernel
theorem dX8_work_178 : decode cX8_work 178 = .ok (.iload 4, 2) := by decide +kernel
theorem dX8_work_180 : decode cX8_work 180 = .ok (.iconst 1, 1) := by decide +kernel
theorem dX8_work_181 : decode cX8_work 181 = .ok (.isub, 1) := by decide +kernel
theorem dX8_work_182 : decode cX8_work 182 = .ok (.laload, 1) := by decide +kernel
theorem dX8_work_183 : decode cX8_work 183 = .ok (.aload_n 0, 1) := by decide +kernel
theorem dX8_work_184 : decode cX8_work 184 = .ok (.getfield 38, 3) := by decide +kernel
theorem dX8_work_187 : decode cX8_work 187 = .ok (.iload 4, 2) := by decide +kernel
theorem dX8_work_189 : decode cX8_work 189 = .ok (.laload, 1) := by decide +kernel
theorem dX8_work_190 : decode cX8_work 190 = .ok (.invokestatic 240, 3) := by decide +kernel
theorem dX8_work_193 : decode cX8_work 193 = .ok (.lastore, 1) := by decide +kernel
theorem dX8_work_194 : decode cX8_work 194 = .ok (.goto 159, 3) := by decide +kernel
theorem dX8_work_197 : decode cX8_work 197 = .ok (.iload 7, 2) := by decide +kernel
theorem dX8_work_199 : decode cX8_work 199 = .ok (.bipush 20, 2) := by decide +kernel
theorem dX8_work_201 : decode cX8_work 201 = .ok (.if_icmp .ge 40, 3) := by decide +kernel
theorem dX8_work_204 : decode cX8_work 204 = .ok (.iinc 4 (-2), 3) := by decide +kernel
theorem dX8_work_207 : decode cX8_work 207 = .ok (.aload_n 0, 1) := by decide +kernel
theorem dX8_work_208 : decode cX8_work 208 = .ok (.getfield 42, 3) := by decide +kernel
theorem dX8_work_211 : decode cX8_work 211 = .ok (.iload 5, 2) := by decide +kernel
theorem dX8_work_213 : decode cX8_work 213 = .ok (.iload 7, 2) := by decide +kernel
theorem dX8_work_215 : decode cX8_work 215 = .ok (.aload_n 0, 1) := by decide +kernel
theorem dX8_work_216 : decode cX8_work 216 = .ok (.getfield 38, 3) := by decide +kernel
theorem dX8_work_219 : decode cX8_work 219 = .ok (.iload 4, 2) := by decide +kernel
theorem dX8_work_221 : decode cX8_work 221 = .ok (.laload, 1) := by decide +kernel
theorem dX8_work_222 : decode cX8_work 222 = .ok (.aload_n 0, 1) := by decide +kernel
theorem dX8_work_223 : decode cX8_work 223 = .ok (.getfield 38, 3) := by decide +kernel
theorem dX8_work_226 : decode cX8_work 226 = .ok (.iload 4, 2) := by decide +kernel
theorem dX8_work_228 : decode cX8_work 228 = .ok (.iconst 1, 1) := by decide +kernel
theorem dX8_work_229 : decode cX8_work 229 = .ok (.iadd, 1) := by decide +kernel
theorem dX8_work_230 : decode cX8_work 230 = .ok (.laload, 1) := by decide +kernel
theorem dX8_work_231 : decode cX8_work 231 = .ok (.invokestatic 244, 3) := by decide +kernel
theorem dX8_work_234 : decode cX8_work 234 = .ok (.bastore, 1) := by decide +kernel
theorem dX8_work_235 : decode cX8_work 235 = .ok (.iinc 5 1, 3) := by decide +kernel
theorem dX8_work_238 : decode cX8_work 238 = .ok (.goto 115, 3) := by decide +kernel
theorem dX8_work_241 : decode cX8_work 241 = .ok (.iload 7, 2) := by decide +kernel
theorem dX8_work_243 : decode cX8_work 243 = .ok (.bipush 20, 2) := by decide +kernel
theorem dX8_work_245 : decode cX8_work 245 = .ok (.if_icmp .ne 32, 3) := by decide +kernel
theorem dX8_work_248 : decode cX8_work 248 = .ok (.aload_n 0, 1) := by decide +kernel
theorem dX8_work_249 : decode cX8_work 249 = .ok (.getfield 42, 3) := by decide +kernel
theorem dX8_work_252 : decode cX8_work 252 = .ok (.iload 5, 2) := by decide +kernel
theorem dX8_work_254 : decode cX8_work 254 = .ok (.iconst 1, 1) := by decide +kernel
theorem dX8_work_255 : decode cX8_work 255 = .ok (.isub, 1) := by decide +kernel
theorem dX8_work_256 : decode cX8_work 256 = .ok (.aload_n 0, 1) := by decide +kernel
theorem dX8_work_257 : decode cX8_work 257 = .ok (.getfield 42, 3) := by decide +kernel
theorem dX8_work_260 : decode cX8_work 260 = .ok (.iload 5, 2) := by decide +kernel
theorem dX8_work_262 : decode cX8_work 262 = .ok (.iconst 1, 1) := by decide +kernel
theorem dX8_work_263 : decode cX8_work 263 = .ok (.isub, 1) := by decide +kernel
theorem dX8_work_264 : decode cX8_work 264 = .ok (.baload, 1) := by decide +kernel
theorem dX8_work_265 : decode cX8_work 265 = .ok (.ifCond .ne 7, 3) := by decide +kernel
theorem dX8_work_268 : decode cX8_work 268 = .ok (.iconst 1, 1) := by decide +kernel
theorem dX8_work_269 : decode cX8_work 269 = .ok (.goto 4, 3) := by decide +kernel
theorem dX8_work_272 : decode cX8_work 272 = .ok (.iconst 0, 1) := by decide +kernel
theorem dX8_work_273 : decode cX8_work 273 = .ok (.bastore, 1) := by decide +kernel
theorem dX8_work_274 : decode cX8_work 274 = .ok (.goto 79, 3) := by decide +kernel
theorem dX8_work_277 : decode cX8_work 277 = .ok (.iinc 5 (-1), 3) := by decide +kernel
theorem dX8_work_280 : decode cX8_work 280 = .ok (.aload_n 0, 1) := by decide +kernel
theorem dX8_work_281 : decode cX8_work 281 = .ok (.getfield 42, 3) := by decide +kernel
theorem dX8_work_284 : decode cX8_work 284 = .ok (.iload 5, 2) := by decide +kernel
theorem dX8_work_286 : decode cX8_work 286 = .ok (.iconst 1, 1) := by decide +kernel
theorem dX8_work_287 : decode cX8_work 287 = .ok (.isub, 1) := by decide +kernel
theorem dX8_work_288 : decode cX8_work 288 = .ok (.iload 7, 2) := by decide +kernel
theorem dX8_work_290 : decode cX8_work 290 = .ok (.bipush 21, 2) := by decide +kernel
theorem dX8_work_292 : decode cX8_work 292 = .ok (.if_icmp .ne 33, 3) := by decide +kernel
theorem dX8_work_295 : decode cX8_work 295 = .ok (.aload_n 0, 1) := by decide +kernel
theorem dX8_work_296 : decode cX8_work 296 = .ok (.getfield 42, 3) := by decide +kernel
theorem dX8_work_299 : decode cX8_work 299 = .ok (.iload 5, 2) := by decide +kernel
theorem dX8_work_301 : decode cX8_work 301 = .ok (.iconst 1, 1) := by decide +kernel
theorem dX8_work_302 : decode cX8_work 302 = .ok (.isub, 1) := by decide +kernel
theorem dX8_work_303 : decode cX8_work 303 = .ok (.baload, 1) := by decide +kernel
theorem dX8_work_304 : decode cX8_work 304 = .ok (.ifCond .eq 17, 3) := by decide +kernel
theorem dX8_work_307 : decode cX8_work 307 = .ok (.aload_n 0, 1) := by decide +kernel
theorem dX8_work_308 : decode cX8_work 308 = .ok (.getfield 42, 3) := by decide +kernel
theorem dX8_work_311 : decode cX8_work 311 = .ok (.iload 5, 2) := by decide +kernel
theorem dX8_work_313 : decode cX8_work 313 = .ok (.baload, 1) := by decide +kernel
theorem dX8_work_314 : decode cX8_work 314 = .ok (.ifCond .eq 7, 3) := by decide +kernel
theorem dX8_work_317 : decode cX8_work 317 = .ok (.iconst 1, 1) := by decide +kernel
theorem dX8_work_318 : decode cX8_work 318 = .ok (.goto 34, 3) := by decide +kernel
theorem dX8_work_321 : decode cX8_work 321 = .ok (.iconst 0, 1) := by decide +kernel
theorem dX8_work_322 : decode cX8_work 322 = .ok (.goto 30, 3) := by decide +kernel
theorem dX8_work_325 : decode cX8_work 325 = .ok (.aload_n 0, 1) := by decide +kernel
theorem dX8_work_326 : decode cX8_work 326 = .ok (.getfield 42, 3) := by decide +kernel
theorem dX8_work_329 : decode cX8_work 329 = .ok (.iload 5, 2) := by decide +kernel
theorem dX8_work_331 : decode cX8_work 331 = .ok (.iconst 1, 1) := by decide +kernel
theorem dX8_work_332 : decode cX8_work 332 = .ok (.isub, 1) := by decide +kernel
theorem dX8_work_333 : decode cX8_work 333 = .ok (.baload, 1) := by decide +kernel
theorem dX8_work_334 : decode cX8_work 334 = .ok (.ifCond .ne 13, 3) := by decide +kernel
theorem dX8_work_337 : decode cX8_work 337 = .ok (.aload_n 0, 1) := by decide +kernel
theorem dX8_work_338 : decode cX8_work 338 = .ok (.getfield 42, 3) := by decide +kernel
theorem dX8_work_341 : decode cX8_work 341 = .ok (.iload 5, 2) := by decide +kernel
theorem dX8_work_343 : decode cX8_work 343 = .ok (.baload, 1) := by decide +kernel
theorem dX8_work_344 : decode cX8_work 344 = .ok (.ifCond .eq 7, 3) := by decide +kernel
theorem dX8_work_347 : decode cX8_work 347 = .ok (.iconst 1, 1) := by decide +kernel
theorem dX8_work_348 : decode cX8_work 348 = .ok (.goto 4, 3) := by decide +kernel
theorem dX8_work_351 : decode cX8_work 351 = .ok (.iconst 0, 1) := by decide +kernel
theorem dX8_work_352 : decode cX8_work 352 = .ok (.bastore, 1) := by decide +kernel
theorem dX8_work_353 : decode cX8_work 353 = .ok (.iinc 6 1, 3) := by decide +kernel
theorem dX8_work_356 : decode cX8_work 356 = .ok (.goto (-309), 3) := by decide +kernel
theorem dX8_work_359 : decode cX8_work 359 = .ok (.return_, 1) := by decide +kernel
theorem dX8_clauseOf_0 : decode cX8_clauseOf 0 = .ok (.iconst 0, 1) := by decide +kernel
theorem dX8_clauseOf_1 : decode cX8_clauseOf 1 = .ok (.istore_n 2, 1) := by decide +kernel
theorem dX8_clauseOf_2 : decode cX8_clauseOf 2 = .ok (.aload_n 0, 1) := by decide +kernel
theorem dX8_clauseOf_3 : decode cX8_clauseOf 3 = .ok (.getfield 7, 3) := by decide +kernel
theorem dX8_clauseOf_6 : decode cX8_clauseOf 6 = .ok (.iconst 4, 1) := by decide +kernel
theorem dX8_clauseOf_7 : decode cX8_clauseOf 7 = .ok (.iaload, 1) := by decide +kernel
theorem dX8_clauseOf_8 : decode cX8_clauseOf 8 = .ok (.ifCond .lt 55, 3) := by decide +kernel
theorem dX8_clauseOf_11 : decode cX8_clauseOf 11 = .ok (.iload_n 2, 1) := by decide +kernel
theorem dX8_clauseOf_12 : decode cX8_clauseOf 12 = .ok (.aload_n 0, 1) := by decide +kernel
theorem dX8_clauseOf_13 : decode cX8_clauseOf 13 = .ok (.getfield 19, 3) := by decide +kernel
theorem dX8_clauseOf_16 : decode cX8_clauseOf 16 = .ok (.sipush 680, 3) := by decide +kernel
theorem dX8_clauseOf_19 : decode cX8_clauseOf 19 = .ok (.aload_n 0, 1) := by decide +kernel
theorem dX8_clauseOf_20 : decode cX8_clauseOf 20 = .ok (.getfield 7, 3) := by decide +kernel
theorem dX8_clauseOf_23 : decode cX8_clauseOf 23 = .ok (.iconst 4, 1) := by decide +kernel
theorem dX8_clauseOf_24 : decode cX8_clauseOf 24 = .ok (.iaload, 1) := by decide +kernel
theorem dX8_clauseOf_25 : decode cX8_clauseOf 25 = .ok (.imul, 1) := by decide +kernel
theorem dX8_clauseOf_26 : decode cX8_clauseOf 26 = .ok (.iaload, 1) := by decide +kernel
theorem dX8_clauseOf_27 : decode cX8_clauseOf 27 = .ok (.if_icmp .ge 36, 3) := by decide +kernel
theorem dX8_clauseOf_30 : decode cX8_clauseOf 30 = .ok (.aload_n 0, 1) := by decide +kernel
theorem dX8_clauseOf_31 : decode cX8_clauseOf 31 = .ok (.getfield 19, 3) := by decide +kernel
theorem dX8_clauseOf_34 : decode cX8_clauseOf 34 = .ok (.sipush 680, 3) := by decide +kernel
theorem dX8_clauseOf_37 : decode cX8_clauseOf 37 = .ok (.aload_n 0, 1) := by decide +kernel
theorem dX8_clauseOf_38 : decode cX8_clauseOf 38 = .ok (.getfield 7, 3) := by decide +kernel
theorem dX8_clauseOf_41 : decode cX8_clauseOf 41 = .ok (.iconst 4, 1) := by decide +kernel
theorem dX8_clauseOf_42 : decode cX8_clauseOf 42 = .ok (.iaload, 1) := by decide +kernel
theorem dX8_clauseOf_43 : decode cX8_clauseOf 43 = .ok (.imul, 1) := by decide +kernel
theorem dX8_clauseOf_44 : decode cX8_clauseOf 44 = .ok (.iconst 1, 1) := by decide +kernel
theorem dX8_clauseOf_45 : decode cX8_clauseOf 45 = .ok (.iadd, 1) := by decide +kernel
theorem dX8_clauseOf_46 : decode cX8_clauseOf 46 = .ok (.iconst 3, 1) := by decide +kernel
theorem dX8_clauseOf_47 : decode cX8_clauseOf 47 = .ok (.iload_n 2, 1) := by decide +kernel
theorem dX8_clauseOf_48 : decode cX8_clauseOf 48 = .ok (.imul, 1) := by decide +kernel
theorem dX8_clauseOf_49 : decode cX8_clauseOf 49 = .ok (.iadd, 1) := by decide +kernel
theorem dX8_clauseOf_50 : decode cX8_clauseOf 50 = .ok (.iaload, 1) := by decide +kernel
theorem dX8_clauseOf_51 : decode cX8_clauseOf 51 = .ok (.iload_n 1, 1) := by decide +kernel
theorem dX8_clauseOf_52 : decode cX8_clauseOf 52 = .ok (.if_icmp .ne 5, 3) := by decide +kernel
theorem dX8_clauseOf_55 : decode cX8_clauseOf 55 = .ok (.iload_n 2, 1) := by decide +kernel
theorem dX8_clauseOf_56 : decode cX8_clauseOf 56 = .ok (.ireturn, 1) := by decide +kernel
theorem dX8_clauseOf_57 : decode cX8_clauseOf 57 = .ok (.iinc 2 1, 3) := by decide +kernel
theorem dX8_clauseOf_60 : decode cX8_clauseOf 60 = .ok (.goto (-58), 3) := by decide +kernel
theorem dX8_clauseOf_63 : decode cX8_clauseOf 63 = .ok (.iconst (-1), 1) := by decide +kernel
theorem dX8_clauseOf_64 : decode cX8_clauseOf 64 = .ok (.ireturn, 1) := by decide +kernel
theorem dX8_name_0 : decode cX8_name 0 = .ok (.aload_n 0, 1) := by decide +kernel
theorem dX8_name_1 : decode cX8_name 1 = .ok (.getfield 35, 3) := by decide +kernel
theorem dX8_name_4 : decode cX8_name 4 = .ok (.iconst 0, 1) := by decide +kernel
theorem dX8_name_5 : decode cX8_name 5 = .ok (.iload_n 1, 1) := by decide +kernel
theorem dX8_name_6 : decode cX8_name 6 = .ok (.iastore, 1) := by decide +kernel
theorem dX8_name_7 : decode cX8_name 7 = .ok (.aload_n 0, 1) := by decide +kernel
theorem dX8_name_8 : decode cX8_name 8 = .ok (.getfield 35, 3) := by decide +kernel
theorem dX8_name_11 : decode cX8_name 11 = .ok (.iconst 1, 1) := by decide +kernel
theorem dX8_name_12 : decode cX8_name 12 = .ok (.aload_n 0, 1) := by decide +kernel
theorem dX8_name_13 : decode cX8_name 13 = .ok (.iload_n 1, 1) := by decide +kernel
theorem dX8_name_14 : decode cX8_name 14 = .ok (.iconst 0, 1) := by decide +kernel
theorem dX8_name_15 : decode cX8_name 15 = .ok (.invokevirtual 77, 3) := by decide +kernel
theorem dX8_name_18 : decode cX8_name 18 = .ok (.iastore, 1) := by decide +kernel
theorem dX8_name_19 : decode cX8_name 19 = .ok (.aload_n 0, 1) := by decide +kernel
theorem dX8_name_20 : decode cX8_name 20 = .ok (.getfield 35, 3) := by decide +kernel
theorem dX8_name_23 : decode cX8_name 23 = .ok (.iconst 2, 1) := by decide +kernel
theorem dX8_name_24 : decode cX8_name 24 = .ok (.aload_n 0, 1) := by decide +kernel
theorem dX8_name_25 : decode cX8_name 25 = .ok (.iload_n 1, 1) := by decide +kernel
theorem dX8_name_26 : decode cX8_name 26 = .ok (.iconst 1, 1) := by decide +kernel
theorem dX8_name_27 : decode cX8_name 27 = .ok (.invokevirtual 77, 3) := by decide +kernel
theorem dX8_name_30 : decode cX8_name 30 = .ok (.iastore, 1) := by decide +kernel
theorem dX8_name_31 : decode cX8_name 31 = .ok (.aload_n 0, 1) := by decide +kernel
theorem dX8_name_32 : decode cX8_name 32 = .ok (.getfield 35, 3) := by decide +kernel
theorem dX8_name_35 : decode cX8_name 35 = .ok (.iconst 3, 1) := by decide +kernel
theorem dX8_name_36 : decode cX8_name 36 = .ok (.iload_n 2, 1) := by decide +kernel
theorem dX8_name_37 : decode cX8_name 37 = .ok (.iastore, 1) := by decide +kernel
theorem dX8_name_38 : decode cX8_name 38 = .ok (.aload_n 0, 1) := by decide +kernel
theorem dX8_name_39 : decode cX8_name 39 = .ok (.getfield 35, 3) := by decide +kernel
theorem dX8_name_42 : decode cX8_name 42 = .ok (.iconst 4, 1) := by decide +kernel
theorem dX8_name_43 : decode cX8_name 43 = .ok (.iload_n 2, 1) := by decide +kernel
theorem dX8_name_44 : decode cX8_name 44 = .ok (.aload_n 0, 1) := by decide +kernel
theorem dX8_name_45 : decode cX8_name 45 = .ok (.iload_n 1, 1) := by decide +kernel
theorem dX8_name_46 : decode cX8_name 46 = .ok (.iconst 3, 1) := by decide +kernel
theorem dX8_name_47 : decode cX8_name 47 = .ok (.invokevirtual 77, 3) := by decide +kernel
theorem dX8_name_50 : decode cX8_name 50 = .ok (.isub, 1) := by decide +kernel
theorem dX8_name_51 : decode cX8_name 51 = .ok (.iastore, 1) := by decide +kernel
theorem dX8_name_52 : decode cX8_name 52 = .ok (.aload_n 0, 1) := by decide +kernel
theorem dX8_name_53 : decode cX8_name 53 = .ok (.getfield 35, 3) := by decide +kernel
theorem dX8_name_56 : decode cX8_name 56 = .ok (.iconst 5, 1) := by decide +kernel
theorem dX8_name_57 : decode cX8_name 57 = .ok (.iload_n 3, 1) := by decide +kernel
theorem dX8_name_58 : decode cX8_name 58 = .ok (.iastore, 1) := by decide +kernel
theorem dX8_name_59 : decode cX8_name 59 = .ok (.return_, 1) := by decide +kernel
theorem dX8_sees_0 : decode cX8_sees 0 = .ok (.aload_n 0, 1) := by decide +kernel
theorem dX8_sees_1 : decode cX8_sees 1 = .ok (.iconst 0, 1) := by decide +kernel
theorem dX8_sees_2 : decode cX8_sees 2 = .ok (.invokevirtual 248, 3) := by decide +kernel
theorem dX8_sees_5 : decode cX8_sees 5 = .ok (.istore 6, 2) := by decide +kernel
theorem dX8_sees_7 : decode cX8_sees 7 = .ok (.iload 6, 2) := by decide +kernel
theorem dX8_sees_9 : decode cX8_sees 9 = .ok (.ifCond .ge 5, 3) := by decide +kernel
theorem dX8_sees_12 : decode cX8_sees 12 = .ok (.iconst 1, 1) := by decide +kernel
theorem dX8_sees_13 : decode cX8_sees 13 = .ok (.ireturn, 1) := by decide +kernel
theorem dX8_sees_14 : decode cX8_sees 14 = .ok (.aload_n 0, 1) := by decide +kernel
theorem dX8_sees_15 : decode cX8_sees 15 = .ok (.iload_n 1, 1) := by decide +kernel
theorem dX8_sees_16 : decode cX8_sees 16 = .ok (.iload_n 2, 1) := by decide +kernel
theorem dX8_sees_17 : decode cX8_sees 17 = .ok (.iload_n 3, 1) := by decide +kernel
theorem dX8_sees_18 : decode cX8_sees 18 = .ok (.invokevirtual 251, 3) := by decide +kernel
theorem dX8_sees_21 : decode cX8_sees 21 = .ok (.aload_n 0, 1) := by decide +kernel
theorem dX8_sees_22 : decode cX8_sees 22 = .ok (.getfield 35, 3) := by decide +kernel
theorem dX8_sees_25 : decode cX8_sees 25 = .ok (.bipush 6, 2) := by decide +kernel
theorem dX8_sees_27 : decode cX8_sees 27 = .ok (.iload 4, 2) := by decide +kernel
theorem dX8_sees_29 : decode cX8_sees 29 = .ok (.iastore, 1) := by decide +kernel
theorem dX8_sees_30 : decode cX8_sees 30 = .ok (.aload_n 0, 1) := by decide +kernel
theorem dX8_sees_31 : decode cX8_sees 31 = .ok (.getfield 35, 3) := by decide +kernel
theorem dX8_sees_34 : decode cX8_sees 34 = .ok (.bipush 7, 2) := by decide +kernel
theorem dX8_sees_36 : decode cX8_sees 36 = .ok (.aload_n 0, 1) := by decide +kernel
theorem dX8_sees_37 : decode cX8_sees 37 = .ok (.getfield 7, 3) := by decide +kernel
theorem dX8_sees_40 : decode cX8_sees 40 = .ok (.bipush 8, 2) := by decide +kernel
theorem dX8_sees_42 : decode cX8_sees 42 = .ok (.iload 4, 2) := by decide +kernel
theorem dX8_sees_44 : decode cX8_sees 44 = .ok (.iadd, 1) := by decide +kernel
theorem dX8_sees_45 : decode cX8_sees 45 = .ok (.iaload, 1) := by decide +kernel
theorem dX8_sees_46 : decode cX8_sees 46 = .ok (.iastore, 1) := by decide +kernel
theorem dX8_sees_47 : decode cX8_sees 47 = .ok (.aload_n 0, 1) := by decide +kernel
theorem dX8_sees_48 : decode cX8_sees 48 = .ok (.getfield 35, 3) := by decide +kernel
theorem dX8_sees_51 : decode cX8_sees 51 = .ok (.bipush 8, 2) := by decide +kernel
theorem dX8_sees_53 : decode cX8_sees 53 = .ok (.iload 5, 2) := by decide +kernel
theorem dX8_sees_55 : decode cX8_sees 55 = .ok (.iastore, 1) := by decide +kernel
theorem dX8_sees_56 : decode cX8_sees 56 = .ok (.aload_n 0, 1) := by decide +kernel
theorem dX8_sees_57 : decode cX8_sees 57 = .ok (.iload 6, 2) := by decide +kernel
theorem dX8_sees_59 : decode cX8_sees 59 = .ok (.invokevirtual 254, 3) := by decide +kernel
theorem dX8_sees_62 : decode cX8_sees 62 = .ok (.aload_n 0, 1) := by decide +kernel
theorem dX8_sees_63 : decode cX8_sees 63 = .ok (.getfield 42, 3) := by decide +kernel
theorem dX8_sees_66 : decode cX8_sees 66 = .ok (.iconst 0, 1) := by decide +kernel
theorem dX8_sees_67 : decode cX8_sees 67 = .ok (.baload, 1) := by decide +kernel
theorem dX8_sees_68 : decode cX8_sees 68 = .ok (.ireturn, 1) := by decide +kernel
theorem dX8_rubsOf_0 : decode cX8_rubsOf 0 = .ok (.aload_n 0, 1) := by decide +kernel
theorem dX8_rubsOf_1 : decode cX8_rubsOf 1 = .ok (.iconst 1, 1) := by decide +kernel
theorem dX8_rubsOf_2 : decode cX8_rubsOf 2 = .ok (.invokevirtual 248, 3) := by decide +kernel
theorem dX8_rubsOf_5 : decode cX8_rubsOf 5 = .ok (.istore_n 2, 1) := by decide +kernel
theorem dX8_rubsOf_6 : decode cX8_rubsOf 6 = .ok (.iload_n 2, 1) := by decide +kernel
theorem dX8_rubsOf_7 : decode cX8_rubsOf 7 = .ok (.ifCond .ge 5, 3) := by decide +kernel
theorem dX8_rubsOf_10 : decode cX8_rubsOf 10 = .ok (.iconst 1, 1) := by decide +kernel
theorem dX8_rubsOf_11 : decode cX8_rubsOf 11 = .ok (.ireturn, 1) := by decide +kernel
theorem dX8_rubsOf_12 : decode cX8_rubsOf 12 = .ok (.aload_n 0, 1) := by decide +kernel
theorem dX8_rubsOf_13 : decode cX8_rubsOf 13 = .ok (.iload_n 1, 1) := by decide +kernel
theorem dX8_rubsOf_14 : decode cX8_rubsOf 14 = .ok (.aload_n 0, 1) := by decide +kernel
theorem dX8_rubsOf_15 : decode cX8_rubsOf 15 = .ok (.getfield 7, 3) := by decide +kernel
theorem dX8_rubsOf_18 : decode cX8_rubsOf 18 = .ok (.iconst 2, 1) := by decide +kernel
theorem dX8_rubsOf_19 : decode cX8_rubsOf 19 = .ok (.iaload, 1) := by decide +kernel
theorem dX8_rubsOf_20 : decode cX8_rubsOf 20 = .ok (.aload_n 0, 1) := by decide +kernel
theorem dX8_rubsOf_21 : decode cX8_rubsOf 21 = .ok (.iload_n 1, 1) := by decide +kernel
theorem dX8_rubsOf_22 : decode cX8_rubsOf 22 = .ok (.invokevirtual 257, 3) := by decide +kernel
theorem dX8_rubsOf_25 : decode cX8_rubsOf 25 = .ok (.invokevirtual 251, 3) := by decide +kernel
theorem dX8_rubsOf_28 : decode cX8_rubsOf 28 = .ok (.aload_n 0, 1) := by decide +kernel
theorem dX8_rubsOf_29 : decode cX8_rubsOf 29 = .ok (.iload_n 2, 1) := by decide +kernel
theorem dX8_rubsOf_30 : decode cX8_rubsOf 30 = .ok (.invokevirtual 254, 3) := by decide +kernel
theorem dX8_rubsOf_33 : decode cX8_rubsOf 33 = .ok (.aload_n 0, 1) := by decide +kernel
theorem dX8_rubsOf_34 : decode cX8_rubsOf 34 = .ok (.getfield 38, 3) := by decide +kernel
theorem dX8_rubsOf_37 : decode cX8_rubsOf 37 = .ok (.iconst 0, 1) := by decide +kernel
theorem dX8_rubsOf_38 : decode cX8_rubsOf 38 = .ok (.laload, 1) := by decide +kernel
theorem dX8_rubsOf_39 : decode cX8_rubsOf 39 = .ok (.lconst 0, 1) := by decide +kernel
theorem dX8_rubsOf_40 : decode cX8_rubsOf 40 = .ok (.lcmp, 1) := by decide +kernel
theorem dX8_rubsOf_41 : decode cX8_rubsOf 41 = .ok (.ifCond .ge 7, 3) := by decide +kernel
theorem dX8_rubsOf_44 : decode cX8_rubsOf 44 = .ok (.iconst 0, 1) := by decide +kernel
theorem dX8_rubsOf_45 : decode cX8_rubsOf 45 = .ok (.goto 28, 3) := by decide +kernel
theorem dX8_rubsOf_48 : decode cX8_rubsOf 48 = .ok (.aload_n 0, 1) := by decide +kernel
theorem dX8_rubsOf_49 : decode cX8_rubsOf 49 = .ok (.getfield 38, 3) := by decide +kernel
theorem dX8_rubsOf_52 : decode cX8_rubsOf 52 = .ok (.iconst 0, 1) := by decide +kernel
theorem dX8_rubsOf_53 : decode cX8_rubsOf 53 = .ok (.laload, 1) := by decide +kernel
theorem dX8_rubsOf_54 : decode cX8_rubsOf 54 = .ok (.ldc2_w 260, 3) := by decide +kernel
theorem dX8_rubsOf_57 : decode cX8_rubsOf 57 = .ok (.lcmp, 1) := by decide +kernel
theorem dX8_rubsOf_58 : decode cX8_rubsOf 58 = .ok (.ifCond .le 8, 3) := by decide +kernel
theorem dX8_rubsOf_61 : decode cX8_rubsOf 61 = .ok (.bipush 99, 2) := by decide +kernel
theorem dX8_rubsOf_63 : decode cX8_rubsOf 63 = .ok (.goto 10, 3) := by decide +kernel
theorem dX8_rubsOf_66 : decode cX8_rubsOf 66 = .ok (.aload_n 0, 1) := by decide +kernel
theorem dX8_rubsOf_67 : decode cX8_rubsOf 67 = .ok (.getfield 38, 3) := by decide +kernel
theorem dX8_rubsOf_70 : decode cX8_rubsOf 70 = .ok (.iconst 0, 1) := by decide +kernel
theorem dX8_rubsOf_71 : decode cX8_rubsOf 71 = .ok (.laload, 1) := by decide +kernel
theorem dX8_rubsOf_72 : decode cX8_rubsOf 72 = .ok (.l2i, 1) := by decide +kernel
theorem dX8_rubsOf_73 : decode cX8_rubsOf 73 = .ok (.ireturn, 1) := by decide +kernel
theorem dX8_keep_0 : decode cX8_keep 0 = .ok (.aload_n 0, 1) := by decide +kernel
theorem dX8_keep_1 : decode cX8_keep 1 = .ok (.getfield 7, 3) := by decide +kernel
theorem dX8_keep_4 : decode cX8_keep 4 = .ok (.iconst 5, 1) := by decide +kernel
theorem dX8_keep_5 : decode cX8_keep 5 = .ok (.iaload, 1) := by decide +kernel
theorem dX8_keep_6 : decode cX8_keep 6 = .ok (.bipush 30, 2) := by decide +kernel
theorem dX8_keep_8 : decode cX8_keep 8 = .ok (.if_icmp .ne 47, 3) := by decide +kernel
theorem dX8_keep_11 : decode cX8_keep 11 = .ok (.iconst 0, 1) := by decide +kernel
theorem dX8_keep_12 : decode cX8_keep 12 = .ok (.istore_n 1, 1) := by decide +kernel
theorem dX8_keep_13 : decode cX8_keep 13 = .ok (.iload_n 1, 1) := by decide +kernel
theorem dX8_keep_14 : decode cX8_keep 14 = .ok (.sipush 1450, 3) := by decide +kernel
theorem dX8_keep_17 : decode cX8_keep 17 = .ok (.if_icmp .ge 28, 3) := by decide +kernel
theorem dX8_keep_20 : decode cX8_keep 20 = .ok (.aload_n 0, 1) := by decide +kernel
theorem dX8_keep_21 : decode cX8_keep 21 = .ok (.getfield 7, 3) := by decide +kernel
theorem dX8_keep_24 : decode cX8_keep 24 = .ok (.bipush 84, 2) := by decide +kernel
theorem dX8_keep_26 : decode cX8_keep 26 = .ok (.iload_n 1, 1) := by decide +kernel
theorem dX8_keep_27 : decode cX8_keep 27 = .ok (.iadd, 1) := by decide +kernel
theorem dX8_keep_28 : decode cX8_keep 28 = .ok (.aload_n 0, 1) := by decide +kernel
theorem dX8_keep_29 : decode cX8_keep 29 = .ok (.getfield 7, 3) := by decide +kernel
theorem dX8_keep_32 : decode cX8_keep 32 = .ok (.sipush 134, 3) := by decide +kernel
theorem dX8_keep_35 : decode cX8_keep 35 = .ok (.iload_n 1, 1) := by decide +kernel
theorem dX8_keep_36 : decode cX8_keep 36 = .ok (.iadd, 1) := by decide +kernel
theorem dX8_keep_37 : decode cX8_keep 37 = .ok (.iaload, 1) := by decide +kernel
theorem dX8_keep_38 : decode cX8_keep 38 = .ok (.iastore, 1) := by decide +kernel
theorem dX8_keep_39 : decode cX8_keep 39 = .ok (.iinc 1 1, 3) := by decide +kernel
theorem dX8_keep_42 : decode cX8_keep 42 = .ok (.goto (-29), 3) := by decide +kernel
theorem dX8_keep_45 : decode cX8_keep 45 = .ok (.aload_n 0, 1) := by decide +kernel
theorem dX8_keep_46 : decode cX8_keep 46 = .ok (.getfield 7, 3) := by decide +kernel
theorem dX8_keep_49 : decode cX8_keep 49 = .ok (.iconst 5, 1) := by decide +kernel
theorem dX8_keep_50 : decode cX8_keep 50 = .ok (.dup2, 1) := by decide +kernel
theorem dX8_keep_51 : decode cX8_keep 51 = .ok (.iaload, 1) := by decide +kernel
theorem dX8_keep_52 : decode cX8_keep 52 = .ok (.iconst 1, 1) := by decide +kernel
theorem dX8_keep_53 : decode cX8_keep 53 = .ok (.isub, 1) := by decide +kernel
theorem dX8_keep_54 : decode cX8_keep 54 = .ok (.iastore, 1) := by decide +kernel
theorem dX8_keep_55 : decode cX8_keep 55 = .ok (.bipush 84, 2) := by decide +kernel
theorem dX8_keep_57 : decode cX8_keep 57 = .ok (.bipush 50, 2) := by decide +kernel
theorem dX8_keep_59 : decode cX8_keep 59 = .ok (.aload_n 0, 1) := by decide +kernel
theorem dX8_keep_60 : decode cX8_keep 60 = .ok (.getfield 7, 3) := by decide +kernel
theorem dX8_keep_63 : decode cX8_keep 63 = .ok (.iconst 5, 1) := by decide +kernel
theorem dX8_keep_64 : decode cX8_keep 64 = .ok (.iaload, 1) := by decide +kernel
theorem dX8_keep_65 : decode cX8_keep 65 = .ok (.imul, 1) := by decide +kernel
theorem dX8_keep_66 : decode cX8_keep 66 = .ok (.iadd, 1) := by decide +kernel
theorem dX8_keep_67 : decode cX8_keep 67 = .ok (.istore_n 1, 1) := by decide +kernel
theorem dX8_keep_68 : decode cX8_keep 68 = .ok (.aload_n 0, 1) := by decide +kernel
theorem dX8_keep_69 : decode cX8_keep 69 = .ok (.getfield 7, 3) := by decide +kernel
theorem dX8_keep_72 : decode cX8_keep 72 = .ok (.iload_n 1, 1) := by decide +kernel
theorem dX8_keep_73 : decode cX8_keep 73 = .ok (.aload_n 0, 1) := by decide +kernel
theorem dX8_keep_74 : decode cX8_keep 74 = .ok (.getfield 7, 3) := by decide +kernel
theorem dX8_keep_77 : decode cX8_keep 77 = .ok (.iconst 1, 1) := by decide +kernel
theorem dX8_keep_78 : decode cX8_keep 78 = .ok (.iaload, 1) := by decide +kernel
theorem dX8_keep_79 : decode cX8_keep 79 = .ok (.iastore, 1) := by decide +kernel
theorem dX8_keep_80 : decode cX8_keep 80 = .ok (.aload_n 0, 1) := by decide +kernel
theorem dX8_keep_81 : decode cX8_keep 81 = .ok (.getfield 7, 3) := by decide +kernel
theorem dX8_keep_84 : decode cX8_keep 84 = .ok (.iload_n 1, 1) := by decide +kernel
theorem dX8_keep_85 : decode cX8_keep 85 = .ok (.iconst 1, 1) := by decide +kernel
theorem dX8_keep_86 : decode cX8_keep 86 = .ok (.iadd, 1) := by decide +kernel
theorem dX8_keep_87 : decode cX8_keep 87 = .ok (.aload_n 0, 1) := by decide +kernel
theorem dX8_keep_88 : decode cX8_keep 88 = .ok (.getfield 7, 3) := by decide +kernel
theorem dX8_keep_91 : decode cX8_keep 91 = .ok (.iconst 2, 1) := by decide +kernel
theorem dX8_keep_92 : decode cX8_keep 92 = .ok (.iaload, 1) := by decide +kernel
theorem dX8_keep_93 : decode cX8_keep 93 = .ok (.iastore, 1) := by decide +kernel
theorem dX8_keep_94 : decode cX8_keep 94 = .ok (.iconst 0, 1) := by decide +kernel
theorem dX8_keep_95 : decode cX8_keep 95 = .ok (.istore_n 2, 1) := by decide +kernel
theorem dX8_keep_96 : decode cX8_keep 96 = .ok (.iload_n 2, 1) := by decide +kernel
theorem dX8_keep_97 : decode cX8_keep 97 = .ok (.bipush 8, 2) := by decide +kernel
theorem dX8_keep_99 : decode cX8_keep 99 = .ok (.if_icmp .ge 46, 3) := by decide +kernel
theorem dX8_keep_102 : decode cX8_keep 102 = .ok (.iconst 0, 1) := by decide +kernel
theorem dX8_keep_103 : decode cX8_keep 103 = .ok (.istore_n 3, 1) := by decide +kernel
theorem dX8_keep_104 : decode cX8_keep 104 = .ok (.iload_n 3, 1) := by decide +kernel
theorem dX8_keep_105 : decode cX8_keep 105 = .ok (.bipush 6, 2) := by decide +kernel
theorem dX8_keep_107 : decode cX8_keep 107 = .ok (.if_icmp .ge 32, 3) := by decide +kernel
theorem dX8_keep_110 : decode cX8_keep 110 = .ok (.aload_n 0, 1) := by decide +kernel
theorem dX8_keep_111 : decode cX8_keep 111 = .ok (.getfield 7, 3) := by decide +kernel
theorem dX8_keep_114 : decode cX8_keep 114 = .ok (.iload_n 1, 1) := by decide +kernel
theorem dX8_keep_115 : decode cX8_keep 115 = .ok (.iconst 2, 1) := by decide +kernel
theorem dX8_keep_116 : decode cX8_keep 116 = .ok (.iadd, 1) := by decide +kernel
theorem dX8_keep_117 : decode cX8_keep 117 = .ok (.bipush 6, 2) := by decide +kernel
theorem dX8_keep_119 : decode cX8_keep 119 = .ok (.iload_n 2, 1) := by decide +kernel
theorem dX8_keep_120 : decode cX8_keep 120 = .ok (.imul, 1) := by decide +kernel
theorem dX8_keep_121 : decode cX8_keep 121 = .ok (.iadd, 1) := by decide +kernel
theorem dX8_keep_122 : decode cX8_keep 122 = .ok (.iload_n 3, 1) := by decide +kernel
theorem dX8_keep_123 : decode cX8_keep 123 = .ok (.iadd, 1) := by decide +kernel
theorem dX8_keep_124 : decode cX8_keep 124 = .ok (.aload_n 0, 1) := by decide +kernel
theorem dX8_keep_125 : decode cX8_keep 125 = .ok (.iload_n 2, 1) := by decide +kernel
theorem dX8_keep_126 : decode cX8_keep 126 = .ok (.iconst 2, 1) := by decide +kernel
theorem dX8_keep_127 : decode cX8_keep 127 = .ok (.iload_n 3, 1) := by decide +kernel
theorem dX8_keep_128 : decode cX8_keep 128 = .ok (.iadd, 1) := by decide +kernel
theorem dX8_keep_129 : decode cX8_keep 129 = .ok (.invokevirtual 77, 3) := by decide +kernel
theorem dX8_keep_132 : decode cX8_keep 132 = .ok (.iastore, 1) := by decide +kernel
theorem dX8_keep_133 : decode cX8_keep 133 = .ok (.iinc 3 1, 3) := by decide +kernel
theorem dX8_keep_136 : decode cX8_keep 136 = .ok (.goto (-32), 3) := by decide +kernel
theorem dX8_keep_139 : decode cX8_keep 139 = .ok (.iinc 2 1, 3) := by decide +kernel
theorem dX8_keep_142 : decode cX8_keep 142 = .ok (.goto (-46), 3) := by decide +kernel
theorem dX8_keep_145 : decode cX8_keep 145 = .ok (.aload_n 0, 1) := by decide +kernel
theorem dX8_keep_146 : decode cX8_keep 146 = .ok (.getfield 7, 3) := by decide +kernel
theorem dX8_keep_149 : decode cX8_keep 149 = .ok (.iconst 5, 1) := by decide +kernel
theorem dX8_keep_150 : decode cX8_keep 150 = .ok (.dup2, 1) := by decide +kernel
theorem dX8_keep_151 : decode cX8_keep 151 = .ok (.iaload, 1) := by decide +kernel
theorem dX8_keep_152 : decode cX8_keep 152 = .ok (.iconst 1, 1) := by decide +kernel
theorem dX8_keep_153 : decode cX8_keep 153 = .ok (.iadd, 1) := by decide +kernel
theorem dX8_keep_154 : decode cX8_keep 154 = .ok (.iastore, 1) := by decide +kernel
theorem dX8_keep_155 : decode cX8_keep 155 = .ok (.return_, 1) := by decide +kernel
theorem dX8_undo_0 : decode cX8_undo 0 = .ok (.aload_n 0, 1) := by decide +kernel
theorem dX8_undo_1 : decode cX8_undo 1 = .ok (.getfield 7, 3) := by decide +kernel
theorem dX8_undo_4 : decode cX8_undo 4 = .ok (.iconst 5, 1) := by decide +kernel
theorem dX8_undo_5 : decode cX8_undo 5 = .ok (.iaload, 1) := by decide +kernel
theorem dX8_undo_6 : decode cX8_undo 6 = .ok (.ifCond .ne 5, 3) := by decide +kernel
theorem dX8_undo_9 : decode cX8_undo 9 = .ok (.iconst (-1), 1) := by decide +kernel
theorem dX8_undo_10 : decode cX8_undo 10 = .ok (.ireturn, 1) := by decide +kernel
theorem dX8_undo_11 : decode cX8_undo 11 = .ok (.aload_n 0, 1) := by decide +kernel
theorem dX8_undo_12 : decode cX8_undo 12 = .ok (.getfield 7, 3) := by decide +kernel
theorem dX8_undo_15 : decode cX8_undo 15 = .ok (.iconst 5, 1) := by decide +kernel
theorem dX8_undo_16 : decode cX8_undo 16 = .ok (.dup2, 1) := by decide +kernel
theorem dX8_undo_17 : decode cX8_undo 17 = .ok (.iaload, 1) := by decide +kernel
theorem dX8_undo_18 : decode cX8_undo 18 = .ok (.iconst 1, 1) := by decide +kernel
theorem dX8_undo_19 : decode cX8_undo 19 = .ok (.isub, 1) := by decide +kernel
theorem dX8_undo_20 : decode cX8_undo 20 = .ok (.iastore, 1) := by decide +kernel
theorem dX8_undo_21 : decode cX8_undo 21 = .ok (.bipush 84, 2) := by decide +kernel
theorem dX8_undo_23 : decode cX8_undo 23 = .ok (.bipush 50, 2) := by decide +kernel
theorem dX8_undo_25 : decode cX8_undo 25 = .ok (.aload_n 0, 1) := by decide +kernel
theorem dX8_undo_26 : decode cX8_undo 26 = .ok (.getfield 7, 3) := by decide +kernel
theorem dX8_undo_29 : decode cX8_undo 29 = .ok (.iconst 5, 1) := by decide +kernel
theorem dX8_undo_30 : decode cX8_undo 30 = .ok (.iaload, 1) := by decide +kernel
theorem dX8_undo_31 : decode cX8_undo 31 = .ok (.imul, 1) := by decide +kernel
theorem dX8_undo_32 : decode cX8_undo 32 = .ok (.iadd, 1) := by decide +kernel
theorem dX8_undo_33 : decode cX8_undo 33 = .ok (.istore_n 1, 1) := by decide +kernel
theorem dX8_undo_34 : decode cX8_undo 34 = .ok (.aload_n 0, 1) := by decide +kernel
theorem dX8_undo_35 : decode cX8_undo 35 = .ok (.getfield 7, 3) := by decide +kernel
theorem dX8_undo_38 : decode cX8_undo 38 = .ok (.iconst 2, 1) := by decide +kernel
theorem dX8_undo_39 : decode cX8_undo 39 = .ok (.aload_n 0, 1) := by decide +kernel
theorem dX8_undo_40 : decode cX8_undo 40 = .ok (.getfield 7, 3) := by decide +kernel
theorem dX8_undo_43 : decode cX8_undo 43 = .ok (.iload_n 1, 1) := by decide +kernel
theorem dX8_undo_44 : decode cX8_undo 44 = .ok (.iconst 1, 1) := by decide +kernel
theorem dX8_undo_45 : decode cX8_undo 45 = .ok (.iadd, 1) := by decide +kernel
theorem dX8_undo_46 : decode cX8_undo 46 = .ok (.iaload, 1) := by decide +kernel
theorem dX8_undo_47 : decode cX8_undo 47 = .ok (.iastore, 1) := by decide +kernel
theorem dX8_undo_48 : decode cX8_undo 48 = .ok (.iconst 0, 1) := by decide +kernel
theorem dX8_undo_49 : decode cX8_undo 49 = .ok (.istore_n 2, 1) := by decide +kernel
theorem dX8_undo_50 : decode cX8_undo 50 = .ok (.iload_n 2, 1) := by decide +kernel
theorem dX8_undo_51 : decode cX8_undo 51 = .ok (.bipush 8, 2) := by decide +kernel
theorem dX8_undo_53 : decode cX8_undo 53 = .ok (.if_icmp .ge 61, 3) := by decide +kernel
theorem dX8_undo_56 : decode cX8_undo 56 = .ok (.iconst 0, 1) := by decide +kernel
theorem dX8_undo_57 : decode cX8_undo 57 = .ok (.istore_n 3, 1) := by decide +kernel
theorem dX8_undo_58 : decode cX8_undo 58 = .ok (.iload_n 3, 1) := by decide +kernel
theorem dX8_undo_59 : decode cX8_undo 59 = .ok (.bipush 6, 2) := by decide +kernel
theorem dX8_undo_61 : decode cX8_undo 61 = .ok (.if_icmp .ge 32, 3) := by decide +kernel
theorem dX8_undo_64 : decode cX8_undo 64 = .ok (.aload_n 0, 1) := by decide +kernel
theorem dX8_undo_65 : decode cX8_undo 65 = .ok (.iload_n 2, 1) := by decide +kernel
theorem dX8_undo_66 : decode cX8_undo 66 = .ok (.iconst 2, 1) := by decide +kernel
theorem dX8_undo_67 : decode cX8_undo 67 = .ok (.iload_n 3, 1) := by decide +kernel
theorem dX8_undo_68 : decode cX8_undo 68 = .ok (.iadd, 1) := by decide +kernel
theorem dX8_undo_69 : decode cX8_undo 69 = .ok (.aload_n 0, 1) := by decide +kernel
theorem dX8_undo_70 : decode cX8_undo 70 = .ok (.getfield 7, 3) := by decide +kernel
theorem dX8_undo_73 : decode cX8_undo 73 = .ok (.iload_n 1, 1) := by decide +kernel
theorem dX8_undo_74 : decode cX8_undo 74 = .ok (.iconst 2, 1) := by decide +kernel
theorem dX8_undo_75 : decode cX8_undo 75 = .ok (.iadd, 1) := by decide +kernel
theorem dX8_undo_76 : decode cX8_undo 76 = .ok (.bipush 6, 2) := by decide +kernel
theorem dX8_undo_78 : decode cX8_undo 78 = .ok (.iload_n 2, 1) := by decide +kernel
theorem dX8_undo_79 : decode cX8_undo 79 = .ok (.imul, 1) := by decide +kernel
theorem dX8_undo_80 : decode cX8_undo 80 = .ok (.iadd, 1) := by decide +kernel
theorem dX8_undo_81 : decode cX8_undo 81 = .ok (.iload_n 3, 1) := by decide +kernel
theorem dX8_undo_82 : decode cX8_undo 82 = .ok (.iadd, 1) := by decide +kernel
theorem dX8_undo_83 : decode cX8_undo 83 = .ok (.iaload, 1) := by decide +kernel
theorem dX8_undo_84 : decode cX8_undo 84 = .ok (.invokevirtual 73, 3) := by decide +kernel
theorem dX8_undo_87 : decode cX8_undo 87 = .ok (.iinc 3 1, 3) := by decide +kernel
theorem dX8_undo_90 : decode cX8_undo 90 = .ok (.goto (-32), 3) := by decide +kernel
theorem dX8_undo_93 : decode cX8_undo 93 = .ok (.iload_n 2, 1) := by decide +kernel
theorem dX8_undo_94 : decode cX8_undo 94 = .ok (.aload_n 0, 1) := by decide +kernel
theorem dX8_undo_95 : decode cX8_undo 95 = .ok (.getfield 7, 3) := by decide +kernel
theorem dX8_undo_98 : decode cX8_undo 98 = .ok (.iload_n 1, 1) := by decide +kernel
theorem dX8_undo_99 : decode cX8_undo 99 = .ok (.iaload, 1) := by decide +kernel
theorem dX8_undo_100 : decode cX8_undo 100 = .ok (.if_icmp .lt 8, 3) := by decide +kernel
theorem dX8_undo_103 : decode cX8_undo 103 = .ok (.aload_n 0, 1) := by decide +kernel
theorem dX8_undo_104 : decode cX8_undo 104 = .ok (.iload_n 2, 1) := by decide +kernel
theorem dX8_undo_105 : decode cX8_undo 105 = .ok (.invokevirtual 61, 3) := by decide +kernel
theorem dX8_undo_108 : decode cX8_undo 108 = .ok (.iinc 2 1, 3) := by decide +kernel
theorem dX8_undo_111 : decode cX8_undo 111 = .ok (.goto (-61), 3) := by decide +kernel
theorem dX8_undo_114 : decode cX8_undo 114 = .ok (.aload_n 0, 1) := by decide +kernel
theorem dX8_undo_115 : decode cX8_undo 115 = .ok (.getfield 7, 3) := by decide +kernel
theorem dX8_undo_118 : decode cX8_undo 118 = .ok (.iconst 5, 1) := by decide +kernel
theorem dX8_undo_119 : decode cX8_undo 119 = .ok (.iaload, 1) := by decide +kernel
theorem dX8_undo_120 : decode cX8_undo 120 = .ok (.ireturn, 1) := by decide +kernel
theorem dX8_learn_0 : decode cX8_learn 0 = .ok (.iconst 3, 1) := by decide +kernel
theorem dX8_learn_1 : decode cX8_learn 1 = .ok (.istore_n 3, 1) := by decide +kernel
theorem dX8_learn_2 : decode cX8_learn 2 = .ok (.iload_n 3, 1) := by decide +kernel
theorem dX8_learn_3 : decode cX8_learn 3 = .ok (.ifCond .le 27, 3) := by decide +kernel
theorem dX8_learn_6 : decode cX8_learn 6 = .ok (.aload_n 0, 1) := by decide +kernel
theorem dX8_learn_7 : decode cX8_learn 7 = .ok (.iload_n 1, 1) := by decide +kernel
theorem dX8_learn_8 : decode cX8_learn 8 = .ok (.iconst 4, 1) := by decide +kernel
theorem dX8_learn_9 : decode cX8_learn 9 = .ok (.iload_n 3, 1) := by decide +kernel
theorem dX8_learn_10 : decode cX8_learn 10 = .ok (.iadd, 1) := by decide +kernel
theorem dX8_learn_11 : decode cX8_learn 11 = .ok (.aload_n 0, 1) := by decide +kernel
theorem dX8_learn_12 : decode cX8_learn 12 = .ok (.iload_n 1, 1) := by decide +kernel
theorem dX8_learn_13 : decode cX8_learn 13 = .ok (.iconst 4, 1) := by decide +kernel
theorem dX8_learn_14 : decode cX8_learn 14 = .ok (.iload_n 3, 1) := by decide +kernel
theorem dX8_learn_15 : decode cX8_learn 15 = .ok (.iadd, 1) := by decide +kernel
theorem dX8_learn_16 : decode cX8_learn 16 = .ok (.iconst 1, 1) := by decide +kernel
theorem dX8_learn_17 : decode cX8_learn 17 = .ok (.isub, 1) := by decide +kernel
theorem dX8_learn_18 : decode cX8_learn 18 = .ok (.invokevirtual 77, 3) := by decide +kernel
theorem dX8_learn_21 : decode cX8_learn 21 = .ok (.invokevirtual 73, 3) := by decide +kernel
theorem dX8_learn_24 : decode cX8_learn 24 = .ok (.iinc 3 (-1), 3) := by decide +kernel
theorem dX8_learn_27 : decode cX8_learn 27 = .ok (.goto (-25), 3) := by decide +kernel
theorem dX8_learn_30 : decode cX8_learn 30 = .ok (.aload_n 0, 1) := by decide +kernel
theorem dX8_learn_31 : decode cX8_learn 31 = .ok (.iload_n 1, 1) := by decide +kernel
theorem dX8_learn_32 : decode cX8_learn 32 = .ok (.iconst 4, 1) := by decide +kernel
theorem dX8_learn_33 : decode cX8_learn 33 = .ok (.iload_n 2, 1) := by decide +kernel
theorem dX8_learn_34 : decode cX8_learn 34 = .ok (.invokevirtual 73, 3) := by decide +kernel
theorem dX8_learn_37 : decode cX8_learn 37 = .ok (.return_, 1) := by decide +kernel
theorem dX8_touch_0 : decode cX8_touch 0 = .ok (.aload_n 0, 1) := by decide +kernel
theorem dX8_touch_1 : decode cX8_touch 1 = .ok (.iload_n 1, 1) := by decide +kernel
theorem dX8_touch_2 : decode cX8_touch 2 = .ok (.invokevirtual 262, 3) := by decide +kernel
theorem dX8_touch_5 : decode cX8_touch 5 = .ok (.ifCond .eq 23, 3) := by decide +kernel
theorem dX8_touch_8 : decode cX8_touch 8 = .ok (.aload_n 0, 1) := by decide +kernel
theorem dX8_touch_9 : decode cX8_touch 9 = .ok (.iload_n 2, 1) := by decide +kernel
theorem dX8_touch_10 : decode cX8_touch 10 = .ok (.invokevirtual 265, 3) := by decide +kernel
theorem dX8_touch_13 : decode cX8_touch 13 = .ok (.ifCond .eq 15, 3) := by decide +kernel
end
section
theorem dX8_touch_16 : decode cX8_touch 16 = .ok (.aload_n 0, 1) := by decide +kernel
theorem dX8_touch_17 : decode cX8_touch 17 = .ok (.getfield 7, 3) := by decide +kernel
theorem dX8_touch_20 : decode cX8_touch 20 = .ok (.iconst 2, 1) := by decide +kernel
theorem dX8_touch_21 : decode cX8_touch 21 = .ok (.iaload, 1) := by decide +kernel
theorem dX8_touch_22 : decode cX8_touch 22 = .ok (.sipush 999, 3) := by decide +kernel
theorem dX8_touch_25 : decode cX8_touch 25 = .ok (.if_icmp .ne 5, 3) := by decide +kernel
theorem dX8_touch_28 : decode cX8_touch 28 = .ok (.iconst (-1), 1) := by decide +kernel
theorem dX8_touch_29 : decode cX8_touch 29 = .ok (.ireturn, 1) := by decide +kernel
theorem dX8_touch_30 : decode cX8_touch 30 = .ok (.aload_n 0, 1) := by decide +kernel
theorem dX8_touch_31 : decode cX8_touch 31 = .ok (.invokevirtual 268, 3) := by decide +kernel
theorem dX8_touch_34 : decode cX8_touch 34 = .ok (.aload_n 0, 1) := by decide +kernel
theorem dX8_touch_35 : decode cX8_touch 35 = .ok (.getfield 7, 3) := by decide +kernel
theorem dX8_touch_38 : decode cX8_touch 38 = .ok (.iconst 2, 1) := by decide +kernel
theorem dX8_touch_39 : decode cX8_touch 39 = .ok (.dup2, 1) := by decide +kernel
theorem dX8_touch_40 : decode cX8_touch 40 = .ok (.iaload, 1) := by decide +kernel
theorem dX8_touch_41 : decode cX8_touch 41 = .ok (.iconst 1, 1) := by decide +kernel
theorem dX8_touch_42 : decode cX8_touch 42 = .ok (.iadd, 1) := by decide +kernel
theorem dX8_touch_43 : decode cX8_touch 43 = .ok (.iastore, 1) := by decide +kernel
theorem dX8_touch_44 : decode cX8_touch 44 = .ok (.iconst 0, 1) := by decide +kernel
theorem dX8_touch_45 : decode cX8_touch 45 = .ok (.istore_n 3, 1) := by decide +kernel
theorem dX8_touch_46 : decode cX8_touch 46 = .ok (.iconst 0, 1) := by decide +kernel
theorem dX8_touch_47 : decode cX8_touch 47 = .ok (.istore 4, 2) := by decide +kernel
theorem dX8_touch_49 : decode cX8_touch 49 = .ok (.iload 4, 2) := by decide +kernel
theorem dX8_touch_51 : decode cX8_touch 51 = .ok (.aload_n 0, 1) := by decide +kernel
theorem dX8_touch_52 : decode cX8_touch 52 = .ok (.getfield 7, 3) := by decide +kernel
theorem dX8_touch_55 : decode cX8_touch 55 = .ok (.iconst 1, 1) := by decide +kernel
theorem dX8_touch_56 : decode cX8_touch 56 = .ok (.iaload, 1) := by decide +kernel
theorem dX8_touch_57 : decode cX8_touch 57 = .ok (.if_icmp .ge 74, 3) := by decide +kernel
theorem dX8_touch_60 : decode cX8_touch 60 = .ok (.aload_n 0, 1) := by decide +kernel
theorem dX8_touch_61 : decode cX8_touch 61 = .ok (.iload 4, 2) := by decide +kernel
theorem dX8_touch_63 : decode cX8_touch 63 = .ok (.iconst 2, 1) := by decide +kernel
theorem dX8_touch_64 : decode cX8_touch 64 = .ok (.invokevirtual 77, 3) := by decide +kernel
theorem dX8_touch_67 : decode cX8_touch 67 = .ok (.iload_n 2, 1) := by decide +kernel
theorem dX8_touch_68 : decode cX8_touch 68 = .ok (.if_icmp .ne 57, 3) := by decide +kernel
theorem dX8_touch_71 : decode cX8_touch 71 = .ok (.aload_n 0, 1) := by decide +kernel
theorem dX8_touch_72 : decode cX8_touch 72 = .ok (.iload 4, 2) := by decide +kernel
theorem dX8_touch_74 : decode cX8_touch 74 = .ok (.aload_n 0, 1) := by decide +kernel
theorem dX8_touch_75 : decode cX8_touch 75 = .ok (.getfield 7, 3) := by decide +kernel
theorem dX8_touch_78 : decode cX8_touch 78 = .ok (.iconst 2, 1) := by decide +kernel
theorem dX8_touch_79 : decode cX8_touch 79 = .ok (.iaload, 1) := by decide +kernel
theorem dX8_touch_80 : decode cX8_touch 80 = .ok (.aload_n 0, 1) := by decide +kernel
theorem dX8_touch_81 : decode cX8_touch 81 = .ok (.iload 4, 2) := by decide +kernel
theorem dX8_touch_83 : decode cX8_touch 83 = .ok (.invokevirtual 257, 3) := by decide +kernel
theorem dX8_touch_86 : decode cX8_touch 86 = .ok (.iload_n 1, 1) := by decide +kernel
theorem dX8_touch_87 : decode cX8_touch 87 = .ok (.iload_n 2, 1) := by decide +kernel
theorem dX8_touch_88 : decode cX8_touch 88 = .ok (.invokevirtual 271, 3) := by decide +kernel
theorem dX8_touch_91 : decode cX8_touch 91 = .ok (.ifCond .ne 6, 3) := by decide +kernel
theorem dX8_touch_94 : decode cX8_touch 94 = .ok (.goto 31, 3) := by decide +kernel
theorem dX8_touch_97 : decode cX8_touch 97 = .ok (.aload_n 0, 1) := by decide +kernel
theorem dX8_touch_98 : decode cX8_touch 98 = .ok (.iload 4, 2) := by decide +kernel
theorem dX8_touch_100 : decode cX8_touch 100 = .ok (.iload_n 1, 1) := by decide +kernel
theorem dX8_touch_101 : decode cX8_touch 101 = .ok (.invokevirtual 275, 3) := by decide +kernel
theorem dX8_touch_104 : decode cX8_touch 104 = .ok (.aload_n 0, 1) := by decide +kernel
theorem dX8_touch_105 : decode cX8_touch 105 = .ok (.iload 4, 2) := by decide +kernel
theorem dX8_touch_107 : decode cX8_touch 107 = .ok (.iconst 1, 1) := by decide +kernel
theorem dX8_touch_108 : decode cX8_touch 108 = .ok (.invokevirtual 77, 3) := by decide +kernel
theorem dX8_touch_111 : decode cX8_touch 111 = .ok (.iconst 1, 1) := by decide +kernel
theorem dX8_touch_112 : decode cX8_touch 112 = .ok (.if_icmp .ne 10, 3) := by decide +kernel
theorem dX8_touch_115 : decode cX8_touch 115 = .ok (.aload_n 0, 1) := by decide +kernel
theorem dX8_touch_116 : decode cX8_touch 116 = .ok (.iload 4, 2) := by decide +kernel
theorem dX8_touch_118 : decode cX8_touch 118 = .ok (.iload_n 1, 1) := by decide +kernel
theorem dX8_touch_119 : decode cX8_touch 119 = .ok (.invokevirtual 275, 3) := by decide +kernel
theorem dX8_touch_122 : decode cX8_touch 122 = .ok (.iinc 3 1, 3) := by decide +kernel
theorem dX8_touch_125 : decode cX8_touch 125 = .ok (.iinc 4 1, 3) := by decide +kernel
theorem dX8_touch_128 : decode cX8_touch 128 = .ok (.goto (-79), 3) := by decide +kernel
theorem dX8_touch_131 : decode cX8_touch 131 = .ok (.iload_n 3, 1) := by decide +kernel
theorem dX8_touch_132 : decode cX8_touch 132 = .ok (.ireturn, 1) := by decide +kernel
theorem dX8_place0_0 : decode cX8_place0 0 = .ok (.aload_n 0, 1) := by decide +kernel
theorem dX8_place0_1 : decode cX8_place0 1 = .ok (.iload_n 1, 1) := by decide +kernel
theorem dX8_place0_2 : decode cX8_place0 2 = .ok (.iconst 2, 1) := by decide +kernel
theorem dX8_place0_3 : decode cX8_place0 3 = .ok (.iload_n 2, 1) := by decide +kernel
theorem dX8_place0_4 : decode cX8_place0 4 = .ok (.invokevirtual 73, 3) := by decide +kernel
theorem dX8_place0_7 : decode cX8_place0 7 = .ok (.aload_n 0, 1) := by decide +kernel
theorem dX8_place0_8 : decode cX8_place0 8 = .ok (.iload_n 1, 1) := by decide +kernel
theorem dX8_place0_9 : decode cX8_place0 9 = .ok (.iconst 3, 1) := by decide +kernel
theorem dX8_place0_10 : decode cX8_place0 10 = .ok (.aload_n 0, 1) := by decide +kernel
theorem dX8_place0_11 : decode cX8_place0 11 = .ok (.getfield 7, 3) := by decide +kernel
theorem dX8_place0_14 : decode cX8_place0 14 = .ok (.iconst 2, 1) := by decide +kernel
theorem dX8_place0_15 : decode cX8_place0 15 = .ok (.iaload, 1) := by decide +kernel
theorem dX8_place0_16 : decode cX8_place0 16 = .ok (.invokevirtual 73, 3) := by decide +kernel
theorem dX8_place0_19 : decode cX8_place0 19 = .ok (.return_, 1) := by decide +kernel
theorem dX8_put_0 : decode cX8_put 0 = .ok (.aload_n 0, 1) := by decide +kernel
theorem dX8_put_1 : decode cX8_put 1 = .ok (.iload_n 1, 1) := by decide +kernel
theorem dX8_put_2 : decode cX8_put 2 = .ok (.invokevirtual 278, 3) := by decide +kernel
theorem dX8_put_5 : decode cX8_put 5 = .ok (.ifCond .eq 42, 3) := by decide +kernel
theorem dX8_put_8 : decode cX8_put 8 = .ok (.iload_n 2, 1) := by decide +kernel
theorem dX8_put_9 : decode cX8_put 9 = .ok (.iconst (-1), 1) := by decide +kernel
theorem dX8_put_10 : decode cX8_put 10 = .ok (.if_icmp .eq 11, 3) := by decide +kernel
theorem dX8_put_13 : decode cX8_put 13 = .ok (.aload_n 0, 1) := by decide +kernel
theorem dX8_put_14 : decode cX8_put 14 = .ok (.iload_n 2, 1) := by decide +kernel
theorem dX8_put_15 : decode cX8_put 15 = .ok (.invokevirtual 265, 3) := by decide +kernel
theorem dX8_put_18 : decode cX8_put 18 = .ok (.ifCond .eq 29, 3) := by decide +kernel
theorem dX8_put_21 : decode cX8_put 21 = .ok (.aload_n 0, 1) := by decide +kernel
theorem dX8_put_22 : decode cX8_put 22 = .ok (.iload_n 1, 1) := by decide +kernel
theorem dX8_put_23 : decode cX8_put 23 = .ok (.iconst 2, 1) := by decide +kernel
theorem dX8_put_24 : decode cX8_put 24 = .ok (.invokevirtual 77, 3) := by decide +kernel
theorem dX8_put_27 : decode cX8_put 27 = .ok (.iload_n 2, 1) := by decide +kernel
theorem dX8_put_28 : decode cX8_put 28 = .ok (.if_icmp .eq 19, 3) := by decide +kernel
theorem dX8_put_31 : decode cX8_put 31 = .ok (.iload_n 2, 1) := by decide +kernel
theorem dX8_put_32 : decode cX8_put 32 = .ok (.ifCond .lt 17, 3) := by decide +kernel
theorem dX8_put_35 : decode cX8_put 35 = .ok (.aload_n 0, 1) := by decide +kernel
theorem dX8_put_36 : decode cX8_put 36 = .ok (.iload_n 2, 1) := by decide +kernel
theorem dX8_put_37 : decode cX8_put 37 = .ok (.invokevirtual 281, 3) := by decide +kernel
theorem dX8_put_40 : decode cX8_put 40 = .ok (.invokestatic 284, 3) := by decide +kernel
theorem dX8_put_43 : decode cX8_put 43 = .ok (.iconst 2, 1) := by decide +kernel
theorem dX8_put_44 : decode cX8_put 44 = .ok (.if_icmp .ne 5, 3) := by decide +kernel
theorem dX8_put_47 : decode cX8_put 47 = .ok (.iconst 0, 1) := by decide +kernel
theorem dX8_put_48 : decode cX8_put 48 = .ok (.ireturn, 1) := by decide +kernel
theorem dX8_put_49 : decode cX8_put 49 = .ok (.aload_n 0, 1) := by decide +kernel
theorem dX8_put_50 : decode cX8_put 50 = .ok (.invokevirtual 268, 3) := by decide +kernel
theorem dX8_put_53 : decode cX8_put 53 = .ok (.aload_n 0, 1) := by decide +kernel
theorem dX8_put_54 : decode cX8_put 54 = .ok (.iload_n 1, 1) := by decide +kernel
theorem dX8_put_55 : decode cX8_put 55 = .ok (.iload_n 2, 1) := by decide +kernel
theorem dX8_put_56 : decode cX8_put 56 = .ok (.invokevirtual 287, 3) := by decide +kernel
theorem dX8_put_59 : decode cX8_put 59 = .ok (.iconst 1, 1) := by decide +kernel
theorem dX8_put_60 : decode cX8_put 60 = .ok (.ireturn, 1) := by decide +kernel
theorem dX8_exchange_0 : decode cX8_exchange 0 = .ok (.aload_n 0, 1) := by decide +kernel
theorem dX8_exchange_1 : decode cX8_exchange 1 = .ok (.iload_n 1, 1) := by decide +kernel
theorem dX8_exchange_2 : decode cX8_exchange 2 = .ok (.iconst 2, 1) := by decide +kernel
theorem dX8_exchange_3 : decode cX8_exchange 3 = .ok (.invokevirtual 77, 3) := by decide +kernel
theorem dX8_exchange_6 : decode cX8_exchange 6 = .ok (.istore_n 3, 1) := by decide +kernel
theorem dX8_exchange_7 : decode cX8_exchange 7 = .ok (.aload_n 0, 1) := by decide +kernel
theorem dX8_exchange_8 : decode cX8_exchange 8 = .ok (.iload_n 1, 1) := by decide +kernel
theorem dX8_exchange_9 : decode cX8_exchange 9 = .ok (.aload_n 0, 1) := by decide +kernel
theorem dX8_exchange_10 : decode cX8_exchange 10 = .ok (.iload_n 2, 1) := by decide +kernel
theorem dX8_exchange_11 : decode cX8_exchange 11 = .ok (.iconst 2, 1) := by decide +kernel
theorem dX8_exchange_12 : decode cX8_exchange 12 = .ok (.invokevirtual 77, 3) := by decide +kernel
theorem dX8_exchange_15 : decode cX8_exchange 15 = .ok (.invokevirtual 287, 3) := by decide +kernel
theorem dX8_exchange_18 : decode cX8_exchange 18 = .ok (.aload_n 0, 1) := by decide +kernel
theorem dX8_exchange_19 : decode cX8_exchange 19 = .ok (.iload_n 2, 1) := by decide +kernel
theorem dX8_exchange_20 : decode cX8_exchange 20 = .ok (.iload_n 3, 1) := by decide +kernel
theorem dX8_exchange_21 : decode cX8_exchange 21 = .ok (.invokevirtual 287, 3) := by decide +kernel
theorem dX8_exchange_24 : decode cX8_exchange 24 = .ok (.return_, 1) := by decide +kernel
theorem dX8_swap_0 : decode cX8_swap 0 = .ok (.aload_n 0, 1) := by decide +kernel
theorem dX8_swap_1 : decode cX8_swap 1 = .ok (.iload_n 1, 1) := by decide +kernel
theorem dX8_swap_2 : decode cX8_swap 2 = .ok (.invokevirtual 278, 3) := by decide +kernel
theorem dX8_swap_5 : decode cX8_swap 5 = .ok (.ifCond .eq 16, 3) := by decide +kernel
theorem dX8_swap_8 : decode cX8_swap 8 = .ok (.aload_n 0, 1) := by decide +kernel
theorem dX8_swap_9 : decode cX8_swap 9 = .ok (.iload_n 2, 1) := by decide +kernel
theorem dX8_swap_10 : decode cX8_swap 10 = .ok (.invokevirtual 278, 3) := by decide +kernel
theorem dX8_swap_13 : decode cX8_swap 13 = .ok (.ifCond .eq 8, 3) := by decide +kernel
theorem dX8_swap_16 : decode cX8_swap 16 = .ok (.iload_n 1, 1) := by decide +kernel
theorem dX8_swap_17 : decode cX8_swap 17 = .ok (.iload_n 2, 1) := by decide +kernel
theorem dX8_swap_18 : decode cX8_swap 18 = .ok (.if_icmp .ne 5, 3) := by decide +kernel
theorem dX8_swap_21 : decode cX8_swap 21 = .ok (.iconst 0, 1) := by decide +kernel
theorem dX8_swap_22 : decode cX8_swap 22 = .ok (.ireturn, 1) := by decide +kernel
theorem dX8_swap_23 : decode cX8_swap 23 = .ok (.aload_n 0, 1) := by decide +kernel
theorem dX8_swap_24 : decode cX8_swap 24 = .ok (.invokevirtual 268, 3) := by decide +kernel
theorem dX8_swap_27 : decode cX8_swap 27 = .ok (.aload_n 0, 1) := by decide +kernel
theorem dX8_swap_28 : decode cX8_swap 28 = .ok (.iload_n 1, 1) := by decide +kernel
theorem dX8_swap_29 : decode cX8_swap 29 = .ok (.iload_n 2, 1) := by decide +kernel
theorem dX8_swap_30 : decode cX8_swap 30 = .ok (.invokevirtual 290, 3) := by decide +kernel
theorem dX8_swap_33 : decode cX8_swap 33 = .ok (.iconst 1, 1) := by decide +kernel
theorem dX8_swap_34 : decode cX8_swap 34 = .ok (.ireturn, 1) := by decide +kernel
theorem dX8_polish_0 : decode cX8_polish 0 = .ok (.aload_n 0, 1) := by decide +kernel
theorem dX8_polish_1 : decode cX8_polish 1 = .ok (.iload_n 1, 1) := by decide +kernel
theorem dX8_polish_2 : decode cX8_polish 2 = .ok (.invokevirtual 278, 3) := by decide +kernel
theorem dX8_polish_5 : decode cX8_polish 5 = .ok (.ifCond .ne 5, 3) := by decide +kernel
theorem dX8_polish_8 : decode cX8_polish 8 = .ok (.iconst (-1), 1) := by decide +kernel
theorem dX8_polish_9 : decode cX8_polish 9 = .ok (.ireturn, 1) := by decide +kernel
theorem dX8_polish_10 : decode cX8_polish 10 = .ok (.aload_n 0, 1) := by decide +kernel
theorem dX8_polish_11 : decode cX8_polish 11 = .ok (.invokevirtual 268, 3) := by decide +kernel
theorem dX8_polish_14 : decode cX8_polish 14 = .ok (.aload_n 0, 1) := by decide +kernel
theorem dX8_polish_15 : decode cX8_polish 15 = .ok (.iload_n 1, 1) := by decide +kernel
theorem dX8_polish_16 : decode cX8_polish 16 = .ok (.invokevirtual 257, 3) := by decide +kernel
theorem dX8_polish_19 : decode cX8_polish 19 = .ok (.istore_n 2, 1) := by decide +kernel
theorem dX8_polish_20 : decode cX8_polish 20 = .ok (.iconst 0, 1) := by decide +kernel
theorem dX8_polish_21 : decode cX8_polish 21 = .ok (.istore_n 3, 1) := by decide +kernel
theorem dX8_polish_22 : decode cX8_polish 22 = .ok (.iload_n 3, 1) := by decide +kernel
theorem dX8_polish_23 : decode cX8_polish 23 = .ok (.iconst 4, 1) := by decide +kernel
theorem dX8_polish_24 : decode cX8_polish 24 = .ok (.if_icmp .ge 18, 3) := by decide +kernel
theorem dX8_polish_27 : decode cX8_polish 27 = .ok (.aload_n 0, 1) := by decide +kernel
theorem dX8_polish_28 : decode cX8_polish 28 = .ok (.iload_n 1, 1) := by decide +kernel
theorem dX8_polish_29 : decode cX8_polish 29 = .ok (.iconst 4, 1) := by decide +kernel
theorem dX8_polish_30 : decode cX8_polish 30 = .ok (.iload_n 3, 1) := by decide +kernel
theorem dX8_polish_31 : decode cX8_polish 31 = .ok (.iadd, 1) := by decide +kernel
theorem dX8_polish_32 : decode cX8_polish 32 = .ok (.iconst (-1), 1) := by decide +kernel
theorem dX8_polish_33 : decode cX8_polish 33 = .ok (.invokevirtual 73, 3) := by decide +kernel
theorem dX8_polish_36 : decode cX8_polish 36 = .ok (.iinc 3 1, 3) := by decide +kernel
theorem dX8_polish_39 : decode cX8_polish 39 = .ok (.goto (-17), 3) := by decide +kernel
theorem dX8_polish_42 : decode cX8_polish 42 = .ok (.iload_n 2, 1) := by decide +kernel
theorem dX8_polish_43 : decode cX8_polish 43 = .ok (.ireturn, 1) := by decide +kernel
theorem dX8_isDone_0 : decode cX8_isDone 0 = .ok (.aload_n 0, 1) := by decide +kernel
theorem dX8_isDone_1 : decode cX8_isDone 1 = .ok (.getfield 19, 3) := by decide +kernel
theorem dX8_isDone_4 : decode cX8_isDone 4 = .ok (.iload_n 1, 1) := by decide +kernel
theorem dX8_isDone_5 : decode cX8_isDone 5 = .ok (.iconst 1, 1) := by decide +kernel
theorem dX8_isDone_6 : decode cX8_isDone 6 = .ok (.iadd, 1) := by decide +kernel
theorem dX8_isDone_7 : decode cX8_isDone 7 = .ok (.iaload, 1) := by decide +kernel
theorem dX8_isDone_8 : decode cX8_isDone 8 = .ok (.istore_n 2, 1) := by decide +kernel
theorem dX8_isDone_9 : decode cX8_isDone 9 = .ok (.aload_n 0, 1) := by decide +kernel
theorem dX8_isDone_10 : decode cX8_isDone 10 = .ok (.getfield 19, 3) := by decide +kernel
theorem dX8_isDone_13 : decode cX8_isDone 13 = .ok (.iload_n 1, 1) := by decide +kernel
theorem dX8_isDone_14 : decode cX8_isDone 14 = .ok (.iconst 2, 1) := by decide +kernel
theorem dX8_isDone_15 : decode cX8_isDone 15 = .ok (.iadd, 1) := by decide +kernel
theorem dX8_isDone_16 : decode cX8_isDone 16 = .ok (.iaload, 1) := by decide +kernel
theorem dX8_isDone_17 : decode cX8_isDone 17 = .ok (.istore_n 3, 1) := by decide +kernel
theorem dX8_isDone_18 : decode cX8_isDone 18 = .ok (.aload_n 0, 1) := by decide +kernel
theorem dX8_isDone_19 : decode cX8_isDone 19 = .ok (.getfield 19, 3) := by decide +kernel
theorem dX8_isDone_22 : decode cX8_isDone 22 = .ok (.iload_n 1, 1) := by decide +kernel
theorem dX8_isDone_23 : decode cX8_isDone 23 = .ok (.iaload, 1) := by decide +kernel
theorem dX8_isDone_24 : decode cX8_isDone 24 = .ok (.tableswitch 86 2 6 #[36, 51, 58, 65, 72], 36) := by decide +kernel
theorem dX8_isDone_60 : decode cX8_isDone 60 = .ok (.aload_n 0, 1) := by decide +kernel
theorem dX8_isDone_61 : decode cX8_isDone 61 = .ok (.iload_n 2, 1) := by decide +kernel
theorem dX8_isDone_62 : decode cX8_isDone 62 = .ok (.iload_n 3, 1) := by decide +kernel
theorem dX8_isDone_63 : decode cX8_isDone 63 = .ok (.invokevirtual 293, 3) := by decide +kernel
theorem dX8_isDone_66 : decode cX8_isDone 66 = .ok (.ifCond .lt 7, 3) := by decide +kernel
theorem dX8_isDone_69 : decode cX8_isDone 69 = .ok (.iconst 1, 1) := by decide +kernel
theorem dX8_isDone_70 : decode cX8_isDone 70 = .ok (.goto 4, 3) := by decide +kernel
theorem dX8_isDone_73 : decode cX8_isDone 73 = .ok (.iconst 0, 1) := by decide +kernel
theorem dX8_isDone_74 : decode cX8_isDone 74 = .ok (.ireturn, 1) := by decide +kernel
theorem dX8_isDone_75 : decode cX8_isDone 75 = .ok (.aload_n 0, 1) := by decide +kernel
theorem dX8_isDone_76 : decode cX8_isDone 76 = .ok (.iload_n 2, 1) := by decide +kernel
theorem dX8_isDone_77 : decode cX8_isDone 77 = .ok (.iload_n 3, 1) := by decide +kernel
theorem dX8_isDone_78 : decode cX8_isDone 78 = .ok (.invokevirtual 296, 3) := by decide +kernel
theorem dX8_isDone_81 : decode cX8_isDone 81 = .ok (.ireturn, 1) := by decide +kernel
theorem dX8_isDone_82 : decode cX8_isDone 82 = .ok (.aload_n 0, 1) := by decide +kernel
theorem dX8_isDone_83 : decode cX8_isDone 83 = .ok (.iload_n 2, 1) := by decide +kernel
theorem dX8_isDone_84 : decode cX8_isDone 84 = .ok (.iconst (-1), 1) := by decide +kernel
theorem dX8_isDone_85 : decode cX8_isDone 85 = .ok (.invokevirtual 296, 3) := by decide +kernel
theorem dX8_isDone_88 : decode cX8_isDone 88 = .ok (.ireturn, 1) := by decide +kernel
theorem dX8_isDone_89 : decode cX8_isDone 89 = .ok (.aload_n 0, 1) := by decide +kernel
theorem dX8_isDone_90 : decode cX8_isDone 90 = .ok (.iload_n 2, 1) := by decide +kernel
theorem dX8_isDone_91 : decode cX8_isDone 91 = .ok (.iload_n 3, 1) := by decide +kernel
theorem dX8_isDone_92 : decode cX8_isDone 92 = .ok (.invokevirtual 300, 3) := by decide +kernel
theorem dX8_isDone_95 : decode cX8_isDone 95 = .ok (.ireturn, 1) := by decide +kernel
theorem dX8_isDone_96 : decode cX8_isDone 96 = .ok (.aload_n 0, 1) := by decide +kernel
theorem dX8_isDone_97 : decode cX8_isDone 97 = .ok (.iload_n 2, 1) := by decide +kernel
theorem dX8_isDone_98 : decode cX8_isDone 98 = .ok (.invokevirtual 303, 3) := by decide +kernel
theorem dX8_isDone_101 : decode cX8_isDone 101 = .ok (.ifCond .lt 7, 3) := by decide +kernel
theorem dX8_isDone_104 : decode cX8_isDone 104 = .ok (.iconst 1, 1) := by decide +kernel
theorem dX8_isDone_105 : decode cX8_isDone 105 = .ok (.goto 4, 3) := by decide +kernel
theorem dX8_isDone_108 : decode cX8_isDone 108 = .ok (.iconst 0, 1) := by decide +kernel
theorem dX8_isDone_109 : decode cX8_isDone 109 = .ok (.ireturn, 1) := by decide +kernel
theorem dX8_isDone_110 : decode cX8_isDone 110 = .ok (.iconst 1, 1) := by decide +kernel
theorem dX8_isDone_111 : decode cX8_isDone 111 = .ok (.ireturn, 1) := by decide +kernel
theorem dX8_played_0 : decode cX8_played 0 = .ok (.aload_n 0, 1) := by decide +kernel
theorem dX8_played_1 : decode cX8_played 1 = .ok (.iload_n 1, 1) := by decide +kernel
theorem dX8_played_2 : decode cX8_played 2 = .ok (.invokevirtual 229, 3) := by decide +kernel
theorem dX8_played_5 : decode cX8_played 5 = .ok (.ifCond .ne 6, 3) := by decide +kernel
theorem dX8_played_8 : decode cX8_played 8 = .ok (.bipush (-2), 2) := by decide +kernel
theorem dX8_played_10 : decode cX8_played 10 = .ok (.ireturn, 1) := by decide +kernel
theorem dX8_played_11 : decode cX8_played 11 = .ok (.iconst 0, 1) := by decide +kernel
theorem dX8_played_12 : decode cX8_played 12 = .ok (.istore_n 2, 1) := by decide +kernel
theorem dX8_played_13 : decode cX8_played 13 = .ok (.iload_n 2, 1) := by decide +kernel
theorem dX8_played_14 : decode cX8_played 14 = .ok (.aload_n 0, 1) := by decide +kernel
theorem dX8_played_15 : decode cX8_played 15 = .ok (.getfield 19, 3) := by decide +kernel
theorem dX8_played_18 : decode cX8_played 18 = .ok (.sipush 680, 3) := by decide +kernel
theorem dX8_played_21 : decode cX8_played 21 = .ok (.iload_n 1, 1) := by decide +kernel
theorem dX8_played_22 : decode cX8_played 22 = .ok (.imul, 1) := by decide +kernel
theorem dX8_played_23 : decode cX8_played 23 = .ok (.iaload, 1) := by decide +kernel
theorem dX8_played_24 : decode cX8_played 24 = .ok (.if_icmp .ge 29, 3) := by decide +kernel
theorem dX8_played_27 : decode cX8_played 27 = .ok (.aload_n 0, 1) := by decide +kernel
theorem dX8_played_28 : decode cX8_played 28 = .ok (.sipush 680, 3) := by decide +kernel
theorem dX8_played_31 : decode cX8_played 31 = .ok (.iload_n 1, 1) := by decide +kernel
theorem dX8_played_32 : decode cX8_played 32 = .ok (.imul, 1) := by decide +kernel
theorem dX8_played_33 : decode cX8_played 33 = .ok (.iconst 1, 1) := by decide +kernel
theorem dX8_played_34 : decode cX8_played 34 = .ok (.iadd, 1) := by decide +kernel
theorem dX8_played_35 : decode cX8_played 35 = .ok (.iconst 3, 1) := by decide +kernel
theorem dX8_played_36 : decode cX8_played 36 = .ok (.iload_n 2, 1) := by decide +kernel
theorem dX8_played_37 : decode cX8_played 37 = .ok (.imul, 1) := by decide +kernel
theorem dX8_played_38 : decode cX8_played 38 = .ok (.iadd, 1) := by decide +kernel
theorem dX8_played_39 : decode cX8_played 39 = .ok (.invokevirtual 306, 3) := by decide +kernel
theorem dX8_played_42 : decode cX8_played 42 = .ok (.ifCond .ne 5, 3) := by decide +kernel
theorem dX8_played_45 : decode cX8_played 45 = .ok (.iload_n 2, 1) := by decide +kernel
theorem dX8_played_46 : decode cX8_played 46 = .ok (.ireturn, 1) := by decide +kernel
theorem dX8_played_47 : decode cX8_played 47 = .ok (.iinc 2 1, 3) := by decide +kernel
theorem dX8_played_50 : decode cX8_played 50 = .ok (.goto (-37), 3) := by decide +kernel
theorem dX8_played_53 : decode cX8_played 53 = .ok (.iconst (-1), 1) := by decide +kernel
theorem dX8_played_54 : decode cX8_played 54 = .ok (.ireturn, 1) := by decide +kernel
theorem dX8_cat_0 : decode cX8_cat 0 = .ok (.iload_n 1, 1) := by decide +kernel
theorem dX8_cat_1 : decode cX8_cat 1 = .ok (.iconst 0, 1) := by decide +kernel
theorem dX8_cat_2 : decode cX8_cat 2 = .ok (.sipush 9999, 3) := by decide +kernel
theorem dX8_cat_5 : decode cX8_cat 5 = .ok (.invokestatic 69, 3) := by decide +kernel
theorem dX8_cat_8 : decode cX8_cat 8 = .ok (.ifCond .eq 22, 3) := by decide +kernel
theorem dX8_cat_11 : decode cX8_cat 11 = .ok (.iload_n 2, 1) := by decide +kernel
theorem dX8_cat_12 : decode cX8_cat 12 = .ok (.iconst 1, 1) := by decide +kernel
theorem dX8_cat_13 : decode cX8_cat 13 = .ok (.bipush 40, 2) := by decide +kernel
theorem dX8_cat_15 : decode cX8_cat 15 = .ok (.invokestatic 69, 3) := by decide +kernel
theorem dX8_cat_18 : decode cX8_cat 18 = .ok (.ifCond .eq 12, 3) := by decide +kernel
theorem dX8_cat_21 : decode cX8_cat 21 = .ok (.aload_n 0, 1) := by decide +kernel
theorem dX8_cat_22 : decode cX8_cat 22 = .ok (.getfield 7, 3) := by decide +kernel
theorem dX8_cat_25 : decode cX8_cat 25 = .ok (.iconst 1, 1) := by decide +kernel
theorem dX8_cat_26 : decode cX8_cat 26 = .ok (.iaload, 1) := by decide +kernel
theorem dX8_cat_27 : decode cX8_cat 27 = .ok (.ifCond .ne 5, 3) := by decide +kernel
theorem dX8_cat_30 : decode cX8_cat 30 = .ok (.iconst (-1), 1) := by decide +kernel
theorem dX8_cat_31 : decode cX8_cat 31 = .ok (.ireturn, 1) := by decide +kernel
theorem dX8_cat_32 : decode cX8_cat 32 = .ok (.aload_n 0, 1) := by decide +kernel
theorem dX8_cat_33 : decode cX8_cat 33 = .ok (.invokevirtual 268, 3) := by decide +kernel
theorem dX8_cat_36 : decode cX8_cat 36 = .ok (.iload_n 1, 1) := by decide +kernel
theorem dX8_cat_37 : decode cX8_cat 37 = .ok (.bipush 6, 2) := by decide +kernel
theorem dX8_cat_39 : decode cX8_cat 39 = .ok (.imul, 1) := by decide +kernel
theorem dX8_cat_40 : decode cX8_cat 40 = .ok (.iconst 1, 1) := by decide +kernel
theorem dX8_cat_41 : decode cX8_cat 41 = .ok (.iadd, 1) := by decide +kernel
theorem dX8_cat_42 : decode cX8_cat 42 = .ok (.istore_n 3, 1) := by decide +kernel
theorem dX8_cat_43 : decode cX8_cat 43 = .ok (.iconst 0, 1) := by decide +kernel
theorem dX8_cat_44 : decode cX8_cat 44 = .ok (.istore 4, 2) := by decide +kernel
theorem dX8_cat_46 : decode cX8_cat 46 = .ok (.iconst 0, 1) := by decide +kernel
theorem dX8_cat_47 : decode cX8_cat 47 = .ok (.istore 5, 2) := by decide +kernel
theorem dX8_cat_49 : decode cX8_cat 49 = .ok (.iload 5, 2) := by decide +kernel
theorem dX8_cat_51 : decode cX8_cat 51 = .ok (.iload_n 2, 1) := by decide +kernel
theorem dX8_cat_52 : decode cX8_cat 52 = .ok (.if_icmp .ge 76, 3) := by decide +kernel
theorem dX8_cat_55 : decode cX8_cat 55 = .ok (.iload_n 3, 1) := by decide +kernel
theorem dX8_cat_56 : decode cX8_cat 56 = .ok (.aload_n 0, 1) := by decide +kernel
theorem dX8_cat_57 : decode cX8_cat 57 = .ok (.getfield 7, 3) := by decide +kernel
theorem dX8_cat_60 : decode cX8_cat 60 = .ok (.iconst 1, 1) := by decide +kernel
theorem dX8_cat_61 : decode cX8_cat 61 = .ok (.iaload, 1) := by decide +kernel
theorem dX8_cat_62 : decode cX8_cat 62 = .ok (.irem, 1) := by decide +kernel
theorem dX8_cat_63 : decode cX8_cat 63 = .ok (.istore 6, 2) := by decide +kernel
theorem dX8_cat_65 : decode cX8_cat 65 = .ok (.iload_n 3, 1) := by decide +kernel
theorem dX8_cat_66 : decode cX8_cat 66 = .ok (.sipush 211, 3) := by decide +kernel
theorem dX8_cat_69 : decode cX8_cat 69 = .ok (.imul, 1) := by decide +kernel
theorem dX8_cat_70 : decode cX8_cat 70 = .ok (.bipush 83, 2) := by decide +kernel
theorem dX8_cat_72 : decode cX8_cat 72 = .ok (.iadd, 1) := by decide +kernel
theorem dX8_cat_73 : decode cX8_cat 73 = .ok (.sipush 30071, 3) := by decide +kernel
theorem dX8_cat_76 : decode cX8_cat 76 = .ok (.irem, 1) := by decide +kernel
theorem dX8_cat_77 : decode cX8_cat 77 = .ok (.istore_n 3, 1) := by decide +kernel
theorem dX8_cat_78 : decode cX8_cat 78 = .ok (.iload_n 3, 1) := by decide +kernel
theorem dX8_cat_79 : decode cX8_cat 79 = .ok (.aload_n 0, 1) := by decide +kernel
theorem dX8_cat_80 : decode cX8_cat 80 = .ok (.getfield 7, 3) := by decide +kernel
theorem dX8_cat_83 : decode cX8_cat 83 = .ok (.iconst 1, 1) := by decide +kernel
theorem dX8_cat_84 : decode cX8_cat 84 = .ok (.iaload, 1) := by decide +kernel
theorem dX8_cat_85 : decode cX8_cat 85 = .ok (.irem, 1) := by decide +kernel
theorem dX8_cat_86 : decode cX8_cat 86 = .ok (.istore 7, 2) := by decide +kernel
theorem dX8_cat_88 : decode cX8_cat 88 = .ok (.iload_n 3, 1) := by decide +kernel
theorem dX8_cat_89 : decode cX8_cat 89 = .ok (.sipush 211, 3) := by decide +kernel
theorem dX8_cat_92 : decode cX8_cat 92 = .ok (.imul, 1) := by decide +kernel
theorem dX8_cat_93 : decode cX8_cat 93 = .ok (.bipush 83, 2) := by decide +kernel
theorem dX8_cat_95 : decode cX8_cat 95 = .ok (.iadd, 1) := by decide +kernel
theorem dX8_cat_96 : decode cX8_cat 96 = .ok (.sipush 30071, 3) := by decide +kernel
theorem dX8_cat_99 : decode cX8_cat 99 = .ok (.irem, 1) := by decide +kernel
theorem dX8_cat_100 : decode cX8_cat 100 = .ok (.istore_n 3, 1) := by decide +kernel
theorem dX8_cat_101 : decode cX8_cat 101 = .ok (.iload 6, 2) := by decide +kernel
theorem dX8_cat_103 : decode cX8_cat 103 = .ok (.iload 7, 2) := by decide +kernel
theorem dX8_cat_105 : decode cX8_cat 105 = .ok (.if_icmp .ne 6, 3) := by decide +kernel
theorem dX8_cat_108 : decode cX8_cat 108 = .ok (.goto 14, 3) := by decide +kernel
theorem dX8_cat_111 : decode cX8_cat 111 = .ok (.aload_n 0, 1) := by decide +kernel
theorem dX8_cat_112 : decode cX8_cat 112 = .ok (.iload 6, 2) := by decide +kernel
theorem dX8_cat_114 : decode cX8_cat 114 = .ok (.iload 7, 2) := by decide +kernel
theorem dX8_cat_116 : decode cX8_cat 116 = .ok (.invokevirtual 290, 3) := by decide +kernel
theorem dX8_cat_119 : decode cX8_cat 119 = .ok (.iinc 4 1, 3) := by decide +kernel
theorem dX8_cat_122 : decode cX8_cat 122 = .ok (.iinc 5 1, 3) := by decide +kernel
theorem dX8_cat_125 : decode cX8_cat 125 = .ok (.goto (-76), 3) := by decide +kernel
theorem dX8_cat_128 : decode cX8_cat 128 = .ok (.iload 4, 2) := by decide +kernel
theorem dX8_cat_130 : decode cX8_cat 130 = .ok (.ireturn, 1) := by decide +kernel
theorem dX8_of_0 : decode cX8_of 0 = .ok (.aload_n 0, 1) := by decide +kernel
theorem dX8_of_1 : decode cX8_of 1 = .ok (.iload_n 1, 1) := by decide +kernel
theorem dX8_of_2 : decode cX8_of 2 = .ok (.invokevirtual 278, 3) := by decide +kernel
theorem dX8_of_5 : decode cX8_of 5 = .ok (.ifCond .eq 13, 3) := by decide +kernel
theorem dX8_of_8 : decode cX8_of 8 = .ok (.iload_n 2, 1) := by decide +kernel
theorem dX8_of_9 : decode cX8_of 9 = .ok (.iconst 0, 1) := by decide +kernel
theorem dX8_of_10 : decode cX8_of 10 = .ok (.bipush 8, 2) := by decide +kernel
theorem dX8_of_12 : decode cX8_of 12 = .ok (.invokestatic 69, 3) := by decide +kernel
theorem dX8_of_15 : decode cX8_of 15 = .ok (.ifCond .ne 6, 3) := by decide +kernel
theorem dX8_of_18 : decode cX8_of 18 = .ok (.bipush (-2), 2) := by decide +kernel
theorem dX8_of_20 : decode cX8_of 20 = .ok (.ireturn, 1) := by decide +kernel
theorem dX8_of_21 : decode cX8_of 21 = .ok (.iload_n 2, 1) := by decide +kernel
theorem dX8_of_22 : decode cX8_of 22 = .ok (.iconst 4, 1) := by decide +kernel
theorem dX8_of_23 : decode cX8_of 23 = .ok (.if_icmp .ge 12, 3) := by decide +kernel
theorem dX8_of_26 : decode cX8_of 26 = .ok (.aload_n 0, 1) := by decide +kernel
theorem dX8_of_27 : decode cX8_of 27 = .ok (.iload_n 1, 1) := by decide +kernel
theorem dX8_of_28 : decode cX8_of 28 = .ok (.iconst 4, 1) := by decide +kernel
theorem dX8_of_29 : decode cX8_of 29 = .ok (.iload_n 2, 1) := by decide +kernel
theorem dX8_of_30 : decode cX8_of 30 = .ok (.iadd, 1) := by decide +kernel
theorem dX8_of_31 : decode cX8_of 31 = .ok (.invokevirtual 77, 3) := by decide +kernel
theorem dX8_of_34 : decode cX8_of 34 = .ok (.ireturn, 1) := by decide +kernel
theorem dX8_of_35 : decode cX8_of 35 = .ok (.iload_n 2, 1) := by decide +kernel
theorem dX8_of_36 : decode cX8_of 36 = .ok (.bipush 8, 2) := by decide +kernel
theorem dX8_of_38 : decode cX8_of 38 = .ok (.if_icmp .ne 9, 3) := by decide +kernel
theorem dX8_of_41 : decode cX8_of 41 = .ok (.aload_n 0, 1) := by decide +kernel
theorem dX8_of_42 : decode cX8_of 42 = .ok (.iload_n 1, 1) := by decide +kernel
theorem dX8_of_43 : decode cX8_of 43 = .ok (.invokevirtual 309, 3) := by decide +kernel
theorem dX8_of_46 : decode cX8_of 46 = .ok (.ireturn, 1) := by decide +kernel
theorem dX8_of_47 : decode cX8_of 47 = .ok (.iload_n 2, 1) := by decide +kernel
theorem dX8_of_48 : decode cX8_of 48 = .ok (.iconst 4, 1) := by decide +kernel
theorem dX8_of_49 : decode cX8_of 49 = .ok (.if_icmp .ne 12, 3) := by decide +kernel
theorem dX8_of_52 : decode cX8_of 52 = .ok (.aload_n 0, 1) := by decide +kernel
theorem dX8_of_53 : decode cX8_of 53 = .ok (.iload_n 1, 1) := by decide +kernel
theorem dX8_of_54 : decode cX8_of 54 = .ok (.iconst 2, 1) := by decide +kernel
theorem dX8_of_55 : decode cX8_of 55 = .ok (.invokevirtual 77, 3) := by decide +kernel
theorem dX8_of_58 : decode cX8_of 58 = .ok (.goto 26, 3) := by decide +kernel
theorem dX8_of_61 : decode cX8_of 61 = .ok (.iload_n 2, 1) := by decide +kernel
theorem dX8_of_62 : decode cX8_of 62 = .ok (.iconst 5, 1) := by decide +kernel
theorem dX8_of_63 : decode cX8_of 63 = .ok (.if_icmp .ne 12, 3) := by decide +kernel
theorem dX8_of_66 : decode cX8_of 66 = .ok (.aload_n 0, 1) := by decide +kernel
theorem dX8_of_67 : decode cX8_of 67 = .ok (.iload_n 1, 1) := by decide +kernel
theorem dX8_of_68 : decode cX8_of 68 = .ok (.iconst 3, 1) := by decide +kernel
theorem dX8_of_69 : decode cX8_of 69 = .ok (.invokevirtual 77, 3) := by decide +kernel
theorem dX8_of_72 : decode cX8_of 72 = .ok (.goto 12, 3) := by decide +kernel
theorem dX8_of_75 : decode cX8_of 75 = .ok (.aload_n 0, 1) := by decide +kernel
theorem dX8_of_76 : decode cX8_of 76 = .ok (.iload_n 1, 1) := by decide +kernel
theorem dX8_of_77 : decode cX8_of 77 = .ok (.iload_n 2, 1) := by decide +kernel
theorem dX8_of_78 : decode cX8_of 78 = .ok (.bipush 6, 2) := by decide +kernel
theorem dX8_of_80 : decode cX8_of 80 = .ok (.isub, 1) := by decide +kernel
theorem dX8_of_81 : decode cX8_of 81 = .ok (.invokevirtual 77, 3) := by decide +kernel
theorem dX8_of_84 : decode cX8_of 84 = .ok (.ireturn, 1) := by decide +kernel
theorem dX8_tellOn_0 : decode cX8_tellOn 0 = .ok (.iconst 1, 1) := by decide +kernel
theorem dX8_tellOn_1 : decode cX8_tellOn 1 = .ok (.istore_n 2, 1) := by decide +kernel
theorem dX8_tellOn_2 : decode cX8_tellOn 2 = .ok (.iconst 0, 1) := by decide +kernel
theorem dX8_tellOn_3 : decode cX8_tellOn 3 = .ok (.istore_n 3, 1) := by decide +kernel
theorem dX8_tellOn_4 : decode cX8_tellOn 4 = .ok (.iload_n 3, 1) := by decide +kernel
theorem dX8_tellOn_5 : decode cX8_tellOn 5 = .ok (.aload_n 0, 1) := by decide +kernel
theorem dX8_tellOn_6 : decode cX8_tellOn 6 = .ok (.getfield 19, 3) := by decide +kernel
theorem dX8_tellOn_9 : decode cX8_tellOn 9 = .ok (.sipush 680, 3) := by decide +kernel
theorem dX8_tellOn_12 : decode cX8_tellOn 12 = .ok (.iload_n 1, 1) := by decide +kernel
theorem dX8_tellOn_13 : decode cX8_tellOn 13 = .ok (.imul, 1) := by decide +kernel
theorem dX8_tellOn_14 : decode cX8_tellOn 14 = .ok (.iaload, 1) := by decide +kernel
theorem dX8_tellOn_15 : decode cX8_tellOn 15 = .ok (.if_icmp .ge 25, 3) := by decide +kernel
theorem dX8_tellOn_18 : decode cX8_tellOn 18 = .ok (.aload_n 0, 1) := by decide +kernel
theorem dX8_tellOn_19 : decode cX8_tellOn 19 = .ok (.sipush 680, 3) := by decide +kernel
theorem dX8_tellOn_22 : decode cX8_tellOn 22 = .ok (.iload_n 1, 1) := by decide +kernel
theorem dX8_tellOn_23 : decode cX8_tellOn 23 = .ok (.imul, 1) := by decide +kernel
theorem dX8_tellOn_24 : decode cX8_tellOn 24 = .ok (.iconst 1, 1) := by decide +kernel
theorem dX8_tellOn_25 : decode cX8_tellOn 25 = .ok (.iadd, 1) := by decide +kernel
theorem dX8_tellOn_26 : decode cX8_tellOn 26 = .ok (.iconst 3, 1) := by decide +kernel
theorem dX8_tellOn_27 : decode cX8_tellOn 27 = .ok (.iload_n 3, 1) := by decide +kernel
theorem dX8_tellOn_28 : decode cX8_tellOn 28 = .ok (.imul, 1) := by decide +kernel
theorem dX8_tellOn_29 : decode cX8_tellOn 29 = .ok (.iadd, 1) := by decide +kernel
theorem dX8_tellOn_30 : decode cX8_tellOn 30 = .ok (.invokevirtual 306, 3) := by decide +kernel
theorem dX8_tellOn_33 : decode cX8_tellOn 33 = .ok (.istore_n 2, 1) := by decide +kernel
theorem dX8_tellOn_34 : decode cX8_tellOn 34 = .ok (.iinc 3 1, 3) := by decide +kernel
theorem dX8_tellOn_37 : decode cX8_tellOn 37 = .ok (.goto (-33), 3) := by decide +kernel
theorem dX8_tellOn_40 : decode cX8_tellOn 40 = .ok (.return_, 1) := by decide +kernel
theorem dX8_tell_0 : decode cX8_tell 0 = .ok (.aload_n 0, 1) := by decide +kernel
theorem dX8_tell_1 : decode cX8_tell 1 = .ok (.getfield 7, 3) := by decide +kernel
theorem dX8_tell_4 : decode cX8_tell 4 = .ok (.aload_n 0, 1) := by decide +kernel
theorem dX8_tell_5 : decode cX8_tell 5 = .ok (.getfield 16, 3) := by decide +kernel
theorem dX8_tell_8 : decode cX8_tell 8 = .ok (.invokestatic 65, 3) := by decide +kernel
theorem dX8_tell_11 : decode cX8_tell 11 = .ok (.aload_n 0, 1) := by decide +kernel
theorem dX8_tell_12 : decode cX8_tell 12 = .ok (.iload_n 1, 1) := by decide +kernel
theorem dX8_tell_13 : decode cX8_tell 13 = .ok (.invokevirtual 312, 3) := by decide +kernel
theorem dX8_tell_16 : decode cX8_tell 16 = .ok (.iconst 0, 1) := by decide +kernel
theorem dX8_tell_17 : decode cX8_tell 17 = .ok (.istore_n 2, 1) := by decide +kernel
theorem dX8_tell_18 : decode cX8_tell 18 = .ok (.iload_n 2, 1) := by decide +kernel
theorem dX8_tell_19 : decode cX8_tell 19 = .ok (.bipush 8, 2) := by decide +kernel
theorem dX8_tell_21 : decode cX8_tell 21 = .ok (.if_icmp .ge 45, 3) := by decide +kernel
theorem dX8_tell_24 : decode cX8_tell 24 = .ok (.iconst 0, 1) := by decide +kernel
theorem dX8_tell_25 : decode cX8_tell 25 = .ok (.istore_n 3, 1) := by decide +kernel
theorem dX8_tell_26 : decode cX8_tell 26 = .ok (.iload_n 3, 1) := by decide +kernel
theorem dX8_tell_27 : decode cX8_tell 27 = .ok (.iconst 4, 1) := by decide +kernel
theorem dX8_tell_28 : decode cX8_tell 28 = .ok (.if_icmp .ge 32, 3) := by decide +kernel
theorem dX8_tell_31 : decode cX8_tell 31 = .ok (.aload_n 0, 1) := by decide +kernel
theorem dX8_tell_32 : decode cX8_tell 32 = .ok (.getfield 46, 3) := by decide +kernel
theorem dX8_tell_35 : decode cX8_tell 35 = .ok (.bipush 32, 2) := by decide +kernel
theorem dX8_tell_37 : decode cX8_tell 37 = .ok (.iload_n 1, 1) := by decide +kernel
theorem dX8_tell_38 : decode cX8_tell 38 = .ok (.imul, 1) := by decide +kernel
theorem dX8_tell_39 : decode cX8_tell 39 = .ok (.iconst 4, 1) := by decide +kernel
theorem dX8_tell_40 : decode cX8_tell 40 = .ok (.iload_n 2, 1) := by decide +kernel
theorem dX8_tell_41 : decode cX8_tell 41 = .ok (.imul, 1) := by decide +kernel
theorem dX8_tell_42 : decode cX8_tell 42 = .ok (.iadd, 1) := by decide +kernel
theorem dX8_tell_43 : decode cX8_tell 43 = .ok (.iload_n 3, 1) := by decide +kernel
theorem dX8_tell_44 : decode cX8_tell 44 = .ok (.iadd, 1) := by decide +kernel
theorem dX8_tell_45 : decode cX8_tell 45 = .ok (.aload_n 0, 1) := by decide +kernel
theorem dX8_tell_46 : decode cX8_tell 46 = .ok (.iload_n 2, 1) := by decide +kernel
theorem dX8_tell_47 : decode cX8_tell 47 = .ok (.iconst 4, 1) := by decide +kernel
theorem dX8_tell_48 : decode cX8_tell 48 = .ok (.iload_n 3, 1) := by decide +kernel
theorem dX8_tell_49 : decode cX8_tell 49 = .ok (.iadd, 1) := by decide +kernel
theorem dX8_tell_50 : decode cX8_tell 50 = .ok (.invokevirtual 77, 3) := by decide +kernel
theorem dX8_tell_53 : decode cX8_tell 53 = .ok (.iastore, 1) := by decide +kernel
theorem dX8_tell_54 : decode cX8_tell 54 = .ok (.iinc 3 1, 3) := by decide +kernel
theorem dX8_tell_57 : decode cX8_tell 57 = .ok (.goto (-31), 3) := by decide +kernel
theorem dX8_tell_60 : decode cX8_tell 60 = .ok (.iinc 2 1, 3) := by decide +kernel
theorem dX8_tell_63 : decode cX8_tell 63 = .ok (.goto (-45), 3) := by decide +kernel
theorem dX8_tell_66 : decode cX8_tell 66 = .ok (.aload_n 0, 1) := by decide +kernel
theorem dX8_tell_67 : decode cX8_tell 67 = .ok (.getfield 16, 3) := by decide +kernel
theorem dX8_tell_70 : decode cX8_tell 70 = .ok (.aload_n 0, 1) := by decide +kernel
theorem dX8_tell_71 : decode cX8_tell 71 = .ok (.getfield 7, 3) := by decide +kernel
theorem dX8_tell_74 : decode cX8_tell 74 = .ok (.invokestatic 65, 3) := by decide +kernel
theorem dX8_tell_77 : decode cX8_tell 77 = .ok (.return_, 1) := by decide +kernel
theorem dX8_told_0 : decode cX8_told 0 = .ok (.aload_n 0, 1) := by decide +kernel
theorem dX8_told_1 : decode cX8_told 1 = .ok (.iload_n 1, 1) := by decide +kernel
theorem dX8_told_2 : decode cX8_told 2 = .ok (.invokevirtual 229, 3) := by decide +kernel
theorem dX8_told_5 : decode cX8_told 5 = .ok (.ifCond .eq 20, 3) := by decide +kernel
theorem dX8_told_8 : decode cX8_told 8 = .ok (.aload_n 0, 1) := by decide +kernel
theorem dX8_told_9 : decode cX8_told 9 = .ok (.iload_n 2, 1) := by decide +kernel
theorem dX8_told_10 : decode cX8_told 10 = .ok (.invokevirtual 278, 3) := by decide +kernel
theorem dX8_told_13 : decode cX8_told 13 = .ok (.ifCond .eq 12, 3) := by decide +kernel
theorem dX8_told_16 : decode cX8_told 16 = .ok (.iload_n 3, 1) := by decide +kernel
theorem dX8_told_17 : decode cX8_told 17 = .ok (.iconst 0, 1) := by decide +kernel
theorem dX8_told_18 : decode cX8_told 18 = .ok (.iconst 3, 1) := by decide +kernel
theorem dX8_told_19 : decode cX8_told 19 = .ok (.invokestatic 69, 3) := by decide +kernel
theorem dX8_told_22 : decode cX8_told 22 = .ok (.ifCond .ne 6, 3) := by decide +kernel
theorem dX8_told_25 : decode cX8_told 25 = .ok (.bipush (-2), 2) := by decide +kernel
theorem dX8_told_27 : decode cX8_told 27 = .ok (.ireturn, 1) := by decide +kernel
theorem dX8_told_28 : decode cX8_told 28 = .ok (.aload_n 0, 1) := by decide +kernel
theorem dX8_told_29 : decode cX8_told 29 = .ok (.iload_n 1, 1) := by decide +kernel
theorem dX8_told_30 : decode cX8_told 30 = .ok (.invokevirtual 315, 3) := by decide +kernel
theorem dX8_told_33 : decode cX8_told 33 = .ok (.aload_n 0, 1) := by decide +kernel
theorem dX8_told_34 : decode cX8_told 34 = .ok (.getfield 46, 3) := by decide +kernel
theorem dX8_told_37 : decode cX8_told 37 = .ok (.bipush 32, 2) := by decide +kernel
theorem dX8_told_39 : decode cX8_told 39 = .ok (.iload_n 1, 1) := by decide +kernel
theorem dX8_told_40 : decode cX8_told 40 = .ok (.imul, 1) := by decide +kernel
theorem dX8_told_41 : decode cX8_told 41 = .ok (.iconst 4, 1) := by decide +kernel
theorem dX8_told_42 : decode cX8_told 42 = .ok (.iload_n 2, 1) := by decide +kernel
theorem dX8_told_43 : decode cX8_told 43 = .ok (.imul, 1) := by decide +kernel
theorem dX8_told_44 : decode cX8_told 44 = .ok (.iadd, 1) := by decide +kernel
theorem dX8_told_45 : decode cX8_told 45 = .ok (.iload_n 3, 1) := by decide +kernel
theorem dX8_told_46 : decode cX8_told 46 = .ok (.iadd, 1) := by decide +kernel
theorem dX8_told_47 : decode cX8_told 47 = .ok (.iaload, 1) := by decide +kernel
theorem dX8_told_48 : decode cX8_told 48 = .ok (.ireturn, 1) := by decide +kernel
theorem dX8_isApart_0 : decode cX8_isApart 0 = .ok (.iconst 0, 1) := by decide +kernel
theorem dX8_isApart_1 : decode cX8_isApart 1 = .ok (.istore 4, 2) := by decide +kernel
theorem dX8_isApart_3 : decode cX8_isApart 3 = .ok (.iload 4, 2) := by decide +kernel
theorem dX8_isApart_5 : decode cX8_isApart 5 = .ok (.aload_n 0, 1) := by decide +kernel
theorem dX8_isApart_6 : decode cX8_isApart 6 = .ok (.getfield 7, 3) := by decide +kernel
theorem dX8_isApart_9 : decode cX8_isApart 9 = .ok (.iconst 1, 1) := by decide +kernel
theorem dX8_isApart_10 : decode cX8_isApart 10 = .ok (.iaload, 1) := by decide +kernel
theorem dX8_isApart_11 : decode cX8_isApart 11 = .ok (.if_icmp .ge 72, 3) := by decide +kernel
theorem dX8_isApart_14 : decode cX8_isApart 14 = .ok (.iconst 0, 1) := by decide +kernel
theorem dX8_isApart_15 : decode cX8_isApart 15 = .ok (.istore 5, 2) := by decide +kernel
theorem dX8_isApart_17 : decode cX8_isApart 17 = .ok (.iload 5, 2) := by decide +kernel
theorem dX8_isApart_19 : decode cX8_isApart 19 = .ok (.iconst 4, 1) := by decide +kernel
theorem dX8_isApart_20 : decode cX8_isApart 20 = .ok (.if_icmp .ge 57, 3) := by decide +kernel
theorem dX8_isApart_23 : decode cX8_isApart 23 = .ok (.iload_n 3, 1) := by decide +kernel
theorem dX8_isApart_24 : decode cX8_isApart 24 = .ok (.iload 4, 2) := by decide +kernel
theorem dX8_isApart_26 : decode cX8_isApart 26 = .ok (.invokestatic 318, 3) := by decide +kernel
theorem dX8_isApart_29 : decode cX8_isApart 29 = .ok (.ifCond .eq 42, 3) := by decide +kernel
theorem dX8_isApart_32 : decode cX8_isApart 32 = .ok (.aload_n 0, 1) := by decide +kernel
theorem dX8_isApart_33 : decode cX8_isApart 33 = .ok (.getfield 46, 3) := by decide +kernel
theorem dX8_isApart_36 : decode cX8_isApart 36 = .ok (.bipush 32, 2) := by decide +kernel
theorem dX8_isApart_38 : decode cX8_isApart 38 = .ok (.iload_n 1, 1) := by decide +kernel
theorem dX8_isApart_39 : decode cX8_isApart 39 = .ok (.imul, 1) := by decide +kernel
theorem dX8_isApart_40 : decode cX8_isApart 40 = .ok (.iconst 4, 1) := by decide +kernel
theorem dX8_isApart_41 : decode cX8_isApart 41 = .ok (.iload 4, 2) := by decide +kernel
theorem dX8_isApart_43 : decode cX8_isApart 43 = .ok (.imul, 1) := by decide +kernel
theorem dX8_isApart_44 : decode cX8_isApart 44 = .ok (.iadd, 1) := by decide +kernel
theorem dX8_isApart_45 : decode cX8_isApart 45 = .ok (.iload 5, 2) := by decide +kernel
theorem dX8_isApart_47 : decode cX8_isApart 47 = .ok (.iadd, 1) := by decide +kernel
theorem dX8_isApart_48 : decode cX8_isApart 48 = .ok (.iaload, 1) := by decide +kernel
theorem dX8_isApart_49 : decode cX8_isApart 49 = .ok (.aload_n 0, 1) := by decide +kernel
theorem dX8_isApart_50 : decode cX8_isApart 50 = .ok (.getfield 46, 3) := by decide +kernel
theorem dX8_isApart_53 : decode cX8_isApart 53 = .ok (.bipush 32, 2) := by decide +kernel
theorem dX8_isApart_55 : decode cX8_isApart 55 = .ok (.iload_n 2, 1) := by decide +kernel
theorem dX8_isApart_56 : decode cX8_isApart 56 = .ok (.imul, 1) := by decide +kernel
theorem dX8_isApart_57 : decode cX8_isApart 57 = .ok (.iconst 4, 1) := by decide +kernel
theorem dX8_isApart_58 : decode cX8_isApart 58 = .ok (.iload 4, 2) := by decide +kernel
theorem dX8_isApart_60 : decode cX8_isApart 60 = .ok (.imul, 1) := by decide +kernel
theorem dX8_isApart_61 : decode cX8_isApart 61 = .ok (.iadd, 1) := by decide +kernel
theorem dX8_isApart_62 : decode cX8_isApart 62 = .ok (.iload 5, 2) := by decide +kernel
theorem dX8_isApart_64 : decode cX8_isApart 64 = .ok (.iadd, 1) := by decide +kernel
theorem dX8_isApart_65 : decode cX8_isApart 65 = .ok (.iaload, 1) := by decide +kernel
theorem dX8_isApart_66 : decode cX8_isApart 66 = .ok (.if_icmp .eq 5, 3) := by decide +kernel
theorem dX8_isApart_69 : decode cX8_isApart 69 = .ok (.iconst 1, 1) := by decide +kernel
theorem dX8_isApart_70 : decode cX8_isApart 70 = .ok (.ireturn, 1) := by decide +kernel
theorem dX8_isApart_71 : decode cX8_isApart 71 = .ok (.iinc 5 1, 3) := by decide +kernel
theorem dX8_isApart_74 : decode cX8_isApart 74 = .ok (.goto (-57), 3) := by decide +kernel
theorem dX8_isApart_77 : decode cX8_isApart 77 = .ok (.iinc 4 1, 3) := by decide +kernel
theorem dX8_isApart_80 : decode cX8_isApart 80 = .ok (.goto (-77), 3) := by decide +kernel
theorem dX8_isApart_83 : decode cX8_isApart 83 = .ok (.iconst 0, 1) := by decide +kernel
theorem dX8_isApart_84 : decode cX8_isApart 84 = .ok (.ireturn, 1) := by decide +kernel
theorem dX8_areApart_0 : decode cX8_areApart 0 = .ok (.iconst 0, 1) := by decide +kernel
theorem dX8_areApart_1 : decode cX8_areApart 1 = .ok (.istore_n 3, 1) := by decide +kernel
theorem dX8_areApart_2 : decode cX8_areApart 2 = .ok (.iload_n 3, 1) := by decide +kernel
theorem dX8_areApart_3 : decode cX8_areApart 3 = .ok (.aload_n 0, 1) := by decide +kernel
theorem dX8_areApart_4 : decode cX8_areApart 4 = .ok (.getfield 7, 3) := by decide +kernel
theorem dX8_areApart_7 : decode cX8_areApart 7 = .ok (.iconst 3, 1) := by decide +kernel
theorem dX8_areApart_8 : decode cX8_areApart 8 = .ok (.iaload, 1) := by decide +kernel
theorem dX8_areApart_9 : decode cX8_areApart 9 = .ok (.if_icmp .ge 54, 3) := by decide +kernel
theorem dX8_areApart_12 : decode cX8_areApart 12 = .ok (.iconst 0, 1) := by decide +kernel
theorem dX8_areApart_13 : decode cX8_areApart 13 = .ok (.istore 4, 2) := by decide +kernel
theorem dX8_areApart_15 : decode cX8_areApart 15 = .ok (.iload 4, 2) := by decide +kernel
theorem dX8_areApart_17 : decode cX8_areApart 17 = .ok (.iload_n 3, 1) := by decide +kernel
theorem dX8_areApart_18 : decode cX8_areApart 18 = .ok (.if_icmp .ge 39, 3) := by decide +kernel
theorem dX8_areApart_21 : decode cX8_areApart 21 = .ok (.iload_n 1, 1) := by decide +kernel
theorem dX8_areApart_22 : decode cX8_areApart 22 = .ok (.iload_n 3, 1) := by decide +kernel
theorem dX8_areApart_23 : decode cX8_areApart 23 = .ok (.invokestatic 318, 3) := by decide +kernel
theorem dX8_areApart_26 : decode cX8_areApart 26 = .ok (.ifCond .eq 25, 3) := by decide +kernel
theorem dX8_areApart_29 : decode cX8_areApart 29 = .ok (.iload_n 1, 1) := by decide +kernel
theorem dX8_areApart_30 : decode cX8_areApart 30 = .ok (.iload 4, 2) := by decide +kernel
theorem dX8_areApart_32 : decode cX8_areApart 32 = .ok (.invokestatic 318, 3) := by decide +kernel
theorem dX8_areApart_35 : decode cX8_areApart 35 = .ok (.ifCond .eq 16, 3) := by decide +kernel
theorem dX8_areApart_38 : decode cX8_areApart 38 = .ok (.aload_n 0, 1) := by decide +kernel
theorem dX8_areApart_39 : decode cX8_areApart 39 = .ok (.iload_n 3, 1) := by decide +kernel
theorem dX8_areApart_40 : decode cX8_areApart 40 = .ok (.iload 4, 2) := by decide +kernel
theorem dX8_areApart_42 : decode cX8_areApart 42 = .ok (.iload_n 2, 1) := by decide +kernel
theorem dX8_areApart_43 : decode cX8_areApart 43 = .ok (.invokevirtual 321, 3) := by decide +kernel
theorem dX8_areApart_46 : decode cX8_areApart 46 = .ok (.ifCond .ne 5, 3) := by decide +kernel
theorem dX8_areApart_49 : decode cX8_areApart 49 = .ok (.iconst 0, 1) := by decide +kernel
theorem dX8_areApart_50 : decode cX8_areApart 50 = .ok (.ireturn, 1) := by decide +kernel
theorem dX8_areApart_51 : decode cX8_areApart 51 = .ok (.iinc 4 1, 3) := by decide +kernel
theorem dX8_areApart_54 : decode cX8_areApart 54 = .ok (.goto (-39), 3) := by decide +kernel
theorem dX8_areApart_57 : decode cX8_areApart 57 = .ok (.iinc 3 1, 3) := by decide +kernel
theorem dX8_areApart_60 : decode cX8_areApart 60 = .ok (.goto (-58), 3) := by decide +kernel
theorem dX8_areApart_63 : decode cX8_areApart 63 = .ok (.iconst 1, 1) := by decide +kernel
theorem dX8_areApart_64 : decode cX8_areApart 64 = .ok (.ireturn, 1) := by decide +kernel
theorem dX8_verdict_0 : decode cX8_verdict 0 = .ok (.iload_n 1, 1) := by decide +kernel
theorem dX8_verdict_1 : decode cX8_verdict 1 = .ok (.iconst 0, 1) := by decide +kernel
theorem dX8_verdict_2 : decode cX8_verdict 2 = .ok (.iconst 1, 1) := by decide +kernel
theorem dX8_verdict_3 : decode cX8_verdict 3 = .ok (.aload_n 0, 1) := by decide +kernel
theorem dX8_verdict_4 : decode cX8_verdict 4 = .ok (.getfield 7, 3) := by decide +kernel
theorem dX8_verdict_7 : decode cX8_verdict 7 = .ok (.iconst 3, 1) := by decide +kernel
theorem dX8_verdict_8 : decode cX8_verdict 8 = .ok (.iaload, 1) := by decide +kernel
theorem dX8_verdict_9 : decode cX8_verdict 9 = .ok (.ishl, 1) := by decide +kernel
theorem dX8_verdict_10 : decode cX8_verdict 10 = .ok (.iconst 1, 1) := by decide +kernel
theorem dX8_verdict_11 : decode cX8_verdict 11 = .ok (.isub, 1) := by decide +kernel
theorem dX8_verdict_12 : decode cX8_verdict 12 = .ok (.invokestatic 69, 3) := by decide +kernel
theorem dX8_verdict_15 : decode cX8_verdict 15 = .ok (.ifCond .ne 5, 3) := by decide +kernel
theorem dX8_verdict_18 : decode cX8_verdict 18 = .ok (.iconst (-1), 1) := by decide +kernel
theorem dX8_verdict_19 : decode cX8_verdict 19 = .ok (.ireturn, 1) := by decide +kernel
theorem dX8_verdict_20 : decode cX8_verdict 20 = .ok (.iconst 0, 1) := by decide +kernel
theorem dX8_verdict_21 : decode cX8_verdict 21 = .ok (.istore_n 2, 1) := by decide +kernel
theorem dX8_verdict_22 : decode cX8_verdict 22 = .ok (.iload_n 2, 1) := by decide +kernel
theorem dX8_verdict_23 : decode cX8_verdict 23 = .ok (.aload_n 0, 1) := by decide +kernel
theorem dX8_verdict_24 : decode cX8_verdict 24 = .ok (.getfield 7, 3) := by decide +kernel
theorem dX8_verdict_27 : decode cX8_verdict 27 = .ok (.iconst 3, 1) := by decide +kernel
theorem dX8_verdict_28 : decode cX8_verdict 28 = .ok (.iaload, 1) := by decide +kernel
theorem dX8_verdict_29 : decode cX8_verdict 29 = .ok (.if_icmp .ge 22, 3) := by decide +kernel
theorem dX8_verdict_32 : decode cX8_verdict 32 = .ok (.iload_n 1, 1) := by decide +kernel
theorem dX8_verdict_33 : decode cX8_verdict 33 = .ok (.iload_n 2, 1) := by decide +kernel
theorem dX8_verdict_34 : decode cX8_verdict 34 = .ok (.invokestatic 318, 3) := by decide +kernel
theorem dX8_verdict_37 : decode cX8_verdict 37 = .ok (.ifCond .eq 8, 3) := by decide +kernel
theorem dX8_verdict_40 : decode cX8_verdict 40 = .ok (.aload_n 0, 1) := by decide +kernel
theorem dX8_verdict_41 : decode cX8_verdict 41 = .ok (.iload_n 2, 1) := by decide +kernel
theorem dX8_verdict_42 : decode cX8_verdict 42 = .ok (.invokevirtual 315, 3) := by decide +kernel
theorem dX8_verdict_45 : decode cX8_verdict 45 = .ok (.iinc 2 1, 3) := by decide +kernel
theorem dX8_verdict_48 : decode cX8_verdict 48 = .ok (.goto (-26), 3) := by decide +kernel
theorem dX8_verdict_51 : decode cX8_verdict 51 = .ok (.iconst (-1), 1) := by decide +kernel
theorem dX8_verdict_52 : decode cX8_verdict 52 = .ok (.istore_n 2, 1) := by decide +kernel
theorem dX8_verdict_53 : decode cX8_verdict 53 = .ok (.ldc_w 324, 3) := by decide +kernel
theorem dX8_verdict_56 : decode cX8_verdict 56 = .ok (.istore_n 3, 1) := by decide +kernel
theorem dX8_verdict_57 : decode cX8_verdict 57 = .ok (.iconst 0, 1) := by decide +kernel
theorem dX8_verdict_58 : decode cX8_verdict 58 = .ok (.istore 4, 2) := by decide +kernel
theorem dX8_verdict_60 : decode cX8_verdict 60 = .ok (.iload 4, 2) := by decide +kernel
theorem dX8_verdict_62 : decode cX8_verdict 62 = .ok (.iconst 1, 1) := by decide +kernel
theorem dX8_verdict_63 : decode cX8_verdict 63 = .ok (.aload_n 0, 1) := by decide +kernel
theorem dX8_verdict_64 : decode cX8_verdict 64 = .ok (.getfield 7, 3) := by decide +kernel
theorem dX8_verdict_67 : decode cX8_verdict 67 = .ok (.iconst 1, 1) := by decide +kernel
theorem dX8_verdict_68 : decode cX8_verdict 68 = .ok (.iaload, 1) := by decide +kernel
theorem dX8_verdict_69 : decode cX8_verdict 69 = .ok (.ishl, 1) := by decide +kernel
theorem dX8_verdict_70 : decode cX8_verdict 70 = .ok (.if_icmp .ge 100, 3) := by decide +kernel
theorem dX8_verdict_73 : decode cX8_verdict 73 = .ok (.iconst 0, 1) := by decide +kernel
theorem dX8_verdict_74 : decode cX8_verdict 74 = .ok (.istore 5, 2) := by decide +kernel
theorem dX8_verdict_76 : decode cX8_verdict 76 = .ok (.iconst 0, 1) := by decide +kernel
theorem dX8_verdict_77 : decode cX8_verdict 77 = .ok (.istore 6, 2) := by decide +kernel
theorem dX8_verdict_79 : decode cX8_verdict 79 = .ok (.iload 6, 2) := by decide +kernel
theorem dX8_verdict_81 : decode cX8_verdict 81 = .ok (.aload_n 0, 1) := by decide +kernel
theorem dX8_verdict_82 : decode cX8_verdict 82 = .ok (.getfield 7, 3) := by decide +kernel
theorem dX8_verdict_85 : decode cX8_verdict 85 = .ok (.iconst 1, 1) := by decide +kernel
theorem dX8_verdict_86 : decode cX8_verdict 86 = .ok (.iaload, 1) := by decide +kernel
theorem dX8_verdict_87 : decode cX8_verdict 87 = .ok (.if_icmp .ge 34, 3) := by decide +kernel
theorem dX8_verdict_90 : decode cX8_verdict 90 = .ok (.iload 5, 2) := by decide +kernel
theorem dX8_verdict_92 : decode cX8_verdict 92 = .ok (.iload 4, 2) := by decide +kernel
theorem dX8_verdict_94 : decode cX8_verdict 94 = .ok (.iload 6, 2) := by decide +kernel
theorem dX8_verdict_96 : decode cX8_verdict 96 = .ok (.invokestatic 318, 3) := by decide +kernel
theorem dX8_verdict_99 : decode cX8_verdict 99 = .ok (.ifCond .eq 12, 3) := by decide +kernel
theorem dX8_verdict_102 : decode cX8_verdict 102 = .ok (.aload_n 0, 1) := by decide +kernel
theorem dX8_verdict_103 : decode cX8_verdict 103 = .ok (.iload 6, 2) := by decide +kernel
theorem dX8_verdict_105 : decode cX8_verdict 105 = .ok (.invokevirtual 309, 3) := by decide +kernel
theorem dX8_verdict_108 : decode cX8_verdict 108 = .ok (.goto 4, 3) := by decide +kernel
theorem dX8_verdict_111 : decode cX8_verdict 111 = .ok (.iconst 0, 1) := by decide +kernel
theorem dX8_verdict_112 : decode cX8_verdict 112 = .ok (.iadd, 1) := by decide +kernel
theorem dX8_verdict_113 : decode cX8_verdict 113 = .ok (.istore 5, 2) := by decide +kernel
theorem dX8_verdict_115 : decode cX8_verdict 115 = .ok (.iinc 6 1, 3) := by decide +kernel
theorem dX8_verdict_118 : decode cX8_verdict 118 = .ok (.goto (-39), 3) := by decide +kernel
theorem dX8_verdict_121 : decode cX8_verdict 121 = .ok (.iload 5, 2) := by decide +kernel
theorem dX8_verdict_123 : decode cX8_verdict 123 = .ok (.iload_n 3, 1) := by decide +kernel
theorem dX8_verdict_124 : decode cX8_verdict 124 = .ok (.if_icmp .gt 40, 3) := by decide +kernel
theorem dX8_verdict_127 : decode cX8_verdict 127 = .ok (.iload 5, 2) := by decide +kernel
theorem dX8_verdict_129 : decode cX8_verdict 129 = .ok (.iload_n 3, 1) := by decide +kernel
theorem dX8_verdict_130 : decode cX8_verdict 130 = .ok (.if_icmp .ne 15, 3) := by decide +kernel
theorem dX8_verdict_133 : decode cX8_verdict 133 = .ok (.iload 4, 2) := by decide +kernel
theorem dX8_verdict_135 : decode cX8_verdict 135 = .ok (.invokestatic 284, 3) := by decide +kernel
theorem dX8_verdict_138 : decode cX8_verdict 138 = .ok (.iload_n 2, 1) := by decide +kernel
theorem dX8_verdict_139 : decode cX8_verdict 139 = .ok (.invokestatic 284, 3) := by decide +kernel
theorem dX8_verdict_142 : decode cX8_verdict 142 = .ok (.if_icmp .ge 22, 3) := by decide +kernel
theorem dX8_verdict_145 : decode cX8_verdict 145 = .ok (.aload_n 0, 1) := by decide +kernel
theorem dX8_verdict_146 : decode cX8_verdict 146 = .ok (.iload_n 1, 1) := by decide +kernel
theorem dX8_verdict_147 : decode cX8_verdict 147 = .ok (.iload 4, 2) := by decide +kernel
theorem dX8_verdict_149 : decode cX8_verdict 149 = .ok (.invokevirtual 325, 3) := by decide +kernel
theorem dX8_verdict_152 : decode cX8_verdict 152 = .ok (.ifCond .ne 6, 3) := by decide +kernel
theorem dX8_verdict_155 : decode cX8_verdict 155 = .ok (.goto 9, 3) := by decide +kernel
theorem dX8_verdict_158 : decode cX8_verdict 158 = .ok (.iload 4, 2) := by decide +kernel
theorem dX8_verdict_160 : decode cX8_verdict 160 = .ok (.istore_n 2, 1) := by decide +kernel
theorem dX8_verdict_161 : decode cX8_verdict 161 = .ok (.iload 5, 2) := by decide +kernel
theorem dX8_verdict_163 : decode cX8_verdict 163 = .ok (.istore_n 3, 1) := by decide +kernel
theorem dX8_verdict_164 : decode cX8_verdict 164 = .ok (.iinc 4 1, 3) := by decide +kernel
theorem dX8_verdict_167 : decode cX8_verdict 167 = .ok (.goto (-107), 3) := by decide +kernel
theorem dX8_verdict_170 : decode cX8_verdict 170 = .ok (.iload_n 2, 1) := by decide +kernel
theorem dX8_verdict_171 : decode cX8_verdict 171 = .ok (.ireturn, 1) := by decide +kernel
theorem dX8_quarrel_0 : decode cX8_quarrel 0 = .ok (.aload_n 0, 1) := by decide +kernel
theorem dX8_quarrel_1 : decode cX8_quarrel 1 = .ok (.iload_n 1, 1) := by decide +kernel
theorem dX8_quarrel_2 : decode cX8_quarrel 2 = .ok (.invokevirtual 265, 3) := by decide +kernel
theorem dX8_quarrel_5 : decode cX8_quarrel 5 = .ok (.ifCond .ne 5, 3) := by decide +kernel
theorem dX8_quarrel_8 : decode cX8_quarrel 8 = .ok (.iconst (-1), 1) := by decide +kernel
theorem dX8_quarrel_9 : decode cX8_quarrel 9 = .ok (.ireturn, 1) := by decide +kernel
theorem dX8_quarrel_10 : decode cX8_quarrel 10 = .ok (.aload_n 0, 1) := by decide +kernel
theorem dX8_quarrel_11 : decode cX8_quarrel 11 = .ok (.iload_n 1, 1) := by decide +kernel
theorem dX8_quarrel_12 : decode cX8_quarrel 12 = .ok (.invokevirtual 281, 3) := by decide +kernel
theorem dX8_quarrel_15 : decode cX8_quarrel 15 = .ok (.istore_n 2, 1) := by decide +kernel
theorem dX8_quarrel_16 : decode cX8_quarrel 16 = .ok (.iload_n 2, 1) := by decide +kernel
theorem dX8_quarrel_17 : decode cX8_quarrel 17 = .ok (.invokestatic 284, 3) := by decide +kernel
theorem dX8_quarrel_20 : decode cX8_quarrel 20 = .ok (.iconst 2, 1) := by decide +kernel
theorem dX8_quarrel_21 : decode cX8_quarrel 21 = .ok (.if_icmp .ge 5, 3) := by decide +kernel
theorem dX8_quarrel_24 : decode cX8_quarrel 24 = .ok (.iconst 0, 1) := by decide +kernel
theorem dX8_quarrel_25 : decode cX8_quarrel 25 = .ok (.ireturn, 1) := by decide +kernel
theorem dX8_quarrel_26 : decode cX8_quarrel 26 = .ok (.iconst 0, 1) := by decide +kernel
theorem dX8_quarrel_27 : decode cX8_quarrel 27 = .ok (.istore_n 3, 1) := by decide +kernel
theorem dX8_quarrel_28 : decode cX8_quarrel 28 = .ok (.iload_n 2, 1) := by decide +kernel
theorem dX8_quarrel_29 : decode cX8_quarrel 29 = .ok (.iload_n 3, 1) := by decide +kernel
theorem dX8_quarrel_30 : decode cX8_quarrel 30 = .ok (.invokestatic 318, 3) := by decide +kernel
theorem dX8_quarrel_33 : decode cX8_quarrel 33 = .ok (.ifCond .ne 9, 3) := by decide +kernel
theorem dX8_quarrel_36 : decode cX8_quarrel 36 = .ok (.iinc 3 1, 3) := by decide +kernel
theorem dX8_quarrel_39 : decode cX8_quarrel 39 = .ok (.goto (-11), 3) := by decide +kernel
theorem dX8_quarrel_42 : decode cX8_quarrel 42 = .ok (.iload_n 3, 1) := by decide +kernel
theorem dX8_quarrel_43 : decode cX8_quarrel 43 = .ok (.iconst 1, 1) := by decide +kernel
theorem dX8_quarrel_44 : decode cX8_quarrel 44 = .ok (.iadd, 1) := by decide +kernel
theorem dX8_quarrel_45 : decode cX8_quarrel 45 = .ok (.istore 4, 2) := by decide +kernel
theorem dX8_quarrel_47 : decode cX8_quarrel 47 = .ok (.iload_n 2, 1) := by decide +kernel
theorem dX8_quarrel_48 : decode cX8_quarrel 48 = .ok (.iload 4, 2) := by decide +kernel
theorem dX8_quarrel_50 : decode cX8_quarrel 50 = .ok (.invokestatic 318, 3) := by decide +kernel
theorem dX8_quarrel_53 : decode cX8_quarrel 53 = .ok (.ifCond .ne 9, 3) := by decide +kernel
theorem dX8_quarrel_56 : decode cX8_quarrel 56 = .ok (.iinc 4 1, 3) := by decide +kernel
theorem dX8_quarrel_59 : decode cX8_quarrel 59 = .ok (.goto (-12), 3) := by decide +kernel
theorem dX8_quarrel_62 : decode cX8_quarrel 62 = .ok (.iconst 0, 1) := by decide +kernel
theorem dX8_quarrel_63 : decode cX8_quarrel 63 = .ok (.istore 5, 2) := by decide +kernel
theorem dX8_quarrel_65 : decode cX8_quarrel 65 = .ok (.iconst 0, 1) := by decide +kernel
theorem dX8_quarrel_66 : decode cX8_quarrel 66 = .ok (.istore 6, 2) := by decide +kernel
theorem dX8_quarrel_68 : decode cX8_quarrel 68 = .ok (.iload 6, 2) := by decide +kernel
theorem dX8_quarrel_70 : decode cX8_quarrel 70 = .ok (.iconst 4, 1) := by decide +kernel
theorem dX8_quarrel_71 : decode cX8_quarrel 71 = .ok (.if_icmp .ge 41, 3) := by decide +kernel
theorem dX8_quarrel_74 : decode cX8_quarrel 74 = .ok (.iload 5, 2) := by decide +kernel
theorem dX8_quarrel_76 : decode cX8_quarrel 76 = .ok (.aload_n 0, 1) := by decide +kernel
theorem dX8_quarrel_77 : decode cX8_quarrel 77 = .ok (.iload_n 3, 1) := by decide +kernel
theorem dX8_quarrel_78 : decode cX8_quarrel 78 = .ok (.iconst 4, 1) := by decide +kernel
theorem dX8_quarrel_79 : decode cX8_quarrel 79 = .ok (.iload 6, 2) := by decide +kernel
theorem dX8_quarrel_81 : decode cX8_quarrel 81 = .ok (.iadd, 1) := by decide +kernel
theorem dX8_quarrel_82 : decode cX8_quarrel 82 = .ok (.invokevirtual 77, 3) := by decide +kernel
theorem dX8_quarrel_85 : decode cX8_quarrel 85 = .ok (.aload_n 0, 1) := by decide +kernel
theorem dX8_quarrel_86 : decode cX8_quarrel 86 = .ok (.iload 4, 2) := by decide +kernel
theorem dX8_quarrel_88 : decode cX8_quarrel 88 = .ok (.iconst 4, 1) := by decide +kernel
theorem dX8_quarrel_89 : decode cX8_quarrel 89 = .ok (.iload 6, 2) := by decide +kernel
theorem dX8_quarrel_91 : decode cX8_quarrel 91 = .ok (.iadd, 1) := by decide +kernel
theorem dX8_quarrel_92 : decode cX8_quarrel 92 = .ok (.invokevirtual 77, 3) := by decide +kernel
theorem dX8_quarrel_95 : decode cX8_quarrel 95 = .ok (.if_icmp .eq 7, 3) := by decide +kernel
theorem dX8_quarrel_98 : decode cX8_quarrel 98 = .ok (.iconst 1, 1) := by decide +kernel
theorem dX8_quarrel_99 : decode cX8_quarrel 99 = .ok (.goto 4, 3) := by decide +kernel
theorem dX8_quarrel_102 : decode cX8_quarrel 102 = .ok (.iconst 0, 1) := by decide +kernel
theorem dX8_quarrel_103 : decode cX8_quarrel 103 = .ok (.iadd, 1) := by decide +kernel
theorem dX8_quarrel_104 : decode cX8_quarrel 104 = .ok (.istore 5, 2) := by decide +kernel
theorem dX8_quarrel_106 : decode cX8_quarrel 106 = .ok (.iinc 6 1, 3) := by decide +kernel
theorem dX8_quarrel_109 : decode cX8_quarrel 109 = .ok (.goto (-41), 3) := by decide +kernel
theorem dX8_quarrel_112 : decode cX8_quarrel 112 = .ok (.iload 5, 2) := by decide +kernel
theorem dX8_quarrel_114 : decode cX8_quarrel 114 = .ok (.ireturn, 1) := by decide +kernel
theorem dX8_shown_0 : decode cX8_shown 0 = .ok (.iload_n 1, 1) := by decide +kernel
theorem dX8_shown_1 : decode cX8_shown 1 = .ok (.iconst (-1), 1) := by decide +kernel
theorem dX8_shown_2 : decode cX8_shown 2 = .ok (.if_icmp .ne 13, 3) := by decide +kernel
theorem dX8_shown_5 : decode cX8_shown 5 = .ok (.aload_n 0, 1) := by decide +kernel
theorem dX8_shown_6 : decode cX8_shown 6 = .ok (.getfield 7, 3) := by decide +kernel
theorem dX8_shown_9 : decode cX8_shown 9 = .ok (.bipush 6, 2) := by decide +kernel
theorem dX8_shown_11 : decode cX8_shown 11 = .ok (.iconst 0, 1) := by decide +kernel
theorem dX8_shown_12 : decode cX8_shown 12 = .ok (.iastore, 1) := by decide +kernel
theorem dX8_shown_13 : decode cX8_shown 13 = .ok (.iconst 0, 1) := by decide +kernel
theorem dX8_shown_14 : decode cX8_shown 14 = .ok (.ireturn, 1) := by decide +kernel
theorem dX8_shown_15 : decode cX8_shown 15 = .ok (.aload_n 0, 1) := by decide +kernel
theorem dX8_shown_16 : decode cX8_shown 16 = .ok (.iload_n 1, 1) := by decide +kernel
theorem dX8_shown_17 : decode cX8_shown 17 = .ok (.invokevirtual 262, 3) := by decide +kernel
theorem dX8_shown_20 : decode cX8_shown 20 = .ok (.ifCond .eq 14, 3) := by decide +kernel
theorem dX8_shown_23 : decode cX8_shown 23 = .ok (.aload_n 0, 1) := by decide +kernel
theorem dX8_shown_24 : decode cX8_shown 24 = .ok (.getfield 7, 3) := by decide +kernel
theorem dX8_shown_27 : decode cX8_shown 27 = .ok (.bipush 6, 2) := by decide +kernel
theorem dX8_shown_29 : decode cX8_shown 29 = .ok (.iaload, 1) := by decide +kernel
theorem dX8_shown_30 : decode cX8_shown 30 = .ok (.iconst 4, 1) := by decide +kernel
theorem dX8_shown_31 : decode cX8_shown 31 = .ok (.if_icmp .ne 6, 3) := by decide +kernel
theorem dX8_shown_34 : decode cX8_shown 34 = .ok (.bipush (-2), 2) := by decide +kernel
theorem dX8_shown_36 : decode cX8_shown 36 = .ok (.ireturn, 1) := by decide +kernel
theorem dX8_shown_37 : decode cX8_shown 37 = .ok (.aload_n 0, 1) := by decide +kernel
theorem dX8_shown_38 : decode cX8_shown 38 = .ok (.getfield 7, 3) := by decide +kernel
theorem dX8_shown_41 : decode cX8_shown 41 = .ok (.bipush 16, 2) := by decide +kernel
theorem dX8_shown_43 : decode cX8_shown 43 = .ok (.aload_n 0, 1) := by decide +kernel
theorem dX8_shown_44 : decode cX8_shown 44 = .ok (.getfield 7, 3) := by decide +kernel
theorem dX8_shown_47 : decode cX8_shown 47 = .ok (.bipush 6, 2) := by decide +kernel
theorem dX8_shown_49 : decode cX8_shown 49 = .ok (.iaload, 1) := by decide +kernel
theorem dX8_shown_50 : decode cX8_shown 50 = .ok (.iadd, 1) := by decide +kernel
theorem dX8_shown_51 : decode cX8_shown 51 = .ok (.iload_n 1, 1) := by decide +kernel
theorem dX8_shown_52 : decode cX8_shown 52 = .ok (.iastore, 1) := by decide +kernel
theorem dX8_shown_53 : decode cX8_shown 53 = .ok (.aload_n 0, 1) := by decide +kernel
theorem dX8_shown_54 : decode cX8_shown 54 = .ok (.getfield 7, 3) := by decide +kernel
theorem dX8_shown_57 : decode cX8_shown 57 = .ok (.bipush 6, 2) := by decide +kernel
theorem dX8_shown_59 : decode cX8_shown 59 = .ok (.dup2, 1) := by decide +kernel
theorem dX8_shown_60 : decode cX8_shown 60 = .ok (.iaload, 1) := by decide +kernel
theorem dX8_shown_61 : decode cX8_shown 61 = .ok (.iconst 1, 1) := by decide +kernel
theorem dX8_shown_62 : decode cX8_shown 62 = .ok (.iadd, 1) := by decide +kernel
theorem dX8_shown_63 : decode cX8_shown 63 = .ok (.iastore, 1) := by decide +kernel
theorem dX8_shown_64 : decode cX8_shown 64 = .ok (.aload_n 0, 1) := by decide +kernel
theorem dX8_shown_65 : decode cX8_shown 65 = .ok (.getfield 7, 3) := by decide +kernel
theorem dX8_shown_68 : decode cX8_shown 68 = .ok (.bipush 6, 2) := by decide +kernel
theorem dX8_shown_70 : decode cX8_shown 70 = .ok (.iaload, 1) := by decide +kernel
theorem dX8_shown_71 : decode cX8_shown 71 = .ok (.ireturn, 1) := by decide +kernel
theorem dX8_shownAt_0 : decode cX8_shownAt 0 = .ok (.iload_n 1, 1) := by decide +kernel
theorem dX8_shownAt_1 : decode cX8_shownAt 1 = .ok (.aload_n 0, 1) := by decide +kernel
theorem dX8_shownAt_2 : decode cX8_shownAt 2 = .ok (.getfield 7, 3) := by decide +kernel
theorem dX8_shownAt_5 : decode cX8_shownAt 5 = .ok (.bipush 6, 2) := by decide +kernel
theorem dX8_shownAt_7 : decode cX8_shownAt 7 = .ok (.iaload, 1) := by decide +kernel
theorem dX8_shownAt_8 : decode cX8_shownAt 8 = .ok (.if_icmp .ge 15, 3) := by decide +kernel
theorem dX8_shownAt_11 : decode cX8_shownAt 11 = .ok (.aload_n 0, 1) := by decide +kernel
theorem dX8_shownAt_12 : decode cX8_shownAt 12 = .ok (.getfield 7, 3) := by decide +kernel
theorem dX8_shownAt_15 : decode cX8_shownAt 15 = .ok (.bipush 16, 2) := by decide +kernel
theorem dX8_shownAt_17 : decode cX8_shownAt 17 = .ok (.iload_n 1, 1) := by decide +kernel
theorem dX8_shownAt_18 : decode cX8_shownAt 18 = .ok (.iadd, 1) := by decide +kernel
theorem dX8_shownAt_19 : decode cX8_shownAt 19 = .ok (.iaload, 1) := by decide +kernel
theorem dX8_shownAt_20 : decode cX8_shownAt 20 = .ok (.goto 4, 3) := by decide +kernel
theorem dX8_shownAt_23 : decode cX8_shownAt 23 = .ok (.iconst (-1), 1) := by decide +kernel
theorem dX8_shownAt_24 : decode cX8_shownAt 24 = .ok (.ireturn, 1) := by decide +kernel
theorem dX8_goOn_0 : decode cX8_goOn 0 = .ok (.iconst 0, 1) := by decide +kernel
theorem dX8_goOn_1 : decode cX8_goOn 1 = .ok (.istore_n 3, 1) := by decide +kernel
theorem dX8_goOn_2 : decode cX8_goOn 2 = .ok (.iload_n 3, 1) := by decide +kernel
theorem dX8_goOn_3 : decode cX8_goOn 3 = .ok (.iconst 4, 1) := by decide +kernel
theorem dX8_goOn_4 : decode cX8_goOn 4 = .ok (.if_icmp .ge 31, 3) := by decide +kernel
theorem dX8_goOn_7 : decode cX8_goOn 7 = .ok (.aload_n 0, 1) := by decide +kernel
theorem dX8_goOn_8 : decode cX8_goOn 8 = .ok (.getfield 52, 3) := by decide +kernel
theorem dX8_goOn_11 : decode cX8_goOn 11 = .ok (.iconst 4, 1) := by decide +kernel
theorem dX8_goOn_12 : decode cX8_goOn 12 = .ok (.iload_n 2, 1) := by decide +kernel
theorem dX8_goOn_13 : decode cX8_goOn 13 = .ok (.imul, 1) := by decide +kernel
theorem dX8_goOn_14 : decode cX8_goOn 14 = .ok (.iconst 4, 1) := by decide +kernel
theorem dX8_goOn_15 : decode cX8_goOn 15 = .ok (.iadd, 1) := by decide +kernel
theorem dX8_goOn_16 : decode cX8_goOn 16 = .ok (.iload_n 3, 1) := by decide +kernel
theorem dX8_goOn_17 : decode cX8_goOn 17 = .ok (.iadd, 1) := by decide +kernel
theorem dX8_goOn_18 : decode cX8_goOn 18 = .ok (.aload_n 0, 1) := by decide +kernel
theorem dX8_goOn_19 : decode cX8_goOn 19 = .ok (.getfield 52, 3) := by decide +kernel
theorem dX8_goOn_22 : decode cX8_goOn 22 = .ok (.iconst 4, 1) := by decide +kernel
theorem dX8_goOn_23 : decode cX8_goOn 23 = .ok (.iload_n 2, 1) := by decide +kernel
theorem dX8_goOn_24 : decode cX8_goOn 24 = .ok (.imul, 1) := by decide +kernel
theorem dX8_goOn_25 : decode cX8_goOn 25 = .ok (.iload_n 3, 1) := by decide +kernel
theorem dX8_goOn_26 : decode cX8_goOn 26 = .ok (.iadd, 1) := by decide +kernel
theorem dX8_goOn_27 : decode cX8_goOn 27 = .ok (.iaload, 1) := by decide +kernel
theorem dX8_goOn_28 : decode cX8_goOn 28 = .ok (.iastore, 1) := by decide +kernel
theorem dX8_goOn_29 : decode cX8_goOn 29 = .ok (.iinc 3 1, 3) := by decide +kernel
theorem dX8_goOn_32 : decode cX8_goOn 32 = .ok (.goto (-30), 3) := by decide +kernel
theorem dX8_goOn_35 : decode cX8_goOn 35 = .ok (.aload_n 0, 1) := by decide +kernel
theorem dX8_goOn_36 : decode cX8_goOn 36 = .ok (.getfield 49, 3) := by decide +kernel
theorem dX8_goOn_39 : decode cX8_goOn 39 = .ok (.iload_n 2, 1) := by decide +kernel
theorem dX8_goOn_40 : decode cX8_goOn 40 = .ok (.iaload, 1) := by decide +kernel
theorem dX8_goOn_41 : decode cX8_goOn 41 = .ok (.bipush 8, 2) := by decide +kernel
theorem dX8_goOn_43 : decode cX8_goOn 43 = .ok (.idiv, 1) := by decide +kernel
theorem dX8_goOn_44 : decode cX8_goOn 44 = .ok (.istore_n 3, 1) := by decide +kernel
theorem dX8_goOn_45 : decode cX8_goOn 45 = .ok (.iconst 0, 1) := by decide +kernel
theorem dX8_goOn_46 : decode cX8_goOn 46 = .ok (.istore 4, 2) := by decide +kernel
theorem dX8_goOn_48 : decode cX8_goOn 48 = .ok (.iconst 0, 1) := by decide +kernel
theorem dX8_goOn_49 : decode cX8_goOn 49 = .ok (.istore 5, 2) := by decide +kernel
theorem dX8_goOn_51 : decode cX8_goOn 51 = .ok (.iload 5, 2) := by decide +kernel
theorem dX8_goOn_53 : decode cX8_goOn 53 = .ok (.iconst 4, 1) := by decide +kernel
theorem dX8_goOn_54 : decode cX8_goOn 54 = .ok (.if_icmp .ge 33, 3) := by decide +kernel
theorem dX8_goOn_57 : decode cX8_goOn 57 = .ok (.iload 4, 2) := by decide +kernel
theorem dX8_goOn_59 : decode cX8_goOn 59 = .ok (.aload_n 0, 1) := by decide +kernel
theorem dX8_goOn_60 : decode cX8_goOn 60 = .ok (.getfield 52, 3) := by decide +kernel
theorem dX8_goOn_63 : decode cX8_goOn 63 = .ok (.iconst 4, 1) := by decide +kernel
theorem dX8_goOn_64 : decode cX8_goOn 64 = .ok (.iload_n 2, 1) := by decide +kernel
theorem dX8_goOn_65 : decode cX8_goOn 65 = .ok (.imul, 1) := by decide +kernel
theorem dX8_goOn_66 : decode cX8_goOn 66 = .ok (.iload 5, 2) := by decide +kernel
theorem dX8_goOn_68 : decode cX8_goOn 68 = .ok (.iadd, 1) := by decide +kernel
theorem dX8_goOn_69 : decode cX8_goOn 69 = .ok (.iaload, 1) := by decide +kernel
theorem dX8_goOn_70 : decode cX8_goOn 70 = .ok (.ifCond .lt 7, 3) := by decide +kernel
theorem dX8_goOn_73 : decode cX8_goOn 73 = .ok (.iconst 1, 1) := by decide +kernel
theorem dX8_goOn_74 : decode cX8_goOn 74 = .ok (.goto 4, 3) := by decide +kernel
theorem dX8_goOn_77 : decode cX8_goOn 77 = .ok (.iconst 0, 1) := by decide +kernel
theorem dX8_goOn_78 : decode cX8_goOn 78 = .ok (.iadd, 1) := by decide +kernel
theorem dX8_goOn_79 : decode cX8_goOn 79 = .ok (.istore 4, 2) := by decide +kernel
theorem dX8_goOn_81 : decode cX8_goOn 81 = .ok (.iinc 5 1, 3) := by decide +kernel
theorem dX8_goOn_84 : decode cX8_goOn 84 = .ok (.goto (-33), 3) := by decide +kernel
theorem dX8_goOn_87 : decode cX8_goOn 87 = .ok (.aload_n 0, 1) := by decide +kernel
theorem dX8_goOn_88 : decode cX8_goOn 88 = .ok (.iload_n 1, 1) := by decide +kernel
theorem dX8_goOn_89 : decode cX8_goOn 89 = .ok (.iconst 2, 1) := by decide +kernel
theorem dX8_goOn_90 : decode cX8_goOn 90 = .ok (.invokevirtual 77, 3) := by decide +kernel
theorem dX8_goOn_93 : decode cX8_goOn 93 = .ok (.iload_n 3, 1) := by decide +kernel
theorem dX8_goOn_94 : decode cX8_goOn 94 = .ok (.if_icmp .ne 33, 3) := by decide +kernel
theorem dX8_goOn_97 : decode cX8_goOn 97 = .ok (.aload_n 0, 1) := by decide +kernel
theorem dX8_goOn_98 : decode cX8_goOn 98 = .ok (.iload_n 1, 1) := by decide +kernel
theorem dX8_goOn_99 : decode cX8_goOn 99 = .ok (.aload_n 0, 1) := by decide +kernel
theorem dX8_goOn_100 : decode cX8_goOn 100 = .ok (.getfield 7, 3) := by decide +kernel
theorem dX8_goOn_103 : decode cX8_goOn 103 = .ok (.iconst 2, 1) := by decide +kernel
theorem dX8_goOn_104 : decode cX8_goOn 104 = .ok (.iaload, 1) := by decide +kernel
theorem dX8_goOn_105 : decode cX8_goOn 105 = .ok (.iload_n 2, 1) := by decide +kernel
theorem dX8_goOn_106 : decode cX8_goOn 106 = .ok (.iadd, 1) := by decide +kernel
theorem dX8_goOn_107 : decode cX8_goOn 107 = .ok (.iconst 1, 1) := by decide +kernel
theorem dX8_goOn_108 : decode cX8_goOn 108 = .ok (.iadd, 1) := by decide +kernel
theorem dX8_goOn_109 : decode cX8_goOn 109 = .ok (.iload 4, 2) := by decide +kernel
theorem dX8_goOn_111 : decode cX8_goOn 111 = .ok (.aload_n 0, 1) := by decide +kernel
theorem dX8_goOn_112 : decode cX8_goOn 112 = .ok (.getfield 49, 3) := by decide +kernel
theorem dX8_goOn_115 : decode cX8_goOn 115 = .ok (.iload_n 2, 1) := by decide +kernel
theorem dX8_goOn_116 : decode cX8_goOn 116 = .ok (.iaload, 1) := by decide +kernel
theorem dX8_goOn_117 : decode cX8_goOn 117 = .ok (.bipush 8, 2) := by decide +kernel
theorem dX8_goOn_119 : decode cX8_goOn 119 = .ok (.irem, 1) := by decide +kernel
theorem dX8_goOn_120 : decode cX8_goOn 120 = .ok (.iload_n 3, 1) := by decide +kernel
theorem dX8_goOn_121 : decode cX8_goOn 121 = .ok (.invokevirtual 271, 3) := by decide +kernel
theorem dX8_goOn_124 : decode cX8_goOn 124 = .ok (.ifCond .ne 4, 3) := by decide +kernel
theorem dX8_goOn_127 : decode cX8_goOn 127 = .ok (.return_, 1) := by decide +kernel
theorem dX8_goOn_128 : decode cX8_goOn 128 = .ok (.aload_n 0, 1) := by decide +kernel
theorem dX8_goOn_129 : decode cX8_goOn 129 = .ok (.iload_n 1, 1) := by decide +kernel
theorem dX8_goOn_130 : decode cX8_goOn 130 = .ok (.iconst 1, 1) := by decide +kernel
theorem dX8_goOn_131 : decode cX8_goOn 131 = .ok (.invokevirtual 77, 3) := by decide +kernel
theorem dX8_goOn_134 : decode cX8_goOn 134 = .ok (.istore 5, 2) := by decide +kernel
theorem dX8_goOn_136 : decode cX8_goOn 136 = .ok (.iload 5, 2) := by decide +kernel
theorem dX8_goOn_138 : decode cX8_goOn 138 = .ok (.ifCond .lt 68, 3) := by decide +kernel
theorem dX8_goOn_141 : decode cX8_goOn 141 = .ok (.iconst 3, 1) := by decide +kernel
theorem dX8_goOn_142 : decode cX8_goOn 142 = .ok (.istore 6, 2) := by decide +kernel
theorem dX8_goOn_144 : decode cX8_goOn 144 = .ok (.iload 6, 2) := by decide +kernel
theorem dX8_goOn_146 : decode cX8_goOn 146 = .ok (.ifCond .le 35, 3) := by decide +kernel
theorem dX8_goOn_149 : decode cX8_goOn 149 = .ok (.aload_n 0, 1) := by decide +kernel
theorem dX8_goOn_150 : decode cX8_goOn 150 = .ok (.getfield 52, 3) := by decide +kernel
theorem dX8_goOn_153 : decode cX8_goOn 153 = .ok (.iconst 4, 1) := by decide +kernel
theorem dX8_goOn_154 : decode cX8_goOn 154 = .ok (.iload_n 2, 1) := by decide +kernel
theorem dX8_goOn_155 : decode cX8_goOn 155 = .ok (.imul, 1) := by decide +kernel
theorem dX8_goOn_156 : decode cX8_goOn 156 = .ok (.iconst 4, 1) := by decide +kernel
theorem dX8_goOn_157 : decode cX8_goOn 157 = .ok (.iadd, 1) := by decide +kernel
theorem dX8_goOn_158 : decode cX8_goOn 158 = .ok (.iload 6, 2) := by decide +kernel
theorem dX8_goOn_160 : decode cX8_goOn 160 = .ok (.iadd, 1) := by decide +kernel
theorem dX8_goOn_161 : decode cX8_goOn 161 = .ok (.aload_n 0, 1) := by decide +kernel
theorem dX8_goOn_162 : decode cX8_goOn 162 = .ok (.getfield 52, 3) := by decide +kernel
theorem dX8_goOn_165 : decode cX8_goOn 165 = .ok (.iconst 4, 1) := by decide +kernel
theorem dX8_goOn_166 : decode cX8_goOn 166 = .ok (.iload_n 2, 1) := by decide +kernel
theorem dX8_goOn_167 : decode cX8_goOn 167 = .ok (.imul, 1) := by decide +kernel
theorem dX8_goOn_168 : decode cX8_goOn 168 = .ok (.iconst 3, 1) := by decide +kernel
theorem dX8_goOn_169 : decode cX8_goOn 169 = .ok (.iadd, 1) := by decide +kernel
theorem dX8_goOn_170 : decode cX8_goOn 170 = .ok (.iload 6, 2) := by decide +kernel
theorem dX8_goOn_172 : decode cX8_goOn 172 = .ok (.iadd, 1) := by decide +kernel
theorem dX8_goOn_173 : decode cX8_goOn 173 = .ok (.iaload, 1) := by decide +kernel
theorem dX8_goOn_174 : decode cX8_goOn 174 = .ok (.iastore, 1) := by decide +kernel
theorem dX8_goOn_175 : decode cX8_goOn 175 = .ok (.iinc 6 (-1), 3) := by decide +kernel
theorem dX8_goOn_178 : decode cX8_goOn 178 = .ok (.goto (-34), 3) := by decide +kernel
theorem dX8_goOn_181 : decode cX8_goOn 181 = .ok (.aload_n 0, 1) := by decide +kernel
theorem dX8_goOn_182 : decode cX8_goOn 182 = .ok (.getfield 52, 3) := by decide +kernel
theorem dX8_goOn_185 : decode cX8_goOn 185 = .ok (.iconst 4, 1) := by decide +kernel
theorem dX8_goOn_186 : decode cX8_goOn 186 = .ok (.iload_n 2, 1) := by decide +kernel
theorem dX8_goOn_187 : decode cX8_goOn 187 = .ok (.imul, 1) := by decide +kernel
theorem dX8_goOn_188 : decode cX8_goOn 188 = .ok (.iconst 4, 1) := by decide +kernel
theorem dX8_goOn_189 : decode cX8_goOn 189 = .ok (.iadd, 1) := by decide +kernel
theorem dX8_goOn_190 : decode cX8_goOn 190 = .ok (.aload_n 0, 1) := by decide +kernel
theorem dX8_goOn_191 : decode cX8_goOn 191 = .ok (.getfield 49, 3) := by decide +kernel
theorem dX8_goOn_194 : decode cX8_goOn 194 = .ok (.iload_n 2, 1) := by decide +kernel
theorem dX8_goOn_195 : decode cX8_goOn 195 = .ok (.iaload, 1) := by decide +kernel
theorem dX8_goOn_196 : decode cX8_goOn 196 = .ok (.bipush 8, 2) := by decide +kernel
theorem dX8_goOn_198 : decode cX8_goOn 198 = .ok (.irem, 1) := by decide +kernel
theorem dX8_goOn_199 : decode cX8_goOn 199 = .ok (.iastore, 1) := by decide +kernel
theorem dX8_goOn_200 : decode cX8_goOn 200 = .ok (.iinc 5 (-1), 3) := by decide +kernel
theorem dX8_goOn_203 : decode cX8_goOn 203 = .ok (.goto (-67), 3) := by decide +kernel
theorem dX8_goOn_206 : decode cX8_goOn 206 = .ok (.return_, 1) := by decide +kernel
theorem dX8_isShown_0 : decode cX8_isShown 0 = .ok (.iconst 0, 1) := by decide +kernel
theorem dX8_isShown_1 : decode cX8_isShown 1 = .ok (.istore_n 2, 1) := by decide +kernel
theorem dX8_isShown_2 : decode cX8_isShown 2 = .ok (.iload_n 2, 1) := by decide +kernel
theorem dX8_isShown_3 : decode cX8_isShown 3 = .ok (.iconst 4, 1) := by decide +kernel
theorem dX8_isShown_4 : decode cX8_isShown 4 = .ok (.if_icmp .ge 29, 3) := by decide +kernel
theorem dX8_isShown_7 : decode cX8_isShown 7 = .ok (.aload_n 0, 1) := by decide +kernel
theorem dX8_isShown_8 : decode cX8_isShown 8 = .ok (.getfield 52, 3) := by decide +kernel
theorem dX8_isShown_11 : decode cX8_isShown 11 = .ok (.iconst 4, 1) := by decide +kernel
theorem dX8_isShown_12 : decode cX8_isShown 12 = .ok (.iload_n 1, 1) := by decide +kernel
theorem dX8_isShown_13 : decode cX8_isShown 13 = .ok (.imul, 1) := by decide +kernel
theorem dX8_isShown_14 : decode cX8_isShown 14 = .ok (.iload_n 2, 1) := by decide +kernel
theorem dX8_isShown_15 : decode cX8_isShown 15 = .ok (.iadd, 1) := by decide +kernel
theorem dX8_isShown_16 : decode cX8_isShown 16 = .ok (.iaload, 1) := by decide +kernel
theorem dX8_isShown_17 : decode cX8_isShown 17 = .ok (.aload_n 0, 1) := by decide +kernel
theorem dX8_isShown_18 : decode cX8_isShown 18 = .ok (.iload_n 2, 1) := by decide +kernel
theorem dX8_isShown_19 : decode cX8_isShown 19 = .ok (.invokevirtual 328, 3) := by decide +kernel
theorem dX8_isShown_22 : decode cX8_isShown 22 = .ok (.if_icmp .eq 5, 3) := by decide +kernel
theorem dX8_isShown_25 : decode cX8_isShown 25 = .ok (.iconst 0, 1) := by decide +kernel
theorem dX8_isShown_26 : decode cX8_isShown 26 = .ok (.ireturn, 1) := by decide +kernel
theorem dX8_isShown_27 : decode cX8_isShown 27 = .ok (.iinc 2 1, 3) := by decide +kernel
theorem dX8_isShown_30 : decode cX8_isShown 30 = .ok (.goto (-28), 3) := by decide +kernel
theorem dX8_isShown_33 : decode cX8_isShown 33 = .ok (.iconst 1, 1) := by decide +kernel
theorem dX8_isShown_34 : decode cX8_isShown 34 = .ok (.ireturn, 1) := by decide +kernel
theorem dX8_count_0 : decode cX8_count 0 = .ok (.aload_n 0, 1) := by decide +kernel
theorem dX8_count_1 : decode cX8_count 1 = .ok (.iload_n 1, 1) := by decide +kernel
theorem dX8_count_2 : decode cX8_count 2 = .ok (.invokevirtual 331, 3) := by decide +kernel
theorem dX8_count_5 : decode cX8_count 5 = .ok (.ifCond .ne 4, 3) := by decide +kernel
theorem dX8_count_8 : decode cX8_count 8 = .ok (.return_, 1) := by decide +kernel
theorem dX8_count_9 : decode cX8_count 9 = .ok (.iconst 0, 1) := by decide +kernel
theorem dX8_count_10 : decode cX8_count 10 = .ok (.istore_n 2, 1) := by decide +kernel
theorem dX8_count_11 : decode cX8_count 11 = .ok (.iconst 0, 1) := by decide +kernel
theorem dX8_count_12 : decode cX8_count 12 = .ok (.istore_n 3, 1) := by decide +kernel
theorem dX8_count_13 : decode cX8_count 13 = .ok (.iload_n 3, 1) := by decide +kernel
theorem dX8_count_14 : decode cX8_count 14 = .ok (.iload_n 1, 1) := by decide +kernel
theorem dX8_count_15 : decode cX8_count 15 = .ok (.if_icmp .ge 42, 3) := by decide +kernel
theorem dX8_count_18 : decode cX8_count 18 = .ok (.iload_n 2, 1) := by decide +kernel
theorem dX8_count_19 : decode cX8_count 19 = .ok (.iconst 1, 1) := by decide +kernel
theorem dX8_count_20 : decode cX8_count 20 = .ok (.aload_n 0, 1) := by decide +kernel
theorem dX8_count_21 : decode cX8_count 21 = .ok (.getfield 49, 3) := by decide +kernel
theorem dX8_count_24 : decode cX8_count 24 = .ok (.iload_n 3, 1) := by decide +kernel
theorem dX8_count_25 : decode cX8_count 25 = .ok (.iaload, 1) := by decide +kernel
theorem dX8_count_26 : decode cX8_count 26 = .ok (.bipush 8, 2) := by decide +kernel
theorem dX8_count_28 : decode cX8_count 28 = .ok (.idiv, 1) := by decide +kernel
theorem dX8_count_29 : decode cX8_count 29 = .ok (.ishl, 1) := by decide +kernel
theorem dX8_count_30 : decode cX8_count 30 = .ok (.ior, 1) := by decide +kernel
theorem dX8_count_31 : decode cX8_count 31 = .ok (.istore_n 2, 1) := by decide +kernel
theorem dX8_count_32 : decode cX8_count 32 = .ok (.aload_n 0, 1) := by decide +kernel
theorem dX8_count_33 : decode cX8_count 33 = .ok (.getfield 334, 3) := by decide +kernel
theorem dX8_count_36 : decode cX8_count 36 = .ok (.ifCond .ne 15, 3) := by decide +kernel
theorem dX8_count_39 : decode cX8_count 39 = .ok (.aload_n 0, 1) := by decide +kernel
theorem dX8_count_40 : decode cX8_count 40 = .ok (.getfield 55, 3) := by decide +kernel
theorem dX8_count_43 : decode cX8_count 43 = .ok (.iload_n 3, 1) := by decide +kernel
theorem dX8_count_44 : decode cX8_count 44 = .ok (.aload_n 0, 1) := by decide +kernel
theorem dX8_count_45 : decode cX8_count 45 = .ok (.getfield 49, 3) := by decide +kernel
theorem dX8_count_48 : decode cX8_count 48 = .ok (.iload_n 3, 1) := by decide +kernel
theorem dX8_count_49 : decode cX8_count 49 = .ok (.iaload, 1) := by decide +kernel
theorem dX8_count_50 : decode cX8_count 50 = .ok (.iastore, 1) := by decide +kernel
theorem dX8_count_51 : decode cX8_count 51 = .ok (.iinc 3 1, 3) := by decide +kernel
theorem dX8_count_54 : decode cX8_count 54 = .ok (.goto (-41), 3) := by decide +kernel
theorem dX8_count_57 : decode cX8_count 57 = .ok (.aload_n 0, 1) := by decide +kernel
theorem dX8_count_58 : decode cX8_count 58 = .ok (.aload_n 0, 1) := by decide +kernel
theorem dX8_count_59 : decode cX8_count 59 = .ok (.getfield 334, 3) := by decide +kernel
theorem dX8_count_62 : decode cX8_count 62 = .ok (.ifCond .ne 7, 3) := by decide +kernel
theorem dX8_count_65 : decode cX8_count 65 = .ok (.iload_n 2, 1) := by decide +kernel
theorem dX8_count_66 : decode cX8_count 66 = .ok (.goto 9, 3) := by decide +kernel
theorem dX8_count_69 : decode cX8_count 69 = .ok (.aload_n 0, 1) := by decide +kernel
theorem dX8_count_70 : decode cX8_count 70 = .ok (.getfield 337, 3) := by decide +kernel
theorem dX8_count_73 : decode cX8_count 73 = .ok (.iload_n 2, 1) := by decide +kernel
theorem dX8_count_74 : decode cX8_count 74 = .ok (.iand, 1) := by decide +kernel
theorem dX8_count_75 : decode cX8_count 75 = .ok (.putfield 337, 3) := by decide +kernel
theorem dX8_count_78 : decode cX8_count 78 = .ok (.aload_n 0, 1) := by decide +kernel
theorem dX8_count_79 : decode cX8_count 79 = .ok (.dup, 1) := by decide +kernel
theorem dX8_count_80 : decode cX8_count 80 = .ok (.getfield 334, 3) := by decide +kernel
theorem dX8_count_83 : decode cX8_count 83 = .ok (.iconst 1, 1) := by decide +kernel
theorem dX8_count_84 : decode cX8_count 84 = .ok (.iadd, 1) := by decide +kernel
theorem dX8_count_85 : decode cX8_count 85 = .ok (.putfield 334, 3) := by decide +kernel
theorem dX8_count_88 : decode cX8_count 88 = .ok (.return_, 1) := by decide +kernel
theorem dX8_goThrough_0 : decode cX8_goThrough 0 = .ok (.iconst 0, 1) := by decide +kernel
theorem dX8_goThrough_1 : decode cX8_goThrough 1 = .ok (.istore_n 3, 1) := by decide +kernel
theorem dX8_goThrough_2 : decode cX8_goThrough 2 = .ok (.aload_n 0, 1) := by decide +kernel
theorem dX8_goThrough_3 : decode cX8_goThrough 3 = .ok (.getfield 49, 3) := by decide +kernel
theorem dX8_goThrough_6 : decode cX8_goThrough 6 = .ok (.iconst 0, 1) := by decide +kernel
theorem dX8_goThrough_7 : decode cX8_goThrough 7 = .ok (.iconst (-1), 1) := by decide +kernel
theorem dX8_goThrough_8 : decode cX8_goThrough 8 = .ok (.iastore, 1) := by decide +kernel
theorem dX8_goThrough_9 : decode cX8_goThrough 9 = .ok (.iload_n 3, 1) := by decide +kernel
theorem dX8_goThrough_10 : decode cX8_goThrough 10 = .ok (.ifCond .lt 90, 3) := by decide +kernel
theorem dX8_goThrough_13 : decode cX8_goThrough 13 = .ok (.aload_n 0, 1) := by decide +kernel
theorem dX8_goThrough_14 : decode cX8_goThrough 14 = .ok (.getfield 49, 3) := by decide +kernel
theorem dX8_goThrough_17 : decode cX8_goThrough 17 = .ok (.iload_n 3, 1) := by decide +kernel
theorem dX8_goThrough_18 : decode cX8_goThrough 18 = .ok (.dup2, 1) := by decide +kernel
theorem dX8_goThrough_19 : decode cX8_goThrough 19 = .ok (.iaload, 1) := by decide +kernel
theorem dX8_goThrough_20 : decode cX8_goThrough 20 = .ok (.iconst 1, 1) := by decide +kernel
theorem dX8_goThrough_21 : decode cX8_goThrough 21 = .ok (.iadd, 1) := by decide +kernel
theorem dX8_goThrough_22 : decode cX8_goThrough 22 = .ok (.iastore, 1) := by decide +kernel
theorem dX8_goThrough_23 : decode cX8_goThrough 23 = .ok (.aload_n 0, 1) := by decide +kernel
theorem dX8_goThrough_24 : decode cX8_goThrough 24 = .ok (.getfield 49, 3) := by decide +kernel
theorem dX8_goThrough_27 : decode cX8_goThrough 27 = .ok (.iload_n 3, 1) := by decide +kernel
theorem dX8_goThrough_28 : decode cX8_goThrough 28 = .ok (.iaload, 1) := by decide +kernel
theorem dX8_goThrough_29 : decode cX8_goThrough 29 = .ok (.bipush 8, 2) := by decide +kernel
theorem dX8_goThrough_31 : decode cX8_goThrough 31 = .ok (.aload_n 0, 1) := by decide +kernel
theorem dX8_goThrough_32 : decode cX8_goThrough 32 = .ok (.getfield 58, 3) := by decide +kernel
theorem dX8_goThrough_35 : decode cX8_goThrough 35 = .ok (.imul, 1) := by decide +kernel
theorem dX8_goThrough_36 : decode cX8_goThrough 36 = .ok (.if_icmp .lt 9, 3) := by decide +kernel
theorem dX8_goThrough_39 : decode cX8_goThrough 39 = .ok (.iinc 3 (-1), 3) := by decide +kernel
theorem dX8_goThrough_42 : decode cX8_goThrough 42 = .ok (.goto (-33), 3) := by decide +kernel
theorem dX8_goThrough_45 : decode cX8_goThrough 45 = .ok (.aload_n 0, 1) := by decide +kernel
theorem dX8_goThrough_46 : decode cX8_goThrough 46 = .ok (.getfield 49, 3) := by decide +kernel
theorem dX8_goThrough_49 : decode cX8_goThrough 49 = .ok (.iload_n 3, 1) := by decide +kernel
theorem dX8_goThrough_50 : decode cX8_goThrough 50 = .ok (.iaload, 1) := by decide +kernel
theorem dX8_goThrough_51 : decode cX8_goThrough 51 = .ok (.bipush 8, 2) := by decide +kernel
theorem dX8_goThrough_53 : decode cX8_goThrough 53 = .ok (.irem, 1) := by decide +kernel
theorem dX8_goThrough_54 : decode cX8_goThrough 54 = .ok (.aload_n 0, 1) := by decide +kernel
theorem dX8_goThrough_55 : decode cX8_goThrough 55 = .ok (.getfield 7, 3) := by decide +kernel
theorem dX8_goThrough_58 : decode cX8_goThrough 58 = .ok (.iconst 0, 1) := by decide +kernel
theorem dX8_goThrough_59 : decode cX8_goThrough 59 = .ok (.iaload, 1) := by decide +kernel
theorem dX8_goThrough_60 : decode cX8_goThrough 60 = .ok (.if_icmp .lt 6, 3) := by decide +kernel
theorem dX8_goThrough_63 : decode cX8_goThrough 63 = .ok (.goto (-54), 3) := by decide +kernel
theorem dX8_goThrough_66 : decode cX8_goThrough 66 = .ok (.aload_n 0, 1) := by decide +kernel
theorem dX8_goThrough_67 : decode cX8_goThrough 67 = .ok (.iload_n 1, 1) := by decide +kernel
theorem dX8_goThrough_68 : decode cX8_goThrough 68 = .ok (.iload_n 3, 1) := by decide +kernel
theorem dX8_goThrough_69 : decode cX8_goThrough 69 = .ok (.invokevirtual 340, 3) := by decide +kernel
theorem dX8_goThrough_72 : decode cX8_goThrough 72 = .ok (.iload_n 3, 1) := by decide +kernel
theorem dX8_goThrough_73 : decode cX8_goThrough 73 = .ok (.iconst 1, 1) := by decide +kernel
theorem dX8_goThrough_74 : decode cX8_goThrough 74 = .ok (.iadd, 1) := by decide +kernel
theorem dX8_goThrough_75 : decode cX8_goThrough 75 = .ok (.iload_n 2, 1) := by decide +kernel
theorem dX8_goThrough_76 : decode cX8_goThrough 76 = .ok (.if_icmp .ge 16, 3) := by decide +kernel
theorem dX8_goThrough_79 : decode cX8_goThrough 79 = .ok (.iinc 3 1, 3) := by decide +kernel
theorem dX8_goThrough_82 : decode cX8_goThrough 82 = .ok (.aload_n 0, 1) := by decide +kernel
theorem dX8_goThrough_83 : decode cX8_goThrough 83 = .ok (.getfield 49, 3) := by decide +kernel
theorem dX8_goThrough_86 : decode cX8_goThrough 86 = .ok (.iload_n 3, 1) := by decide +kernel
theorem dX8_goThrough_87 : decode cX8_goThrough 87 = .ok (.iconst (-1), 1) := by decide +kernel
theorem dX8_goThrough_88 : decode cX8_goThrough 88 = .ok (.iastore, 1) := by decide +kernel
theorem dX8_goThrough_89 : decode cX8_goThrough 89 = .ok (.goto (-80), 3) := by decide +kernel
theorem dX8_goThrough_92 : decode cX8_goThrough 92 = .ok (.aload_n 0, 1) := by decide +kernel
theorem dX8_goThrough_93 : decode cX8_goThrough 93 = .ok (.iload_n 2, 1) := by decide +kernel
theorem dX8_goThrough_94 : decode cX8_goThrough 94 = .ok (.invokevirtual 343, 3) := by decide +kernel
theorem dX8_goThrough_97 : decode cX8_goThrough 97 = .ok (.goto (-88), 3) := by decide +kernel
theorem dX8_goThrough_100 : decode cX8_goThrough 100 = .ok (.return_, 1) := by decide +kernel
theorem dX8_how_0 : decode cX8_how 0 = .ok (.aload_n 0, 1) := by decide +kernel
theorem dX8_how_1 : decode cX8_how 1 = .ok (.iload_n 1, 1) := by decide +kernel
theorem dX8_how_2 : decode cX8_how 2 = .ok (.invokevirtual 278, 3) := by decide +kernel
theorem dX8_how_5 : decode cX8_how 5 = .ok (.ifCond .eq 18, 3) := by decide +kernel
theorem dX8_how_8 : decode cX8_how 8 = .ok (.iload_n 2, 1) := by decide +kernel
theorem dX8_how_9 : decode cX8_how 9 = .ok (.iconst 0, 1) := by decide +kernel
theorem dX8_how_10 : decode cX8_how 10 = .ok (.iconst 3, 1) := by decide +kernel
theorem dX8_how_11 : decode cX8_how 11 = .ok (.invokestatic 69, 3) := by decide +kernel
theorem dX8_how_14 : decode cX8_how 14 = .ok (.ifCond .eq 9, 3) := by decide +kernel
theorem dX8_how_17 : decode cX8_how 17 = .ok (.iload_n 3, 1) := by decide +kernel
theorem dX8_how_18 : decode cX8_how 18 = .ok (.bipush (-2), 2) := by decide +kernel
theorem dX8_how_20 : decode cX8_how 20 = .ok (.if_icmp .ge 6, 3) := by decide +kernel
theorem dX8_how_23 : decode cX8_how 23 = .ok (.bipush (-3), 2) := by decide +kernel
theorem dX8_how_25 : decode cX8_how 25 = .ok (.ireturn, 1) := by decide +kernel
theorem dX8_how_26 : decode cX8_how 26 = .ok (.aload_n 0, 1) := by decide +kernel
theorem dX8_how_27 : decode cX8_how 27 = .ok (.iconst 0, 1) := by decide +kernel
theorem dX8_how_28 : decode cX8_how 28 = .ok (.putfield 334, 3) := by decide +kernel
theorem dX8_how_31 : decode cX8_how 31 = .ok (.aload_n 0, 1) := by decide +kernel
theorem dX8_how_32 : decode cX8_how 32 = .ok (.iconst 0, 1) := by decide +kernel
theorem dX8_how_33 : decode cX8_how 33 = .ok (.putfield 337, 3) := by decide +kernel
theorem dX8_how_36 : decode cX8_how 36 = .ok (.iconst 0, 1) := by decide +kernel
theorem dX8_how_37 : decode cX8_how 37 = .ok (.istore 4, 2) := by decide +kernel
theorem dX8_how_39 : decode cX8_how 39 = .ok (.iload 4, 2) := by decide +kernel
theorem dX8_how_41 : decode cX8_how 41 = .ok (.iconst 4, 1) := by decide +kernel
theorem dX8_how_42 : decode cX8_how 42 = .ok (.if_icmp .ge 25, 3) := by decide +kernel
theorem dX8_how_45 : decode cX8_how 45 = .ok (.aload_n 0, 1) := by decide +kernel
theorem dX8_how_46 : decode cX8_how 46 = .ok (.getfield 52, 3) := by decide +kernel
theorem dX8_how_49 : decode cX8_how 49 = .ok (.iload 4, 2) := by decide +kernel
theorem dX8_how_51 : decode cX8_how 51 = .ok (.aload_n 0, 1) := by decide +kernel
theorem dX8_how_52 : decode cX8_how 52 = .ok (.iload_n 1, 1) := by decide +kernel
theorem dX8_how_53 : decode cX8_how 53 = .ok (.iconst 4, 1) := by decide +kernel
theorem dX8_how_54 : decode cX8_how 54 = .ok (.iload 4, 2) := by decide +kernel
theorem dX8_how_56 : decode cX8_how 56 = .ok (.iadd, 1) := by decide +kernel
theorem dX8_how_57 : decode cX8_how 57 = .ok (.invokevirtual 77, 3) := by decide +kernel
theorem dX8_how_60 : decode cX8_how 60 = .ok (.iastore, 1) := by decide +kernel
theorem dX8_how_61 : decode cX8_how 61 = .ok (.iinc 4 1, 3) := by decide +kernel
theorem dX8_how_64 : decode cX8_how 64 = .ok (.goto (-25), 3) := by decide +kernel
theorem dX8_how_67 : decode cX8_how 67 = .ok (.iload_n 2, 1) := by decide +kernel
theorem dX8_how_68 : decode cX8_how 68 = .ok (.ifCond .ne 11, 3) := by decide +kernel
theorem dX8_how_71 : decode cX8_how 71 = .ok (.aload_n 0, 1) := by decide +kernel
theorem dX8_how_72 : decode cX8_how 72 = .ok (.iconst 0, 1) := by decide +kernel
theorem dX8_how_73 : decode cX8_how 73 = .ok (.invokevirtual 343, 3) := by decide +kernel
theorem dX8_how_76 : decode cX8_how 76 = .ok (.goto 23, 3) := by decide +kernel
theorem dX8_how_79 : decode cX8_how 79 = .ok (.aload_n 0, 1) := by decide +kernel
theorem dX8_how_80 : decode cX8_how 80 = .ok (.getfield 7, 3) := by decide +kernel
theorem dX8_how_83 : decode cX8_how 83 = .ok (.iconst 2, 1) := by decide +kernel
theorem dX8_how_84 : decode cX8_how 84 = .ok (.iaload, 1) := by decide +kernel
theorem dX8_how_85 : decode cX8_how 85 = .ok (.iload_n 2, 1) := by decide +kernel
theorem dX8_how_86 : decode cX8_how 86 = .ok (.iadd, 1) := by decide +kernel
theorem dX8_how_87 : decode cX8_how 87 = .ok (.sipush 999, 3) := by decide +kernel
theorem dX8_how_90 : decode cX8_how 90 = .ok (.if_icmp .gt 9, 3) := by decide +kernel
theorem dX8_how_93 : decode cX8_how 93 = .ok (.aload_n 0, 1) := by decide +kernel
theorem dX8_how_94 : decode cX8_how 94 = .ok (.iload_n 1, 1) := by decide +kernel
theorem dX8_how_95 : decode cX8_how 95 = .ok (.iload_n 2, 1) := by decide +kernel
theorem dX8_how_96 : decode cX8_how 96 = .ok (.invokevirtual 346, 3) := by decide +kernel
theorem dX8_how_99 : decode cX8_how 99 = .ok (.iload_n 3, 1) := by decide +kernel
theorem dX8_how_100 : decode cX8_how 100 = .ok (.iconst (-1), 1) := by decide +kernel
theorem dX8_how_101 : decode cX8_how 101 = .ok (.if_icmp .ne 10, 3) := by decide +kernel
theorem dX8_how_104 : decode cX8_how 104 = .ok (.aload_n 0, 1) := by decide +kernel
theorem dX8_how_105 : decode cX8_how 105 = .ok (.getfield 334, 3) := by decide +kernel
theorem dX8_how_108 : decode cX8_how 108 = .ok (.goto 39, 3) := by decide +kernel
theorem dX8_how_111 : decode cX8_how 111 = .ok (.iload_n 3, 1) := by decide +kernel
theorem dX8_how_112 : decode cX8_how 112 = .ok (.bipush (-2), 2) := by decide +kernel
theorem dX8_how_114 : decode cX8_how 114 = .ok (.if_icmp .ne 10, 3) := by decide +kernel
theorem dX8_how_117 : decode cX8_how 117 = .ok (.aload_n 0, 1) := by decide +kernel
theorem dX8_how_118 : decode cX8_how 118 = .ok (.getfield 337, 3) := by decide +kernel
theorem dX8_how_121 : decode cX8_how 121 = .ok (.goto 26, 3) := by decide +kernel
theorem dX8_how_124 : decode cX8_how 124 = .ok (.aload_n 0, 1) := by decide +kernel
theorem dX8_how_125 : decode cX8_how 125 = .ok (.getfield 334, 3) := by decide +kernel
theorem dX8_how_128 : decode cX8_how 128 = .ok (.ifCond .le 17, 3) := by decide +kernel
theorem dX8_how_131 : decode cX8_how 131 = .ok (.iload_n 3, 1) := by decide +kernel
theorem dX8_how_132 : decode cX8_how 132 = .ok (.iload_n 2, 1) := by decide +kernel
theorem dX8_how_133 : decode cX8_how 133 = .ok (.if_icmp .ge 12, 3) := by decide +kernel
theorem dX8_how_136 : decode cX8_how 136 = .ok (.aload_n 0, 1) := by decide +kernel
theorem dX8_how_137 : decode cX8_how 137 = .ok (.getfield 55, 3) := by decide +kernel
theorem dX8_how_140 : decode cX8_how 140 = .ok (.iload_n 3, 1) := by decide +kernel
theorem dX8_how_141 : decode cX8_how 141 = .ok (.iaload, 1) := by decide +kernel
theorem dX8_how_142 : decode cX8_how 142 = .ok (.goto 5, 3) := by decide +kernel
theorem dX8_how_145 : decode cX8_how 145 = .ok (.bipush (-3), 2) := by decide +kernel
theorem dX8_how_147 : decode cX8_how 147 = .ok (.ireturn, 1) := by decide +kernel
theorem dX8_isSupper_0 : decode cX8_isSupper 0 = .ok (.aload_n 0, 1) := by decide +kernel
theorem dX8_isSupper_1 : decode cX8_isSupper 1 = .ok (.getfield 7, 3) := by decide +kernel
theorem dX8_isSupper_4 : decode cX8_isSupper 4 = .ok (.aload_n 0, 1) := by decide +kernel
theorem dX8_isSupper_5 : decode cX8_isSupper 5 = .ok (.getfield 16, 3) := by decide +kernel
theorem dX8_isSupper_8 : decode cX8_isSupper 8 = .ok (.invokestatic 65, 3) := by decide +kernel
theorem dX8_isSupper_11 : decode cX8_isSupper 11 = .ok (.aload_n 0, 1) := by decide +kernel
theorem dX8_isSupper_12 : decode cX8_isSupper 12 = .ok (.iload_n 3, 1) := by decide +kernel
theorem dX8_isSupper_13 : decode cX8_isSupper 13 = .ok (.iload 4, 2) := by decide +kernel
theorem dX8_isSupper_15 : decode cX8_isSupper 15 = .ok (.invokevirtual 290, 3) := by decide +kernel
theorem dX8_isSupper_18 : decode cX8_isSupper 18 = .ok (.aload_n 0, 1) := by decide +kernel
theorem dX8_isSupper_19 : decode cX8_isSupper 19 = .ok (.iload_n 1, 1) := by decide +kernel
theorem dX8_isSupper_20 : decode cX8_isSupper 20 = .ok (.invokevirtual 312, 3) := by decide +kernel
theorem dX8_isSupper_23 : decode cX8_isSupper 23 = .ok (.iconst 1, 1) := by decide +kernel
theorem dX8_isSupper_24 : decode cX8_isSupper 24 = .ok (.istore 5, 2) := by decide +kernel
theorem dX8_isSupper_26 : decode cX8_isSupper 26 = .ok (.iconst 0, 1) := by decide +kernel
theorem dX8_isSupper_27 : decode cX8_isSupper 27 = .ok (.istore 6, 2) := by decide +kernel
theorem dX8_isSupper_29 : decode cX8_isSupper 29 = .ok (.iload 6, 2) := by decide +kernel
theorem dX8_isSupper_31 : decode cX8_isSupper 31 = .ok (.iconst 4, 1) := by decide +kernel
theorem dX8_isSupper_32 : decode cX8_isSupper 32 = .ok (.if_icmp .ge 39, 3) := by decide +kernel
theorem dX8_isSupper_35 : decode cX8_isSupper 35 = .ok (.iload 5, 2) := by decide +kernel
theorem dX8_isSupper_37 : decode cX8_isSupper 37 = .ok (.ifCond .eq 25, 3) := by decide +kernel
theorem dX8_isSupper_40 : decode cX8_isSupper 40 = .ok (.aload_n 0, 1) := by decide +kernel
theorem dX8_isSupper_41 : decode cX8_isSupper 41 = .ok (.iload_n 2, 1) := by decide +kernel
theorem dX8_isSupper_42 : decode cX8_isSupper 42 = .ok (.iconst 4, 1) := by decide +kernel
theorem dX8_isSupper_43 : decode cX8_isSupper 43 = .ok (.iload 6, 2) := by decide +kernel
theorem dX8_isSupper_45 : decode cX8_isSupper 45 = .ok (.iadd, 1) := by decide +kernel
theorem dX8_isSupper_46 : decode cX8_isSupper 46 = .ok (.invokevirtual 77, 3) := by decide +kernel
theorem dX8_isSupper_49 : decode cX8_isSupper 49 = .ok (.aload_n 0, 1) := by decide +kernel
theorem dX8_isSupper_50 : decode cX8_isSupper 50 = .ok (.iload 6, 2) := by decide +kernel
theorem dX8_isSupper_52 : decode cX8_isSupper 52 = .ok (.invokevirtual 328, 3) := by decide +kernel
theorem dX8_isSupper_55 : decode cX8_isSupper 55 = .ok (.if_icmp .ne 7, 3) := by decide +kernel
theorem dX8_isSupper_58 : decode cX8_isSupper 58 = .ok (.iconst 1, 1) := by decide +kernel
theorem dX8_isSupper_59 : decode cX8_isSupper 59 = .ok (.goto 4, 3) := by decide +kernel
theorem dX8_isSupper_62 : decode cX8_isSupper 62 = .ok (.iconst 0, 1) := by decide +kernel
theorem dX8_isSupper_63 : decode cX8_isSupper 63 = .ok (.istore 5, 2) := by decide +kernel
theorem dX8_isSupper_65 : decode cX8_isSupper 65 = .ok (.iinc 6 1, 3) := by decide +kernel
theorem dX8_isSupper_68 : decode cX8_isSupper 68 = .ok (.goto (-39), 3) := by decide +kernel
theorem dX8_isSupper_71 : decode cX8_isSupper 71 = .ok (.aload_n 0, 1) := by decide +kernel
theorem dX8_isSupper_72 : decode cX8_isSupper 72 = .ok (.getfield 16, 3) := by decide +kernel
theorem dX8_isSupper_75 : decode cX8_isSupper 75 = .ok (.aload_n 0, 1) := by decide +kernel
theorem dX8_isSupper_76 : decode cX8_isSupper 76 = .ok (.getfield 7, 3) := by decide +kernel
theorem dX8_isSupper_79 : decode cX8_isSupper 79 = .ok (.invokestatic 65, 3) := by decide +kernel
theorem dX8_isSupper_82 : decode cX8_isSupper 82 = .ok (.iload 5, 2) := by decide +kernel
theorem dX8_isSupper_84 : decode cX8_isSupper 84 = .ok (.ireturn, 1) := by decide +kernel
theorem dX8_supper_0 : decode cX8_supper 0 = .ok (.aload_n 0, 1) := by decide +kernel
theorem dX8_supper_1 : decode cX8_supper 1 = .ok (.iload_n 1, 1) := by decide +kernel
theorem dX8_supper_2 : decode cX8_supper 2 = .ok (.invokevirtual 229, 3) := by decide +kernel
theorem dX8_supper_5 : decode cX8_supper 5 = .ok (.ifCond .eq 16, 3) := by decide +kernel
theorem dX8_supper_8 : decode cX8_supper 8 = .ok (.aload_n 0, 1) := by decide +kernel
theorem dX8_supper_9 : decode cX8_supper 9 = .ok (.iload_n 2, 1) := by decide +kernel
theorem dX8_supper_10 : decode cX8_supper 10 = .ok (.invokevirtual 278, 3) := by decide +kernel
theorem dX8_supper_13 : decode cX8_supper 13 = .ok (.ifCond .eq 8, 3) := by decide +kernel
theorem dX8_supper_16 : decode cX8_supper 16 = .ok (.iload_n 3, 1) := by decide +kernel
theorem dX8_supper_17 : decode cX8_supper 17 = .ok (.iconst (-1), 1) := by decide +kernel
theorem dX8_supper_18 : decode cX8_supper 18 = .ok (.if_icmp .ge 5, 3) := by decide +kernel
theorem dX8_supper_21 : decode cX8_supper 21 = .ok (.iconst (-1), 1) := by decide +kernel
theorem dX8_supper_22 : decode cX8_supper 22 = .ok (.ireturn, 1) := by decide +kernel
theorem dX8_supper_23 : decode cX8_supper 23 = .ok (.iconst 0, 1) := by decide +kernel
theorem dX8_supper_24 : decode cX8_supper 24 = .ok (.istore 4, 2) := by decide +kernel
theorem dX8_supper_26 : decode cX8_supper 26 = .ok (.iconst 0, 1) := by decide +kernel
theorem dX8_supper_27 : decode cX8_supper 27 = .ok (.istore 5, 2) := by decide +kernel
theorem dX8_supper_29 : decode cX8_supper 29 = .ok (.iload 5, 2) := by decide +kernel
theorem dX8_supper_31 : decode cX8_supper 31 = .ok (.aload_n 0, 1) := by decide +kernel
theorem dX8_supper_32 : decode cX8_supper 32 = .ok (.getfield 7, 3) := by decide +kernel
theorem dX8_supper_35 : decode cX8_supper 35 = .ok (.iconst 1, 1) := by decide +kernel
theorem dX8_supper_36 : decode cX8_supper 36 = .ok (.iaload, 1) := by decide +kernel
theorem dX8_supper_37 : decode cX8_supper 37 = .ok (.if_icmp .ge 66, 3) := by decide +kernel
theorem dX8_supper_40 : decode cX8_supper 40 = .ok (.iload 5, 2) := by decide +kernel
theorem dX8_supper_42 : decode cX8_supper 42 = .ok (.iconst 1, 1) := by decide +kernel
theorem dX8_supper_43 : decode cX8_supper 43 = .ok (.iadd, 1) := by decide +kernel
theorem dX8_supper_44 : decode cX8_supper 44 = .ok (.istore 6, 2) := by decide +kernel
theorem dX8_supper_46 : decode cX8_supper 46 = .ok (.iload 6, 2) := by decide +kernel
theorem dX8_supper_48 : decode cX8_supper 48 = .ok (.aload_n 0, 1) := by decide +kernel
theorem dX8_supper_49 : decode cX8_supper 49 = .ok (.getfield 7, 3) := by decide +kernel
theorem dX8_supper_52 : decode cX8_supper 52 = .ok (.iconst 1, 1) := by decide +kernel
theorem dX8_supper_53 : decode cX8_supper 53 = .ok (.iaload, 1) := by decide +kernel
theorem dX8_supper_54 : decode cX8_supper 54 = .ok (.if_icmp .ge 43, 3) := by decide +kernel
theorem dX8_supper_57 : decode cX8_supper 57 = .ok (.aload_n 0, 1) := by decide +kernel
theorem dX8_supper_58 : decode cX8_supper 58 = .ok (.iload_n 1, 1) := by decide +kernel
theorem dX8_supper_59 : decode cX8_supper 59 = .ok (.iload_n 2, 1) := by decide +kernel
theorem dX8_supper_60 : decode cX8_supper 60 = .ok (.iload 5, 2) := by decide +kernel
theorem dX8_supper_62 : decode cX8_supper 62 = .ok (.iload 6, 2) := by decide +kernel
theorem dX8_supper_64 : decode cX8_supper 64 = .ok (.invokevirtual 349, 3) := by decide +kernel
theorem dX8_supper_67 : decode cX8_supper 67 = .ok (.ifCond .ne 6, 3) := by decide +kernel
theorem dX8_supper_70 : decode cX8_supper 70 = .ok (.goto 21, 3) := by decide +kernel
theorem dX8_supper_73 : decode cX8_supper 73 = .ok (.iload 4, 2) := by decide +kernel
theorem dX8_supper_75 : decode cX8_supper 75 = .ok (.iload_n 3, 1) := by decide +kernel
theorem dX8_supper_76 : decode cX8_supper 76 = .ok (.if_icmp .ne 12, 3) := by decide +kernel
theorem dX8_supper_79 : decode cX8_supper 79 = .ok (.bipush 8, 2) := by decide +kernel
theorem dX8_supper_81 : decode cX8_supper 81 = .ok (.iload 5, 2) := by decide +kernel
theorem dX8_supper_83 : decode cX8_supper 83 = .ok (.imul, 1) := by decide +kernel
theorem dX8_supper_84 : decode cX8_supper 84 = .ok (.iload 6, 2) := by decide +kernel
theorem dX8_supper_86 : decode cX8_supper 86 = .ok (.iadd, 1) := by decide +kernel
theorem dX8_supper_87 : decode cX8_supper 87 = .ok (.ireturn, 1) := by decide +kernel
theorem dX8_supper_88 : decode cX8_supper 88 = .ok (.iinc 4 1, 3) := by decide +kernel
theorem dX8_supper_91 : decode cX8_supper 91 = .ok (.iinc 6 1, 3) := by decide +kernel
theorem dX8_supper_94 : decode cX8_supper 94 = .ok (.goto (-48), 3) := by decide +kernel
theorem dX8_supper_97 : decode cX8_supper 97 = .ok (.iinc 5 1, 3) := by decide +kernel
theorem dX8_supper_100 : decode cX8_supper 100 = .ok (.goto (-71), 3) := by decide +kernel
theorem dX8_supper_103 : decode cX8_supper 103 = .ok (.iload_n 3, 1) := by decide +kernel
theorem dX8_supper_104 : decode cX8_supper 104 = .ok (.iconst (-1), 1) := by decide +kernel
theorem dX8_supper_105 : decode cX8_supper 105 = .ok (.if_icmp .ne 8, 3) := by decide +kernel
theorem dX8_supper_108 : decode cX8_supper 108 = .ok (.iload 4, 2) := by decide +kernel
theorem dX8_supper_110 : decode cX8_supper 110 = .ok (.goto 4, 3) := by decide +kernel
theorem dX8_supper_113 : decode cX8_supper 113 = .ok (.iconst (-1), 1) := by decide +kernel
theorem dX8_supper_114 : decode cX8_supper 114 = .ok (.ireturn, 1) := by decide +kernel
theorem dX8_image_0 : decode cX8_image 0 = .ok (.aload_n 0, 1) := by decide +kernel
theorem dX8_image_1 : decode cX8_image 1 = .ok (.getfield 7, 3) := by decide +kernel
theorem dX8_image_4 : decode cX8_image 4 = .ok (.aload_n 0, 1) := by decide +kernel
theorem dX8_image_5 : decode cX8_image 5 = .ok (.getfield 13, 3) := by decide +kernel
theorem dX8_image_8 : decode cX8_image 8 = .ok (.invokestatic 65, 3) := by decide +kernel
theorem dX8_image_11 : decode cX8_image 11 = .ok (.aload_n 0, 1) := by decide +kernel
theorem dX8_image_12 : decode cX8_image 12 = .ok (.getfield 7, 3) := by decide +kernel
theorem dX8_image_15 : decode cX8_image 15 = .ok (.iconst 2, 1) := by decide +kernel
theorem dX8_image_16 : decode cX8_image 16 = .ok (.iaload, 1) := by decide +kernel
theorem dX8_image_17 : decode cX8_image 17 = .ok (.ireturn, 1) := by decide +kernel
theorem dX8_back_0 : decode cX8_back 0 = .ok (.aload_n 0, 1) := by decide +kernel
theorem dX8_back_1 : decode cX8_back 1 = .ok (.getfield 13, 3) := by decide +kernel
theorem dX8_back_4 : decode cX8_back 4 = .ok (.aload_n 0, 1) := by decide +kernel
theorem dX8_back_5 : decode cX8_back 5 = .ok (.getfield 7, 3) := by decide +kernel
theorem dX8_back_8 : decode cX8_back 8 = .ok (.invokestatic 65, 3) := by decide +kernel
theorem dX8_back_11 : decode cX8_back 11 = .ok (.aload_n 0, 1) := by decide +kernel
theorem dX8_back_12 : decode cX8_back 12 = .ok (.getfield 7, 3) := by decide +kernel
theorem dX8_back_15 : decode cX8_back 15 = .ok (.iconst 2, 1) := by decide +kernel
theorem dX8_back_16 : decode cX8_back 16 = .ok (.iaload, 1) := by decide +kernel
theorem dX8_back_17 : decode cX8_back 17 = .ok (.ireturn, 1) := by decide +kernel
theorem dX8_about_0 : decode cX8_about 0 = .ok (.iload_n 1, 1) := by decide +kernel
theorem dX8_about_1 : decode cX8_about 1 = .ok (.bipush 10, 2) := by decide +kernel
theorem dX8_about_3 : decode cX8_about 3 = .ok (.bipush 9, 2) := by decide +kernel
theorem dX8_about_5 : decode cX8_about 5 = .ok (.aload_n 0, 1) := by decide +kernel
theorem dX8_about_6 : decode cX8_about 6 = .ok (.getfield 7, 3) := by decide +kernel
theorem dX8_about_9 : decode cX8_about 9 = .ok (.iconst 0, 1) := by decide +kernel
theorem dX8_about_10 : decode cX8_about 10 = .ok (.iaload, 1) := by decide +kernel
theorem dX8_about_11 : decode cX8_about 11 = .ok (.iadd, 1) := by decide +kernel
theorem dX8_about_12 : decode cX8_about 12 = .ok (.invokestatic 69, 3) := by decide +kernel
theorem dX8_about_15 : decode cX8_about 15 = .ok (.ifCond .eq 16, 3) := by decide +kernel
theorem dX8_about_18 : decode cX8_about 18 = .ok (.aload_n 0, 1) := by decide +kernel
theorem dX8_about_19 : decode cX8_about 19 = .ok (.getfield 7, 3) := by decide +kernel
theorem dX8_about_22 : decode cX8_about 22 = .ok (.bipush 8, 2) := by decide +kernel
theorem dX8_about_24 : decode cX8_about 24 = .ok (.iload_n 1, 1) := by decide +kernel
theorem dX8_about_25 : decode cX8_about 25 = .ok (.iadd, 1) := by decide +kernel
theorem dX8_about_26 : decode cX8_about 26 = .ok (.bipush 10, 2) := by decide +kernel
theorem dX8_about_28 : decode cX8_about 28 = .ok (.isub, 1) := by decide +kernel
theorem dX8_about_29 : decode cX8_about 29 = .ok (.iaload, 1) := by decide +kernel
theorem dX8_about_30 : decode cX8_about 30 = .ok (.ireturn, 1) := by decide +kernel
theorem dX8_about_31 : decode cX8_about 31 = .ok (.iload_n 1, 1) := by decide +kernel
theorem dX8_about_32 : decode cX8_about 32 = .ok (.bipush 20, 2) := by decide +kernel
theorem dX8_about_34 : decode cX8_about 34 = .ok (.bipush 19, 2) := by decide +kernel
theorem dX8_about_36 : decode cX8_about 36 = .ok (.aload_n 0, 1) := by decide +kernel
theorem dX8_about_37 : decode cX8_about 37 = .ok (.getfield 58, 3) := by decide +kernel
theorem dX8_about_40 : decode cX8_about 40 = .ok (.iadd, 1) := by decide +kernel
theorem dX8_about_41 : decode cX8_about 41 = .ok (.invokestatic 69, 3) := by decide +kernel
theorem dX8_about_44 : decode cX8_about 44 = .ok (.ifCond .eq 12, 3) := by decide +kernel
theorem dX8_about_47 : decode cX8_about 47 = .ok (.aload_n 0, 1) := by decide +kernel
theorem dX8_about_48 : decode cX8_about 48 = .ok (.iload_n 1, 1) := by decide +kernel
theorem dX8_about_49 : decode cX8_about 49 = .ok (.bipush 20, 2) := by decide +kernel
theorem dX8_about_51 : decode cX8_about 51 = .ok (.isub, 1) := by decide +kernel
theorem dX8_about_52 : decode cX8_about 52 = .ok (.invokevirtual 281, 3) := by decide +kernel
theorem dX8_about_55 : decode cX8_about 55 = .ok (.ireturn, 1) := by decide +kernel
theorem dX8_about_56 : decode cX8_about 56 = .ok (.iload_n 1, 1) := by decide +kernel
theorem dX8_about_57 : decode cX8_about 57 = .ok (.ifCond .ne 10, 3) := by decide +kernel
theorem dX8_about_60 : decode cX8_about 60 = .ok (.aload_n 0, 1) := by decide +kernel
theorem dX8_about_61 : decode cX8_about 61 = .ok (.getfield 58, 3) := by decide +kernel
theorem dX8_about_64 : decode cX8_about 64 = .ok (.goto 39, 3) := by decide +kernel
theorem dX8_about_67 : decode cX8_about 67 = .ok (.iload_n 1, 1) := by decide +kernel
theorem dX8_about_68 : decode cX8_about 68 = .ok (.iconst 1, 1) := by decide +kernel
theorem dX8_about_69 : decode cX8_about 69 = .ok (.bipush 7, 2) := by decide +kernel
theorem dX8_about_71 : decode cX8_about 71 = .ok (.invokestatic 69, 3) := by decide +kernel
theorem dX8_about_74 : decode cX8_about 74 = .ok (.ifCond .eq 14, 3) := by decide +kernel
theorem dX8_about_77 : decode cX8_about 77 = .ok (.aload_n 0, 1) := by decide +kernel
theorem dX8_about_78 : decode cX8_about 78 = .ok (.getfield 7, 3) := by decide +kernel
theorem dX8_about_81 : decode cX8_about 81 = .ok (.iload_n 1, 1) := by decide +kernel
theorem dX8_about_82 : decode cX8_about 82 = .ok (.iconst 1, 1) := by decide +kernel
theorem dX8_about_83 : decode cX8_about 83 = .ok (.isub, 1) := by decide +kernel
theorem dX8_about_84 : decode cX8_about 84 = .ok (.iaload, 1) := by decide +kernel
theorem dX8_about_85 : decode cX8_about 85 = .ok (.goto 18, 3) := by decide +kernel
theorem dX8_about_88 : decode cX8_about 88 = .ok (.iload_n 1, 1) := by decide +kernel
theorem dX8_about_89 : decode cX8_about 89 = .ok (.bipush 8, 2) := by decide +kernel
theorem dX8_about_91 : decode cX8_about 91 = .ok (.if_icmp .ne 10, 3) := by decide +kernel
theorem dX8_about_94 : decode cX8_about 94 = .ok (.aload_n 0, 1) := by decide +kernel
theorem dX8_about_95 : decode cX8_about 95 = .ok (.getfield 81, 3) := by decide +kernel
theorem dX8_about_98 : decode cX8_about 98 = .ok (.goto 5, 3) := by decide +kernel
theorem dX8_about_101 : decode cX8_about 101 = .ok (.bipush (-2), 2) := by decide +kernel
theorem dX8_about_103 : decode cX8_about 103 = .ok (.ireturn, 1) := by decide +kernel
theorem dJ6_bitCount_0f7a4_0 : decode cJ6_bitCount_0f7a4 0 = .ok (.iload_n 0, 1) := by decide +kernel
theorem dJ6_bitCount_0f7a4_1 : decode cJ6_bitCount_0f7a4 1 = .ok (.iload_n 0, 1) := by decide +kernel
theorem dJ6_bitCount_0f7a4_2 : decode cJ6_bitCount_0f7a4 2 = .ok (.iconst 1, 1) := by decide +kernel
theorem dJ6_bitCount_0f7a4_3 : decode cJ6_bitCount_0f7a4 3 = .ok (.iushr, 1) := by decide +kernel
theorem dJ6_bitCount_0f7a4_4 : decode cJ6_bitCount_0f7a4 4 = .ok (.ldc_w 265, 3) := by decide +kernel
theorem dJ6_bitCount_0f7a4_7 : decode cJ6_bitCount_0f7a4 7 = .ok (.iand, 1) := by decide +kernel
theorem dJ6_bitCount_0f7a4_8 : decode cJ6_bitCount_0f7a4 8 = .ok (.isub, 1) := by decide +kernel
theorem dJ6_bitCount_0f7a4_9 : decode cJ6_bitCount_0f7a4 9 = .ok (.istore_n 0, 1) := by decide +kernel
theorem dJ6_bitCount_0f7a4_10 : decode cJ6_bitCount_0f7a4 10 = .ok (.iload_n 0, 1) := by decide +kernel
theorem dJ6_bitCount_0f7a4_11 : decode cJ6_bitCount_0f7a4 11 = .ok (.ldc_w 266, 3) := by decide +kernel
theorem dJ6_bitCount_0f7a4_14 : decode cJ6_bitCount_0f7a4 14 = .ok (.iand, 1) := by decide +kernel
theorem dJ6_bitCount_0f7a4_15 : decode cJ6_bitCount_0f7a4 15 = .ok (.iload_n 0, 1) := by decide +kernel
theorem dJ6_bitCount_0f7a4_16 : decode cJ6_bitCount_0f7a4 16 = .ok (.iconst 2, 1) := by decide +kernel
theorem dJ6_bitCount_0f7a4_17 : decode cJ6_bitCount_0f7a4 17 = .ok (.iushr, 1) := by decide +kernel
theorem dJ6_bitCount_0f7a4_18 : decode cJ6_bitCount_0f7a4 18 = .ok (.ldc_w 266, 3) := by decide +kernel
theorem dJ6_bitCount_0f7a4_21 : decode cJ6_bitCount_0f7a4 21 = .ok (.iand, 1) := by decide +kernel
theorem dJ6_bitCount_0f7a4_22 : decode cJ6_bitCount_0f7a4 22 = .ok (.iadd, 1) := by decide +kernel
theorem dJ6_bitCount_0f7a4_23 : decode cJ6_bitCount_0f7a4 23 = .ok (.istore_n 0, 1) := by decide +kernel
theorem dJ6_bitCount_0f7a4_24 : decode cJ6_bitCount_0f7a4 24 = .ok (.iload_n 0, 1) := by decide +kernel
theorem dJ6_bitCount_0f7a4_25 : decode cJ6_bitCount_0f7a4 25 = .ok (.iload_n 0, 1) := by decide +kernel
theorem dJ6_bitCount_0f7a4_26 : decode cJ6_bitCount_0f7a4 26 = .ok (.iconst 4, 1) := by decide +kernel
theorem dJ6_bitCount_0f7a4_27 : decode cJ6_bitCount_0f7a4 27 = .ok (.iushr, 1) := by decide +kernel
theorem dJ6_bitCount_0f7a4_28 : decode cJ6_bitCount_0f7a4 28 = .ok (.iadd, 1) := by decide +kernel
theorem dJ6_bitCount_0f7a4_29 : decode cJ6_bitCount_0f7a4 29 = .ok (.ldc_w 267, 3) := by decide +kernel
theorem dJ6_bitCount_0f7a4_32 : decode cJ6_bitCount_0f7a4 32 = .ok (.iand, 1) := by decide +kernel
theorem dJ6_bitCount_0f7a4_33 : decode cJ6_bitCount_0f7a4 33 = .ok (.istore_n 0, 1) := by decide +kernel
theorem dJ6_bitCount_0f7a4_34 : decode cJ6_bitCount_0f7a4 34 = .ok (.iload_n 0, 1) := by decide +kernel
theorem dJ6_bitCount_0f7a4_35 : decode cJ6_bitCount_0f7a4 35 = .ok (.iload_n 0, 1) := by decide +kernel
theorem dJ6_bitCount_0f7a4_36 : decode cJ6_bitCount_0f7a4 36 = .ok (.bipush 8, 2) := by decide +kernel
theorem dJ6_bitCount_0f7a4_38 : decode cJ6_bitCount_0f7a4 38 = .ok (.iushr, 1) := by decide +kernel
theorem dJ6_bitCount_0f7a4_39 : decode cJ6_bitCount_0f7a4 39 = .ok (.iadd, 1) := by decide +kernel
theorem dJ6_bitCount_0f7a4_40 : decode cJ6_bitCount_0f7a4 40 = .ok (.istore_n 0, 1) := by decide +kernel
theorem dJ6_bitCount_0f7a4_41 : decode cJ6_bitCount_0f7a4 41 = .ok (.iload_n 0, 1) := by decide +kernel
theorem dJ6_bitCount_0f7a4_42 : decode cJ6_bitCount_0f7a4 42 = .ok (.iload_n 0, 1) := by decide +kernel
theorem dJ6_bitCount_0f7a4_43 : decode cJ6_bitCount_0f7a4 43 = .ok (.bipush 16, 2) := by decide +kernel
theorem dJ6_bitCount_0f7a4_45 : decode cJ6_bitCount_0f7a4 45 = .ok (.iushr, 1) := by decide +kernel
theorem dJ6_bitCount_0f7a4_46 : decode cJ6_bitCount_0f7a4 46 = .ok (.iadd, 1) := by decide +kernel
theorem dJ6_bitCount_0f7a4_47 : decode cJ6_bitCount_0f7a4 47 = .ok (.istore_n 0, 1) := by decide +kernel
theorem dJ6_bitCount_0f7a4_48 : decode cJ6_bitCount_0f7a4 48 = .ok (.iload_n 0, 1) := by decide +kernel
theorem dJ6_bitCount_0f7a4_49 : decode cJ6_bitCount_0f7a4 49 = .ok (.bipush 63, 2) := by decide +kernel
theorem dJ6_bitCount_0f7a4_51 : decode cJ6_bitCount_0f7a4 51 = .ok (.iand, 1) := by decide +kernel
theorem dJ6_bitCount_0f7a4_52 : decode cJ6_bitCount_0f7a4 52 = .ok (.ireturn, 1) := by decide +kernel
theorem dJ9_max_7cf53_0 : decode cJ9_max_7cf53 0 = .ok (.iload_n 0, 1) := by decide +kernel
theorem dJ9_max_7cf53_1 : decode cJ9_max_7cf53 1 = .ok (.iload_n 1, 1) := by decide +kernel
theorem dJ9_max_7cf53_2 : decode cJ9_max_7cf53 2 = .ok (.if_icmp .lt 7, 3) := by decide +kernel
theorem dJ9_max_7cf53_5 : decode cJ9_max_7cf53 5 = .ok (.iload_n 0, 1) := by decide +kernel
theorem dJ9_max_7cf53_6 : decode cJ9_max_7cf53 6 = .ok (.goto 4, 3) := by decide +kernel
theorem dJ9_max_7cf53_9 : decode cJ9_max_7cf53 9 = .ok (.iload_n 1, 1) := by decide +kernel
theorem dJ9_max_7cf53_10 : decode cJ9_max_7cf53 10 = .ok (.ireturn, 1) := by decide +kernel
theorem dJ9_min_7cf53_0 : decode cJ9_min_7cf53 0 = .ok (.iload_n 0, 1) := by decide +kernel
theorem dJ9_min_7cf53_1 : decode cJ9_min_7cf53 1 = .ok (.iload_n 1, 1) := by decide +kernel
theorem dJ9_min_7cf53_2 : decode cJ9_min_7cf53 2 = .ok (.if_icmp .gt 7, 3) := by decide +kernel
theorem dJ9_min_7cf53_5 : decode cJ9_min_7cf53 5 = .ok (.iload_n 0, 1) := by decide +kernel
theorem dJ9_min_7cf53_6 : decode cJ9_min_7cf53 6 = .ok (.goto 4, 3) := by decide +kernel
theorem dJ9_min_7cf53_9 : decode cJ9_min_7cf53 9 = .ok (.iload_n 1, 1) := by decide +kernel
theorem dJ9_min_7cf53_10 : decode cJ9_min_7cf53 10 = .ok (.ireturn, 1) := by decide +kernel
theorem dJ0_length_8abf5_0 : decode cJ0_length_8abf5 0 = .ok (.aload_n 0, 1) := by decide +kernel
theorem dJ0_length_8abf5_1 : decode cJ0_length_8abf5 1 = .ok (.getfield 9, 3) := by decide +kernel
theorem dJ0_length_8abf5_4 : decode cJ0_length_8abf5 4 = .ok (.arraylength, 1) := by decide +kernel
theorem dJ0_length_8abf5_5 : decode cJ0_length_8abf5 5 = .ok (.aload_n 0, 1) := by decide +kernel
theorem dJ0_length_8abf5_6 : decode cJ0_length_8abf5 6 = .ok (.invokevirtual 335, 3) := by decide +kernel
theorem dJ0_length_8abf5_9 : decode cJ0_length_8abf5 9 = .ok (.ishr, 1) := by decide +kernel
theorem dJ0_length_8abf5_10 : decode cJ0_length_8abf5 10 = .ok (.ireturn, 1) := by decide +kernel
theorem dJ0_charAt_5068e_0 : decode cJ0_charAt_5068e 0 = .ok (.aload_n 0, 1) := by decide +kernel
theorem dJ0_charAt_5068e_1 : decode cJ0_charAt_5068e 1 = .ok (.invokevirtual 492, 3) := by decide +kernel
theorem dJ0_charAt_5068e_4 : decode cJ0_charAt_5068e 4 = .ok (.ifCond .eq 12, 3) := by decide +kernel
theorem dJ0_charAt_5068e_7 : decode cJ0_charAt_5068e 7 = .ok (.aload_n 0, 1) := by decide +kernel
theorem dJ0_charAt_5068e_8 : decode cJ0_charAt_5068e 8 = .ok (.getfield 9, 3) := by decide +kernel
theorem dJ0_charAt_5068e_11 : decode cJ0_charAt_5068e 11 = .ok (.iload_n 1, 1) := by decide +kernel
theorem dJ0_charAt_5068e_12 : decode cJ0_charAt_5068e 12 = .ok (.invokestatic 495, 3) := by decide +kernel
theorem dJ0_charAt_5068e_15 : decode cJ0_charAt_5068e 15 = .ok (.ireturn, 1) := by decide +kernel
theorem dJ0_charAt_5068e_16 : decode cJ0_charAt_5068e 16 = .ok (.aload_n 0, 1) := by decide +kernel
theorem dJ0_charAt_5068e_17 : decode cJ0_charAt_5068e 17 = .ok (.getfield 9, 3) := by decide +kernel
theorem dJ0_charAt_5068e_20 : decode cJ0_charAt_5068e 20 = .ok (.iload_n 1, 1) := by decide +kernel
theorem dJ0_charAt_5068e_21 : decode cJ0_charAt_5068e 21 = .ok (.invokestatic 498, 3) := by decide +kernel
theorem dJ0_charAt_5068e_24 : decode cJ0_charAt_5068e 24 = .ok (.ireturn, 1) := by decide +kernel
theorem dJ0_coder_7d493_0 : decode cJ0_coder_7d493 0 = .ok (.getstatic 38, 3) := by decide +kernel
theorem dJ0_coder_7d493_3 : decode cJ0_coder_7d493 3 = .ok (.ifCond .eq 10, 3) := by decide +kernel
theorem dJ0_coder_7d493_6 : decode cJ0_coder_7d493 6 = .ok (.aload_n 0, 1) := by decide +kernel
theorem dJ0_coder_7d493_7 : decode cJ0_coder_7d493 7 = .ok (.getfield 15, 3) := by decide +kernel
theorem dJ0_coder_7d493_10 : decode cJ0_coder_7d493 10 = .ok (.goto 4, 3) := by decide +kernel
theorem dJ0_coder_7d493_13 : decode cJ0_coder_7d493 13 = .ok (.iconst 1, 1) := by decide +kernel
theorem dJ0_coder_7d493_14 : decode cJ0_coder_7d493 14 = .ok (.ireturn, 1) := by decide +kernel
theorem dJ0_isLatin1_aae02_0 : decode cJ0_isLatin1_aae02 0 = .ok (.getstatic 38, 3) := by decide +kernel
theorem dJ0_isLatin1_aae02_3 : decode cJ0_isLatin1_aae02 3 = .ok (.ifCond .eq 14, 3) := by decide +kernel
theorem dJ0_isLatin1_aae02_6 : decode cJ0_isLatin1_aae02 6 = .ok (.aload_n 0, 1) := by decide +kernel
theorem dJ0_isLatin1_aae02_7 : decode cJ0_isLatin1_aae02 7 = .ok (.getfield 15, 3) := by decide +kernel
theorem dJ0_isLatin1_aae02_10 : decode cJ0_isLatin1_aae02 10 = .ok (.ifCond .ne 7, 3) := by decide +kernel
theorem dJ0_isLatin1_aae02_13 : decode cJ0_isLatin1_aae02 13 = .ok (.iconst 1, 1) := by decide +kernel
theorem dJ0_isLatin1_aae02_14 : decode cJ0_isLatin1_aae02 14 = .ok (.goto 4, 3) := by decide +kernel
theorem dJ0_isLatin1_aae02_17 : decode cJ0_isLatin1_aae02 17 = .ok (.iconst 0, 1) := by decide +kernel
theorem dJ0_isLatin1_aae02_18 : decode cJ0_isLatin1_aae02 18 = .ok (.ireturn, 1) := by decide +kernel
theorem dJ0_checkIndex_df160_0 : decode cJ0_checkIndex_df160 0 = .ok (.iload_n 0, 1) := by decide +kernel
theorem dJ0_checkIndex_df160_1 : decode cJ0_checkIndex_df160 1 = .ok (.iload_n 1, 1) := by decide +kernel
theorem dJ0_checkIndex_df160_2 : decode cJ0_checkIndex_df160 2 = .ok (.getstatic 1053, 3) := by decide +kernel
theorem dJ0_checkIndex_df160_5 : decode cJ0_checkIndex_df160 5 = .ok (.invokestatic 1059, 3) := by decide +kernel
theorem dJ0_checkIndex_df160_8 : decode cJ0_checkIndex_df160 8 = .ok (.pop, 1) := by decide +kernel
theorem dJ0_checkIndex_df160_9 : decode cJ0_checkIndex_df160 9 = .ok (.return_, 1) := by decide +kernel
theorem dJ1_charAt_3b067_0 : decode cJ1_charAt_3b067 0 = .ok (.iload_n 1, 1) := by decide +kernel
theorem dJ1_charAt_3b067_1 : decode cJ1_charAt_3b067 1 = .ok (.aload_n 0, 1) := by decide +kernel
theorem dJ1_charAt_3b067_2 : decode cJ1_charAt_3b067 2 = .ok (.arraylength, 1) := by decide +kernel
theorem dJ1_charAt_3b067_3 : decode cJ1_charAt_3b067 3 = .ok (.invokestatic 9, 3) := by decide +kernel
theorem dJ1_charAt_3b067_6 : decode cJ1_charAt_3b067 6 = .ok (.aload_n 0, 1) := by decide +kernel
theorem dJ1_charAt_3b067_7 : decode cJ1_charAt_3b067 7 = .ok (.iload_n 1, 1) := by decide +kernel
theorem dJ1_charAt_3b067_8 : decode cJ1_charAt_3b067 8 = .ok (.baload, 1) := by decide +kernel
theorem dJ1_charAt_3b067_9 : decode cJ1_charAt_3b067 9 = .ok (.sipush 255, 3) := by decide +kernel
theorem dJ1_charAt_3b067_12 : decode cJ1_charAt_3b067 12 = .ok (.iand, 1) := by decide +kernel
theorem dJ1_charAt_3b067_13 : decode cJ1_charAt_3b067 13 = .ok (.i2c, 1) := by decide +kernel
theorem dJ1_charAt_3b067_14 : decode cJ1_charAt_3b067 14 = .ok (.ireturn, 1) := by decide +kernel
theorem dJ2_getChar_3b067_0 : decode cJ2_getChar_3b067 0 = .ok (.getstatic 44, 3) := by decide +kernel
theorem dJ2_getChar_3b067_3 : decode cJ2_getChar_3b067 3 = .ok (.ifCond .ne 25, 3) := by decide +kernel
theorem dJ2_getChar_3b067_6 : decode cJ2_getChar_3b067 6 = .ok (.iload_n 1, 1) := by decide +kernel
theorem dJ2_getChar_3b067_7 : decode cJ2_getChar_3b067 7 = .ok (.ifCond .lt 11, 3) := by decide +kernel
theorem dJ2_getChar_3b067_10 : decode cJ2_getChar_3b067 10 = .ok (.iload_n 1, 1) := by decide +kernel
theorem dJ2_getChar_3b067_11 : decode cJ2_getChar_3b067 11 = .ok (.aload_n 0, 1) := by decide +kernel
theorem dJ2_getChar_3b067_12 : decode cJ2_getChar_3b067 12 = .ok (.invokestatic 48, 3) := by decide +kernel
theorem dJ2_getChar_3b067_15 : decode cJ2_getChar_3b067 15 = .ok (.if_icmp .lt 13, 3) := by decide +kernel
theorem dJ2_getChar_3b067_18 : decode cJ2_getChar_3b067 18 = .ok (.new 52, 3) := by decide +kernel
theorem dJ2_getChar_3b067_21 : decode cJ2_getChar_3b067 21 = .ok (.dup, 1) := by decide +kernel
theorem dJ2_getChar_3b067_22 : decode cJ2_getChar_3b067 22 = .ok (.ldc 54, 2) := by decide +kernel
theorem dJ2_getChar_3b067_24 : decode cJ2_getChar_3b067 24 = .ok (.invokespecial 56, 3) := by decide +kernel
theorem dJ2_getChar_3b067_27 : decode cJ2_getChar_3b067 27 = .ok (.athrow, 1) := by decide +kernel
theorem dJ2_getChar_3b067_28 : decode cJ2_getChar_3b067 28 = .ok (.iload_n 1, 1) := by decide +kernel
theorem dJ2_getChar_3b067_29 : decode cJ2_getChar_3b067 29 = .ok (.iconst 1, 1) := by decide +kernel
theorem dJ2_getChar_3b067_30 : decode cJ2_getChar_3b067 30 = .ok (.ishl, 1) := by decide +kernel
theorem dJ2_getChar_3b067_31 : decode cJ2_getChar_3b067 31 = .ok (.istore_n 1, 1) := by decide +kernel
theorem dJ2_getChar_3b067_32 : decode cJ2_getChar_3b067 32 = .ok (.aload_n 0, 1) := by decide +kernel
theorem dJ2_getChar_3b067_33 : decode cJ2_getChar_3b067 33 = .ok (.iload_n 1, 1) := by decide +kernel
theorem dJ2_getChar_3b067_34 : decode cJ2_getChar_3b067 34 = .ok (.iinc 1 1, 3) := by decide +kernel
theorem dJ2_getChar_3b067_37 : decode cJ2_getChar_3b067 37 = .ok (.baload, 1) := by decide +kernel
theorem dJ2_getChar_3b067_38 : decode cJ2_getChar_3b067 38 = .ok (.sipush 255, 3) := by decide +kernel
theorem dJ2_getChar_3b067_41 : decode cJ2_getChar_3b067 41 = .ok (.iand, 1) := by decide +kernel
theorem dJ2_getChar_3b067_42 : decode cJ2_getChar_3b067 42 = .ok (.getstatic 59, 3) := by decide +kernel
theorem dJ2_getChar_3b067_45 : decode cJ2_getChar_3b067 45 = .ok (.ishl, 1) := by decide +kernel
theorem dJ2_getChar_3b067_46 : decode cJ2_getChar_3b067 46 = .ok (.aload_n 0, 1) := by decide +kernel
theorem dJ2_getChar_3b067_47 : decode cJ2_getChar_3b067 47 = .ok (.iload_n 1, 1) := by decide +kernel
theorem dJ2_getChar_3b067_48 : decode cJ2_getChar_3b067 48 = .ok (.baload, 1) := by decide +kernel
theorem dJ2_getChar_3b067_49 : decode cJ2_getChar_3b067 49 = .ok (.sipush 255, 3) := by decide +kernel
theorem dJ2_getChar_3b067_52 : decode cJ2_getChar_3b067 52 = .ok (.iand, 1) := by decide +kernel
theorem dJ2_getChar_3b067_53 : decode cJ2_getChar_3b067 53 = .ok (.getstatic 63, 3) := by decide +kernel
theorem dJ2_getChar_3b067_56 : decode cJ2_getChar_3b067 56 = .ok (.ishl, 1) := by decide +kernel
theorem dJ2_getChar_3b067_57 : decode cJ2_getChar_3b067 57 = .ok (.ior, 1) := by decide +kernel
theorem dJ2_getChar_3b067_58 : decode cJ2_getChar_3b067 58 = .ok (.i2c, 1) := by decide +kernel
theorem dJ2_getChar_3b067_59 : decode cJ2_getChar_3b067 59 = .ok (.ireturn, 1) := by decide +kernel
theorem dJ2_length_9d52b_0 : decode cJ2_length_9d52b 0 = .ok (.aload_n 0, 1) := by decide +kernel
theorem dJ2_length_9d52b_1 : decode cJ2_length_9d52b 1 = .ok (.arraylength, 1) := by decide +kernel
theorem dJ2_length_9d52b_2 : decode cJ2_length_9d52b 2 = .ok (.iconst 1, 1) := by decide +kernel
theorem dJ2_length_9d52b_3 : decode cJ2_length_9d52b 3 = .ok (.ishr, 1) := by decide +kernel
theorem dJ2_length_9d52b_4 : decode cJ2_length_9d52b 4 = .ok (.ireturn, 1) := by decide +kernel
theorem dJ2_charAt_3b067_0 : decode cJ2_charAt_3b067 0 = .ok (.iload_n 1, 1) := by decide +kernel
theorem dJ2_charAt_3b067_1 : decode cJ2_charAt_3b067 1 = .ok (.aload_n 0, 1) := by decide +kernel
theorem dJ2_charAt_3b067_2 : decode cJ2_charAt_3b067 2 = .ok (.invokestatic 67, 3) := by decide +kernel
theorem dJ2_charAt_3b067_5 : decode cJ2_charAt_3b067 5 = .ok (.aload_n 0, 1) := by decide +kernel
theorem dJ2_charAt_3b067_6 : decode cJ2_charAt_3b067 6 = .ok (.iload_n 1, 1) := by decide +kernel
theorem dJ2_charAt_3b067_7 : decode cJ2_charAt_3b067 7 = .ok (.invokestatic 71, 3) := by decide +kernel
theorem dJ2_charAt_3b067_10 : decode cJ2_charAt_3b067 10 = .ok (.ireturn, 1) := by decide +kernel
theorem dJ2_checkIndex_2214a_0 : decode cJ2_checkIndex_2214a 0 = .ok (.iload_n 0, 1) := by decide +kernel
theorem dJ2_checkIndex_2214a_1 : decode cJ2_checkIndex_2214a 1 = .ok (.aload_n 1, 1) := by decide +kernel
theorem dJ2_checkIndex_2214a_2 : decode cJ2_checkIndex_2214a 2 = .ok (.invokestatic 48, 3) := by decide +kernel
theorem dJ2_checkIndex_2214a_5 : decode cJ2_checkIndex_2214a 5 = .ok (.invokestatic 414, 3) := by decide +kernel
theorem dJ2_checkIndex_2214a_8 : decode cJ2_checkIndex_2214a 8 = .ok (.return_, 1) := by decide +kernel
theorem dJ7_fill_53178_0 : decode cJ7_fill_53178 0 = .ok (.iconst 0, 1) := by decide +kernel
theorem dJ7_fill_53178_1 : decode cJ7_fill_53178 1 = .ok (.istore_n 2, 1) := by decide +kernel
theorem dJ7_fill_53178_2 : decode cJ7_fill_53178 2 = .ok (.aload_n 0, 1) := by decide +kernel
theorem dJ7_fill_53178_3 : decode cJ7_fill_53178 3 = .ok (.arraylength, 1) := by decide +kernel
theorem dJ7_fill_53178_4 : decode cJ7_fill_53178 4 = .ok (.istore_n 3, 1) := by decide +kernel
theorem dJ7_fill_53178_5 : decode cJ7_fill_53178 5 = .ok (.iload_n 2, 1) := by decide +kernel
theorem dJ7_fill_53178_6 : decode cJ7_fill_53178 6 = .ok (.iload_n 3, 1) := by decide +kernel
theorem dJ7_fill_53178_7 : decode cJ7_fill_53178 7 = .ok (.if_icmp .ge 13, 3) := by decide +kernel
theorem dJ7_fill_53178_10 : decode cJ7_fill_53178 10 = .ok (.aload_n 0, 1) := by decide +kernel
theorem dJ7_fill_53178_11 : decode cJ7_fill_53178 11 = .ok (.iload_n 2, 1) := by decide +kernel
theorem dJ7_fill_53178_12 : decode cJ7_fill_53178 12 = .ok (.iload_n 1, 1) := by decide +kernel
theorem dJ7_fill_53178_13 : decode cJ7_fill_53178 13 = .ok (.iastore, 1) := by decide +kernel
theorem dJ7_fill_53178_14 : decode cJ7_fill_53178 14 = .ok (.iinc 2 1, 3) := by decide +kernel
theorem dJ7_fill_53178_17 : decode cJ7_fill_53178 17 = .ok (.goto (-12), 3) := by decide +kernel
theorem dJ7_fill_53178_20 : decode cJ7_fill_53178 20 = .ok (.return_, 1) := by decide +kernel
theorem dJ3_checkIndex_8e157_0 : decode cJ3_checkIndex_8e157 0 = .ok (.iload_n 0, 1) := by decide +kernel
theorem dJ3_checkIndex_8e157_1 : decode cJ3_checkIndex_8e157 1 = .ok (.ifCond .lt 8, 3) := by decide +kernel
theorem dJ3_checkIndex_8e157_4 : decode cJ3_checkIndex_8e157 4 = .ok (.iload_n 0, 1) := by decide +kernel
theorem dJ3_checkIndex_8e157_5 : decode cJ3_checkIndex_8e157 5 = .ok (.iload_n 1, 1) := by decide +kernel
theorem dJ3_checkIndex_8e157_6 : decode cJ3_checkIndex_8e157 6 = .ok (.if_icmp .lt 10, 3) := by decide +kernel
theorem dJ3_checkIndex_8e157_9 : decode cJ3_checkIndex_8e157 9 = .ok (.aload_n 2, 1) := by decide +kernel
theorem dJ3_checkIndex_8e157_10 : decode cJ3_checkIndex_8e157 10 = .ok (.iload_n 0, 1) := by decide +kernel
theorem dJ3_checkIndex_8e157_11 : decode cJ3_checkIndex_8e157 11 = .ok (.iload_n 1, 1) := by decide +kernel
theorem dJ3_checkIndex_8e157_12 : decode cJ3_checkIndex_8e157 12 = .ok (.invokestatic 95, 3) := by decide +kernel
theorem dJ3_checkIndex_8e157_15 : decode cJ3_checkIndex_8e157 15 = .ok (.athrow, 1) := by decide +kernel
theorem dJ3_checkIndex_8e157_16 : decode cJ3_checkIndex_8e157 16 = .ok (.iload_n 0, 1) := by decide +kernel
theorem dJ3_checkIndex_8e157_17 : decode cJ3_checkIndex_8e157 17 = .ok (.ireturn, 1) := by decide +kernel
theorem dL_cell_0 : decode cL_cell 0 = .ok (.iload_n 1, 1) := by decide +kernel
theorem dL_cell_1 : decode cL_cell 1 = .ok (.aload_n 0, 1) := by decide +kernel
theorem dL_cell_2 : decode cL_cell 2 = .ok (.arraylength, 1) := by decide +kernel
theorem dL_cell_3 : decode cL_cell 3 = .ok (.if_icmp .ge 9, 3) := by decide +kernel
theorem dL_cell_6 : decode cL_cell 6 = .ok (.aload_n 0, 1) := by decide +kernel
theorem dL_cell_7 : decode cL_cell 7 = .ok (.iload_n 1, 1) := by decide +kernel
theorem dL_cell_8 : decode cL_cell 8 = .ok (.iaload, 1) := by decide +kernel
theorem dL_cell_9 : decode cL_cell 9 = .ok (.goto 4, 3) := by decide +kernel
theorem dL_cell_12 : decode cL_cell 12 = .ok (.iconst 0, 1) := by decide +kernel
theorem dL_cell_13 : decode cL_cell 13 = .ok (.ireturn, 1) := by decide +kernel
theorem dL_law_0 : decode cL_law 0 = .ok (.new 7, 3) := by decide +kernel
theorem dL_law_3 : decode cL_law 3 = .ok (.dup, 1) := by decide +kernel
theorem dL_law_4 : decode cL_law 4 = .ok (.aload_n 0, 1) := by decide +kernel
theorem dL_law_5 : decode cL_law 5 = .ok (.iconst 0, 1) := by decide +kernel
theorem dL_law_6 : decode cL_law 6 = .ok (.invokestatic 9, 3) := by decide +kernel
theorem dL_law_9 : decode cL_law 9 = .ok (.invokespecial 15, 3) := by decide +kernel
theorem dL_law_12 : decode cL_law 12 = .ok (.astore_n 1, 1) := by decide +kernel
theorem dL_law_13 : decode cL_law 13 = .ok (.new 18, 3) := by decide +kernel
theorem dL_law_16 : decode cL_law 16 = .ok (.dup, 1) := by decide +kernel
theorem dL_law_17 : decode cL_law 17 = .ok (.aload_n 0, 1) := by decide +kernel
theorem dL_law_18 : decode cL_law 18 = .ok (.iconst 0, 1) := by decide +kernel
theorem dL_law_19 : decode cL_law 19 = .ok (.invokestatic 9, 3) := by decide +kernel
theorem dL_law_22 : decode cL_law 22 = .ok (.invokespecial 20, 3) := by decide +kernel
theorem dL_law_25 : decode cL_law 25 = .ok (.astore_n 2, 1) := by decide +kernel
theorem dL_law_26 : decode cL_law 26 = .ok (.iconst 1, 1) := by decide +kernel
theorem dL_law_27 : decode cL_law 27 = .ok (.istore_n 3, 1) := by decide +kernel
theorem dL_law_28 : decode cL_law 28 = .ok (.iload_n 3, 1) := by decide +kernel
theorem dL_law_29 : decode cL_law 29 = .ok (.aload_n 0, 1) := by decide +kernel
theorem dL_law_30 : decode cL_law 30 = .ok (.arraylength, 1) := by decide +kernel
theorem dL_law_31 : decode cL_law 31 = .ok (.bipush 6, 2) := by decide +kernel
theorem dL_law_33 : decode cL_law 33 = .ok (.isub, 1) := by decide +kernel
theorem dL_law_34 : decode cL_law 34 = .ok (.if_icmp .gt 812, 3) := by decide +kernel
theorem dL_law_37 : decode cL_law 37 = .ok (.aload_n 0, 1) := by decide +kernel
theorem dL_law_38 : decode cL_law 38 = .ok (.iload_n 3, 1) := by decide +kernel
theorem dL_law_39 : decode cL_law 39 = .ok (.iaload, 1) := by decide +kernel
theorem dL_law_40 : decode cL_law 40 = .ok (.bipush 31, 2) := by decide +kernel
theorem dL_law_42 : decode cL_law 42 = .ok (.iand, 1) := by decide +kernel
theorem dL_law_43 : decode cL_law 43 = .ok (.tableswitch 797 0 23 #[109, 132, 181, 244, 267, 280, 303, 326, 359, 392, 425, 448, 471, 504, 517, 550, 593, 616, 639, 662, 705, 748, 761, 774], 109) := by decide +kernel
theorem dL_law_152 : decode cL_law 152 = .ok (.aload_n 1, 1) := by decide +kernel
theorem dL_law_153 : decode cL_law 153 = .ok (.aload_n 0, 1) := by decide +kernel
theorem dL_law_154 : decode cL_law 154 = .ok (.iload_n 3, 1) := by decide +kernel
theorem dL_law_155 : decode cL_law 155 = .ok (.iconst 1, 1) := by decide +kernel
theorem dL_law_156 : decode cL_law 156 = .ok (.iadd, 1) := by decide +kernel
theorem dL_law_157 : decode cL_law 157 = .ok (.iaload, 1) := by decide +kernel
theorem dL_law_158 : decode cL_law 158 = .ok (.invokevirtual 21, 3) := by decide +kernel
theorem dL_law_161 : decode cL_law 161 = .ok (.aload_n 2, 1) := by decide +kernel
theorem dL_law_162 : decode cL_law 162 = .ok (.aload_n 0, 1) := by decide +kernel
theorem dL_law_163 : decode cL_law 163 = .ok (.iload_n 3, 1) := by decide +kernel
theorem dL_law_164 : decode cL_law 164 = .ok (.iconst 1, 1) := by decide +kernel
theorem dL_law_165 : decode cL_law 165 = .ok (.iadd, 1) := by decide +kernel
theorem dL_law_166 : decode cL_law 166 = .ok (.iaload, 1) := by decide +kernel
theorem dL_law_167 : decode cL_law 167 = .ok (.invokevirtual 25, 3) := by decide +kernel
theorem dL_law_170 : decode cL_law 170 = .ok (.if_icmp .eq 670, 3) := by decide +kernel
theorem dL_law_173 : decode cL_law 173 = .ok (.iconst 0, 1) := by decide +kernel
theorem dL_law_174 : decode cL_law 174 = .ok (.ireturn, 1) := by decide +kernel
theorem dL_law_175 : decode cL_law 175 = .ok (.aload_n 1, 1) := by decide +kernel
theorem dL_law_176 : decode cL_law 176 = .ok (.aload_n 0, 1) := by decide +kernel
theorem dL_law_177 : decode cL_law 177 = .ok (.iload_n 3, 1) := by decide +kernel
theorem dL_law_178 : decode cL_law 178 = .ok (.iconst 1, 1) := by decide +kernel
theorem dL_law_179 : decode cL_law 179 = .ok (.iadd, 1) := by decide +kernel
theorem dL_law_180 : decode cL_law 180 = .ok (.iaload, 1) := by decide +kernel
theorem dL_law_181 : decode cL_law 181 = .ok (.aload_n 0, 1) := by decide +kernel
theorem dL_law_182 : decode cL_law 182 = .ok (.iload_n 3, 1) := by decide +kernel
theorem dL_law_183 : decode cL_law 183 = .ok (.iconst 2, 1) := by decide +kernel
theorem dL_law_184 : decode cL_law 184 = .ok (.iadd, 1) := by decide +kernel
theorem dL_law_185 : decode cL_law 185 = .ok (.iaload, 1) := by decide +kernel
theorem dL_law_186 : decode cL_law 186 = .ok (.ifCond .eq 7, 3) := by decide +kernel
theorem dL_law_189 : decode cL_law 189 = .ok (.iconst 1, 1) := by decide +kernel
theorem dL_law_190 : decode cL_law 190 = .ok (.goto 4, 3) := by decide +kernel
theorem dL_law_193 : decode cL_law 193 = .ok (.iconst 0, 1) := by decide +kernel
theorem dL_law_194 : decode cL_law 194 = .ok (.invokevirtual 26, 3) := by decide +kernel
theorem dL_law_197 : decode cL_law 197 = .ok (.aload_n 2, 1) := by decide +kernel
theorem dL_law_198 : decode cL_law 198 = .ok (.aload_n 0, 1) := by decide +kernel
theorem dL_law_199 : decode cL_law 199 = .ok (.iload_n 3, 1) := by decide +kernel
theorem dL_law_200 : decode cL_law 200 = .ok (.iconst 1, 1) := by decide +kernel
theorem dL_law_201 : decode cL_law 201 = .ok (.iadd, 1) := by decide +kernel
theorem dL_law_202 : decode cL_law 202 = .ok (.iaload, 1) := by decide +kernel
theorem dL_law_203 : decode cL_law 203 = .ok (.aload_n 0, 1) := by decide +kernel
theorem dL_law_204 : decode cL_law 204 = .ok (.iload_n 3, 1) := by decide +kernel
theorem dL_law_205 : decode cL_law 205 = .ok (.iconst 2, 1) := by decide +kernel
theorem dL_law_206 : decode cL_law 206 = .ok (.iadd, 1) := by decide +kernel
theorem dL_law_207 : decode cL_law 207 = .ok (.iaload, 1) := by decide +kernel
theorem dL_law_208 : decode cL_law 208 = .ok (.ifCond .eq 7, 3) := by decide +kernel
theorem dL_law_211 : decode cL_law 211 = .ok (.iconst 1, 1) := by decide +kernel
theorem dL_law_212 : decode cL_law 212 = .ok (.goto 4, 3) := by decide +kernel
theorem dL_law_215 : decode cL_law 215 = .ok (.iconst 0, 1) := by decide +kernel
theorem dL_law_216 : decode cL_law 216 = .ok (.invokevirtual 30, 3) := by decide +kernel
theorem dL_law_219 : decode cL_law 219 = .ok (.if_icmp .eq 621, 3) := by decide +kernel
theorem dL_law_222 : decode cL_law 222 = .ok (.iconst 0, 1) := by decide +kernel
theorem dL_law_223 : decode cL_law 223 = .ok (.ireturn, 1) := by decide +kernel
theorem dL_law_224 : decode cL_law 224 = .ok (.aload_n 1, 1) := by decide +kernel
theorem dL_law_225 : decode cL_law 225 = .ok (.aload_n 0, 1) := by decide +kernel
theorem dL_law_226 : decode cL_law 226 = .ok (.iload_n 3, 1) := by decide +kernel
theorem dL_law_227 : decode cL_law 227 = .ok (.iconst 1, 1) := by decide +kernel
theorem dL_law_228 : decode cL_law 228 = .ok (.iadd, 1) := by decide +kernel
theorem dL_law_229 : decode cL_law 229 = .ok (.iaload, 1) := by decide +kernel
theorem dL_law_230 : decode cL_law 230 = .ok (.aload_n 0, 1) := by decide +kernel
theorem dL_law_231 : decode cL_law 231 = .ok (.iload_n 3, 1) := by decide +kernel
theorem dL_law_232 : decode cL_law 232 = .ok (.iconst 2, 1) := by decide +kernel
theorem dL_law_233 : decode cL_law 233 = .ok (.iadd, 1) := by decide +kernel
theorem dL_law_234 : decode cL_law 234 = .ok (.iaload, 1) := by decide +kernel
theorem dL_law_235 : decode cL_law 235 = .ok (.aload_n 0, 1) := by decide +kernel
theorem dL_law_236 : decode cL_law 236 = .ok (.iload_n 3, 1) := by decide +kernel
theorem dL_law_237 : decode cL_law 237 = .ok (.iconst 3, 1) := by decide +kernel
theorem dL_law_238 : decode cL_law 238 = .ok (.iadd, 1) := by decide +kernel
theorem dL_law_239 : decode cL_law 239 = .ok (.iaload, 1) := by decide +kernel
theorem dL_law_240 : decode cL_law 240 = .ok (.aload_n 0, 1) := by decide +kernel
theorem dL_law_241 : decode cL_law 241 = .ok (.iload_n 3, 1) := by decide +kernel
theorem dL_law_242 : decode cL_law 242 = .ok (.iconst 4, 1) := by decide +kernel
theorem dL_law_243 : decode cL_law 243 = .ok (.iadd, 1) := by decide +kernel
theorem dL_law_244 : decode cL_law 244 = .ok (.iaload, 1) := by decide +kernel
theorem dL_law_245 : decode cL_law 245 = .ok (.aload_n 0, 1) := by decide +kernel
theorem dL_law_246 : decode cL_law 246 = .ok (.iload_n 3, 1) := by decide +kernel
theorem dL_law_247 : decode cL_law 247 = .ok (.iconst 5, 1) := by decide +kernel
theorem dL_law_248 : decode cL_law 248 = .ok (.iadd, 1) := by decide +kernel
theorem dL_law_249 : decode cL_law 249 = .ok (.iaload, 1) := by decide +kernel
theorem dL_law_250 : decode cL_law 250 = .ok (.invokevirtual 31, 3) := by decide +kernel
theorem dL_law_253 : decode cL_law 253 = .ok (.aload_n 2, 1) := by decide +kernel
theorem dL_law_254 : decode cL_law 254 = .ok (.aload_n 0, 1) := by decide +kernel
theorem dL_law_255 : decode cL_law 255 = .ok (.iload_n 3, 1) := by decide +kernel
theorem dL_law_256 : decode cL_law 256 = .ok (.iconst 1, 1) := by decide +kernel
theorem dL_law_257 : decode cL_law 257 = .ok (.iadd, 1) := by decide +kernel
theorem dL_law_258 : decode cL_law 258 = .ok (.iaload, 1) := by decide +kernel
theorem dL_law_259 : decode cL_law 259 = .ok (.aload_n 0, 1) := by decide +kernel
theorem dL_law_260 : decode cL_law 260 = .ok (.iload_n 3, 1) := by decide +kernel
theorem dL_law_261 : decode cL_law 261 = .ok (.iconst 2, 1) := by decide +kernel
theorem dL_law_262 : decode cL_law 262 = .ok (.iadd, 1) := by decide +kernel
theorem dL_law_263 : decode cL_law 263 = .ok (.iaload, 1) := by decide +kernel
theorem dL_law_264 : decode cL_law 264 = .ok (.aload_n 0, 1) := by decide +kernel
theorem dL_law_265 : decode cL_law 265 = .ok (.iload_n 3, 1) := by decide +kernel
theorem dL_law_266 : decode cL_law 266 = .ok (.iconst 3, 1) := by decide +kernel
theorem dL_law_267 : decode cL_law 267 = .ok (.iadd, 1) := by decide +kernel
theorem dL_law_268 : decode cL_law 268 = .ok (.iaload, 1) := by decide +kernel
theorem dL_law_269 : decode cL_law 269 = .ok (.aload_n 0, 1) := by decide +kernel
theorem dL_law_270 : decode cL_law 270 = .ok (.iload_n 3, 1) := by decide +kernel
theorem dL_law_271 : decode cL_law 271 = .ok (.iconst 4, 1) := by decide +kernel
theorem dL_law_272 : decode cL_law 272 = .ok (.iadd, 1) := by decide +kernel
theorem dL_law_273 : decode cL_law 273 = .ok (.iaload, 1) := by decide +kernel
theorem dL_law_274 : decode cL_law 274 = .ok (.aload_n 0, 1) := by decide +kernel
theorem dL_law_275 : decode cL_law 275 = .ok (.iload_n 3, 1) := by decide +kernel
theorem dL_law_276 : decode cL_law 276 = .ok (.iconst 5, 1) := by decide +kernel
theorem dL_law_277 : decode cL_law 277 = .ok (.iadd, 1) := by decide +kernel
theorem dL_law_278 : decode cL_law 278 = .ok (.iaload, 1) := by decide +kernel
theorem dL_law_279 : decode cL_law 279 = .ok (.invokevirtual 35, 3) := by decide +kernel
theorem dL_law_282 : decode cL_law 282 = .ok (.if_icmp .eq 558, 3) := by decide +kernel
theorem dL_law_285 : decode cL_law 285 = .ok (.iconst 0, 1) := by decide +kernel
theorem dL_law_286 : decode cL_law 286 = .ok (.ireturn, 1) := by decide +kernel
theorem dL_law_287 : decode cL_law 287 = .ok (.aload_n 1, 1) := by decide +kernel
theorem dL_law_288 : decode cL_law 288 = .ok (.aload_n 0, 1) := by decide +kernel
theorem dL_law_289 : decode cL_law 289 = .ok (.iload_n 3, 1) := by decide +kernel
theorem dL_law_290 : decode cL_law 290 = .ok (.iconst 1, 1) := by decide +kernel
theorem dL_law_291 : decode cL_law 291 = .ok (.iadd, 1) := by decide +kernel
theorem dL_law_292 : decode cL_law 292 = .ok (.iaload, 1) := by decide +kernel
theorem dL_law_293 : decode cL_law 293 = .ok (.invokevirtual 36, 3) := by decide +kernel
theorem dL_law_296 : decode cL_law 296 = .ok (.aload_n 2, 1) := by decide +kernel
theorem dL_law_297 : decode cL_law 297 = .ok (.aload_n 0, 1) := by decide +kernel
theorem dL_law_298 : decode cL_law 298 = .ok (.iload_n 3, 1) := by decide +kernel
theorem dL_law_299 : decode cL_law 299 = .ok (.iconst 1, 1) := by decide +kernel
theorem dL_law_300 : decode cL_law 300 = .ok (.iadd, 1) := by decide +kernel
theorem dL_law_301 : decode cL_law 301 = .ok (.iaload, 1) := by decide +kernel
theorem dL_law_302 : decode cL_law 302 = .ok (.invokevirtual 39, 3) := by decide +kernel
theorem dL_law_305 : decode cL_law 305 = .ok (.if_icmp .eq 535, 3) := by decide +kernel
theorem dL_law_308 : decode cL_law 308 = .ok (.iconst 0, 1) := by decide +kernel
theorem dL_law_309 : decode cL_law 309 = .ok (.ireturn, 1) := by decide +kernel
theorem dL_law_310 : decode cL_law 310 = .ok (.aload_n 1, 1) := by decide +kernel
theorem dL_law_311 : decode cL_law 311 = .ok (.invokevirtual 40, 3) := by decide +kernel
theorem dL_law_314 : decode cL_law 314 = .ok (.aload_n 2, 1) := by decide +kernel
theorem dL_law_315 : decode cL_law 315 = .ok (.invokevirtual 44, 3) := by decide +kernel
theorem dL_law_318 : decode cL_law 318 = .ok (.if_icmp .eq 522, 3) := by decide +kernel
theorem dL_law_321 : decode cL_law 321 = .ok (.iconst 0, 1) := by decide +kernel
theorem dL_law_322 : decode cL_law 322 = .ok (.ireturn, 1) := by decide +kernel
theorem dL_law_323 : decode cL_law 323 = .ok (.aload_n 1, 1) := by decide +kernel
theorem dL_law_324 : decode cL_law 324 = .ok (.aload_n 0, 1) := by decide +kernel
theorem dL_law_325 : decode cL_law 325 = .ok (.iload_n 3, 1) := by decide +kernel
theorem dL_law_326 : decode cL_law 326 = .ok (.iconst 1, 1) := by decide +kernel
theorem dL_law_327 : decode cL_law 327 = .ok (.iadd, 1) := by decide +kernel
theorem dL_law_328 : decode cL_law 328 = .ok (.iaload, 1) := by decide +kernel
theorem dL_law_329 : decode cL_law 329 = .ok (.invokevirtual 45, 3) := by decide +kernel
theorem dL_law_332 : decode cL_law 332 = .ok (.aload_n 2, 1) := by decide +kernel
theorem dL_law_333 : decode cL_law 333 = .ok (.aload_n 0, 1) := by decide +kernel
theorem dL_law_334 : decode cL_law 334 = .ok (.iload_n 3, 1) := by decide +kernel
theorem dL_law_335 : decode cL_law 335 = .ok (.iconst 1, 1) := by decide +kernel
theorem dL_law_336 : decode cL_law 336 = .ok (.iadd, 1) := by decide +kernel
theorem dL_law_337 : decode cL_law 337 = .ok (.iaload, 1) := by decide +kernel
theorem dL_law_338 : decode cL_law 338 = .ok (.invokevirtual 48, 3) := by decide +kernel
theorem dL_law_341 : decode cL_law 341 = .ok (.if_icmp .eq 499, 3) := by decide +kernel
theorem dL_law_344 : decode cL_law 344 = .ok (.iconst 0, 1) := by decide +kernel
theorem dL_law_345 : decode cL_law 345 = .ok (.ireturn, 1) := by decide +kernel
theorem dL_law_346 : decode cL_law 346 = .ok (.aload_n 1, 1) := by decide +kernel
theorem dL_law_347 : decode cL_law 347 = .ok (.aload_n 0, 1) := by decide +kernel
theorem dL_law_348 : decode cL_law 348 = .ok (.iload_n 3, 1) := by decide +kernel
theorem dL_law_349 : decode cL_law 349 = .ok (.iconst 1, 1) := by decide +kernel
theorem dL_law_350 : decode cL_law 350 = .ok (.iadd, 1) := by decide +kernel
theorem dL_law_351 : decode cL_law 351 = .ok (.iaload, 1) := by decide +kernel
theorem dL_law_352 : decode cL_law 352 = .ok (.invokevirtual 49, 3) := by decide +kernel
theorem dL_law_355 : decode cL_law 355 = .ok (.aload_n 2, 1) := by decide +kernel
theorem dL_law_356 : decode cL_law 356 = .ok (.aload_n 0, 1) := by decide +kernel
theorem dL_law_357 : decode cL_law 357 = .ok (.iload_n 3, 1) := by decide +kernel
theorem dL_law_358 : decode cL_law 358 = .ok (.iconst 1, 1) := by decide +kernel
theorem dL_law_359 : decode cL_law 359 = .ok (.iadd, 1) := by decide +kernel
theorem dL_law_360 : decode cL_law 360 = .ok (.iaload, 1) := by decide +kernel
theorem dL_law_361 : decode cL_law 361 = .ok (.invokevirtual 53, 3) := by decide +kernel
theorem dL_law_364 : decode cL_law 364 = .ok (.if_icmp .eq 476, 3) := by decide +kernel
theorem dL_law_367 : decode cL_law 367 = .ok (.iconst 0, 1) := by decide +kernel
theorem dL_law_368 : decode cL_law 368 = .ok (.ireturn, 1) := by decide +kernel
theorem dL_law_369 : decode cL_law 369 = .ok (.aload_n 1, 1) := by decide +kernel
theorem dL_law_370 : decode cL_law 370 = .ok (.aload_n 0, 1) := by decide +kernel
theorem dL_law_371 : decode cL_law 371 = .ok (.iload_n 3, 1) := by decide +kernel
theorem dL_law_372 : decode cL_law 372 = .ok (.iconst 1, 1) := by decide +kernel
theorem dL_law_373 : decode cL_law 373 = .ok (.iadd, 1) := by decide +kernel
theorem dL_law_374 : decode cL_law 374 = .ok (.iaload, 1) := by decide +kernel
theorem dL_law_375 : decode cL_law 375 = .ok (.aload_n 0, 1) := by decide +kernel
theorem dL_law_376 : decode cL_law 376 = .ok (.iload_n 3, 1) := by decide +kernel
theorem dL_law_377 : decode cL_law 377 = .ok (.iconst 2, 1) := by decide +kernel
theorem dL_law_378 : decode cL_law 378 = .ok (.iadd, 1) := by decide +kernel
theorem dL_law_379 : decode cL_law 379 = .ok (.iaload, 1) := by decide +kernel
theorem dL_law_380 : decode cL_law 380 = .ok (.invokevirtual 54, 3) := by decide +kernel
theorem dL_law_383 : decode cL_law 383 = .ok (.aload_n 2, 1) := by decide +kernel
theorem dL_law_384 : decode cL_law 384 = .ok (.aload_n 0, 1) := by decide +kernel
theorem dL_law_385 : decode cL_law 385 = .ok (.iload_n 3, 1) := by decide +kernel
theorem dL_law_386 : decode cL_law 386 = .ok (.iconst 1, 1) := by decide +kernel
theorem dL_law_387 : decode cL_law 387 = .ok (.iadd, 1) := by decide +kernel
theorem dL_law_388 : decode cL_law 388 = .ok (.iaload, 1) := by decide +kernel
theorem dL_law_389 : decode cL_law 389 = .ok (.aload_n 0, 1) := by decide +kernel
theorem dL_law_390 : decode cL_law 390 = .ok (.iload_n 3, 1) := by decide +kernel
theorem dL_law_391 : decode cL_law 391 = .ok (.iconst 2, 1) := by decide +kernel
theorem dL_law_392 : decode cL_law 392 = .ok (.iadd, 1) := by decide +kernel
theorem dL_law_393 : decode cL_law 393 = .ok (.iaload, 1) := by decide +kernel
theorem dL_law_394 : decode cL_law 394 = .ok (.invokevirtual 58, 3) := by decide +kernel
theorem dL_law_397 : decode cL_law 397 = .ok (.if_icmp .eq 443, 3) := by decide +kernel
theorem dL_law_400 : decode cL_law 400 = .ok (.iconst 0, 1) := by decide +kernel
theorem dL_law_401 : decode cL_law 401 = .ok (.ireturn, 1) := by decide +kernel
theorem dL_law_402 : decode cL_law 402 = .ok (.aload_n 1, 1) := by decide +kernel
theorem dL_law_403 : decode cL_law 403 = .ok (.aload_n 0, 1) := by decide +kernel
theorem dL_law_404 : decode cL_law 404 = .ok (.iload_n 3, 1) := by decide +kernel
theorem dL_law_405 : decode cL_law 405 = .ok (.iconst 1, 1) := by decide +kernel
theorem dL_law_406 : decode cL_law 406 = .ok (.iadd, 1) := by decide +kernel
theorem dL_law_407 : decode cL_law 407 = .ok (.iaload, 1) := by decide +kernel
theorem dL_law_408 : decode cL_law 408 = .ok (.aload_n 0, 1) := by decide +kernel
theorem dL_law_409 : decode cL_law 409 = .ok (.iload_n 3, 1) := by decide +kernel
theorem dL_law_410 : decode cL_law 410 = .ok (.iconst 2, 1) := by decide +kernel
theorem dL_law_411 : decode cL_law 411 = .ok (.iadd, 1) := by decide +kernel
theorem dL_law_412 : decode cL_law 412 = .ok (.iaload, 1) := by decide +kernel
theorem dL_law_413 : decode cL_law 413 = .ok (.invokevirtual 59, 3) := by decide +kernel
theorem dL_law_416 : decode cL_law 416 = .ok (.aload_n 2, 1) := by decide +kernel
theorem dL_law_417 : decode cL_law 417 = .ok (.aload_n 0, 1) := by decide +kernel
theorem dL_law_418 : decode cL_law 418 = .ok (.iload_n 3, 1) := by decide +kernel
theorem dL_law_419 : decode cL_law 419 = .ok (.iconst 1, 1) := by decide +kernel
theorem dL_law_420 : decode cL_law 420 = .ok (.iadd, 1) := by decide +kernel
theorem dL_law_421 : decode cL_law 421 = .ok (.iaload, 1) := by decide +kernel
theorem dL_law_422 : decode cL_law 422 = .ok (.aload_n 0, 1) := by decide +kernel
theorem dL_law_423 : decode cL_law 423 = .ok (.iload_n 3, 1) := by decide +kernel
theorem dL_law_424 : decode cL_law 424 = .ok (.iconst 2, 1) := by decide +kernel
theorem dL_law_425 : decode cL_law 425 = .ok (.iadd, 1) := by decide +kernel
theorem dL_law_426 : decode cL_law 426 = .ok (.iaload, 1) := by decide +kernel
theorem dL_law_427 : decode cL_law 427 = .ok (.invokevirtual 63, 3) := by decide +kernel
theorem dL_law_430 : decode cL_law 430 = .ok (.if_icmp .eq 410, 3) := by decide +kernel
theorem dL_law_433 : decode cL_law 433 = .ok (.iconst 0, 1) := by decide +kernel
theorem dL_law_434 : decode cL_law 434 = .ok (.ireturn, 1) := by decide +kernel
theorem dL_law_435 : decode cL_law 435 = .ok (.aload_n 1, 1) := by decide +kernel
theorem dL_law_436 : decode cL_law 436 = .ok (.aload_n 0, 1) := by decide +kernel
theorem dL_law_437 : decode cL_law 437 = .ok (.iload_n 3, 1) := by decide +kernel
theorem dL_law_438 : decode cL_law 438 = .ok (.iconst 1, 1) := by decide +kernel
theorem dL_law_439 : decode cL_law 439 = .ok (.iadd, 1) := by decide +kernel
theorem dL_law_440 : decode cL_law 440 = .ok (.iaload, 1) := by decide +kernel
theorem dL_law_441 : decode cL_law 441 = .ok (.aload_n 0, 1) := by decide +kernel
theorem dL_law_442 : decode cL_law 442 = .ok (.iload_n 3, 1) := by decide +kernel
theorem dL_law_443 : decode cL_law 443 = .ok (.iconst 2, 1) := by decide +kernel
theorem dL_law_444 : decode cL_law 444 = .ok (.iadd, 1) := by decide +kernel
theorem dL_law_445 : decode cL_law 445 = .ok (.iaload, 1) := by decide +kernel
theorem dL_law_446 : decode cL_law 446 = .ok (.invokevirtual 64, 3) := by decide +kernel
theorem dL_law_449 : decode cL_law 449 = .ok (.aload_n 2, 1) := by decide +kernel
theorem dL_law_450 : decode cL_law 450 = .ok (.aload_n 0, 1) := by decide +kernel
theorem dL_law_451 : decode cL_law 451 = .ok (.iload_n 3, 1) := by decide +kernel
theorem dL_law_452 : decode cL_law 452 = .ok (.iconst 1, 1) := by decide +kernel
theorem dL_law_453 : decode cL_law 453 = .ok (.iadd, 1) := by decide +kernel
theorem dL_law_454 : decode cL_law 454 = .ok (.iaload, 1) := by decide +kernel
theorem dL_law_455 : decode cL_law 455 = .ok (.aload_n 0, 1) := by decide +kernel
theorem dL_law_456 : decode cL_law 456 = .ok (.iload_n 3, 1) := by decide +kernel
theorem dL_law_457 : decode cL_law 457 = .ok (.iconst 2, 1) := by decide +kernel
theorem dL_law_458 : decode cL_law 458 = .ok (.iadd, 1) := by decide +kernel
theorem dL_law_459 : decode cL_law 459 = .ok (.iaload, 1) := by decide +kernel
theorem dL_law_460 : decode cL_law 460 = .ok (.invokevirtual 67, 3) := by decide +kernel
theorem dL_law_463 : decode cL_law 463 = .ok (.if_icmp .eq 377, 3) := by decide +kernel
theorem dL_law_466 : decode cL_law 466 = .ok (.iconst 0, 1) := by decide +kernel
theorem dL_law_467 : decode cL_law 467 = .ok (.ireturn, 1) := by decide +kernel
theorem dL_law_468 : decode cL_law 468 = .ok (.aload_n 1, 1) := by decide +kernel
theorem dL_law_469 : decode cL_law 469 = .ok (.aload_n 0, 1) := by decide +kernel
theorem dL_law_470 : decode cL_law 470 = .ok (.iload_n 3, 1) := by decide +kernel
theorem dL_law_471 : decode cL_law 471 = .ok (.iconst 1, 1) := by decide +kernel
theorem dL_law_472 : decode cL_law 472 = .ok (.iadd, 1) := by decide +kernel
theorem dL_law_473 : decode cL_law 473 = .ok (.iaload, 1) := by decide +kernel
theorem dL_law_474 : decode cL_law 474 = .ok (.invokevirtual 68, 3) := by decide +kernel
theorem dL_law_477 : decode cL_law 477 = .ok (.aload_n 2, 1) := by decide +kernel
theorem dL_law_478 : decode cL_law 478 = .ok (.aload_n 0, 1) := by decide +kernel
theorem dL_law_479 : decode cL_law 479 = .ok (.iload_n 3, 1) := by decide +kernel
theorem dL_law_480 : decode cL_law 480 = .ok (.iconst 1, 1) := by decide +kernel
theorem dL_law_481 : decode cL_law 481 = .ok (.iadd, 1) := by decide +kernel
theorem dL_law_482 : decode cL_law 482 = .ok (.iaload, 1) := by decide +kernel
theorem dL_law_483 : decode cL_law 483 = .ok (.invokevirtual 71, 3) := by decide +kernel
theorem dL_law_486 : decode cL_law 486 = .ok (.if_icmp .eq 354, 3) := by decide +kernel
theorem dL_law_489 : decode cL_law 489 = .ok (.iconst 0, 1) := by decide +kernel
theorem dL_law_490 : decode cL_law 490 = .ok (.ireturn, 1) := by decide +kernel
theorem dL_law_491 : decode cL_law 491 = .ok (.aload_n 1, 1) := by decide +kernel
theorem dL_law_492 : decode cL_law 492 = .ok (.aload_n 0, 1) := by decide +kernel
theorem dL_law_493 : decode cL_law 493 = .ok (.iload_n 3, 1) := by decide +kernel
theorem dL_law_494 : decode cL_law 494 = .ok (.iconst 1, 1) := by decide +kernel
theorem dL_law_495 : decode cL_law 495 = .ok (.iadd, 1) := by decide +kernel
theorem dL_law_496 : decode cL_law 496 = .ok (.iaload, 1) := by decide +kernel
theorem dL_law_497 : decode cL_law 497 = .ok (.invokevirtual 72, 3) := by decide +kernel
theorem dL_law_500 : decode cL_law 500 = .ok (.aload_n 2, 1) := by decide +kernel
theorem dL_law_501 : decode cL_law 501 = .ok (.aload_n 0, 1) := by decide +kernel
theorem dL_law_502 : decode cL_law 502 = .ok (.iload_n 3, 1) := by decide +kernel
theorem dL_law_503 : decode cL_law 503 = .ok (.iconst 1, 1) := by decide +kernel
theorem dL_law_504 : decode cL_law 504 = .ok (.iadd, 1) := by decide +kernel
theorem dL_law_505 : decode cL_law 505 = .ok (.iaload, 1) := by decide +kernel
theorem dL_law_506 : decode cL_law 506 = .ok (.invokevirtual 75, 3) := by decide +kernel
theorem dL_law_509 : decode cL_law 509 = .ok (.if_icmp .eq 331, 3) := by decide +kernel
theorem dL_law_512 : decode cL_law 512 = .ok (.iconst 0, 1) := by decide +kernel
theorem dL_law_513 : decode cL_law 513 = .ok (.ireturn, 1) := by decide +kernel
theorem dL_law_514 : decode cL_law 514 = .ok (.aload_n 1, 1) := by decide +kernel
theorem dL_law_515 : decode cL_law 515 = .ok (.aload_n 0, 1) := by decide +kernel
theorem dL_law_516 : decode cL_law 516 = .ok (.iload_n 3, 1) := by decide +kernel
theorem dL_law_517 : decode cL_law 517 = .ok (.iconst 1, 1) := by decide +kernel
theorem dL_law_518 : decode cL_law 518 = .ok (.iadd, 1) := by decide +kernel
theorem dL_law_519 : decode cL_law 519 = .ok (.iaload, 1) := by decide +kernel
theorem dL_law_520 : decode cL_law 520 = .ok (.aload_n 0, 1) := by decide +kernel
theorem dL_law_521 : decode cL_law 521 = .ok (.iload_n 3, 1) := by decide +kernel
theorem dL_law_522 : decode cL_law 522 = .ok (.iconst 2, 1) := by decide +kernel
theorem dL_law_523 : decode cL_law 523 = .ok (.iadd, 1) := by decide +kernel
theorem dL_law_524 : decode cL_law 524 = .ok (.iaload, 1) := by decide +kernel
theorem dL_law_525 : decode cL_law 525 = .ok (.invokevirtual 76, 3) := by decide +kernel
theorem dL_law_528 : decode cL_law 528 = .ok (.aload_n 2, 1) := by decide +kernel
theorem dL_law_529 : decode cL_law 529 = .ok (.aload_n 0, 1) := by decide +kernel
theorem dL_law_530 : decode cL_law 530 = .ok (.iload_n 3, 1) := by decide +kernel
theorem dL_law_531 : decode cL_law 531 = .ok (.iconst 1, 1) := by decide +kernel
theorem dL_law_532 : decode cL_law 532 = .ok (.iadd, 1) := by decide +kernel
theorem dL_law_533 : decode cL_law 533 = .ok (.iaload, 1) := by decide +kernel
theorem dL_law_534 : decode cL_law 534 = .ok (.aload_n 0, 1) := by decide +kernel
theorem dL_law_535 : decode cL_law 535 = .ok (.iload_n 3, 1) := by decide +kernel
theorem dL_law_536 : decode cL_law 536 = .ok (.iconst 2, 1) := by decide +kernel
theorem dL_law_537 : decode cL_law 537 = .ok (.iadd, 1) := by decide +kernel
theorem dL_law_538 : decode cL_law 538 = .ok (.iaload, 1) := by decide +kernel
theorem dL_law_539 : decode cL_law 539 = .ok (.invokevirtual 79, 3) := by decide +kernel
theorem dL_law_542 : decode cL_law 542 = .ok (.if_icmp .eq 298, 3) := by decide +kernel
theorem dL_law_545 : decode cL_law 545 = .ok (.iconst 0, 1) := by decide +kernel
theorem dL_law_546 : decode cL_law 546 = .ok (.ireturn, 1) := by decide +kernel
theorem dL_law_547 : decode cL_law 547 = .ok (.aload_n 1, 1) := by decide +kernel
theorem dL_law_548 : decode cL_law 548 = .ok (.invokevirtual 80, 3) := by decide +kernel
theorem dL_law_551 : decode cL_law 551 = .ok (.aload_n 2, 1) := by decide +kernel
theorem dL_law_552 : decode cL_law 552 = .ok (.invokevirtual 83, 3) := by decide +kernel
theorem dL_law_555 : decode cL_law 555 = .ok (.if_icmp .eq 285, 3) := by decide +kernel
theorem dL_law_558 : decode cL_law 558 = .ok (.iconst 0, 1) := by decide +kernel
theorem dL_law_559 : decode cL_law 559 = .ok (.ireturn, 1) := by decide +kernel
theorem dL_law_560 : decode cL_law 560 = .ok (.aload_n 1, 1) := by decide +kernel
theorem dL_law_561 : decode cL_law 561 = .ok (.aload_n 0, 1) := by decide +kernel
theorem dL_law_562 : decode cL_law 562 = .ok (.iload_n 3, 1) := by decide +kernel
theorem dL_law_563 : decode cL_law 563 = .ok (.iconst 1, 1) := by decide +kernel
theorem dL_law_564 : decode cL_law 564 = .ok (.iadd, 1) := by decide +kernel
theorem dL_law_565 : decode cL_law 565 = .ok (.iaload, 1) := by decide +kernel
theorem dL_law_566 : decode cL_law 566 = .ok (.aload_n 0, 1) := by decide +kernel
theorem dL_law_567 : decode cL_law 567 = .ok (.iload_n 3, 1) := by decide +kernel
theorem dL_law_568 : decode cL_law 568 = .ok (.iconst 2, 1) := by decide +kernel
theorem dL_law_569 : decode cL_law 569 = .ok (.iadd, 1) := by decide +kernel
theorem dL_law_570 : decode cL_law 570 = .ok (.iaload, 1) := by decide +kernel
theorem dL_law_571 : decode cL_law 571 = .ok (.invokevirtual 84, 3) := by decide +kernel
theorem dL_law_574 : decode cL_law 574 = .ok (.aload_n 2, 1) := by decide +kernel
theorem dL_law_575 : decode cL_law 575 = .ok (.aload_n 0, 1) := by decide +kernel
theorem dL_law_576 : decode cL_law 576 = .ok (.iload_n 3, 1) := by decide +kernel
theorem dL_law_577 : decode cL_law 577 = .ok (.iconst 1, 1) := by decide +kernel
theorem dL_law_578 : decode cL_law 578 = .ok (.iadd, 1) := by decide +kernel
theorem dL_law_579 : decode cL_law 579 = .ok (.iaload, 1) := by decide +kernel
theorem dL_law_580 : decode cL_law 580 = .ok (.aload_n 0, 1) := by decide +kernel
theorem dL_law_581 : decode cL_law 581 = .ok (.iload_n 3, 1) := by decide +kernel
theorem dL_law_582 : decode cL_law 582 = .ok (.iconst 2, 1) := by decide +kernel
theorem dL_law_583 : decode cL_law 583 = .ok (.iadd, 1) := by decide +kernel
theorem dL_law_584 : decode cL_law 584 = .ok (.iaload, 1) := by decide +kernel
theorem dL_law_585 : decode cL_law 585 = .ok (.invokevirtual 87, 3) := by decide +kernel
theorem dL_law_588 : decode cL_law 588 = .ok (.if_icmp .eq 252, 3) := by decide +kernel
theorem dL_law_591 : decode cL_law 591 = .ok (.iconst 0, 1) := by decide +kernel
theorem dL_law_592 : decode cL_law 592 = .ok (.ireturn, 1) := by decide +kernel
theorem dL_law_593 : decode cL_law 593 = .ok (.aload_n 1, 1) := by decide +kernel
theorem dL_law_594 : decode cL_law 594 = .ok (.aload_n 0, 1) := by decide +kernel
theorem dL_law_595 : decode cL_law 595 = .ok (.iload_n 3, 1) := by decide +kernel
theorem dL_law_596 : decode cL_law 596 = .ok (.iconst 1, 1) := by decide +kernel
theorem dL_law_597 : decode cL_law 597 = .ok (.iadd, 1) := by decide +kernel
theorem dL_law_598 : decode cL_law 598 = .ok (.iaload, 1) := by decide +kernel
theorem dL_law_599 : decode cL_law 599 = .ok (.aload_n 0, 1) := by decide +kernel
theorem dL_law_600 : decode cL_law 600 = .ok (.iload_n 3, 1) := by decide +kernel
theorem dL_law_601 : decode cL_law 601 = .ok (.iconst 2, 1) := by decide +kernel
theorem dL_law_602 : decode cL_law 602 = .ok (.iadd, 1) := by decide +kernel
theorem dL_law_603 : decode cL_law 603 = .ok (.iaload, 1) := by decide +kernel
theorem dL_law_604 : decode cL_law 604 = .ok (.aload_n 0, 1) := by decide +kernel
theorem dL_law_605 : decode cL_law 605 = .ok (.iload_n 3, 1) := by decide +kernel
theorem dL_law_606 : decode cL_law 606 = .ok (.iconst 3, 1) := by decide +kernel
theorem dL_law_607 : decode cL_law 607 = .ok (.iadd, 1) := by decide +kernel
theorem dL_law_608 : decode cL_law 608 = .ok (.iaload, 1) := by decide +kernel
theorem dL_law_609 : decode cL_law 609 = .ok (.invokevirtual 88, 3) := by decide +kernel
theorem dL_law_612 : decode cL_law 612 = .ok (.aload_n 2, 1) := by decide +kernel
theorem dL_law_613 : decode cL_law 613 = .ok (.aload_n 0, 1) := by decide +kernel
theorem dL_law_614 : decode cL_law 614 = .ok (.iload_n 3, 1) := by decide +kernel
theorem dL_law_615 : decode cL_law 615 = .ok (.iconst 1, 1) := by decide +kernel
theorem dL_law_616 : decode cL_law 616 = .ok (.iadd, 1) := by decide +kernel
theorem dL_law_617 : decode cL_law 617 = .ok (.iaload, 1) := by decide +kernel
theorem dL_law_618 : decode cL_law 618 = .ok (.aload_n 0, 1) := by decide +kernel
theorem dL_law_619 : decode cL_law 619 = .ok (.iload_n 3, 1) := by decide +kernel
theorem dL_law_620 : decode cL_law 620 = .ok (.iconst 2, 1) := by decide +kernel
theorem dL_law_621 : decode cL_law 621 = .ok (.iadd, 1) := by decide +kernel
theorem dL_law_622 : decode cL_law 622 = .ok (.iaload, 1) := by decide +kernel
theorem dL_law_623 : decode cL_law 623 = .ok (.aload_n 0, 1) := by decide +kernel
theorem dL_law_624 : decode cL_law 624 = .ok (.iload_n 3, 1) := by decide +kernel
theorem dL_law_625 : decode cL_law 625 = .ok (.iconst 3, 1) := by decide +kernel
theorem dL_law_626 : decode cL_law 626 = .ok (.iadd, 1) := by decide +kernel
theorem dL_law_627 : decode cL_law 627 = .ok (.iaload, 1) := by decide +kernel
theorem dL_law_628 : decode cL_law 628 = .ok (.invokevirtual 92, 3) := by decide +kernel
theorem dL_law_631 : decode cL_law 631 = .ok (.if_icmp .eq 209, 3) := by decide +kernel
theorem dL_law_634 : decode cL_law 634 = .ok (.iconst 0, 1) := by decide +kernel
theorem dL_law_635 : decode cL_law 635 = .ok (.ireturn, 1) := by decide +kernel
theorem dL_law_636 : decode cL_law 636 = .ok (.aload_n 1, 1) := by decide +kernel
theorem dL_law_637 : decode cL_law 637 = .ok (.aload_n 0, 1) := by decide +kernel
theorem dL_law_638 : decode cL_law 638 = .ok (.iload_n 3, 1) := by decide +kernel
theorem dL_law_639 : decode cL_law 639 = .ok (.iconst 1, 1) := by decide +kernel
theorem dL_law_640 : decode cL_law 640 = .ok (.iadd, 1) := by decide +kernel
theorem dL_law_641 : decode cL_law 641 = .ok (.iaload, 1) := by decide +kernel
theorem dL_law_642 : decode cL_law 642 = .ok (.invokevirtual 93, 3) := by decide +kernel
theorem dL_law_645 : decode cL_law 645 = .ok (.aload_n 2, 1) := by decide +kernel
theorem dL_law_646 : decode cL_law 646 = .ok (.aload_n 0, 1) := by decide +kernel
theorem dL_law_647 : decode cL_law 647 = .ok (.iload_n 3, 1) := by decide +kernel
theorem dL_law_648 : decode cL_law 648 = .ok (.iconst 1, 1) := by decide +kernel
theorem dL_law_649 : decode cL_law 649 = .ok (.iadd, 1) := by decide +kernel
theorem dL_law_650 : decode cL_law 650 = .ok (.iaload, 1) := by decide +kernel
theorem dL_law_651 : decode cL_law 651 = .ok (.invokevirtual 96, 3) := by decide +kernel
theorem dL_law_654 : decode cL_law 654 = .ok (.if_icmp .eq 186, 3) := by decide +kernel
theorem dL_law_657 : decode cL_law 657 = .ok (.iconst 0, 1) := by decide +kernel
theorem dL_law_658 : decode cL_law 658 = .ok (.ireturn, 1) := by decide +kernel
theorem dL_law_659 : decode cL_law 659 = .ok (.aload_n 1, 1) := by decide +kernel
theorem dL_law_660 : decode cL_law 660 = .ok (.aload_n 0, 1) := by decide +kernel
theorem dL_law_661 : decode cL_law 661 = .ok (.iload_n 3, 1) := by decide +kernel
theorem dL_law_662 : decode cL_law 662 = .ok (.iconst 1, 1) := by decide +kernel
theorem dL_law_663 : decode cL_law 663 = .ok (.iadd, 1) := by decide +kernel
theorem dL_law_664 : decode cL_law 664 = .ok (.iaload, 1) := by decide +kernel
theorem dL_law_665 : decode cL_law 665 = .ok (.invokevirtual 97, 3) := by decide +kernel
theorem dL_law_668 : decode cL_law 668 = .ok (.aload_n 2, 1) := by decide +kernel
theorem dL_law_669 : decode cL_law 669 = .ok (.aload_n 0, 1) := by decide +kernel
theorem dL_law_670 : decode cL_law 670 = .ok (.iload_n 3, 1) := by decide +kernel
theorem dL_law_671 : decode cL_law 671 = .ok (.iconst 1, 1) := by decide +kernel
theorem dL_law_672 : decode cL_law 672 = .ok (.iadd, 1) := by decide +kernel
theorem dL_law_673 : decode cL_law 673 = .ok (.iaload, 1) := by decide +kernel
theorem dL_law_674 : decode cL_law 674 = .ok (.invokevirtual 100, 3) := by decide +kernel
theorem dL_law_677 : decode cL_law 677 = .ok (.if_icmp .eq 163, 3) := by decide +kernel
theorem dL_law_680 : decode cL_law 680 = .ok (.iconst 0, 1) := by decide +kernel
theorem dL_law_681 : decode cL_law 681 = .ok (.ireturn, 1) := by decide +kernel
theorem dL_law_682 : decode cL_law 682 = .ok (.aload_n 1, 1) := by decide +kernel
theorem dL_law_683 : decode cL_law 683 = .ok (.aload_n 0, 1) := by decide +kernel
theorem dL_law_684 : decode cL_law 684 = .ok (.iload_n 3, 1) := by decide +kernel
theorem dL_law_685 : decode cL_law 685 = .ok (.iconst 1, 1) := by decide +kernel
theorem dL_law_686 : decode cL_law 686 = .ok (.iadd, 1) := by decide +kernel
theorem dL_law_687 : decode cL_law 687 = .ok (.iaload, 1) := by decide +kernel
theorem dL_law_688 : decode cL_law 688 = .ok (.invokevirtual 101, 3) := by decide +kernel
theorem dL_law_691 : decode cL_law 691 = .ok (.aload_n 2, 1) := by decide +kernel
theorem dL_law_692 : decode cL_law 692 = .ok (.aload_n 0, 1) := by decide +kernel
theorem dL_law_693 : decode cL_law 693 = .ok (.iload_n 3, 1) := by decide +kernel
theorem dL_law_694 : decode cL_law 694 = .ok (.iconst 1, 1) := by decide +kernel
theorem dL_law_695 : decode cL_law 695 = .ok (.iadd, 1) := by decide +kernel
theorem dL_law_696 : decode cL_law 696 = .ok (.iaload, 1) := by decide +kernel
theorem dL_law_697 : decode cL_law 697 = .ok (.invokevirtual 104, 3) := by decide +kernel
theorem dL_law_700 : decode cL_law 700 = .ok (.if_icmp .eq 140, 3) := by decide +kernel
theorem dL_law_703 : decode cL_law 703 = .ok (.iconst 0, 1) := by decide +kernel
theorem dL_law_704 : decode cL_law 704 = .ok (.ireturn, 1) := by decide +kernel
theorem dL_law_705 : decode cL_law 705 = .ok (.aload_n 1, 1) := by decide +kernel
theorem dL_law_706 : decode cL_law 706 = .ok (.aload_n 0, 1) := by decide +kernel
theorem dL_law_707 : decode cL_law 707 = .ok (.iload_n 3, 1) := by decide +kernel
theorem dL_law_708 : decode cL_law 708 = .ok (.iconst 1, 1) := by decide +kernel
theorem dL_law_709 : decode cL_law 709 = .ok (.iadd, 1) := by decide +kernel
theorem dL_law_710 : decode cL_law 710 = .ok (.iaload, 1) := by decide +kernel
end
section
theorem dL_law_711 : decode cL_law 711 = .ok (.aload_n 0, 1) := by decide +kernel
theorem dL_law_712 : decode cL_law 712 = .ok (.iload_n 3, 1) := by decide +kernel
theorem dL_law_713 : decode cL_law 713 = .ok (.iconst 2, 1) := by decide +kernel
theorem dL_law_714 : decode cL_law 714 = .ok (.iadd, 1) := by decide +kernel
theorem dL_law_715 : decode cL_law 715 = .ok (.iaload, 1) := by decide +kernel
theorem dL_law_716 : decode cL_law 716 = .ok (.aload_n 0, 1) := by decide +kernel
theorem dL_law_717 : decode cL_law 717 = .ok (.iload_n 3, 1) := by decide +kernel
theorem dL_law_718 : decode cL_law 718 = .ok (.iconst 3, 1) := by decide +kernel
theorem dL_law_719 : decode cL_law 719 = .ok (.iadd, 1) := by decide +kernel
theorem dL_law_720 : decode cL_law 720 = .ok (.iaload, 1) := by decide +kernel
theorem dL_law_721 : decode cL_law 721 = .ok (.invokevirtual 105, 3) := by decide +kernel
theorem dL_law_724 : decode cL_law 724 = .ok (.aload_n 2, 1) := by decide +kernel
theorem dL_law_725 : decode cL_law 725 = .ok (.aload_n 0, 1) := by decide +kernel
theorem dL_law_726 : decode cL_law 726 = .ok (.iload_n 3, 1) := by decide +kernel
theorem dL_law_727 : decode cL_law 727 = .ok (.iconst 1, 1) := by decide +kernel
theorem dL_law_728 : decode cL_law 728 = .ok (.iadd, 1) := by decide +kernel
theorem dL_law_729 : decode cL_law 729 = .ok (.iaload, 1) := by decide +kernel
theorem dL_law_730 : decode cL_law 730 = .ok (.aload_n 0, 1) := by decide +kernel
theorem dL_law_731 : decode cL_law 731 = .ok (.iload_n 3, 1) := by decide +kernel
theorem dL_law_732 : decode cL_law 732 = .ok (.iconst 2, 1) := by decide +kernel
theorem dL_law_733 : decode cL_law 733 = .ok (.iadd, 1) := by decide +kernel
theorem dL_law_734 : decode cL_law 734 = .ok (.iaload, 1) := by decide +kernel
theorem dL_law_735 : decode cL_law 735 = .ok (.aload_n 0, 1) := by decide +kernel
theorem dL_law_736 : decode cL_law 736 = .ok (.iload_n 3, 1) := by decide +kernel
theorem dL_law_737 : decode cL_law 737 = .ok (.iconst 3, 1) := by decide +kernel
theorem dL_law_738 : decode cL_law 738 = .ok (.iadd, 1) := by decide +kernel
theorem dL_law_739 : decode cL_law 739 = .ok (.iaload, 1) := by decide +kernel
theorem dL_law_740 : decode cL_law 740 = .ok (.invokevirtual 108, 3) := by decide +kernel
theorem dL_law_743 : decode cL_law 743 = .ok (.if_icmp .eq 97, 3) := by decide +kernel
theorem dL_law_746 : decode cL_law 746 = .ok (.iconst 0, 1) := by decide +kernel
theorem dL_law_747 : decode cL_law 747 = .ok (.ireturn, 1) := by decide +kernel
theorem dL_law_748 : decode cL_law 748 = .ok (.aload_n 1, 1) := by decide +kernel
theorem dL_law_749 : decode cL_law 749 = .ok (.aload_n 0, 1) := by decide +kernel
theorem dL_law_750 : decode cL_law 750 = .ok (.iload_n 3, 1) := by decide +kernel
theorem dL_law_751 : decode cL_law 751 = .ok (.iconst 1, 1) := by decide +kernel
theorem dL_law_752 : decode cL_law 752 = .ok (.iadd, 1) := by decide +kernel
theorem dL_law_753 : decode cL_law 753 = .ok (.iaload, 1) := by decide +kernel
theorem dL_law_754 : decode cL_law 754 = .ok (.aload_n 0, 1) := by decide +kernel
theorem dL_law_755 : decode cL_law 755 = .ok (.iload_n 3, 1) := by decide +kernel
theorem dL_law_756 : decode cL_law 756 = .ok (.iconst 2, 1) := by decide +kernel
theorem dL_law_757 : decode cL_law 757 = .ok (.iadd, 1) := by decide +kernel
theorem dL_law_758 : decode cL_law 758 = .ok (.iaload, 1) := by decide +kernel
theorem dL_law_759 : decode cL_law 759 = .ok (.aload_n 0, 1) := by decide +kernel
theorem dL_law_760 : decode cL_law 760 = .ok (.iload_n 3, 1) := by decide +kernel
theorem dL_law_761 : decode cL_law 761 = .ok (.iconst 3, 1) := by decide +kernel
theorem dL_law_762 : decode cL_law 762 = .ok (.iadd, 1) := by decide +kernel
theorem dL_law_763 : decode cL_law 763 = .ok (.iaload, 1) := by decide +kernel
theorem dL_law_764 : decode cL_law 764 = .ok (.invokevirtual 109, 3) := by decide +kernel
theorem dL_law_767 : decode cL_law 767 = .ok (.aload_n 2, 1) := by decide +kernel
theorem dL_law_768 : decode cL_law 768 = .ok (.aload_n 0, 1) := by decide +kernel
theorem dL_law_769 : decode cL_law 769 = .ok (.iload_n 3, 1) := by decide +kernel
theorem dL_law_770 : decode cL_law 770 = .ok (.iconst 1, 1) := by decide +kernel
theorem dL_law_771 : decode cL_law 771 = .ok (.iadd, 1) := by decide +kernel
theorem dL_law_772 : decode cL_law 772 = .ok (.iaload, 1) := by decide +kernel
theorem dL_law_773 : decode cL_law 773 = .ok (.aload_n 0, 1) := by decide +kernel
theorem dL_law_774 : decode cL_law 774 = .ok (.iload_n 3, 1) := by decide +kernel
theorem dL_law_775 : decode cL_law 775 = .ok (.iconst 2, 1) := by decide +kernel
theorem dL_law_776 : decode cL_law 776 = .ok (.iadd, 1) := by decide +kernel
theorem dL_law_777 : decode cL_law 777 = .ok (.iaload, 1) := by decide +kernel
theorem dL_law_778 : decode cL_law 778 = .ok (.aload_n 0, 1) := by decide +kernel
theorem dL_law_779 : decode cL_law 779 = .ok (.iload_n 3, 1) := by decide +kernel
theorem dL_law_780 : decode cL_law 780 = .ok (.iconst 3, 1) := by decide +kernel
theorem dL_law_781 : decode cL_law 781 = .ok (.iadd, 1) := by decide +kernel
theorem dL_law_782 : decode cL_law 782 = .ok (.iaload, 1) := by decide +kernel
theorem dL_law_783 : decode cL_law 783 = .ok (.invokevirtual 112, 3) := by decide +kernel
theorem dL_law_786 : decode cL_law 786 = .ok (.if_icmp .eq 54, 3) := by decide +kernel
theorem dL_law_789 : decode cL_law 789 = .ok (.iconst 0, 1) := by decide +kernel
theorem dL_law_790 : decode cL_law 790 = .ok (.ireturn, 1) := by decide +kernel
theorem dL_law_791 : decode cL_law 791 = .ok (.aload_n 1, 1) := by decide +kernel
theorem dL_law_792 : decode cL_law 792 = .ok (.invokevirtual 113, 3) := by decide +kernel
theorem dL_law_795 : decode cL_law 795 = .ok (.aload_n 2, 1) := by decide +kernel
theorem dL_law_796 : decode cL_law 796 = .ok (.invokevirtual 116, 3) := by decide +kernel
theorem dL_law_799 : decode cL_law 799 = .ok (.if_icmp .eq 41, 3) := by decide +kernel
theorem dL_law_802 : decode cL_law 802 = .ok (.iconst 0, 1) := by decide +kernel
theorem dL_law_803 : decode cL_law 803 = .ok (.ireturn, 1) := by decide +kernel
theorem dL_law_804 : decode cL_law 804 = .ok (.aload_n 1, 1) := by decide +kernel
theorem dL_law_805 : decode cL_law 805 = .ok (.invokevirtual 117, 3) := by decide +kernel
theorem dL_law_808 : decode cL_law 808 = .ok (.aload_n 2, 1) := by decide +kernel
theorem dL_law_809 : decode cL_law 809 = .ok (.invokevirtual 120, 3) := by decide +kernel
theorem dL_law_812 : decode cL_law 812 = .ok (.if_icmp .eq 28, 3) := by decide +kernel
theorem dL_law_815 : decode cL_law 815 = .ok (.iconst 0, 1) := by decide +kernel
theorem dL_law_816 : decode cL_law 816 = .ok (.ireturn, 1) := by decide +kernel
theorem dL_law_817 : decode cL_law 817 = .ok (.aload_n 1, 1) := by decide +kernel
theorem dL_law_818 : decode cL_law 818 = .ok (.aload_n 0, 1) := by decide +kernel
theorem dL_law_819 : decode cL_law 819 = .ok (.iload_n 3, 1) := by decide +kernel
theorem dL_law_820 : decode cL_law 820 = .ok (.iconst 1, 1) := by decide +kernel
theorem dL_law_821 : decode cL_law 821 = .ok (.iadd, 1) := by decide +kernel
theorem dL_law_822 : decode cL_law 822 = .ok (.iaload, 1) := by decide +kernel
theorem dL_law_823 : decode cL_law 823 = .ok (.invokevirtual 121, 3) := by decide +kernel
theorem dL_law_826 : decode cL_law 826 = .ok (.aload_n 2, 1) := by decide +kernel
theorem dL_law_827 : decode cL_law 827 = .ok (.aload_n 0, 1) := by decide +kernel
theorem dL_law_828 : decode cL_law 828 = .ok (.iload_n 3, 1) := by decide +kernel
theorem dL_law_829 : decode cL_law 829 = .ok (.iconst 1, 1) := by decide +kernel
theorem dL_law_830 : decode cL_law 830 = .ok (.iadd, 1) := by decide +kernel
theorem dL_law_831 : decode cL_law 831 = .ok (.iaload, 1) := by decide +kernel
theorem dL_law_832 : decode cL_law 832 = .ok (.invokevirtual 124, 3) := by decide +kernel
theorem dL_law_835 : decode cL_law 835 = .ok (.if_icmp .eq 5, 3) := by decide +kernel
theorem dL_law_838 : decode cL_law 838 = .ok (.iconst 0, 1) := by decide +kernel
theorem dL_law_839 : decode cL_law 839 = .ok (.ireturn, 1) := by decide +kernel
theorem dL_law_840 : decode cL_law 840 = .ok (.iinc 3 6, 3) := by decide +kernel
theorem dL_law_843 : decode cL_law 843 = .ok (.goto (-815), 3) := by decide +kernel
theorem dL_law_846 : decode cL_law 846 = .ok (.iconst 1, 1) := by decide +kernel
theorem dL_law_847 : decode cL_law 847 = .ok (.ireturn, 1) := by decide +kernel
end
section
/-! the cells in the order in which they are made -/
def shL : List ((FieldType × Nat) ⊕ Nat) := [.inr 7, .inl (.byte, 300), .inr 2, .inl (.int, 301), .inl (.int, 301), .inl (.int, 301), .inr 5, .inl (.int, 24), .inl (.int, 24), .inl (.int, 24), .inl (.int, 300), .inl (.object "GlassEyes$Script", 4), .inr 6, .inl (.int, 8), .inl (.int, 8), .inl (.int, 8), .inr 0, .inl (.int, 8), .inl (.int, 8), .inl (.int, 8), .inr 1, .inl (.object "GlassEyes$Court", 30), .inr 0, .inl (.int, 8), .inl (.int, 8), .inl (.int, 8), .inr 0, .inl (.int, 8), .inl (.int, 8), .inl (.int, 8), .inr 0, .inl (.int, 8), .inl (.int, 8), .inl (.int, 8), .inr 0, .inl (.int, 8), .inl (.int, 8), .inl (.int, 8), .inr 0, .inl (.int, 8), .inl (.int, 8), .inl (.int, 8), .inr 0, .inl (.int, 8), .inl (.int, 8), .inl (.int, 8), .inr 0, .inl (.int, 8), .inl (.int, 8), .inl (.int, 8), .inr 0, .inl (.int, 8), .inl (.int, 8), .inl (.int, 8), .inr 0, .inl (.int, 8), .inl (.int, 8), .inl (.int, 8), .inr 0, .inl (.int, 8), .inl (.int, 8), .inl (.int, 8), .inr 0, .inl (.int, 8), .inl (.int, 8), .inl (.int, 8), .inr 0, .inl (.int, 8), .inl (.int, 8), .inl (.int, 8), .inr 0, .inl (.int, 8), .inl (.int, 8), .inl (.int, 8), .inr 0, .inl (.int, 8), .inl (.int, 8), .inl (.int, 8), .inr 0, .inl (.int, 8), .inl (.int, 8), .inl (.int, 8), .inr 0, .inl (.int, 8), .inl (.int, 8), .inl (.int, 8), .inr 0, .inl (.int, 8), .inl (.int, 8), .inl (.int, 8), .inr 0, .inl (.int, 8), .inl (.int, 8), .inl (.int, 8), .inr 0, .inl (.int, 8), .inl (.int, 8), .inl (.int, 8), .inr 0, .inl (.int, 8), .inl (.int, 8), .inl (.int, 8), .inr 0, .inl (.int, 8), .inl (.int, 8), .inl (.int, 8), .inr 0, .inl (.int, 8), .inl (.int, 8), .inl (.int, 8), .inr 0, .inl (.int, 8), .inl (.int, 8), .inl (.int, 8), .inr 0, .inl (.int, 8), .inl (.int, 8), .inl (.int, 8), .inr 0, .inl (.int, 8), .inl (.int, 8), .inl (.int, 8), .inr 0, .inl (.int, 8), .inl (.int, 8), .inl (.int, 8), .inr 0, .inl (.int, 8), .inl (.int, 8), .inl (.int, 8), .inr 0, .inl (.int, 8), .inl (.int, 8), .inl (.int, 8), .inr 0, .inl (.int, 8), .inl (.int, 8), .inl (.int, 8), .inr 0, .inl (.int, 8), .inl (.int, 8), .inl (.int, 8), .inr 6, .inl (.int, 8), .inl (.int, 8), .inl (.int, 8), .inr 0, .inl (.int, 8), .inl (.int, 8), .inl (.int, 8), .inr 1, .inl (.object "GlassEyes$Court", 30), .inr 0, .inl (.int, 8), .inl (.int, 8), .inl (.int, 8), .inr 0, .inl (.int, 8), .inl (.int, 8), .inl (.int, 8), .inr 0, .inl (.int, 8), .inl (.int, 8), .inl (.int, 8), .inr 0, .inl (.int, 8), .inl (.int, 8), .inl (.int, 8), .inr 0, .inl (.int, 8), .inl (.int, 8), .inl (.int, 8), .inr 0, .inl (.int, 8), .inl (.int, 8), .inl (.int, 8), .inr 0, .inl (.int, 8), .inl (.int, 8), .inl (.int, 8), .inr 0, .inl (.int, 8), .inl (.int, 8), .inl (.int, 8), .inr 0, .inl (.int, 8), .inl (.int, 8), .inl (.int, 8), .inr 0, .inl (.int, 8), .inl (.int, 8), .inl (.int, 8), .inr 0, .inl (.int, 8), .inl (.int, 8), .inl (.int, 8), .inr 0, .inl (.int, 8), .inl (.int, 8), .inl (.int, 8), .inr 0, .inl (.int, 8), .inl (.int, 8), .inl (.int, 8), .inr 0, .inl (.int, 8), .inl (.int, 8), .inl (.int, 8), .inr 0, .inl (.int, 8), .inl (.int, 8), .inl (.int, 8), .inr 0, .inl (.int, 8), .inl (.int, 8), .inl (.int, 8), .inr 0, .inl (.int, 8), .inl (.int, 8), .inl (.int, 8), .inr 0, .inl (.int, 8), .inl (.int, 8), .inl (.int, 8), .inr 0, .inl (.int, 8), .inl (.int, 8), .inl (.int, 8), .inr 0, .inl (.int, 8), .inl (.int, 8), .inl (.int, 8), .inr 0, .inl (.int, 8), .inl (.int, 8), .inl (.int, 8), .inr 0, .inl (.int, 8), .inl (.int, 8), .inl (.int, 8), .inr 0, .inl (.int, 8), .inl (.int, 8), .inl (.int, 8), .inr 0, .inl (.int, 8), .inl (.int, 8), .inl (.int, 8), .inr 0, .inl (.int, 8), .inl (.int, 8), .inl (.int, 8), .inr 0, .inl (.int, 8), .inl (.int, 8), .inl (.int, 8), .inr 0, .inl (.int, 8), .inl (.int, 8), .inl (.int, 8), .inr 0, .inl (.int, 8), .inl (.int, 8), .inl (.int, 8), .inr 0, .inl (.int, 8), .inl (.int, 8), .inl (.int, 8), .inr 0, .inl (.int, 8), .inl (.int, 8), .inl (.int, 8), .inr 0, .inl (.int, 8), .inl (.int, 8), .inl (.int, 8), .inr 3, .inl (.int, 9), .inl (.int, 32), .inr 4, .inl (.int, 3), .inl (.int, 3), .inl (.int, 32), .inl (.int, 8), .inr 5, .inl (.int, 24), .inl (.int, 24), .inl (.int, 24), .inl (.int, 300), .inr 5, .inl (.int, 24), .inl (.int, 24), .inl (.int, 24), .inl (.int, 300), .inr 5, .inl (.int, 24), .inl (.int, 24), .inl (.int, 24), .inl (.int, 300), .inr 5, .inl (.int, 24), .inl (.int, 24), .inl (.int, 24), .inl (.int, 300), .inr 8, .inl (.int, 1584), .inl (.int, 1584), .inl (.int, 1584), .inl (.int, 2720), .inl (.int, 300), .inl (.int, 160), .inl (.int, 9), .inl (.long, 330), .inl (.boolean, 330), .inl (.int, 128), .inl (.int, 4), .inl (.int, 16), .inl (.int, 3)]
def SH (c : Nat) : (FieldType × Nat) ⊕ Nat := (shL[c]?).getD (.inl (.int, 0))
abbrev KK : Nat := 318
def OFF (ci k : Nat) : Option Nat := match ci with
  | 0 => ([none, some 1, some 2, some 3] : List (Option Nat)).getD k none
  | 1 => ([some 1, none, none] : List (Option Nat)).getD k none
  | 2 => ([none, none, some 1, some 2, some 3, none, none, none, some 4] : List (Option Nat)).getD k none
  | 3 => ([some 1, some 2] : List (Option Nat)).getD k none
  | 4 => ([none, none, none, none, none, none, none, some 1, some 2] : List (Option Nat)).getD k none
  | 5 => ([none, some 1, some 2, some 3, some 4, none, none, none, none, none] : List (Option Nat)).getD k none
  | 6 => ([none, some 1, none, some 2, some 3, none, none, none, none, some 4, some 8] : List (Option Nat)).getD k none
  | 7 => ([none, some 1, none, some 2, some 11, some 12, some 142, some 272, some 276, some 279, some 282, some 283] : List (Option Nat)).getD k none
  | 8 => ([some 1, some 2, some 3, none, some 4, some 5, none, none, none, none, none, none, none, none, none, none, none, none, some 6, none, none, none, none, none, some 7, some 8, some 9, some 10, some 11, some 12, some 13, none, none] : List (Option Nat)).getD k none
  | _ => none
def TYF (ci : Nat) : Nat → FieldType := match ci with
  | 0 => tyX0
  | 1 => tyX1
  | 2 => tyX2
  | 3 => tyX3
  | 4 => tyX4
  | 5 => tyX5
  | 6 => tyX6
  | 7 => tyX7
  | 8 => tyX8
  | _ => fun _ => .int
def NF (ci : Nat) : Nat := ([4, 3, 9, 2, 9, 10, 11, 12, 33] : List Nat).getD ci 0
/-- the references as they stand once both objects are made; the one that moves (Reader.script) stands in the numbers -/
def SR (m : Nat → Nat → Int) (c k : Nat) : Option Nat := if c = 11 then some (284 + 5 * k) else if c = 21 then some (22 + 4 * k) else if c = 151 then some (152 + 4 * k) else if c = 2 ∧ k = 8 then some (m 2 8).toNat else match SH c with
  | .inr ci => (OFF ci k).map (c + ·)
  | .inl _ => none
end
section
/-! ===== the pure picture: numbers are Ints, references are places in the order of making ===== -/
abbrev PV : Type := Int ⊕ (Int ⊕ Option Nat)
abbrev vi (z : Int) : PV := Sum.inl z
abbrev vl (z : Int) : PV := Sum.inr (Sum.inl z)
abbrev vr (c : Nat) : PV := Sum.inr (Sum.inr (some c))
abbrev vn : PV := Sum.inr (Sum.inr none)
/-- launch, class numbers and slots, array classes, base, the text's address, its bytes' address, the script's address, length and contents -/
abbrev GG : Type := Launch × va_G × (FieldType → ClassId) × Nat × Nat × Nat × Nat × Nat × (Nat → Int32)
abbrev gL (G : GG) : Launch := G.1
abbrev gD (G : GG) : va_G := G.2.1
abbrev gA (G : GG) : FieldType → ClassId := G.2.2.1
abbrev gB (G : GG) : Nat := G.2.2.2.1
abbrev gS (G : GG) : Nat := G.2.2.2.2.1
abbrev gV (G : GG) : Nat := G.2.2.2.2.2.1
abbrev gC (G : GG) : Nat := G.2.2.2.2.2.2.1
abbrev gN (G : GG) : Nat := G.2.2.2.2.2.2.2.1
abbrev gX (G : GG) : Nat → Int32 := G.2.2.2.2.2.2.2.2
def i32 (z : Int) : Int32 := Int32.ofInt z
def i64 (z : Int) : Int64 := Int64.ofInt z
def rf (G : GG) (c : Nat) : Nat := if c = 999999 then gS G else if c = 999998 then gV G else if c = 999997 then gC G else gB G + c
def tv (G : GG) (v : PV) : Value := match v with
  | .inl z => .int (i32 z)
  | .inr (.inl z) => .long (i64 z)
  | .inr (.inr r) => va_rf (r.map (rf G))
abbrev Mem : Type := (Nat → Nat → Int) × (Nat → Nat → Option Nat)
abbrev MI : Type := MethodName × ByteArray × Nat × Option FieldType
def fv (G : GG) (M : Mem) (c k : Nat) (ty : FieldType) : Value := match ty with
  | .long => .long (i64 (M.1 c k))
  | .object _ => va_rf ((M.2 c k).map (rf G))
  | .array _ => va_rf ((M.2 c k).map (rf G))
  | _ => .int (i32 (M.1 c k))
def av (G : GG) (M : Mem) (c : Nat) (ty : FieldType) : (Nat → Int32) ⊕ (Nat → Int64) ⊕ (Nat → UInt32) ⊕ (Nat → UInt64) ⊕ (Nat → Option Nat) := match ty with
  | .long => .inr (.inl (fun j => i64 (M.1 c j)))
  | .object _ => .inr (.inr (.inr (.inr (fun j => (M.2 c j).map (rf G)))))
  | _ => .inl (fun j => i32 (M.1 c j))
def cellS (G : GG) (M : Mem) (c : Nat) (s : (FieldType × Nat) ⊕ Nat) : va_E := match s with
  | .inl (ty, n) => .inl (gA G ty, n, av G M c ty)
  | .inr ci => .inr (ci, (List.range (NF ci)).map (fun k => fv G M c k (TYF ci k)))
def cellE (G : GG) (M : Mem) (c : Nat) : va_E := cellS G M c (SH c)
def cw (G : GG) (K : Nat) (M : Mem) : va_W := (List.range K).map (fun i => (gB G + i, cellE G M i))
def Rep (G : GG) (K : Nat) (M : Mem) (H : Heap) : Prop := K ≤ 900000 ∧ va_P (gD G) vwCl (cw G K M) H
abbrev gO (G : GG) : Nat → Prop := fun q => gB G ≤ q
def gTY : List FieldType := [.int, .byte, .long, .boolean, .object "GlassEyes$Court", .object "GlassEyes$Script"]
def gT (G : GG) : List (ClassId × FieldType) := gTY.map (fun t => (gA G t, t))
def WTX : String := "sees rubs touch put drawer swap polish by on with or and not eye colour chipped hour since many thing kind who "
def WB : List Int32 := WTX.toList.map (fun c => Int32.ofNat c.toNat)
/-- the words that every later state keeps -/
def gtb : List Cond := lw_tbl.filter goodWord
def nestL : List (String × Nat × MethodName × String) := [(RX7, 19, yX2_init, RX7), (RX2, 39, yX5_init, RX7), (RX7, 32, yX6_init, RX7), (RX7, 49, yX3_init, RX7), (RX7, 56, yX4_init, RX7), (RX7, 80, yX5_init, RX7)]
def NX (s : State) : Prop := (∀ q ∈ nestL, va_Nw (.methodLinkNest q.1 q.2.1 q.2.2.1 q.2.2.2) s) ∧ va_AO "GlassEyes$Court" s ∧ va_AO "GlassEyes$Script" s
/-- the text, the one static that it asks, the script -/
def SX (G : GG) (s : State) : Prop := va_Z "java/lang/String" "COMPACT_STRINGS" "Z" (.int 1) (gO G) s s.heap ∧ vk_R RX2 77 WTX (gS G) s ∧ vk_S 1 [111] [WB] (fun _ => gS G) (fun _ => gV G) (gO G) s s.heap ∧ va_X (gC G) (gN G) (gX G) s s.heap ∧ gC G < gB G ∧ NX s
def Ctx (G : GG) (mi : MI) (p : Program) (s : State) (m : MethodId) (args : Array Value) (meth : Method) (c : Code) : Prop :=
  p.tables.exec = Jvm.exec ∧ c.code = mi.2.1 ∧ meth.sig.returnType = mi.2.2.2 ∧ c.maxLocals = mi.2.2.1 ∧ s.vm.findClass mi.1.cls = some m.cls ∧ (∀ w ∈ gtb, w.before args s = true) ∧ meth.locks = false ∧ (mi.1.name = "<init>" → meth.name = "<init>") ∧ va_K (gD G) vwCl (gT G) s ∧ SX G s ∧ gB G ≤ s.heap.size
def las (G : GG) : Nat → List (Option PV) → List (Nat × Value)
  | _, [] => []
  | i, none :: l => las G (i + 1) l
  | i, some v :: l => (i, tv G v) :: las G (i + 1) l
def LV (G : GG) (ls : Array Slot) (nL : Nat) (lv : List (Option PV)) : Prop := lv_has ls nL (las G 0 lv)
abbrev ZZ : Type := List Frame → Array Value → State → Nat → Nat → State → Prop
/-- the judgement: from every machine state that shows this picture, the method comes to Z -/
def V (G : GG) (fr lo bc bs : Nat) (mi : MI) (pc : Nat) (lv : List (Option PV)) (st : List PV) (K : Nat) (M : Mem) (Z : ZZ) : Prop :=
  ∀ (p : Program) (e : Env) (s : State) (m : MethodId) (args : Array Value) (below : List Frame) (meth : Method) (c : Code) (mc ms : Nat) (H : Heap) (locs : List Loc) (ls : Array Slot) (cells slots : Nat),
    Ctx G mi p s m args meth c → Rep G K M H → va_S (gO G) s.heap H locs → LV G ls mi.2.2.1 lv → s.heap.size + cells = gB G + K → cells + bc = mc → slots + bs ≤ ms →
    W p (gL G) e { frames := fr, cells := mc, slots := ms, locals := lo } s m args below meth c H locs cells slots (Z below args s mc ms) (F0 m pc ls (st.map (tv G)))
/-! ===== numbers ===== -/
abbrev rng (z : Int) : Prop := -2147483648 ≤ z ∧ z < 2147483648
abbrev rnl (z : Int) : Prop := -9223372036854775808 ≤ z ∧ z < 9223372036854775808
theorem i32_add (a b : Int) : i32 (a + b) = i32 a + i32 b := Int32.ofInt_add a b
theorem i32_sub (a b : Int) : i32 (a - b) = i32 a - i32 b := Int32.ofInt_sub a b
theorem i32_mul (a b : Int) : i32 (a * b) = i32 a * i32 b := Int32.ofInt_mul a b
theorem i32_neg (a : Int) : i32 (-a) = -i32 a := Int32.ofInt_neg a
theorem i64_add (a b : Int) : i64 (a + b) = i64 a + i64 b := Int64.ofInt_add a b
theorem i64_sub (a b : Int) : i64 (a - b) = i64 a - i64 b := Int64.ofInt_sub a b
theorem i64_mul (a b : Int) : i64 (a * b) = i64 a * i64 b := Int64.ofInt_mul a b
theorem i64_neg (a : Int) : i64 (-a) = -i64 a := Int64.ofInt_neg a
theorem i32_toInt {a : Int} (h : rng a) : (i32 a).toInt = a := Int32.toInt_ofInt_of_le (by have := h.1; omega) (by have := h.2; omega)
theorem i64_toInt {a : Int} (h : rnl a) : (i64 a).toInt = a := Int64.toInt_ofInt_of_le (by have := h.1; omega) (by have := h.2; omega)
theorem i32_lt {a b : Int} (ha : rng a) (hb : rng b) : i32 a < i32 b ↔ a < b := by rw [Int32.lt_iff_toInt_lt, i32_toInt ha, i32_toInt hb]
theorem i32_le {a b : Int} (ha : rng a) (hb : rng b) : i32 a ≤ i32 b ↔ a ≤ b := by rw [Int32.le_iff_toInt_le, i32_toInt ha, i32_toInt hb]
theorem i32_eq {a b : Int} (ha : rng a) (hb : rng b) : i32 a = i32 b ↔ a = b := by rw [← Int32.toInt_inj, i32_toInt ha, i32_toInt hb]
theorem i64_lt {a b : Int} (ha : rnl a) (hb : rnl b) : i64 a < i64 b ↔ a < b := by rw [Int64.lt_iff_toInt_lt, i64_toInt ha, i64_toInt hb]
theorem i64_eq {a b : Int} (ha : rnl a) (hb : rnl b) : i64 a = i64 b ↔ a = b := by rw [← Int64.toInt_inj, i64_toInt ha, i64_toInt hb]
theorem i32_of (x : Int32) : i32 x.toInt = x := Int32.ofInt_toInt x
theorem i32_rng (x : Int32) : rng x.toInt := ⟨by have := x.le_toInt; omega, by have := x.toInt_lt; omega⟩
theorem i32_nat {n : Nat} (h : n < 2147483648) : (i32 (n : Int)).toNatClampNeg = n := by
  show (Int32.ofInt (n : Int)).toNatClampNeg = n
  rw [Int32.toNatClampNeg_ofInt_of_le (by omega) (by omega)]
  omega
theorem i32_in {n N : Nat} (h : n < N) (hN : N < 2147483648) : vp_in (i32 (n : Int)) N := by
  intro q
  rcases q with q | q
  · rw [show (0 : Int32) = i32 0 from rfl, i32_lt (by omega) (by omega)] at q
    omega
  · rw [i32_nat (by omega)] at q
    omega
/-! bits, by the machine's own -/
def iand (a b : Int) : Int := (i32 a &&& i32 b).toInt
def ior (a b : Int) : Int := (i32 a ||| i32 b).toInt
def ixor (a b : Int) : Int := (i32 a ^^^ i32 b).toInt
def ishl (a b : Int) : Int := (i32 a <<< (i32 b &&& 31)).toInt
def ishr (a b : Int) : Int := (i32 a >>> (i32 b &&& 31)).toInt
def iushr (a b : Int) : Int := ((i32 a).toUInt32 >>> ((i32 b).toUInt32 &&& Int32.toUInt32 31)).toInt32.toInt
def idiv (a b : Int) : Int := (i32 a / i32 b).toInt
def i2b (a : Int) : Int := (i32 a).toInt8.toInt32.toInt
def i2c (a : Int) : Int := ((i32 a).toUInt32 % 65536).toInt32.toInt
def i2z (a : Int) : Int := (vp_nar .boolean (i32 a)).toInt
def lorr (a b : Int) : Int := (i64 a ||| i64 b).toInt
def lshl (a b : Int) : Int := (i64 a <<< ((i32 b).toInt64 &&& 63)).toInt
def ldiv (a b : Int) : Int := (i64 a / i64 b).toInt
theorem i64_of (x : Int64) : i64 x.toInt = x := Int64.ofInt_toInt x
/-! ===== the cells ===== -/
theorem cw_get {G : GG} {K : Nat} {M : Mem} {i : Nat} (h : i < K) : (cw G K M)[i]? = some (gB G + i, cellE G M i) := by
  unfold cw
  rw [List.getElem?_map, List.getElem?_range h]
  rfl
theorem cw_len {G : GG} {K : Nat} {M : Mem} : (cw G K M).length = K := by simp [cw]
theorem cw_D {G : GG} {K : Nat} {M : Mem} : va_D (gO G) (cw G K M) := by
  have key : ∀ (k : Nat) (q : Nat × va_E), (cw G K M)[k]? = some q → q.1 = gB G + k := by
    intro k q h
    have hk : k < K := by have := (List.getElem?_eq_some_iff.mp h).1; rwa [cw_len] at this
    rw [cw_get hk] at h
    cases h
    rfl
  refine ⟨fun i j p q hi hj e => ?_, fun k q hk => ?_⟩
  · rw [key i p hi, key j q hj] at e
    omega
  · show gB G ≤ q.1
    rw [key k q hk]
    omega
theorem cw_set {G : GG} {K : Nat} {M M' : Mem} {i : Nat} {e : va_E} (h1 : cellE G M' i = e) (h2 : ∀ j, j ≠ i → cellE G M' j = cellE G M j) : (cw G K M).set i (gB G + i, e) = cw G K M' := by
  apply List.ext_getElem?
  intro k
  by_cases hk : k < K
  · by_cases hki : i = k
    · subst hki
      rw [List.getElem?_set_self (by rw [cw_len]; exact hk), cw_get hk, h1]
    · rw [List.getElem?_set_ne hki, cw_get hk, cw_get hk, h2 k (fun z => hki z.symm)]
  · rw [List.getElem?_eq_none (by rw [List.length_set, cw_len]; omega), List.getElem?_eq_none (by rw [cw_len]; omega)]
theorem rf_cell {G : GG} {c K : Nat} (h : c < K) (hK : K ≤ 900000) : rf G c = gB G + c := by
  unfold rf
  rw [if_neg (by omega), if_neg (by omega), if_neg (by omega)]
theorem las_mem {G : GG} : ∀ (lv : List (Option PV)) (i : Nat) (q : Nat × Value), q ∈ las G i lv ↔ ∃ k v, lv[k]? = some (some v) ∧ q = (i + k, tv G v)
  | [], i, q => by simp [las]
  | none :: l, i, q => by
    rw [las, las_mem l (i + 1) q]
    constructor
    · rintro ⟨k, v, h1, h2⟩
      exact ⟨k + 1, v, by simpa using h1, by rw [h2, show i + 1 + k = i + (k + 1) by omega]⟩
    · rintro ⟨k, v, h1, h2⟩
      cases k with
      | zero => simp at h1
      | succ k => exact ⟨k, v, by simpa using h1, by rw [h2, show i + 1 + k = i + (k + 1) by omega]⟩
  | some w :: l, i, q => by
    rw [las, List.mem_cons, las_mem l (i + 1) q]
    constructor
    · rintro (h | ⟨k, v, h1, h2⟩)
      · exact ⟨0, w, by simp, by rw [h]; rfl⟩
      · exact ⟨k + 1, v, by simpa using h1, by rw [h2, show i + 1 + k = i + (k + 1) by omega]⟩
    · rintro ⟨k, v, h1, h2⟩
      cases k with
      | zero =>
        have h3 : w = v := by simpa using h1
        exact Or.inl (by rw [h2, h3]; rfl)
      | succ k => exact Or.inr ⟨k, v, by simpa using h1, by rw [h2, show i + 1 + k = i + (k + 1) by omega]⟩
theorem ge_at {G : GG} {ls : Array Slot} {nL : Nat} {lv : List (Option PV)} (h : LV G ls nL lv) {k : Nat} {v : PV} (hk : lv[k]? = some (some v)) : ls[k]? = some (.val (tv G v)) := by
  have := h.2.2 (0 + k, tv G v) ((las_mem lv 0 _).mpr ⟨k, v, hk, rfl⟩)
  simpa using this
theorem ge_sub {G : GG} {ls : Array Slot} {nL : Nat} {lv' : List (Option PV)} {l : List (Nat × Value)} (h : lv_has ls nL l) (hs : ∀ k v, lv'[k]? = some (some v) → (k, tv G v) ∈ l) : LV G ls nL lv' :=
  ⟨h.1, h.2.1, fun q hq => by
    obtain ⟨k, v, h1, h2⟩ := (las_mem lv' 0 q).mp hq
    have e : q = (k, tv G v) := by rw [h2, Nat.zero_add]
    rw [e]
    exact h.2.2 _ (hs k v h1)⟩
/-- a store of one word takes a long that ends there away -/
def clr (lv : List (Option PV)) (k : Nat) : List (Option PV) := match k with
  | 0 => lv
  | j + 1 => match lv[j]? with
    | some (some (Sum.inr (Sum.inl _))) => lv.set j none
    | _ => lv
def stI (lv : List (Option PV)) (k : Nat) (v : PV) : List (Option PV) := (clr lv k).set k (some v)
def stL (lv : List (Option PV)) (k : Nat) (v : PV) : List (Option PV) := ((clr lv k).set k (some v)).set (k + 1) none
theorem tv_cat (G : GG) (v : PV) : (tv G v).category = 2 ↔ ∃ z, v = vl z := by
  match v with
  | .inl z => simp [tv, Value.category]
  | .inr (.inl z) => simp [tv, Value.category]
  | .inr (.inr none) => simp [tv, va_rf, Value.category]
  | .inr (.inr (some c)) => simp [tv, va_rf, Value.category]
theorem clr_at {lv : List (Option PV)} {k j : Nat} {v : PV} (h : (clr lv k)[j]? = some (some v)) : lv[j]? = some (some v) ∧ (j + 1 = k → ¬ ∃ z, v = vl z) := by
  unfold clr at h
  cases k with
  | zero => exact ⟨h, fun e => absurd e (by omega)⟩
  | succ i =>
    dsimp only at h
    split at h
    · rename_i z hz
      by_cases hj : i = j
      · subst hj
        have hl : i < lv.length := (List.getElem?_eq_some_iff.mp hz).1
        rw [List.getElem?_set_self hl] at h
        cases h
      · rw [List.getElem?_set_ne hj] at h
        exact ⟨h, fun e => absurd e (by omega)⟩
    · rename_i hz
      refine ⟨h, fun e => ?_⟩
      have e2 : j = i := by omega
      subst e2
      rintro ⟨z, rfl⟩
      exact hz z h
theorem ge_stI {G : GG} {ls : Array Slot} {nL : Nat} {lv : List (Option PV)} {k : Nat} {v : PV} (hc : (tv G v).category = 1) (h : lv_has ls nL ((k, tv G v) :: (las G 0 lv).filter (fun q => !(q.1 == k) && !(q.1 + 1 == k && q.2.category == 2)))) : LV G ls nL (stI lv k v) := by
  refine ge_sub h fun j w hj => ?_
  by_cases hjk : k = j
  · subst hjk
    unfold stI at hj
    have hl : k < (clr lv k).length := by have := (List.getElem?_eq_some_iff.mp hj).1; simpa using this
    rw [List.getElem?_set_self hl] at hj
    cases hj
    exact List.mem_cons_self
  · unfold stI at hj
    rw [List.getElem?_set_ne hjk] at hj
    obtain ⟨h1, h2⟩ := clr_at hj
    refine List.mem_cons_of_mem _ (List.mem_filter.mpr ⟨(las_mem lv 0 _).mpr ⟨j, w, h1, by rw [Nat.zero_add]⟩, ?_⟩)
    have h3 : ¬ j = k := fun z => hjk z.symm
    by_cases h4 : j + 1 = k
    · have h5 : ¬ (tv G w).category = 2 := fun z => h2 h4 ((tv_cat G w).mp z)
      simp [h3, h5]
    · simp [h3, h4]
theorem ge_stL {G : GG} {ls : Array Slot} {nL : Nat} {lv : List (Option PV)} {k : Nat} {v : PV} (h : lv_has ls nL ((k, tv G v) :: (las G 0 lv).filter (fun q => !(q.1 == k) && (!(q.1 == k + 1) && !(q.1 + 1 == k && q.2.category == 2))))) : LV G ls nL (stL lv k v) := by
  refine ge_sub h fun j w hj => ?_
  unfold stL at hj
  by_cases hj1 : k + 1 = j
  · subst hj1
    exfalso
    have hl : k + 1 < ((clr lv k).set k (some v)).length := by have := (List.getElem?_eq_some_iff.mp hj).1; simpa using this
    rw [List.getElem?_set_self hl] at hj
    cases hj
  · rw [List.getElem?_set_ne hj1] at hj
    by_cases hjk : k = j
    · subst hjk
      have hl : k < (clr lv k).length := by have := (List.getElem?_eq_some_iff.mp hj).1; simpa using this
      rw [List.getElem?_set_self hl] at hj
      cases hj
      exact List.mem_cons_self
    · rw [List.getElem?_set_ne hjk] at hj
      obtain ⟨h1, h2⟩ := clr_at hj
      refine List.mem_cons_of_mem _ (List.mem_filter.mpr ⟨(las_mem lv 0 _).mpr ⟨j, w, h1, by rw [Nat.zero_add]⟩, ?_⟩)
      have h3 : ¬ j = k := fun z => hjk z.symm
      have h6 : ¬ j = k + 1 := fun z => hj1 z.symm
      by_cases h4 : j + 1 = k
      · have h5 : ¬ (tv G w).category = 2 := fun z => h2 h4 ((tv_cat G w).mp z)
        simp [h3, h5, h6]
      · simp [h3, h4, h6]
end
section
section GeRules
variable {G : GG} {fr lo bc bs : Nat} {mi : MI} {pc : Nat} {lv : List (Option PV)} {st : List PV} {K : Nat} {M : Mem} {Z : ZZ}
theorem v_iconst  {n : Int} (hd : decode mi.2.1 pc = .ok (.iconst n, 1)) (k : V G fr lo bc bs mi (pc + 1) lv (vi n :: st) K M Z) : V G fr lo bc bs mi pc lv st K M Z := by
  intro p e s m args below meth c mc ms H locs ls cells slots C hR hS hL hE h1 h2
  exact lv_iconst (v := i32 n) C.1 C.2.1 hd rfl (k p e s m args below meth c mc ms H locs ls cells slots C hR hS hL hE h1 h2)
theorem v_bipush  {n : Int} (hd : decode mi.2.1 pc = .ok (.bipush n, 2)) (hv : (Int8.ofInt n).toInt32 = i32 n) (k : V G fr lo bc bs mi (pc + 2) lv (vi n :: st) K M Z) : V G fr lo bc bs mi pc lv st K M Z := by
  intro p e s m args below meth c mc ms H locs ls cells slots C hR hS hL hE h1 h2
  exact lv_bipush (v := i32 n) C.1 C.2.1 hd hv (k p e s m args below meth c mc ms H locs ls cells slots C hR hS hL hE h1 h2)
theorem v_sipush  {n : Int} (hd : decode mi.2.1 pc = .ok (.sipush n, 3)) (hv : (Int16.ofInt n).toInt32 = i32 n) (k : V G fr lo bc bs mi (pc + 3) lv (vi n :: st) K M Z) : V G fr lo bc bs mi pc lv st K M Z := by
  intro p e s m args below meth c mc ms H locs ls cells slots C hR hS hL hE h1 h2
  exact lv_sipush (v := i32 n) C.1 C.2.1 hd hv (k p e s m args below meth c mc ms H locs ls cells slots C hR hS hL hE h1 h2)
theorem v_lconst  {n : Fin 2} {z : Int} (hd : decode mi.2.1 pc = .ok (.lconst n, 1)) (hz : Int64.ofNat (n : Nat) = i64 z) (k : V G fr lo bc bs mi (pc + 1) lv (vl z :: st) K M Z) : V G fr lo bc bs mi pc lv st K M Z := by
  intro p e s m args below meth c mc ms H locs ls cells slots C hR hS hL hE h1 h2
  exact lv_lconst (v := i64 z) C.1 C.2.1 hd hz (k p e s m args below meth c mc ms H locs ls cells slots C hR hS hL hE h1 h2)
theorem v_ldc  {i : Nat} {z : Int} (hd : decode mi.2.1 pc = .ok (.ldc i, 2)) (hc : Cond.constant mi.1.cls i (i32 z) ∈ gtb) (k : V G fr lo bc bs mi (pc + 2) lv (vi z :: st) K M Z) : V G fr lo bc bs mi pc lv st K M Z := by
  intro p e s m args below meth c mc ms H locs ls cells slots C hR hS hL hE h1 h2
  exact lv_ldc (v := i32 z) C.1 C.2.1 C.2.2.2.2.1 (C.2.2.2.2.2.1 _ hc) hd (k p e s m args below meth c mc ms H locs ls cells slots C hR hS hL hE h1 h2)
theorem v_ldc_w  {i : Nat} {z : Int} (hd : decode mi.2.1 pc = .ok (.ldc_w i, 3)) (hc : Cond.constant mi.1.cls i (i32 z) ∈ gtb) (k : V G fr lo bc bs mi (pc + 3) lv (vi z :: st) K M Z) : V G fr lo bc bs mi pc lv st K M Z := by
  intro p e s m args below meth c mc ms H locs ls cells slots C hR hS hL hE h1 h2
  exact lv_ldcw (v := i32 z) C.1 C.2.1 C.2.2.2.2.1 (C.2.2.2.2.2.1 _ hc) hd (k p e s m args below meth c mc ms H locs ls cells slots C hR hS hL hE h1 h2)
theorem v_ldc2  {i : Nat} {z : Int} (hd : decode mi.2.1 pc = .ok (.ldc2_w i, 3)) (hc : Cond.constantLong mi.1.cls i (i64 z) ∈ gtb) (k : V G fr lo bc bs mi (pc + 3) lv (vl z :: st) K M Z) : V G fr lo bc bs mi pc lv st K M Z := by
  intro p e s m args below meth c mc ms H locs ls cells slots C hR hS hL hE h1 h2
  exact lv_ldc2 (v := i64 z) C.1 C.2.1 C.2.2.2.2.1 (C.2.2.2.2.2.1 _ hc) hd (k p e s m args below meth c mc ms H locs ls cells slots C hR hS hL hE h1 h2)
theorem v_iload_n  {j : Fin 4} {i : Nat} {z : Int} (hd : decode mi.2.1 pc = .ok (.iload_n j, 1)) (hi : (j : Nat) = i) (hl : lv[i]? = some (some (vi z))) (k : V G fr lo bc bs mi (pc + 1) lv (vi z :: st) K M Z) : V G fr lo bc bs mi pc lv st K M Z := by
  intro p e s m args below meth c mc ms H locs ls cells slots C hR hS hL hE h1 h2
  exact lv_iload_n C.1 C.2.1 hd hi (ge_at hL hl) (k p e s m args below meth c mc ms H locs ls cells slots C hR hS hL hE h1 h2)
theorem v_iload  {i : Nat} {z : Int} (hd : decode mi.2.1 pc = .ok (.iload i, 2)) (hl : lv[i]? = some (some (vi z))) (k : V G fr lo bc bs mi (pc + 2) lv (vi z :: st) K M Z) : V G fr lo bc bs mi pc lv st K M Z := by
  intro p e s m args below meth c mc ms H locs ls cells slots C hR hS hL hE h1 h2
  exact lv_iload C.1 C.2.1 hd (ge_at hL hl) (k p e s m args below meth c mc ms H locs ls cells slots C hR hS hL hE h1 h2)
theorem v_lload_n  {j : Fin 4} {i : Nat} {z : Int} (hd : decode mi.2.1 pc = .ok (.lload_n j, 1)) (hi : (j : Nat) = i) (hl : lv[i]? = some (some (vl z))) (k : V G fr lo bc bs mi (pc + 1) lv (vl z :: st) K M Z) : V G fr lo bc bs mi pc lv st K M Z := by
  intro p e s m args below meth c mc ms H locs ls cells slots C hR hS hL hE h1 h2
  exact lv_lload_n C.1 C.2.1 hd hi (ge_at hL hl) (k p e s m args below meth c mc ms H locs ls cells slots C hR hS hL hE h1 h2)
theorem v_lload  {i : Nat} {z : Int} (hd : decode mi.2.1 pc = .ok (.lload i, 2)) (hl : lv[i]? = some (some (vl z))) (k : V G fr lo bc bs mi (pc + 2) lv (vl z :: st) K M Z) : V G fr lo bc bs mi pc lv st K M Z := by
  intro p e s m args below meth c mc ms H locs ls cells slots C hR hS hL hE h1 h2
  exact lv_lload C.1 C.2.1 hd (ge_at hL hl) (k p e s m args below meth c mc ms H locs ls cells slots C hR hS hL hE h1 h2)
theorem v_aload_n  {j : Fin 4} {i : Nat} {z : Nat} (hd : decode mi.2.1 pc = .ok (.aload_n j, 1)) (hi : (j : Nat) = i) (hl : lv[i]? = some (some (vr z))) (k : V G fr lo bc bs mi (pc + 1) lv (vr z :: st) K M Z) : V G fr lo bc bs mi pc lv st K M Z := by
  intro p e s m args below meth c mc ms H locs ls cells slots C hR hS hL hE h1 h2
  exact lv_aload_n C.1 C.2.1 hd hi (ge_at hL hl) (k p e s m args below meth c mc ms H locs ls cells slots C hR hS hL hE h1 h2)
theorem v_aload  {i : Nat} {z : Nat} (hd : decode mi.2.1 pc = .ok (.aload i, 2)) (hl : lv[i]? = some (some (vr z))) (k : V G fr lo bc bs mi (pc + 2) lv (vr z :: st) K M Z) : V G fr lo bc bs mi pc lv st K M Z := by
  intro p e s m args below meth c mc ms H locs ls cells slots C hR hS hL hE h1 h2
  exact lv_aload C.1 C.2.1 hd (ge_at hL hl) (k p e s m args below meth c mc ms H locs ls cells slots C hR hS hL hE h1 h2)
theorem v_istore_n  {j : Fin 4} {i : Nat} {z : Int} (hd : decode mi.2.1 pc = .ok (.istore_n j, 1)) (hi : (j : Nat) = i) (hn : i < mi.2.2.1) (k : V G fr lo bc bs mi (pc + 1) (stI lv i (vi z)) st K M Z) : V G fr lo bc bs mi pc lv (vi z :: st) K M Z := by
  intro p e s m args below meth c mc ms H locs ls cells slots C hR hS hL hE h1 h2
  exact lv_istore_n C.1 C.2.1 hd hi hL hn rfl (fun ls1 hL1 => k p e s m args below meth c mc ms H locs ls1 cells slots C hR hS (ge_stI (by rfl) hL1) hE h1 h2)
theorem v_istore  {i : Nat} {z : Int} (hd : decode mi.2.1 pc = .ok (.istore i, 2)) (hn : i < mi.2.2.1) (k : V G fr lo bc bs mi (pc + 2) (stI lv i (vi z)) st K M Z) : V G fr lo bc bs mi pc lv (vi z :: st) K M Z := by
  intro p e s m args below meth c mc ms H locs ls cells slots C hR hS hL hE h1 h2
  exact lv_istore C.1 C.2.1 hd hL hn rfl (fun ls1 hL1 => k p e s m args below meth c mc ms H locs ls1 cells slots C hR hS (ge_stI (by rfl) hL1) hE h1 h2)
theorem v_lstore_n  {j : Fin 4} {i : Nat} {z : Int} (hd : decode mi.2.1 pc = .ok (.lstore_n j, 1)) (hi : (j : Nat) = i) (hn : i + 1 < mi.2.2.1) (k : V G fr lo bc bs mi (pc + 1) (stL lv i (vl z)) st K M Z) : V G fr lo bc bs mi pc lv (vl z :: st) K M Z := by
  intro p e s m args below meth c mc ms H locs ls cells slots C hR hS hL hE h1 h2
  exact lv_lstore_n C.1 C.2.1 hd hi hL hn rfl (fun ls1 hL1 => k p e s m args below meth c mc ms H locs ls1 cells slots C hR hS (ge_stL hL1) hE h1 h2)
theorem v_lstore  {i : Nat} {z : Int} (hd : decode mi.2.1 pc = .ok (.lstore i, 2)) (hn : i + 1 < mi.2.2.1) (k : V G fr lo bc bs mi (pc + 2) (stL lv i (vl z)) st K M Z) : V G fr lo bc bs mi pc lv (vl z :: st) K M Z := by
  intro p e s m args below meth c mc ms H locs ls cells slots C hR hS hL hE h1 h2
  exact lv_lstore C.1 C.2.1 hd hL hn rfl (fun ls1 hL1 => k p e s m args below meth c mc ms H locs ls1 cells slots C hR hS (ge_stL hL1) hE h1 h2)
theorem v_astore_n  {j : Fin 4} {i : Nat} {z : Nat} (hd : decode mi.2.1 pc = .ok (.astore_n j, 1)) (hi : (j : Nat) = i) (hn : i < mi.2.2.1) (k : V G fr lo bc bs mi (pc + 1) (stI lv i (vr z)) st K M Z) : V G fr lo bc bs mi pc lv (vr z :: st) K M Z := by
  intro p e s m args below meth c mc ms H locs ls cells slots C hR hS hL hE h1 h2
  exact lv_astore_n C.1 C.2.1 hd hi hL hn rfl (fun ls1 hL1 => k p e s m args below meth c mc ms H locs ls1 cells slots C hR hS (ge_stI (by rfl) hL1) hE h1 h2)
theorem v_astore  {i : Nat} {z : Nat} (hd : decode mi.2.1 pc = .ok (.astore i, 2)) (hn : i < mi.2.2.1) (k : V G fr lo bc bs mi (pc + 2) (stI lv i (vr z)) st K M Z) : V G fr lo bc bs mi pc lv (vr z :: st) K M Z := by
  intro p e s m args below meth c mc ms H locs ls cells slots C hR hS hL hE h1 h2
  exact lv_astore C.1 C.2.1 hd hL hn rfl (fun ls1 hL1 => k p e s m args below meth c mc ms H locs ls1 cells slots C hR hS (ge_stI (by rfl) hL1) hE h1 h2)
theorem v_iinc {i : Nat} {z n : Int} (hd : decode mi.2.1 pc = .ok (.iinc i n, 3)) (hl : lv[i]? = some (some (vi z))) (hn : i < mi.2.2.1) (k : V G fr lo bc bs mi (pc + 3) (stI lv i (vi (z + n))) st K M Z) : V G fr lo bc bs mi pc lv st K M Z := by
  intro p e s m args below meth c mc ms H locs ls cells slots C hR hS hL hE h1 h2
  obtain ⟨j, hj⟩ := List.getElem?_of_mem ((las_mem (G := G) lv 0 (0 + i, tv G (vi z))).mpr ⟨i, vi z, hl, rfl⟩)
  rw [Nat.zero_add] at hj
  exact lv_iinc (v := i32 (z + n)) C.1 C.2.1 hd hL (k := j) hj (by rw [i32_add]; rfl) hn rfl (fun ls1 hL1 => k p e s m args below meth c mc ms H locs ls1 cells slots C hR hS (ge_stI (G := G) (v := vi (z + n)) (by rfl) hL1) hE h1 h2)
theorem v_iadd  {a b : Int} (hd : decode mi.2.1 pc = .ok (.iadd, 1)) (k : V G fr lo bc bs mi (pc + 1) lv (vi (a + b) :: st) K M Z) : V G fr lo bc bs mi pc lv (vi b :: vi a :: st) K M Z := by
  intro p e s m args below meth c mc ms H locs ls cells slots C hR hS hL hE h1 h2
  refine lv_iadd C.1 C.2.1 hd ?_
  have h := k p e s m args below meth c mc ms H locs ls cells slots C hR hS hL hE h1 h2
  rw [List.map_cons, show tv G (vi (a + b)) = .int (i32 (a + b)) from rfl, i32_add] at h
  exact h
theorem v_isub  {a b : Int} (hd : decode mi.2.1 pc = .ok (.isub, 1)) (k : V G fr lo bc bs mi (pc + 1) lv (vi (a - b) :: st) K M Z) : V G fr lo bc bs mi pc lv (vi b :: vi a :: st) K M Z := by
  intro p e s m args below meth c mc ms H locs ls cells slots C hR hS hL hE h1 h2
  refine lv_isub C.1 C.2.1 hd ?_
  have h := k p e s m args below meth c mc ms H locs ls cells slots C hR hS hL hE h1 h2
  rw [List.map_cons, show tv G (vi (a - b)) = .int (i32 (a - b)) from rfl, i32_sub] at h
  exact h
theorem v_imul  {a b : Int} (hd : decode mi.2.1 pc = .ok (.imul, 1)) (k : V G fr lo bc bs mi (pc + 1) lv (vi (a * b) :: st) K M Z) : V G fr lo bc bs mi pc lv (vi b :: vi a :: st) K M Z := by
  intro p e s m args below meth c mc ms H locs ls cells slots C hR hS hL hE h1 h2
  refine lv_imul C.1 C.2.1 hd ?_
  have h := k p e s m args below meth c mc ms H locs ls cells slots C hR hS hL hE h1 h2
  rw [List.map_cons, show tv G (vi (a * b)) = .int (i32 (a * b)) from rfl, i32_mul] at h
  exact h
theorem v_ladd  {a b : Int} (hd : decode mi.2.1 pc = .ok (.ladd, 1)) (k : V G fr lo bc bs mi (pc + 1) lv (vl (a + b) :: st) K M Z) : V G fr lo bc bs mi pc lv (vl b :: vl a :: st) K M Z := by
  intro p e s m args below meth c mc ms H locs ls cells slots C hR hS hL hE h1 h2
  refine lv_ladd C.1 C.2.1 hd ?_
  have h := k p e s m args below meth c mc ms H locs ls cells slots C hR hS hL hE h1 h2
  rw [List.map_cons, show tv G (vl (a + b)) = .long (i64 (a + b)) from rfl, i64_add] at h
  exact h
theorem v_lsub  {a b : Int} (hd : decode mi.2.1 pc = .ok (.lsub, 1)) (k : V G fr lo bc bs mi (pc + 1) lv (vl (a - b) :: st) K M Z) : V G fr lo bc bs mi pc lv (vl b :: vl a :: st) K M Z := by
  intro p e s m args below meth c mc ms H locs ls cells slots C hR hS hL hE h1 h2
  refine lv_lsub C.1 C.2.1 hd ?_
  have h := k p e s m args below meth c mc ms H locs ls cells slots C hR hS hL hE h1 h2
  rw [List.map_cons, show tv G (vl (a - b)) = .long (i64 (a - b)) from rfl, i64_sub] at h
  exact h
theorem v_lmul  {a b : Int} (hd : decode mi.2.1 pc = .ok (.lmul, 1)) (k : V G fr lo bc bs mi (pc + 1) lv (vl (a * b) :: st) K M Z) : V G fr lo bc bs mi pc lv (vl b :: vl a :: st) K M Z := by
  intro p e s m args below meth c mc ms H locs ls cells slots C hR hS hL hE h1 h2
  refine lv_lmul C.1 C.2.1 hd ?_
  have h := k p e s m args below meth c mc ms H locs ls cells slots C hR hS hL hE h1 h2
  rw [List.map_cons, show tv G (vl (a * b)) = .long (i64 (a * b)) from rfl, i64_mul] at h
  exact h
theorem v_iand  {a b : Int} (hd : decode mi.2.1 pc = .ok (.iand, 1)) (k : V G fr lo bc bs mi (pc + 1) lv (vi (iand a b) :: st) K M Z) : V G fr lo bc bs mi pc lv (vi b :: vi a :: st) K M Z := by
  intro p e s m args below meth c mc ms H locs ls cells slots C hR hS hL hE h1 h2
  refine lv_iand C.1 C.2.1 hd ?_
  have h := k p e s m args below meth c mc ms H locs ls cells slots C hR hS hL hE h1 h2
  rw [List.map_cons, show tv G (vi (iand a b)) = .int (i32 (iand a b)) from rfl, iand, i32_of] at h
  exact h
theorem v_ior  {a b : Int} (hd : decode mi.2.1 pc = .ok (.ior, 1)) (k : V G fr lo bc bs mi (pc + 1) lv (vi (ior a b) :: st) K M Z) : V G fr lo bc bs mi pc lv (vi b :: vi a :: st) K M Z := by
  intro p e s m args below meth c mc ms H locs ls cells slots C hR hS hL hE h1 h2
  refine lv_ior C.1 C.2.1 hd ?_
  have h := k p e s m args below meth c mc ms H locs ls cells slots C hR hS hL hE h1 h2
  rw [List.map_cons, show tv G (vi (ior a b)) = .int (i32 (ior a b)) from rfl, ior, i32_of] at h
  exact h
theorem v_ixor  {a b : Int} (hd : decode mi.2.1 pc = .ok (.ixor, 1)) (k : V G fr lo bc bs mi (pc + 1) lv (vi (ixor a b) :: st) K M Z) : V G fr lo bc bs mi pc lv (vi b :: vi a :: st) K M Z := by
  intro p e s m args below meth c mc ms H locs ls cells slots C hR hS hL hE h1 h2
  refine lv_ixor C.1 C.2.1 hd ?_
  have h := k p e s m args below meth c mc ms H locs ls cells slots C hR hS hL hE h1 h2
  rw [List.map_cons, show tv G (vi (ixor a b)) = .int (i32 (ixor a b)) from rfl, ixor, i32_of] at h
  exact h
theorem v_ishl  {a b : Int} (hd : decode mi.2.1 pc = .ok (.ishl, 1)) (k : V G fr lo bc bs mi (pc + 1) lv (vi (ishl a b) :: st) K M Z) : V G fr lo bc bs mi pc lv (vi b :: vi a :: st) K M Z := by
  intro p e s m args below meth c mc ms H locs ls cells slots C hR hS hL hE h1 h2
  refine lv_ishl C.1 C.2.1 hd ?_
  have h := k p e s m args below meth c mc ms H locs ls cells slots C hR hS hL hE h1 h2
  rw [List.map_cons, show tv G (vi (ishl a b)) = .int (i32 (ishl a b)) from rfl, ishl, i32_of] at h
  exact h
theorem v_ishr  {a b : Int} (hd : decode mi.2.1 pc = .ok (.ishr, 1)) (k : V G fr lo bc bs mi (pc + 1) lv (vi (ishr a b) :: st) K M Z) : V G fr lo bc bs mi pc lv (vi b :: vi a :: st) K M Z := by
  intro p e s m args below meth c mc ms H locs ls cells slots C hR hS hL hE h1 h2
  refine lv_ishr C.1 C.2.1 hd ?_
  have h := k p e s m args below meth c mc ms H locs ls cells slots C hR hS hL hE h1 h2
  rw [List.map_cons, show tv G (vi (ishr a b)) = .int (i32 (ishr a b)) from rfl, ishr, i32_of] at h
  exact h
theorem v_lor  {a b : Int} (hd : decode mi.2.1 pc = .ok (.lor, 1)) (k : V G fr lo bc bs mi (pc + 1) lv (vl (lorr a b) :: st) K M Z) : V G fr lo bc bs mi pc lv (vl b :: vl a :: st) K M Z := by
  intro p e s m args below meth c mc ms H locs ls cells slots C hR hS hL hE h1 h2
  refine lv_lor C.1 C.2.1 hd ?_
  have h := k p e s m args below meth c mc ms H locs ls cells slots C hR hS hL hE h1 h2
  rw [List.map_cons, show tv G (vl (lorr a b)) = .long (i64 (lorr a b)) from rfl, lorr, i64_of] at h
  exact h
theorem v_idiv  {a b : Int} (hd : decode mi.2.1 pc = .ok (.idiv, 1)) (hb : rng b) (h0 : b ≠ 0) (k : V G fr lo bc bs mi (pc + 1) lv (vi (idiv a b) :: st) K M Z) : V G fr lo bc bs mi pc lv (vi b :: vi a :: st) K M Z := by
  intro p e s m args below meth c mc ms H locs ls cells slots C hR hS hL hE h1 h2
  refine lv_idiv C.1 C.2.1 hd (fun z => h0 ((i32_eq hb (by omega)).mp z)) ?_
  have h := k p e s m args below meth c mc ms H locs ls cells slots C hR hS hL hE h1 h2
  rw [List.map_cons, show tv G (vi (idiv a b)) = .int (i32 (idiv a b)) from rfl, idiv, i32_of] at h
  exact h
theorem v_irem  {a b : Int} (hd : decode mi.2.1 pc = .ok (.irem, 1)) (hb : rng b) (h0 : b ≠ 0) (k : V G fr lo bc bs mi (pc + 1) lv (vi (a - idiv a b * b) :: st) K M Z) : V G fr lo bc bs mi pc lv (vi b :: vi a :: st) K M Z := by
  intro p e s m args below meth c mc ms H locs ls cells slots C hR hS hL hE h1 h2
  refine lv_irem C.1 C.2.1 hd (fun z => h0 ((i32_eq hb (by omega)).mp z)) ?_
  have h := k p e s m args below meth c mc ms H locs ls cells slots C hR hS hL hE h1 h2
  rw [List.map_cons, show tv G (vi (a - idiv a b * b)) = .int (i32 (a - idiv a b * b)) from rfl, i32_sub, i32_mul, idiv, i32_of] at h
  exact h
theorem v_ldiv  {a b : Int} (hd : decode mi.2.1 pc = .ok (.ldiv, 1)) (hb : rnl b) (h0 : b ≠ 0) (k : V G fr lo bc bs mi (pc + 1) lv (vl (ldiv a b) :: st) K M Z) : V G fr lo bc bs mi pc lv (vl b :: vl a :: st) K M Z := by
  intro p e s m args below meth c mc ms H locs ls cells slots C hR hS hL hE h1 h2
  refine lv_ldiv C.1 C.2.1 hd (fun z => h0 ((i64_eq hb (by omega)).mp z)) ?_
  have h := k p e s m args below meth c mc ms H locs ls cells slots C hR hS hL hE h1 h2
  rw [List.map_cons, show tv G (vl (ldiv a b)) = .long (i64 (ldiv a b)) from rfl, ldiv, i64_of] at h
  exact h
theorem v_iushr  {a b : Int} (hd : decode mi.2.1 pc = .ok (.iushr, 1)) (k : V G fr lo bc bs mi (pc + 1) lv (vi (iushr a b) :: st) K M Z) : V G fr lo bc bs mi pc lv (vi b :: vi a :: st) K M Z := by
  intro p e s m args below meth c mc ms H locs ls cells slots C hR hS hL hE h1 h2
  exact lv_iushr (v := i32 (iushr a b)) C.1 C.2.1 hd (by rw [iushr, i32_of]) (k p e s m args below meth c mc ms H locs ls cells slots C hR hS hL hE h1 h2)
theorem v_lshl  {a b : Int} (hd : decode mi.2.1 pc = .ok (.lshl, 1)) (k : V G fr lo bc bs mi (pc + 1) lv (vl (lshl a b) :: st) K M Z) : V G fr lo bc bs mi pc lv (vi b :: vl a :: st) K M Z := by
  intro p e s m args below meth c mc ms H locs ls cells slots C hR hS hL hE h1 h2
  exact lv_lshl (v := i64 (lshl a b)) C.1 C.2.1 hd (by rw [lshl, i64_of]) (k p e s m args below meth c mc ms H locs ls cells slots C hR hS hL hE h1 h2)
theorem v_ineg  {a : Int} (hd : decode mi.2.1 pc = .ok (.ineg, 1)) (k : V G fr lo bc bs mi (pc + 1) lv (vi (-a) :: st) K M Z) : V G fr lo bc bs mi pc lv (vi a :: st) K M Z := by
  intro p e s m args below meth c mc ms H locs ls cells slots C hR hS hL hE h1 h2
  refine lv_ineg C.1 C.2.1 hd ?_
  have h := k p e s m args below meth c mc ms H locs ls cells slots C hR hS hL hE h1 h2
  rw [List.map_cons, show tv G (vi (-a)) = .int (i32 (-a)) from rfl, i32_neg] at h
  exact h
theorem v_lneg  {a : Int} (hd : decode mi.2.1 pc = .ok (.lneg, 1)) (k : V G fr lo bc bs mi (pc + 1) lv (vl (-a) :: st) K M Z) : V G fr lo bc bs mi pc lv (vl a :: st) K M Z := by
  intro p e s m args below meth c mc ms H locs ls cells slots C hR hS hL hE h1 h2
  refine lv_lneg C.1 C.2.1 hd ?_
  have h := k p e s m args below meth c mc ms H locs ls cells slots C hR hS hL hE h1 h2
  rw [List.map_cons, show tv G (vl (-a)) = .long (i64 (-a)) from rfl, i64_neg] at h
  exact h
theorem v_i2l  {a : Int} (hd : decode mi.2.1 pc = .ok (.i2l, 1)) (ha : rng a) (k : V G fr lo bc bs mi (pc + 1) lv (vl a :: st) K M Z) : V G fr lo bc bs mi pc lv (vi a :: st) K M Z := by
  intro p e s m args below meth c mc ms H locs ls cells slots C hR hS hL hE h1 h2
  exact lv_i2l (v := i64 a) C.1 C.2.1 hd (by rw [← Int64.toInt_inj, Int32.toInt_toInt64, i32_toInt ha, i64_toInt (by omega)]) (k p e s m args below meth c mc ms H locs ls cells slots C hR hS hL hE h1 h2)
theorem v_l2i  {a : Int} (hd : decode mi.2.1 pc = .ok (.l2i, 1)) (k : V G fr lo bc bs mi (pc + 1) lv (vi a :: st) K M Z) : V G fr lo bc bs mi pc lv (vl a :: st) K M Z := by
  intro p e s m args below meth c mc ms H locs ls cells slots C hR hS hL hE h1 h2
  exact lv_l2i (v := i32 a) C.1 C.2.1 hd Int64.toInt32_ofInt (k p e s m args below meth c mc ms H locs ls cells slots C hR hS hL hE h1 h2)
theorem v_i2b  {a : Int} (hd : decode mi.2.1 pc = .ok (.i2b, 1)) (k : V G fr lo bc bs mi (pc + 1) lv (vi (i2b a) :: st) K M Z) : V G fr lo bc bs mi pc lv (vi a :: st) K M Z := by
  intro p e s m args below meth c mc ms H locs ls cells slots C hR hS hL hE h1 h2
  exact lv_i2b (v := i32 (i2b a)) C.1 C.2.1 hd (by rw [i2b, i32_of]) (k p e s m args below meth c mc ms H locs ls cells slots C hR hS hL hE h1 h2)
theorem v_i2c  {a : Int} (hd : decode mi.2.1 pc = .ok (.i2c, 1)) (k : V G fr lo bc bs mi (pc + 1) lv (vi (i2c a) :: st) K M Z) : V G fr lo bc bs mi pc lv (vi a :: st) K M Z := by
  intro p e s m args below meth c mc ms H locs ls cells slots C hR hS hL hE h1 h2
  exact lv_i2c (v := i32 (i2c a)) C.1 C.2.1 hd (by rw [i2c, i32_of]) (k p e s m args below meth c mc ms H locs ls cells slots C hR hS hL hE h1 h2)
theorem v_dupi  {a : Int} (hd : decode mi.2.1 pc = .ok (.dup, 1)) (k : V G fr lo bc bs mi (pc + 1) lv (vi a :: vi a :: st) K M Z) : V G fr lo bc bs mi pc lv (vi a :: st) K M Z := by
  intro p e s m args below meth c mc ms H locs ls cells slots C hR hS hL hE h1 h2
  exact lv_dup C.1 C.2.1 hd rfl (k p e s m args below meth c mc ms H locs ls cells slots C hR hS hL hE h1 h2)
theorem v_dupr  {a : Nat} (hd : decode mi.2.1 pc = .ok (.dup, 1)) (k : V G fr lo bc bs mi (pc + 1) lv (vr a :: vr a :: st) K M Z) : V G fr lo bc bs mi pc lv (vr a :: st) K M Z := by
  intro p e s m args below meth c mc ms H locs ls cells slots C hR hS hL hE h1 h2
  exact lv_dup C.1 C.2.1 hd rfl (k p e s m args below meth c mc ms H locs ls cells slots C hR hS hL hE h1 h2)
theorem v_popi  {a : Int} (hd : decode mi.2.1 pc = .ok (.pop, 1)) (k : V G fr lo bc bs mi (pc + 1) lv st K M Z) : V G fr lo bc bs mi pc lv (vi a :: st) K M Z := by
  intro p e s m args below meth c mc ms H locs ls cells slots C hR hS hL hE h1 h2
  exact lv_pop C.1 C.2.1 hd rfl (k p e s m args below meth c mc ms H locs ls cells slots C hR hS hL hE h1 h2)
theorem v_dup2ir  {a : Int} {b : Nat} (hd : decode mi.2.1 pc = .ok (.dup2, 1)) (k : V G fr lo bc bs mi (pc + 1) lv (vi a :: vr b :: vi a :: vr b :: st) K M Z) : V G fr lo bc bs mi pc lv (vi a :: vr b :: st) K M Z := by
  intro p e s m args below meth c mc ms H locs ls cells slots C hR hS hL hE h1 h2
  exact lv_dup2_11 C.1 C.2.1 hd rfl rfl (k p e s m args below meth c mc ms H locs ls cells slots C hR hS hL hE h1 h2)
theorem v_icmp_eq  {a b off : Int} {tgt : Nat} (hd : decode mi.2.1 pc = .ok (.if_icmp .eq off, 3)) (ht : (pc : Int) + off = (tgt : Int)) (ha : rng a) (hb : rng b) (kt : a = b → V G fr lo bc bs mi tgt lv st K M Z) (kf : ¬ (a = b) → V G fr lo bc bs mi (pc + 3) lv st K M Z) : V G fr lo bc bs mi pc lv (vi b :: vi a :: st) K M Z := by
  intro p e s m args below meth c mc ms H locs ls cells slots C hR hS hL hE h1 h2
  exact lv_icmp_eq C.1 C.2.1 hd ht (fun q => kt ((i32_eq ha hb).mp q) p e s m args below meth c mc ms H locs ls cells slots C hR hS hL hE h1 h2) (fun q => kf (fun z => q ((i32_eq ha hb).mpr z)) p e s m args below meth c mc ms H locs ls cells slots C hR hS hL hE h1 h2)
theorem v_if_eq  {a off : Int} {tgt : Nat} (hd : decode mi.2.1 pc = .ok (.ifCond .eq off, 3)) (ht : (pc : Int) + off = (tgt : Int)) (ha : rng a) (kt : a = 0 → V G fr lo bc bs mi tgt lv st K M Z) (kf : ¬ (a = 0) → V G fr lo bc bs mi (pc + 3) lv st K M Z) : V G fr lo bc bs mi pc lv (vi a :: st) K M Z := by
  intro p e s m args below meth c mc ms H locs ls cells slots C hR hS hL hE h1 h2
  exact lv_if_eq C.1 C.2.1 hd ht (fun q => kt ((i32_eq ha (by omega : rng 0)).mp q) p e s m args below meth c mc ms H locs ls cells slots C hR hS hL hE h1 h2) (fun q => kf (fun z => q ((i32_eq ha (by omega : rng 0)).mpr z)) p e s m args below meth c mc ms H locs ls cells slots C hR hS hL hE h1 h2)
theorem v_icmp_ne  {a b off : Int} {tgt : Nat} (hd : decode mi.2.1 pc = .ok (.if_icmp .ne off, 3)) (ht : (pc : Int) + off = (tgt : Int)) (ha : rng a) (hb : rng b) (kt : ¬ a = b → V G fr lo bc bs mi tgt lv st K M Z) (kf : a = b → V G fr lo bc bs mi (pc + 3) lv st K M Z) : V G fr lo bc bs mi pc lv (vi b :: vi a :: st) K M Z := by
  intro p e s m args below meth c mc ms H locs ls cells slots C hR hS hL hE h1 h2
  exact lv_icmp_ne C.1 C.2.1 hd ht (fun q => kt (fun z => q ((i32_eq ha hb).mpr z)) p e s m args below meth c mc ms H locs ls cells slots C hR hS hL hE h1 h2) (fun q => kf ((i32_eq ha hb).mp q) p e s m args below meth c mc ms H locs ls cells slots C hR hS hL hE h1 h2)
theorem v_if_ne  {a off : Int} {tgt : Nat} (hd : decode mi.2.1 pc = .ok (.ifCond .ne off, 3)) (ht : (pc : Int) + off = (tgt : Int)) (ha : rng a) (kt : ¬ a = 0 → V G fr lo bc bs mi tgt lv st K M Z) (kf : a = 0 → V G fr lo bc bs mi (pc + 3) lv st K M Z) : V G fr lo bc bs mi pc lv (vi a :: st) K M Z := by
  intro p e s m args below meth c mc ms H locs ls cells slots C hR hS hL hE h1 h2
  exact lv_if_ne C.1 C.2.1 hd ht (fun q => kt (fun z => q ((i32_eq ha (by omega : rng 0)).mpr z)) p e s m args below meth c mc ms H locs ls cells slots C hR hS hL hE h1 h2) (fun q => kf ((i32_eq ha (by omega : rng 0)).mp q) p e s m args below meth c mc ms H locs ls cells slots C hR hS hL hE h1 h2)
theorem v_icmp_lt  {a b off : Int} {tgt : Nat} (hd : decode mi.2.1 pc = .ok (.if_icmp .lt off, 3)) (ht : (pc : Int) + off = (tgt : Int)) (ha : rng a) (hb : rng b) (kt : a < b → V G fr lo bc bs mi tgt lv st K M Z) (kf : ¬ (a < b) → V G fr lo bc bs mi (pc + 3) lv st K M Z) : V G fr lo bc bs mi pc lv (vi b :: vi a :: st) K M Z := by
  intro p e s m args below meth c mc ms H locs ls cells slots C hR hS hL hE h1 h2
  exact lv_icmp_lt C.1 C.2.1 hd ht (fun q => kt ((i32_lt ha hb).mp q) p e s m args below meth c mc ms H locs ls cells slots C hR hS hL hE h1 h2) (fun q => kf (fun z => q ((i32_lt ha hb).mpr z)) p e s m args below meth c mc ms H locs ls cells slots C hR hS hL hE h1 h2)
theorem v_if_lt  {a off : Int} {tgt : Nat} (hd : decode mi.2.1 pc = .ok (.ifCond .lt off, 3)) (ht : (pc : Int) + off = (tgt : Int)) (ha : rng a) (kt : a < 0 → V G fr lo bc bs mi tgt lv st K M Z) (kf : ¬ (a < 0) → V G fr lo bc bs mi (pc + 3) lv st K M Z) : V G fr lo bc bs mi pc lv (vi a :: st) K M Z := by
  intro p e s m args below meth c mc ms H locs ls cells slots C hR hS hL hE h1 h2
  exact lv_if_lt C.1 C.2.1 hd ht (fun q => kt ((i32_lt ha (by omega : rng 0)).mp q) p e s m args below meth c mc ms H locs ls cells slots C hR hS hL hE h1 h2) (fun q => kf (fun z => q ((i32_lt ha (by omega : rng 0)).mpr z)) p e s m args below meth c mc ms H locs ls cells slots C hR hS hL hE h1 h2)
theorem v_icmp_ge  {a b off : Int} {tgt : Nat} (hd : decode mi.2.1 pc = .ok (.if_icmp .ge off, 3)) (ht : (pc : Int) + off = (tgt : Int)) (ha : rng a) (hb : rng b) (kt : b ≤ a → V G fr lo bc bs mi tgt lv st K M Z) (kf : ¬ (b ≤ a) → V G fr lo bc bs mi (pc + 3) lv st K M Z) : V G fr lo bc bs mi pc lv (vi b :: vi a :: st) K M Z := by
  intro p e s m args below meth c mc ms H locs ls cells slots C hR hS hL hE h1 h2
  exact lv_icmp_ge C.1 C.2.1 hd ht (fun q => kt ((i32_le hb ha).mp q) p e s m args below meth c mc ms H locs ls cells slots C hR hS hL hE h1 h2) (fun q => kf (fun z => q ((i32_le hb ha).mpr z)) p e s m args below meth c mc ms H locs ls cells slots C hR hS hL hE h1 h2)
theorem v_if_ge  {a off : Int} {tgt : Nat} (hd : decode mi.2.1 pc = .ok (.ifCond .ge off, 3)) (ht : (pc : Int) + off = (tgt : Int)) (ha : rng a) (kt : 0 ≤ a → V G fr lo bc bs mi tgt lv st K M Z) (kf : ¬ (0 ≤ a) → V G fr lo bc bs mi (pc + 3) lv st K M Z) : V G fr lo bc bs mi pc lv (vi a :: st) K M Z := by
  intro p e s m args below meth c mc ms H locs ls cells slots C hR hS hL hE h1 h2
  exact lv_if_ge C.1 C.2.1 hd ht (fun q => kt ((i32_le (by omega : rng 0) ha).mp q) p e s m args below meth c mc ms H locs ls cells slots C hR hS hL hE h1 h2) (fun q => kf (fun z => q ((i32_le (by omega : rng 0) ha).mpr z)) p e s m args below meth c mc ms H locs ls cells slots C hR hS hL hE h1 h2)
theorem v_icmp_gt  {a b off : Int} {tgt : Nat} (hd : decode mi.2.1 pc = .ok (.if_icmp .gt off, 3)) (ht : (pc : Int) + off = (tgt : Int)) (ha : rng a) (hb : rng b) (kt : b < a → V G fr lo bc bs mi tgt lv st K M Z) (kf : ¬ (b < a) → V G fr lo bc bs mi (pc + 3) lv st K M Z) : V G fr lo bc bs mi pc lv (vi b :: vi a :: st) K M Z := by
  intro p e s m args below meth c mc ms H locs ls cells slots C hR hS hL hE h1 h2
  exact lv_icmp_gt C.1 C.2.1 hd ht (fun q => kt ((i32_lt hb ha).mp q) p e s m args below meth c mc ms H locs ls cells slots C hR hS hL hE h1 h2) (fun q => kf (fun z => q ((i32_lt hb ha).mpr z)) p e s m args below meth c mc ms H locs ls cells slots C hR hS hL hE h1 h2)
theorem v_if_gt  {a off : Int} {tgt : Nat} (hd : decode mi.2.1 pc = .ok (.ifCond .gt off, 3)) (ht : (pc : Int) + off = (tgt : Int)) (ha : rng a) (kt : 0 < a → V G fr lo bc bs mi tgt lv st K M Z) (kf : ¬ (0 < a) → V G fr lo bc bs mi (pc + 3) lv st K M Z) : V G fr lo bc bs mi pc lv (vi a :: st) K M Z := by
  intro p e s m args below meth c mc ms H locs ls cells slots C hR hS hL hE h1 h2
  exact lv_if_gt C.1 C.2.1 hd ht (fun q => kt ((i32_lt (by omega : rng 0) ha).mp q) p e s m args below meth c mc ms H locs ls cells slots C hR hS hL hE h1 h2) (fun q => kf (fun z => q ((i32_lt (by omega : rng 0) ha).mpr z)) p e s m args below meth c mc ms H locs ls cells slots C hR hS hL hE h1 h2)
theorem v_icmp_le  {a b off : Int} {tgt : Nat} (hd : decode mi.2.1 pc = .ok (.if_icmp .le off, 3)) (ht : (pc : Int) + off = (tgt : Int)) (ha : rng a) (hb : rng b) (kt : a ≤ b → V G fr lo bc bs mi tgt lv st K M Z) (kf : ¬ (a ≤ b) → V G fr lo bc bs mi (pc + 3) lv st K M Z) : V G fr lo bc bs mi pc lv (vi b :: vi a :: st) K M Z := by
  intro p e s m args below meth c mc ms H locs ls cells slots C hR hS hL hE h1 h2
  exact lv_icmp_le C.1 C.2.1 hd ht (fun q => kt ((i32_le ha hb).mp q) p e s m args below meth c mc ms H locs ls cells slots C hR hS hL hE h1 h2) (fun q => kf (fun z => q ((i32_le ha hb).mpr z)) p e s m args below meth c mc ms H locs ls cells slots C hR hS hL hE h1 h2)
theorem v_if_le  {a off : Int} {tgt : Nat} (hd : decode mi.2.1 pc = .ok (.ifCond .le off, 3)) (ht : (pc : Int) + off = (tgt : Int)) (ha : rng a) (kt : a ≤ 0 → V G fr lo bc bs mi tgt lv st K M Z) (kf : ¬ (a ≤ 0) → V G fr lo bc bs mi (pc + 3) lv st K M Z) : V G fr lo bc bs mi pc lv (vi a :: st) K M Z := by
  intro p e s m args below meth c mc ms H locs ls cells slots C hR hS hL hE h1 h2
  exact lv_if_le C.1 C.2.1 hd ht (fun q => kt ((i32_le ha (by omega : rng 0)).mp q) p e s m args below meth c mc ms H locs ls cells slots C hR hS hL hE h1 h2) (fun q => kf (fun z => q ((i32_le ha (by omega : rng 0)).mpr z)) p e s m args below meth c mc ms H locs ls cells slots C hR hS hL hE h1 h2)
theorem v_goto  {off : Int} {tgt : Nat} (hd : decode mi.2.1 pc = .ok (.goto off, 3)) (ht : (pc : Int) + off = (tgt : Int)) (k : V G fr lo bc bs mi tgt lv st K M Z) : V G fr lo bc bs mi pc lv st K M Z := by
  intro p e s m args below meth c mc ms H locs ls cells slots C hR hS hL hE h1 h2
  exact lv_goto C.1 C.2.1 hd ht (k p e s m args below meth c mc ms H locs ls cells slots C hR hS hL hE h1 h2)
theorem v_tableOut  {dflt l h : Int} {offs : Array Int} {len tgt : Nat} {z : Int} (hd : decode mi.2.1 pc = .ok (.tableswitch dflt l h offs, len)) (hz : rng z) (q : z < l ∨ h < z) (ht : (pc : Int) + dflt = (tgt : Int)) (k : V G fr lo bc bs mi tgt lv st K M Z) : V G fr lo bc bs mi pc lv (vi z :: st) K M Z := by
  intro p e s m args below meth c mc ms H locs ls cells slots C hR hS hL hE h1 h2
  exact lv_tableOut C.1 C.2.1 hd (by rw [i32_toInt hz]; exact q) ht (k p e s m args below meth c mc ms H locs ls cells slots C hR hS hL hE h1 h2)
theorem v_tableIn  {dflt l h off : Int} {offs : Array Int} {len tgt : Nat} {z : Int} (hd : decode mi.2.1 pc = .ok (.tableswitch dflt l h offs, len)) (hz : rng z) (q1 : l ≤ z) (q2 : z ≤ h) (ho : offs[(z - l).toNat]? = some off) (ht : (pc : Int) + off = (tgt : Int)) (k : V G fr lo bc bs mi tgt lv st K M Z) : V G fr lo bc bs mi pc lv (vi z :: st) K M Z := by
  intro p e s m args below meth c mc ms H locs ls cells slots C hR hS hL hE h1 h2
  exact lv_tableIn C.1 C.2.1 hd (by rw [i32_toInt hz]; omega) (by rw [i32_toInt hz]; omega) (by rw [i32_toInt hz]; exact ho) ht (k p e s m args below meth c mc ms H locs ls cells slots C hR hS hL hE h1 h2)
end GeRules
end
section
/-! ===== memory ===== -/
def upm (m : Nat → Nat → Int) (c k : Nat) (z : Int) : Nat → Nat → Int := fun a b => if a = c ∧ b = k then z else m a b
def upr (r : Nat → Nat → Option Nat) (c k : Nat) (z : Option Nat) : Nat → Nat → Option Nat := fun a b => if a = c ∧ b = k then z else r a b
def cpm (m : Nat → Nat → Int) (c0 sp c1 dp n : Nat) : Nat → Nat → Int := fun a b => if a = c1 ∧ dp ≤ b ∧ b < dp + n then m c0 (sp + (b - dp)) else m a b
def isI (ty : FieldType) : Bool := match ty with
  | .int => true
  | .boolean => true
  | .byte => true
  | .short => true
  | .char => true
  | _ => false
def isR (ty : FieldType) : Bool := match ty with
  | .object _ => true
  | .array _ => true
  | _ => false
def okT (ty : FieldType) : Bool := match ty with
  | .float => false
  | .double => false
  | _ => true
theorem fv_I {G : GG} {M : Mem} {c k : Nat} {ty : FieldType} (h : isI ty = true) : fv G M c k ty = .int (i32 (M.1 c k)) := by
  cases ty <;> first | rfl | cases h
theorem fv_R {G : GG} {M : Mem} {c k : Nat} {ty : FieldType} (h : isR ty = true) : fv G M c k ty = va_rf ((M.2 c k).map (rf G)) := by
  cases ty <;> first | rfl | cases h
theorem av_I {G : GG} {M : Mem} {c : Nat} {ty : FieldType} (h : isI ty = true) : av G M c ty = .inl (fun j => i32 (M.1 c j)) := by
  cases ty <;> first | rfl | cases h
def clsOK (ci : Nat) (C : String) (T : u_T) : Prop := vwCl[ci]? = some (C, T, NF ci) ∧ (∀ w ∈ u_ws C T (NF ci), w ∈ gtb) ∧ (∀ k, k < NF ci → parseFieldDescriptor (T k).2.2.1 = some (TYF ci k)) ∧ (∀ a, a < NF ci → ∀ b, b < NF ci → a ≠ b → (T a).2.1 ≠ (T b).2.1) ∧ (∀ k, k < NF ci → okT (TYF ci k) = true) ∧ Cond.instantiable C (NF ci) ∈ gtb ∧ Cond.initialized C ∈ gtb
def fldOK (own : String) (idx ci k : Nat) : Prop := ∃ (C : String) (T : u_T), clsOK ci C T ∧ k < NF ci ∧ Cond.fieldLink own idx (T k).1 (T k).2.1 (T k).2.2.1 ∈ gtb
def fldW (own : String) (idx ci k : Nat) : Prop := ∃ (C : String) (T : u_T), clsOK ci C T ∧ k < NF ci ∧ Cond.fieldLink own idx (T k).1 (T k).2.1 (T k).2.2.1 ∈ gtb ∧ (T k).2.2.2 = false
def fldF (own : String) (idx ci k : Nat) : Prop := ∃ (C : String) (T : u_T), clsOK ci C T ∧ k < NF ci ∧ Cond.fieldLink own idx (T k).1 (T k).2.1 (T k).2.2.1 ∈ gtb ∧ (T k).2.2.2 = true ∧ (T k).1 = own
theorem rng_get {N k : Nat} (f : Nat → Value) (h : k < N) : ((List.range N).map f)[k]? = some (f k) := by rw [List.getElem?_map, List.getElem?_range h]; rfl
theorem rng_set {N k : Nat} {f g : Nat → Value} {v : Value} (h1 : g k = v) (h2 : ∀ j, j ≠ k → g j = f j) : ((List.range N).map f).set k v = (List.range N).map g := by
  apply List.ext_getElem?
  intro j
  by_cases hj : j < N
  · by_cases hjk : k = j
    · subst hjk
      rw [List.getElem?_set_self (by simpa using hj), rng_get _ hj, h1]
    · rw [List.getElem?_set_ne hjk, rng_get _ hj, rng_get _ hj, h2 j (fun z => hjk z.symm)]
  · rw [List.getElem?_eq_none (by simpa using hj), List.getElem?_eq_none (by simpa using hj)]
theorem cell_o {G : GG} {K : Nat} {M : Mem} {c ci : Nat} (hs : SH c = .inr ci) (hc : c < K) : (cw G K M)[c]? = some (gB G + c, .inr (ci, (List.range (NF ci)).map (fun k => fv G M c k (TYF ci k)))) := by
  rw [cw_get hc, cellE, hs]; rfl
theorem cell_a {G : GG} {K : Nat} {M : Mem} {c n : Nat} {ty : FieldType} (hs : SH c = .inl (ty, n)) (hc : c < K) : (cw G K M)[c]? = some (gB G + c, .inl (gA G ty, n, av G M c ty)) := by
  rw [cw_get hc, cellE, hs]; rfl
theorem st_r {G : GG} {K c : Nat} {st : List PV} (hc : c < K) (hK : K ≤ 900000) : (vr c :: st).map (tv G) = Value.ref (gB G + c) :: st.map (tv G) := by
  rw [List.map_cons, show tv G (vr c) = .ref (rf G c) from rfl, rf_cell hc hK]
/-- another memory, the same cells elsewhere -/
theorem cell_ne {G : GG} {M M' : Mem} {j : Nat} (h1 : ∀ k, M'.1 j k = M.1 j k) (h2 : ∀ k, M'.2 j k = M.2 j k) : cellE G M' j = cellE G M j := by
  have e1 : M'.1 j = M.1 j := funext h1
  have e2 : M'.2 j = M.2 j := funext h2
  unfold cellE cellS
  split
  · unfold av
    split <;> simp only [e1, e2]
  · unfold fv
    simp only [e1, e2]
theorem put_cell {G : GG} {M : Mem} {c k ci : Nat} {z : Int} (hs : SH c = .inr ci) (ht : isI (TYF ci k) = true) : cellE G (upm M.1 c k z, M.2) c = .inr (ci, ((List.range (NF ci)).map (fun j => fv G M c j (TYF ci j))).set k (.int (i32 z))) := by
  unfold cellE
  rw [hs]
  show Sum.inr (ci, _) = _
  rw [rng_set (g := fun j => fv G (upm M.1 c k z, M.2) c j (TYF ci j))]
  · show fv G (upm M.1 c k z, M.2) c k (TYF ci k) = _
    rw [fv_I ht]
    simp [upm]
  · intro j hj
    unfold fv
    simp [upm, hj]
theorem put_cellL {G : GG} {M : Mem} {c k ci : Nat} {z : Int} (hs : SH c = .inr ci) (ht : TYF ci k = .long) : cellE G (upm M.1 c k z, M.2) c = .inr (ci, ((List.range (NF ci)).map (fun j => fv G M c j (TYF ci j))).set k (.long (i64 z))) := by
  unfold cellE
  rw [hs]
  show Sum.inr (ci, _) = _
  rw [rng_set (g := fun j => fv G (upm M.1 c k z, M.2) c j (TYF ci j))]
  · show fv G (upm M.1 c k z, M.2) c k (TYF ci k) = _
    rw [ht]
    simp [fv, upm]
  · intro j hj
    unfold fv
    simp [upm, hj]
theorem put_cellR {G : GG} {M : Mem} {c k ci : Nat} {z : Option Nat} (hs : SH c = .inr ci) (ht : isR (TYF ci k) = true) : cellE G (M.1, upr M.2 c k z) c = .inr (ci, ((List.range (NF ci)).map (fun j => fv G M c j (TYF ci j))).set k (va_rf (z.map (rf G)))) := by
  unfold cellE
  rw [hs]
  show Sum.inr (ci, _) = _
  rw [rng_set (g := fun j => fv G (M.1, upr M.2 c k z) c j (TYF ci j))]
  · show fv G (M.1, upr M.2 c k z) c k (TYF ci k) = _
    rw [fv_R ht]
    simp [upr]
  · intro j hj
    unfold fv
    simp [upr, hj]
theorem upm_ne {m : Nat → Nat → Int} {c k j : Nat} {z : Int} (h : j ≠ c) (b : Nat) : upm m c k z j b = m j b := by simp [upm, h]
theorem upr_ne {m : Nat → Nat → Option Nat} {c k j : Nat} {z : Option Nat} (h : j ≠ c) (b : Nat) : upr m c k z j b = m j b := by simp [upr, h]
theorem arr_cell {G : GG} {M : Mem} {c n j : Nat} {z : Int} {x : Int32} {ty : FieldType} (hs : SH c = .inl (ty, n)) (ht : isI ty = true) (hx : x = i32 z) : cellE G (upm M.1 c j z, M.2) c = .inl (gA G ty, n, .inl (upd (fun j => i32 (M.1 c j)) j x)) := by
  unfold cellE
  rw [hs]
  show Sum.inl (gA G ty, n, av G _ c ty) = _
  rw [av_I ht, hx]
  congr 4
  funext q
  by_cases hq : q = j
  · simp [upm, upd, hq]
  · simp [upm, upd, hq]
theorem arr_cellL {G : GG} {M : Mem} {c n j : Nat} {z : Int} (hs : SH c = .inl (.long, n)) : cellE G (upm M.1 c j z, M.2) c = .inl (gA G .long, n, .inr (.inl (vp_updL (fun j => i64 (M.1 c j)) j (i64 z)))) := by
  unfold cellE
  rw [hs]
  show Sum.inl (gA G .long, n, Sum.inr (Sum.inl (fun q => i64 (upm M.1 c j z c q)))) = _
  congr 5
  funext q
  by_cases hq : q = j
  · simp [upm, vp_updL, hq]
  · simp [upm, vp_updL, hq]
theorem arr_cellR {G : GG} {M : Mem} {c n j t : Nat} {C : String} (hs : SH c = .inl (.object C, n)) : cellE G (M.1, upr M.2 c j (some t)) c = .inl (gA G (.object C), n, .inr (.inr (.inr (.inr (va_up (fun j => (M.2 c j).map (rf G)) j (some (rf G t))))))) := by
  unfold cellE
  rw [hs]
  show Sum.inl (gA G (.object C), n, Sum.inr (Sum.inr (Sum.inr (Sum.inr (fun q => (upr M.2 c j (some t) c q).map (rf G)))))) = _
  congr 7
  funext q
  by_cases hq : q = j
  · simp [upr, va_up, hq]
  · simp [upr, va_up, hq]
theorem cpy_cell {G : GG} {M : Mem} {c0 sp c1 dp n n1 : Nat} (hs : SH c1 = .inl (.int, n1)) : cellE G (cpm M.1 c0 sp c1 dp n, M.2) c1 = .inl (gA G .int, n1, .inl (va_cpy (fun j => i32 (M.1 c0 j)) (fun j => i32 (M.1 c1 j)) sp dp n)) := by
  unfold cellE
  rw [hs]
  show Sum.inl (gA G .int, n1, Sum.inl (fun q => i32 (cpm M.1 c0 sp c1 dp n c1 q))) = _
  congr 4
  funext q
  unfold va_cpy cpm
  by_cases hq : dp ≤ q ∧ q < dp + n
  · simp [hq]
  · simp [hq]
/-- the heap's size, out of what the method has made -/
theorem W.sized {p : Program} {l : Launch} {e : Env} {R : Room} {s : State} {m : MethodId} {args : Array Value} {below : List Frame} {meth : Method} {c : Code} {H : Heap} {locs : List Loc} {cells slots : Nat} {Q : State → Prop} {g : JFrame} (k : H.size ≤ s.heap.size + cells → W p l e R s m args below meth c H locs cells slots Q g) : W p l e R s m args below meth c H locs cells slots Q g := fun T hT X => k (by rw [← hT]; exact X.heapSize) T hT X
theorem Rep.ge {G : GG} {K : Nat} {M : Mem} {H : Heap} (h : Rep G K M H) (h0 : gB G ≤ H.size) : gB G + K ≤ H.size := by
  cases K with
  | zero => exact h0
  | succ n =>
    have h1 : gB G + n < H.size := (h.2 n _ (cw_get (Nat.lt_succ_self n))).lt
    omega
end
section
theorem shL_small : shL.all (fun s => match s with | .inl q => decide (q.2 < 100000) | .inr _ => true) = true := by decide +kernel
theorem sh_small {o n : Nat} {ty : FieldType} (h : SH o = .inl (ty, n)) : n < 2147483648 := by
  unfold SH at h
  cases hs : shL[o]? with
  | none =>
    rw [hs] at h
    cases h
    omega
  | some x =>
    rw [hs] at h
    have hx : x = .inl (ty, n) := h
    subst hx
    have h2 := List.all_eq_true.mp shL_small _ (List.mem_of_getElem? hs)
    have h3 : n < 100000 := of_decide_eq_true h2
    omega
section GeMem
variable {G : GG} {fr lo bc bs : Nat} {mi : MI} {pc : Nat} {lv : List (Option PV)} {st : List PV} {K : Nat} {M : Mem} {Z : ZZ}
theorem v_geti {i ci k o : Nat} (hd : decode mi.2.1 pc = .ok (.getfield i, 3)) (hf : fldOK mi.1.cls i ci k) (hs : SH o = .inr ci) (hc : o < K) (ht : isI (TYF ci k) = true) (kk : V G fr lo bc bs mi (pc + 3) lv (vi (M.1 o k) :: st) K M Z) : V G fr lo bc bs mi pc lv (vr o :: st) K M Z := by
  intro p e s m args below meth c mc ms H locs ls cells slots C hR hS hL hE h1 h2
  obtain ⟨C', T, ⟨q1, q2, -⟩, q5, q6⟩ := hf
  rw [st_r hc hR.1]
  exact va_get (D := gD G) (ci := ci) (v := .int (i32 (M.1 o k))) C.1 C.2.1 C.2.2.2.2.2.1 q2 C.2.2.2.2.1 C.2.2.2.2.2.2.2.2.1 hR.2 o (cell_o hs hc) q1 k q5 (C.2.2.2.2.2.1 _ q6) (fun _ h => h) (by rw [rng_get _ q5]; rw [fv_I ht]) hd (kk p e s m args below meth c mc ms H locs ls cells slots C hR hS hL hE h1 h2)
theorem v_getl {i ci k o : Nat} (hd : decode mi.2.1 pc = .ok (.getfield i, 3)) (hf : fldOK mi.1.cls i ci k) (hs : SH o = .inr ci) (hc : o < K) (ht : TYF ci k = .long) (kk : V G fr lo bc bs mi (pc + 3) lv (vl (M.1 o k) :: st) K M Z) : V G fr lo bc bs mi pc lv (vr o :: st) K M Z := by
  intro p e s m args below meth c mc ms H locs ls cells slots C hR hS hL hE h1 h2
  obtain ⟨C', T, ⟨q1, q2, -⟩, q5, q6⟩ := hf
  rw [st_r hc hR.1]
  exact va_get (D := gD G) (ci := ci) (v := .long (i64 (M.1 o k))) C.1 C.2.1 C.2.2.2.2.2.1 q2 C.2.2.2.2.1 C.2.2.2.2.2.2.2.2.1 hR.2 o (cell_o hs hc) q1 k q5 (C.2.2.2.2.2.1 _ q6) (fun _ h => h) (by rw [rng_get _ q5]; rw [ht]; rfl) hd (kk p e s m args below meth c mc ms H locs ls cells slots C hR hS hL hE h1 h2)
theorem v_getr {i ci k o : Nat} (hd : decode mi.2.1 pc = .ok (.getfield i, 3)) (hf : fldOK mi.1.cls i ci k) (hs : SH o = .inr ci) (hc : o < K) {t : Nat} (ht : isR (TYF ci k) = true) (hr : M.2 o k = some t) (kk : V G fr lo bc bs mi (pc + 3) lv (vr t :: st) K M Z) : V G fr lo bc bs mi pc lv (vr o :: st) K M Z := by
  intro p e s m args below meth c mc ms H locs ls cells slots C hR hS hL hE h1 h2
  obtain ⟨C', T, ⟨q1, q2, -⟩, q5, q6⟩ := hf
  rw [st_r hc hR.1]
  exact va_get (D := gD G) (ci := ci) (v := .ref (rf G t)) C.1 C.2.1 C.2.2.2.2.2.1 q2 C.2.2.2.2.1 C.2.2.2.2.2.2.2.2.1 hR.2 o (cell_o hs hc) q1 k q5 (C.2.2.2.2.2.1 _ q6) (fun _ h => h) (by rw [rng_get _ q5]; rw [fv_R ht, hr]; rfl) hd (kk p e s m args below meth c mc ms H locs ls cells slots C hR hS hL hE h1 h2)
theorem v_puti {i ci k o : Nat} {z : Int} (hd : decode mi.2.1 pc = .ok (.putfield i, 3)) (hf : fldW mi.1.cls i ci k) (hs : SH o = .inr ci) (hc : o < K) (ht : TYF ci k = .int) (kk : V G fr lo bc bs mi (pc + 3) lv st K (upm M.1 o k z, M.2) Z) : V G fr lo bc bs mi pc lv (vi z :: vr o :: st) K M Z := by
  intro p e s m args below meth c mc ms H locs ls cells slots C hR hS hL hE h1 h2
  obtain ⟨C', T, ⟨q1, q2, q3, q4, -⟩, q5, q6, q7⟩ := hf
  rw [show (vi z :: vr o :: st).map (tv G) = .int (i32 z) :: Value.ref (gB G + o) :: st.map (tv G) from by rw [List.map_cons, st_r hc hR.1]; rfl]
  refine va_put (D := gD G) (ci := ci) (v := .int (i32 z)) (ty := TYF ci k) C.1 C.2.1 C.2.2.2.2.2.1 q2 (TYF ci) q3 q4 C.2.2.2.2.1 C.2.2.2.2.2.2.2.2.1 hR.2 cw_D hS o (cell_o hs hc) q1 k q5 (C.2.2.2.2.2.1 _ q6) (fun _ h => h) q7 (q3 k q5) (by rw [ht]; rfl) (by rw [ht]; rfl) (by simpa using q5) hd (fun H1 locs1 hP1 _ hS1 => kk p e s m args below meth c mc ms H1 locs1 ls cells slots C ⟨hR.1, ?_⟩ hS1 hL hE h1 h2)
  rw [cw_set (G := G) (K := K) (M := M) (M' := (upm M.1 o k z, M.2)) (e := .inr (ci, ((List.range (NF ci)).map (fun j => fv G M o j (TYF ci j))).set k (.int (i32 z)))) (put_cell hs (by rw [ht]; rfl)) (fun j hj => cell_ne (upm_ne hj) (fun _ => rfl))] at hP1
  exact hP1
theorem v_putr {i ci k o : Nat} {t : Nat} (hd : decode mi.2.1 pc = .ok (.putfield i, 3)) (hf : fldW mi.1.cls i ci k) (hs : SH o = .inr ci) (hc : o < K) (ht : isR (TYF ci k) = true) (kk : V G fr lo bc bs mi (pc + 3) lv st K (M.1, upr M.2 o k (some t)) Z) : V G fr lo bc bs mi pc lv (vr t :: vr o :: st) K M Z := by
  intro p e s m args below meth c mc ms H locs ls cells slots C hR hS hL hE h1 h2
  obtain ⟨C', T, ⟨q1, q2, q3, q4, -⟩, q5, q6, q7⟩ := hf
  rw [show (vr t :: vr o :: st).map (tv G) = .ref (rf G t) :: Value.ref (gB G + o) :: st.map (tv G) from by rw [List.map_cons, st_r hc hR.1]; rfl]
  refine va_put (D := gD G) (ci := ci) (v := .ref (rf G t)) (ty := TYF ci k) C.1 C.2.1 C.2.2.2.2.2.1 q2 (TYF ci) q3 q4 C.2.2.2.2.1 C.2.2.2.2.2.2.2.2.1 hR.2 cw_D hS o (cell_o hs hc) q1 k q5 (C.2.2.2.2.2.1 _ q6) (fun _ h => h) q7 (q3 k q5) (by cases hq : TYF ci k <;> first | rfl | (rw [hq] at ht; cases ht)) (by cases hq : TYF ci k <;> first | rfl | (rw [hq] at ht; cases ht)) (by simpa using q5) hd (fun H1 locs1 hP1 _ hS1 => kk p e s m args below meth c mc ms H1 locs1 ls cells slots C ⟨hR.1, ?_⟩ hS1 hL hE h1 h2)
  rw [cw_set (G := G) (K := K) (M := M) (M' := (M.1, upr M.2 o k (some t))) (e := .inr (ci, ((List.range (NF ci)).map (fun j => fv G M o j (TYF ci j))).set k (.ref (rf G t)))) (put_cellR (z := some t) hs ht) (fun j hj => cell_ne (fun _ => rfl) (upr_ne hj))] at hP1
  exact hP1
theorem v_putFi {i ci k o : Nat} {z : Int} (hd : decode mi.2.1 pc = .ok (.putfield i, 3)) (hf : fldF mi.1.cls i ci k) (hs : SH o = .inr ci) (hc : o < K) (hnm : mi.1.name = "<init>") (ht : TYF ci k = .int) (kk : V G fr lo bc bs mi (pc + 3) lv st K (upm M.1 o k z, M.2) Z) : V G fr lo bc bs mi pc lv (vi z :: vr o :: st) K M Z := by
  intro p e s m args below meth c mc ms H locs ls cells slots C hR hS hL hE h1 h2
  obtain ⟨C', T, ⟨q1, q2, q3, q4, -⟩, q5, q6, q7, q8⟩ := hf
  rw [show (vi z :: vr o :: st).map (tv G) = .int (i32 z) :: Value.ref (gB G + o) :: st.map (tv G) from by rw [List.map_cons, st_r hc hR.1]; rfl]
  refine va_putF (D := gD G) (ci := ci) (v := .int (i32 z)) (ty := TYF ci k) C.1 C.2.1 C.2.2.2.2.2.1 q2 (TYF ci) q3 q4 C.2.2.2.2.1 C.2.2.2.2.2.2.2.2.1 hR.2 cw_D hS o (cell_o hs hc) q1 k q5 (C.2.2.2.2.2.1 _ q6) (fun _ h => h) q7 (C.2.2.2.2.2.2.2.1 hnm) q8 (q3 k q5) (by rw [ht]; rfl) (by rw [ht]; rfl) (by simpa using q5) hd (fun H1 locs1 hP1 _ hS1 => kk p e s m args below meth c mc ms H1 locs1 ls cells slots C ⟨hR.1, ?_⟩ hS1 hL hE h1 h2)
  rw [cw_set (G := G) (K := K) (M := M) (M' := (upm M.1 o k z, M.2)) (e := .inr (ci, ((List.range (NF ci)).map (fun j => fv G M o j (TYF ci j))).set k (.int (i32 z)))) (put_cell hs (by rw [ht]; rfl)) (fun j hj => cell_ne (upm_ne hj) (fun _ => rfl))] at hP1
  exact hP1
theorem v_putFr {i ci k o : Nat} {t : Nat} (hd : decode mi.2.1 pc = .ok (.putfield i, 3)) (hf : fldF mi.1.cls i ci k) (hs : SH o = .inr ci) (hc : o < K) (hnm : mi.1.name = "<init>") (ht : isR (TYF ci k) = true) (kk : V G fr lo bc bs mi (pc + 3) lv st K (M.1, upr M.2 o k (some t)) Z) : V G fr lo bc bs mi pc lv (vr t :: vr o :: st) K M Z := by
  intro p e s m args below meth c mc ms H locs ls cells slots C hR hS hL hE h1 h2
  obtain ⟨C', T, ⟨q1, q2, q3, q4, -⟩, q5, q6, q7, q8⟩ := hf
  rw [show (vr t :: vr o :: st).map (tv G) = .ref (rf G t) :: Value.ref (gB G + o) :: st.map (tv G) from by rw [List.map_cons, st_r hc hR.1]; rfl]
  refine va_putF (D := gD G) (ci := ci) (v := .ref (rf G t)) (ty := TYF ci k) C.1 C.2.1 C.2.2.2.2.2.1 q2 (TYF ci) q3 q4 C.2.2.2.2.1 C.2.2.2.2.2.2.2.2.1 hR.2 cw_D hS o (cell_o hs hc) q1 k q5 (C.2.2.2.2.2.1 _ q6) (fun _ h => h) q7 (C.2.2.2.2.2.2.2.1 hnm) q8 (q3 k q5) (by cases hq : TYF ci k <;> first | rfl | (rw [hq] at ht; cases ht)) (by cases hq : TYF ci k <;> first | rfl | (rw [hq] at ht; cases ht)) (by simpa using q5) hd (fun H1 locs1 hP1 _ hS1 => kk p e s m args below meth c mc ms H1 locs1 ls cells slots C ⟨hR.1, ?_⟩ hS1 hL hE h1 h2)
  rw [cw_set (G := G) (K := K) (M := M) (M' := (M.1, upr M.2 o k (some t))) (e := .inr (ci, ((List.range (NF ci)).map (fun j => fv G M o j (TYF ci j))).set k (.ref (rf G t)))) (put_cellR (z := some t) hs ht) (fun j hj => cell_ne (fun _ => rfl) (upr_ne hj))] at hP1
  exact hP1
theorem v_putl {i ci k o : Nat} {z : Int} (hd : decode mi.2.1 pc = .ok (.putfield i, 3)) (hf : fldW mi.1.cls i ci k) (hs : SH o = .inr ci) (hc : o < K) (ht : TYF ci k = .long) (kk : V G fr lo bc bs mi (pc + 3) lv st K (upm M.1 o k z, M.2) Z) : V G fr lo bc bs mi pc lv (vl z :: vr o :: st) K M Z := by
  intro p e s m args below meth c mc ms H locs ls cells slots C hR hS hL hE h1 h2
  obtain ⟨C', T, ⟨q1, q2, q3, q4, -⟩, q5, q6, q7⟩ := hf
  rw [show (vl z :: vr o :: st).map (tv G) = .long (i64 z) :: Value.ref (gB G + o) :: st.map (tv G) from by rw [List.map_cons, st_r hc hR.1]; rfl]
  refine va_put (D := gD G) (ci := ci) (v := .long (i64 z)) (ty := TYF ci k) C.1 C.2.1 C.2.2.2.2.2.1 q2 (TYF ci) q3 q4 C.2.2.2.2.1 C.2.2.2.2.2.2.2.2.1 hR.2 cw_D hS o (cell_o hs hc) q1 k q5 (C.2.2.2.2.2.1 _ q6) (fun _ h => h) q7 (q3 k q5) (by rw [ht]; rfl) (by rw [ht]; rfl) (by simpa using q5) hd (fun H1 locs1 hP1 _ hS1 => kk p e s m args below meth c mc ms H1 locs1 ls cells slots C ⟨hR.1, ?_⟩ hS1 hL hE h1 h2)
  rw [cw_set (G := G) (K := K) (M := M) (M' := (upm M.1 o k z, M.2)) (e := .inr (ci, ((List.range (NF ci)).map (fun j => fv G M o j (TYF ci j))).set k (.long (i64 z)))) (put_cellL hs ht) (fun j hj => cell_ne (upm_ne hj) (fun _ => rfl))] at hP1
  exact hP1
theorem v_putz {i ci k o : Nat} {z : Int} (hd : decode mi.2.1 pc = .ok (.putfield i, 3)) (hf : fldW mi.1.cls i ci k) (hs : SH o = .inr ci) (hc : o < K) (ht : TYF ci k = .boolean) (hz : z = 0 ∨ z = 1) (kk : V G fr lo bc bs mi (pc + 3) lv st K (upm M.1 o k z, M.2) Z) : V G fr lo bc bs mi pc lv (vi z :: vr o :: st) K M Z := by
  intro p e s m args below meth c mc ms H locs ls cells slots C hR hS hL hE h1 h2
  obtain ⟨C', T, ⟨q1, q2, q3, q4, -⟩, q5, q6, q7⟩ := hf
  rw [show (vi z :: vr o :: st).map (tv G) = .int (i32 z) :: Value.ref (gB G + o) :: st.map (tv G) from by rw [List.map_cons, st_r hc hR.1]; rfl]
  refine va_put (D := gD G) (ci := ci) (v := .int (i32 z)) (ty := TYF ci k) C.1 C.2.1 C.2.2.2.2.2.1 q2 (TYF ci) q3 q4 C.2.2.2.2.1 C.2.2.2.2.2.2.2.2.1 hR.2 cw_D hS o (cell_o hs hc) q1 k q5 (C.2.2.2.2.2.1 _ q6) (fun _ h => h) q7 (q3 k q5) (by rw [ht]; rcases hz with rfl | rfl <;> rfl) (by rw [ht]; rcases hz with rfl | rfl <;> rfl) (by simpa using q5) hd (fun H1 locs1 hP1 _ hS1 => kk p e s m args below meth c mc ms H1 locs1 ls cells slots C ⟨hR.1, ?_⟩ hS1 hL hE h1 h2)
  rw [cw_set (G := G) (K := K) (M := M) (M' := (upm M.1 o k z, M.2)) (e := .inr (ci, ((List.range (NF ci)).map (fun j => fv G M o j (TYF ci j))).set k (.int (i32 z)))) (put_cell hs (by rw [ht]; rfl)) (fun j hj => cell_ne (upm_ne hj) (fun _ => rfl))] at hP1
  exact hP1
theorem v_iald {o n j : Nat} {z : Int} (hd : decode mi.2.1 pc = .ok (.iaload, 1)) (hs : SH o = .inl (.int, n)) (hc : o < K) (hz : z = (j : Int)) (hj : j < n) (kk : V G fr lo bc bs mi (pc + 1) lv (vi (M.1 o j) :: st) K M Z) : V G fr lo bc bs mi pc lv (vi z :: vr o :: st) K M Z := by
  intro p e s m args below meth c mc ms H locs ls cells slots C hR hS hL hE h1 h2
  subst hz
  have hn := sh_small hs
  rw [List.map_cons, st_r hc hR.1]
  refine va_iald (D := gD G) C.1 C.2.1 C.2.2.2.2.2.2.2.2.1 hR.2 o 0 (cell_a hs hc) rfl (i32_in hj hn) hd ?_
  have h := kk p e s m args below meth c mc ms H locs ls cells slots C hR hS hL hE h1 h2
  rw [i32_nat (by omega)]
  exact h
theorem v_bald {o n j : Nat} {z : Int} (hd : decode mi.2.1 pc = .ok (.baload, 1)) (hs : SH o = .inl (.byte, n)) (hc : o < K) (hz : z = (j : Int)) (hj : j < n) (kk : V G fr lo bc bs mi (pc + 1) lv (vi (M.1 o j) :: st) K M Z) : V G fr lo bc bs mi pc lv (vi z :: vr o :: st) K M Z := by
  intro p e s m args below meth c mc ms H locs ls cells slots C hR hS hL hE h1 h2
  subst hz
  have hn := sh_small hs
  rw [List.map_cons, st_r hc hR.1]
  refine va_bald (D := gD G) C.1 C.2.1 C.2.2.2.2.2.2.2.2.1 hR.2 o 1 (cell_a hs hc) rfl (i32_in hj hn) hd ?_
  have h := kk p e s m args below meth c mc ms H locs ls cells slots C hR hS hL hE h1 h2
  rw [i32_nat (by omega)]
  exact h
theorem v_lald {o n j : Nat} {z : Int} (hd : decode mi.2.1 pc = .ok (.laload, 1)) (hs : SH o = .inl (.long, n)) (hc : o < K) (hz : z = (j : Int)) (hj : j < n) (kk : V G fr lo bc bs mi (pc + 1) lv (vl (M.1 o j) :: st) K M Z) : V G fr lo bc bs mi pc lv (vi z :: vr o :: st) K M Z := by
  intro p e s m args below meth c mc ms H locs ls cells slots C hR hS hL hE h1 h2
  subst hz
  have hn := sh_small hs
  rw [List.map_cons, st_r hc hR.1]
  refine va_lald (D := gD G) C.1 C.2.1 C.2.2.2.2.2.2.2.2.1 hR.2 o 2 (cell_a hs hc) rfl (i32_in hj hn) hd ?_
  have h := kk p e s m args below meth c mc ms H locs ls cells slots C hR hS hL hE h1 h2
  rw [i32_nat (by omega)]
  exact h
theorem v_zald {o n j : Nat} {z : Int} (hd : decode mi.2.1 pc = .ok (.baload, 1)) (hs : SH o = .inl (.boolean, n)) (hc : o < K) (hz : z = (j : Int)) (hj : j < n) (kk : V G fr lo bc bs mi (pc + 1) lv (vi (M.1 o j) :: st) K M Z) : V G fr lo bc bs mi pc lv (vi z :: vr o :: st) K M Z := by
  intro p e s m args below meth c mc ms H locs ls cells slots C hR hS hL hE h1 h2
  subst hz
  have hn := sh_small hs
  rw [List.map_cons, st_r hc hR.1]
  refine va_zald (D := gD G) C.1 C.2.1 C.2.2.2.2.2.2.2.2.1 hR.2 o 3 (cell_a hs hc) rfl (i32_in hj hn) hd ?_
  have h := kk p e s m args below meth c mc ms H locs ls cells slots C hR hS hL hE h1 h2
  rw [i32_nat (by omega)]
  exact h
theorem v_aald4 {o n j t : Nat} {z : Int} (hd : decode mi.2.1 pc = .ok (.aaload, 1)) (hs : SH o = .inl (.object "GlassEyes$Court", n)) (hc : o < K) (hz : z = (j : Int)) (hj : j < n) (hr : M.2 o j = some t) (kk : V G fr lo bc bs mi (pc + 1) lv (vr t :: st) K M Z) : V G fr lo bc bs mi pc lv (vi z :: vr o :: st) K M Z := by
  intro p e s m args below meth c mc ms H locs ls cells slots C hR hS hL hE h1 h2
  subst hz
  have hn := sh_small hs
  rw [List.map_cons, st_r hc hR.1]
  refine va_aldq (D := gD G) (C := "GlassEyes$Court") C.1 C.2.1 C.2.2.2.2.2.2.2.2.1 hR.2 o 4 (cell_a hs hc) rfl (i32_in hj hn) hd ?_
  have h := kk p e s m args below meth c mc ms H locs ls cells slots C hR hS hL hE h1 h2
  rw [i32_nat (by omega)]
  show W _ _ _ _ _ _ _ _ _ _ _ _ _ _ _ (F0 m (pc + 1) ls (va_rf ((M.2 o j).map (rf G)) :: st.map (tv G)))
  rw [hr]
  exact h
theorem v_aald5 {o n j t : Nat} {z : Int} (hd : decode mi.2.1 pc = .ok (.aaload, 1)) (hs : SH o = .inl (.object "GlassEyes$Script", n)) (hc : o < K) (hz : z = (j : Int)) (hj : j < n) (hr : M.2 o j = some t) (kk : V G fr lo bc bs mi (pc + 1) lv (vr t :: st) K M Z) : V G fr lo bc bs mi pc lv (vi z :: vr o :: st) K M Z := by
  intro p e s m args below meth c mc ms H locs ls cells slots C hR hS hL hE h1 h2
  subst hz
  have hn := sh_small hs
  rw [List.map_cons, st_r hc hR.1]
  refine va_aldq (D := gD G) (C := "GlassEyes$Script") C.1 C.2.1 C.2.2.2.2.2.2.2.2.1 hR.2 o 5 (cell_a hs hc) rfl (i32_in hj hn) hd ?_
  have h := kk p e s m args below meth c mc ms H locs ls cells slots C hR hS hL hE h1 h2
  rw [i32_nat (by omega)]
  show W _ _ _ _ _ _ _ _ _ _ _ _ _ _ _ (F0 m (pc + 1) ls (va_rf ((M.2 o j).map (rf G)) :: st.map (tv G)))
  rw [hr]
  exact h
theorem v_iast {o n j : Nat} {x z : Int} (hd : decode mi.2.1 pc = .ok (.iastore, 1)) (hs : SH o = .inl (.int, n)) (hc : o < K) (hz : z = (j : Int)) (hj : j < n) (kk : V G fr lo bc bs mi (pc + 1) lv st K (upm M.1 o j (x), M.2) Z) : V G fr lo bc bs mi pc lv (vi x :: vi z :: vr o :: st) K M Z := by
  intro p e s m args below meth c mc ms H locs ls cells slots C hR hS hL hE h1 h2
  subst hz
  have hn := sh_small hs
  rw [List.map_cons, List.map_cons, st_r hc hR.1]
  refine va_iast (D := gD G) C.1 C.2.1 C.2.2.2.2.2.2.2.2.1 hR.2 cw_D hS o 0 (cell_a hs hc) rfl (i32_in hj hn) hd (fun H1 locs1 hP1 _ hS1 => kk p e s m args below meth c mc ms H1 locs1 ls cells slots C ⟨hR.1, ?_⟩ hS1 hL hE h1 h2)
  rw [i32_nat (by omega), cw_set (G := G) (K := K) (M := M) (M' := (upm M.1 o j (x), M.2)) (arr_cell hs rfl rfl) (fun j hj => cell_ne (upm_ne hj) (fun _ => rfl))] at hP1
  exact hP1
theorem v_bast {o n j : Nat} {x z : Int} (hd : decode mi.2.1 pc = .ok (.bastore, 1)) (hs : SH o = .inl (.byte, n)) (hc : o < K) (hz : z = (j : Int)) (hj : j < n) (kk : V G fr lo bc bs mi (pc + 1) lv st K (upm M.1 o j (i2b x), M.2) Z) : V G fr lo bc bs mi pc lv (vi x :: vi z :: vr o :: st) K M Z := by
  intro p e s m args below meth c mc ms H locs ls cells slots C hR hS hL hE h1 h2
  subst hz
  have hn := sh_small hs
  rw [List.map_cons, List.map_cons, st_r hc hR.1]
  refine va_bast (D := gD G) C.1 C.2.1 C.2.2.2.2.2.2.2.2.1 hR.2 cw_D hS o 1 (cell_a hs hc) rfl (i32_in hj hn) hd (fun H1 locs1 hP1 _ hS1 => kk p e s m args below meth c mc ms H1 locs1 ls cells slots C ⟨hR.1, ?_⟩ hS1 hL hE h1 h2)
  rw [i32_nat (by omega), cw_set (G := G) (K := K) (M := M) (M' := (upm M.1 o j (i2b x), M.2)) (arr_cell hs rfl (by rw [vp_nar_byte, i2b, i32_of])) (fun j hj => cell_ne (upm_ne hj) (fun _ => rfl))] at hP1
  exact hP1
theorem v_zast {o n j : Nat} {x z : Int} (hd : decode mi.2.1 pc = .ok (.bastore, 1)) (hs : SH o = .inl (.boolean, n)) (hc : o < K) (hz : z = (j : Int)) (hj : j < n) (kk : V G fr lo bc bs mi (pc + 1) lv st K (upm M.1 o j (i2z x), M.2) Z) : V G fr lo bc bs mi pc lv (vi x :: vi z :: vr o :: st) K M Z := by
  intro p e s m args below meth c mc ms H locs ls cells slots C hR hS hL hE h1 h2
  subst hz
  have hn := sh_small hs
  rw [List.map_cons, List.map_cons, st_r hc hR.1]
  refine va_zast (D := gD G) C.1 C.2.1 C.2.2.2.2.2.2.2.2.1 hR.2 cw_D hS o 3 (cell_a hs hc) rfl (i32_in hj hn) hd (fun H1 locs1 hP1 _ hS1 => kk p e s m args below meth c mc ms H1 locs1 ls cells slots C ⟨hR.1, ?_⟩ hS1 hL hE h1 h2)
  rw [i32_nat (by omega), cw_set (G := G) (K := K) (M := M) (M' := (upm M.1 o j (i2z x), M.2)) (arr_cell hs rfl (by rw [i2z, i32_of])) (fun j hj => cell_ne (upm_ne hj) (fun _ => rfl))] at hP1
  exact hP1
theorem v_last {o n j : Nat} {x z : Int} (hd : decode mi.2.1 pc = .ok (.lastore, 1)) (hs : SH o = .inl (.long, n)) (hc : o < K) (hz : z = (j : Int)) (hj : j < n) (kk : V G fr lo bc bs mi (pc + 1) lv st K (upm M.1 o j x, M.2) Z) : V G fr lo bc bs mi pc lv (vl x :: vi z :: vr o :: st) K M Z := by
  intro p e s m args below meth c mc ms H locs ls cells slots C hR hS hL hE h1 h2
  subst hz
  have hn := sh_small hs
  rw [List.map_cons, List.map_cons, st_r hc hR.1]
  refine va_last (D := gD G) C.1 C.2.1 C.2.2.2.2.2.2.2.2.1 hR.2 cw_D hS o 2 (cell_a hs hc) rfl (i32_in hj hn) hd (fun H1 locs1 hP1 _ hS1 => kk p e s m args below meth c mc ms H1 locs1 ls cells slots C ⟨hR.1, ?_⟩ hS1 hL hE h1 h2)
  rw [i32_nat (by omega), cw_set (G := G) (K := K) (M := M) (M' := (upm M.1 o j x, M.2)) (arr_cellL hs) (fun j hj => cell_ne (upm_ne hj) (fun _ => rfl))] at hP1
  exact hP1
theorem v_aast4 {o n j t ci : Nat} {z : Int} {r : vw_C} (hd : decode mi.2.1 pc = .ok (.aastore, 1)) (hs : SH o = .inl (.object "GlassEyes$Court", n)) (hc : o < K) (hz : z = (j : Int)) (hj : j < n) (hst : SH t = .inr ci) (htK : t < K) (hr : vwCl[ci]? = some r) (hr1 : r.1 = "GlassEyes$Court") (kk : V G fr lo bc bs mi (pc + 1) lv st K (M.1, upr M.2 o j (some t)) Z) : V G fr lo bc bs mi pc lv (vr t :: vi z :: vr o :: st) K M Z := by
  intro p e s m args below meth c mc ms H locs ls cells slots C hR hS hL hE h1 h2
  subst hz
  have hn := sh_small hs
  rw [st_r htK hR.1, List.map_cons, st_r hc hR.1]
  refine va_astq (D := gD G) C.1 C.2.1 C.2.2.2.2.2.2.2.2.1 hR.2 cw_D hS o 4 t ci (cell_a hs hc) (by rw [hr1]; rfl) (cell_o hst htK) hr (i32_in hj hn) hd (fun H1 locs1 hP1 _ hS1 => kk p e s m args below meth c mc ms H1 locs1 ls cells slots C ⟨hR.1, ?_⟩ hS1 hL hE h1 h2)
  rw [i32_nat (by omega), ← rf_cell htK hR.1, cw_set (G := G) (K := K) (M := M) (M' := (M.1, upr M.2 o j (some t))) (arr_cellR hs) (fun j hj => cell_ne (fun _ => rfl) (upr_ne hj))] at hP1
  exact hP1
theorem v_aast5 {o n j t ci : Nat} {z : Int} {r : vw_C} (hd : decode mi.2.1 pc = .ok (.aastore, 1)) (hs : SH o = .inl (.object "GlassEyes$Script", n)) (hc : o < K) (hz : z = (j : Int)) (hj : j < n) (hst : SH t = .inr ci) (htK : t < K) (hr : vwCl[ci]? = some r) (hr1 : r.1 = "GlassEyes$Script") (kk : V G fr lo bc bs mi (pc + 1) lv st K (M.1, upr M.2 o j (some t)) Z) : V G fr lo bc bs mi pc lv (vr t :: vi z :: vr o :: st) K M Z := by
  intro p e s m args below meth c mc ms H locs ls cells slots C hR hS hL hE h1 h2
  subst hz
  have hn := sh_small hs
  rw [st_r htK hR.1, List.map_cons, st_r hc hR.1]
  refine va_astq (D := gD G) C.1 C.2.1 C.2.2.2.2.2.2.2.2.1 hR.2 cw_D hS o 5 t ci (cell_a hs hc) (by rw [hr1]; rfl) (cell_o hst htK) hr (i32_in hj hn) hd (fun H1 locs1 hP1 _ hS1 => kk p e s m args below meth c mc ms H1 locs1 ls cells slots C ⟨hR.1, ?_⟩ hS1 hL hE h1 h2)
  rw [i32_nat (by omega), ← rf_cell htK hR.1, cw_set (G := G) (K := K) (M := M) (M' := (M.1, upr M.2 o j (some t))) (arr_cellR hs) (fun j hj => cell_ne (fun _ => rfl) (upr_ne hj))] at hP1
  exact hP1
theorem v_alen0 {o n : Nat} (hd : decode mi.2.1 pc = .ok (.arraylength, 1)) (hs : SH o = .inl (.int, n)) (hc : o < K) (kk : V G fr lo bc bs mi (pc + 1) lv (vi (n : Int) :: st) K M Z) : V G fr lo bc bs mi pc lv (vr o :: st) K M Z := by
  intro p e s m args below meth c mc ms H locs ls cells slots C hR hS hL hE h1 h2
  rw [st_r hc hR.1]
  exact va_alen (D := gD G) C.1 C.2.1 C.2.2.2.2.2.2.2.2.1 hR.2 o 0 (cell_a hs hc) rfl (v := i32 (n : Int)) (Int32.ofInt_eq_ofNat.symm) hd (kk p e s m args below meth c mc ms H locs ls cells slots C hR hS hL hE h1 h2)
theorem v_alen1 {o n : Nat} (hd : decode mi.2.1 pc = .ok (.arraylength, 1)) (hs : SH o = .inl (.byte, n)) (hc : o < K) (kk : V G fr lo bc bs mi (pc + 1) lv (vi (n : Int) :: st) K M Z) : V G fr lo bc bs mi pc lv (vr o :: st) K M Z := by
  intro p e s m args below meth c mc ms H locs ls cells slots C hR hS hL hE h1 h2
  rw [st_r hc hR.1]
  exact va_alen (D := gD G) C.1 C.2.1 C.2.2.2.2.2.2.2.2.1 hR.2 o 1 (cell_a hs hc) rfl (v := i32 (n : Int)) (Int32.ofInt_eq_ofNat.symm) hd (kk p e s m args below meth c mc ms H locs ls cells slots C hR hS hL hE h1 h2)
theorem v_alen2 {o n : Nat} (hd : decode mi.2.1 pc = .ok (.arraylength, 1)) (hs : SH o = .inl (.long, n)) (hc : o < K) (kk : V G fr lo bc bs mi (pc + 1) lv (vi (n : Int) :: st) K M Z) : V G fr lo bc bs mi pc lv (vr o :: st) K M Z := by
  intro p e s m args below meth c mc ms H locs ls cells slots C hR hS hL hE h1 h2
  rw [st_r hc hR.1]
  exact va_alen (D := gD G) C.1 C.2.1 C.2.2.2.2.2.2.2.2.1 hR.2 o 2 (cell_a hs hc) rfl (v := i32 (n : Int)) (Int32.ofInt_eq_ofNat.symm) hd (kk p e s m args below meth c mc ms H locs ls cells slots C hR hS hL hE h1 h2)
theorem v_alen3 {o n : Nat} (hd : decode mi.2.1 pc = .ok (.arraylength, 1)) (hs : SH o = .inl (.boolean, n)) (hc : o < K) (kk : V G fr lo bc bs mi (pc + 1) lv (vi (n : Int) :: st) K M Z) : V G fr lo bc bs mi pc lv (vr o :: st) K M Z := by
  intro p e s m args below meth c mc ms H locs ls cells slots C hR hS hL hE h1 h2
  rw [st_r hc hR.1]
  exact va_alen (D := gD G) C.1 C.2.1 C.2.2.2.2.2.2.2.2.1 hR.2 o 3 (cell_a hs hc) rfl (v := i32 (n : Int)) (Int32.ofInt_eq_ofNat.symm) hd (kk p e s m args below meth c mc ms H locs ls cells slots C hR hS hL hE h1 h2)
theorem v_copy {i o0 o1 n0 n1 sp dp n : Nat} {zs zd zn : Int} (hd : decode mi.2.1 pc = .ok (.invokestatic i, 3)) (hm : Cond.methodLink mi.1.cls i arraycopyName ∈ gtb) (hw : Cond.native arraycopyName ∈ gtb ∧ Cond.static arraycopyName ∈ gtb ∧ Cond.initialized "java/lang/System" ∈ gtb) (hs0 : SH o0 = .inl (.int, n0)) (hs1 : SH o1 = .inl (.int, n1)) (hc0 : o0 < K) (hc1 : o1 < K) (es : zs = (sp : Int)) (ed : zd = (dp : Int)) (en : zn = (n : Int)) (b0 : sp + n ≤ n0) (b1 : dp + n ≤ n1) (hfr : 1 ≤ fr) (hlo : (st.map fun v => (tv G v).category).sum + (nativeFrameWords "java/lang/System" "arraycopy" 5 + 11) ≤ lo) (kk : V G fr lo bc bs mi (pc + 3) lv st K (cpm M.1 o0 sp o1 dp n, M.2) Z) : V G fr lo bc bs mi pc lv (vi zn :: vi zd :: vr o1 :: vi zs :: vr o0 :: st) K M Z := by
  intro p e s m args below meth c mc ms H locs ls cells slots C hR hS hL hE h1 h2
  subst es ed en
  have g0 := sh_small hs0
  have g1 := sh_small hs1
  have nz : ∀ x : Nat, x < 2147483648 → ¬ i32 (x : Int) < 0 := fun x hx q => by
    rw [show (0 : Int32) = i32 0 from rfl, i32_lt (by omega) (by omega)] at q
    omega
  rw [List.map_cons, List.map_cons, st_r hc1 hR.1, List.map_cons, st_r hc0 hR.1]
  refine va_copyi (D := gD G) C.1 C.2.1 (C.2.2.2.1.trans hL.1.symm) C.2.2.2.2.1 (C.2.2.2.2.2.1 _ hm) (C.2.2.2.2.2.1 _ hw.1) (C.2.2.2.2.2.1 _ hw.2.1) (C.2.2.2.2.2.1 _ hw.2.2) C.2.2.2.2.2.2.2.2.1 hR.2 cw_D hS o0 o1 0 0 (ty := .int) (cell_a hs0 hc0) (cell_a hs1 hc1) rfl rfl rfl (nz sp (by omega)) (nz dp (by omega)) (nz n (by omega)) (by rw [i32_nat (by omega), i32_nat (by omega)]; exact b0) (by rw [i32_nat (by omega), i32_nat (by omega)]; exact b1) (fun _ _ => rfl) hfr (by rw [List.map_map]; exact hlo) hd (fun H1 locs1 hP1 _ hS1 => kk p e s m args below meth c mc ms H1 locs1 ls cells slots C ⟨hR.1, ?_⟩ hS1 hL hE h1 h2)
  rw [i32_nat (by omega), i32_nat (by omega), i32_nat (by omega), cw_set (G := G) (K := K) (M := M) (M' := (cpm M.1 o0 sp o1 dp n, M.2)) (cpy_cell hs1) (fun j hj => cell_ne (fun b => by simp [cpm, hj]) (fun _ => rfl))] at hP1
  exact hP1
end GeMem
end
section
/-! ===== ends, calls ===== -/
theorem tbl_in : GoodIn gtb gtb := fun w hw => ⟨hw, good_of_word (List.mem_filter.mp hw).2⟩
def QC (G : GG) (mc : Nat) (Q : Option PV → Nat → Mem → Prop) : Array Value → State → Outcome → State → Prop := fun _ st oc t => (∃ (r : Option PV) (K : Nat) (M : Mem), oc = .returned (r.map (tv G)) ∧ Q r K M ∧ Rep G K M t.heap ∧ t.heap.size = gB G + K ∧ t.heap.size = st.heap.size + mc) ∧ va_F (gO G) st t
def ZQ (G : GG) (Q : Option PV → Nat → Mem → Prop) : ZZ := fun below args s mc ms => MQ below (QC G mc Q) args s mc ms (gO G)
def wsM (mi : MI) : List Cond := Cond.code mi.1 mi.2.1 mi.2.2.1 mi.2.2.2 :: gtb
def PcV (G : GG) (K : Nat) (M : Mem) (As : List PV) : Array Value → State → Prop := va_Pc (As.map (tv G)) (fun U => Rep G K M U.heap ∧ va_K (gD G) vwCl (gT G) U ∧ SX G U ∧ U.heap.size = gB G + K)
def entA : List PV → List (Option PV)
  | [] => []
  | Sum.inr (Sum.inl z) :: l => some (Sum.inr (Sum.inl z)) :: none :: entA l
  | Sum.inl z :: l => some (Sum.inl z) :: entA l
  | Sum.inr (Sum.inr r) :: l => some (Sum.inr (Sum.inr r)) :: entA l
def entL (As : List PV) (n : Nat) : List (Option PV) := entA As ++ List.replicate (n - (entA As).length) none
def pcat (v : PV) : Nat := match v with
  | .inr (.inl _) => 2
  | _ => 1
theorem tv_pcat (G : GG) (v : PV) : (tv G v).category = pcat v := by
  match v with
  | .inl z => rfl
  | .inr (.inl z) => rfl
  | .inr (.inr none) => rfl
  | .inr (.inr (some c)) => rfl
theorem entA_at {G : GG} : ∀ (As : List PV) (i k : Nat) (v : PV), (entA As)[k]? = some (some v) → (i + k, tv G v) ∈ lv_args i (As.map (tv G))
  | [], i, k, v, h => by simp [entA] at h
  | Sum.inr (Sum.inl z) :: l, i, k, v, h => by
    rw [List.map_cons, lv_args]
    rw [if_pos (show (tv G (Sum.inr (Sum.inl z))).category = 2 from rfl)]
    rw [entA] at h
    match k, h with
    | 0, h =>
      have e : Sum.inr (Sum.inl z) = v := by simpa using h
      subst e
      exact List.mem_cons_self
    | 1, h => simp at h
    | k + 2, h =>
      have := entA_at (G := G) l (i + 2) k v (by simpa using h)
      rw [show i + 2 + k = i + (k + 2) by omega] at this
      exact List.mem_cons_of_mem _ this
  | Sum.inl z :: l, i, k, v, h => by
    rw [List.map_cons, lv_args]
    rw [if_neg (show ¬ (tv G (Sum.inl z)).category = 2 by rw [tv_pcat]; show ¬ 1 = 2; omega)]
    rw [entA] at h
    match k, h with
    | 0, h =>
      have e : Sum.inl z = v := by simpa using h
      subst e
      exact List.mem_cons_self
    | k + 1, h =>
      have := entA_at (G := G) l (i + 1) k v (by simpa using h)
      rw [show i + 1 + k = i + (k + 1) by omega] at this
      exact List.mem_cons_of_mem _ this
  | Sum.inr (Sum.inr r) :: l, i, k, v, h => by
    rw [List.map_cons, lv_args]
    have hc : ¬ (tv G (Sum.inr (Sum.inr r))).category = 2 := by
      rw [tv_pcat]
      show ¬ 1 = 2
      omega
    rw [if_neg hc]
    rw [entA] at h
    match k, h with
    | 0, h =>
      have e : Sum.inr (Sum.inr r) = v := by simpa using h
      subst e
      exact List.mem_cons_self
    | k + 1, h =>
      have := entA_at (G := G) l (i + 1) k v (by simpa using h)
      rw [show i + 1 + k = i + (k + 1) by omega] at this
      exact List.mem_cons_of_mem _ this
theorem entL_LV {G : GG} {As : List PV} {n : Nat} {ls : Array Slot} (h : lv_has ls n (lv_args 0 (As.map (tv G)))) : LV G ls n (entL As n) := by
  refine ge_sub h fun k v hk => ?_
  unfold entL at hk
  by_cases hl : k < (entA As).length
  · rw [List.getElem?_append_left hl] at hk
    have := entA_at (G := G) As 0 k v hk
    rwa [Nat.zero_add] at this
  · rw [List.getElem?_append_right (by omega)] at hk
    have := List.mem_of_getElem? hk
    rw [List.mem_replicate] at this
    cases this.2
theorem SX.go {G : GG} {s U : State} {H : Heap} {locs : List Loc} (h : SX G s) (hS : va_S (gO G) s.heap H locs) (hH : U.heap = H) (hW : s.WarmedH U.vm) (hB : gB G ≤ s.heap.size) : SX G U := by
  obtain ⟨a1, a2, a3, a4, a5, a6⟩ := h
  have hk : ∀ a : Nat, a < s.heap.size → ¬ gO G a → U.heap[a]? = s.heap[a]? := by rw [hH]; exact hS.2.1
  exact ⟨va_Z.kept (va_Z.moved hW.alike a1) hk, vk_R.warm hW a2, vk_S.kept (vk_S.moved hW.alike a3) hk, va_X.kept (va_X.moved hW.alike a4) (hk _ (by omega) (by show ¬ gB G ≤ gC G; omega)), a5, fun q hq => va_Nw.warmM hW (a6.1 q hq), va_AO.moved hW.alike a6.2.1, va_AO.moved hW.alike a6.2.2⟩
theorem SX.calling {G : GG} {U : State} {g : JFrame} {mk : MethodId} {a : Array Value} (h : SX G U) : SX G (U.calling g mk a) := by
  obtain ⟨a1, a2, a3, a4, a5, a6⟩ := h
  exact ⟨va_Z.moved (u := U) (U := U.calling g mk a) (Vm.Alike.refl U.vm) a1, vk_R.same (u := U) (U := U.calling g mk a) rfl a2, vk_S.moved (u := U) (U := U.calling g mk a) (Vm.Alike.refl U.vm) a3, va_X.moved (u := U) (U := U.calling g mk a) (Vm.Alike.refl U.vm) a4, a5, fun q hq => va_Nw.same rfl (u := U) (U := U.calling g mk a) rfl (a6.1 q hq), va_AO.moved (u := U) (U := U.calling g mk a) (Vm.Alike.refl U.vm) a6.2.1, va_AO.moved (u := U) (U := U.calling g mk a) (Vm.Alike.refl U.vm) a6.2.2⟩
theorem PcV.blind {G : GG} {K : Nat} {M : Mem} {As : List PV} : FrameBlind (PcV G K M As) := fun a U g mk q => by
  obtain ⟨q0, q1, q2, q3, q4⟩ := q
  exact ⟨q0, q1, va_K.moved (u := U) (U := U.calling g mk a) (Vm.Alike.refl U.vm) q2, q3.calling, q4⟩
theorem met_of {G : GG} {d bc bs : Nat} {mi : MI} {As : List PV} {K : Nat} {M : Mem} {Q : Option PV → Nat → Mem → Prop} (hy : plainName mi.1.cls = true) (hlen : (lg_sl (As.map (tv G))).length ≤ mi.2.2.1)
    (h : V G d (64 * d) bc bs mi 0 (entL As mi.2.2.1) [] K M (ZQ G Q)) : Met (gL G) mi.1 (wsM mi) { frames := d, cells := bc, slots := bs, locals := 64 * d } (PcV G K M As) (QC G bc Q) bc bs (gO G) := by
  refine Met.ofW (cc := mi.2.1) (maxL := mi.2.2.1) (ret := mi.2.2.2) hy rfl ?_
  intro p e s m args below meth c s₁ B hml hv
  obtain ⟨rfl, hR, hK, hX, hz⟩ := hv
  have hts := atoms_spec (ws := wsM mi) B.pre
  have hown : s.vm.findClass mi.1.cls = some m.cls := findClass_of_methodNamed B.named
  have hl := lv_entry (As.map (tv G)) (n := mi.2.2.1) hlen
  rw [lg_entry_eq]
  exact h p e s m _ below meth c bc bs s.heap [] _ 0 0 ⟨B.exec, B.bytes, B.returns, hml, hown, fun w hw => hts w (List.mem_cons_of_mem _ hw), B.notSynchronized, fun hn => (name_of_methodNamed B.named B.method).1.trans hn, hK, hX, by omega⟩ hR va_S.rf (entL_LV hl) (by omega) (by omega) (by omega)
def metOK (mi : MI) (n : Nat) : Prop := Cond.code mi.1 mi.2.1 mi.2.2.1 mi.2.2.2 ∈ gtb ∧ Cond.initialized mi.1.cls ∈ gtb ∧ plainName mi.1.cls = true ∧ (mi.1.cls ≠ "java/lang/invoke/MethodHandle" ∧ mi.1.cls ≠ "java/lang/invoke/VarHandle" ∧ (parseMethodDescriptor mi.1.desc).map (fun d => d.parameters.length) = some n)
theorem wsM_in {mi : MI} {n : Nat} (h : metOK mi n) : GoodIn gtb (wsM mi) := fun w hw => by
  rcases List.mem_cons.mp hw with e | e
  · subst e; exact tbl_in _ h.1
  · exact tbl_in _ e
section GeCalls
variable {G : GG} {fr lo bc bs : Nat} {mi : MI} {pc : Nat} {lv : List (Option PV)} {st : List PV} {K : Nat} {M : Mem} {Z : ZZ}
theorem v_run {bc' bs' : Nat} {st0 : List PV} {a : Array Value} {Q : Option PV → Nat → Mem → Prop}
    (hr : ∀ (p : Program) (e : Env) (s : State) (m : MethodId) (args : Array Value) (below : List Frame) (meth : Method) (c : Code) (mc ms : Nat) (H : Heap) (locs : List Loc) (ls : Array Slot) (cells slots : Nat),
      Ctx G mi p s m args meth c → Rep G K M H → va_S (gO G) s.heap H locs → LV G ls mi.2.2.1 lv → H.size = gB G + K → cells + bc' ≤ mc → slots + bs' ≤ ms →
      va_Run p (gL G) e { frames := fr, cells := mc, slots := ms, locals := lo } s m args below meth c H locs cells slots bc' bs' (F0 m pc ls (st0.map (tv G))) (st.map (tv G)) (QC G bc' Q a) (gO G))
    (kk : ∀ (r : Option PV) (M' : Mem), Q r (K + bc') M' → V G fr lo bc bs mi (pc + 3) lv (r.toList ++ st) (K + bc') M' Z) : V G fr lo (bc' + bc) (bs' + bs) mi pc lv st0 K M Z := by
  intro p e s m args below meth c mc ms H locs ls cells slots C hR hS hL hE h1 h2
  intro T hT X
  have hz : H.size ≤ s.heap.size + cells := by rw [← hT]; exact X.heapSize
  have hz2 : gB G + K ≤ H.size := hR.ge (Nat.le_trans C.2.2.2.2.2.2.2.2.2.2 hS.1)
  obtain ⟨v, st₀, t, T', L, h0, X', hL', e1, e2, ⟨⟨r, K', M', hv, hq, hR', hs', hs2⟩, hF1, hF2⟩, stp⟩ := hr p e s m args below meth c mc ms H locs ls cells slots C hR hS hL (by omega) (by omega) (by omega) T hT X
  have hv' : v = r.map (tv G) := by cases hv; rfl
  subst hv'
  rw [h0] at hF1 hF2 hs2
  have eK : K' = K + bc' := by omega
  subst eK
  obtain ⟨t2, a1, b1⟩ := kk r M' hq p e s m args below meth c mc ms T'.heap (locs ++ L) ls (cells + bc') (slots + bs') C (by rw [e1]; exact hR')
    ⟨Nat.le_trans hS.1 (by rw [e1]; exact hF1), fun q g1 g2 => by rw [e1, hF2 q (Nat.lt_of_lt_of_le g1 hS.1) g2]; exact hS.2.1 q g1 g2, fun q hq => by
      rcases List.mem_append.mp hq with g | g
      · exact hS.2.2 q g
      · exact hL' q g⟩ hL (by omega) (by omega) (by omega) T' rfl X'
  refine ⟨t2, stp t2 ?_, b1⟩
  have ee : (r.toList ++ st).map (tv G) = (r.map (tv G)).toList ++ st.map (tv G) := by cases r <;> rfl
  rw [ee] at a1
  exact a1
theorem Rep.recv {o ci : Nat} {r : vw_C} {s : State} {H : Heap} (hK : va_K (gD G) vwCl (gT G) s) (hR : Rep G K M H) (hs : SH o = .inr ci) (ho : o < K) (hr : vwCl[ci]? = some r) : ∃ cell : Cell, H[rf G o]? = some cell ∧ cell.vm.isStatics = false ∧ s.vm.findClass r.1 = some cell.cls := by
  rw [rf_cell ho hR.1]
  exact va_recv hK hR.2 hr (cell_o hs ho)
theorem lsum {l : List PV} (h : (l.map pcat).sum ≤ 8) : ((l.map (tv G)).map fun v => v.category).sum ≤ 8 := by
  rw [List.map_map]
  have e : ((fun v : Value => v.category) ∘ tv G) = pcat := funext fun v => tv_pcat G v
  rw [e]
  exact h
/-- a static method -/
theorem v_callS {i d bc' bs' : Nat} {mi' : MI} {As st0 : List PV} {lv' : List (Option PV)} {Q : Option PV → Nat → Mem → Prop} (hd : decode mi.2.1 pc = .ok (.invokestatic i, 3)) (hl : Cond.methodLink mi.1.cls i mi'.1 ∈ gtb) (hM : metOK mi' As.length) (hst : Cond.static mi'.1 ∈ gtb)
    (e0 : st0 = As.reverse ++ st) (hlv : entL As mi'.2.2.1 = lv') (hlen : (lg_sl (As.map (tv G))).length ≤ mi'.2.2.1) (hw : (st.map pcat).sum ≤ 8) (hfr : d + 1 ≤ fr) (hlo : mi'.2.2.1 + 19 + 64 * d ≤ lo)
    (hc : V G d (64 * d) bc' bs' mi' 0 lv' [] K M (ZQ G Q)) (kk : ∀ (r : Option PV) (M' : Mem), Q r (K + bc') M' → V G fr lo bc bs mi (pc + 3) lv (r.toList ++ st) (K + bc') M' Z) : V G fr lo (bc' + bc) (bs' + bs) mi pc lv st0 K M Z := by
  subst hlv
  refine v_run (a := (As.map (tv G)).toArray) (Q := Q) (fun p e s m args below meth c mc ms H locs ls cells slots C hR hS hL hz h1 h2 => ?_) kk
  have hts := C.2.2.2.2.2.1
  exact va_runS (As := As.map (tv G)) (n := As.length) ⟨C.1, C.2.1, C.2.2.2.1, C.2.2.2.2.1, hts⟩ (met_of hM.2.2.1 hlen hc) ⟨callB_of As.length hts (wsM_in hM) rfl rfl rfl (hts _ hM.2.1) (hts _ hl) hM.2.2.2 ⟨hfr, by show 8 + (mi'.2.2.1 + 11) + 64 * d ≤ lo; omega⟩, hts _ hst⟩
    ⟨PcV.blind, fun U hU hW => ⟨rfl, by rw [hU]; exact hR, va_K.moved hW.alike C.2.2.2.2.2.2.2.2.1, C.2.2.2.2.2.2.2.2.2.1.go hS hU hW C.2.2.2.2.2.2.2.2.2.2, by rw [hU]; exact hz⟩⟩ rfl (List.length_map _) hL.1 (by show st0.map (tv G) = _; rw [e0, List.map_append, List.map_reverse]) (lv_room (lsum hw)) hd ⟨h1, h2⟩
/-- an instance method of one of our objects -/
theorem v_callV {i d bc' bs' o ci : Nat} {rc : vw_C} {mi' : MI} {As st0 : List PV} {lv' : List (Option PV)} {Q : Option PV → Nat → Mem → Prop} (hd : decode mi.2.1 pc = .ok (.invokevirtual i, 3)) (hl : Cond.methodLink mi.1.cls i mi'.1 ∈ gtb) (hM : metOK mi' As.length) (hst : Cond.instanceMethod mi'.1 ∈ gtb ∧ Cond.selects mi'.1.cls mi'.1 mi'.1 ∈ gtb)
    (hs : SH o = .inr ci) (ho : o < K) (hrc : vwCl[ci]? = some rc) (hrn : rc.1 = mi'.1.cls)
    (e0 : st0 = As.reverse ++ vr o :: st) (hlv : entL (vr o :: As) mi'.2.2.1 = lv') (hlen : (lg_sl ((vr o :: As).map (tv G))).length ≤ mi'.2.2.1) (hw : (st.map pcat).sum ≤ 8) (hfr : d + 1 ≤ fr) (hlo : mi'.2.2.1 + 19 + 64 * d ≤ lo)
    (hc : V G d (64 * d) bc' bs' mi' 0 lv' [] K M (ZQ G Q)) (kk : ∀ (r : Option PV) (M' : Mem), Q r (K + bc') M' → V G fr lo bc bs mi (pc + 3) lv (r.toList ++ st) (K + bc') M' Z) : V G fr lo (bc' + bc) (bs' + bs) mi pc lv st0 K M Z := by
  subst hlv
  refine v_run (a := (Value.ref (rf G o) :: As.map (tv G)).toArray) (Q := Q) (fun p e s m args below meth c mc ms H locs ls cells slots C hR hS hL hz h1 h2 => ?_) kk
  have hts := C.2.2.2.2.2.1
  exact va_runV (C := mi'.1.cls) (As := As.map (tv G)) (n := As.length) ⟨C.1, C.2.1, C.2.2.2.1, C.2.2.2.2.1, hts⟩ (met_of hM.2.2.1 hlen hc) ⟨callB_of As.length hts (wsM_in hM) rfl rfl rfl (hts _ hM.2.1) (hts _ hl) hM.2.2.2 ⟨hfr, by show 8 + (mi'.2.2.1 + 11) + 64 * d ≤ lo; omega⟩, hts _ hst.1, hts _ hst.2⟩
    ⟨PcV.blind, by rw [← hrn]; exact Rep.recv C.2.2.2.2.2.2.2.2.1 hR hs ho hrc, fun U hU hW => ⟨rfl, by rw [hU]; exact hR, va_K.moved hW.alike C.2.2.2.2.2.2.2.2.1, C.2.2.2.2.2.2.2.2.2.1.go hS hU hW C.2.2.2.2.2.2.2.2.2.2, by rw [hU]; exact hz⟩⟩ rfl (List.length_map _) hL.1 (by show st0.map (tv G) = _; rw [e0, List.map_append, List.map_reverse]; rfl) (lv_room (lsum hw)) hd ⟨h1, h2⟩
/-- an instance method of the text -/
theorem v_callT {i d bc' bs' : Nat} {mi' : MI} {As st0 : List PV} {lv' : List (Option PV)} {Q : Option PV → Nat → Mem → Prop} (hd : decode mi.2.1 pc = .ok (.invokevirtual i, 3)) (hl : Cond.methodLink mi.1.cls i mi'.1 ∈ gtb) (hM : metOK mi' As.length) (hst : Cond.instanceMethod mi'.1 ∈ gtb ∧ Cond.selects mi'.1.cls mi'.1 mi'.1 ∈ gtb)
    (hrn : mi'.1.cls = "java/lang/String")
    (e0 : st0 = As.reverse ++ vr 999999 :: st) (hlv : entL (vr 999999 :: As) mi'.2.2.1 = lv') (hlen : (lg_sl ((vr 999999 :: As).map (tv G))).length ≤ mi'.2.2.1) (hw : (st.map pcat).sum ≤ 8) (hfr : d + 1 ≤ fr) (hlo : mi'.2.2.1 + 19 + 64 * d ≤ lo)
    (hc : V G d (64 * d) bc' bs' mi' 0 lv' [] K M (ZQ G Q)) (kk : ∀ (r : Option PV) (M' : Mem), Q r (K + bc') M' → V G fr lo bc bs mi (pc + 3) lv (r.toList ++ st) (K + bc') M' Z) : V G fr lo (bc' + bc) (bs' + bs) mi pc lv st0 K M Z := by
  subst hlv
  refine v_run (a := (Value.ref (gS G) :: As.map (tv G)).toArray) (Q := Q) (fun p e s m args below meth c mc ms H locs ls cells slots C hR hS hL hz h1 h2 => ?_) kk
  have hts := C.2.2.2.2.2.1
  exact va_runV (C := mi'.1.cls) (As := As.map (tv G)) (n := As.length) ⟨C.1, C.2.1, C.2.2.2.1, C.2.2.2.2.1, hts⟩ (met_of hM.2.2.1 hlen hc) ⟨callB_of As.length hts (wsM_in hM) rfl rfl rfl (hts _ hM.2.1) (hts _ hl) hM.2.2.2 ⟨hfr, by show 8 + (mi'.2.2.1 + 11) + 64 * d ≤ lo; omega⟩, hts _ hst.1, hts _ hst.2⟩
    ⟨PcV.blind, by rw [hrn]; exact vk_recv (adK := fun _ => gS G) (i := 0) C.2.2.2.2.2.2.2.2.2.1.2.2.1 (by omega) hS, fun U hU hW => ⟨rfl, by rw [hU]; exact hR, va_K.moved hW.alike C.2.2.2.2.2.2.2.2.1, C.2.2.2.2.2.2.2.2.2.1.go hS hU hW C.2.2.2.2.2.2.2.2.2.2, by rw [hU]; exact hz⟩⟩ rfl (List.length_map _) hL.1 (by show st0.map (tv G) = _; rw [e0, List.map_append, List.map_reverse]; rfl) (lv_room (lsum hw)) hd ⟨h1, h2⟩
/-- a constructor -/
theorem v_callI {i d bc' bs' o : Nat} {mi' : MI} {As st0 : List PV} {lv' : List (Option PV)} {Q : Option PV → Nat → Mem → Prop} (hd : decode mi.2.1 pc = .ok (.invokespecial i, 3)) (hl : Cond.methodLink mi.1.cls i mi'.1 ∈ gtb) (hM : metOK mi' As.length) (hst : Cond.instanceMethod mi'.1 ∈ gtb) (hnm : mi'.1.name = "<init>") (hrt : mi'.2.2.2 = none)
    (e0 : st0 = As.reverse ++ vr o :: st) (hlv : entL (vr o :: As) mi'.2.2.1 = lv') (hlen : (lg_sl ((vr o :: As).map (tv G))).length ≤ mi'.2.2.1) (hw : (st.map pcat).sum ≤ 8) (hfr : d + 1 ≤ fr) (hlo : mi'.2.2.1 + 19 + 64 * d ≤ lo)
    (hc : V G d (64 * d) bc' bs' mi' 0 lv' [] K M (ZQ G Q)) (kk : ∀ (r : Option PV) (M' : Mem), Q r (K + bc') M' → V G fr lo bc bs mi (pc + 3) lv (r.toList ++ st) (K + bc') M' Z) : V G fr lo (bc' + bc) (bs' + bs) mi pc lv st0 K M Z := by
  subst hlv
  refine v_run (a := (Value.ref (rf G o) :: As.map (tv G)).toArray) (Q := Q) (fun p e s m args below meth c mc ms H locs ls cells slots C hR hS hL hz h1 h2 => ?_) kk
  have hts := C.2.2.2.2.2.1
  have hcb := callB_of (R := { frames := fr, cells := mc, slots := ms, locals := lo }) (rm := { frames := d, cells := bc', slots := bs', locals := 64 * d }) As.length hts (wsM_in hM) rfl rfl rfl (hts _ hM.2.1) (hts _ hl) hM.2.2.2 ⟨hfr, by show 8 + (mi'.2.2.1 + 11) + 64 * d ≤ lo; omega⟩
  rw [hrt] at hcb
  exact va_runI (As := As.map (tv G)) (n := As.length) ⟨C.1, C.2.1, C.2.2.2.1, C.2.2.2.2.1, hts⟩ (met_of hM.2.2.1 hlen hc) ⟨hcb, hnm, hts _ hst⟩
    ⟨PcV.blind, fun U hU hW => ⟨rfl, by rw [hU]; exact hR, va_K.moved hW.alike C.2.2.2.2.2.2.2.2.1, C.2.2.2.2.2.2.2.2.2.1.go hS hU hW C.2.2.2.2.2.2.2.2.2.2, by rw [hU]; exact hz⟩⟩ rfl (List.length_map _) hL.1 (by show st0.map (tv G) = _; rw [e0, List.map_append, List.map_reverse]; rfl) (lv_room (lsum hw)) hd ⟨h1, h2⟩
/-- a nest mate's private constructor -/
theorem v_callIN {i d bc' bs' o : Nat} {host : String} {mi' : MI} {As st0 : List PV} {lv' : List (Option PV)} {Q : Option PV → Nat → Mem → Prop} (hd : decode mi.2.1 pc = .ok (.invokespecial i, 3)) (hl : (mi.1.cls, i, mi'.1, host) ∈ nestL) (hM : metOK mi' As.length) (hst : Cond.instanceMethod mi'.1 ∈ gtb) (hnm : mi'.1.name = "<init>") (hrt : mi'.2.2.2 = none)
    (e0 : st0 = As.reverse ++ vr o :: st) (hlv : entL (vr o :: As) mi'.2.2.1 = lv') (hlen : (lg_sl ((vr o :: As).map (tv G))).length ≤ mi'.2.2.1) (hw : (st.map pcat).sum ≤ 8) (hfr : d + 1 ≤ fr) (hlo : mi'.2.2.1 + 19 + 64 * d ≤ lo)
    (hc : V G d (64 * d) bc' bs' mi' 0 lv' [] K M (ZQ G Q)) (kk : ∀ (r : Option PV) (M' : Mem), Q r (K + bc') M' → V G fr lo bc bs mi (pc + 3) lv (r.toList ++ st) (K + bc') M' Z) : V G fr lo (bc' + bc) (bs' + bs) mi pc lv st0 K M Z := by
  subst hlv
  refine v_run (a := (Value.ref (rf G o) :: As.map (tv G)).toArray) (Q := Q) (fun p e s m args below meth c mc ms H locs ls cells slots C hR hS hL hz h1 h2 => ?_) kk
  have hts := C.2.2.2.2.2.1
  have hcw : Cond.code mi'.1 mi'.2.1 mi'.2.2.1 mi'.2.2.2 ∈ wsM mi' := List.mem_cons_self
  have hcb : va_CN { frames := fr, cells := mc, slots := ms, locals := lo } s args mi.1.cls i mi'.1 host mi'.2.1 mi'.2.2.1 mi'.2.2.2 (wsM mi') { frames := d, cells := bc', slots := bs', locals := 64 * d } bc' bs' As.length := ⟨⟨rfl, rfl, hfr, by show 8 + (mi'.2.2.1 + 11) + 64 * d ≤ lo; omega, pay_in hts (wsM_in hM), hcw⟩, hts _ hM.1, hts _ hM.2.1, ⟨hM.2.2.2.1, hM.2.2.2.2.1⟩, fun sig h => by
    have h2 := hM.2.2.2.2.2
    rw [h] at h2
    exact (Option.some.inj h2).symm, va_Nw.use rfl (C.2.2.2.2.2.2.2.2.2.1.2.2.2.2.2.1 _ hl)⟩
  rw [hrt] at hcb
  exact va_runIN (As := As.map (tv G)) (n := As.length) ⟨C.1, C.2.1, C.2.2.2.1, C.2.2.2.2.1, hts⟩ (met_of hM.2.2.1 hlen hc) ⟨hcb, hnm, hts _ hst⟩
    ⟨PcV.blind, fun U hU hW => ⟨rfl, by rw [hU]; exact hR, va_K.moved hW.alike C.2.2.2.2.2.2.2.2.1, C.2.2.2.2.2.2.2.2.2.1.go hS hU hW C.2.2.2.2.2.2.2.2.2.2, by rw [hU]; exact hz⟩⟩ rfl (List.length_map _) hL.1 (by show st0.map (tv G) = _; rw [e0, List.map_append, List.map_reverse]; rfl) (lv_room (lsum hw)) hd ⟨h1, h2⟩
theorem v_objInit {i o : Nat} (hd : decode mi.2.1 pc = .ok (.invokespecial i, 3)) (hl : Cond.methodLink mi.1.cls i Lib.objectInit ∈ gtb) (hw : Cond.instanceMethod Lib.objectInit ∈ gtb ∧ Cond.code Lib.objectInit ⟨#[0xb1]⟩ 1 none ∈ gtb) (hfr : 1 ≤ fr) (hs : (st.map pcat).sum ≤ 8) (hlo : 20 ≤ lo) (k : V G fr lo bc bs mi (pc + 3) lv st K M Z) : V G fr lo bc bs mi pc lv (vr o :: st) K M Z := by
  intro p e s m args below meth c mc ms H locs ls cells slots C hR hS hL hE h1 h2
  have hts := C.2.2.2.2.2.1
  refine W.objInit C.1 C.2.1 C.2.2.2.2.1 (hts _ hl) (hts _ hw.1) (hts _ hw.2) rfl (hL.1.trans C.2.2.2.1.symm) (a := rf G o) (rest := st.map (tv G)) rfl hd hfr ?_ (k p e s m args below meth c mc ms H locs ls cells slots C hR hS hL hE h1 h2)
  have h3 : 2 * (F0 m pc ls ((vr o :: st).map (tv G))).monitorRoom + ((st.map (tv G)).map fun v => v.category).sum ≤ 8 := lv_room (lsum hs)
  show _ + 12 ≤ lo
  omega
/-! ends -/
theorem v_ireturn {z : Int} {Q : Option PV → Nat → Mem → Prop} (hd : decode mi.2.1 pc = .ok (.ireturn, 1)) (hr : mi.2.2.2 = some .int) (hq : Q (some (vi z)) K M) : V G fr lo 0 bs mi pc lv [vi z] K M (ZQ G Q) := by
  intro p e s m args below meth c mc ms H locs ls cells slots C hR hS hL hE h1 h2
  have e1 : cells = mc := by omega
  subst e1
  refine W.sized fun hz => ?_
  have hz2 : gB G + K ≤ H.size := hR.ge (Nat.le_trans C.2.2.2.2.2.2.2.2.2.2 hS.1)
  refine W.widen (k := cells) (n := ms) (Nat.le_refl _) (by omega) ?_
  exact W.iret (v := i32 z) C.1 C.2.1 (C.2.2.1.trans hr) (fun t ht hW => ⟨⟨some (vi z), K, M, rfl, hq, by rw [ht]; exact hR, by rw [ht]; omega, by rw [ht]; omega⟩, hS.F ht⟩) hS.2.2 hd C.2.2.2.2.2.2.1
theorem v_zreturn {z : Int} {ty : FieldType} {Q : Option PV → Nat → Mem → Prop} (hd : decode mi.2.1 pc = .ok (.ireturn, 1)) (hr : mi.2.2.2 = some ty) (hn : narrow ty (.int (i32 z)) = .int (i32 z)) (hq : Q (some (vi z)) K M) : V G fr lo 0 bs mi pc lv [vi z] K M (ZQ G Q) := by
  intro p e s m args below meth c mc ms H locs ls cells slots C hR hS hL hE h1 h2
  have e1 : cells = mc := by omega
  subst e1
  refine W.sized fun hz => ?_
  have hz2 : gB G + K ≤ H.size := hR.ge (Nat.le_trans C.2.2.2.2.2.2.2.2.2.2 hS.1)
  refine W.widen (k := cells) (n := ms) (Nat.le_refl _) (by omega) ?_
  exact W.zret (v := i32 z) C.1 C.2.1 (C.2.2.1.trans hr) hn (fun t ht hW => ⟨⟨some (vi z), K, M, rfl, hq, by rw [ht]; exact hR, by rw [ht]; omega, by rw [ht]; omega⟩, hS.F ht⟩) hS.2.2 hd C.2.2.2.2.2.2.1
theorem v_lreturn {z : Int} {Q : Option PV → Nat → Mem → Prop} (hd : decode mi.2.1 pc = .ok (.lreturn, 1)) (hr : mi.2.2.2 = some .long) (hq : Q (some (vl z)) K M) : V G fr lo 0 bs mi pc lv [vl z] K M (ZQ G Q) := by
  intro p e s m args below meth c mc ms H locs ls cells slots C hR hS hL hE h1 h2
  have e1 : cells = mc := by omega
  subst e1
  refine W.sized fun hz => ?_
  have hz2 : gB G + K ≤ H.size := hR.ge (Nat.le_trans C.2.2.2.2.2.2.2.2.2.2 hS.1)
  refine W.widen (k := cells) (n := ms) (Nat.le_refl _) (by omega) ?_
  exact W.lret (v := i64 z) C.1 C.2.1 (C.2.2.1.trans hr) (fun t ht hW => ⟨⟨some (vl z), K, M, rfl, hq, by rw [ht]; exact hR, by rw [ht]; omega, by rw [ht]; omega⟩, hS.F ht⟩) hS.2.2 hd C.2.2.2.2.2.2.1
theorem v_return {Q : Option PV → Nat → Mem → Prop} (hd : decode mi.2.1 pc = .ok (.return_, 1)) (hr : mi.2.2.2 = none) (hq : Q none K M) : V G fr lo 0 bs mi pc lv [] K M (ZQ G Q) := by
  intro p e s m args below meth c mc ms H locs ls cells slots C hR hS hL hE h1 h2
  have e1 : cells = mc := by omega
  subst e1
  refine W.sized fun hz => ?_
  have hz2 : gB G + K ≤ H.size := hR.ge (Nat.le_trans C.2.2.2.2.2.2.2.2.2.2 hS.1)
  refine W.widen (k := cells) (n := ms) (Nat.le_refl _) (by omega) ?_
  exact W.vret C.1 C.2.1 (C.2.2.1.trans hr) (fun t ht hW => ⟨⟨none, K, M, rfl, hq, by rw [ht]; exact hR, by rw [ht]; omega, by rw [ht]; omega⟩, hS.F ht⟩) hS.2.2 hd C.2.2.2.2.2.2.1
end GeCalls
end
section
/-! ===== makings ===== -/
def zM (M : Mem) (K : Nat) : Mem := (fun a b => if a = K then 0 else M.1 a b, fun a b => if a = K then none else M.2 a b)
theorem alloc_q {G : GG} {K q : Nat} {M : Mem} {e : va_E} {H : Heap} (hD : va_D (gO G) (cw G K M ++ [(q, e)])) (hP : va_P (gD G) vwCl (cw G K M ++ [(q, e)]) H) (hz : H.size ≤ gB G + K + 1) : q = gB G + K := by
  have g : (cw G K M ++ [(q, e)])[K]? = some (q, e) := by
    rw [List.getElem?_append_right (by rw [cw_len]; omega), cw_len, Nat.sub_self]; rfl
  have h1 : gB G ≤ q := hD.2 K (q, e) g
  have h2 : q < H.size := (hP K (q, e) g).lt
  by_cases h3 : q < gB G + K
  · have g2 : (cw G K M ++ [(q, e)])[q - gB G]? = some (gB G + (q - gB G), cellE G M (q - gB G)) := by
      rw [List.getElem?_append_left (by rw [cw_len]; omega), cw_get (by omega)]
    have := hD.1 (q - gB G) K _ _ g2 g (by show gB G + (q - gB G) = q; omega)
    omega
  · omega
theorem cw_push {G : GG} {K : Nat} {M M' : Mem} {e : va_E} (h1 : cellE G M' K = e) (h2 : ∀ j, j < K → cellE G M' j = cellE G M j) : cw G K M ++ [(gB G + K, e)] = cw G (K + 1) M' := by
  unfold cw
  rw [List.range_succ, List.map_append, h1.symm]
  congr 1
  apply List.map_congr_left
  intro j hj
  rw [h2 j (List.mem_range.mp hj)]
theorem zM_ne {G : GG} {M : Mem} {K j : Nat} (h : j < K) : cellE G (zM M K) j = cellE G M j := by
  have hj : j ≠ K := by omega
  exact cell_ne (fun b => by simp [zM, hj]) (fun b => by simp [zM, hj])
theorem zM_o {G : GG} {M : Mem} {K ci : Nat} (hs : SH K = .inr ci) : cellE G (zM M K) K = .inr (ci, (List.range (NF ci)).map (fun k => fv G (zM M K) K k (TYF ci k))) := by
  unfold cellE
  rw [hs]
  rfl
theorem fv_0 {G : GG} {M : Mem} {K k : Nat} {ty : FieldType} (h : okT ty = true) : fv G (zM M K) K k ty = defaultValue ty := by
  have e1 : (zM M K).1 K k = 0 := by simp [zM]
  have e2 : (zM M K).2 K k = none := by simp [zM]
  unfold fv
  rw [e1, e2]
  cases ty <;> first | rfl | cases h
section GeNew
variable {G : GG} {fr lo bc bs : Nat} {mi : MI} {pc : Nat} {lv : List (Option PV)} {st : List PV} {K : Nat} {M : Mem} {Z : ZZ}
theorem v_new {i ci : Nat} {C' : String} {T : u_T} (hd : decode mi.2.1 pc = .ok (.new i, 3)) (hcl : clsOK ci C' T) (hlk : Cond.classLink mi.1.cls i C' ∈ gtb) (hs : SH K = .inr ci) (hb : K + 1 ≤ 900000) (kk : V G fr lo bc bs mi (pc + 3) lv (vr K :: st) (K + 1) (zM M K) Z) : V G fr lo (bc + 1) (bs + NF ci) mi pc lv st K M Z := by
  intro p e s m args below meth c mc ms H locs ls cells slots C hR hS hL hE h1 h2
  obtain ⟨q1, q2, q3, q4, q5, q6, q7⟩ := hcl
  refine va_new (D := gD G) (ci := ci) (fs := (List.range (NF ci)).map (fun k => fv G (zM M K) K k (TYF ci k))) C.1 C.2.1 C.2.2.2.2.2.1 q2 (TYF ci) q3 C.2.2.2.2.1 (C.2.2.2.2.2.1 _ hlk) (C.2.2.2.2.2.1 _ q6) (C.2.2.2.2.2.1 _ q7) C.2.2.2.2.2.2.2.2.1 hR.2 cw_D hS (fun q hq => Nat.le_trans C.2.2.2.2.2.2.2.2.2.2 hq) q1 (fun j hj => ?_) (by show cells + 1 ≤ mc; omega) (by show slots + NF ci ≤ ms; omega) hd (fun q H1 hP1 hD1 hS1 => W.sized fun hsz => ?_)
  · unfold vp_V
    rw [List.getD_eq_getElem?_getD, rng_get _ hj]
    exact (fv_0 (q5 j hj)).symm
  · have hq := alloc_q hD1 hP1 (by omega)
    subst hq
    rw [cw_push (M' := zM M K) (zM_o hs) (fun j hj => zM_ne hj)] at hP1
    have h := kk p e s m args below meth c mc ms H1 locs ls (cells + 1) (slots + NF ci) C ⟨hb, hP1⟩ hS1 hL (by omega) (by omega) (by omega)
    rw [st_r (K := K + 1) (by omega) hb] at h
    exact h
theorem v_newa0 {n : Nat} {z : Int} (hd : decode mi.2.1 pc = .ok (.newarray .int, 2)) (hw : Cond.arrayClass .int ∈ gtb) (hs : SH K = .inl (.int, n)) (hz : z = (n : Int)) (hb : K + 1 ≤ 900000) (hn8 : n < 60000000) (kk : V G fr lo bc bs mi (pc + 2) lv (vr K :: st) (K + 1) (zM M K) Z) : V G fr lo (bc + 1) (bs + n) mi pc lv (vi z :: st) K M Z := by
  intro p e s m args below meth c mc ms H locs ls cells slots C hR hS hL hE h1 h2
  subst hz
  have hn := sh_small hs
  refine va_newa (D := gD G) (atype := .int) (ty := .int) (N' := n) (a0 := (n, .inl (fun _ => 0))) C.1 C.2.1 (C.2.2.2.2.2.1 _ hw) rfl C.2.2.2.2.2.2.2.2.1 hR.2 cw_D hS (fun q hq => Nat.le_trans C.2.2.2.2.2.2.2.2.2.2 hq) (fun cA => rfl) (fun q => by
    rw [show (0 : Int32) = i32 0 from rfl, i32_lt (by omega) (by omega)] at q
    omega) (i32_nat (by omega)) (by simp [componentBytes]; omega) (by show cells + 1 ≤ mc; omega) (by show slots + n ≤ ms; omega) hd (fun q cA H1 hK1 hP1 hD1 hS1 => W.sized fun hsz => ?_)
  have hq := alloc_q hD1 hP1 (by omega)
  subst hq
  have e1 : s.vm.findClass ("[" ++ (.int : FieldType).toString) = some cA := (hK1.2 6 (cA, .int) rfl).2
  have e2 : s.vm.findClass ("[" ++ (.int : FieldType).toString) = some (gA G .int) := (C.2.2.2.2.2.2.2.2.1.2 0 (gA G .int, .int) rfl).2
  have e3 : cA = gA G .int := Option.some.inj (e1.symm.trans e2)
  subst e3
  have hc : cellE G (zM M K) K = .inl (gA G .int, n, .inl (fun _ => 0)) := by
    unfold cellE
    rw [hs]
    simp [cellS, av, zM]
    rfl
  rw [cw_push (M' := zM M K) hc (fun j hj => zM_ne hj)] at hP1
  have h := kk p e s m args below meth c mc ms H1 locs ls (cells + 1) (slots + n) C ⟨hb, hP1⟩ hS1 hL (by omega) (by omega) (by omega)
  rw [st_r (K := K + 1) (by omega) hb] at h
  exact h
theorem v_newa1 {n : Nat} {z : Int} (hd : decode mi.2.1 pc = .ok (.newarray .byte, 2)) (hw : Cond.arrayClass .byte ∈ gtb) (hs : SH K = .inl (.byte, n)) (hz : z = (n : Int)) (hb : K + 1 ≤ 900000) (hn8 : n < 60000000) (kk : V G fr lo bc bs mi (pc + 2) lv (vr K :: st) (K + 1) (zM M K) Z) : V G fr lo (bc + 1) (bs + n) mi pc lv (vi z :: st) K M Z := by
  intro p e s m args below meth c mc ms H locs ls cells slots C hR hS hL hE h1 h2
  subst hz
  have hn := sh_small hs
  refine va_newa (D := gD G) (atype := .byte) (ty := .byte) (N' := n) (a0 := (n, .inl (fun _ => 0))) C.1 C.2.1 (C.2.2.2.2.2.1 _ hw) rfl C.2.2.2.2.2.2.2.2.1 hR.2 cw_D hS (fun q hq => Nat.le_trans C.2.2.2.2.2.2.2.2.2.2 hq) (fun cA => rfl) (fun q => by
    rw [show (0 : Int32) = i32 0 from rfl, i32_lt (by omega) (by omega)] at q
    omega) (i32_nat (by omega)) (by simp [componentBytes]; omega) (by show cells + 1 ≤ mc; omega) (by show slots + n ≤ ms; omega) hd (fun q cA H1 hK1 hP1 hD1 hS1 => W.sized fun hsz => ?_)
  have hq := alloc_q hD1 hP1 (by omega)
  subst hq
  have e1 : s.vm.findClass ("[" ++ (.byte : FieldType).toString) = some cA := (hK1.2 6 (cA, .byte) rfl).2
  have e2 : s.vm.findClass ("[" ++ (.byte : FieldType).toString) = some (gA G .byte) := (C.2.2.2.2.2.2.2.2.1.2 1 (gA G .byte, .byte) rfl).2
  have e3 : cA = gA G .byte := Option.some.inj (e1.symm.trans e2)
  subst e3
  have hc : cellE G (zM M K) K = .inl (gA G .byte, n, .inl (fun _ => 0)) := by
    unfold cellE
    rw [hs]
    simp [cellS, av, zM]
    rfl
  rw [cw_push (M' := zM M K) hc (fun j hj => zM_ne hj)] at hP1
  have h := kk p e s m args below meth c mc ms H1 locs ls (cells + 1) (slots + n) C ⟨hb, hP1⟩ hS1 hL (by omega) (by omega) (by omega)
  rw [st_r (K := K + 1) (by omega) hb] at h
  exact h
theorem v_newa2 {n : Nat} {z : Int} (hd : decode mi.2.1 pc = .ok (.newarray .long, 2)) (hw : Cond.arrayClass .long ∈ gtb) (hs : SH K = .inl (.long, n)) (hz : z = (n : Int)) (hb : K + 1 ≤ 900000) (hn8 : n < 60000000) (kk : V G fr lo bc bs mi (pc + 2) lv (vr K :: st) (K + 1) (zM M K) Z) : V G fr lo (bc + 1) (bs + n) mi pc lv (vi z :: st) K M Z := by
  intro p e s m args below meth c mc ms H locs ls cells slots C hR hS hL hE h1 h2
  subst hz
  have hn := sh_small hs
  refine va_newa (D := gD G) (atype := .long) (ty := .long) (N' := n) (a0 := (n, .inr (.inl (fun _ => 0)))) C.1 C.2.1 (C.2.2.2.2.2.1 _ hw) rfl C.2.2.2.2.2.2.2.2.1 hR.2 cw_D hS (fun q hq => Nat.le_trans C.2.2.2.2.2.2.2.2.2.2 hq) (fun cA => rfl) (fun q => by
    rw [show (0 : Int32) = i32 0 from rfl, i32_lt (by omega) (by omega)] at q
    omega) (i32_nat (by omega)) (by simp [componentBytes]; omega) (by show cells + 1 ≤ mc; omega) (by show slots + n ≤ ms; omega) hd (fun q cA H1 hK1 hP1 hD1 hS1 => W.sized fun hsz => ?_)
  have hq := alloc_q hD1 hP1 (by omega)
  subst hq
  have e1 : s.vm.findClass ("[" ++ (.long : FieldType).toString) = some cA := (hK1.2 6 (cA, .long) rfl).2
  have e2 : s.vm.findClass ("[" ++ (.long : FieldType).toString) = some (gA G .long) := (C.2.2.2.2.2.2.2.2.1.2 2 (gA G .long, .long) rfl).2
  have e3 : cA = gA G .long := Option.some.inj (e1.symm.trans e2)
  subst e3
  have hc : cellE G (zM M K) K = .inl (gA G .long, n, .inr (.inl (fun _ => 0))) := by
    unfold cellE
    rw [hs]
    simp [cellS, av, zM]
    rfl
  rw [cw_push (M' := zM M K) hc (fun j hj => zM_ne hj)] at hP1
  have h := kk p e s m args below meth c mc ms H1 locs ls (cells + 1) (slots + n) C ⟨hb, hP1⟩ hS1 hL (by omega) (by omega) (by omega)
  rw [st_r (K := K + 1) (by omega) hb] at h
  exact h
theorem v_newa3 {n : Nat} {z : Int} (hd : decode mi.2.1 pc = .ok (.newarray .boolean, 2)) (hw : Cond.arrayClass .boolean ∈ gtb) (hs : SH K = .inl (.boolean, n)) (hz : z = (n : Int)) (hb : K + 1 ≤ 900000) (hn8 : n < 60000000) (kk : V G fr lo bc bs mi (pc + 2) lv (vr K :: st) (K + 1) (zM M K) Z) : V G fr lo (bc + 1) (bs + n) mi pc lv (vi z :: st) K M Z := by
  intro p e s m args below meth c mc ms H locs ls cells slots C hR hS hL hE h1 h2
  subst hz
  have hn := sh_small hs
  refine va_newa (D := gD G) (atype := .boolean) (ty := .boolean) (N' := n) (a0 := (n, .inl (fun _ => 0))) C.1 C.2.1 (C.2.2.2.2.2.1 _ hw) rfl C.2.2.2.2.2.2.2.2.1 hR.2 cw_D hS (fun q hq => Nat.le_trans C.2.2.2.2.2.2.2.2.2.2 hq) (fun cA => rfl) (fun q => by
    rw [show (0 : Int32) = i32 0 from rfl, i32_lt (by omega) (by omega)] at q
    omega) (i32_nat (by omega)) (by simp [componentBytes]; omega) (by show cells + 1 ≤ mc; omega) (by show slots + n ≤ ms; omega) hd (fun q cA H1 hK1 hP1 hD1 hS1 => W.sized fun hsz => ?_)
  have hq := alloc_q hD1 hP1 (by omega)
  subst hq
  have e1 : s.vm.findClass ("[" ++ (.boolean : FieldType).toString) = some cA := (hK1.2 6 (cA, .boolean) rfl).2
  have e2 : s.vm.findClass ("[" ++ (.boolean : FieldType).toString) = some (gA G .boolean) := (C.2.2.2.2.2.2.2.2.1.2 3 (gA G .boolean, .boolean) rfl).2
  have e3 : cA = gA G .boolean := Option.some.inj (e1.symm.trans e2)
  subst e3
  have hc : cellE G (zM M K) K = .inl (gA G .boolean, n, .inl (fun _ => 0)) := by
    unfold cellE
    rw [hs]
    simp [cellS, av, zM]
    rfl
  rw [cw_push (M' := zM M K) hc (fun j hj => zM_ne hj)] at hP1
  have h := kk p e s m args below meth c mc ms H1 locs ls (cells + 1) (slots + n) C ⟨hb, hP1⟩ hS1 hL (by omega) (by omega) (by omega)
  rw [st_r (K := K + 1) (by omega) hb] at h
  exact h
theorem v_newq4 {i n : Nat} {z : Int} (hd : decode mi.2.1 pc = .ok (.anewarray i, 3)) (hlk : Cond.classLink mi.1.cls i "GlassEyes$Court" ∈ gtb) (hs : SH K = .inl (.object "GlassEyes$Court", n)) (hz : z = (n : Int)) (hb : K + 1 ≤ 900000) (hn8 : n < 60000000) (kk : V G fr lo bc bs mi (pc + 3) lv (vr K :: st) (K + 1) (zM M K) Z) : V G fr lo (bc + 1) (bs + n) mi pc lv (vi z :: st) K M Z := by
  intro p e s m args below meth c mc ms H locs ls cells slots C hR hS hL hE h1 h2
  subst hz
  have hn := sh_small hs
  refine va_newq (D := gD G) (C := "GlassEyes$Court") (N' := n) C.1 C.2.1 C.2.2.2.2.1 (C.2.2.2.2.2.1 _ hlk) C.2.2.2.2.2.2.2.2.2.1.2.2.2.2.2.2.1 C.2.2.2.2.2.2.2.2.1 hR.2 cw_D hS (fun q hq => Nat.le_trans C.2.2.2.2.2.2.2.2.2.2 hq) (fun q => by
    rw [show (0 : Int32) = i32 0 from rfl, i32_lt (by omega) (by omega)] at q
    omega) (i32_nat (by omega)) (by omega) (by show cells + 1 ≤ mc; omega) (by show slots + n ≤ ms; omega) hd (fun q cA H1 hK1 hP1 hD1 hS1 => W.sized fun hsz => ?_)
  have hq := alloc_q hD1 hP1 (by omega)
  subst hq
  obtain ⟨_, _, _, _, _, e1⟩ := (hK1.2 6 (cA, .object "GlassEyes$Court") rfl).2
  obtain ⟨_, _, _, _, _, e2⟩ := (C.2.2.2.2.2.2.2.2.1.2 4 (gA G (.object "GlassEyes$Court"), .object "GlassEyes$Court") rfl).2
  have e3 : cA = gA G (.object "GlassEyes$Court") := Option.some.inj (e1.symm.trans e2)
  subst e3
  have hc : cellE G (zM M K) K = .inl (gA G (.object "GlassEyes$Court"), n, .inr (.inr (.inr (.inr (fun _ => none))))) := by
    unfold cellE
    rw [hs]
    simp [cellS, av, zM]
  rw [cw_push (M' := zM M K) hc (fun j hj => zM_ne hj)] at hP1
  have h := kk p e s m args below meth c mc ms H1 locs ls (cells + 1) (slots + n) C ⟨hb, hP1⟩ hS1 hL (by omega) (by omega) (by omega)
  rw [st_r (K := K + 1) (by omega) hb] at h
  exact h
theorem v_newq5 {i n : Nat} {z : Int} (hd : decode mi.2.1 pc = .ok (.anewarray i, 3)) (hlk : Cond.classLink mi.1.cls i "GlassEyes$Script" ∈ gtb) (hs : SH K = .inl (.object "GlassEyes$Script", n)) (hz : z = (n : Int)) (hb : K + 1 ≤ 900000) (hn8 : n < 60000000) (kk : V G fr lo bc bs mi (pc + 3) lv (vr K :: st) (K + 1) (zM M K) Z) : V G fr lo (bc + 1) (bs + n) mi pc lv (vi z :: st) K M Z := by
  intro p e s m args below meth c mc ms H locs ls cells slots C hR hS hL hE h1 h2
  subst hz
  have hn := sh_small hs
  refine va_newq (D := gD G) (C := "GlassEyes$Script") (N' := n) C.1 C.2.1 C.2.2.2.2.1 (C.2.2.2.2.2.1 _ hlk) C.2.2.2.2.2.2.2.2.2.1.2.2.2.2.2.2.2 C.2.2.2.2.2.2.2.2.1 hR.2 cw_D hS (fun q hq => Nat.le_trans C.2.2.2.2.2.2.2.2.2.2 hq) (fun q => by
    rw [show (0 : Int32) = i32 0 from rfl, i32_lt (by omega) (by omega)] at q
    omega) (i32_nat (by omega)) (by omega) (by show cells + 1 ≤ mc; omega) (by show slots + n ≤ ms; omega) hd (fun q cA H1 hK1 hP1 hD1 hS1 => W.sized fun hsz => ?_)
  have hq := alloc_q hD1 hP1 (by omega)
  subst hq
  obtain ⟨_, _, _, _, _, e1⟩ := (hK1.2 6 (cA, .object "GlassEyes$Script") rfl).2
  obtain ⟨_, _, _, _, _, e2⟩ := (C.2.2.2.2.2.2.2.2.1.2 5 (gA G (.object "GlassEyes$Script"), .object "GlassEyes$Script") rfl).2
  have e3 : cA = gA G (.object "GlassEyes$Script") := Option.some.inj (e1.symm.trans e2)
  subst e3
  have hc : cellE G (zM M K) K = .inl (gA G (.object "GlassEyes$Script"), n, .inr (.inr (.inr (.inr (fun _ => none))))) := by
    unfold cellE
    rw [hs]
    simp [cellS, av, zM]
  rw [cw_push (M' := zM M K) hc (fun j hj => zM_ne hj)] at hP1
  have h := kk p e s m args below meth c mc ms H1 locs ls (cells + 1) (slots + n) C ⟨hb, hP1⟩ hS1 hL (by omega) (by omega) (by omega)
  rw [st_r (K := K + 1) (by omega) hb] at h
  exact h
theorem v_ldcT (hd : decode mi.2.1 pc = .ok (.ldc 77, 2)) (hcl : mi.1.cls = RX2) (k : V G fr lo bc bs mi (pc + 2) lv (vr 999999 :: st) K M Z) : V G fr lo bc bs mi pc lv st K M Z := by
  intro p e s m args below meth c mc ms H locs ls cells slots C hR hS hL hE h1 h2
  exact va_ldcS C.1 C.2.1 (own := RX2) (by rw [← hcl]; exact C.2.2.2.2.1) C.2.2.2.2.2.2.2.2.2.1.2.1 hd (k p e s m args below meth c mc ms H locs ls cells slots C hR hS hL hE h1 h2)
theorem v_Tval {i : Nat} (hd : decode mi.2.1 pc = .ok (.getfield i, 3)) (hl : Cond.fieldLink mi.1.cls i "java/lang/String" "value" "[B" ∈ gtb) (k : V G fr lo bc bs mi (pc + 3) lv (vr 999998 :: st) K M Z) : V G fr lo bc bs mi pc lv (vr 999999 :: st) K M Z := by
  intro p e s m args below meth c mc ms H locs ls cells slots C hR hS hL hE h1 h2
  exact vk_getf C.1 C.2.1 (C.2.2.2.2.2.2.2.2.2.1.2.2.1.1 0 (by omega)).2.2.1 hS C.2.2.2.2.1 (C.2.2.2.2.2.1 _ hl) (fun _ h => h) hd (k p e s m args below meth c mc ms H locs ls cells slots C hR hS hL hE h1 h2)
theorem v_Tcod {i : Nat} (hd : decode mi.2.1 pc = .ok (.getfield i, 3)) (hl : Cond.fieldLink mi.1.cls i "java/lang/String" "coder" "B" ∈ gtb) (k : V G fr lo bc bs mi (pc + 3) lv (vi 0 :: st) K M Z) : V G fr lo bc bs mi pc lv (vr 999999 :: st) K M Z := by
  intro p e s m args below meth c mc ms H locs ls cells slots C hR hS hL hE h1 h2
  exact vk_getf C.1 C.2.1 (C.2.2.2.2.2.2.2.2.2.1.2.2.1.1 0 (by omega)).2.1 hS C.2.2.2.2.1 (C.2.2.2.2.2.1 _ hl) (fun _ h => h) hd (k p e s m args below meth c mc ms H locs ls cells slots C hR hS hL hE h1 h2)
theorem v_Tsta {i : Nat} (hd : decode mi.2.1 pc = .ok (.getstatic i, 3)) (hl : Cond.fieldLink mi.1.cls i "java/lang/String" "COMPACT_STRINGS" "Z" ∈ gtb) (k : V G fr lo bc bs mi (pc + 3) lv (vi 1 :: st) K M Z) : V G fr lo bc bs mi pc lv st K M Z := by
  intro p e s m args below meth c mc ms H locs ls cells slots C hR hS hL hE h1 h2
  exact va_gets C.1 C.2.1 C.2.2.2.2.2.2.2.2.2.1.1 hS C.2.2.2.2.1 (C.2.2.2.2.2.1 _ hl) (fun _ h => h) hd (k p e s m args below meth c mc ms H locs ls cells slots C hR hS hL hE h1 h2)
theorem v_Tlen (hd : decode mi.2.1 pc = .ok (.arraylength, 1)) (k : V G fr lo bc bs mi (pc + 1) lv (vi 111 :: st) K M Z) : V G fr lo bc bs mi pc lv (vr 999998 :: st) K M Z := by
  intro p e s m args below meth c mc ms H locs ls cells slots C hR hS hL hE h1 h2
  exact va_tlen C.1 C.2.1 (C.2.2.2.2.2.2.2.2.2.1.2.2.1.1 0 (by omega)).2.2.2 hS (v := i32 111) rfl hd (k p e s m args below meth c mc ms H locs ls cells slots C hR hS hL hE h1 h2)
theorem v_Tbal {j : Nat} {z : Int} (hd : decode mi.2.1 pc = .ok (.baload, 1)) (hz : z = (j : Int)) (hj : j < 111) (k : V G fr lo bc bs mi (pc + 1) lv (vi (WB.getD j 0).toInt :: st) K M Z) : V G fr lo bc bs mi pc lv (vi z :: vr 999998 :: st) K M Z := by
  intro p e s m args below meth c mc ms H locs ls cells slots C hR hS hL hE h1 h2
  subst hz
  refine va_tb C.1 C.2.1 (C.2.2.2.2.2.2.2.2.2.1.2.2.1.1 0 (by omega)).2.2.2 hS (i32_in hj (by show (111 : Nat) < _; omega)) (v := .int (i32 (WB.getD j 0).toInt)) ?_ hd (k p e s m args below meth c mc ms H locs ls cells slots C hR hS hL hE h1 h2)
  rw [i32_nat (by omega), i32_of]
  rfl
theorem v_slen (hd : decode mi.2.1 pc = .ok (.arraylength, 1)) (k : V G fr lo bc bs mi (pc + 1) lv (vi (gN G : Int) :: st) K M Z) : V G fr lo bc bs mi pc lv (vr 999997 :: st) K M Z := by
  intro p e s m args below meth c mc ms H locs ls cells slots C hR hS hL hE h1 h2
  have h := k p e s m args below meth c mc ms H locs ls cells slots C hR hS hL hE h1 h2
  rw [List.map_cons, show tv G (vi (gN G : Int)) = .int (Int32.ofNat (gN G)) from by show Value.int (Int32.ofInt (gN G : Int)) = _; rw [Int32.ofInt_eq_ofNat]] at h
  have hb := C.2.2.2.2.2.2.2.2.2.2
  have hc := C.2.2.2.2.2.2.2.2.2.1.2.2.2.2.1
  exact va_slen (b := gC G) C.1 C.2.1 C.2.2.2.2.2.2.2.2.2.1.2.2.2.1 (by omega) (by show ¬ gB G ≤ gC G; omega) hS hd h
theorem v_sld {j : Nat} {z : Int} (hd : decode mi.2.1 pc = .ok (.iaload, 1)) (hz : z = (j : Int)) (hj : j < gN G) (hN : gN G < 2147483648) (k : V G fr lo bc bs mi (pc + 1) lv (vi (gX G j).toInt :: st) K M Z) : V G fr lo bc bs mi pc lv (vi z :: vr 999997 :: st) K M Z := by
  intro p e s m args below meth c mc ms H locs ls cells slots C hR hS hL hE h1 h2
  subst hz
  have h := k p e s m args below meth c mc ms H locs ls cells slots C hR hS hL hE h1 h2
  rw [List.map_cons, show tv G (vi (gX G j).toInt) = .int (gX G j) from by show Value.int (i32 _) = _; rw [i32_of]] at h
  have hb := C.2.2.2.2.2.2.2.2.2.2
  have hc := C.2.2.2.2.2.2.2.2.2.1.2.2.2.2.1
  refine va_sld (b := gC G) C.1 C.2.1 C.2.2.2.2.2.2.2.2.2.1.2.2.2.1 (by omega) (by show ¬ gB G ≤ gC G; omega) hS (i32_in hj hN) hd ?_
  rw [i32_nat (by omega)]
  exact h
def lcm (a b : Int) : Int := if b < a then 1 else if a = b then 0 else -1
theorem v_lcmp {a b : Int} (hd : decode mi.2.1 pc = .ok (.lcmp, 1)) (ha : rnl a) (hb : rnl b) (k : V G fr lo bc bs mi (pc + 1) lv (vi (lcm a b) :: st) K M Z) : V G fr lo bc bs mi pc lv (vl b :: vl a :: st) K M Z := by
  intro p e s m args below meth c mc ms H locs ls cells slots C hR hS hL hE h1 h2
  have h := k p e s m args below meth c mc ms H locs ls cells slots C hR hS hL hE h1 h2
  refine W.lcmp C.1 C.2.1 hd ?_
  have e1 : lg_cmp (i64 a) (i64 b) = i32 (lcm a b) := by
    unfold lg_cmp lcm
    by_cases h3 : b < a
    · rw [if_pos ((i64_lt hb ha).mpr h3), if_pos h3]; rfl
    · rw [if_neg (fun z => h3 ((i64_lt hb ha).mp z)), if_neg h3]
      by_cases h4 : a = b
      · rw [if_pos ((i64_eq ha hb).mpr h4), if_pos h4]; rfl
      · rw [if_neg (fun z => h4 ((i64_eq ha hb).mp z)), if_neg h4]; rfl
  rw [e1]
  exact h
end GeNew
end
