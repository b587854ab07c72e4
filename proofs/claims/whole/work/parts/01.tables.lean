-- ===== PART A: goes FIRST, ahead of the names: the tables' words, and 'selects' of the private methods out of them =====
/-- a private method of a class that the tables say can be made, by its rows of tables_1 -/
def lw_okq (q : MethodName × Nat) : Prop := (q.1.cls ≠ "java/lang/invoke/MethodHandle" ∧ q.1.cls ≠ "java/lang/invoke/VarHandle") ∧ Cond.instantiable q.1.cls q.2 ∈ tables_1 ∧ Cond.privateMethod q.1 ∈ tables_1 ∧ Cond.instanceMethod q.1 ∈ tables_1
theorem lw_p0 : lw_okq (⟨"FriezePolygons", "found", "(I)I"⟩, 13) := ⟨⟨by decide +kernel, by decide +kernel⟩, List.mem_of_getElem? (i := 17) (by decide +kernel), List.mem_of_getElem? (i := 302) (by decide +kernel), List.mem_of_getElem? (i := 303) (by decide +kernel)⟩
theorem lw_p1 : lw_okq (⟨"FriezePolygons", "fine", "(I)I"⟩, 13) := ⟨⟨by decide +kernel, by decide +kernel⟩, List.mem_of_getElem? (i := 17) (by decide +kernel), List.mem_of_getElem? (i := 314) (by decide +kernel), List.mem_of_getElem? (i := 315) (by decide +kernel)⟩
theorem lw_p2 : lw_okq (⟨"FriezePolygons", "troubleOf", "(III)I"⟩, 13) := ⟨⟨by decide +kernel, by decide +kernel⟩, List.mem_of_getElem? (i := 17) (by decide +kernel), List.mem_of_getElem? (i := 322) (by decide +kernel), List.mem_of_getElem? (i := 323) (by decide +kernel)⟩
theorem lw_p3 : lw_okq (⟨"FriezePolygons$Tape", "next", "()V"⟩, 9) := ⟨⟨by decide +kernel, by decide +kernel⟩, List.mem_of_getElem? (i := 27) (by decide +kernel), List.mem_of_getElem? (i := 362) (by decide +kernel), List.mem_of_getElem? (i := 363) (by decide +kernel)⟩
theorem lw_p4 : lw_okq (⟨"FriezePolygons$Tape", "nextNumber", "()V"⟩, 9) := ⟨⟨by decide +kernel, by decide +kernel⟩, List.mem_of_getElem? (i := 27) (by decide +kernel), List.mem_of_getElem? (i := 369) (by decide +kernel), List.mem_of_getElem? (i := 370) (by decide +kernel)⟩
theorem lw_p5 : lw_okq (⟨"FriezePolygons$Tape", "readCorners", "()Z"⟩, 9) := ⟨⟨by decide +kernel, by decide +kernel⟩, List.mem_of_getElem? (i := 27) (by decide +kernel), List.mem_of_getElem? (i := 373) (by decide +kernel), List.mem_of_getElem? (i := 374) (by decide +kernel)⟩
theorem lw_p6 : lw_okq (⟨"FriezePolygons$Tape", "refuse", "(I)Z"⟩, 9) := ⟨⟨by decide +kernel, by decide +kernel⟩, List.mem_of_getElem? (i := 27) (by decide +kernel), List.mem_of_getElem? (i := 380) (by decide +kernel), List.mem_of_getElem? (i := 381) (by decide +kernel)⟩
theorem lw_p7 : lw_okq (⟨"FriezePolygons$Tape", "isNumberUpTo", "(I)Z"⟩, 9) := ⟨⟨by decide +kernel, by decide +kernel⟩, List.mem_of_getElem? (i := 27) (by decide +kernel), List.mem_of_getElem? (i := 384) (by decide +kernel), List.mem_of_getElem? (i := 385) (by decide +kernel)⟩
theorem lw_p8 : lw_okq (⟨"FriezePolygons$Tape", "isSign", "(I)Z"⟩, 9) := ⟨⟨by decide +kernel, by decide +kernel⟩, List.mem_of_getElem? (i := 27) (by decide +kernel), List.mem_of_getElem? (i := 388) (by decide +kernel), List.mem_of_getElem? (i := 389) (by decide +kernel)⟩
theorem lw_p9 : lw_okq (⟨"FriezePolygons$Tape", "readCuts", "()Z"⟩, 9) := ⟨⟨by decide +kernel, by decide +kernel⟩, List.mem_of_getElem? (i := 27) (by decide +kernel), List.mem_of_getElem? (i := 392) (by decide +kernel), List.mem_of_getElem? (i := 393) (by decide +kernel)⟩
theorem lw_p10 : lw_okq (⟨"FriezePolygons$Ring", "crossing", "(II)I"⟩, 7) := ⟨⟨by decide +kernel, by decide +kernel⟩, List.mem_of_getElem? (i := 65) (by decide +kernel), List.mem_of_getElem? (i := 408) (by decide +kernel), List.mem_of_getElem? (i := 409) (by decide +kernel)⟩
theorem lw_p11 : lw_okq (⟨"FriezePolygons$Tape", "drawCut", "(II)Z"⟩, 9) := ⟨⟨by decide +kernel, by decide +kernel⟩, List.mem_of_getElem? (i := 27) (by decide +kernel), List.mem_of_getElem? (i := 412) (by decide +kernel), List.mem_of_getElem? (i := 413) (by decide +kernel)⟩
theorem lw_p12 : lw_okq (⟨"FriezePolygons", "putInPlace", "(LFriezePolygons$Figure;)V"⟩, 13) := ⟨⟨by decide +kernel, by decide +kernel⟩, List.mem_of_getElem? (i := 17) (by decide +kernel), List.mem_of_getElem? (i := 432) (by decide +kernel), List.mem_of_getElem? (i := 433) (by decide +kernel)⟩
theorem lw_p13 : lw_okq (⟨"FriezePolygons", "layCuts", "(I)V"⟩, 13) := ⟨⟨by decide +kernel, by decide +kernel⟩, List.mem_of_getElem? (i := 17) (by decide +kernel), List.mem_of_getElem? (i := 461) (by decide +kernel), List.mem_of_getElem? (i := 462) (by decide +kernel)⟩
theorem lw_p14 : lw_okq (⟨"FriezePolygons$Acts", "forgetOldest", "()V"⟩, 4) := ⟨⟨by decide +kernel, by decide +kernel⟩, List.mem_of_getElem? (i := 135) (by decide +kernel), List.mem_of_getElem? (i := 469) (by decide +kernel), List.mem_of_getElem? (i := 470) (by decide +kernel)⟩
theorem lw_p15 : lw_okq (⟨"FriezePolygons$Ring", "movedCorner", "(IZI)I"⟩, 7) := ⟨⟨by decide +kernel, by decide +kernel⟩, List.mem_of_getElem? (i := 65) (by decide +kernel), List.mem_of_getElem? (i := 517) (by decide +kernel), List.mem_of_getElem? (i := 518) (by decide +kernel)⟩
def lw_privs_1 : List (MethodName × Nat) := [(⟨"FriezePolygons", "found", "(I)I"⟩, 13), (⟨"FriezePolygons", "fine", "(I)I"⟩, 13), (⟨"FriezePolygons", "troubleOf", "(III)I"⟩, 13), (⟨"FriezePolygons$Tape", "next", "()V"⟩, 9), (⟨"FriezePolygons$Tape", "nextNumber", "()V"⟩, 9), (⟨"FriezePolygons$Tape", "readCorners", "()Z"⟩, 9), (⟨"FriezePolygons$Tape", "refuse", "(I)Z"⟩, 9), (⟨"FriezePolygons$Tape", "isNumberUpTo", "(I)Z"⟩, 9), (⟨"FriezePolygons$Tape", "isSign", "(I)Z"⟩, 9), (⟨"FriezePolygons$Tape", "readCuts", "()Z"⟩, 9), (⟨"FriezePolygons$Ring", "crossing", "(II)I"⟩, 7), (⟨"FriezePolygons$Tape", "drawCut", "(II)Z"⟩, 9), (⟨"FriezePolygons", "putInPlace", "(LFriezePolygons$Figure;)V"⟩, 13), (⟨"FriezePolygons", "layCuts", "(I)V"⟩, 13), (⟨"FriezePolygons$Acts", "forgetOldest", "()V"⟩, 4), (⟨"FriezePolygons$Ring", "movedCorner", "(IZI)I"⟩, 7)]
theorem lw_r1 : ∀ q ∈ lw_privs_1, lw_okq q := List.forall_mem_cons.mpr ⟨lw_p0, List.forall_mem_cons.mpr ⟨lw_p1, List.forall_mem_cons.mpr ⟨lw_p2, List.forall_mem_cons.mpr ⟨lw_p3, List.forall_mem_cons.mpr ⟨lw_p4, List.forall_mem_cons.mpr ⟨lw_p5, List.forall_mem_cons.mpr ⟨lw_p6, List.forall_mem_cons.mpr ⟨lw_p7, List.forall_mem_cons.mpr ⟨lw_p8, List.forall_mem_cons.mpr ⟨lw_p9, List.forall_mem_cons.mpr ⟨lw_p10, List.forall_mem_cons.mpr ⟨lw_p11, List.forall_mem_cons.mpr ⟨lw_p12, List.forall_mem_cons.mpr ⟨lw_p13, List.forall_mem_cons.mpr ⟨lw_p14, List.forall_mem_cons.mpr ⟨lw_p15, fun _ h => absurd h List.not_mem_nil⟩⟩⟩⟩⟩⟩⟩⟩⟩⟩⟩⟩⟩⟩⟩⟩
theorem lw_p16 : lw_okq (⟨"FriezePolygons", "isThere", "()Z"⟩, 13) := ⟨⟨by decide +kernel, by decide +kernel⟩, List.mem_of_getElem? (i := 17) (by decide +kernel), List.mem_of_getElem? (i := 529) (by decide +kernel), List.mem_of_getElem? (i := 530) (by decide +kernel)⟩
theorem lw_p17 : lw_okq (⟨"FriezePolygons", "isCorner", "(I)Z"⟩, 13) := ⟨⟨by decide +kernel, by decide +kernel⟩, List.mem_of_getElem? (i := 17) (by decide +kernel), List.mem_of_getElem? (i := 537) (by decide +kernel), List.mem_of_getElem? (i := 538) (by decide +kernel)⟩
theorem lw_p18 : lw_okq (⟨"FriezePolygons", "refusalOfWhole", "(II)I"⟩, 13) := ⟨⟨by decide +kernel, by decide +kernel⟩, List.mem_of_getElem? (i := 17) (by decide +kernel), List.mem_of_getElem? (i := 549) (by decide +kernel), List.mem_of_getElem? (i := 550) (by decide +kernel)⟩
theorem lw_p19 : lw_okq (⟨"FriezePolygons$Ears", "firstEar", "()I"⟩, 3) := ⟨⟨by decide +kernel, by decide +kernel⟩, List.mem_of_getElem? (i := 173) (by decide +kernel), List.mem_of_getElem? (i := 561) (by decide +kernel), List.mem_of_getElem? (i := 562) (by decide +kernel)⟩
theorem lw_p20 : lw_okq (⟨"FriezePolygons$Ears", "isLeft", "(I)Z"⟩, 3) := ⟨⟨by decide +kernel, by decide +kernel⟩, List.mem_of_getElem? (i := 173) (by decide +kernel), List.mem_of_getElem? (i := 565) (by decide +kernel), List.mem_of_getElem? (i := 566) (by decide +kernel)⟩
theorem lw_p21 : lw_okq (⟨"FriezePolygons$Ears", "beside", "(II)I"⟩, 3) := ⟨⟨by decide +kernel, by decide +kernel⟩, List.mem_of_getElem? (i := 173) (by decide +kernel), List.mem_of_getElem? (i := 569) (by decide +kernel), List.mem_of_getElem? (i := 570) (by decide +kernel)⟩
theorem lw_p22 : lw_okq (⟨"FriezePolygons$Ears", "countsLess", "(I)Z"⟩, 3) := ⟨⟨by decide +kernel, by decide +kernel⟩, List.mem_of_getElem? (i := 173) (by decide +kernel), List.mem_of_getElem? (i := 573) (by decide +kernel), List.mem_of_getElem? (i := 574) (by decide +kernel)⟩
theorem lw_p23 : lw_okq (⟨"FriezePolygons$Ears", "isThreeOnes", "()Z"⟩, 3) := ⟨⟨by decide +kernel, by decide +kernel⟩, List.mem_of_getElem? (i := 173) (by decide +kernel), List.mem_of_getElem? (i := 578) (by decide +kernel), List.mem_of_getElem? (i := 579) (by decide +kernel)⟩
theorem lw_p24 : lw_okq (⟨"FriezePolygons$Frieze", "isSameTurned", "(I)Z"⟩, 3) := ⟨⟨by decide +kernel, by decide +kernel⟩, List.mem_of_getElem? (i := 155) (by decide +kernel), List.mem_of_getElem? (i := 636) (by decide +kernel), List.mem_of_getElem? (i := 637) (by decide +kernel)⟩
theorem lw_p25 : lw_okq (⟨"FriezePolygons$Frieze", "hasSuch", "(Z)Z"⟩, 3) := ⟨⟨by decide +kernel, by decide +kernel⟩, List.mem_of_getElem? (i := 155) (by decide +kernel), List.mem_of_getElem? (i := 644) (by decide +kernel), List.mem_of_getElem? (i := 645) (by decide +kernel)⟩
theorem lw_p26 : lw_okq (⟨"FriezePolygons", "isTriangled", "()Z"⟩, 13) := ⟨⟨by decide +kernel, by decide +kernel⟩, List.mem_of_getElem? (i := 17) (by decide +kernel), List.mem_of_getElem? (i := 648) (by decide +kernel), List.mem_of_getElem? (i := 649) (by decide +kernel)⟩
theorem lw_p27 : lw_okq (⟨"FriezePolygons$Ring", "pieceUnder", "(II)I"⟩, 7) := ⟨⟨by decide +kernel, by decide +kernel⟩, List.mem_of_getElem? (i := 65) (by decide +kernel), List.mem_of_getElem? (i := 660) (by decide +kernel), List.mem_of_getElem? (i := 661) (by decide +kernel)⟩
theorem lw_p28 : lw_okq (⟨"FriezePolygons$Ring", "farthest", "(II)I"⟩, 7) := ⟨⟨by decide +kernel, by decide +kernel⟩, List.mem_of_getElem? (i := 65) (by decide +kernel), List.mem_of_getElem? (i := 664) (by decide +kernel), List.mem_of_getElem? (i := 665) (by decide +kernel)⟩
theorem lw_p29 : lw_okq (⟨"FriezePolygons$Ring", "sizeUnder", "(II)I"⟩, 7) := ⟨⟨by decide +kernel, by decide +kernel⟩, List.mem_of_getElem? (i := 65) (by decide +kernel), List.mem_of_getElem? (i := 682) (by decide +kernel), List.mem_of_getElem? (i := 683) (by decide +kernel)⟩
theorem lw_p30 : lw_okq (⟨"FriezePolygons", "gatherLikenesses", "()I"⟩, 13) := ⟨⟨by decide +kernel, by decide +kernel⟩, List.mem_of_getElem? (i := 17) (by decide +kernel), List.mem_of_getElem? (i := 690) (by decide +kernel), List.mem_of_getElem? (i := 691) (by decide +kernel)⟩
theorem lw_p31 : lw_okq (⟨"FriezePolygons", "noteLikeness", "(II)I"⟩, 13) := ⟨⟨by decide +kernel, by decide +kernel⟩, List.mem_of_getElem? (i := 17) (by decide +kernel), List.mem_of_getElem? (i := 694) (by decide +kernel), List.mem_of_getElem? (i := 695) (by decide +kernel)⟩
def lw_privs_2 : List (MethodName × Nat) := [(⟨"FriezePolygons", "isThere", "()Z"⟩, 13), (⟨"FriezePolygons", "isCorner", "(I)Z"⟩, 13), (⟨"FriezePolygons", "refusalOfWhole", "(II)I"⟩, 13), (⟨"FriezePolygons$Ears", "firstEar", "()I"⟩, 3), (⟨"FriezePolygons$Ears", "isLeft", "(I)Z"⟩, 3), (⟨"FriezePolygons$Ears", "beside", "(II)I"⟩, 3), (⟨"FriezePolygons$Ears", "countsLess", "(I)Z"⟩, 3), (⟨"FriezePolygons$Ears", "isThreeOnes", "()Z"⟩, 3), (⟨"FriezePolygons$Frieze", "isSameTurned", "(I)Z"⟩, 3), (⟨"FriezePolygons$Frieze", "hasSuch", "(Z)Z"⟩, 3), (⟨"FriezePolygons", "isTriangled", "()Z"⟩, 13), (⟨"FriezePolygons$Ring", "pieceUnder", "(II)I"⟩, 7), (⟨"FriezePolygons$Ring", "farthest", "(II)I"⟩, 7), (⟨"FriezePolygons$Ring", "sizeUnder", "(II)I"⟩, 7), (⟨"FriezePolygons", "gatherLikenesses", "()I"⟩, 13), (⟨"FriezePolygons", "noteLikeness", "(II)I"⟩, 13)]
theorem lw_r2 : ∀ q ∈ lw_privs_2, lw_okq q := List.forall_mem_cons.mpr ⟨lw_p16, List.forall_mem_cons.mpr ⟨lw_p17, List.forall_mem_cons.mpr ⟨lw_p18, List.forall_mem_cons.mpr ⟨lw_p19, List.forall_mem_cons.mpr ⟨lw_p20, List.forall_mem_cons.mpr ⟨lw_p21, List.forall_mem_cons.mpr ⟨lw_p22, List.forall_mem_cons.mpr ⟨lw_p23, List.forall_mem_cons.mpr ⟨lw_p24, List.forall_mem_cons.mpr ⟨lw_p25, List.forall_mem_cons.mpr ⟨lw_p26, List.forall_mem_cons.mpr ⟨lw_p27, List.forall_mem_cons.mpr ⟨lw_p28, List.forall_mem_cons.mpr ⟨lw_p29, List.forall_mem_cons.mpr ⟨lw_p30, List.forall_mem_cons.mpr ⟨lw_p31, fun _ h => absurd h List.not_mem_nil⟩⟩⟩⟩⟩⟩⟩⟩⟩⟩⟩⟩⟩⟩⟩⟩
theorem lw_p32 : lw_okq (⟨"FriezePolygons", "leastOf", "(I)I"⟩, 13) := ⟨⟨by decide +kernel, by decide +kernel⟩, List.mem_of_getElem? (i := 17) (by decide +kernel), List.mem_of_getElem? (i := 698) (by decide +kernel), List.mem_of_getElem? (i := 699) (by decide +kernel)⟩
theorem lw_p33 : lw_okq (⟨"FriezePolygons$FlipSearch", "meet", "(I)V"⟩, 3) := ⟨⟨by decide +kernel, by decide +kernel⟩, List.mem_of_getElem? (i := 189) (by decide +kernel), List.mem_of_getElem? (i := 712) (by decide +kernel), List.mem_of_getElem? (i := 713) (by decide +kernel)⟩
theorem lw_p34 : lw_okq (⟨"FriezePolygons$FlipSearch", "meetAround", "(LFriezePolygons$Ring;I)V"⟩, 3) := ⟨⟨by decide +kernel, by decide +kernel⟩, List.mem_of_getElem? (i := 189) (by decide +kernel), List.mem_of_getElem? (i := 717) (by decide +kernel), List.mem_of_getElem? (i := 718) (by decide +kernel)⟩
theorem lw_p35 : lw_okq (⟨"FriezePolygons", "kindsBy", "(ILFriezePolygons$Row;II)I"⟩, 13) := ⟨⟨by decide +kernel, by decide +kernel⟩, List.mem_of_getElem? (i := 17) (by decide +kernel), List.mem_of_getElem? (i := 736) (by decide +kernel), List.mem_of_getElem? (i := 737) (by decide +kernel)⟩
theorem lw_p36 : lw_okq (⟨"FriezePolygons", "ownBy", "(ILFriezePolygons$Row;II)I"⟩, 13) := ⟨⟨by decide +kernel, by decide +kernel⟩, List.mem_of_getElem? (i := 17) (by decide +kernel), List.mem_of_getElem? (i := 746) (by decide +kernel), List.mem_of_getElem? (i := 747) (by decide +kernel)⟩
theorem lw_p37 : lw_okq (⟨"FriezePolygons", "cutsBy", "(LFriezePolygons$Row;II)I"⟩, 13) := ⟨⟨by decide +kernel, by decide +kernel⟩, List.mem_of_getElem? (i := 17) (by decide +kernel), List.mem_of_getElem? (i := 750) (by decide +kernel), List.mem_of_getElem? (i := 751) (by decide +kernel)⟩
theorem lw_p38 : lw_okq (⟨"FriezePolygons", "casesWithout", "(II)J"⟩, 13) := ⟨⟨by decide +kernel, by decide +kernel⟩, List.mem_of_getElem? (i := 17) (by decide +kernel), List.mem_of_getElem? (i := 759) (by decide +kernel), List.mem_of_getElem? (i := 760) (by decide +kernel)⟩
theorem lw_p39 : lw_okq (⟨"FriezePolygons$Asks", "begins", "(I)V"⟩, 6) := ⟨⟨by decide +kernel, by decide +kernel⟩, List.mem_of_getElem? (i := 205) (by decide +kernel), List.mem_of_getElem? (i := 815) (by decide +kernel), List.mem_of_getElem? (i := 816) (by decide +kernel)⟩
theorem lw_p40 : lw_okq (⟨"FriezePolygons$Asks", "body11", "()I"⟩, 6) := ⟨⟨by decide +kernel, by decide +kernel⟩, List.mem_of_getElem? (i := 205) (by decide +kernel), List.mem_of_getElem? (i := 819) (by decide +kernel), List.mem_of_getElem? (i := 820) (by decide +kernel)⟩
theorem lw_p41 : lw_okq (⟨"FriezePolygons$Asks", "body10", "()I"⟩, 6) := ⟨⟨by decide +kernel, by decide +kernel⟩, List.mem_of_getElem? (i := 205) (by decide +kernel), List.mem_of_getElem? (i := 823) (by decide +kernel), List.mem_of_getElem? (i := 824) (by decide +kernel)⟩
theorem lw_p42 : lw_okq (⟨"FriezePolygons$Asks", "markOfPlain", "()I"⟩, 6) := ⟨⟨by decide +kernel, by decide +kernel⟩, List.mem_of_getElem? (i := 205) (by decide +kernel), List.mem_of_getElem? (i := 827) (by decide +kernel), List.mem_of_getElem? (i := 828) (by decide +kernel)⟩
theorem lw_p43 : lw_okq (⟨"FriezePolygons$Asks", "body21", "()I"⟩, 6) := ⟨⟨by decide +kernel, by decide +kernel⟩, List.mem_of_getElem? (i := 205) (by decide +kernel), List.mem_of_getElem? (i := 831) (by decide +kernel), List.mem_of_getElem? (i := 832) (by decide +kernel)⟩
theorem lw_p44 : lw_okq (⟨"FriezePolygons$Asks", "body20", "()I"⟩, 6) := ⟨⟨by decide +kernel, by decide +kernel⟩, List.mem_of_getElem? (i := 205) (by decide +kernel), List.mem_of_getElem? (i := 835) (by decide +kernel), List.mem_of_getElem? (i := 836) (by decide +kernel)⟩
theorem lw_p45 : lw_okq (⟨"FriezePolygons$Asks", "sizeOfFixed", "()I"⟩, 6) := ⟨⟨by decide +kernel, by decide +kernel⟩, List.mem_of_getElem? (i := 205) (by decide +kernel), List.mem_of_getElem? (i := 839) (by decide +kernel), List.mem_of_getElem? (i := 840) (by decide +kernel)⟩
theorem lw_p46 : lw_okq (⟨"FriezePolygons$Asks", "body13", "()I"⟩, 6) := ⟨⟨by decide +kernel, by decide +kernel⟩, List.mem_of_getElem? (i := 205) (by decide +kernel), List.mem_of_getElem? (i := 843) (by decide +kernel), List.mem_of_getElem? (i := 844) (by decide +kernel)⟩
theorem lw_p47 : lw_okq (⟨"FriezePolygons$Asks", "body23", "()I"⟩, 6) := ⟨⟨by decide +kernel, by decide +kernel⟩, List.mem_of_getElem? (i := 205) (by decide +kernel), List.mem_of_getElem? (i := 851) (by decide +kernel), List.mem_of_getElem? (i := 852) (by decide +kernel)⟩
def lw_privs_3 : List (MethodName × Nat) := [(⟨"FriezePolygons", "leastOf", "(I)I"⟩, 13), (⟨"FriezePolygons$FlipSearch", "meet", "(I)V"⟩, 3), (⟨"FriezePolygons$FlipSearch", "meetAround", "(LFriezePolygons$Ring;I)V"⟩, 3), (⟨"FriezePolygons", "kindsBy", "(ILFriezePolygons$Row;II)I"⟩, 13), (⟨"FriezePolygons", "ownBy", "(ILFriezePolygons$Row;II)I"⟩, 13), (⟨"FriezePolygons", "cutsBy", "(LFriezePolygons$Row;II)I"⟩, 13), (⟨"FriezePolygons", "casesWithout", "(II)J"⟩, 13), (⟨"FriezePolygons$Asks", "begins", "(I)V"⟩, 6), (⟨"FriezePolygons$Asks", "body11", "()I"⟩, 6), (⟨"FriezePolygons$Asks", "body10", "()I"⟩, 6), (⟨"FriezePolygons$Asks", "markOfPlain", "()I"⟩, 6), (⟨"FriezePolygons$Asks", "body21", "()I"⟩, 6), (⟨"FriezePolygons$Asks", "body20", "()I"⟩, 6), (⟨"FriezePolygons$Asks", "sizeOfFixed", "()I"⟩, 6), (⟨"FriezePolygons$Asks", "body13", "()I"⟩, 6), (⟨"FriezePolygons$Asks", "body23", "()I"⟩, 6)]
theorem lw_r3 : ∀ q ∈ lw_privs_3, lw_okq q := List.forall_mem_cons.mpr ⟨lw_p32, List.forall_mem_cons.mpr ⟨lw_p33, List.forall_mem_cons.mpr ⟨lw_p34, List.forall_mem_cons.mpr ⟨lw_p35, List.forall_mem_cons.mpr ⟨lw_p36, List.forall_mem_cons.mpr ⟨lw_p37, List.forall_mem_cons.mpr ⟨lw_p38, List.forall_mem_cons.mpr ⟨lw_p39, List.forall_mem_cons.mpr ⟨lw_p40, List.forall_mem_cons.mpr ⟨lw_p41, List.forall_mem_cons.mpr ⟨lw_p42, List.forall_mem_cons.mpr ⟨lw_p43, List.forall_mem_cons.mpr ⟨lw_p44, List.forall_mem_cons.mpr ⟨lw_p45, List.forall_mem_cons.mpr ⟨lw_p46, List.forall_mem_cons.mpr ⟨lw_p47, fun _ h => absurd h List.not_mem_nil⟩⟩⟩⟩⟩⟩⟩⟩⟩⟩⟩⟩⟩⟩⟩⟩
theorem lw_p48 : lw_okq (⟨"FriezePolygons", "rowsMade", "()I"⟩, 13) := ⟨⟨by decide +kernel, by decide +kernel⟩, List.mem_of_getElem? (i := 17) (by decide +kernel), List.mem_of_getElem? (i := 863) (by decide +kernel), List.mem_of_getElem? (i := 864) (by decide +kernel)⟩
theorem lw_p49 : lw_okq (⟨"FriezePolygonsModel", "finding", "(I)I"⟩, 26) := ⟨⟨by decide +kernel, by decide +kernel⟩, List.mem_of_getElem? (i := 871) (by decide +kernel), List.mem_of_getElem? (i := 970) (by decide +kernel), List.mem_of_getElem? (i := 971) (by decide +kernel)⟩
theorem lw_p50 : lw_okq (⟨"FriezePolygonsModel", "nextToken", "()V"⟩, 26) := ⟨⟨by decide +kernel, by decide +kernel⟩, List.mem_of_getElem? (i := 871) (by decide +kernel), List.mem_of_getElem? (i := 997) (by decide +kernel), List.mem_of_getElem? (i := 998) (by decide +kernel)⟩
theorem lw_p51 : lw_okq (⟨"FriezePolygonsModel", "readCorner", "()V"⟩, 26) := ⟨⟨by decide +kernel, by decide +kernel⟩, List.mem_of_getElem? (i := 871) (by decide +kernel), List.mem_of_getElem? (i := 1006) (by decide +kernel), List.mem_of_getElem? (i := 1007) (by decide +kernel)⟩
theorem lw_p52 : lw_okq (⟨"FriezePolygonsModel", "bad", "(I)V"⟩, 26) := ⟨⟨by decide +kernel, by decide +kernel⟩, List.mem_of_getElem? (i := 871) (by decide +kernel), List.mem_of_getElem? (i := 1013) (by decide +kernel), List.mem_of_getElem? (i := 1014) (by decide +kernel)⟩
theorem lw_p53 : lw_okq (⟨"FriezePolygonsModel", "figure", "(II)I"⟩, 26) := ⟨⟨by decide +kernel, by decide +kernel⟩, List.mem_of_getElem? (i := 871) (by decide +kernel), List.mem_of_getElem? (i := 1017) (by decide +kernel), List.mem_of_getElem? (i := 1018) (by decide +kernel)⟩
theorem lw_p54 : lw_okq (⟨"FriezePolygonsModel", "must", "(Z)V"⟩, 26) := ⟨⟨by decide +kernel, by decide +kernel⟩, List.mem_of_getElem? (i := 871) (by decide +kernel), List.mem_of_getElem? (i := 1021) (by decide +kernel), List.mem_of_getElem? (i := 1022) (by decide +kernel)⟩
theorem lw_p55 : lw_okq (⟨"FriezePolygonsModel", "mustSign", "(I)V"⟩, 26) := ⟨⟨by decide +kernel, by decide +kernel⟩, List.mem_of_getElem? (i := 871) (by decide +kernel), List.mem_of_getElem? (i := 1025) (by decide +kernel), List.mem_of_getElem? (i := 1026) (by decide +kernel)⟩
theorem lw_p56 : lw_okq (⟨"FriezePolygonsModel", "readCut", "()V"⟩, 26) := ⟨⟨by decide +kernel, by decide +kernel⟩, List.mem_of_getElem? (i := 871) (by decide +kernel), List.mem_of_getElem? (i := 1029) (by decide +kernel), List.mem_of_getElem? (i := 1030) (by decide +kernel)⟩
theorem lw_p57 : lw_okq (⟨"FriezePolygonsModel", "isCorner", "(I)Z"⟩, 26) := ⟨⟨by decide +kernel, by decide +kernel⟩, List.mem_of_getElem? (i := 871) (by decide +kernel), List.mem_of_getElem? (i := 1074) (by decide +kernel), List.mem_of_getElem? (i := 1075) (by decide +kernel)⟩
theorem lw_p58 : lw_okq (⟨"FriezePolygonsModel", "keeps", "()V"⟩, 26) := ⟨⟨by decide +kernel, by decide +kernel⟩, List.mem_of_getElem? (i := 871) (by decide +kernel), List.mem_of_getElem? (i := 1078) (by decide +kernel), List.mem_of_getElem? (i := 1079) (by decide +kernel)⟩
theorem lw_p59 : lw_okq (⟨"FriezePolygonsModel", "isCut", "(I)Z"⟩, 26) := ⟨⟨by decide +kernel, by decide +kernel⟩, List.mem_of_getElem? (i := 871) (by decide +kernel), List.mem_of_getElem? (i := 1089) (by decide +kernel), List.mem_of_getElem? (i := 1090) (by decide +kernel)⟩
theorem lw_p60 : lw_okq (⟨"FriezePolygonsModel", "isThere", "()Z"⟩, 26) := ⟨⟨by decide +kernel, by decide +kernel⟩, List.mem_of_getElem? (i := 871) (by decide +kernel), List.mem_of_getElem? (i := 1093) (by decide +kernel), List.mem_of_getElem? (i := 1094) (by decide +kernel)⟩
theorem lw_p61 : lw_okq (⟨"FriezePolygonsModel", "lacks", "(III)I"⟩, 26) := ⟨⟨by decide +kernel, by decide +kernel⟩, List.mem_of_getElem? (i := 871) (by decide +kernel), List.mem_of_getElem? (i := 1135) (by decide +kernel), List.mem_of_getElem? (i := 1136) (by decide +kernel)⟩
theorem lw_p62 : lw_okq (⟨"FriezePolygonsModel", "readBack", "(I)I"⟩, 26) := ⟨⟨by decide +kernel, by decide +kernel⟩, List.mem_of_getElem? (i := 871) (by decide +kernel), List.mem_of_getElem? (i := 1139) (by decide +kernel), List.mem_of_getElem? (i := 1140) (by decide +kernel)⟩
theorem lw_p63 : lw_okq (⟨"FriezePolygonsModel", "grown", "([III)J"⟩, 26) := ⟨⟨by decide +kernel, by decide +kernel⟩, List.mem_of_getElem? (i := 871) (by decide +kernel), List.mem_of_getElem? (i := 1159) (by decide +kernel), List.mem_of_getElem? (i := 1160) (by decide +kernel)⟩
def lw_privs_4 : List (MethodName × Nat) := [(⟨"FriezePolygons", "rowsMade", "()I"⟩, 13), (⟨"FriezePolygonsModel", "finding", "(I)I"⟩, 26), (⟨"FriezePolygonsModel", "nextToken", "()V"⟩, 26), (⟨"FriezePolygonsModel", "readCorner", "()V"⟩, 26), (⟨"FriezePolygonsModel", "bad", "(I)V"⟩, 26), (⟨"FriezePolygonsModel", "figure", "(II)I"⟩, 26), (⟨"FriezePolygonsModel", "must", "(Z)V"⟩, 26), (⟨"FriezePolygonsModel", "mustSign", "(I)V"⟩, 26), (⟨"FriezePolygonsModel", "readCut", "()V"⟩, 26), (⟨"FriezePolygonsModel", "isCorner", "(I)Z"⟩, 26), (⟨"FriezePolygonsModel", "keeps", "()V"⟩, 26), (⟨"FriezePolygonsModel", "isCut", "(I)Z"⟩, 26), (⟨"FriezePolygonsModel", "isThere", "()Z"⟩, 26), (⟨"FriezePolygonsModel", "lacks", "(III)I"⟩, 26), (⟨"FriezePolygonsModel", "readBack", "(I)I"⟩, 26), (⟨"FriezePolygonsModel", "grown", "([III)J"⟩, 26)]
theorem lw_r4 : ∀ q ∈ lw_privs_4, lw_okq q := List.forall_mem_cons.mpr ⟨lw_p48, List.forall_mem_cons.mpr ⟨lw_p49, List.forall_mem_cons.mpr ⟨lw_p50, List.forall_mem_cons.mpr ⟨lw_p51, List.forall_mem_cons.mpr ⟨lw_p52, List.forall_mem_cons.mpr ⟨lw_p53, List.forall_mem_cons.mpr ⟨lw_p54, List.forall_mem_cons.mpr ⟨lw_p55, List.forall_mem_cons.mpr ⟨lw_p56, List.forall_mem_cons.mpr ⟨lw_p57, List.forall_mem_cons.mpr ⟨lw_p58, List.forall_mem_cons.mpr ⟨lw_p59, List.forall_mem_cons.mpr ⟨lw_p60, List.forall_mem_cons.mpr ⟨lw_p61, List.forall_mem_cons.mpr ⟨lw_p62, List.forall_mem_cons.mpr ⟨lw_p63, fun _ h => absurd h List.not_mem_nil⟩⟩⟩⟩⟩⟩⟩⟩⟩⟩⟩⟩⟩⟩⟩⟩
theorem lw_p64 : lw_okq (⟨"FriezePolygonsModel", "countOf", "([II)I"⟩, 26) := ⟨⟨by decide +kernel, by decide +kernel⟩, List.mem_of_getElem? (i := 871) (by decide +kernel), List.mem_of_getElem? (i := 1163) (by decide +kernel), List.mem_of_getElem? (i := 1164) (by decide +kernel)⟩
theorem lw_p65 : lw_okq (⟨"FriezePolygonsModel", "cutsAt", "([II)I"⟩, 26) := ⟨⟨by decide +kernel, by decide +kernel⟩, List.mem_of_getElem? (i := 871) (by decide +kernel), List.mem_of_getElem? (i := 1167) (by decide +kernel), List.mem_of_getElem? (i := 1168) (by decide +kernel)⟩
theorem lw_p66 : lw_okq (⟨"FriezePolygonsModel", "doesClose", "()Z"⟩, 26) := ⟨⟨by decide +kernel, by decide +kernel⟩, List.mem_of_getElem? (i := 871) (by decide +kernel), List.mem_of_getElem? (i := 1183) (by decide +kernel), List.mem_of_getElem? (i := 1184) (by decide +kernel)⟩
theorem lw_p67 : lw_okq (⟨"FriezePolygonsModel", "period", "()I"⟩, 26) := ⟨⟨by decide +kernel, by decide +kernel⟩, List.mem_of_getElem? (i := 871) (by decide +kernel), List.mem_of_getElem? (i := 1187) (by decide +kernel), List.mem_of_getElem? (i := 1188) (by decide +kernel)⟩
theorem lw_p68 : lw_okq (⟨"FriezePolygonsModel", "with", "(Z)I"⟩, 26) := ⟨⟨by decide +kernel, by decide +kernel⟩, List.mem_of_getElem? (i := 871) (by decide +kernel), List.mem_of_getElem? (i := 1191) (by decide +kernel), List.mem_of_getElem? (i := 1192) (by decide +kernel)⟩
theorem lw_p69 : lw_okq (⟨"FriezePolygonsModel", "flipsBetween", "(II)I"⟩, 26) := ⟨⟨by decide +kernel, by decide +kernel⟩, List.mem_of_getElem? (i := 871) (by decide +kernel), List.mem_of_getElem? (i := 1234) (by decide +kernel), List.mem_of_getElem? (i := 1235) (by decide +kernel)⟩
theorem lw_p70 : lw_okq (⟨"FriezePolygonsModel", "isKnown", "(III)Z"⟩, 26) := ⟨⟨by decide +kernel, by decide +kernel⟩, List.mem_of_getElem? (i := 871) (by decide +kernel), List.mem_of_getElem? (i := 1238) (by decide +kernel), List.mem_of_getElem? (i := 1239) (by decide +kernel)⟩
theorem lw_p71 : lw_okq (⟨"FriezePolygonsModel", "steps", "(III)I"⟩, 26) := ⟨⟨by decide +kernel, by decide +kernel⟩, List.mem_of_getElem? (i := 871) (by decide +kernel), List.mem_of_getElem? (i := 1242) (by decide +kernel), List.mem_of_getElem? (i := 1243) (by decide +kernel)⟩
theorem lw_p72 : lw_okq (⟨"FriezePolygonsModel", "fitting", "(IIII)I"⟩, 26) := ⟨⟨by decide +kernel, by decide +kernel⟩, List.mem_of_getElem? (i := 871) (by decide +kernel), List.mem_of_getElem? (i := 1256) (by decide +kernel), List.mem_of_getElem? (i := 1257) (by decide +kernel)⟩
theorem lw_p73 : lw_okq (⟨"FriezePolygonsModel", "layThen", "()V"⟩, 26) := ⟨⟨by decide +kernel, by decide +kernel⟩, List.mem_of_getElem? (i := 871) (by decide +kernel), List.mem_of_getElem? (i := 1260) (by decide +kernel), List.mem_of_getElem? (i := 1261) (by decide +kernel)⟩
theorem lw_p74 : lw_okq (⟨"FriezePolygonsModel", "areCountsSo", "(II)Z"⟩, 26) := ⟨⟨by decide +kernel, by decide +kernel⟩, List.mem_of_getElem? (i := 871) (by decide +kernel), List.mem_of_getElem? (i := 1264) (by decide +kernel), List.mem_of_getElem? (i := 1265) (by decide +kernel)⟩
theorem lw_p75 : lw_okq (⟨"FriezePolygonsModel", "askedSize", "(I)I"⟩, 26) := ⟨⟨by decide +kernel, by decide +kernel⟩, List.mem_of_getElem? (i := 871) (by decide +kernel), List.mem_of_getElem? (i := 1312) (by decide +kernel), List.mem_of_getElem? (i := 1313) (by decide +kernel)⟩
theorem lw_p76 : lw_okq (⟨"FriezePolygonsModel", "fixedSize", "(I)I"⟩, 26) := ⟨⟨by decide +kernel, by decide +kernel⟩, List.mem_of_getElem? (i := 871) (by decide +kernel), List.mem_of_getElem? (i := 1316) (by decide +kernel), List.mem_of_getElem? (i := 1317) (by decide +kernel)⟩
theorem lw_p77 : lw_okq (⟨"FriezePolygonsModel", "began", "(I)V"⟩, 26) := ⟨⟨by decide +kernel, by decide +kernel⟩, List.mem_of_getElem? (i := 871) (by decide +kernel), List.mem_of_getElem? (i := 1320) (by decide +kernel), List.mem_of_getElem? (i := 1321) (by decide +kernel)⟩
theorem lw_p78 : lw_okq (⟨"FriezePolygonsModel", "lentSize", "(I)I"⟩, 26) := ⟨⟨by decide +kernel, by decide +kernel⟩, List.mem_of_getElem? (i := 871) (by decide +kernel), List.mem_of_getElem? (i := 1324) (by decide +kernel), List.mem_of_getElem? (i := 1325) (by decide +kernel)⟩
theorem lw_p79 : lw_okq (⟨"FriezePolygonsModel", "markOf", "(I)I"⟩, 26) := ⟨⟨by decide +kernel, by decide +kernel⟩, List.mem_of_getElem? (i := 871) (by decide +kernel), List.mem_of_getElem? (i := 1328) (by decide +kernel), List.mem_of_getElem? (i := 1329) (by decide +kernel)⟩
def lw_privs_5 : List (MethodName × Nat) := [(⟨"FriezePolygonsModel", "countOf", "([II)I"⟩, 26), (⟨"FriezePolygonsModel", "cutsAt", "([II)I"⟩, 26), (⟨"FriezePolygonsModel", "doesClose", "()Z"⟩, 26), (⟨"FriezePolygonsModel", "period", "()I"⟩, 26), (⟨"FriezePolygonsModel", "with", "(Z)I"⟩, 26), (⟨"FriezePolygonsModel", "flipsBetween", "(II)I"⟩, 26), (⟨"FriezePolygonsModel", "isKnown", "(III)Z"⟩, 26), (⟨"FriezePolygonsModel", "steps", "(III)I"⟩, 26), (⟨"FriezePolygonsModel", "fitting", "(IIII)I"⟩, 26), (⟨"FriezePolygonsModel", "layThen", "()V"⟩, 26), (⟨"FriezePolygonsModel", "areCountsSo", "(II)Z"⟩, 26), (⟨"FriezePolygonsModel", "askedSize", "(I)I"⟩, 26), (⟨"FriezePolygonsModel", "fixedSize", "(I)I"⟩, 26), (⟨"FriezePolygonsModel", "began", "(I)V"⟩, 26), (⟨"FriezePolygonsModel", "lentSize", "(I)I"⟩, 26), (⟨"FriezePolygonsModel", "markOf", "(I)I"⟩, 26)]
theorem lw_r5 : ∀ q ∈ lw_privs_5, lw_okq q := List.forall_mem_cons.mpr ⟨lw_p64, List.forall_mem_cons.mpr ⟨lw_p65, List.forall_mem_cons.mpr ⟨lw_p66, List.forall_mem_cons.mpr ⟨lw_p67, List.forall_mem_cons.mpr ⟨lw_p68, List.forall_mem_cons.mpr ⟨lw_p69, List.forall_mem_cons.mpr ⟨lw_p70, List.forall_mem_cons.mpr ⟨lw_p71, List.forall_mem_cons.mpr ⟨lw_p72, List.forall_mem_cons.mpr ⟨lw_p73, List.forall_mem_cons.mpr ⟨lw_p74, List.forall_mem_cons.mpr ⟨lw_p75, List.forall_mem_cons.mpr ⟨lw_p76, List.forall_mem_cons.mpr ⟨lw_p77, List.forall_mem_cons.mpr ⟨lw_p78, List.forall_mem_cons.mpr ⟨lw_p79, fun _ h => absurd h List.not_mem_nil⟩⟩⟩⟩⟩⟩⟩⟩⟩⟩⟩⟩⟩⟩⟩⟩
def lw_privs : List (MethodName × Nat) := lw_privs_1 ++ (lw_privs_2 ++ (lw_privs_3 ++ (lw_privs_4 ++ (lw_privs_5))))
def lw_tbl : List Cond := k2_sels lw_privs ++ tables_1
theorem lw_privs_ok : ∀ q ∈ lw_privs, lw_okq q := by
  show ∀ q ∈ lw_privs_1 ++ (lw_privs_2 ++ (lw_privs_3 ++ (lw_privs_4 ++ (lw_privs_5)))), lw_okq q
  exact List.forall_mem_append.mpr ⟨lw_r1, List.forall_mem_append.mpr ⟨lw_r2, List.forall_mem_append.mpr ⟨lw_r3, List.forall_mem_append.mpr ⟨lw_r4, lw_r5⟩⟩⟩⟩
-- ===== end of PART A =====
def R_law : String := "FriezePolygonsLaw"
/-! classes whose objects the worlds hold: name, fields in the order of their slots -/
def kc0 : u_T := fun k => match k with
  | 0 => ("FriezePolygons$Acts", "what", "[I", true)
  | 1 => ("FriezePolygons$Acts", "where", "[I", true)
  | 2 => ("FriezePolygons$Acts", "before", "[I", true)
  | _ => ("FriezePolygons$Acts", "kept", "I", false)
def kc1 : u_T := fun k => match k with
  | 0 => ("FriezePolygons$Asks", "bodies", "[I", true)
  | 1 => ("FriezePolygons$Asks", "left", "I", false)
  | 2 => ("FriezePolygons$Asks", "self", "I", false)
  | 3 => ("FriezePolygons$Asks", "kindOf", "I", false)
  | 4 => ("FriezePolygons$Asks", "counted", "I", false)
  | _ => ("FriezePolygons$Asks", "cutsThere", "I", false)
def kc2 : u_T := fun k => match k with
  | 0 => ("FriezePolygons$Ears", "numbers", "[J", true)
  | 1 => ("FriezePolygons$Ears", "left", "I", false)
  | _ => ("FriezePolygons$Ears", "corners", "I", false)
def kc3 : u_T := fun k => match k with
  | 0 => ("FriezePolygons$Figure", "kinds", "[I", true)
  | 1 => ("FriezePolygons$Figure", "own", "[I", true)
  | 2 => ("FriezePolygons$Figure", "corners", "I", false)
  | _ => ("FriezePolygons$Figure", "cuts", "I", false)
def kc4 : u_T := fun k => match k with
  | 0 => ("FriezePolygons$FlipSearch", "met", "[I", true)
  | 1 => ("FriezePolygons$FlipSearch", "slots", "[I", true)
  | _ => ("FriezePolygons$FlipSearch", "many", "I", false)
def kc5 : u_T := fun k => match k with
  | 0 => ("FriezePolygons$Frieze", "counts", "[I", true)
  | 1 => ("FriezePolygons$Frieze", "numbers", "[J", true)
  | _ => ("FriezePolygons$Frieze", "corners", "I", false)
def kc6 : u_T := fun k => match k with
  | 0 => ("FriezePolygons$Ring", "from", "[I", true)
  | 1 => ("FriezePolygons$Ring", "to", "[I", true)
  | 2 => ("FriezePolygons$Ring", "across", "[I", true)
  | 3 => ("FriezePolygons$Ring", "touching", "[I", true)
  | 4 => ("FriezePolygons$Ring", "joined", "[I", true)
  | 5 => ("FriezePolygons$Ring", "corners", "I", false)
  | _ => ("FriezePolygons$Ring", "numbers", "I", false)
def kc7 : u_T := fun k => match k with
  | 0 => ("FriezePolygons$Row", "items", "[I", true)
  | 1 => ("FriezePolygons$Row", "made", "Z", false)
  | 2 => ("FriezePolygons$Row", "lane", "I", false)
  | _ => ("FriezePolygons$Row", "length", "I", false)
def kc8 : u_T := fun k => match k with
  | 0 => ("FriezePolygons$Tape", "draft", "LFriezePolygons$Figure;", true)
  | 1 => ("FriezePolygons$Tape", "ring", "LFriezePolygons$Ring;", true)
  | 2 => ("FriezePolygons$Tape", "letters", "[I", true)
  | 3 => ("FriezePolygons$Tape", "length", "I", false)
  | 4 => ("FriezePolygons$Tape", "latestFault", "I", false)
  | 5 => ("FriezePolygons$Tape", "begin", "I", false)
  | 6 => ("FriezePolygons$Tape", "end", "I", false)
  | 7 => ("FriezePolygons$Tape", "token", "I", false)
  | _ => ("FriezePolygons$Tape", "value", "I", false)
def kc9 : u_T := fun k => match k with
  | 0 => ("FriezePolygons", "rows", "[LFriezePolygons$Row;", true)
  | 1 => ("FriezePolygons", "tape", "LFriezePolygons$Tape;", true)
  | 2 => ("FriezePolygons", "now", "LFriezePolygons$Figure;", true)
  | 3 => ("FriezePolygons", "trial", "LFriezePolygons$Figure;", true)
  | 4 => ("FriezePolygons", "images", "[LFriezePolygons$Figure;", true)
  | 5 => ("FriezePolygons", "ring", "LFriezePolygons$Ring;", true)
  | 6 => ("FriezePolygons", "acts", "LFriezePolygons$Acts;", true)
  | 7 => ("FriezePolygons", "grown", "LFriezePolygons$Frieze;", true)
  | 8 => ("FriezePolygons", "ears", "LFriezePolygons$Ears;", true)
  | 9 => ("FriezePolygons", "search", "LFriezePolygons$FlipSearch;", true)
  | 10 => ("FriezePolygons", "asks", "LFriezePolygons$Asks;", true)
  | 11 => ("FriezePolygons", "likenesses", "[I", true)
  | _ => ("FriezePolygons", "finding", "I", false)
def kc10 : u_T := fun k => match k with
  | 0 => ("FriezePolygonsModel", "status", "I", false)
  | 1 => ("FriezePolygonsModel", "lane", "[I", true)
  | 2 => ("FriezePolygonsModel", "many", "[I", true)
  | 3 => ("FriezePolygonsModel", "item", "[I", true)
  | 4 => ("FriezePolygonsModel", "poly", "[I", true)
  | 5 => ("FriezePolygonsModel", "fresh", "[I", true)
  | 6 => ("FriezePolygonsModel", "then", "[I", true)
  | 7 => ("FriezePolygonsModel", "was", "[I", true)
  | 8 => ("FriezePolygonsModel", "acts", "I", false)
  | 9 => ("FriezePolygonsModel", "tape", "[I", true)
  | 10 => ("FriezePolygonsModel", "taped", "I", false)
  | 11 => ("FriezePolygonsModel", "cursor", "I", false)
  | 12 => ("FriezePolygonsModel", "start", "I", false)
  | 13 => ("FriezePolygonsModel", "token", "I", false)
  | 14 => ("FriezePolygonsModel", "value", "I", false)
  | 15 => ("FriezePolygonsModel", "fault", "I", false)
  | 16 => ("FriezePolygonsModel", "faultAt", "I", false)
  | 17 => ("FriezePolygonsModel", "latest", "I", false)
  | 18 => ("FriezePolygonsModel", "ear", "[I", true)
  | 19 => ("FriezePolygonsModel", "isBeyond", "Z", false)
  | 20 => ("FriezePolygonsModel", "like", "[I", true)
  | 21 => ("FriezePolygonsModel", "known", "[I", true)
  | 22 => ("FriezePolygonsModel", "isKept", "[Z", true)
  | 23 => ("FriezePolygonsModel", "kept", "[I", true)
  | 24 => ("FriezePolygonsModel", "trace", "[I", true)
  | _ => ("FriezePolygonsModel", "traced", "I", false)
def kcs : List vw_C := [("FriezePolygons$Acts", kc0, 4), ("FriezePolygons$Asks", kc1, 6), ("FriezePolygons$Ears", kc2, 3), ("FriezePolygons$Figure", kc3, 4), ("FriezePolygons$FlipSearch", kc4, 3), ("FriezePolygons$Frieze", kc5, 3), ("FriezePolygons$Ring", kc6, 7), ("FriezePolygons$Row", kc7, 4), ("FriezePolygons$Tape", kc8, 9), ("FriezePolygons", kc9, 13), ("FriezePolygonsModel", kc10, 26)]
/-- the type of a field -/
def kty (T : u_T) (k : Nat) : FieldType := (parseFieldDescriptor (T k).2.2.1).getD .int
/-- what the tables say of a class: its fields are laid, they have types and names of their own, it can be made and is initialised -/
def kOk (q : vw_C) : Prop := (∀ w ∈ u_ws q.1 q.2.1 q.2.2, w ∈ lw_tbl) ∧ (∀ k, k < q.2.2 → parseFieldDescriptor (q.2.1 k).2.2.1 = some (kty q.2.1 k)) ∧ (∀ a, a < q.2.2 → ∀ b, b < q.2.2 → a ≠ b → (q.2.1 a).2.1 ≠ (q.2.1 b).2.1) ∧ Cond.instantiable q.1 q.2.2 ∈ lw_tbl ∧ Cond.initialized q.1 ∈ lw_tbl ∧ ∀ k, k < q.2.2 → (q.2.1 k).1 = q.1
set_option maxRecDepth 20000 in
theorem kOk0 : kOk ("FriezePolygons$Acts", kc0, 4) := by
  refine ⟨fun w hw => ?_, by decide +kernel, by decide +kernel, List.mem_of_getElem? (i := 215) (by decide +kernel), List.mem_of_getElem? (i := 85) (by decide +kernel), by decide +kernel⟩
  have h : u_ws "FriezePolygons$Acts" kc0 4 = ([225, 227, 229, 231] : List Nat).filterMap (fun i => lw_tbl[i]?) := by decide +kernel
  have hw : w ∈ u_ws _ _ _ := hw
  rw [h] at hw
  obtain ⟨i, -, hi⟩ := List.mem_filterMap.mp hw
  exact List.mem_of_getElem? hi
set_option maxRecDepth 20000 in
theorem kOk1 : kOk ("FriezePolygons$Asks", kc1, 6) := by
  refine ⟨fun w hw => ?_, by decide +kernel, by decide +kernel, List.mem_of_getElem? (i := 285) (by decide +kernel), List.mem_of_getElem? (i := 89) (by decide +kernel), by decide +kernel⟩
  have h : u_ws "FriezePolygons$Asks" kc1 6 = ([298, 300, 302, 304, 306, 308] : List Nat).filterMap (fun i => lw_tbl[i]?) := by decide +kernel
  have hw : w ∈ u_ws _ _ _ := hw
  rw [h] at hw
  obtain ⟨i, -, hi⟩ := List.mem_filterMap.mp hw
  exact List.mem_of_getElem? hi
set_option maxRecDepth 20000 in
theorem kOk2 : kOk ("FriezePolygons$Ears", kc2, 3) := by
  refine ⟨fun w hw => ?_, by decide +kernel, by decide +kernel, List.mem_of_getElem? (i := 253) (by decide +kernel), List.mem_of_getElem? (i := 87) (by decide +kernel), by decide +kernel⟩
  have h : u_ws "FriezePolygons$Ears" kc2 3 = ([261, 263, 265] : List Nat).filterMap (fun i => lw_tbl[i]?) := by decide +kernel
  have hw : w ∈ u_ws _ _ _ := hw
  rw [h] at hw
  obtain ⟨i, -, hi⟩ := List.mem_filterMap.mp hw
  exact List.mem_of_getElem? hi
set_option maxRecDepth 20000 in
theorem kOk3 : kOk ("FriezePolygons$Figure", kc3, 4) := by
  refine ⟨fun w hw => ?_, by decide +kernel, by decide +kernel, List.mem_of_getElem? (i := 113) (by decide +kernel), List.mem_of_getElem? (i := 83) (by decide +kernel), by decide +kernel⟩
  have h : u_ws "FriezePolygons$Figure" kc3 4 = ([134, 136, 138, 140] : List Nat).filterMap (fun i => lw_tbl[i]?) := by decide +kernel
  have hw : w ∈ u_ws _ _ _ := hw
  rw [h] at hw
  obtain ⟨i, -, hi⟩ := List.mem_filterMap.mp hw
  exact List.mem_of_getElem? hi
set_option maxRecDepth 20000 in
theorem kOk4 : kOk ("FriezePolygons$FlipSearch", kc4, 3) := by
  refine ⟨fun w hw => ?_, by decide +kernel, by decide +kernel, List.mem_of_getElem? (i := 269) (by decide +kernel), List.mem_of_getElem? (i := 88) (by decide +kernel), by decide +kernel⟩
  have h : u_ws "FriezePolygons$FlipSearch" kc4 3 = ([277, 279, 281] : List Nat).filterMap (fun i => lw_tbl[i]?) := by decide +kernel
  have hw : w ∈ u_ws _ _ _ := hw
  rw [h] at hw
  obtain ⟨i, -, hi⟩ := List.mem_filterMap.mp hw
  exact List.mem_of_getElem? hi
set_option maxRecDepth 20000 in
theorem kOk5 : kOk ("FriezePolygons$Frieze", kc5, 3) := by
  refine ⟨fun w hw => ?_, by decide +kernel, by decide +kernel, List.mem_of_getElem? (i := 235) (by decide +kernel), List.mem_of_getElem? (i := 86) (by decide +kernel), by decide +kernel⟩
  have h : u_ws "FriezePolygons$Frieze" kc5 3 = ([244, 246, 248] : List Nat).filterMap (fun i => lw_tbl[i]?) := by decide +kernel
  have hw : w ∈ u_ws _ _ _ := hw
  rw [h] at hw
  obtain ⟨i, -, hi⟩ := List.mem_filterMap.mp hw
  exact List.mem_of_getElem? hi
set_option maxRecDepth 20000 in
theorem kOk6 : kOk ("FriezePolygons$Ring", kc6, 7) := by
  refine ⟨fun w hw => ?_, by decide +kernel, by decide +kernel, List.mem_of_getElem? (i := 145) (by decide +kernel), List.mem_of_getElem? (i := 84) (by decide +kernel), by decide +kernel⟩
  have h : u_ws "FriezePolygons$Ring" kc6 7 = ([162, 164, 166, 168, 170, 172, 174] : List Nat).filterMap (fun i => lw_tbl[i]?) := by decide +kernel
  have hw : w ∈ u_ws _ _ _ := hw
  rw [h] at hw
  obtain ⟨i, -, hi⟩ := List.mem_filterMap.mp hw
  exact List.mem_of_getElem? hi
set_option maxRecDepth 20000 in
theorem kOk7 : kOk ("FriezePolygons$Row", kc7, 4) := by
  refine ⟨fun w hw => ?_, by decide +kernel, by decide +kernel, List.mem_of_getElem? (i := 311) (by decide +kernel), List.mem_of_getElem? (i := 90) (by decide +kernel), by decide +kernel⟩
  have h : u_ws "FriezePolygons$Row" kc7 4 = ([324, 326, 328, 330] : List Nat).filterMap (fun i => lw_tbl[i]?) := by decide +kernel
  have hw : w ∈ u_ws _ _ _ := hw
  rw [h] at hw
  obtain ⟨i, -, hi⟩ := List.mem_filterMap.mp hw
  exact List.mem_of_getElem? hi
set_option maxRecDepth 20000 in
theorem kOk8 : kOk ("FriezePolygons$Tape", kc8, 9) := by
  refine ⟨fun w hw => ?_, by decide +kernel, by decide +kernel, List.mem_of_getElem? (i := 107) (by decide +kernel), List.mem_of_getElem? (i := 82) (by decide +kernel), by decide +kernel⟩
  have h : u_ws "FriezePolygons$Tape" kc8 9 = ([190, 192, 194, 196, 198, 200, 202, 204, 206] : List Nat).filterMap (fun i => lw_tbl[i]?) := by decide +kernel
  have hw : w ∈ u_ws _ _ _ := hw
  rw [h] at hw
  obtain ⟨i, -, hi⟩ := List.mem_filterMap.mp hw
  exact List.mem_of_getElem? hi
set_option maxRecDepth 20000 in
theorem kOk9 : kOk ("FriezePolygons", kc9, 13) := by
  refine ⟨fun w hw => ?_, by decide +kernel, by decide +kernel, List.mem_of_getElem? (i := 97) (by decide +kernel), List.mem_of_getElem? (i := 81) (by decide +kernel), by decide +kernel⟩
  have h : u_ws "FriezePolygons" kc9 13 = ([346, 348, 350, 352, 354, 356, 358, 360, 362, 364, 366, 368, 370] : List Nat).filterMap (fun i => lw_tbl[i]?) := by decide +kernel
  have hw : w ∈ u_ws _ _ _ := hw
  rw [h] at hw
  obtain ⟨i, -, hi⟩ := List.mem_filterMap.mp hw
  exact List.mem_of_getElem? hi
set_option maxRecDepth 20000 in
theorem kOk10 : kOk ("FriezePolygonsModel", kc10, 26) := by
  refine ⟨fun w hw => ?_, by decide +kernel, by decide +kernel, List.mem_of_getElem? (i := 951) (by decide +kernel), List.mem_of_getElem? (i := 91) (by decide +kernel), by decide +kernel⟩
  have h : u_ws "FriezePolygonsModel" kc10 26 = ([982, 984, 986, 988, 990, 992, 994, 996, 998, 1000, 1002, 1004, 1006, 1008, 1010, 1012, 1014, 1016, 1018, 1020, 1022, 1024, 1026, 1028, 1030, 1032] : List Nat).filterMap (fun i => lw_tbl[i]?) := by decide +kernel
  have hw : w ∈ u_ws _ _ _ := hw
  rw [h] at hw
  obtain ⟨i, -, hi⟩ := List.mem_filterMap.mp hw
  exact List.mem_of_getElem? hi
theorem kcs_ok (ci : Nat) (q : vw_C) (h : kcs[ci]? = some q) : kOk q := by
  match ci, h with
  | 0, h => cases h; exact kOk0
  | 1, h => cases h; exact kOk1
  | 2, h => cases h; exact kOk2
  | 3, h => cases h; exact kOk3
  | 4, h => cases h; exact kOk4
  | 5, h => cases h; exact kOk5
  | 6, h => cases h; exact kOk6
  | 7, h => cases h; exact kOk7
  | 8, h => cases h; exact kOk8
  | 9, h => cases h; exact kOk9
  | 10, h => cases h; exact kOk10
  | n + 11, h => simp [kcs] at h
