section
-- ===== PART A: goes FIRST, ahead of the names: the tables' words, and 'selects' of the private methods out of them =====
/-- a private method of a class that the tables say can be made, by its rows of tables_1 -/
def lw_okq (q : MethodName × Nat) : Prop := (q.1.cls ≠ "java/lang/invoke/MethodHandle" ∧ q.1.cls ≠ "java/lang/invoke/VarHandle") ∧ Cond.instantiable q.1.cls q.2 ∈ tables_1 ∧ Cond.privateMethod q.1 ∈ tables_1 ∧ Cond.instanceMethod q.1 ∈ tables_1
theorem lw_p0 : lw_okq (⟨"SumsForAll", "ruleNow", "(I)I"⟩, 8) := ⟨⟨by decide +kernel, by decide +kernel⟩, List.mem_of_getElem? (i := 12) (by decide +kernel), List.mem_of_getElem? (i := 210) (by decide +kernel), List.mem_of_getElem? (i := 211) (by decide +kernel)⟩
theorem lw_p1 : lw_okq (⟨"SumsForAll", "write", "(I)V"⟩, 8) := ⟨⟨by decide +kernel, by decide +kernel⟩, List.mem_of_getElem? (i := 12) (by decide +kernel), List.mem_of_getElem? (i := 240) (by decide +kernel), List.mem_of_getElem? (i := 241) (by decide +kernel)⟩
theorem lw_p2 : lw_okq (⟨"SumsForAll$Letters", "writeRing", "()V"⟩, 7) := ⟨⟨by decide +kernel, by decide +kernel⟩, List.mem_of_getElem? (i := 69) (by decide +kernel), List.mem_of_getElem? (i := 251) (by decide +kernel), List.mem_of_getElem? (i := 252) (by decide +kernel)⟩
theorem lw_p3 : lw_okq (⟨"SumsForAll$Letters", "aroundTheRing", "(I)I"⟩, 7) := ⟨⟨by decide +kernel, by decide +kernel⟩, List.mem_of_getElem? (i := 69) (by decide +kernel), List.mem_of_getElem? (i := 255) (by decide +kernel), List.mem_of_getElem? (i := 256) (by decide +kernel)⟩
theorem lw_p4 : lw_okq (⟨"SumsForAll$Letters", "sendPart", "(III)V"⟩, 7) := ⟨⟨by decide +kernel, by decide +kernel⟩, List.mem_of_getElem? (i := 69) (by decide +kernel), List.mem_of_getElem? (i := 259) (by decide +kernel), List.mem_of_getElem? (i := 260) (by decide +kernel)⟩
theorem lw_p5 : lw_okq (⟨"SumsForAll$Letters", "partStart", "(I)I"⟩, 7) := ⟨⟨by decide +kernel, by decide +kernel⟩, List.mem_of_getElem? (i := 69) (by decide +kernel), List.mem_of_getElem? (i := 263) (by decide +kernel), List.mem_of_getElem? (i := 264) (by decide +kernel)⟩
theorem lw_p6 : lw_okq (⟨"SumsForAll$Letters", "send", "(IIIII)V"⟩, 7) := ⟨⟨by decide +kernel, by decide +kernel⟩, List.mem_of_getElem? (i := 69) (by decide +kernel), List.mem_of_getElem? (i := 267) (by decide +kernel), List.mem_of_getElem? (i := 268) (by decide +kernel)⟩
theorem lw_p7 : lw_okq (⟨"SumsForAll$Letters", "endRound", "()V"⟩, 7) := ⟨⟨by decide +kernel, by decide +kernel⟩, List.mem_of_getElem? (i := 69) (by decide +kernel), List.mem_of_getElem? (i := 271) (by decide +kernel), List.mem_of_getElem? (i := 272) (by decide +kernel)⟩
theorem lw_p8 : lw_okq (⟨"SumsForAll$Letters", "writeHalves", "()V"⟩, 7) := ⟨⟨by decide +kernel, by decide +kernel⟩, List.mem_of_getElem? (i := 69) (by decide +kernel), List.mem_of_getElem? (i := 275) (by decide +kernel), List.mem_of_getElem? (i := 276) (by decide +kernel)⟩
theorem lw_p9 : lw_okq (⟨"SumsForAll$Letters", "greatestPowerOfTwo", "()I"⟩, 7) := ⟨⟨by decide +kernel, by decide +kernel⟩, List.mem_of_getElem? (i := 69) (by decide +kernel), List.mem_of_getElem? (i := 279) (by decide +kernel), List.mem_of_getElem? (i := 280) (by decide +kernel)⟩
theorem lw_p10 : lw_okq (⟨"SumsForAll$Letters", "sendWhole", "(III)V"⟩, 7) := ⟨⟨by decide +kernel, by decide +kernel⟩, List.mem_of_getElem? (i := 69) (by decide +kernel), List.mem_of_getElem? (i := 283) (by decide +kernel), List.mem_of_getElem? (i := 284) (by decide +kernel)⟩
theorem lw_p11 : lw_okq (⟨"SumsForAll$Letters", "writeHalving", "(II)V"⟩, 7) := ⟨⟨by decide +kernel, by decide +kernel⟩, List.mem_of_getElem? (i := 69) (by decide +kernel), List.mem_of_getElem? (i := 288) (by decide +kernel), List.mem_of_getElem? (i := 289) (by decide +kernel)⟩
theorem lw_p12 : lw_okq (⟨"SumsForAll$Letters", "writeDoubling", "(II)V"⟩, 7) := ⟨⟨by decide +kernel, by decide +kernel⟩, List.mem_of_getElem? (i := 69) (by decide +kernel), List.mem_of_getElem? (i := 292) (by decide +kernel), List.mem_of_getElem? (i := 293) (by decide +kernel)⟩
theorem lw_p13 : lw_okq (⟨"SumsForAll$Letters", "writeTree", "()V"⟩, 7) := ⟨⟨by decide +kernel, by decide +kernel⟩, List.mem_of_getElem? (i := 69) (by decide +kernel), List.mem_of_getElem? (i := 296) (by decide +kernel), List.mem_of_getElem? (i := 297) (by decide +kernel)⟩
theorem lw_p14 : lw_okq (⟨"SumsForAll$Letters", "deepestLevel", "()I"⟩, 7) := ⟨⟨by decide +kernel, by decide +kernel⟩, List.mem_of_getElem? (i := 69) (by decide +kernel), List.mem_of_getElem? (i := 300) (by decide +kernel), List.mem_of_getElem? (i := 301) (by decide +kernel)⟩
theorem lw_p15 : lw_okq (⟨"SumsForAll$Letters", "writeEach", "()V"⟩, 7) := ⟨⟨by decide +kernel, by decide +kernel⟩, List.mem_of_getElem? (i := 69) (by decide +kernel), List.mem_of_getElem? (i := 310) (by decide +kernel), List.mem_of_getElem? (i := 311) (by decide +kernel)⟩
def lw_privs_1 : List (MethodName × Nat) := [(⟨"SumsForAll", "ruleNow", "(I)I"⟩, 8), (⟨"SumsForAll", "write", "(I)V"⟩, 8), (⟨"SumsForAll$Letters", "writeRing", "()V"⟩, 7), (⟨"SumsForAll$Letters", "aroundTheRing", "(I)I"⟩, 7), (⟨"SumsForAll$Letters", "sendPart", "(III)V"⟩, 7), (⟨"SumsForAll$Letters", "partStart", "(I)I"⟩, 7), (⟨"SumsForAll$Letters", "send", "(IIIII)V"⟩, 7), (⟨"SumsForAll$Letters", "endRound", "()V"⟩, 7), (⟨"SumsForAll$Letters", "writeHalves", "()V"⟩, 7), (⟨"SumsForAll$Letters", "greatestPowerOfTwo", "()I"⟩, 7), (⟨"SumsForAll$Letters", "sendWhole", "(III)V"⟩, 7), (⟨"SumsForAll$Letters", "writeHalving", "(II)V"⟩, 7), (⟨"SumsForAll$Letters", "writeDoubling", "(II)V"⟩, 7), (⟨"SumsForAll$Letters", "writeTree", "()V"⟩, 7), (⟨"SumsForAll$Letters", "deepestLevel", "()I"⟩, 7), (⟨"SumsForAll$Letters", "writeEach", "()V"⟩, 7)]
theorem lw_r1 : ∀ q ∈ lw_privs_1, lw_okq q := List.forall_mem_cons.mpr ⟨lw_p0, List.forall_mem_cons.mpr ⟨lw_p1, List.forall_mem_cons.mpr ⟨lw_p2, List.forall_mem_cons.mpr ⟨lw_p3, List.forall_mem_cons.mpr ⟨lw_p4, List.forall_mem_cons.mpr ⟨lw_p5, List.forall_mem_cons.mpr ⟨lw_p6, List.forall_mem_cons.mpr ⟨lw_p7, List.forall_mem_cons.mpr ⟨lw_p8, List.forall_mem_cons.mpr ⟨lw_p9, List.forall_mem_cons.mpr ⟨lw_p10, List.forall_mem_cons.mpr ⟨lw_p11, List.forall_mem_cons.mpr ⟨lw_p12, List.forall_mem_cons.mpr ⟨lw_p13, List.forall_mem_cons.mpr ⟨lw_p14, List.forall_mem_cons.mpr ⟨lw_p15, fun _ h => absurd h List.not_mem_nil⟩⟩⟩⟩⟩⟩⟩⟩⟩⟩⟩⟩⟩⟩⟩⟩
theorem lw_p16 : lw_okq (⟨"SumsForAll$Busy", "charge", "(II)V"⟩, 4) := ⟨⟨by decide +kernel, by decide +kernel⟩, List.mem_of_getElem? (i := 103) (by decide +kernel), List.mem_of_getElem? (i := 334) (by decide +kernel), List.mem_of_getElem? (i := 335) (by decide +kernel)⟩
theorem lw_p17 : lw_okq (⟨"SumsForAll$Busy", "longestInRound", "()I"⟩, 4) := ⟨⟨by decide +kernel, by decide +kernel⟩, List.mem_of_getElem? (i := 103) (by decide +kernel), List.mem_of_getElem? (i := 339) (by decide +kernel), List.mem_of_getElem? (i := 340) (by decide +kernel)⟩
theorem lw_p18 : lw_okq (⟨"SumsForAll$Play", "deliver", "(LSumsForAll$Setting;LSumsForAll$Letters;I)V"⟩, 2) := ⟨⟨by decide +kernel, by decide +kernel⟩, List.mem_of_getElem? (i := 124) (by decide +kernel), List.mem_of_getElem? (i := 378) (by decide +kernel), List.mem_of_getElem? (i := 379) (by decide +kernel)⟩
theorem lw_p19 : lw_okq (⟨"SumsForAll", "playToTheEnd", "(LSumsForAll$Play;I)V"⟩, 8) := ⟨⟨by decide +kernel, by decide +kernel⟩, List.mem_of_getElem? (i := 12) (by decide +kernel), List.mem_of_getElem? (i := 396) (by decide +kernel), List.mem_of_getElem? (i := 397) (by decide +kernel)⟩
theorem lw_p20 : lw_okq (⟨"SumsForAll", "allRowsAreOne", "(LSumsForAll$Rows;)Z"⟩, 8) := ⟨⟨by decide +kernel, by decide +kernel⟩, List.mem_of_getElem? (i := 12) (by decide +kernel), List.mem_of_getElem? (i := 400) (by decide +kernel), List.mem_of_getElem? (i := 401) (by decide +kernel)⟩
theorem lw_p21 : lw_okq (⟨"SumsForAll", "placesMixedByRising", "(LSumsForAll$Rows;)I"⟩, 8) := ⟨⟨by decide +kernel, by decide +kernel⟩, List.mem_of_getElem? (i := 12) (by decide +kernel), List.mem_of_getElem? (i := 412) (by decide +kernel), List.mem_of_getElem? (i := 413) (by decide +kernel)⟩
theorem lw_p22 : lw_okq (⟨"SumsForAll", "timeIfSizeWere", "(II)I"⟩, 8) := ⟨⟨by decide +kernel, by decide +kernel⟩, List.mem_of_getElem? (i := 12) (by decide +kernel), List.mem_of_getElem? (i := 430) (by decide +kernel), List.mem_of_getElem? (i := 431) (by decide +kernel)⟩
theorem lw_p23 : lw_okq (⟨"SumsForAll", "machinesThatDiffer", "()I"⟩, 8) := ⟨⟨by decide +kernel, by decide +kernel⟩, List.mem_of_getElem? (i := 12) (by decide +kernel), List.mem_of_getElem? (i := 442) (by decide +kernel), List.mem_of_getElem? (i := 443) (by decide +kernel)⟩
theorem lw_p24 : lw_okq (⟨"SumsForAll", "numbersThatDiffer", "()I"⟩, 8) := ⟨⟨by decide +kernel, by decide +kernel⟩, List.mem_of_getElem? (i := 12) (by decide +kernel), List.mem_of_getElem? (i := 446) (by decide +kernel), List.mem_of_getElem? (i := 447) (by decide +kernel)⟩
theorem lw_p25 : lw_okq (⟨"SumsForAll", "imageOf", "(I)LSumsForAll$Setting;"⟩, 8) := ⟨⟨by decide +kernel, by decide +kernel⟩, List.mem_of_getElem? (i := 12) (by decide +kernel), List.mem_of_getElem? (i := 466) (by decide +kernel), List.mem_of_getElem? (i := 467) (by decide +kernel)⟩
theorem lw_p26 : lw_okq (⟨"SumsForAllModel", "begin", "(II)V"⟩, 23) := ⟨⟨by decide +kernel, by decide +kernel⟩, List.mem_of_getElem? (i := 488) (by decide +kernel), List.mem_of_getElem? (i := 494) (by decide +kernel), List.mem_of_getElem? (i := 495) (by decide +kernel)⟩
theorem lw_p27 : lw_okq (⟨"SumsForAllModel", "isMachine", "(I)Z"⟩, 23) := ⟨⟨by decide +kernel, by decide +kernel⟩, List.mem_of_getElem? (i := 488) (by decide +kernel), List.mem_of_getElem? (i := 580) (by decide +kernel), List.mem_of_getElem? (i := 581) (by decide +kernel)⟩
theorem lw_p28 : lw_okq (⟨"SumsForAllModel", "isPlace", "(I)Z"⟩, 23) := ⟨⟨by decide +kernel, by decide +kernel⟩, List.mem_of_getElem? (i := 488) (by decide +kernel), List.mem_of_getElem? (i := 584) (by decide +kernel), List.mem_of_getElem? (i := 585) (by decide +kernel)⟩
theorem lw_p29 : lw_okq (⟨"SumsForAllModel", "lay", "(II)V"⟩, 23) := ⟨⟨by decide +kernel, by decide +kernel⟩, List.mem_of_getElem? (i := 488) (by decide +kernel), List.mem_of_getElem? (i := 610) (by decide +kernel), List.mem_of_getElem? (i := 611) (by decide +kernel)⟩
theorem lw_p30 : lw_okq (⟨"SumsForAllModel", "layRing", "(I)V"⟩, 23) := ⟨⟨by decide +kernel, by decide +kernel⟩, List.mem_of_getElem? (i := 488) (by decide +kernel), List.mem_of_getElem? (i := 614) (by decide +kernel), List.mem_of_getElem? (i := 615) (by decide +kernel)⟩
theorem lw_p31 : lw_okq (⟨"SumsForAllModel", "sendPart", "(IIII)V"⟩, 23) := ⟨⟨by decide +kernel, by decide +kernel⟩, List.mem_of_getElem? (i := 488) (by decide +kernel), List.mem_of_getElem? (i := 618) (by decide +kernel), List.mem_of_getElem? (i := 619) (by decide +kernel)⟩
def lw_privs_2 : List (MethodName × Nat) := [(⟨"SumsForAll$Busy", "charge", "(II)V"⟩, 4), (⟨"SumsForAll$Busy", "longestInRound", "()I"⟩, 4), (⟨"SumsForAll$Play", "deliver", "(LSumsForAll$Setting;LSumsForAll$Letters;I)V"⟩, 2), (⟨"SumsForAll", "playToTheEnd", "(LSumsForAll$Play;I)V"⟩, 8), (⟨"SumsForAll", "allRowsAreOne", "(LSumsForAll$Rows;)Z"⟩, 8), (⟨"SumsForAll", "placesMixedByRising", "(LSumsForAll$Rows;)I"⟩, 8), (⟨"SumsForAll", "timeIfSizeWere", "(II)I"⟩, 8), (⟨"SumsForAll", "machinesThatDiffer", "()I"⟩, 8), (⟨"SumsForAll", "numbersThatDiffer", "()I"⟩, 8), (⟨"SumsForAll", "imageOf", "(I)LSumsForAll$Setting;"⟩, 8), (⟨"SumsForAllModel", "begin", "(II)V"⟩, 23), (⟨"SumsForAllModel", "isMachine", "(I)Z"⟩, 23), (⟨"SumsForAllModel", "isPlace", "(I)Z"⟩, 23), (⟨"SumsForAllModel", "lay", "(II)V"⟩, 23), (⟨"SumsForAllModel", "layRing", "(I)V"⟩, 23), (⟨"SumsForAllModel", "sendPart", "(IIII)V"⟩, 23)]
theorem lw_r2 : ∀ q ∈ lw_privs_2, lw_okq q := List.forall_mem_cons.mpr ⟨lw_p16, List.forall_mem_cons.mpr ⟨lw_p17, List.forall_mem_cons.mpr ⟨lw_p18, List.forall_mem_cons.mpr ⟨lw_p19, List.forall_mem_cons.mpr ⟨lw_p20, List.forall_mem_cons.mpr ⟨lw_p21, List.forall_mem_cons.mpr ⟨lw_p22, List.forall_mem_cons.mpr ⟨lw_p23, List.forall_mem_cons.mpr ⟨lw_p24, List.forall_mem_cons.mpr ⟨lw_p25, List.forall_mem_cons.mpr ⟨lw_p26, List.forall_mem_cons.mpr ⟨lw_p27, List.forall_mem_cons.mpr ⟨lw_p28, List.forall_mem_cons.mpr ⟨lw_p29, List.forall_mem_cons.mpr ⟨lw_p30, List.forall_mem_cons.mpr ⟨lw_p31, fun _ h => absurd h List.not_mem_nil⟩⟩⟩⟩⟩⟩⟩⟩⟩⟩⟩⟩⟩⟩⟩⟩
theorem lw_p32 : lw_okq (⟨"SumsForAllModel", "send", "(IIIII)V"⟩, 23) := ⟨⟨by decide +kernel, by decide +kernel⟩, List.mem_of_getElem? (i := 488) (by decide +kernel), List.mem_of_getElem? (i := 622) (by decide +kernel), List.mem_of_getElem? (i := 623) (by decide +kernel)⟩
theorem lw_p33 : lw_okq (⟨"SumsForAllModel", "layHalves", "(I)V"⟩, 23) := ⟨⟨by decide +kernel, by decide +kernel⟩, List.mem_of_getElem? (i := 488) (by decide +kernel), List.mem_of_getElem? (i := 626) (by decide +kernel), List.mem_of_getElem? (i := 627) (by decide +kernel)⟩
theorem lw_p34 : lw_okq (⟨"SumsForAllModel", "halve", "(II)V"⟩, 23) := ⟨⟨by decide +kernel, by decide +kernel⟩, List.mem_of_getElem? (i := 488) (by decide +kernel), List.mem_of_getElem? (i := 630) (by decide +kernel), List.mem_of_getElem? (i := 631) (by decide +kernel)⟩
theorem lw_p35 : lw_okq (⟨"SumsForAllModel", "takeNext", "(I)V"⟩, 23) := ⟨⟨by decide +kernel, by decide +kernel⟩, List.mem_of_getElem? (i := 488) (by decide +kernel), List.mem_of_getElem? (i := 634) (by decide +kernel), List.mem_of_getElem? (i := 635) (by decide +kernel)⟩
theorem lw_p36 : lw_okq (⟨"SumsForAllModel", "doubleUp", "(II)V"⟩, 23) := ⟨⟨by decide +kernel, by decide +kernel⟩, List.mem_of_getElem? (i := 488) (by decide +kernel), List.mem_of_getElem? (i := 638) (by decide +kernel), List.mem_of_getElem? (i := 639) (by decide +kernel)⟩
theorem lw_p37 : lw_okq (⟨"SumsForAllModel", "layTree", "(I)V"⟩, 23) := ⟨⟨by decide +kernel, by decide +kernel⟩, List.mem_of_getElem? (i := 488) (by decide +kernel), List.mem_of_getElem? (i := 642) (by decide +kernel), List.mem_of_getElem? (i := 643) (by decide +kernel)⟩
theorem lw_p38 : lw_okq (⟨"SumsForAllModel", "layEach", "(I)V"⟩, 23) := ⟨⟨by decide +kernel, by decide +kernel⟩, List.mem_of_getElem? (i := 488) (by decide +kernel), List.mem_of_getElem? (i := 649) (by decide +kernel), List.mem_of_getElem? (i := 650) (by decide +kernel)⟩
theorem lw_p39 : lw_okq (⟨"SumsForAllModel", "clock", "()V"⟩, 23) := ⟨⟨by decide +kernel, by decide +kernel⟩, List.mem_of_getElem? (i := 488) (by decide +kernel), List.mem_of_getElem? (i := 653) (by decide +kernel), List.mem_of_getElem? (i := 654) (by decide +kernel)⟩
theorem lw_p40 : lw_okq (⟨"SumsForAllModel", "priceOf", "(I)I"⟩, 23) := ⟨⟨by decide +kernel, by decide +kernel⟩, List.mem_of_getElem? (i := 488) (by decide +kernel), List.mem_of_getElem? (i := 657) (by decide +kernel), List.mem_of_getElem? (i := 658) (by decide +kernel)⟩
theorem lw_p41 : lw_okq (⟨"SumsForAllModel", "endRound", "(I)V"⟩, 23) := ⟨⟨by decide +kernel, by decide +kernel⟩, List.mem_of_getElem? (i := 488) (by decide +kernel), List.mem_of_getElem? (i := 661) (by decide +kernel), List.mem_of_getElem? (i := 662) (by decide +kernel)⟩
theorem lw_p42 : lw_okq (⟨"SumsForAllModel", "numbers", "()I"⟩, 23) := ⟨⟨by decide +kernel, by decide +kernel⟩, List.mem_of_getElem? (i := 488) (by decide +kernel), List.mem_of_getElem? (i := 665) (by decide +kernel), List.mem_of_getElem? (i := 666) (by decide +kernel)⟩
theorem lw_p43 : lw_okq (⟨"SumsForAllModel", "busiest", "()I"⟩, 23) := ⟨⟨by decide +kernel, by decide +kernel⟩, List.mem_of_getElem? (i := 488) (by decide +kernel), List.mem_of_getElem? (i := 669) (by decide +kernel), List.mem_of_getElem? (i := 670) (by decide +kernel)⟩
theorem lw_p44 : lw_okq (⟨"SumsForAllModel", "go", "(II)V"⟩, 23) := ⟨⟨by decide +kernel, by decide +kernel⟩, List.mem_of_getElem? (i := 488) (by decide +kernel), List.mem_of_getElem? (i := 681) (by decide +kernel), List.mem_of_getElem? (i := 682) (by decide +kernel)⟩
theorem lw_p45 : lw_okq (⟨"SumsForAllModel", "beginRound", "()V"⟩, 23) := ⟨⟨by decide +kernel, by decide +kernel⟩, List.mem_of_getElem? (i := 488) (by decide +kernel), List.mem_of_getElem? (i := 685) (by decide +kernel), List.mem_of_getElem? (i := 686) (by decide +kernel)⟩
theorem lw_p46 : lw_okq (⟨"SumsForAllModel", "come", "(I)V"⟩, 23) := ⟨⟨by decide +kernel, by decide +kernel⟩, List.mem_of_getElem? (i := 488) (by decide +kernel), List.mem_of_getElem? (i := 689) (by decide +kernel), List.mem_of_getElem? (i := 690) (by decide +kernel)⟩
theorem lw_p47 : lw_okq (⟨"SumsForAllModel", "mixed", "(II)I"⟩, 23) := ⟨⟨by decide +kernel, by decide +kernel⟩, List.mem_of_getElem? (i := 488) (by decide +kernel), List.mem_of_getElem? (i := 693) (by decide +kernel), List.mem_of_getElem? (i := 694) (by decide +kernel)⟩
def lw_privs_3 : List (MethodName × Nat) := [(⟨"SumsForAllModel", "send", "(IIIII)V"⟩, 23), (⟨"SumsForAllModel", "layHalves", "(I)V"⟩, 23), (⟨"SumsForAllModel", "halve", "(II)V"⟩, 23), (⟨"SumsForAllModel", "takeNext", "(I)V"⟩, 23), (⟨"SumsForAllModel", "doubleUp", "(II)V"⟩, 23), (⟨"SumsForAllModel", "layTree", "(I)V"⟩, 23), (⟨"SumsForAllModel", "layEach", "(I)V"⟩, 23), (⟨"SumsForAllModel", "clock", "()V"⟩, 23), (⟨"SumsForAllModel", "priceOf", "(I)I"⟩, 23), (⟨"SumsForAllModel", "endRound", "(I)V"⟩, 23), (⟨"SumsForAllModel", "numbers", "()I"⟩, 23), (⟨"SumsForAllModel", "busiest", "()I"⟩, 23), (⟨"SumsForAllModel", "go", "(II)V"⟩, 23), (⟨"SumsForAllModel", "beginRound", "()V"⟩, 23), (⟨"SumsForAllModel", "come", "(I)V"⟩, 23), (⟨"SumsForAllModel", "mixed", "(II)I"⟩, 23)]
theorem lw_r3 : ∀ q ∈ lw_privs_3, lw_okq q := List.forall_mem_cons.mpr ⟨lw_p32, List.forall_mem_cons.mpr ⟨lw_p33, List.forall_mem_cons.mpr ⟨lw_p34, List.forall_mem_cons.mpr ⟨lw_p35, List.forall_mem_cons.mpr ⟨lw_p36, List.forall_mem_cons.mpr ⟨lw_p37, List.forall_mem_cons.mpr ⟨lw_p38, List.forall_mem_cons.mpr ⟨lw_p39, List.forall_mem_cons.mpr ⟨lw_p40, List.forall_mem_cons.mpr ⟨lw_p41, List.forall_mem_cons.mpr ⟨lw_p42, List.forall_mem_cons.mpr ⟨lw_p43, List.forall_mem_cons.mpr ⟨lw_p44, List.forall_mem_cons.mpr ⟨lw_p45, List.forall_mem_cons.mpr ⟨lw_p46, List.forall_mem_cons.mpr ⟨lw_p47, fun _ h => absurd h List.not_mem_nil⟩⟩⟩⟩⟩⟩⟩⟩⟩⟩⟩⟩⟩⟩⟩⟩
theorem lw_p48 : lw_okq (⟨"SumsForAllModel", "goAll", "(II)V"⟩, 23) := ⟨⟨by decide +kernel, by decide +kernel⟩, List.mem_of_getElem? (i := 488) (by decide +kernel), List.mem_of_getElem? (i := 701) (by decide +kernel), List.mem_of_getElem? (i := 702) (by decide +kernel)⟩
theorem lw_p49 : lw_okq (⟨"SumsForAllModel", "allMixed", "(I)I"⟩, 23) := ⟨⟨by decide +kernel, by decide +kernel⟩, List.mem_of_getElem? (i := 488) (by decide +kernel), List.mem_of_getElem? (i := 705) (by decide +kernel), List.mem_of_getElem? (i := 706) (by decide +kernel)⟩
theorem lw_p50 : lw_okq (⟨"SumsForAllModel", "keepEnd", "()V"⟩, 23) := ⟨⟨by decide +kernel, by decide +kernel⟩, List.mem_of_getElem? (i := 488) (by decide +kernel), List.mem_of_getElem? (i := 713) (by decide +kernel), List.mem_of_getElem? (i := 714) (by decide +kernel)⟩
theorem lw_p51 : lw_okq (⟨"SumsForAllModel", "timeBy", "(II)I"⟩, 23) := ⟨⟨by decide +kernel, by decide +kernel⟩, List.mem_of_getElem? (i := 488) (by decide +kernel), List.mem_of_getElem? (i := 721) (by decide +kernel), List.mem_of_getElem? (i := 722) (by decide +kernel)⟩
theorem lw_p52 : lw_okq (⟨"SumsForAllModel", "harmed", "()I"⟩, 23) := ⟨⟨by decide +kernel, by decide +kernel⟩, List.mem_of_getElem? (i := 488) (by decide +kernel), List.mem_of_getElem? (i := 733) (by decide +kernel), List.mem_of_getElem? (i := 734) (by decide +kernel)⟩
theorem lw_p53 : lw_okq (⟨"SumsForAllModel", "otherNumbers", "(I)I"⟩, 23) := ⟨⟨by decide +kernel, by decide +kernel⟩, List.mem_of_getElem? (i := 488) (by decide +kernel), List.mem_of_getElem? (i := 737) (by decide +kernel), List.mem_of_getElem? (i := 738) (by decide +kernel)⟩
theorem lw_p54 : lw_okq (⟨"SumsForAllModel", "harm", "()I"⟩, 23) := ⟨⟨by decide +kernel, by decide +kernel⟩, List.mem_of_getElem? (i := 488) (by decide +kernel), List.mem_of_getElem? (i := 741) (by decide +kernel), List.mem_of_getElem? (i := 742) (by decide +kernel)⟩
theorem lw_p55 : lw_okq (⟨"SumsForAllModel", "allNumbers", "()I"⟩, 23) := ⟨⟨by decide +kernel, by decide +kernel⟩, List.mem_of_getElem? (i := 488) (by decide +kernel), List.mem_of_getElem? (i := 765) (by decide +kernel), List.mem_of_getElem? (i := 766) (by decide +kernel)⟩
def lw_privs_4 : List (MethodName × Nat) := [(⟨"SumsForAllModel", "goAll", "(II)V"⟩, 23), (⟨"SumsForAllModel", "allMixed", "(I)I"⟩, 23), (⟨"SumsForAllModel", "keepEnd", "()V"⟩, 23), (⟨"SumsForAllModel", "timeBy", "(II)I"⟩, 23), (⟨"SumsForAllModel", "harmed", "()I"⟩, 23), (⟨"SumsForAllModel", "otherNumbers", "(I)I"⟩, 23), (⟨"SumsForAllModel", "harm", "()I"⟩, 23), (⟨"SumsForAllModel", "allNumbers", "()I"⟩, 23)]
theorem lw_r4 : ∀ q ∈ lw_privs_4, lw_okq q := List.forall_mem_cons.mpr ⟨lw_p48, List.forall_mem_cons.mpr ⟨lw_p49, List.forall_mem_cons.mpr ⟨lw_p50, List.forall_mem_cons.mpr ⟨lw_p51, List.forall_mem_cons.mpr ⟨lw_p52, List.forall_mem_cons.mpr ⟨lw_p53, List.forall_mem_cons.mpr ⟨lw_p54, List.forall_mem_cons.mpr ⟨lw_p55, fun _ h => absurd h List.not_mem_nil⟩⟩⟩⟩⟩⟩⟩⟩
def lw_privs : List (MethodName × Nat) := lw_privs_1 ++ (lw_privs_2 ++ (lw_privs_3 ++ (lw_privs_4)))
def lw_tbl : List Cond := k2_sels lw_privs ++ tables_1
theorem lw_privs_ok : ∀ q ∈ lw_privs, lw_okq q := by
  show ∀ q ∈ lw_privs_1 ++ (lw_privs_2 ++ (lw_privs_3 ++ (lw_privs_4))), lw_okq q
  exact List.forall_mem_append.mpr ⟨lw_r1, List.forall_mem_append.mpr ⟨lw_r2, List.forall_mem_append.mpr ⟨lw_r3, lw_r4⟩⟩⟩
end
section
/-! ===== BEGIN words of one list among another's, by their places ===== -/
theorem goodIn_r {big : List Cond} (ws : List Cond) (ps : List Nat) (hp : ws = ps.filterMap (fun i => big[i]?)) (h : ws.all goodWord = true) : GoodIn big ws := by
  intro w hw
  have h1 := List.all_eq_true.mp h w hw
  rw [hp] at hw
  obtain ⟨i, -, hi⟩ := List.mem_filterMap.mp hw
  have hm : w ∈ big := by first | exact List.mem_of_getElem? hi | exact List.getElem?_mem hi
  exact ⟨hm, good_of_word h1⟩
theorem goodIn_app {big a b : List Cond} (ha : GoodIn big a) (hb : GoodIn big b) : GoodIn big (a ++ b) := fun w h => (List.mem_append.mp h).elim (ha w) (hb w)
theorem goodIn_ca {big a b : List Cond} {c : Cond} (ha : GoodIn big (c :: a)) (hb : GoodIn big b) : GoodIn big (c :: (a ++ b)) := fun w h => (List.mem_cons.mp h).elim (fun e => ha w (List.mem_cons.mpr (Or.inl e))) (fun h => (List.mem_append.mp h).elim (fun h => ha w (List.mem_cons.mpr (Or.inr h))) (hb w))
theorem goodIn_sub {big ws : List Cond} (hm : ∀ w ∈ ws, w ∈ big) (h : ws.all goodWord = true) : GoodIn big ws := fun w hw => ⟨hm w hw, good_of_word (List.all_eq_true.mp h w hw)⟩
/-! ===== END ===== -/

/-! ===== BEGIN printed: names, fields, word lists, decode rows ===== -/
def RX0 : String := "SumsForAll$Busy"
def TX0 : u_T := fun k => match k with
  | 0 => ("SumsForAll$Busy", "inRound", "[I", true)
  | 1 => ("SumsForAll$Busy", "inAll", "[I", true)
  | 2 => ("SumsForAll$Busy", "time", "I", false)
  | _ => ("SumsForAll$Busy", "longestRound", "I", false)
def tyX0 : Nat → FieldType := fun k => match k with
  | 0 => .array .int
  | 1 => .array .int
  | 2 => .int
  | _ => .int
abbrev wsX00 : List Cond := u_ws RX0 TX0 4
theorem nmX0 : ∀ a, a < 4 → ∀ b, b < 4 → a ≠ b → (TX0 a).2.1 ≠ (TX0 b).2.1 := by decide +kernel
theorem tyX0_ok : ∀ k, k < 4 → parseFieldDescriptor (TX0 k).2.2.1 = some (tyX0 k) := by decide +kernel
abbrev cX0_init : ByteArray := prog_2_method_1_code
def yX0_init : MethodName := ⟨RX0, "<init>", "()V"⟩
abbrev cX0_reckon : ByteArray := prog_2_method_2_code
def yX0_reckon : MethodName := ⟨RX0, "reckon", "(LSumsForAll$Setting;LSumsForAll$Letters;)V"⟩
abbrev cX0_busiestMachine : ByteArray := prog_2_method_3_code
def yX0_busiestMachine : MethodName := ⟨RX0, "busiestMachine", "(I)I"⟩
abbrev cX0_charge : ByteArray := prog_2_method_4_code
def yX0_charge : MethodName := ⟨RX0, "charge", "(II)V"⟩
abbrev cX0_longestInRound : ByteArray := prog_2_method_5_code
def yX0_longestInRound : MethodName := ⟨RX0, "longestInRound", "()I"⟩
def RX1 : String := "SumsForAll$Letters"
def TX1 : u_T := fun k => match k with
  | 0 => ("SumsForAll$Letters", "table", "[I", true)
  | 1 => ("SumsForAll$Letters", "written", "I", false)
  | 2 => ("SumsForAll$Letters", "rounds", "I", false)
  | 3 => ("SumsForAll$Letters", "many", "I", false)
  | 4 => ("SumsForAll$Letters", "size", "I", false)
  | 5 => ("SumsForAll$Letters", "spanFirst", "[I", true)
  | _ => ("SumsForAll$Letters", "spanLength", "[I", true)
def tyX1 : Nat → FieldType := fun k => match k with
  | 0 => .array .int
  | 1 => .int
  | 2 => .int
  | 3 => .int
  | 4 => .int
  | 5 => .array .int
  | _ => .array .int
abbrev wsX10 : List Cond := u_ws RX1 TX1 7
theorem nmX1 : ∀ a, a < 7 → ∀ b, b < 7 → a ≠ b → (TX1 a).2.1 ≠ (TX1 b).2.1 := by decide +kernel
theorem tyX1_ok : ∀ k, k < 7 → parseFieldDescriptor (TX1 k).2.2.1 = some (tyX1 k) := by decide +kernel
abbrev cX1_init : ByteArray := prog_3_method_1_code
def yX1_init : MethodName := ⟨RX1, "<init>", "()V"⟩
abbrev cX1_write : ByteArray := prog_3_method_2_code
def yX1_write : MethodName := ⟨RX1, "write", "(III)V"⟩
abbrev cX1_has : ByteArray := prog_3_method_3_code
def yX1_has : MethodName := ⟨RX1, "has", "(I)Z"⟩
abbrev cX1_told : ByteArray := prog_3_method_4_code
def yX1_told : MethodName := ⟨RX1, "told", "(II)I"⟩
abbrev cX1_brings : ByteArray := prog_3_method_5_code
def yX1_brings : MethodName := ⟨RX1, "brings", "(II)Z"⟩
abbrev cX1_numbersInAll : ByteArray := prog_3_method_6_code
def yX1_numbersInAll : MethodName := ⟨RX1, "numbersInAll", "()I"⟩
abbrev cX1_send : ByteArray := prog_3_method_7_code
def yX1_send : MethodName := ⟨RX1, "send", "(IIIII)V"⟩
abbrev cX1_sendWhole : ByteArray := prog_3_method_8_code
def yX1_sendWhole : MethodName := ⟨RX1, "sendWhole", "(III)V"⟩
abbrev cX1_endRound : ByteArray := prog_3_method_9_code
def yX1_endRound : MethodName := ⟨RX1, "endRound", "()V"⟩
abbrev cX1_writeRing : ByteArray := prog_3_method_10_code
def yX1_writeRing : MethodName := ⟨RX1, "writeRing", "()V"⟩
abbrev cX1_sendPart : ByteArray := prog_3_method_11_code
def yX1_sendPart : MethodName := ⟨RX1, "sendPart", "(III)V"⟩
abbrev cX1_partStart : ByteArray := prog_3_method_12_code
def yX1_partStart : MethodName := ⟨RX1, "partStart", "(I)I"⟩
abbrev cX1_aroundTheRing : ByteArray := prog_3_method_13_code
def yX1_aroundTheRing : MethodName := ⟨RX1, "aroundTheRing", "(I)I"⟩
abbrev cX1_writeHalves : ByteArray := prog_3_method_14_code
def yX1_writeHalves : MethodName := ⟨RX1, "writeHalves", "()V"⟩
abbrev cX1_greatestPowerOfTwo : ByteArray := prog_3_method_15_code
def yX1_greatestPowerOfTwo : MethodName := ⟨RX1, "greatestPowerOfTwo", "()I"⟩
abbrev cX1_writeHalving : ByteArray := prog_3_method_16_code
def yX1_writeHalving : MethodName := ⟨RX1, "writeHalving", "(II)V"⟩
abbrev cX1_writeDoubling : ByteArray := prog_3_method_17_code
def yX1_writeDoubling : MethodName := ⟨RX1, "writeDoubling", "(II)V"⟩
abbrev cX1_writeTree : ByteArray := prog_3_method_18_code
def yX1_writeTree : MethodName := ⟨RX1, "writeTree", "()V"⟩
abbrev cX1_upper : ByteArray := prog_3_method_19_code
def yX1_upper : MethodName := ⟨RX1, "upper", "(I)I"⟩
abbrev cX1_firstOnLevel : ByteArray := prog_3_method_20_code
def yX1_firstOnLevel : MethodName := ⟨RX1, "firstOnLevel", "(I)I"⟩
abbrev cX1_deepestLevel : ByteArray := prog_3_method_21_code
def yX1_deepestLevel : MethodName := ⟨RX1, "deepestLevel", "()I"⟩
abbrev cX1_writeEach : ByteArray := prog_3_method_22_code
def yX1_writeEach : MethodName := ⟨RX1, "writeEach", "()V"⟩
def RX2 : String := "SumsForAll$Play"
def TX2 : u_T := fun k => match k with
  | 0 => ("SumsForAll$Play", "rows", "LSumsForAll$Rows;", true)
  | _ => ("SumsForAll$Play", "atRoundStart", "LSumsForAll$Rows;", true)
def tyX2 : Nat → FieldType := fun k => match k with
  | 0 => .object "SumsForAll$Rows"
  | _ => .object "SumsForAll$Rows"
abbrev wsX20 : List Cond := u_ws RX2 TX2 2
theorem nmX2 : ∀ a, a < 2 → ∀ b, b < 2 → a ≠ b → (TX2 a).2.1 ≠ (TX2 b).2.1 := by decide +kernel
theorem tyX2_ok : ∀ k, k < 2 → parseFieldDescriptor (TX2 k).2.2.1 = some (tyX2 k) := by decide +kernel
abbrev cX2_init : ByteArray := prog_4_method_1_code
def yX2_init : MethodName := ⟨RX2, "<init>", "()V"⟩
abbrev cX2_run : ByteArray := prog_4_method_2_code
def yX2_run : MethodName := ⟨RX2, "run", "(LSumsForAll$Setting;LSumsForAll$Letters;II)V"⟩
abbrev cX2_deliver : ByteArray := prog_4_method_3_code
def yX2_deliver : MethodName := ⟨RX2, "deliver", "(LSumsForAll$Setting;LSumsForAll$Letters;I)V"⟩
abbrev cX2_received : ByteArray := prog_4_method_4_code
def yX2_received : MethodName := ⟨RX2, "received", "(LSumsForAll$Setting;III)I"⟩
def RX3 : String := "SumsForAll$Rows"
def TX3 : u_T := fun k => match k with
  | _ => ("SumsForAll$Rows", "numbers", "[I", true)
def tyX3 : Nat → FieldType := fun k => match k with
  | _ => .array .int
abbrev wsX30 : List Cond := u_ws RX3 TX3 1
theorem nmX3 : ∀ a, a < 1 → ∀ b, b < 1 → a ≠ b → (TX3 a).2.1 ≠ (TX3 b).2.1 := by decide +kernel
theorem tyX3_ok : ∀ k, k < 1 → parseFieldDescriptor (TX3 k).2.2.1 = some (tyX3 k) := by decide +kernel
abbrev cX3_init : ByteArray := prog_5_method_1_code
def yX3_init : MethodName := ⟨RX3, "<init>", "()V"⟩
abbrev cX3_get : ByteArray := prog_5_method_2_code
def yX3_get : MethodName := ⟨RX3, "get", "(II)I"⟩
abbrev cX3_set : ByteArray := prog_5_method_3_code
def yX3_set : MethodName := ⟨RX3, "set", "(III)V"⟩
abbrev cX3_clear : ByteArray := prog_5_method_4_code
def yX3_clear : MethodName := ⟨RX3, "clear", "()V"⟩
abbrev cX3_copyFrom : ByteArray := prog_5_method_5_code
def yX3_copyFrom : MethodName := ⟨RX3, "copyFrom", "(LSumsForAll$Rows;)V"⟩
abbrev cX3_differing : ByteArray := prog_5_method_6_code
def yX3_differing : MethodName := ⟨RX3, "differing", "(ILSumsForAll$Rows;II)I"⟩
abbrev cX3_isInside : ByteArray := prog_5_method_7_code
def yX3_isInside : MethodName := ⟨RX3, "isInside", "(II)Z"⟩
def RX4 : String := "SumsForAll$Setting"
def TX4 : u_T := fun k => match k with
  | 0 => ("SumsForAll$Setting", "rows", "LSumsForAll$Rows;", true)
  | 1 => ("SumsForAll$Setting", "slows", "[I", true)
  | 2 => ("SumsForAll$Setting", "many", "I", false)
  | 3 => ("SumsForAll$Setting", "size", "I", false)
  | 4 => ("SumsForAll$Setting", "op", "I", false)
  | 5 => ("SumsForAll$Setting", "start", "I", false)
  | _ => ("SumsForAll$Setting", "each", "I", false)
def tyX4 : Nat → FieldType := fun k => match k with
  | 0 => .object "SumsForAll$Rows"
  | 1 => .array .int
  | 2 => .int
  | 3 => .int
  | 4 => .int
  | 5 => .int
  | _ => .int
abbrev wsX40 : List Cond := u_ws RX4 TX4 7
theorem nmX4 : ∀ a, a < 7 → ∀ b, b < 7 → a ≠ b → (TX4 a).2.1 ≠ (TX4 b).2.1 := by decide +kernel
theorem tyX4_ok : ∀ k, k < 7 → parseFieldDescriptor (TX4 k).2.2.1 = some (tyX4 k) := by decide +kernel
abbrev cX4_init : ByteArray := prog_6_method_1_code
def yX4_init : MethodName := ⟨RX4, "<init>", "()V"⟩
abbrev cX4_begin : ByteArray := prog_6_method_2_code
def yX4_begin : MethodName := ⟨RX4, "begin", "(II)V"⟩
abbrev cX4_copyFrom : ByteArray := prog_6_method_3_code
def yX4_copyFrom : MethodName := ⟨RX4, "copyFrom", "(LSumsForAll$Setting;)V"⟩
abbrev cX4_hasMachine : ByteArray := prog_6_method_4_code
def yX4_hasMachine : MethodName := ⟨RX4, "hasMachine", "(I)Z"⟩
abbrev cX4_hasPlace : ByteArray := prog_6_method_5_code
def yX4_hasPlace : MethodName := ⟨RX4, "hasPlace", "(I)Z"⟩
abbrev cX4_slowness : ByteArray := prog_6_method_6_code
def yX4_slowness : MethodName := ⟨RX4, "slowness", "(II)I"⟩
abbrev cX4_setSlowness : ByteArray := prog_6_method_7_code
def yX4_setSlowness : MethodName := ⟨RX4, "setSlowness", "(III)V"⟩
abbrev cX4_mixed : ByteArray := prog_6_method_8_code
def yX4_mixed : MethodName := ⟨RX4, "mixed", "(II)I"⟩
abbrev cX4_mixedByRising : ByteArray := prog_6_method_9_code
def yX4_mixedByRising : MethodName := ⟨RX4, "mixedByRising", "(I)I"⟩
abbrev cX4_priceOf : ByteArray := prog_6_method_10_code
def yX4_priceOf : MethodName := ⟨RX4, "priceOf", "(LSumsForAll$Letters;I)I"⟩
abbrev cX4_allNumbersAdded : ByteArray := prog_6_method_11_code
def yX4_allNumbersAdded : MethodName := ⟨RX4, "allNumbersAdded", "()I"⟩
abbrev cX4_hasLine : ByteArray := prog_6_method_12_code
def yX4_hasLine : MethodName := ⟨RX4, "hasLine", "(II)Z"⟩
def RX5 : String := "SumsForAll"
def TX5 : u_T := fun k => match k with
  | 0 => ("SumsForAll", "now", "LSumsForAll$Setting;", true)
  | 1 => ("SumsForAll", "image0", "LSumsForAll$Setting;", true)
  | 2 => ("SumsForAll", "image1", "LSumsForAll$Setting;", true)
  | 3 => ("SumsForAll", "keptImages", "I", false)
  | 4 => ("SumsForAll", "letters", "LSumsForAll$Letters;", true)
  | 5 => ("SumsForAll", "busy", "LSumsForAll$Busy;", true)
  | 6 => ("SumsForAll", "usual", "LSumsForAll$Play;", true)
  | _ => ("SumsForAll", "another", "LSumsForAll$Play;", true)
def tyX5 : Nat → FieldType := fun k => match k with
  | 0 => .object "SumsForAll$Setting"
  | 1 => .object "SumsForAll$Setting"
  | 2 => .object "SumsForAll$Setting"
  | 3 => .int
  | 4 => .object "SumsForAll$Letters"
  | 5 => .object "SumsForAll$Busy"
  | 6 => .object "SumsForAll$Play"
  | _ => .object "SumsForAll$Play"
abbrev wsX50 : List Cond := u_ws RX5 TX5 8
theorem nmX5 : ∀ a, a < 8 → ∀ b, b < 8 → a ≠ b → (TX5 a).2.1 ≠ (TX5 b).2.1 := by decide +kernel
theorem tyX5_ok : ∀ k, k < 8 → parseFieldDescriptor (TX5 k).2.2.1 = some (tyX5 k) := by decide +kernel
abbrev cX5_init : ByteArray := prog_1_method_1_code
def yX5_init : MethodName := ⟨RX5, "<init>", "()V"⟩
abbrev cX5_machines : ByteArray := prog_1_method_2_code
def yX5_machines : MethodName := ⟨RX5, "machines", "(II)I"⟩
abbrev cX5_put : ByteArray := prog_1_method_3_code
def yX5_put : MethodName := ⟨RX5, "put", "(III)I"⟩
abbrev cX5_rule : ByteArray := prog_1_method_4_code
def yX5_rule : MethodName := ⟨RX5, "rule", "(II)I"⟩
abbrev cX5_slow : ByteArray := prog_1_method_5_code
def yX5_slow : MethodName := ⟨RX5, "slow", "(III)I"⟩
abbrev cX5_at : ByteArray := prog_1_method_6_code
def yX5_at : MethodName := ⟨RX5, "at", "(II)I"⟩
abbrev cX5_way : ByteArray := prog_1_method_7_code
def yX5_way : MethodName := ⟨RX5, "way", "(II)I"⟩
abbrev cX5_letter : ByteArray := prog_1_method_8_code
def yX5_letter : MethodName := ⟨RX5, "letter", "(III)I"⟩
abbrev cX5_behind : ByteArray := prog_1_method_9_code
def yX5_behind : MethodName := ⟨RX5, "behind", "(IIII)I"⟩
abbrev cX5_same : ByteArray := prog_1_method_10_code
def yX5_same : MethodName := ⟨RX5, "same", "(II)I"⟩
abbrev cX5_alike : ByteArray := prog_1_method_11_code
def yX5_alike : MethodName := ⟨RX5, "alike", "(II)I"⟩
abbrev cX5_best : ByteArray := prog_1_method_12_code
def yX5_best : MethodName := ⟨RX5, "best", "(II)I"⟩
abbrev cX5_from : ByteArray := prog_1_method_13_code
def yX5_from : MethodName := ⟨RX5, "from", "(II)I"⟩
abbrev cX5_lost : ByteArray := prog_1_method_14_code
def yX5_lost : MethodName := ⟨RX5, "lost", "(III)I"⟩
abbrev cX5_worst : ByteArray := prog_1_method_15_code
def yX5_worst : MethodName := ⟨RX5, "worst", "(II)I"⟩
abbrev cX5_comes : ByteArray := prog_1_method_16_code
def yX5_comes : MethodName := ⟨RX5, "comes", "(IIII)I"⟩
abbrev cX5_image : ByteArray := prog_1_method_17_code
def yX5_image : MethodName := ⟨RX5, "image", "(I)I"⟩
abbrev cX5_restore : ByteArray := prog_1_method_18_code
def yX5_restore : MethodName := ⟨RX5, "restore", "(I)I"⟩
abbrev cX5_count : ByteArray := prog_1_method_19_code
def yX5_count : MethodName := ⟨RX5, "count", "(I)I"⟩
abbrev cX5_isWithin : ByteArray := prog_1_method_20_code
def yX5_isWithin : MethodName := ⟨RX5, "isWithin", "(III)Z"⟩
abbrev cX5_isWay : ByteArray := prog_1_method_21_code
def yX5_isWay : MethodName := ⟨RX5, "isWay", "(I)Z"⟩
abbrev cX5_asNumber : ByteArray := prog_1_method_22_code
def yX5_asNumber : MethodName := ⟨RX5, "asNumber", "(Z)I"⟩
abbrev cX5_imageOf : ByteArray := prog_1_method_23_code
def yX5_imageOf : MethodName := ⟨RX5, "imageOf", "(I)LSumsForAll$Setting;"⟩
abbrev cX5_ruleNow : ByteArray := prog_1_method_24_code
def yX5_ruleNow : MethodName := ⟨RX5, "ruleNow", "(I)I"⟩
abbrev cX5_write : ByteArray := prog_1_method_25_code
def yX5_write : MethodName := ⟨RX5, "write", "(I)V"⟩
abbrev cX5_playToTheEnd : ByteArray := prog_1_method_26_code
def yX5_playToTheEnd : MethodName := ⟨RX5, "playToTheEnd", "(LSumsForAll$Play;I)V"⟩
abbrev cX5_timeIfSizeWere : ByteArray := prog_1_method_27_code
def yX5_timeIfSizeWere : MethodName := ⟨RX5, "timeIfSizeWere", "(II)I"⟩
abbrev cX5_allRowsAreOne : ByteArray := prog_1_method_28_code
def yX5_allRowsAreOne : MethodName := ⟨RX5, "allRowsAreOne", "(LSumsForAll$Rows;)Z"⟩
abbrev cX5_placesMixedByRising : ByteArray := prog_1_method_29_code
def yX5_placesMixedByRising : MethodName := ⟨RX5, "placesMixedByRising", "(LSumsForAll$Rows;)I"⟩
abbrev cX5_machinesThatDiffer : ByteArray := prog_1_method_30_code
def yX5_machinesThatDiffer : MethodName := ⟨RX5, "machinesThatDiffer", "()I"⟩
abbrev cX5_numbersThatDiffer : ByteArray := prog_1_method_31_code
def yX5_numbersThatDiffer : MethodName := ⟨RX5, "numbersThatDiffer", "()I"⟩
def RX6 : String := "SumsForAllModel"
def TX6 : u_T := fun k => match k with
  | 0 => ("SumsForAllModel", "state", "[I", true)
  | 1 => ("SumsForAllModel", "images", "[I", true)
  | 2 => ("SumsForAllModel", "isKept", "[Z", true)
  | 3 => ("SumsForAllModel", "round", "[I", true)
  | 4 => ("SumsForAllModel", "from", "[I", true)
  | 5 => ("SumsForAllModel", "to", "[I", true)
  | 6 => ("SumsForAllModel", "first", "[I", true)
  | 7 => ("SumsForAllModel", "much", "[I", true)
  | 8 => ("SumsForAllModel", "kind", "[I", true)
  | 9 => ("SumsForAllModel", "letters", "I", false)
  | 10 => ("SumsForAllModel", "rounds", "I", false)
  | 11 => ("SumsForAllModel", "low", "[I", true)
  | 12 => ("SumsForAllModel", "span", "[I", true)
  | 13 => ("SumsForAllModel", "nextLow", "[I", true)
  | 14 => ("SumsForAllModel", "nextSpan", "[I", true)
  | 15 => ("SumsForAllModel", "now", "[I", true)
  | 16 => ("SumsForAllModel", "begun", "[I", true)
  | 17 => ("SumsForAllModel", "busy", "[I", true)
  | 18 => ("SumsForAllModel", "busyAll", "[I", true)
  | 19 => ("SumsForAllModel", "time", "I", false)
  | 20 => ("SumsForAllModel", "longestRound", "I", false)
  | 21 => ("SumsForAllModel", "longest", "I", false)
  | _ => ("SumsForAllModel", "ended", "[I", true)
def tyX6 : Nat → FieldType := fun k => match k with
  | 0 => .array .int
  | 1 => .array .int
  | 2 => .array .boolean
  | 3 => .array .int
  | 4 => .array .int
  | 5 => .array .int
  | 6 => .array .int
  | 7 => .array .int
  | 8 => .array .int
  | 9 => .int
  | 10 => .int
  | 11 => .array .int
  | 12 => .array .int
  | 13 => .array .int
  | 14 => .array .int
  | 15 => .array .int
  | 16 => .array .int
  | 17 => .array .int
  | 18 => .array .int
  | 19 => .int
  | 20 => .int
  | 21 => .int
  | _ => .array .int
abbrev wsX60 : List Cond := u_ws RX6 TX6 23
theorem nmX6 : ∀ a, a < 23 → ∀ b, b < 23 → a ≠ b → (TX6 a).2.1 ≠ (TX6 b).2.1 := by decide +kernel
theorem tyX6_ok : ∀ k, k < 23 → parseFieldDescriptor (TX6 k).2.2.1 = some (tyX6 k) := by decide +kernel
abbrev cX6_init : ByteArray := prog_8_method_1_code
def yX6_init : MethodName := ⟨RX6, "<init>", "()V"⟩
abbrev cX6_begin : ByteArray := prog_8_method_2_code
def yX6_begin : MethodName := ⟨RX6, "begin", "(II)V"⟩
abbrev cX6_in : ByteArray := prog_8_method_3_code
def yX6_in : MethodName := ⟨RX6, "in", "(III)Z"⟩
abbrev cX6_isMachine : ByteArray := prog_8_method_4_code
def yX6_isMachine : MethodName := ⟨RX6, "isMachine", "(I)Z"⟩
abbrev cX6_isPlace : ByteArray := prog_8_method_5_code
def yX6_isPlace : MethodName := ⟨RX6, "isPlace", "(I)Z"⟩
abbrev cX6_isWay : ByteArray := prog_8_method_6_code
def yX6_isWay : MethodName := ⟨RX6, "isWay", "(I)Z"⟩
abbrev cX6_machines : ByteArray := prog_8_method_7_code
def yX6_machines : MethodName := ⟨RX6, "machines", "(II)I"⟩
abbrev cX6_cell : ByteArray := prog_8_method_8_code
def yX6_cell : MethodName := ⟨RX6, "cell", "(II)I"⟩
abbrev cX6_put : ByteArray := prog_8_method_9_code
def yX6_put : MethodName := ⟨RX6, "put", "(III)I"⟩
abbrev cX6_rule : ByteArray := prog_8_method_10_code
def yX6_rule : MethodName := ⟨RX6, "rule", "(II)I"⟩
abbrev cX6_slow : ByteArray := prog_8_method_11_code
def yX6_slow : MethodName := ⟨RX6, "slow", "(III)I"⟩
abbrev cX6_at : ByteArray := prog_8_method_12_code
def yX6_at : MethodName := ⟨RX6, "at", "(II)I"⟩
abbrev cX6_send : ByteArray := prog_8_method_13_code
def yX6_send : MethodName := ⟨RX6, "send", "(IIIII)V"⟩
abbrev cX6_sendPart : ByteArray := prog_8_method_14_code
def yX6_sendPart : MethodName := ⟨RX6, "sendPart", "(IIII)V"⟩
abbrev cX6_layRing : ByteArray := prog_8_method_15_code
def yX6_layRing : MethodName := ⟨RX6, "layRing", "(I)V"⟩
abbrev cX6_takeNext : ByteArray := prog_8_method_16_code
def yX6_takeNext : MethodName := ⟨RX6, "takeNext", "(I)V"⟩
abbrev cX6_halve : ByteArray := prog_8_method_17_code
def yX6_halve : MethodName := ⟨RX6, "halve", "(II)V"⟩
abbrev cX6_doubleUp : ByteArray := prog_8_method_18_code
def yX6_doubleUp : MethodName := ⟨RX6, "doubleUp", "(II)V"⟩
abbrev cX6_layHalves : ByteArray := prog_8_method_19_code
def yX6_layHalves : MethodName := ⟨RX6, "layHalves", "(I)V"⟩
abbrev cX6_levelOf : ByteArray := prog_8_method_20_code
def yX6_levelOf : MethodName := ⟨RX6, "levelOf", "(I)I"⟩
abbrev cX6_layTree : ByteArray := prog_8_method_21_code
def yX6_layTree : MethodName := ⟨RX6, "layTree", "(I)V"⟩
abbrev cX6_layEach : ByteArray := prog_8_method_22_code
def yX6_layEach : MethodName := ⟨RX6, "layEach", "(I)V"⟩
abbrev cX6_lay : ByteArray := prog_8_method_23_code
def yX6_lay : MethodName := ⟨RX6, "lay", "(II)V"⟩
abbrev cX6_mixed : ByteArray := prog_8_method_24_code
def yX6_mixed : MethodName := ⟨RX6, "mixed", "(II)I"⟩
abbrev cX6_come : ByteArray := prog_8_method_25_code
def yX6_come : MethodName := ⟨RX6, "come", "(I)V"⟩
abbrev cX6_beginRound : ByteArray := prog_8_method_26_code
def yX6_beginRound : MethodName := ⟨RX6, "beginRound", "()V"⟩
abbrev cX6_go : ByteArray := prog_8_method_27_code
def yX6_go : MethodName := ⟨RX6, "go", "(II)V"⟩
abbrev cX6_priceOf : ByteArray := prog_8_method_28_code
def yX6_priceOf : MethodName := ⟨RX6, "priceOf", "(I)I"⟩
abbrev cX6_endRound : ByteArray := prog_8_method_29_code
def yX6_endRound : MethodName := ⟨RX6, "endRound", "(I)V"⟩
abbrev cX6_clock : ByteArray := prog_8_method_30_code
def yX6_clock : MethodName := ⟨RX6, "clock", "()V"⟩
abbrev cX6_busiest : ByteArray := prog_8_method_31_code
def yX6_busiest : MethodName := ⟨RX6, "busiest", "()I"⟩
abbrev cX6_numbers : ByteArray := prog_8_method_32_code
def yX6_numbers : MethodName := ⟨RX6, "numbers", "()I"⟩
abbrev cX6_way : ByteArray := prog_8_method_33_code
def yX6_way : MethodName := ⟨RX6, "way", "(II)I"⟩
abbrev cX6_letter : ByteArray := prog_8_method_34_code
def yX6_letter : MethodName := ⟨RX6, "letter", "(III)I"⟩
abbrev cX6_behind : ByteArray := prog_8_method_35_code
def yX6_behind : MethodName := ⟨RX6, "behind", "(IIII)I"⟩
abbrev cX6_goAll : ByteArray := prog_8_method_36_code
def yX6_goAll : MethodName := ⟨RX6, "goAll", "(II)V"⟩
abbrev cX6_allMixed : ByteArray := prog_8_method_37_code
def yX6_allMixed : MethodName := ⟨RX6, "allMixed", "(I)I"⟩
abbrev cX6_same : ByteArray := prog_8_method_38_code
def yX6_same : MethodName := ⟨RX6, "same", "(II)I"⟩
abbrev cX6_keepEnd : ByteArray := prog_8_method_39_code
def yX6_keepEnd : MethodName := ⟨RX6, "keepEnd", "()V"⟩
abbrev cX6_alike : ByteArray := prog_8_method_40_code
def yX6_alike : MethodName := ⟨RX6, "alike", "(II)I"⟩
abbrev cX6_timeBy : ByteArray := prog_8_method_41_code
def yX6_timeBy : MethodName := ⟨RX6, "timeBy", "(II)I"⟩
abbrev cX6_best : ByteArray := prog_8_method_42_code
def yX6_best : MethodName := ⟨RX6, "best", "(II)I"⟩
abbrev cX6_from : ByteArray := prog_8_method_43_code
def yX6_from : MethodName := ⟨RX6, "from", "(II)I"⟩
abbrev cX6_otherNumbers : ByteArray := prog_8_method_44_code
def yX6_otherNumbers : MethodName := ⟨RX6, "otherNumbers", "(I)I"⟩
abbrev cX6_harm : ByteArray := prog_8_method_45_code
def yX6_harm : MethodName := ⟨RX6, "harm", "()I"⟩
abbrev cX6_harmed : ByteArray := prog_8_method_46_code
def yX6_harmed : MethodName := ⟨RX6, "harmed", "()I"⟩
abbrev cX6_lost : ByteArray := prog_8_method_47_code
def yX6_lost : MethodName := ⟨RX6, "lost", "(III)I"⟩
abbrev cX6_worst : ByteArray := prog_8_method_48_code
def yX6_worst : MethodName := ⟨RX6, "worst", "(II)I"⟩
abbrev cX6_comes : ByteArray := prog_8_method_49_code
def yX6_comes : MethodName := ⟨RX6, "comes", "(IIII)I"⟩
abbrev cX6_image : ByteArray := prog_8_method_50_code
def yX6_image : MethodName := ⟨RX6, "image", "(I)I"⟩
abbrev cX6_restore : ByteArray := prog_8_method_51_code
def yX6_restore : MethodName := ⟨RX6, "restore", "(I)I"⟩
abbrev cX6_allNumbers : ByteArray := prog_8_method_52_code
def yX6_allNumbers : MethodName := ⟨RX6, "allNumbers", "()I"⟩
abbrev cX6_count : ByteArray := prog_8_method_53_code
def yX6_count : MethodName := ⟨RX6, "count", "(I)I"⟩
def RJ9 : String := "java/lang/Math"
def TJ9 : u_T := fun k => match k with
  | _ => ("", "", "", false)
def tyJ9 : Nat → FieldType := fun k => match k with
  | _ => .int
abbrev wsJ90 : List Cond := u_ws RJ9 TJ9 0
theorem nmJ9 : ∀ a, a < 0 → ∀ b, b < 0 → a ≠ b → (TJ9 a).2.1 ≠ (TJ9 b).2.1 := by decide +kernel
theorem tyJ9_ok : ∀ k, k < 0 → parseFieldDescriptor (TJ9 k).2.2.1 = some (tyJ9 k) := by decide +kernel
abbrev cJ9_max_7cf53 : ByteArray := prog_9_method_65_code
def yJ9_max_7cf53 : MethodName := ⟨RJ9, "max", "(II)I"⟩
abbrev cJ9_min_7cf53 : ByteArray := prog_9_method_69_code
def yJ9_min_7cf53 : MethodName := ⟨RJ9, "min", "(II)I"⟩
def RJ10 : String := "java/lang/System"
def TJ10 : u_T := fun k => match k with
  | _ => ("", "", "", false)
def tyJ10 : Nat → FieldType := fun k => match k with
  | _ => .int
abbrev wsJ100 : List Cond := u_ws RJ10 TJ10 0
theorem nmJ10 : ∀ a, a < 0 → ∀ b, b < 0 → a ≠ b → (TJ10 a).2.1 ≠ (TJ10 b).2.1 := by decide +kernel
theorem tyJ10_ok : ∀ k, k < 0 → parseFieldDescriptor (TJ10 k).2.2.1 = some (tyJ10 k) := by decide +kernel
def RJ7 : String := "java/util/Arrays"
def TJ7 : u_T := fun k => match k with
  | _ => ("", "", "", false)
def tyJ7 : Nat → FieldType := fun k => match k with
  | _ => .int
abbrev wsJ70 : List Cond := u_ws RJ7 TJ7 0
theorem nmJ7 : ∀ a, a < 0 → ∀ b, b < 0 → a ≠ b → (TJ7 a).2.1 ≠ (TJ7 b).2.1 := by decide +kernel
theorem tyJ7_ok : ∀ k, k < 0 → parseFieldDescriptor (TJ7 k).2.2.1 = some (tyJ7 k) := by decide +kernel
abbrev cJ7_fill_53178 : ByteArray := prog_11_method_103_code
def yJ7_fill_53178 : MethodName := ⟨RJ7, "fill", "([II)V"⟩
def RL : String := "SumsForAllLaw"
abbrev cL_law : ByteArray := code
def yL_law : MethodName := ⟨RL, "law", "([I)Z"⟩
abbrev vwCl : List vw_C := [(RX0, TX0, 4), (RX1, TX1, 7), (RX2, TX2, 2), (RX3, TX3, 1), (RX4, TX4, 7), (RX5, TX5, 8), (RX6, TX6, 23)]
end
section
theorem dX0_init_0 : decode cX0_init 0 = .ok (.aload_n 0, 1) := by decide +kernel
theorem dX0_init_1 : decode cX0_init 1 = .ok (.invokespecial 3, 3) := by decide +kernel
theorem dX0_init_4 : decode cX0_init 4 = .ok (.aload_n 0, 1) := by decide +kernel
theorem dX0_init_5 : decode cX0_init 5 = .ok (.bipush 9, 2) := by decide +kernel
theorem dX0_init_7 : decode cX0_init 7 = .ok (.newarray .int, 2) := by decide +kernel
theorem dX0_init_9 : decode cX0_init 9 = .ok (.putfield 9, 3) := by decide +kernel
theorem dX0_init_12 : decode cX0_init 12 = .ok (.aload_n 0, 1) := by decide +kernel
theorem dX0_init_13 : decode cX0_init 13 = .ok (.bipush 9, 2) := by decide +kernel
theorem dX0_init_15 : decode cX0_init 15 = .ok (.newarray .int, 2) := by decide +kernel
theorem dX0_init_17 : decode cX0_init 17 = .ok (.putfield 15, 3) := by decide +kernel
theorem dX0_init_20 : decode cX0_init 20 = .ok (.aload_n 0, 1) := by decide +kernel
theorem dX0_init_21 : decode cX0_init 21 = .ok (.iconst 0, 1) := by decide +kernel
theorem dX0_init_22 : decode cX0_init 22 = .ok (.putfield 18, 3) := by decide +kernel
theorem dX0_init_25 : decode cX0_init 25 = .ok (.aload_n 0, 1) := by decide +kernel
theorem dX0_init_26 : decode cX0_init 26 = .ok (.iconst 0, 1) := by decide +kernel
theorem dX0_init_27 : decode cX0_init 27 = .ok (.putfield 22, 3) := by decide +kernel
theorem dX0_init_30 : decode cX0_init 30 = .ok (.return_, 1) := by decide +kernel
theorem dX0_reckon_0 : decode cX0_reckon 0 = .ok (.aload_n 0, 1) := by decide +kernel
theorem dX0_reckon_1 : decode cX0_reckon 1 = .ok (.getfield 15, 3) := by decide +kernel
theorem dX0_reckon_4 : decode cX0_reckon 4 = .ok (.iconst 0, 1) := by decide +kernel
theorem dX0_reckon_5 : decode cX0_reckon 5 = .ok (.invokestatic 25, 3) := by decide +kernel
theorem dX0_reckon_8 : decode cX0_reckon 8 = .ok (.aload_n 0, 1) := by decide +kernel
theorem dX0_reckon_9 : decode cX0_reckon 9 = .ok (.iconst 0, 1) := by decide +kernel
theorem dX0_reckon_10 : decode cX0_reckon 10 = .ok (.putfield 18, 3) := by decide +kernel
theorem dX0_reckon_13 : decode cX0_reckon 13 = .ok (.aload_n 0, 1) := by decide +kernel
theorem dX0_reckon_14 : decode cX0_reckon 14 = .ok (.iconst 0, 1) := by decide +kernel
theorem dX0_reckon_15 : decode cX0_reckon 15 = .ok (.putfield 22, 3) := by decide +kernel
theorem dX0_reckon_18 : decode cX0_reckon 18 = .ok (.iconst 0, 1) := by decide +kernel
theorem dX0_reckon_19 : decode cX0_reckon 19 = .ok (.istore_n 3, 1) := by decide +kernel
theorem dX0_reckon_20 : decode cX0_reckon 20 = .ok (.iconst 0, 1) := by decide +kernel
theorem dX0_reckon_21 : decode cX0_reckon 21 = .ok (.istore 4, 2) := by decide +kernel
theorem dX0_reckon_23 : decode cX0_reckon 23 = .ok (.iconst 0, 1) := by decide +kernel
theorem dX0_reckon_24 : decode cX0_reckon 24 = .ok (.istore 5, 2) := by decide +kernel
theorem dX0_reckon_26 : decode cX0_reckon 26 = .ok (.iload 5, 2) := by decide +kernel
theorem dX0_reckon_28 : decode cX0_reckon 28 = .ok (.aload_n 2, 1) := by decide +kernel
theorem dX0_reckon_29 : decode cX0_reckon 29 = .ok (.getfield 31, 3) := by decide +kernel
theorem dX0_reckon_32 : decode cX0_reckon 32 = .ok (.if_icmp .ge 111, 3) := by decide +kernel
theorem dX0_reckon_35 : decode cX0_reckon 35 = .ok (.aload_n 0, 1) := by decide +kernel
theorem dX0_reckon_36 : decode cX0_reckon 36 = .ok (.getfield 9, 3) := by decide +kernel
theorem dX0_reckon_39 : decode cX0_reckon 39 = .ok (.iconst 0, 1) := by decide +kernel
theorem dX0_reckon_40 : decode cX0_reckon 40 = .ok (.invokestatic 25, 3) := by decide +kernel
theorem dX0_reckon_43 : decode cX0_reckon 43 = .ok (.iload 4, 2) := by decide +kernel
theorem dX0_reckon_45 : decode cX0_reckon 45 = .ok (.aload_n 2, 1) := by decide +kernel
theorem dX0_reckon_46 : decode cX0_reckon 46 = .ok (.getfield 36, 3) := by decide +kernel
theorem dX0_reckon_49 : decode cX0_reckon 49 = .ok (.if_icmp .ge 56, 3) := by decide +kernel
theorem dX0_reckon_52 : decode cX0_reckon 52 = .ok (.aload_n 2, 1) := by decide +kernel
theorem dX0_reckon_53 : decode cX0_reckon 53 = .ok (.iload 4, 2) := by decide +kernel
theorem dX0_reckon_55 : decode cX0_reckon 55 = .ok (.iconst 0, 1) := by decide +kernel
theorem dX0_reckon_56 : decode cX0_reckon 56 = .ok (.invokevirtual 39, 3) := by decide +kernel
theorem dX0_reckon_59 : decode cX0_reckon 59 = .ok (.iload 5, 2) := by decide +kernel
theorem dX0_reckon_61 : decode cX0_reckon 61 = .ok (.if_icmp .ne 44, 3) := by decide +kernel
theorem dX0_reckon_64 : decode cX0_reckon 64 = .ok (.aload_n 1, 1) := by decide +kernel
theorem dX0_reckon_65 : decode cX0_reckon 65 = .ok (.aload_n 2, 1) := by decide +kernel
theorem dX0_reckon_66 : decode cX0_reckon 66 = .ok (.iload 4, 2) := by decide +kernel
theorem dX0_reckon_68 : decode cX0_reckon 68 = .ok (.invokevirtual 43, 3) := by decide +kernel
theorem dX0_reckon_71 : decode cX0_reckon 71 = .ok (.istore 6, 2) := by decide +kernel
theorem dX0_reckon_73 : decode cX0_reckon 73 = .ok (.aload_n 0, 1) := by decide +kernel
theorem dX0_reckon_74 : decode cX0_reckon 74 = .ok (.aload_n 2, 1) := by decide +kernel
theorem dX0_reckon_75 : decode cX0_reckon 75 = .ok (.iload 4, 2) := by decide +kernel
theorem dX0_reckon_77 : decode cX0_reckon 77 = .ok (.iconst 1, 1) := by decide +kernel
theorem dX0_reckon_78 : decode cX0_reckon 78 = .ok (.invokevirtual 39, 3) := by decide +kernel
theorem dX0_reckon_81 : decode cX0_reckon 81 = .ok (.iload 6, 2) := by decide +kernel
theorem dX0_reckon_83 : decode cX0_reckon 83 = .ok (.invokevirtual 49, 3) := by decide +kernel
theorem dX0_reckon_86 : decode cX0_reckon 86 = .ok (.aload_n 0, 1) := by decide +kernel
theorem dX0_reckon_87 : decode cX0_reckon 87 = .ok (.aload_n 2, 1) := by decide +kernel
theorem dX0_reckon_88 : decode cX0_reckon 88 = .ok (.iload 4, 2) := by decide +kernel
theorem dX0_reckon_90 : decode cX0_reckon 90 = .ok (.iconst 2, 1) := by decide +kernel
theorem dX0_reckon_91 : decode cX0_reckon 91 = .ok (.invokevirtual 39, 3) := by decide +kernel
theorem dX0_reckon_94 : decode cX0_reckon 94 = .ok (.iload 6, 2) := by decide +kernel
theorem dX0_reckon_96 : decode cX0_reckon 96 = .ok (.invokevirtual 49, 3) := by decide +kernel
theorem dX0_reckon_99 : decode cX0_reckon 99 = .ok (.iinc 4 1, 3) := by decide +kernel
theorem dX0_reckon_102 : decode cX0_reckon 102 = .ok (.goto (-59), 3) := by decide +kernel
theorem dX0_reckon_105 : decode cX0_reckon 105 = .ok (.aload_n 0, 1) := by decide +kernel
theorem dX0_reckon_106 : decode cX0_reckon 106 = .ok (.invokevirtual 53, 3) := by decide +kernel
theorem dX0_reckon_109 : decode cX0_reckon 109 = .ok (.istore 6, 2) := by decide +kernel
theorem dX0_reckon_111 : decode cX0_reckon 111 = .ok (.aload_n 0, 1) := by decide +kernel
theorem dX0_reckon_112 : decode cX0_reckon 112 = .ok (.dup, 1) := by decide +kernel
theorem dX0_reckon_113 : decode cX0_reckon 113 = .ok (.getfield 18, 3) := by decide +kernel
theorem dX0_reckon_116 : decode cX0_reckon 116 = .ok (.iload 6, 2) := by decide +kernel
theorem dX0_reckon_118 : decode cX0_reckon 118 = .ok (.iadd, 1) := by decide +kernel
theorem dX0_reckon_119 : decode cX0_reckon 119 = .ok (.putfield 18, 3) := by decide +kernel
theorem dX0_reckon_122 : decode cX0_reckon 122 = .ok (.iload 6, 2) := by decide +kernel
theorem dX0_reckon_124 : decode cX0_reckon 124 = .ok (.iload_n 3, 1) := by decide +kernel
theorem dX0_reckon_125 : decode cX0_reckon 125 = .ok (.if_icmp .le 12, 3) := by decide +kernel
theorem dX0_reckon_128 : decode cX0_reckon 128 = .ok (.iload 6, 2) := by decide +kernel
theorem dX0_reckon_130 : decode cX0_reckon 130 = .ok (.istore_n 3, 1) := by decide +kernel
theorem dX0_reckon_131 : decode cX0_reckon 131 = .ok (.aload_n 0, 1) := by decide +kernel
theorem dX0_reckon_132 : decode cX0_reckon 132 = .ok (.iload 5, 2) := by decide +kernel
theorem dX0_reckon_134 : decode cX0_reckon 134 = .ok (.putfield 22, 3) := by decide +kernel
theorem dX0_reckon_137 : decode cX0_reckon 137 = .ok (.iinc 5 1, 3) := by decide +kernel
theorem dX0_reckon_140 : decode cX0_reckon 140 = .ok (.goto (-114), 3) := by decide +kernel
theorem dX0_reckon_143 : decode cX0_reckon 143 = .ok (.return_, 1) := by decide +kernel
theorem dX0_busiestMachine_0 : decode cX0_busiestMachine 0 = .ok (.iconst 0, 1) := by decide +kernel
theorem dX0_busiestMachine_1 : decode cX0_busiestMachine 1 = .ok (.istore_n 2, 1) := by decide +kernel
theorem dX0_busiestMachine_2 : decode cX0_busiestMachine 2 = .ok (.iconst 1, 1) := by decide +kernel
theorem dX0_busiestMachine_3 : decode cX0_busiestMachine 3 = .ok (.istore_n 3, 1) := by decide +kernel
theorem dX0_busiestMachine_4 : decode cX0_busiestMachine 4 = .ok (.iload_n 3, 1) := by decide +kernel
theorem dX0_busiestMachine_5 : decode cX0_busiestMachine 5 = .ok (.iload_n 1, 1) := by decide +kernel
theorem dX0_busiestMachine_6 : decode cX0_busiestMachine 6 = .ok (.if_icmp .ge 32, 3) := by decide +kernel
theorem dX0_busiestMachine_9 : decode cX0_busiestMachine 9 = .ok (.iload_n 3, 1) := by decide +kernel
theorem dX0_busiestMachine_10 : decode cX0_busiestMachine 10 = .ok (.bipush 9, 2) := by decide +kernel
theorem dX0_busiestMachine_12 : decode cX0_busiestMachine 12 = .ok (.if_icmp .ge 26, 3) := by decide +kernel
theorem dX0_busiestMachine_15 : decode cX0_busiestMachine 15 = .ok (.aload_n 0, 1) := by decide +kernel
theorem dX0_busiestMachine_16 : decode cX0_busiestMachine 16 = .ok (.getfield 15, 3) := by decide +kernel
theorem dX0_busiestMachine_19 : decode cX0_busiestMachine 19 = .ok (.iload_n 3, 1) := by decide +kernel
theorem dX0_busiestMachine_20 : decode cX0_busiestMachine 20 = .ok (.iaload, 1) := by decide +kernel
theorem dX0_busiestMachine_21 : decode cX0_busiestMachine 21 = .ok (.aload_n 0, 1) := by decide +kernel
theorem dX0_busiestMachine_22 : decode cX0_busiestMachine 22 = .ok (.getfield 15, 3) := by decide +kernel
theorem dX0_busiestMachine_25 : decode cX0_busiestMachine 25 = .ok (.iload_n 2, 1) := by decide +kernel
theorem dX0_busiestMachine_26 : decode cX0_busiestMachine 26 = .ok (.iaload, 1) := by decide +kernel
theorem dX0_busiestMachine_27 : decode cX0_busiestMachine 27 = .ok (.if_icmp .le 5, 3) := by decide +kernel
theorem dX0_busiestMachine_30 : decode cX0_busiestMachine 30 = .ok (.iload_n 3, 1) := by decide +kernel
theorem dX0_busiestMachine_31 : decode cX0_busiestMachine 31 = .ok (.istore_n 2, 1) := by decide +kernel
theorem dX0_busiestMachine_32 : decode cX0_busiestMachine 32 = .ok (.iinc 3 1, 3) := by decide +kernel
theorem dX0_busiestMachine_35 : decode cX0_busiestMachine 35 = .ok (.goto (-31), 3) := by decide +kernel
theorem dX0_busiestMachine_38 : decode cX0_busiestMachine 38 = .ok (.iload_n 2, 1) := by decide +kernel
theorem dX0_busiestMachine_39 : decode cX0_busiestMachine 39 = .ok (.ireturn, 1) := by decide +kernel
theorem dX0_charge_0 : decode cX0_charge 0 = .ok (.iload_n 1, 1) := by decide +kernel
theorem dX0_charge_1 : decode cX0_charge 1 = .ok (.iconst 0, 1) := by decide +kernel
theorem dX0_charge_2 : decode cX0_charge 2 = .ok (.bipush 8, 2) := by decide +kernel
theorem dX0_charge_4 : decode cX0_charge 4 = .ok (.invokestatic 57, 3) := by decide +kernel
theorem dX0_charge_7 : decode cX0_charge 7 = .ok (.ifCond .eq 23, 3) := by decide +kernel
theorem dX0_charge_10 : decode cX0_charge 10 = .ok (.aload_n 0, 1) := by decide +kernel
theorem dX0_charge_11 : decode cX0_charge 11 = .ok (.getfield 9, 3) := by decide +kernel
theorem dX0_charge_14 : decode cX0_charge 14 = .ok (.iload_n 1, 1) := by decide +kernel
theorem dX0_charge_15 : decode cX0_charge 15 = .ok (.dup2, 1) := by decide +kernel
theorem dX0_charge_16 : decode cX0_charge 16 = .ok (.iaload, 1) := by decide +kernel
theorem dX0_charge_17 : decode cX0_charge 17 = .ok (.iload_n 2, 1) := by decide +kernel
theorem dX0_charge_18 : decode cX0_charge 18 = .ok (.iadd, 1) := by decide +kernel
theorem dX0_charge_19 : decode cX0_charge 19 = .ok (.iastore, 1) := by decide +kernel
theorem dX0_charge_20 : decode cX0_charge 20 = .ok (.aload_n 0, 1) := by decide +kernel
theorem dX0_charge_21 : decode cX0_charge 21 = .ok (.getfield 15, 3) := by decide +kernel
theorem dX0_charge_24 : decode cX0_charge 24 = .ok (.iload_n 1, 1) := by decide +kernel
theorem dX0_charge_25 : decode cX0_charge 25 = .ok (.dup2, 1) := by decide +kernel
theorem dX0_charge_26 : decode cX0_charge 26 = .ok (.iaload, 1) := by decide +kernel
theorem dX0_charge_27 : decode cX0_charge 27 = .ok (.iload_n 2, 1) := by decide +kernel
theorem dX0_charge_28 : decode cX0_charge 28 = .ok (.iadd, 1) := by decide +kernel
theorem dX0_charge_29 : decode cX0_charge 29 = .ok (.iastore, 1) := by decide +kernel
theorem dX0_charge_30 : decode cX0_charge 30 = .ok (.return_, 1) := by decide +kernel
theorem dX0_longestInRound_0 : decode cX0_longestInRound 0 = .ok (.iconst 0, 1) := by decide +kernel
theorem dX0_longestInRound_1 : decode cX0_longestInRound 1 = .ok (.istore_n 1, 1) := by decide +kernel
theorem dX0_longestInRound_2 : decode cX0_longestInRound 2 = .ok (.iconst 0, 1) := by decide +kernel
theorem dX0_longestInRound_3 : decode cX0_longestInRound 3 = .ok (.istore_n 2, 1) := by decide +kernel
theorem dX0_longestInRound_4 : decode cX0_longestInRound 4 = .ok (.iload_n 2, 1) := by decide +kernel
theorem dX0_longestInRound_5 : decode cX0_longestInRound 5 = .ok (.bipush 9, 2) := by decide +kernel
theorem dX0_longestInRound_7 : decode cX0_longestInRound 7 = .ok (.if_icmp .ge 20, 3) := by decide +kernel
theorem dX0_longestInRound_10 : decode cX0_longestInRound 10 = .ok (.iload_n 1, 1) := by decide +kernel
theorem dX0_longestInRound_11 : decode cX0_longestInRound 11 = .ok (.aload_n 0, 1) := by decide +kernel
theorem dX0_longestInRound_12 : decode cX0_longestInRound 12 = .ok (.getfield 9, 3) := by decide +kernel
theorem dX0_longestInRound_15 : decode cX0_longestInRound 15 = .ok (.iload_n 2, 1) := by decide +kernel
theorem dX0_longestInRound_16 : decode cX0_longestInRound 16 = .ok (.iaload, 1) := by decide +kernel
theorem dX0_longestInRound_17 : decode cX0_longestInRound 17 = .ok (.invokestatic 61, 3) := by decide +kernel
theorem dX0_longestInRound_20 : decode cX0_longestInRound 20 = .ok (.istore_n 1, 1) := by decide +kernel
theorem dX0_longestInRound_21 : decode cX0_longestInRound 21 = .ok (.iinc 2 1, 3) := by decide +kernel
theorem dX0_longestInRound_24 : decode cX0_longestInRound 24 = .ok (.goto (-20), 3) := by decide +kernel
theorem dX0_longestInRound_27 : decode cX0_longestInRound 27 = .ok (.iload_n 1, 1) := by decide +kernel
theorem dX0_longestInRound_28 : decode cX0_longestInRound 28 = .ok (.ireturn, 1) := by decide +kernel
theorem dX1_init_0 : decode cX1_init 0 = .ok (.aload_n 0, 1) := by decide +kernel
theorem dX1_init_1 : decode cX1_init 1 = .ok (.invokespecial 3, 3) := by decide +kernel
theorem dX1_init_4 : decode cX1_init 4 = .ok (.aload_n 0, 1) := by decide +kernel
theorem dX1_init_5 : decode cX1_init 5 = .ok (.sipush 864, 3) := by decide +kernel
theorem dX1_init_8 : decode cX1_init 8 = .ok (.newarray .int, 2) := by decide +kernel
theorem dX1_init_10 : decode cX1_init 10 = .ok (.putfield 9, 3) := by decide +kernel
theorem dX1_init_13 : decode cX1_init 13 = .ok (.aload_n 0, 1) := by decide +kernel
theorem dX1_init_14 : decode cX1_init 14 = .ok (.iconst 0, 1) := by decide +kernel
theorem dX1_init_15 : decode cX1_init 15 = .ok (.putfield 15, 3) := by decide +kernel
theorem dX1_init_18 : decode cX1_init 18 = .ok (.aload_n 0, 1) := by decide +kernel
theorem dX1_init_19 : decode cX1_init 19 = .ok (.iconst 0, 1) := by decide +kernel
theorem dX1_init_20 : decode cX1_init 20 = .ok (.putfield 19, 3) := by decide +kernel
theorem dX1_init_23 : decode cX1_init 23 = .ok (.aload_n 0, 1) := by decide +kernel
theorem dX1_init_24 : decode cX1_init 24 = .ok (.iconst 0, 1) := by decide +kernel
theorem dX1_init_25 : decode cX1_init 25 = .ok (.putfield 22, 3) := by decide +kernel
theorem dX1_init_28 : decode cX1_init 28 = .ok (.aload_n 0, 1) := by decide +kernel
theorem dX1_init_29 : decode cX1_init 29 = .ok (.iconst 0, 1) := by decide +kernel
theorem dX1_init_30 : decode cX1_init 30 = .ok (.putfield 25, 3) := by decide +kernel
theorem dX1_init_33 : decode cX1_init 33 = .ok (.aload_n 0, 1) := by decide +kernel
theorem dX1_init_34 : decode cX1_init 34 = .ok (.bipush 9, 2) := by decide +kernel
theorem dX1_init_36 : decode cX1_init 36 = .ok (.newarray .int, 2) := by decide +kernel
theorem dX1_init_38 : decode cX1_init 38 = .ok (.putfield 28, 3) := by decide +kernel
theorem dX1_init_41 : decode cX1_init 41 = .ok (.aload_n 0, 1) := by decide +kernel
theorem dX1_init_42 : decode cX1_init 42 = .ok (.bipush 9, 2) := by decide +kernel
theorem dX1_init_44 : decode cX1_init 44 = .ok (.newarray .int, 2) := by decide +kernel
theorem dX1_init_46 : decode cX1_init 46 = .ok (.putfield 31, 3) := by decide +kernel
theorem dX1_init_49 : decode cX1_init 49 = .ok (.return_, 1) := by decide +kernel
theorem dX1_write_0 : decode cX1_write 0 = .ok (.aload_n 0, 1) := by decide +kernel
theorem dX1_write_1 : decode cX1_write 1 = .ok (.iconst 0, 1) := by decide +kernel
theorem dX1_write_2 : decode cX1_write 2 = .ok (.putfield 15, 3) := by decide +kernel
theorem dX1_write_5 : decode cX1_write 5 = .ok (.aload_n 0, 1) := by decide +kernel
theorem dX1_write_6 : decode cX1_write 6 = .ok (.iconst 0, 1) := by decide +kernel
theorem dX1_write_7 : decode cX1_write 7 = .ok (.putfield 19, 3) := by decide +kernel
theorem dX1_write_10 : decode cX1_write 10 = .ok (.aload_n 0, 1) := by decide +kernel
theorem dX1_write_11 : decode cX1_write 11 = .ok (.iload_n 2, 1) := by decide +kernel
theorem dX1_write_12 : decode cX1_write 12 = .ok (.bipush 9, 2) := by decide +kernel
theorem dX1_write_14 : decode cX1_write 14 = .ok (.invokestatic 34, 3) := by decide +kernel
theorem dX1_write_17 : decode cX1_write 17 = .ok (.putfield 22, 3) := by decide +kernel
theorem dX1_write_20 : decode cX1_write 20 = .ok (.aload_n 0, 1) := by decide +kernel
theorem dX1_write_21 : decode cX1_write 21 = .ok (.iload_n 3, 1) := by decide +kernel
theorem dX1_write_22 : decode cX1_write 22 = .ok (.putfield 25, 3) := by decide +kernel
theorem dX1_write_25 : decode cX1_write 25 = .ok (.iload_n 1, 1) := by decide +kernel
theorem dX1_write_26 : decode cX1_write 26 = .ok (.ifCond .ne 10, 3) := by decide +kernel
theorem dX1_write_29 : decode cX1_write 29 = .ok (.aload_n 0, 1) := by decide +kernel
theorem dX1_write_30 : decode cX1_write 30 = .ok (.invokevirtual 40, 3) := by decide +kernel
theorem dX1_write_33 : decode cX1_write 33 = .ok (.goto 31, 3) := by decide +kernel
theorem dX1_write_36 : decode cX1_write 36 = .ok (.iload_n 1, 1) := by decide +kernel
theorem dX1_write_37 : decode cX1_write 37 = .ok (.iconst 1, 1) := by decide +kernel
theorem dX1_write_38 : decode cX1_write 38 = .ok (.if_icmp .ne 10, 3) := by decide +kernel
theorem dX1_write_41 : decode cX1_write 41 = .ok (.aload_n 0, 1) := by decide +kernel
theorem dX1_write_42 : decode cX1_write 42 = .ok (.invokevirtual 43, 3) := by decide +kernel
theorem dX1_write_45 : decode cX1_write 45 = .ok (.goto 19, 3) := by decide +kernel
theorem dX1_write_48 : decode cX1_write 48 = .ok (.iload_n 1, 1) := by decide +kernel
theorem dX1_write_49 : decode cX1_write 49 = .ok (.iconst 2, 1) := by decide +kernel
theorem dX1_write_50 : decode cX1_write 50 = .ok (.if_icmp .ne 10, 3) := by decide +kernel
theorem dX1_write_53 : decode cX1_write 53 = .ok (.aload_n 0, 1) := by decide +kernel
theorem dX1_write_54 : decode cX1_write 54 = .ok (.invokevirtual 46, 3) := by decide +kernel
theorem dX1_write_57 : decode cX1_write 57 = .ok (.goto 7, 3) := by decide +kernel
theorem dX1_write_60 : decode cX1_write 60 = .ok (.aload_n 0, 1) := by decide +kernel
theorem dX1_write_61 : decode cX1_write 61 = .ok (.invokevirtual 49, 3) := by decide +kernel
theorem dX1_write_64 : decode cX1_write 64 = .ok (.return_, 1) := by decide +kernel
theorem dX1_has_0 : decode cX1_has 0 = .ok (.iload_n 1, 1) := by decide +kernel
theorem dX1_has_1 : decode cX1_has 1 = .ok (.ifCond .lt 15, 3) := by decide +kernel
theorem dX1_has_4 : decode cX1_has 4 = .ok (.iload_n 1, 1) := by decide +kernel
theorem dX1_has_5 : decode cX1_has 5 = .ok (.aload_n 0, 1) := by decide +kernel
theorem dX1_has_6 : decode cX1_has 6 = .ok (.getfield 15, 3) := by decide +kernel
theorem dX1_has_9 : decode cX1_has 9 = .ok (.if_icmp .ge 7, 3) := by decide +kernel
theorem dX1_has_12 : decode cX1_has 12 = .ok (.iconst 1, 1) := by decide +kernel
theorem dX1_has_13 : decode cX1_has 13 = .ok (.goto 4, 3) := by decide +kernel
theorem dX1_has_16 : decode cX1_has 16 = .ok (.iconst 0, 1) := by decide +kernel
theorem dX1_has_17 : decode cX1_has 17 = .ok (.ireturn, 1) := by decide +kernel
theorem dX1_told_0 : decode cX1_told 0 = .ok (.aload_n 0, 1) := by decide +kernel
theorem dX1_told_1 : decode cX1_told 1 = .ok (.iload_n 1, 1) := by decide +kernel
theorem dX1_told_2 : decode cX1_told 2 = .ok (.invokevirtual 52, 3) := by decide +kernel
theorem dX1_told_5 : decode cX1_told 5 = .ok (.ifCond .eq 26, 3) := by decide +kernel
theorem dX1_told_8 : decode cX1_told 8 = .ok (.iload_n 2, 1) := by decide +kernel
theorem dX1_told_9 : decode cX1_told 9 = .ok (.iconst 0, 1) := by decide +kernel
theorem dX1_told_10 : decode cX1_told 10 = .ok (.iconst 5, 1) := by decide +kernel
theorem dX1_told_11 : decode cX1_told 11 = .ok (.invokestatic 56, 3) := by decide +kernel
theorem dX1_told_14 : decode cX1_told 14 = .ok (.ifCond .eq 17, 3) := by decide +kernel
theorem dX1_told_17 : decode cX1_told 17 = .ok (.aload_n 0, 1) := by decide +kernel
theorem dX1_told_18 : decode cX1_told 18 = .ok (.getfield 9, 3) := by decide +kernel
theorem dX1_told_21 : decode cX1_told 21 = .ok (.iload_n 1, 1) := by decide +kernel
theorem dX1_told_22 : decode cX1_told 22 = .ok (.bipush 6, 2) := by decide +kernel
theorem dX1_told_24 : decode cX1_told 24 = .ok (.imul, 1) := by decide +kernel
theorem dX1_told_25 : decode cX1_told 25 = .ok (.iload_n 2, 1) := by decide +kernel
theorem dX1_told_26 : decode cX1_told 26 = .ok (.iadd, 1) := by decide +kernel
theorem dX1_told_27 : decode cX1_told 27 = .ok (.iaload, 1) := by decide +kernel
theorem dX1_told_28 : decode cX1_told 28 = .ok (.goto 4, 3) := by decide +kernel
theorem dX1_told_31 : decode cX1_told 31 = .ok (.iconst 0, 1) := by decide +kernel
theorem dX1_told_32 : decode cX1_told 32 = .ok (.ireturn, 1) := by decide +kernel
theorem dX1_brings_0 : decode cX1_brings 0 = .ok (.aload_n 0, 1) := by decide +kernel
theorem dX1_brings_1 : decode cX1_brings 1 = .ok (.iload_n 1, 1) := by decide +kernel
theorem dX1_brings_2 : decode cX1_brings 2 = .ok (.iconst 3, 1) := by decide +kernel
theorem dX1_brings_3 : decode cX1_brings 3 = .ok (.invokevirtual 60, 3) := by decide +kernel
theorem dX1_brings_6 : decode cX1_brings 6 = .ok (.istore_n 3, 1) := by decide +kernel
theorem dX1_brings_7 : decode cX1_brings 7 = .ok (.iload_n 2, 1) := by decide +kernel
theorem dX1_brings_8 : decode cX1_brings 8 = .ok (.iload_n 3, 1) := by decide +kernel
theorem dX1_brings_9 : decode cX1_brings 9 = .ok (.if_icmp .lt 19, 3) := by decide +kernel
theorem dX1_brings_12 : decode cX1_brings 12 = .ok (.iload_n 2, 1) := by decide +kernel
theorem dX1_brings_13 : decode cX1_brings 13 = .ok (.iload_n 3, 1) := by decide +kernel
theorem dX1_brings_14 : decode cX1_brings 14 = .ok (.aload_n 0, 1) := by decide +kernel
theorem dX1_brings_15 : decode cX1_brings 15 = .ok (.iload_n 1, 1) := by decide +kernel
theorem dX1_brings_16 : decode cX1_brings 16 = .ok (.iconst 4, 1) := by decide +kernel
theorem dX1_brings_17 : decode cX1_brings 17 = .ok (.invokevirtual 60, 3) := by decide +kernel
theorem dX1_brings_20 : decode cX1_brings 20 = .ok (.iadd, 1) := by decide +kernel
theorem dX1_brings_21 : decode cX1_brings 21 = .ok (.if_icmp .ge 7, 3) := by decide +kernel
theorem dX1_brings_24 : decode cX1_brings 24 = .ok (.iconst 1, 1) := by decide +kernel
theorem dX1_brings_25 : decode cX1_brings 25 = .ok (.goto 4, 3) := by decide +kernel
theorem dX1_brings_28 : decode cX1_brings 28 = .ok (.iconst 0, 1) := by decide +kernel
theorem dX1_brings_29 : decode cX1_brings 29 = .ok (.ireturn, 1) := by decide +kernel
theorem dX1_numbersInAll_0 : decode cX1_numbersInAll 0 = .ok (.iconst 0, 1) := by decide +kernel
theorem dX1_numbersInAll_1 : decode cX1_numbersInAll 1 = .ok (.istore_n 1, 1) := by decide +kernel
theorem dX1_numbersInAll_2 : decode cX1_numbersInAll 2 = .ok (.iconst 0, 1) := by decide +kernel
theorem dX1_numbersInAll_3 : decode cX1_numbersInAll 3 = .ok (.istore_n 2, 1) := by decide +kernel
theorem dX1_numbersInAll_4 : decode cX1_numbersInAll 4 = .ok (.iload_n 2, 1) := by decide +kernel
theorem dX1_numbersInAll_5 : decode cX1_numbersInAll 5 = .ok (.aload_n 0, 1) := by decide +kernel
theorem dX1_numbersInAll_6 : decode cX1_numbersInAll 6 = .ok (.getfield 15, 3) := by decide +kernel
theorem dX1_numbersInAll_9 : decode cX1_numbersInAll 9 = .ok (.if_icmp .ge 18, 3) := by decide +kernel
theorem dX1_numbersInAll_12 : decode cX1_numbersInAll 12 = .ok (.iload_n 1, 1) := by decide +kernel
theorem dX1_numbersInAll_13 : decode cX1_numbersInAll 13 = .ok (.aload_n 0, 1) := by decide +kernel
theorem dX1_numbersInAll_14 : decode cX1_numbersInAll 14 = .ok (.iload_n 2, 1) := by decide +kernel
theorem dX1_numbersInAll_15 : decode cX1_numbersInAll 15 = .ok (.iconst 4, 1) := by decide +kernel
theorem dX1_numbersInAll_16 : decode cX1_numbersInAll 16 = .ok (.invokevirtual 60, 3) := by decide +kernel
theorem dX1_numbersInAll_19 : decode cX1_numbersInAll 19 = .ok (.iadd, 1) := by decide +kernel
theorem dX1_numbersInAll_20 : decode cX1_numbersInAll 20 = .ok (.istore_n 1, 1) := by decide +kernel
theorem dX1_numbersInAll_21 : decode cX1_numbersInAll 21 = .ok (.iinc 2 1, 3) := by decide +kernel
theorem dX1_numbersInAll_24 : decode cX1_numbersInAll 24 = .ok (.goto (-20), 3) := by decide +kernel
theorem dX1_numbersInAll_27 : decode cX1_numbersInAll 27 = .ok (.iload_n 1, 1) := by decide +kernel
theorem dX1_numbersInAll_28 : decode cX1_numbersInAll 28 = .ok (.ireturn, 1) := by decide +kernel
theorem dX1_send_0 : decode cX1_send 0 = .ok (.aload_n 0, 1) := by decide +kernel
theorem dX1_send_1 : decode cX1_send 1 = .ok (.getfield 15, 3) := by decide +kernel
theorem dX1_send_4 : decode cX1_send 4 = .ok (.sipush 144, 3) := by decide +kernel
theorem dX1_send_7 : decode cX1_send 7 = .ok (.if_icmp .lt 4, 3) := by decide +kernel
theorem dX1_send_10 : decode cX1_send 10 = .ok (.return_, 1) := by decide +kernel
theorem dX1_send_11 : decode cX1_send 11 = .ok (.aload_n 0, 1) := by decide +kernel
theorem dX1_send_12 : decode cX1_send 12 = .ok (.getfield 15, 3) := by decide +kernel
theorem dX1_send_15 : decode cX1_send 15 = .ok (.bipush 6, 2) := by decide +kernel
theorem dX1_send_17 : decode cX1_send 17 = .ok (.imul, 1) := by decide +kernel
theorem dX1_send_18 : decode cX1_send 18 = .ok (.istore 6, 2) := by decide +kernel
theorem dX1_send_20 : decode cX1_send 20 = .ok (.aload_n 0, 1) := by decide +kernel
theorem dX1_send_21 : decode cX1_send 21 = .ok (.getfield 9, 3) := by decide +kernel
theorem dX1_send_24 : decode cX1_send 24 = .ok (.iload 6, 2) := by decide +kernel
theorem dX1_send_26 : decode cX1_send 26 = .ok (.iconst 0, 1) := by decide +kernel
theorem dX1_send_27 : decode cX1_send 27 = .ok (.iadd, 1) := by decide +kernel
theorem dX1_send_28 : decode cX1_send 28 = .ok (.aload_n 0, 1) := by decide +kernel
theorem dX1_send_29 : decode cX1_send 29 = .ok (.getfield 19, 3) := by decide +kernel
theorem dX1_send_32 : decode cX1_send 32 = .ok (.iastore, 1) := by decide +kernel
theorem dX1_send_33 : decode cX1_send 33 = .ok (.aload_n 0, 1) := by decide +kernel
theorem dX1_send_34 : decode cX1_send 34 = .ok (.getfield 9, 3) := by decide +kernel
theorem dX1_send_37 : decode cX1_send 37 = .ok (.iload 6, 2) := by decide +kernel
theorem dX1_send_39 : decode cX1_send 39 = .ok (.iconst 1, 1) := by decide +kernel
theorem dX1_send_40 : decode cX1_send 40 = .ok (.iadd, 1) := by decide +kernel
theorem dX1_send_41 : decode cX1_send 41 = .ok (.iload_n 1, 1) := by decide +kernel
theorem dX1_send_42 : decode cX1_send 42 = .ok (.iastore, 1) := by decide +kernel
theorem dX1_send_43 : decode cX1_send 43 = .ok (.aload_n 0, 1) := by decide +kernel
theorem dX1_send_44 : decode cX1_send 44 = .ok (.getfield 9, 3) := by decide +kernel
theorem dX1_send_47 : decode cX1_send 47 = .ok (.iload 6, 2) := by decide +kernel
theorem dX1_send_49 : decode cX1_send 49 = .ok (.iconst 2, 1) := by decide +kernel
theorem dX1_send_50 : decode cX1_send 50 = .ok (.iadd, 1) := by decide +kernel
theorem dX1_send_51 : decode cX1_send 51 = .ok (.iload_n 2, 1) := by decide +kernel
theorem dX1_send_52 : decode cX1_send 52 = .ok (.iastore, 1) := by decide +kernel
theorem dX1_send_53 : decode cX1_send 53 = .ok (.aload_n 0, 1) := by decide +kernel
theorem dX1_send_54 : decode cX1_send 54 = .ok (.getfield 9, 3) := by decide +kernel
theorem dX1_send_57 : decode cX1_send 57 = .ok (.iload 6, 2) := by decide +kernel
theorem dX1_send_59 : decode cX1_send 59 = .ok (.iconst 3, 1) := by decide +kernel
theorem dX1_send_60 : decode cX1_send 60 = .ok (.iadd, 1) := by decide +kernel
theorem dX1_send_61 : decode cX1_send 61 = .ok (.iload_n 3, 1) := by decide +kernel
theorem dX1_send_62 : decode cX1_send 62 = .ok (.iastore, 1) := by decide +kernel
theorem dX1_send_63 : decode cX1_send 63 = .ok (.aload_n 0, 1) := by decide +kernel
theorem dX1_send_64 : decode cX1_send 64 = .ok (.getfield 9, 3) := by decide +kernel
theorem dX1_send_67 : decode cX1_send 67 = .ok (.iload 6, 2) := by decide +kernel
theorem dX1_send_69 : decode cX1_send 69 = .ok (.iconst 4, 1) := by decide +kernel
theorem dX1_send_70 : decode cX1_send 70 = .ok (.iadd, 1) := by decide +kernel
theorem dX1_send_71 : decode cX1_send 71 = .ok (.iload 4, 2) := by decide +kernel
theorem dX1_send_73 : decode cX1_send 73 = .ok (.iastore, 1) := by decide +kernel
theorem dX1_send_74 : decode cX1_send 74 = .ok (.aload_n 0, 1) := by decide +kernel
theorem dX1_send_75 : decode cX1_send 75 = .ok (.getfield 9, 3) := by decide +kernel
theorem dX1_send_78 : decode cX1_send 78 = .ok (.iload 6, 2) := by decide +kernel
theorem dX1_send_80 : decode cX1_send 80 = .ok (.iconst 5, 1) := by decide +kernel
theorem dX1_send_81 : decode cX1_send 81 = .ok (.iadd, 1) := by decide +kernel
theorem dX1_send_82 : decode cX1_send 82 = .ok (.iload 5, 2) := by decide +kernel
theorem dX1_send_84 : decode cX1_send 84 = .ok (.iastore, 1) := by decide +kernel
theorem dX1_send_85 : decode cX1_send 85 = .ok (.aload_n 0, 1) := by decide +kernel
theorem dX1_send_86 : decode cX1_send 86 = .ok (.dup, 1) := by decide +kernel
theorem dX1_send_87 : decode cX1_send 87 = .ok (.getfield 15, 3) := by decide +kernel
theorem dX1_send_90 : decode cX1_send 90 = .ok (.iconst 1, 1) := by decide +kernel
theorem dX1_send_91 : decode cX1_send 91 = .ok (.iadd, 1) := by decide +kernel
theorem dX1_send_92 : decode cX1_send 92 = .ok (.putfield 15, 3) := by decide +kernel
theorem dX1_send_95 : decode cX1_send 95 = .ok (.return_, 1) := by decide +kernel
theorem dX1_sendWhole_0 : decode cX1_sendWhole 0 = .ok (.aload_n 0, 1) := by decide +kernel
theorem dX1_sendWhole_1 : decode cX1_sendWhole 1 = .ok (.iload_n 1, 1) := by decide +kernel
theorem dX1_sendWhole_2 : decode cX1_sendWhole 2 = .ok (.iload_n 2, 1) := by decide +kernel
theorem dX1_sendWhole_3 : decode cX1_sendWhole 3 = .ok (.iconst 0, 1) := by decide +kernel
theorem dX1_sendWhole_4 : decode cX1_sendWhole 4 = .ok (.aload_n 0, 1) := by decide +kernel
theorem dX1_sendWhole_5 : decode cX1_sendWhole 5 = .ok (.getfield 25, 3) := by decide +kernel
theorem dX1_sendWhole_8 : decode cX1_sendWhole 8 = .ok (.iload_n 3, 1) := by decide +kernel
theorem dX1_sendWhole_9 : decode cX1_sendWhole 9 = .ok (.invokevirtual 63, 3) := by decide +kernel
theorem dX1_sendWhole_12 : decode cX1_sendWhole 12 = .ok (.return_, 1) := by decide +kernel
theorem dX1_endRound_0 : decode cX1_endRound 0 = .ok (.aload_n 0, 1) := by decide +kernel
theorem dX1_endRound_1 : decode cX1_endRound 1 = .ok (.dup, 1) := by decide +kernel
theorem dX1_endRound_2 : decode cX1_endRound 2 = .ok (.getfield 19, 3) := by decide +kernel
theorem dX1_endRound_5 : decode cX1_endRound 5 = .ok (.iconst 1, 1) := by decide +kernel
theorem dX1_endRound_6 : decode cX1_endRound 6 = .ok (.iadd, 1) := by decide +kernel
theorem dX1_endRound_7 : decode cX1_endRound 7 = .ok (.putfield 19, 3) := by decide +kernel
theorem dX1_endRound_10 : decode cX1_endRound 10 = .ok (.return_, 1) := by decide +kernel
theorem dX1_writeRing_0 : decode cX1_writeRing 0 = .ok (.iconst 0, 1) := by decide +kernel
theorem dX1_writeRing_1 : decode cX1_writeRing 1 = .ok (.istore_n 1, 1) := by decide +kernel
theorem dX1_writeRing_2 : decode cX1_writeRing 2 = .ok (.iload_n 1, 1) := by decide +kernel
theorem dX1_writeRing_3 : decode cX1_writeRing 3 = .ok (.aload_n 0, 1) := by decide +kernel
theorem dX1_writeRing_4 : decode cX1_writeRing 4 = .ok (.getfield 22, 3) := by decide +kernel
theorem dX1_writeRing_7 : decode cX1_writeRing 7 = .ok (.iconst 1, 1) := by decide +kernel
theorem dX1_writeRing_8 : decode cX1_writeRing 8 = .ok (.isub, 1) := by decide +kernel
theorem dX1_writeRing_9 : decode cX1_writeRing 9 = .ok (.if_icmp .ge 42, 3) := by decide +kernel
theorem dX1_writeRing_12 : decode cX1_writeRing 12 = .ok (.iconst 0, 1) := by decide +kernel
theorem dX1_writeRing_13 : decode cX1_writeRing 13 = .ok (.istore_n 2, 1) := by decide +kernel
theorem dX1_writeRing_14 : decode cX1_writeRing 14 = .ok (.iload_n 2, 1) := by decide +kernel
theorem dX1_writeRing_15 : decode cX1_writeRing 15 = .ok (.aload_n 0, 1) := by decide +kernel
theorem dX1_writeRing_16 : decode cX1_writeRing 16 = .ok (.getfield 22, 3) := by decide +kernel
theorem dX1_writeRing_19 : decode cX1_writeRing 19 = .ok (.if_icmp .ge 22, 3) := by decide +kernel
theorem dX1_writeRing_22 : decode cX1_writeRing 22 = .ok (.aload_n 0, 1) := by decide +kernel
theorem dX1_writeRing_23 : decode cX1_writeRing 23 = .ok (.iload_n 2, 1) := by decide +kernel
theorem dX1_writeRing_24 : decode cX1_writeRing 24 = .ok (.aload_n 0, 1) := by decide +kernel
theorem dX1_writeRing_25 : decode cX1_writeRing 25 = .ok (.iload_n 2, 1) := by decide +kernel
theorem dX1_writeRing_26 : decode cX1_writeRing 26 = .ok (.iload_n 1, 1) := by decide +kernel
theorem dX1_writeRing_27 : decode cX1_writeRing 27 = .ok (.isub, 1) := by decide +kernel
theorem dX1_writeRing_28 : decode cX1_writeRing 28 = .ok (.invokevirtual 67, 3) := by decide +kernel
theorem dX1_writeRing_31 : decode cX1_writeRing 31 = .ok (.iconst 1, 1) := by decide +kernel
theorem dX1_writeRing_32 : decode cX1_writeRing 32 = .ok (.invokevirtual 71, 3) := by decide +kernel
theorem dX1_writeRing_35 : decode cX1_writeRing 35 = .ok (.iinc 2 1, 3) := by decide +kernel
theorem dX1_writeRing_38 : decode cX1_writeRing 38 = .ok (.goto (-24), 3) := by decide +kernel
theorem dX1_writeRing_41 : decode cX1_writeRing 41 = .ok (.aload_n 0, 1) := by decide +kernel
theorem dX1_writeRing_42 : decode cX1_writeRing 42 = .ok (.invokevirtual 75, 3) := by decide +kernel
theorem dX1_writeRing_45 : decode cX1_writeRing 45 = .ok (.iinc 1 1, 3) := by decide +kernel
theorem dX1_writeRing_48 : decode cX1_writeRing 48 = .ok (.goto (-46), 3) := by decide +kernel
theorem dX1_writeRing_51 : decode cX1_writeRing 51 = .ok (.iconst 0, 1) := by decide +kernel
theorem dX1_writeRing_52 : decode cX1_writeRing 52 = .ok (.istore_n 1, 1) := by decide +kernel
theorem dX1_writeRing_53 : decode cX1_writeRing 53 = .ok (.iload_n 1, 1) := by decide +kernel
theorem dX1_writeRing_54 : decode cX1_writeRing 54 = .ok (.aload_n 0, 1) := by decide +kernel
theorem dX1_writeRing_55 : decode cX1_writeRing 55 = .ok (.getfield 22, 3) := by decide +kernel
theorem dX1_writeRing_58 : decode cX1_writeRing 58 = .ok (.iconst 1, 1) := by decide +kernel
theorem dX1_writeRing_59 : decode cX1_writeRing 59 = .ok (.isub, 1) := by decide +kernel
theorem dX1_writeRing_60 : decode cX1_writeRing 60 = .ok (.if_icmp .ge 44, 3) := by decide +kernel
theorem dX1_writeRing_63 : decode cX1_writeRing 63 = .ok (.iconst 0, 1) := by decide +kernel
theorem dX1_writeRing_64 : decode cX1_writeRing 64 = .ok (.istore_n 2, 1) := by decide +kernel
theorem dX1_writeRing_65 : decode cX1_writeRing 65 = .ok (.iload_n 2, 1) := by decide +kernel
theorem dX1_writeRing_66 : decode cX1_writeRing 66 = .ok (.aload_n 0, 1) := by decide +kernel
theorem dX1_writeRing_67 : decode cX1_writeRing 67 = .ok (.getfield 22, 3) := by decide +kernel
theorem dX1_writeRing_70 : decode cX1_writeRing 70 = .ok (.if_icmp .ge 24, 3) := by decide +kernel
theorem dX1_writeRing_73 : decode cX1_writeRing 73 = .ok (.aload_n 0, 1) := by decide +kernel
theorem dX1_writeRing_74 : decode cX1_writeRing 74 = .ok (.iload_n 2, 1) := by decide +kernel
theorem dX1_writeRing_75 : decode cX1_writeRing 75 = .ok (.aload_n 0, 1) := by decide +kernel
theorem dX1_writeRing_76 : decode cX1_writeRing 76 = .ok (.iload_n 2, 1) := by decide +kernel
theorem dX1_writeRing_77 : decode cX1_writeRing 77 = .ok (.iconst 1, 1) := by decide +kernel
theorem dX1_writeRing_78 : decode cX1_writeRing 78 = .ok (.iadd, 1) := by decide +kernel
theorem dX1_writeRing_79 : decode cX1_writeRing 79 = .ok (.iload_n 1, 1) := by decide +kernel
theorem dX1_writeRing_80 : decode cX1_writeRing 80 = .ok (.isub, 1) := by decide +kernel
theorem dX1_writeRing_81 : decode cX1_writeRing 81 = .ok (.invokevirtual 67, 3) := by decide +kernel
theorem dX1_writeRing_84 : decode cX1_writeRing 84 = .ok (.iconst 2, 1) := by decide +kernel
theorem dX1_writeRing_85 : decode cX1_writeRing 85 = .ok (.invokevirtual 71, 3) := by decide +kernel
theorem dX1_writeRing_88 : decode cX1_writeRing 88 = .ok (.iinc 2 1, 3) := by decide +kernel
theorem dX1_writeRing_91 : decode cX1_writeRing 91 = .ok (.goto (-26), 3) := by decide +kernel
theorem dX1_writeRing_94 : decode cX1_writeRing 94 = .ok (.aload_n 0, 1) := by decide +kernel
theorem dX1_writeRing_95 : decode cX1_writeRing 95 = .ok (.invokevirtual 75, 3) := by decide +kernel
theorem dX1_writeRing_98 : decode cX1_writeRing 98 = .ok (.iinc 1 1, 3) := by decide +kernel
theorem dX1_writeRing_101 : decode cX1_writeRing 101 = .ok (.goto (-48), 3) := by decide +kernel
theorem dX1_writeRing_104 : decode cX1_writeRing 104 = .ok (.return_, 1) := by decide +kernel
theorem dX1_sendPart_0 : decode cX1_sendPart 0 = .ok (.aload_n 0, 1) := by decide +kernel
theorem dX1_sendPart_1 : decode cX1_sendPart 1 = .ok (.iload_n 2, 1) := by decide +kernel
theorem dX1_sendPart_2 : decode cX1_sendPart 2 = .ok (.invokevirtual 78, 3) := by decide +kernel
theorem dX1_sendPart_5 : decode cX1_sendPart 5 = .ok (.istore 4, 2) := by decide +kernel
theorem dX1_sendPart_7 : decode cX1_sendPart 7 = .ok (.aload_n 0, 1) := by decide +kernel
theorem dX1_sendPart_8 : decode cX1_sendPart 8 = .ok (.iload_n 1, 1) := by decide +kernel
theorem dX1_sendPart_9 : decode cX1_sendPart 9 = .ok (.aload_n 0, 1) := by decide +kernel
theorem dX1_sendPart_10 : decode cX1_sendPart 10 = .ok (.iload_n 1, 1) := by decide +kernel
theorem dX1_sendPart_11 : decode cX1_sendPart 11 = .ok (.iconst 1, 1) := by decide +kernel
theorem dX1_sendPart_12 : decode cX1_sendPart 12 = .ok (.iadd, 1) := by decide +kernel
theorem dX1_sendPart_13 : decode cX1_sendPart 13 = .ok (.invokevirtual 67, 3) := by decide +kernel
theorem dX1_sendPart_16 : decode cX1_sendPart 16 = .ok (.iload 4, 2) := by decide +kernel
theorem dX1_sendPart_18 : decode cX1_sendPart 18 = .ok (.aload_n 0, 1) := by decide +kernel
theorem dX1_sendPart_19 : decode cX1_sendPart 19 = .ok (.iload_n 2, 1) := by decide +kernel
theorem dX1_sendPart_20 : decode cX1_sendPart 20 = .ok (.iconst 1, 1) := by decide +kernel
theorem dX1_sendPart_21 : decode cX1_sendPart 21 = .ok (.iadd, 1) := by decide +kernel
theorem dX1_sendPart_22 : decode cX1_sendPart 22 = .ok (.invokevirtual 78, 3) := by decide +kernel
theorem dX1_sendPart_25 : decode cX1_sendPart 25 = .ok (.iload 4, 2) := by decide +kernel
theorem dX1_sendPart_27 : decode cX1_sendPart 27 = .ok (.isub, 1) := by decide +kernel
theorem dX1_sendPart_28 : decode cX1_sendPart 28 = .ok (.iload_n 3, 1) := by decide +kernel
theorem dX1_sendPart_29 : decode cX1_sendPart 29 = .ok (.invokevirtual 63, 3) := by decide +kernel
theorem dX1_sendPart_32 : decode cX1_sendPart 32 = .ok (.return_, 1) := by decide +kernel
theorem dX1_partStart_0 : decode cX1_partStart 0 = .ok (.aload_n 0, 1) := by decide +kernel
theorem dX1_partStart_1 : decode cX1_partStart 1 = .ok (.getfield 22, 3) := by decide +kernel
theorem dX1_partStart_4 : decode cX1_partStart 4 = .ok (.ifCond .le 17, 3) := by decide +kernel
theorem dX1_partStart_7 : decode cX1_partStart 7 = .ok (.aload_n 0, 1) := by decide +kernel
theorem dX1_partStart_8 : decode cX1_partStart 8 = .ok (.getfield 25, 3) := by decide +kernel
theorem dX1_partStart_11 : decode cX1_partStart 11 = .ok (.iload_n 1, 1) := by decide +kernel
theorem dX1_partStart_12 : decode cX1_partStart 12 = .ok (.imul, 1) := by decide +kernel
theorem dX1_partStart_13 : decode cX1_partStart 13 = .ok (.aload_n 0, 1) := by decide +kernel
theorem dX1_partStart_14 : decode cX1_partStart 14 = .ok (.getfield 22, 3) := by decide +kernel
theorem dX1_partStart_17 : decode cX1_partStart 17 = .ok (.idiv, 1) := by decide +kernel
theorem dX1_partStart_18 : decode cX1_partStart 18 = .ok (.goto 4, 3) := by decide +kernel
theorem dX1_partStart_21 : decode cX1_partStart 21 = .ok (.iconst 0, 1) := by decide +kernel
theorem dX1_partStart_22 : decode cX1_partStart 22 = .ok (.ireturn, 1) := by decide +kernel
theorem dX1_aroundTheRing_0 : decode cX1_aroundTheRing 0 = .ok (.iload_n 1, 1) := by decide +kernel
theorem dX1_aroundTheRing_1 : decode cX1_aroundTheRing 1 = .ok (.ifCond .ge 12, 3) := by decide +kernel
theorem dX1_aroundTheRing_4 : decode cX1_aroundTheRing 4 = .ok (.iload_n 1, 1) := by decide +kernel
theorem dX1_aroundTheRing_5 : decode cX1_aroundTheRing 5 = .ok (.aload_n 0, 1) := by decide +kernel
theorem dX1_aroundTheRing_6 : decode cX1_aroundTheRing 6 = .ok (.getfield 22, 3) := by decide +kernel
theorem dX1_aroundTheRing_9 : decode cX1_aroundTheRing 9 = .ok (.iadd, 1) := by decide +kernel
theorem dX1_aroundTheRing_10 : decode cX1_aroundTheRing 10 = .ok (.goto 21, 3) := by decide +kernel
theorem dX1_aroundTheRing_13 : decode cX1_aroundTheRing 13 = .ok (.iload_n 1, 1) := by decide +kernel
theorem dX1_aroundTheRing_14 : decode cX1_aroundTheRing 14 = .ok (.aload_n 0, 1) := by decide +kernel
theorem dX1_aroundTheRing_15 : decode cX1_aroundTheRing 15 = .ok (.getfield 22, 3) := by decide +kernel
theorem dX1_aroundTheRing_18 : decode cX1_aroundTheRing 18 = .ok (.if_icmp .lt 12, 3) := by decide +kernel
theorem dX1_aroundTheRing_21 : decode cX1_aroundTheRing 21 = .ok (.iload_n 1, 1) := by decide +kernel
theorem dX1_aroundTheRing_22 : decode cX1_aroundTheRing 22 = .ok (.aload_n 0, 1) := by decide +kernel
theorem dX1_aroundTheRing_23 : decode cX1_aroundTheRing 23 = .ok (.getfield 22, 3) := by decide +kernel
theorem dX1_aroundTheRing_26 : decode cX1_aroundTheRing 26 = .ok (.isub, 1) := by decide +kernel
theorem dX1_aroundTheRing_27 : decode cX1_aroundTheRing 27 = .ok (.goto 4, 3) := by decide +kernel
theorem dX1_aroundTheRing_30 : decode cX1_aroundTheRing 30 = .ok (.iload_n 1, 1) := by decide +kernel
theorem dX1_aroundTheRing_31 : decode cX1_aroundTheRing 31 = .ok (.ireturn, 1) := by decide +kernel
theorem dX1_writeHalves_0 : decode cX1_writeHalves 0 = .ok (.aload_n 0, 1) := by decide +kernel
theorem dX1_writeHalves_1 : decode cX1_writeHalves 1 = .ok (.invokevirtual 81, 3) := by decide +kernel
theorem dX1_writeHalves_4 : decode cX1_writeHalves 4 = .ok (.istore_n 1, 1) := by decide +kernel
theorem dX1_writeHalves_5 : decode cX1_writeHalves 5 = .ok (.aload_n 0, 1) := by decide +kernel
theorem dX1_writeHalves_6 : decode cX1_writeHalves 6 = .ok (.getfield 22, 3) := by decide +kernel
theorem dX1_writeHalves_9 : decode cX1_writeHalves 9 = .ok (.iload_n 1, 1) := by decide +kernel
theorem dX1_writeHalves_10 : decode cX1_writeHalves 10 = .ok (.if_icmp .le 32, 3) := by decide +kernel
theorem dX1_writeHalves_13 : decode cX1_writeHalves 13 = .ok (.iload_n 1, 1) := by decide +kernel
theorem dX1_writeHalves_14 : decode cX1_writeHalves 14 = .ok (.istore_n 2, 1) := by decide +kernel
theorem dX1_writeHalves_15 : decode cX1_writeHalves 15 = .ok (.iload_n 2, 1) := by decide +kernel
theorem dX1_writeHalves_16 : decode cX1_writeHalves 16 = .ok (.aload_n 0, 1) := by decide +kernel
theorem dX1_writeHalves_17 : decode cX1_writeHalves 17 = .ok (.getfield 22, 3) := by decide +kernel
theorem dX1_writeHalves_20 : decode cX1_writeHalves 20 = .ok (.if_icmp .ge 18, 3) := by decide +kernel
theorem dX1_writeHalves_23 : decode cX1_writeHalves 23 = .ok (.aload_n 0, 1) := by decide +kernel
theorem dX1_writeHalves_24 : decode cX1_writeHalves 24 = .ok (.iload_n 2, 1) := by decide +kernel
theorem dX1_writeHalves_25 : decode cX1_writeHalves 25 = .ok (.iload_n 2, 1) := by decide +kernel
theorem dX1_writeHalves_26 : decode cX1_writeHalves 26 = .ok (.iload_n 1, 1) := by decide +kernel
theorem dX1_writeHalves_27 : decode cX1_writeHalves 27 = .ok (.isub, 1) := by decide +kernel
theorem dX1_writeHalves_28 : decode cX1_writeHalves 28 = .ok (.iconst 0, 1) := by decide +kernel
theorem dX1_writeHalves_29 : decode cX1_writeHalves 29 = .ok (.invokevirtual 85, 3) := by decide +kernel
theorem dX1_writeHalves_32 : decode cX1_writeHalves 32 = .ok (.iinc 2 1, 3) := by decide +kernel
theorem dX1_writeHalves_35 : decode cX1_writeHalves 35 = .ok (.goto (-20), 3) := by decide +kernel
theorem dX1_writeHalves_38 : decode cX1_writeHalves 38 = .ok (.aload_n 0, 1) := by decide +kernel
theorem dX1_writeHalves_39 : decode cX1_writeHalves 39 = .ok (.invokevirtual 75, 3) := by decide +kernel
theorem dX1_writeHalves_42 : decode cX1_writeHalves 42 = .ok (.aload_n 0, 1) := by decide +kernel
theorem dX1_writeHalves_43 : decode cX1_writeHalves 43 = .ok (.getfield 28, 3) := by decide +kernel
theorem dX1_writeHalves_46 : decode cX1_writeHalves 46 = .ok (.iconst 0, 1) := by decide +kernel
theorem dX1_writeHalves_47 : decode cX1_writeHalves 47 = .ok (.invokestatic 88, 3) := by decide +kernel
theorem dX1_writeHalves_50 : decode cX1_writeHalves 50 = .ok (.aload_n 0, 1) := by decide +kernel
theorem dX1_writeHalves_51 : decode cX1_writeHalves 51 = .ok (.getfield 31, 3) := by decide +kernel
theorem dX1_writeHalves_54 : decode cX1_writeHalves 54 = .ok (.aload_n 0, 1) := by decide +kernel
theorem dX1_writeHalves_55 : decode cX1_writeHalves 55 = .ok (.getfield 25, 3) := by decide +kernel
theorem dX1_writeHalves_58 : decode cX1_writeHalves 58 = .ok (.invokestatic 88, 3) := by decide +kernel
theorem dX1_writeHalves_61 : decode cX1_writeHalves 61 = .ok (.iload_n 1, 1) := by decide +kernel
theorem dX1_writeHalves_62 : decode cX1_writeHalves 62 = .ok (.iconst 2, 1) := by decide +kernel
theorem dX1_writeHalves_63 : decode cX1_writeHalves 63 = .ok (.idiv, 1) := by decide +kernel
theorem dX1_writeHalves_64 : decode cX1_writeHalves 64 = .ok (.istore_n 2, 1) := by decide +kernel
theorem dX1_writeHalves_65 : decode cX1_writeHalves 65 = .ok (.iload_n 2, 1) := by decide +kernel
theorem dX1_writeHalves_66 : decode cX1_writeHalves 66 = .ok (.iconst 1, 1) := by decide +kernel
theorem dX1_writeHalves_67 : decode cX1_writeHalves 67 = .ok (.if_icmp .lt 16, 3) := by decide +kernel
theorem dX1_writeHalves_70 : decode cX1_writeHalves 70 = .ok (.aload_n 0, 1) := by decide +kernel
theorem dX1_writeHalves_71 : decode cX1_writeHalves 71 = .ok (.iload_n 1, 1) := by decide +kernel
theorem dX1_writeHalves_72 : decode cX1_writeHalves 72 = .ok (.iload_n 2, 1) := by decide +kernel
theorem dX1_writeHalves_73 : decode cX1_writeHalves 73 = .ok (.invokevirtual 94, 3) := by decide +kernel
theorem dX1_writeHalves_76 : decode cX1_writeHalves 76 = .ok (.iload_n 2, 1) := by decide +kernel
theorem dX1_writeHalves_77 : decode cX1_writeHalves 77 = .ok (.iconst 2, 1) := by decide +kernel
theorem dX1_writeHalves_78 : decode cX1_writeHalves 78 = .ok (.idiv, 1) := by decide +kernel
theorem dX1_writeHalves_79 : decode cX1_writeHalves 79 = .ok (.istore_n 2, 1) := by decide +kernel
theorem dX1_writeHalves_80 : decode cX1_writeHalves 80 = .ok (.goto (-15), 3) := by decide +kernel
theorem dX1_writeHalves_83 : decode cX1_writeHalves 83 = .ok (.iconst 1, 1) := by decide +kernel
theorem dX1_writeHalves_84 : decode cX1_writeHalves 84 = .ok (.istore_n 2, 1) := by decide +kernel
theorem dX1_writeHalves_85 : decode cX1_writeHalves 85 = .ok (.iload_n 2, 1) := by decide +kernel
theorem dX1_writeHalves_86 : decode cX1_writeHalves 86 = .ok (.iload_n 1, 1) := by decide +kernel
theorem dX1_writeHalves_87 : decode cX1_writeHalves 87 = .ok (.if_icmp .ge 16, 3) := by decide +kernel
theorem dX1_writeHalves_90 : decode cX1_writeHalves 90 = .ok (.aload_n 0, 1) := by decide +kernel
theorem dX1_writeHalves_91 : decode cX1_writeHalves 91 = .ok (.iload_n 1, 1) := by decide +kernel
theorem dX1_writeHalves_92 : decode cX1_writeHalves 92 = .ok (.iload_n 2, 1) := by decide +kernel
theorem dX1_writeHalves_93 : decode cX1_writeHalves 93 = .ok (.invokevirtual 98, 3) := by decide +kernel
theorem dX1_writeHalves_96 : decode cX1_writeHalves 96 = .ok (.iload_n 2, 1) := by decide +kernel
theorem dX1_writeHalves_97 : decode cX1_writeHalves 97 = .ok (.iconst 2, 1) := by decide +kernel
theorem dX1_writeHalves_98 : decode cX1_writeHalves 98 = .ok (.imul, 1) := by decide +kernel
theorem dX1_writeHalves_99 : decode cX1_writeHalves 99 = .ok (.istore_n 2, 1) := by decide +kernel
theorem dX1_writeHalves_100 : decode cX1_writeHalves 100 = .ok (.goto (-15), 3) := by decide +kernel
theorem dX1_writeHalves_103 : decode cX1_writeHalves 103 = .ok (.aload_n 0, 1) := by decide +kernel
theorem dX1_writeHalves_104 : decode cX1_writeHalves 104 = .ok (.getfield 22, 3) := by decide +kernel
theorem dX1_writeHalves_107 : decode cX1_writeHalves 107 = .ok (.iload_n 1, 1) := by decide +kernel
theorem dX1_writeHalves_108 : decode cX1_writeHalves 108 = .ok (.if_icmp .le 34, 3) := by decide +kernel
theorem dX1_writeHalves_111 : decode cX1_writeHalves 111 = .ok (.iconst 0, 1) := by decide +kernel
theorem dX1_writeHalves_112 : decode cX1_writeHalves 112 = .ok (.istore_n 2, 1) := by decide +kernel
theorem dX1_writeHalves_113 : decode cX1_writeHalves 113 = .ok (.iload_n 2, 1) := by decide +kernel
theorem dX1_writeHalves_114 : decode cX1_writeHalves 114 = .ok (.aload_n 0, 1) := by decide +kernel
theorem dX1_writeHalves_115 : decode cX1_writeHalves 115 = .ok (.getfield 22, 3) := by decide +kernel
theorem dX1_writeHalves_118 : decode cX1_writeHalves 118 = .ok (.iload_n 1, 1) := by decide +kernel
theorem dX1_writeHalves_119 : decode cX1_writeHalves 119 = .ok (.isub, 1) := by decide +kernel
theorem dX1_writeHalves_120 : decode cX1_writeHalves 120 = .ok (.if_icmp .ge 18, 3) := by decide +kernel
theorem dX1_writeHalves_123 : decode cX1_writeHalves 123 = .ok (.aload_n 0, 1) := by decide +kernel
theorem dX1_writeHalves_124 : decode cX1_writeHalves 124 = .ok (.iload_n 2, 1) := by decide +kernel
theorem dX1_writeHalves_125 : decode cX1_writeHalves 125 = .ok (.iload_n 2, 1) := by decide +kernel
theorem dX1_writeHalves_126 : decode cX1_writeHalves 126 = .ok (.iload_n 1, 1) := by decide +kernel
theorem dX1_writeHalves_127 : decode cX1_writeHalves 127 = .ok (.iadd, 1) := by decide +kernel
theorem dX1_writeHalves_128 : decode cX1_writeHalves 128 = .ok (.iconst 2, 1) := by decide +kernel
theorem dX1_writeHalves_129 : decode cX1_writeHalves 129 = .ok (.invokevirtual 85, 3) := by decide +kernel
theorem dX1_writeHalves_132 : decode cX1_writeHalves 132 = .ok (.iinc 2 1, 3) := by decide +kernel
theorem dX1_writeHalves_135 : decode cX1_writeHalves 135 = .ok (.goto (-22), 3) := by decide +kernel
theorem dX1_writeHalves_138 : decode cX1_writeHalves 138 = .ok (.aload_n 0, 1) := by decide +kernel
theorem dX1_writeHalves_139 : decode cX1_writeHalves 139 = .ok (.invokevirtual 75, 3) := by decide +kernel
theorem dX1_writeHalves_142 : decode cX1_writeHalves 142 = .ok (.return_, 1) := by decide +kernel
theorem dX1_greatestPowerOfTwo_0 : decode cX1_greatestPowerOfTwo 0 = .ok (.iconst 1, 1) := by decide +kernel
theorem dX1_greatestPowerOfTwo_1 : decode cX1_greatestPowerOfTwo 1 = .ok (.istore_n 1, 1) := by decide +kernel
theorem dX1_greatestPowerOfTwo_2 : decode cX1_greatestPowerOfTwo 2 = .ok (.iconst 2, 1) := by decide +kernel
theorem dX1_greatestPowerOfTwo_3 : decode cX1_greatestPowerOfTwo 3 = .ok (.istore_n 2, 1) := by decide +kernel
theorem dX1_greatestPowerOfTwo_4 : decode cX1_greatestPowerOfTwo 4 = .ok (.iload_n 2, 1) := by decide +kernel
theorem dX1_greatestPowerOfTwo_5 : decode cX1_greatestPowerOfTwo 5 = .ok (.bipush 9, 2) := by decide +kernel
theorem dX1_greatestPowerOfTwo_7 : decode cX1_greatestPowerOfTwo 7 = .ok (.if_icmp .gt 20, 3) := by decide +kernel
theorem dX1_greatestPowerOfTwo_10 : decode cX1_greatestPowerOfTwo 10 = .ok (.iload_n 2, 1) := by decide +kernel
theorem dX1_greatestPowerOfTwo_11 : decode cX1_greatestPowerOfTwo 11 = .ok (.aload_n 0, 1) := by decide +kernel
theorem dX1_greatestPowerOfTwo_12 : decode cX1_greatestPowerOfTwo 12 = .ok (.getfield 22, 3) := by decide +kernel
theorem dX1_greatestPowerOfTwo_15 : decode cX1_greatestPowerOfTwo 15 = .ok (.if_icmp .gt 5, 3) := by decide +kernel
theorem dX1_greatestPowerOfTwo_18 : decode cX1_greatestPowerOfTwo 18 = .ok (.iload_n 2, 1) := by decide +kernel
theorem dX1_greatestPowerOfTwo_19 : decode cX1_greatestPowerOfTwo 19 = .ok (.istore_n 1, 1) := by decide +kernel
theorem dX1_greatestPowerOfTwo_20 : decode cX1_greatestPowerOfTwo 20 = .ok (.iload_n 2, 1) := by decide +kernel
theorem dX1_greatestPowerOfTwo_21 : decode cX1_greatestPowerOfTwo 21 = .ok (.iconst 2, 1) := by decide +kernel
theorem dX1_greatestPowerOfTwo_22 : decode cX1_greatestPowerOfTwo 22 = .ok (.imul, 1) := by decide +kernel
theorem dX1_greatestPowerOfTwo_23 : decode cX1_greatestPowerOfTwo 23 = .ok (.istore_n 2, 1) := by decide +kernel
theorem dX1_greatestPowerOfTwo_24 : decode cX1_greatestPowerOfTwo 24 = .ok (.goto (-20), 3) := by decide +kernel
theorem dX1_greatestPowerOfTwo_27 : decode cX1_greatestPowerOfTwo 27 = .ok (.iload_n 1, 1) := by decide +kernel
theorem dX1_greatestPowerOfTwo_28 : decode cX1_greatestPowerOfTwo 28 = .ok (.ireturn, 1) := by decide +kernel
theorem dX1_writeHalving_0 : decode cX1_writeHalving 0 = .ok (.iconst 0, 1) := by decide +kernel
theorem dX1_writeHalving_1 : decode cX1_writeHalving 1 = .ok (.istore_n 3, 1) := by decide +kernel
theorem dX1_writeHalving_2 : decode cX1_writeHalving 2 = .ok (.iload_n 3, 1) := by decide +kernel
theorem dX1_writeHalving_3 : decode cX1_writeHalving 3 = .ok (.iload_n 1, 1) := by decide +kernel
theorem dX1_writeHalving_4 : decode cX1_writeHalving 4 = .ok (.if_icmp .ge 109, 3) := by decide +kernel
theorem dX1_writeHalving_7 : decode cX1_writeHalving 7 = .ok (.iload_n 3, 1) := by decide +kernel
theorem dX1_writeHalving_8 : decode cX1_writeHalving 8 = .ok (.bipush 9, 2) := by decide +kernel
theorem dX1_writeHalving_10 : decode cX1_writeHalving 10 = .ok (.if_icmp .ge 103, 3) := by decide +kernel
theorem dX1_writeHalving_13 : decode cX1_writeHalving 13 = .ok (.aload_n 0, 1) := by decide +kernel
theorem dX1_writeHalving_14 : decode cX1_writeHalving 14 = .ok (.getfield 28, 3) := by decide +kernel
theorem dX1_writeHalving_17 : decode cX1_writeHalving 17 = .ok (.iload_n 3, 1) := by decide +kernel
theorem dX1_writeHalving_18 : decode cX1_writeHalving 18 = .ok (.iaload, 1) := by decide +kernel
theorem dX1_writeHalving_19 : decode cX1_writeHalving 19 = .ok (.istore 4, 2) := by decide +kernel
theorem dX1_writeHalving_21 : decode cX1_writeHalving 21 = .ok (.aload_n 0, 1) := by decide +kernel
theorem dX1_writeHalving_22 : decode cX1_writeHalving 22 = .ok (.getfield 31, 3) := by decide +kernel
theorem dX1_writeHalving_25 : decode cX1_writeHalving 25 = .ok (.iload_n 3, 1) := by decide +kernel
theorem dX1_writeHalving_26 : decode cX1_writeHalving 26 = .ok (.iaload, 1) := by decide +kernel
theorem dX1_writeHalving_27 : decode cX1_writeHalving 27 = .ok (.iconst 2, 1) := by decide +kernel
theorem dX1_writeHalving_28 : decode cX1_writeHalving 28 = .ok (.idiv, 1) := by decide +kernel
theorem dX1_writeHalving_29 : decode cX1_writeHalving 29 = .ok (.istore 5, 2) := by decide +kernel
theorem dX1_writeHalving_31 : decode cX1_writeHalving 31 = .ok (.aload_n 0, 1) := by decide +kernel
theorem dX1_writeHalving_32 : decode cX1_writeHalving 32 = .ok (.getfield 31, 3) := by decide +kernel
theorem dX1_writeHalving_35 : decode cX1_writeHalving 35 = .ok (.iload_n 3, 1) := by decide +kernel
theorem dX1_writeHalving_36 : decode cX1_writeHalving 36 = .ok (.iaload, 1) := by decide +kernel
theorem dX1_writeHalving_37 : decode cX1_writeHalving 37 = .ok (.iload 5, 2) := by decide +kernel
theorem dX1_writeHalving_39 : decode cX1_writeHalving 39 = .ok (.isub, 1) := by decide +kernel
theorem dX1_writeHalving_40 : decode cX1_writeHalving 40 = .ok (.istore 6, 2) := by decide +kernel
theorem dX1_writeHalving_42 : decode cX1_writeHalving 42 = .ok (.iload_n 3, 1) := by decide +kernel
theorem dX1_writeHalving_43 : decode cX1_writeHalving 43 = .ok (.iload_n 2, 1) := by decide +kernel
theorem dX1_writeHalving_44 : decode cX1_writeHalving 44 = .ok (.iand, 1) := by decide +kernel
theorem dX1_writeHalving_45 : decode cX1_writeHalving 45 = .ok (.ifCond .ne 30, 3) := by decide +kernel
theorem dX1_writeHalving_48 : decode cX1_writeHalving 48 = .ok (.aload_n 0, 1) := by decide +kernel
theorem dX1_writeHalving_49 : decode cX1_writeHalving 49 = .ok (.iload_n 3, 1) := by decide +kernel
theorem dX1_writeHalving_50 : decode cX1_writeHalving 50 = .ok (.iload_n 3, 1) := by decide +kernel
theorem dX1_writeHalving_51 : decode cX1_writeHalving 51 = .ok (.iload_n 2, 1) := by decide +kernel
theorem dX1_writeHalving_52 : decode cX1_writeHalving 52 = .ok (.iadd, 1) := by decide +kernel
theorem dX1_writeHalving_53 : decode cX1_writeHalving 53 = .ok (.iload 4, 2) := by decide +kernel
theorem dX1_writeHalving_55 : decode cX1_writeHalving 55 = .ok (.iload 5, 2) := by decide +kernel
theorem dX1_writeHalving_57 : decode cX1_writeHalving 57 = .ok (.iadd, 1) := by decide +kernel
theorem dX1_writeHalving_58 : decode cX1_writeHalving 58 = .ok (.iload 6, 2) := by decide +kernel
theorem dX1_writeHalving_60 : decode cX1_writeHalving 60 = .ok (.iconst 1, 1) := by decide +kernel
theorem dX1_writeHalving_61 : decode cX1_writeHalving 61 = .ok (.invokevirtual 63, 3) := by decide +kernel
theorem dX1_writeHalving_64 : decode cX1_writeHalving 64 = .ok (.aload_n 0, 1) := by decide +kernel
theorem dX1_writeHalving_65 : decode cX1_writeHalving 65 = .ok (.getfield 31, 3) := by decide +kernel
theorem dX1_writeHalving_68 : decode cX1_writeHalving 68 = .ok (.iload_n 3, 1) := by decide +kernel
theorem dX1_writeHalving_69 : decode cX1_writeHalving 69 = .ok (.iload 5, 2) := by decide +kernel
theorem dX1_writeHalving_71 : decode cX1_writeHalving 71 = .ok (.iastore, 1) := by decide +kernel
theorem dX1_writeHalving_72 : decode cX1_writeHalving 72 = .ok (.goto 35, 3) := by decide +kernel
theorem dX1_writeHalving_75 : decode cX1_writeHalving 75 = .ok (.aload_n 0, 1) := by decide +kernel
theorem dX1_writeHalving_76 : decode cX1_writeHalving 76 = .ok (.iload_n 3, 1) := by decide +kernel
theorem dX1_writeHalving_77 : decode cX1_writeHalving 77 = .ok (.iload_n 3, 1) := by decide +kernel
theorem dX1_writeHalving_78 : decode cX1_writeHalving 78 = .ok (.iload_n 2, 1) := by decide +kernel
theorem dX1_writeHalving_79 : decode cX1_writeHalving 79 = .ok (.isub, 1) := by decide +kernel
theorem dX1_writeHalving_80 : decode cX1_writeHalving 80 = .ok (.iload 4, 2) := by decide +kernel
theorem dX1_writeHalving_82 : decode cX1_writeHalving 82 = .ok (.iload 5, 2) := by decide +kernel
theorem dX1_writeHalving_84 : decode cX1_writeHalving 84 = .ok (.iconst 0, 1) := by decide +kernel
theorem dX1_writeHalving_85 : decode cX1_writeHalving 85 = .ok (.invokevirtual 63, 3) := by decide +kernel
theorem dX1_writeHalving_88 : decode cX1_writeHalving 88 = .ok (.aload_n 0, 1) := by decide +kernel
theorem dX1_writeHalving_89 : decode cX1_writeHalving 89 = .ok (.getfield 28, 3) := by decide +kernel
theorem dX1_writeHalving_92 : decode cX1_writeHalving 92 = .ok (.iload_n 3, 1) := by decide +kernel
theorem dX1_writeHalving_93 : decode cX1_writeHalving 93 = .ok (.iload 4, 2) := by decide +kernel
theorem dX1_writeHalving_95 : decode cX1_writeHalving 95 = .ok (.iload 5, 2) := by decide +kernel
theorem dX1_writeHalving_97 : decode cX1_writeHalving 97 = .ok (.iadd, 1) := by decide +kernel
theorem dX1_writeHalving_98 : decode cX1_writeHalving 98 = .ok (.iastore, 1) := by decide +kernel
theorem dX1_writeHalving_99 : decode cX1_writeHalving 99 = .ok (.aload_n 0, 1) := by decide +kernel
theorem dX1_writeHalving_100 : decode cX1_writeHalving 100 = .ok (.getfield 31, 3) := by decide +kernel
theorem dX1_writeHalving_103 : decode cX1_writeHalving 103 = .ok (.iload_n 3, 1) := by decide +kernel
theorem dX1_writeHalving_104 : decode cX1_writeHalving 104 = .ok (.iload 6, 2) := by decide +kernel
theorem dX1_writeHalving_106 : decode cX1_writeHalving 106 = .ok (.iastore, 1) := by decide +kernel
theorem dX1_writeHalving_107 : decode cX1_writeHalving 107 = .ok (.iinc 3 1, 3) := by decide +kernel
theorem dX1_writeHalving_110 : decode cX1_writeHalving 110 = .ok (.goto (-108), 3) := by decide +kernel
theorem dX1_writeHalving_113 : decode cX1_writeHalving 113 = .ok (.aload_n 0, 1) := by decide +kernel
theorem dX1_writeHalving_114 : decode cX1_writeHalving 114 = .ok (.invokevirtual 75, 3) := by decide +kernel
theorem dX1_writeHalving_117 : decode cX1_writeHalving 117 = .ok (.return_, 1) := by decide +kernel
theorem dX1_writeDoubling_0 : decode cX1_writeDoubling 0 = .ok (.iconst 0, 1) := by decide +kernel
theorem dX1_writeDoubling_1 : decode cX1_writeDoubling 1 = .ok (.istore_n 3, 1) := by decide +kernel
theorem dX1_writeDoubling_2 : decode cX1_writeDoubling 2 = .ok (.iload_n 3, 1) := by decide +kernel
theorem dX1_writeDoubling_3 : decode cX1_writeDoubling 3 = .ok (.iload_n 1, 1) := by decide +kernel
theorem dX1_writeDoubling_4 : decode cX1_writeDoubling 4 = .ok (.if_icmp .ge 36, 3) := by decide +kernel
theorem dX1_writeDoubling_7 : decode cX1_writeDoubling 7 = .ok (.iload_n 3, 1) := by decide +kernel
theorem dX1_writeDoubling_8 : decode cX1_writeDoubling 8 = .ok (.bipush 9, 2) := by decide +kernel
theorem dX1_writeDoubling_10 : decode cX1_writeDoubling 10 = .ok (.if_icmp .ge 30, 3) := by decide +kernel
theorem dX1_writeDoubling_13 : decode cX1_writeDoubling 13 = .ok (.aload_n 0, 1) := by decide +kernel
theorem dX1_writeDoubling_14 : decode cX1_writeDoubling 14 = .ok (.iload_n 3, 1) := by decide +kernel
theorem dX1_writeDoubling_15 : decode cX1_writeDoubling 15 = .ok (.iload_n 3, 1) := by decide +kernel
theorem dX1_writeDoubling_16 : decode cX1_writeDoubling 16 = .ok (.iload_n 2, 1) := by decide +kernel
theorem dX1_writeDoubling_17 : decode cX1_writeDoubling 17 = .ok (.ixor, 1) := by decide +kernel
theorem dX1_writeDoubling_18 : decode cX1_writeDoubling 18 = .ok (.aload_n 0, 1) := by decide +kernel
theorem dX1_writeDoubling_19 : decode cX1_writeDoubling 19 = .ok (.getfield 28, 3) := by decide +kernel
theorem dX1_writeDoubling_22 : decode cX1_writeDoubling 22 = .ok (.iload_n 3, 1) := by decide +kernel
theorem dX1_writeDoubling_23 : decode cX1_writeDoubling 23 = .ok (.iaload, 1) := by decide +kernel
theorem dX1_writeDoubling_24 : decode cX1_writeDoubling 24 = .ok (.aload_n 0, 1) := by decide +kernel
theorem dX1_writeDoubling_25 : decode cX1_writeDoubling 25 = .ok (.getfield 31, 3) := by decide +kernel
theorem dX1_writeDoubling_28 : decode cX1_writeDoubling 28 = .ok (.iload_n 3, 1) := by decide +kernel
theorem dX1_writeDoubling_29 : decode cX1_writeDoubling 29 = .ok (.iaload, 1) := by decide +kernel
theorem dX1_writeDoubling_30 : decode cX1_writeDoubling 30 = .ok (.iconst 2, 1) := by decide +kernel
theorem dX1_writeDoubling_31 : decode cX1_writeDoubling 31 = .ok (.invokevirtual 63, 3) := by decide +kernel
theorem dX1_writeDoubling_34 : decode cX1_writeDoubling 34 = .ok (.iinc 3 1, 3) := by decide +kernel
theorem dX1_writeDoubling_37 : decode cX1_writeDoubling 37 = .ok (.goto (-35), 3) := by decide +kernel
theorem dX1_writeDoubling_40 : decode cX1_writeDoubling 40 = .ok (.iconst 0, 1) := by decide +kernel
theorem dX1_writeDoubling_41 : decode cX1_writeDoubling 41 = .ok (.istore_n 3, 1) := by decide +kernel
theorem dX1_writeDoubling_42 : decode cX1_writeDoubling 42 = .ok (.iload_n 3, 1) := by decide +kernel
theorem dX1_writeDoubling_43 : decode cX1_writeDoubling 43 = .ok (.iload_n 2, 1) := by decide +kernel
theorem dX1_writeDoubling_44 : decode cX1_writeDoubling 44 = .ok (.iadd, 1) := by decide +kernel
theorem dX1_writeDoubling_45 : decode cX1_writeDoubling 45 = .ok (.iload_n 1, 1) := by decide +kernel
theorem dX1_writeDoubling_46 : decode cX1_writeDoubling 46 = .ok (.if_icmp .ge 68, 3) := by decide +kernel
theorem dX1_writeDoubling_49 : decode cX1_writeDoubling 49 = .ok (.iload_n 3, 1) := by decide +kernel
theorem dX1_writeDoubling_50 : decode cX1_writeDoubling 50 = .ok (.iload_n 2, 1) := by decide +kernel
theorem dX1_writeDoubling_51 : decode cX1_writeDoubling 51 = .ok (.iadd, 1) := by decide +kernel
theorem dX1_writeDoubling_52 : decode cX1_writeDoubling 52 = .ok (.bipush 9, 2) := by decide +kernel
theorem dX1_writeDoubling_54 : decode cX1_writeDoubling 54 = .ok (.if_icmp .ge 60, 3) := by decide +kernel
theorem dX1_writeDoubling_57 : decode cX1_writeDoubling 57 = .ok (.iload_n 3, 1) := by decide +kernel
theorem dX1_writeDoubling_58 : decode cX1_writeDoubling 58 = .ok (.iload_n 2, 1) := by decide +kernel
theorem dX1_writeDoubling_59 : decode cX1_writeDoubling 59 = .ok (.iand, 1) := by decide +kernel
theorem dX1_writeDoubling_60 : decode cX1_writeDoubling 60 = .ok (.ifCond .ne 48, 3) := by decide +kernel
theorem dX1_writeDoubling_63 : decode cX1_writeDoubling 63 = .ok (.aload_n 0, 1) := by decide +kernel
theorem dX1_writeDoubling_64 : decode cX1_writeDoubling 64 = .ok (.getfield 31, 3) := by decide +kernel
theorem dX1_writeDoubling_67 : decode cX1_writeDoubling 67 = .ok (.iload_n 3, 1) := by decide +kernel
theorem dX1_writeDoubling_68 : decode cX1_writeDoubling 68 = .ok (.dup2, 1) := by decide +kernel
theorem dX1_writeDoubling_69 : decode cX1_writeDoubling 69 = .ok (.iaload, 1) := by decide +kernel
theorem dX1_writeDoubling_70 : decode cX1_writeDoubling 70 = .ok (.aload_n 0, 1) := by decide +kernel
theorem dX1_writeDoubling_71 : decode cX1_writeDoubling 71 = .ok (.getfield 31, 3) := by decide +kernel
theorem dX1_writeDoubling_74 : decode cX1_writeDoubling 74 = .ok (.iload_n 3, 1) := by decide +kernel
theorem dX1_writeDoubling_75 : decode cX1_writeDoubling 75 = .ok (.iload_n 2, 1) := by decide +kernel
theorem dX1_writeDoubling_76 : decode cX1_writeDoubling 76 = .ok (.iadd, 1) := by decide +kernel
theorem dX1_writeDoubling_77 : decode cX1_writeDoubling 77 = .ok (.iaload, 1) := by decide +kernel
theorem dX1_writeDoubling_78 : decode cX1_writeDoubling 78 = .ok (.iadd, 1) := by decide +kernel
theorem dX1_writeDoubling_79 : decode cX1_writeDoubling 79 = .ok (.iastore, 1) := by decide +kernel
theorem dX1_writeDoubling_80 : decode cX1_writeDoubling 80 = .ok (.aload_n 0, 1) := by decide +kernel
theorem dX1_writeDoubling_81 : decode cX1_writeDoubling 81 = .ok (.getfield 28, 3) := by decide +kernel
theorem dX1_writeDoubling_84 : decode cX1_writeDoubling 84 = .ok (.iload_n 3, 1) := by decide +kernel
theorem dX1_writeDoubling_85 : decode cX1_writeDoubling 85 = .ok (.iload_n 2, 1) := by decide +kernel
theorem dX1_writeDoubling_86 : decode cX1_writeDoubling 86 = .ok (.iadd, 1) := by decide +kernel
theorem dX1_writeDoubling_87 : decode cX1_writeDoubling 87 = .ok (.aload_n 0, 1) := by decide +kernel
theorem dX1_writeDoubling_88 : decode cX1_writeDoubling 88 = .ok (.getfield 28, 3) := by decide +kernel
theorem dX1_writeDoubling_91 : decode cX1_writeDoubling 91 = .ok (.iload_n 3, 1) := by decide +kernel
theorem dX1_writeDoubling_92 : decode cX1_writeDoubling 92 = .ok (.iaload, 1) := by decide +kernel
theorem dX1_writeDoubling_93 : decode cX1_writeDoubling 93 = .ok (.iastore, 1) := by decide +kernel
theorem dX1_writeDoubling_94 : decode cX1_writeDoubling 94 = .ok (.aload_n 0, 1) := by decide +kernel
theorem dX1_writeDoubling_95 : decode cX1_writeDoubling 95 = .ok (.getfield 31, 3) := by decide +kernel
theorem dX1_writeDoubling_98 : decode cX1_writeDoubling 98 = .ok (.iload_n 3, 1) := by decide +kernel
theorem dX1_writeDoubling_99 : decode cX1_writeDoubling 99 = .ok (.iload_n 2, 1) := by decide +kernel
theorem dX1_writeDoubling_100 : decode cX1_writeDoubling 100 = .ok (.iadd, 1) := by decide +kernel
theorem dX1_writeDoubling_101 : decode cX1_writeDoubling 101 = .ok (.aload_n 0, 1) := by decide +kernel
theorem dX1_writeDoubling_102 : decode cX1_writeDoubling 102 = .ok (.getfield 31, 3) := by decide +kernel
theorem dX1_writeDoubling_105 : decode cX1_writeDoubling 105 = .ok (.iload_n 3, 1) := by decide +kernel
theorem dX1_writeDoubling_106 : decode cX1_writeDoubling 106 = .ok (.iaload, 1) := by decide +kernel
theorem dX1_writeDoubling_107 : decode cX1_writeDoubling 107 = .ok (.iastore, 1) := by decide +kernel
theorem dX1_writeDoubling_108 : decode cX1_writeDoubling 108 = .ok (.iinc 3 1, 3) := by decide +kernel
theorem dX1_writeDoubling_111 : decode cX1_writeDoubling 111 = .ok (.goto (-69), 3) := by decide +kernel
theorem dX1_writeDoubling_114 : decode cX1_writeDoubling 114 = .ok (.aload_n 0, 1) := by decide +kernel
theorem dX1_writeDoubling_115 : decode cX1_writeDoubling 115 = .ok (.invokevirtual 75, 3) := by decide +kernel
theorem dX1_writeDoubling_118 : decode cX1_writeDoubling 118 = .ok (.return_, 1) := by decide +kernel
theorem dX1_writeTree_0 : decode cX1_writeTree 0 = .ok (.aload_n 0, 1) := by decide +kernel
theorem dX1_writeTree_1 : decode cX1_writeTree 1 = .ok (.invokevirtual 101, 3) := by decide +kernel
theorem dX1_writeTree_4 : decode cX1_writeTree 4 = .ok (.istore_n 1, 1) := by decide +kernel
theorem dX1_writeTree_5 : decode cX1_writeTree 5 = .ok (.iload_n 1, 1) := by decide +kernel
theorem dX1_writeTree_6 : decode cX1_writeTree 6 = .ok (.istore_n 2, 1) := by decide +kernel
theorem dX1_writeTree_7 : decode cX1_writeTree 7 = .ok (.iload_n 2, 1) := by decide +kernel
theorem dX1_writeTree_8 : decode cX1_writeTree 8 = .ok (.iconst 1, 1) := by decide +kernel
theorem dX1_writeTree_9 : decode cX1_writeTree 9 = .ok (.if_icmp .lt 52, 3) := by decide +kernel
theorem dX1_writeTree_12 : decode cX1_writeTree 12 = .ok (.iload_n 2, 1) := by decide +kernel
theorem dX1_writeTree_13 : decode cX1_writeTree 13 = .ok (.invokestatic 104, 3) := by decide +kernel
theorem dX1_writeTree_16 : decode cX1_writeTree 16 = .ok (.istore_n 3, 1) := by decide +kernel
theorem dX1_writeTree_17 : decode cX1_writeTree 17 = .ok (.iload_n 3, 1) := by decide +kernel
theorem dX1_writeTree_18 : decode cX1_writeTree 18 = .ok (.aload_n 0, 1) := by decide +kernel
theorem dX1_writeTree_19 : decode cX1_writeTree 19 = .ok (.getfield 22, 3) := by decide +kernel
theorem dX1_writeTree_22 : decode cX1_writeTree 22 = .ok (.if_icmp .ge 29, 3) := by decide +kernel
theorem dX1_writeTree_25 : decode cX1_writeTree 25 = .ok (.iload_n 3, 1) := by decide +kernel
theorem dX1_writeTree_26 : decode cX1_writeTree 26 = .ok (.iload_n 2, 1) := by decide +kernel
theorem dX1_writeTree_27 : decode cX1_writeTree 27 = .ok (.iconst 1, 1) := by decide +kernel
theorem dX1_writeTree_28 : decode cX1_writeTree 28 = .ok (.iadd, 1) := by decide +kernel
theorem dX1_writeTree_29 : decode cX1_writeTree 29 = .ok (.invokestatic 104, 3) := by decide +kernel
theorem dX1_writeTree_32 : decode cX1_writeTree 32 = .ok (.if_icmp .ge 19, 3) := by decide +kernel
theorem dX1_writeTree_35 : decode cX1_writeTree 35 = .ok (.aload_n 0, 1) := by decide +kernel
theorem dX1_writeTree_36 : decode cX1_writeTree 36 = .ok (.iload_n 3, 1) := by decide +kernel
theorem dX1_writeTree_37 : decode cX1_writeTree 37 = .ok (.iload_n 3, 1) := by decide +kernel
theorem dX1_writeTree_38 : decode cX1_writeTree 38 = .ok (.invokestatic 107, 3) := by decide +kernel
theorem dX1_writeTree_41 : decode cX1_writeTree 41 = .ok (.iconst 0, 1) := by decide +kernel
theorem dX1_writeTree_42 : decode cX1_writeTree 42 = .ok (.invokevirtual 85, 3) := by decide +kernel
theorem dX1_writeTree_45 : decode cX1_writeTree 45 = .ok (.iinc 3 1, 3) := by decide +kernel
theorem dX1_writeTree_48 : decode cX1_writeTree 48 = .ok (.goto (-31), 3) := by decide +kernel
theorem dX1_writeTree_51 : decode cX1_writeTree 51 = .ok (.aload_n 0, 1) := by decide +kernel
theorem dX1_writeTree_52 : decode cX1_writeTree 52 = .ok (.invokevirtual 75, 3) := by decide +kernel
theorem dX1_writeTree_55 : decode cX1_writeTree 55 = .ok (.iinc 2 (-1), 3) := by decide +kernel
theorem dX1_writeTree_58 : decode cX1_writeTree 58 = .ok (.goto (-51), 3) := by decide +kernel
theorem dX1_writeTree_61 : decode cX1_writeTree 61 = .ok (.iconst 1, 1) := by decide +kernel
theorem dX1_writeTree_62 : decode cX1_writeTree 62 = .ok (.istore_n 2, 1) := by decide +kernel
theorem dX1_writeTree_63 : decode cX1_writeTree 63 = .ok (.iload_n 2, 1) := by decide +kernel
theorem dX1_writeTree_64 : decode cX1_writeTree 64 = .ok (.iload_n 1, 1) := by decide +kernel
theorem dX1_writeTree_65 : decode cX1_writeTree 65 = .ok (.if_icmp .gt 52, 3) := by decide +kernel
theorem dX1_writeTree_68 : decode cX1_writeTree 68 = .ok (.iload_n 2, 1) := by decide +kernel
theorem dX1_writeTree_69 : decode cX1_writeTree 69 = .ok (.invokestatic 104, 3) := by decide +kernel
theorem dX1_writeTree_72 : decode cX1_writeTree 72 = .ok (.istore_n 3, 1) := by decide +kernel
theorem dX1_writeTree_73 : decode cX1_writeTree 73 = .ok (.iload_n 3, 1) := by decide +kernel
theorem dX1_writeTree_74 : decode cX1_writeTree 74 = .ok (.aload_n 0, 1) := by decide +kernel
theorem dX1_writeTree_75 : decode cX1_writeTree 75 = .ok (.getfield 22, 3) := by decide +kernel
theorem dX1_writeTree_78 : decode cX1_writeTree 78 = .ok (.if_icmp .ge 29, 3) := by decide +kernel
theorem dX1_writeTree_81 : decode cX1_writeTree 81 = .ok (.iload_n 3, 1) := by decide +kernel
theorem dX1_writeTree_82 : decode cX1_writeTree 82 = .ok (.iload_n 2, 1) := by decide +kernel
theorem dX1_writeTree_83 : decode cX1_writeTree 83 = .ok (.iconst 1, 1) := by decide +kernel
theorem dX1_writeTree_84 : decode cX1_writeTree 84 = .ok (.iadd, 1) := by decide +kernel
theorem dX1_writeTree_85 : decode cX1_writeTree 85 = .ok (.invokestatic 104, 3) := by decide +kernel
theorem dX1_writeTree_88 : decode cX1_writeTree 88 = .ok (.if_icmp .ge 19, 3) := by decide +kernel
theorem dX1_writeTree_91 : decode cX1_writeTree 91 = .ok (.aload_n 0, 1) := by decide +kernel
theorem dX1_writeTree_92 : decode cX1_writeTree 92 = .ok (.iload_n 3, 1) := by decide +kernel
theorem dX1_writeTree_93 : decode cX1_writeTree 93 = .ok (.invokestatic 107, 3) := by decide +kernel
theorem dX1_writeTree_96 : decode cX1_writeTree 96 = .ok (.iload_n 3, 1) := by decide +kernel
theorem dX1_writeTree_97 : decode cX1_writeTree 97 = .ok (.iconst 2, 1) := by decide +kernel
theorem dX1_writeTree_98 : decode cX1_writeTree 98 = .ok (.invokevirtual 85, 3) := by decide +kernel
theorem dX1_writeTree_101 : decode cX1_writeTree 101 = .ok (.iinc 3 1, 3) := by decide +kernel
theorem dX1_writeTree_104 : decode cX1_writeTree 104 = .ok (.goto (-31), 3) := by decide +kernel
theorem dX1_writeTree_107 : decode cX1_writeTree 107 = .ok (.aload_n 0, 1) := by decide +kernel
theorem dX1_writeTree_108 : decode cX1_writeTree 108 = .ok (.invokevirtual 75, 3) := by decide +kernel
theorem dX1_writeTree_111 : decode cX1_writeTree 111 = .ok (.iinc 2 1, 3) := by decide +kernel
theorem dX1_writeTree_114 : decode cX1_writeTree 114 = .ok (.goto (-51), 3) := by decide +kernel
theorem dX1_writeTree_117 : decode cX1_writeTree 117 = .ok (.return_, 1) := by decide +kernel
theorem dX1_upper_0 : decode cX1_upper 0 = .ok (.iload_n 0, 1) := by decide +kernel
theorem dX1_upper_1 : decode cX1_upper 1 = .ok (.iconst 1, 1) := by decide +kernel
theorem dX1_upper_2 : decode cX1_upper 2 = .ok (.isub, 1) := by decide +kernel
theorem dX1_upper_3 : decode cX1_upper 3 = .ok (.iconst 2, 1) := by decide +kernel
theorem dX1_upper_4 : decode cX1_upper 4 = .ok (.idiv, 1) := by decide +kernel
theorem dX1_upper_5 : decode cX1_upper 5 = .ok (.ireturn, 1) := by decide +kernel
theorem dX1_firstOnLevel_0 : decode cX1_firstOnLevel 0 = .ok (.iconst 1, 1) := by decide +kernel
theorem dX1_firstOnLevel_1 : decode cX1_firstOnLevel 1 = .ok (.iload_n 0, 1) := by decide +kernel
theorem dX1_firstOnLevel_2 : decode cX1_firstOnLevel 2 = .ok (.ishl, 1) := by decide +kernel
theorem dX1_firstOnLevel_3 : decode cX1_firstOnLevel 3 = .ok (.iconst 1, 1) := by decide +kernel
theorem dX1_firstOnLevel_4 : decode cX1_firstOnLevel 4 = .ok (.isub, 1) := by decide +kernel
theorem dX1_firstOnLevel_5 : decode cX1_firstOnLevel 5 = .ok (.ireturn, 1) := by decide +kernel
theorem dX1_deepestLevel_0 : decode cX1_deepestLevel 0 = .ok (.iconst 0, 1) := by decide +kernel
theorem dX1_deepestLevel_1 : decode cX1_deepestLevel 1 = .ok (.istore_n 1, 1) := by decide +kernel
theorem dX1_deepestLevel_2 : decode cX1_deepestLevel 2 = .ok (.iconst 1, 1) := by decide +kernel
theorem dX1_deepestLevel_3 : decode cX1_deepestLevel 3 = .ok (.istore_n 2, 1) := by decide +kernel
theorem dX1_deepestLevel_4 : decode cX1_deepestLevel 4 = .ok (.iload_n 2, 1) := by decide +kernel
theorem dX1_deepestLevel_5 : decode cX1_deepestLevel 5 = .ok (.iconst 3, 1) := by decide +kernel
theorem dX1_deepestLevel_6 : decode cX1_deepestLevel 6 = .ok (.if_icmp .gt 22, 3) := by decide +kernel
theorem dX1_deepestLevel_9 : decode cX1_deepestLevel 9 = .ok (.iload_n 2, 1) := by decide +kernel
theorem dX1_deepestLevel_10 : decode cX1_deepestLevel 10 = .ok (.invokestatic 104, 3) := by decide +kernel
theorem dX1_deepestLevel_13 : decode cX1_deepestLevel 13 = .ok (.aload_n 0, 1) := by decide +kernel
theorem dX1_deepestLevel_14 : decode cX1_deepestLevel 14 = .ok (.getfield 22, 3) := by decide +kernel
theorem dX1_deepestLevel_17 : decode cX1_deepestLevel 17 = .ok (.if_icmp .ge 5, 3) := by decide +kernel
theorem dX1_deepestLevel_20 : decode cX1_deepestLevel 20 = .ok (.iload_n 2, 1) := by decide +kernel
theorem dX1_deepestLevel_21 : decode cX1_deepestLevel 21 = .ok (.istore_n 1, 1) := by decide +kernel
theorem dX1_deepestLevel_22 : decode cX1_deepestLevel 22 = .ok (.iinc 2 1, 3) := by decide +kernel
theorem dX1_deepestLevel_25 : decode cX1_deepestLevel 25 = .ok (.goto (-21), 3) := by decide +kernel
theorem dX1_deepestLevel_28 : decode cX1_deepestLevel 28 = .ok (.iload_n 1, 1) := by decide +kernel
theorem dX1_deepestLevel_29 : decode cX1_deepestLevel 29 = .ok (.ireturn, 1) := by decide +kernel
theorem dX1_writeEach_0 : decode cX1_writeEach 0 = .ok (.iconst 1, 1) := by decide +kernel
theorem dX1_writeEach_1 : decode cX1_writeEach 1 = .ok (.istore_n 1, 1) := by decide +kernel
theorem dX1_writeEach_2 : decode cX1_writeEach 2 = .ok (.iload_n 1, 1) := by decide +kernel
theorem dX1_writeEach_3 : decode cX1_writeEach 3 = .ok (.aload_n 0, 1) := by decide +kernel
theorem dX1_writeEach_4 : decode cX1_writeEach 4 = .ok (.getfield 22, 3) := by decide +kernel
theorem dX1_writeEach_7 : decode cX1_writeEach 7 = .ok (.if_icmp .ge 16, 3) := by decide +kernel
theorem dX1_writeEach_10 : decode cX1_writeEach 10 = .ok (.aload_n 0, 1) := by decide +kernel
theorem dX1_writeEach_11 : decode cX1_writeEach 11 = .ok (.iload_n 1, 1) := by decide +kernel
theorem dX1_writeEach_12 : decode cX1_writeEach 12 = .ok (.iconst 0, 1) := by decide +kernel
theorem dX1_writeEach_13 : decode cX1_writeEach 13 = .ok (.iconst 0, 1) := by decide +kernel
theorem dX1_writeEach_14 : decode cX1_writeEach 14 = .ok (.invokevirtual 85, 3) := by decide +kernel
theorem dX1_writeEach_17 : decode cX1_writeEach 17 = .ok (.iinc 1 1, 3) := by decide +kernel
theorem dX1_writeEach_20 : decode cX1_writeEach 20 = .ok (.goto (-18), 3) := by decide +kernel
theorem dX1_writeEach_23 : decode cX1_writeEach 23 = .ok (.aload_n 0, 1) := by decide +kernel
theorem dX1_writeEach_24 : decode cX1_writeEach 24 = .ok (.invokevirtual 75, 3) := by decide +kernel
theorem dX1_writeEach_27 : decode cX1_writeEach 27 = .ok (.iconst 1, 1) := by decide +kernel
theorem dX1_writeEach_28 : decode cX1_writeEach 28 = .ok (.istore_n 1, 1) := by decide +kernel
theorem dX1_writeEach_29 : decode cX1_writeEach 29 = .ok (.iload_n 1, 1) := by decide +kernel
theorem dX1_writeEach_30 : decode cX1_writeEach 30 = .ok (.aload_n 0, 1) := by decide +kernel
theorem dX1_writeEach_31 : decode cX1_writeEach 31 = .ok (.getfield 22, 3) := by decide +kernel
theorem dX1_writeEach_34 : decode cX1_writeEach 34 = .ok (.if_icmp .ge 16, 3) := by decide +kernel
theorem dX1_writeEach_37 : decode cX1_writeEach 37 = .ok (.aload_n 0, 1) := by decide +kernel
theorem dX1_writeEach_38 : decode cX1_writeEach 38 = .ok (.iconst 0, 1) := by decide +kernel
theorem dX1_writeEach_39 : decode cX1_writeEach 39 = .ok (.iload_n 1, 1) := by decide +kernel
theorem dX1_writeEach_40 : decode cX1_writeEach 40 = .ok (.iconst 2, 1) := by decide +kernel
theorem dX1_writeEach_41 : decode cX1_writeEach 41 = .ok (.invokevirtual 85, 3) := by decide +kernel
theorem dX1_writeEach_44 : decode cX1_writeEach 44 = .ok (.iinc 1 1, 3) := by decide +kernel
theorem dX1_writeEach_47 : decode cX1_writeEach 47 = .ok (.goto (-18), 3) := by decide +kernel
theorem dX1_writeEach_50 : decode cX1_writeEach 50 = .ok (.aload_n 0, 1) := by decide +kernel
theorem dX1_writeEach_51 : decode cX1_writeEach 51 = .ok (.invokevirtual 75, 3) := by decide +kernel
theorem dX1_writeEach_54 : decode cX1_writeEach 54 = .ok (.return_, 1) := by decide +kernel
theorem dX2_init_0 : decode cX2_init 0 = .ok (.aload_n 0, 1) := by decide +kernel
theorem dX2_init_1 : decode cX2_init 1 = .ok (.invokespecial 3, 3) := by decide +kernel
theorem dX2_init_4 : decode cX2_init 4 = .ok (.aload_n 0, 1) := by decide +kernel
theorem dX2_init_5 : decode cX2_init 5 = .ok (.new 9, 3) := by decide +kernel
theorem dX2_init_8 : decode cX2_init 8 = .ok (.dup, 1) := by decide +kernel
theorem dX2_init_9 : decode cX2_init 9 = .ok (.invokespecial 11, 3) := by decide +kernel
theorem dX2_init_12 : decode cX2_init 12 = .ok (.putfield 12, 3) := by decide +kernel
theorem dX2_init_15 : decode cX2_init 15 = .ok (.aload_n 0, 1) := by decide +kernel
theorem dX2_init_16 : decode cX2_init 16 = .ok (.new 9, 3) := by decide +kernel
theorem dX2_init_19 : decode cX2_init 19 = .ok (.dup, 1) := by decide +kernel
theorem dX2_init_20 : decode cX2_init 20 = .ok (.invokespecial 11, 3) := by decide +kernel
theorem dX2_init_23 : decode cX2_init 23 = .ok (.putfield 18, 3) := by decide +kernel
theorem dX2_init_26 : decode cX2_init 26 = .ok (.return_, 1) := by decide +kernel
theorem dX2_run_0 : decode cX2_run 0 = .ok (.aload_n 0, 1) := by decide +kernel
theorem dX2_run_1 : decode cX2_run 1 = .ok (.getfield 12, 3) := by decide +kernel
theorem dX2_run_4 : decode cX2_run 4 = .ok (.aload_n 1, 1) := by decide +kernel
theorem dX2_run_5 : decode cX2_run 5 = .ok (.getfield 21, 3) := by decide +kernel
theorem dX2_run_8 : decode cX2_run 8 = .ok (.invokevirtual 24, 3) := by decide +kernel
theorem dX2_run_11 : decode cX2_run 11 = .ok (.iconst 0, 1) := by decide +kernel
theorem dX2_run_12 : decode cX2_run 12 = .ok (.istore 5, 2) := by decide +kernel
theorem dX2_run_14 : decode cX2_run 14 = .ok (.iconst 0, 1) := by decide +kernel
theorem dX2_run_15 : decode cX2_run 15 = .ok (.istore 6, 2) := by decide +kernel
theorem dX2_run_17 : decode cX2_run 17 = .ok (.iload 6, 2) := by decide +kernel
theorem dX2_run_19 : decode cX2_run 19 = .ok (.iload_n 3, 1) := by decide +kernel
theorem dX2_run_20 : decode cX2_run 20 = .ok (.if_icmp .ge 71, 3) := by decide +kernel
theorem dX2_run_23 : decode cX2_run 23 = .ok (.iload 6, 2) := by decide +kernel
theorem dX2_run_25 : decode cX2_run 25 = .ok (.aload_n 2, 1) := by decide +kernel
theorem dX2_run_26 : decode cX2_run 26 = .ok (.getfield 28, 3) := by decide +kernel
theorem dX2_run_29 : decode cX2_run 29 = .ok (.if_icmp .ge 62, 3) := by decide +kernel
theorem dX2_run_32 : decode cX2_run 32 = .ok (.aload_n 0, 1) := by decide +kernel
theorem dX2_run_33 : decode cX2_run 33 = .ok (.getfield 18, 3) := by decide +kernel
theorem dX2_run_36 : decode cX2_run 36 = .ok (.aload_n 0, 1) := by decide +kernel
theorem dX2_run_37 : decode cX2_run 37 = .ok (.getfield 12, 3) := by decide +kernel
theorem dX2_run_40 : decode cX2_run 40 = .ok (.invokevirtual 24, 3) := by decide +kernel
theorem dX2_run_43 : decode cX2_run 43 = .ok (.iload 5, 2) := by decide +kernel
theorem dX2_run_45 : decode cX2_run 45 = .ok (.aload_n 2, 1) := by decide +kernel
theorem dX2_run_46 : decode cX2_run 46 = .ok (.getfield 34, 3) := by decide +kernel
theorem dX2_run_49 : decode cX2_run 49 = .ok (.if_icmp .ge 36, 3) := by decide +kernel
theorem dX2_run_52 : decode cX2_run 52 = .ok (.aload_n 2, 1) := by decide +kernel
theorem dX2_run_53 : decode cX2_run 53 = .ok (.iload 5, 2) := by decide +kernel
theorem dX2_run_55 : decode cX2_run 55 = .ok (.iconst 0, 1) := by decide +kernel
theorem dX2_run_56 : decode cX2_run 56 = .ok (.invokevirtual 37, 3) := by decide +kernel
theorem dX2_run_59 : decode cX2_run 59 = .ok (.iload 6, 2) := by decide +kernel
theorem dX2_run_61 : decode cX2_run 61 = .ok (.if_icmp .ne 24, 3) := by decide +kernel
theorem dX2_run_64 : decode cX2_run 64 = .ok (.iload 5, 2) := by decide +kernel
theorem dX2_run_66 : decode cX2_run 66 = .ok (.iload 4, 2) := by decide +kernel
theorem dX2_run_68 : decode cX2_run 68 = .ok (.if_icmp .eq 11, 3) := by decide +kernel
theorem dX2_run_71 : decode cX2_run 71 = .ok (.aload_n 0, 1) := by decide +kernel
theorem dX2_run_72 : decode cX2_run 72 = .ok (.aload_n 1, 1) := by decide +kernel
theorem dX2_run_73 : decode cX2_run 73 = .ok (.aload_n 2, 1) := by decide +kernel
theorem dX2_run_74 : decode cX2_run 74 = .ok (.iload 5, 2) := by decide +kernel
theorem dX2_run_76 : decode cX2_run 76 = .ok (.invokevirtual 41, 3) := by decide +kernel
theorem dX2_run_79 : decode cX2_run 79 = .ok (.iinc 5 1, 3) := by decide +kernel
theorem dX2_run_82 : decode cX2_run 82 = .ok (.goto (-39), 3) := by decide +kernel
theorem dX2_run_85 : decode cX2_run 85 = .ok (.iinc 6 1, 3) := by decide +kernel
theorem dX2_run_88 : decode cX2_run 88 = .ok (.goto (-71), 3) := by decide +kernel
theorem dX2_run_91 : decode cX2_run 91 = .ok (.return_, 1) := by decide +kernel
theorem dX2_deliver_0 : decode cX2_deliver 0 = .ok (.aload_n 2, 1) := by decide +kernel
theorem dX2_deliver_1 : decode cX2_deliver 1 = .ok (.iload_n 3, 1) := by decide +kernel
theorem dX2_deliver_2 : decode cX2_deliver 2 = .ok (.iconst 1, 1) := by decide +kernel
theorem dX2_deliver_3 : decode cX2_deliver 3 = .ok (.invokevirtual 37, 3) := by decide +kernel
theorem dX2_deliver_6 : decode cX2_deliver 6 = .ok (.istore 4, 2) := by decide +kernel
theorem dX2_deliver_8 : decode cX2_deliver 8 = .ok (.aload_n 2, 1) := by decide +kernel
theorem dX2_deliver_9 : decode cX2_deliver 9 = .ok (.iload_n 3, 1) := by decide +kernel
theorem dX2_deliver_10 : decode cX2_deliver 10 = .ok (.iconst 2, 1) := by decide +kernel
theorem dX2_deliver_11 : decode cX2_deliver 11 = .ok (.invokevirtual 37, 3) := by decide +kernel
theorem dX2_deliver_14 : decode cX2_deliver 14 = .ok (.istore 5, 2) := by decide +kernel
theorem dX2_deliver_16 : decode cX2_deliver 16 = .ok (.aload_n 2, 1) := by decide +kernel
theorem dX2_deliver_17 : decode cX2_deliver 17 = .ok (.iload_n 3, 1) := by decide +kernel
theorem dX2_deliver_18 : decode cX2_deliver 18 = .ok (.iconst 5, 1) := by decide +kernel
theorem dX2_deliver_19 : decode cX2_deliver 19 = .ok (.invokevirtual 37, 3) := by decide +kernel
theorem dX2_deliver_22 : decode cX2_deliver 22 = .ok (.istore 6, 2) := by decide +kernel
theorem dX2_deliver_24 : decode cX2_deliver 24 = .ok (.aload_n 2, 1) := by decide +kernel
theorem dX2_deliver_25 : decode cX2_deliver 25 = .ok (.iload_n 3, 1) := by decide +kernel
theorem dX2_deliver_26 : decode cX2_deliver 26 = .ok (.iconst 3, 1) := by decide +kernel
theorem dX2_deliver_27 : decode cX2_deliver 27 = .ok (.invokevirtual 37, 3) := by decide +kernel
theorem dX2_deliver_30 : decode cX2_deliver 30 = .ok (.istore 7, 2) := by decide +kernel
theorem dX2_deliver_32 : decode cX2_deliver 32 = .ok (.iload 7, 2) := by decide +kernel
theorem dX2_deliver_34 : decode cX2_deliver 34 = .ok (.aload_n 2, 1) := by decide +kernel
theorem dX2_deliver_35 : decode cX2_deliver 35 = .ok (.iload_n 3, 1) := by decide +kernel
theorem dX2_deliver_36 : decode cX2_deliver 36 = .ok (.iconst 4, 1) := by decide +kernel
theorem dX2_deliver_37 : decode cX2_deliver 37 = .ok (.invokevirtual 37, 3) := by decide +kernel
theorem dX2_deliver_40 : decode cX2_deliver 40 = .ok (.iadd, 1) := by decide +kernel
theorem dX2_deliver_41 : decode cX2_deliver 41 = .ok (.istore 8, 2) := by decide +kernel
theorem dX2_deliver_43 : decode cX2_deliver 43 = .ok (.iload 7, 2) := by decide +kernel
theorem dX2_deliver_45 : decode cX2_deliver 45 = .ok (.istore 9, 2) := by decide +kernel
theorem dX2_deliver_47 : decode cX2_deliver 47 = .ok (.iload 9, 2) := by decide +kernel
theorem dX2_deliver_49 : decode cX2_deliver 49 = .ok (.iload 8, 2) := by decide +kernel
theorem dX2_deliver_51 : decode cX2_deliver 51 = .ok (.if_icmp .ge 56, 3) := by decide +kernel
theorem dX2_deliver_54 : decode cX2_deliver 54 = .ok (.aload_n 0, 1) := by decide +kernel
theorem dX2_deliver_55 : decode cX2_deliver 55 = .ok (.getfield 12, 3) := by decide +kernel
theorem dX2_deliver_58 : decode cX2_deliver 58 = .ok (.iload 5, 2) := by decide +kernel
theorem dX2_deliver_60 : decode cX2_deliver 60 = .ok (.iload 9, 2) := by decide +kernel
theorem dX2_deliver_62 : decode cX2_deliver 62 = .ok (.invokevirtual 45, 3) := by decide +kernel
theorem dX2_deliver_65 : decode cX2_deliver 65 = .ok (.istore 10, 2) := by decide +kernel
theorem dX2_deliver_67 : decode cX2_deliver 67 = .ok (.aload_n 0, 1) := by decide +kernel
theorem dX2_deliver_68 : decode cX2_deliver 68 = .ok (.getfield 18, 3) := by decide +kernel
theorem dX2_deliver_71 : decode cX2_deliver 71 = .ok (.iload 4, 2) := by decide +kernel
theorem dX2_deliver_73 : decode cX2_deliver 73 = .ok (.iload 9, 2) := by decide +kernel
theorem dX2_deliver_75 : decode cX2_deliver 75 = .ok (.invokevirtual 45, 3) := by decide +kernel
theorem dX2_deliver_78 : decode cX2_deliver 78 = .ok (.istore 11, 2) := by decide +kernel
theorem dX2_deliver_80 : decode cX2_deliver 80 = .ok (.aload_n 0, 1) := by decide +kernel
theorem dX2_deliver_81 : decode cX2_deliver 81 = .ok (.getfield 12, 3) := by decide +kernel
theorem dX2_deliver_84 : decode cX2_deliver 84 = .ok (.iload 5, 2) := by decide +kernel
theorem dX2_deliver_86 : decode cX2_deliver 86 = .ok (.iload 9, 2) := by decide +kernel
theorem dX2_deliver_88 : decode cX2_deliver 88 = .ok (.aload_n 1, 1) := by decide +kernel
theorem dX2_deliver_89 : decode cX2_deliver 89 = .ok (.iload 6, 2) := by decide +kernel
theorem dX2_deliver_91 : decode cX2_deliver 91 = .ok (.iload 10, 2) := by decide +kernel
theorem dX2_deliver_93 : decode cX2_deliver 93 = .ok (.iload 11, 2) := by decide +kernel
theorem dX2_deliver_95 : decode cX2_deliver 95 = .ok (.invokestatic 48, 3) := by decide +kernel
theorem dX2_deliver_98 : decode cX2_deliver 98 = .ok (.invokevirtual 52, 3) := by decide +kernel
theorem dX2_deliver_101 : decode cX2_deliver 101 = .ok (.iinc 9 1, 3) := by decide +kernel
theorem dX2_deliver_104 : decode cX2_deliver 104 = .ok (.goto (-57), 3) := by decide +kernel
theorem dX2_deliver_107 : decode cX2_deliver 107 = .ok (.return_, 1) := by decide +kernel
theorem dX2_received_0 : decode cX2_received 0 = .ok (.iload_n 1, 1) := by decide +kernel
theorem dX2_received_1 : decode cX2_received 1 = .ok (.ifCond .ne 10, 3) := by decide +kernel
theorem dX2_received_4 : decode cX2_received 4 = .ok (.aload_n 0, 1) := by decide +kernel
theorem dX2_received_5 : decode cX2_received 5 = .ok (.iload_n 2, 1) := by decide +kernel
theorem dX2_received_6 : decode cX2_received 6 = .ok (.iload_n 3, 1) := by decide +kernel
theorem dX2_received_7 : decode cX2_received 7 = .ok (.invokevirtual 56, 3) := by decide +kernel
theorem dX2_received_10 : decode cX2_received 10 = .ok (.ireturn, 1) := by decide +kernel
theorem dX2_received_11 : decode cX2_received 11 = .ok (.iload_n 1, 1) := by decide +kernel
theorem dX2_received_12 : decode cX2_received 12 = .ok (.iconst 1, 1) := by decide +kernel
theorem dX2_received_13 : decode cX2_received 13 = .ok (.if_icmp .ne 12, 3) := by decide +kernel
theorem dX2_received_16 : decode cX2_received 16 = .ok (.aload_n 0, 1) := by decide +kernel
theorem dX2_received_17 : decode cX2_received 17 = .ok (.iload_n 3, 1) := by decide +kernel
theorem dX2_received_18 : decode cX2_received 18 = .ok (.iload_n 2, 1) := by decide +kernel
theorem dX2_received_19 : decode cX2_received 19 = .ok (.invokevirtual 56, 3) := by decide +kernel
theorem dX2_received_22 : decode cX2_received 22 = .ok (.goto 4, 3) := by decide +kernel
theorem dX2_received_25 : decode cX2_received 25 = .ok (.iload_n 3, 1) := by decide +kernel
theorem dX2_received_26 : decode cX2_received 26 = .ok (.ireturn, 1) := by decide +kernel
theorem dX3_init_0 : decode cX3_init 0 = .ok (.aload_n 0, 1) := by decide +kernel
theorem dX3_init_1 : decode cX3_init 1 = .ok (.invokespecial 3, 3) := by decide +kernel
theorem dX3_init_4 : decode cX3_init 4 = .ok (.aload_n 0, 1) := by decide +kernel
theorem dX3_init_5 : decode cX3_init 5 = .ok (.bipush 108, 2) := by decide +kernel
theorem dX3_init_7 : decode cX3_init 7 = .ok (.newarray .int, 2) := by decide +kernel
theorem dX3_init_9 : decode cX3_init 9 = .ok (.putfield 9, 3) := by decide +kernel
theorem dX3_init_12 : decode cX3_init 12 = .ok (.return_, 1) := by decide +kernel
theorem dX3_get_0 : decode cX3_get 0 = .ok (.iload_n 1, 1) := by decide +kernel
theorem dX3_get_1 : decode cX3_get 1 = .ok (.iload_n 2, 1) := by decide +kernel
theorem dX3_get_2 : decode cX3_get 2 = .ok (.invokestatic 15, 3) := by decide +kernel
theorem dX3_get_5 : decode cX3_get 5 = .ok (.ifCond .eq 17, 3) := by decide +kernel
theorem dX3_get_8 : decode cX3_get 8 = .ok (.aload_n 0, 1) := by decide +kernel
theorem dX3_get_9 : decode cX3_get 9 = .ok (.getfield 9, 3) := by decide +kernel
theorem dX3_get_12 : decode cX3_get 12 = .ok (.iload_n 1, 1) := by decide +kernel
theorem dX3_get_13 : decode cX3_get 13 = .ok (.bipush 12, 2) := by decide +kernel
theorem dX3_get_15 : decode cX3_get 15 = .ok (.imul, 1) := by decide +kernel
theorem dX3_get_16 : decode cX3_get 16 = .ok (.iload_n 2, 1) := by decide +kernel
theorem dX3_get_17 : decode cX3_get 17 = .ok (.iadd, 1) := by decide +kernel
theorem dX3_get_18 : decode cX3_get 18 = .ok (.iaload, 1) := by decide +kernel
theorem dX3_get_19 : decode cX3_get 19 = .ok (.goto 4, 3) := by decide +kernel
theorem dX3_get_22 : decode cX3_get 22 = .ok (.iconst 0, 1) := by decide +kernel
theorem dX3_get_23 : decode cX3_get 23 = .ok (.ireturn, 1) := by decide +kernel
theorem dX3_set_0 : decode cX3_set 0 = .ok (.iload_n 1, 1) := by decide +kernel
theorem dX3_set_1 : decode cX3_set 1 = .ok (.iload_n 2, 1) := by decide +kernel
theorem dX3_set_2 : decode cX3_set 2 = .ok (.invokestatic 15, 3) := by decide +kernel
theorem dX3_set_5 : decode cX3_set 5 = .ok (.ifCond .eq 15, 3) := by decide +kernel
theorem dX3_set_8 : decode cX3_set 8 = .ok (.aload_n 0, 1) := by decide +kernel
theorem dX3_set_9 : decode cX3_set 9 = .ok (.getfield 9, 3) := by decide +kernel
theorem dX3_set_12 : decode cX3_set 12 = .ok (.iload_n 1, 1) := by decide +kernel
theorem dX3_set_13 : decode cX3_set 13 = .ok (.bipush 12, 2) := by decide +kernel
theorem dX3_set_15 : decode cX3_set 15 = .ok (.imul, 1) := by decide +kernel
theorem dX3_set_16 : decode cX3_set 16 = .ok (.iload_n 2, 1) := by decide +kernel
theorem dX3_set_17 : decode cX3_set 17 = .ok (.iadd, 1) := by decide +kernel
theorem dX3_set_18 : decode cX3_set 18 = .ok (.iload_n 3, 1) := by decide +kernel
theorem dX3_set_19 : decode cX3_set 19 = .ok (.iastore, 1) := by decide +kernel
theorem dX3_set_20 : decode cX3_set 20 = .ok (.return_, 1) := by decide +kernel
theorem dX3_clear_0 : decode cX3_clear 0 = .ok (.aload_n 0, 1) := by decide +kernel
theorem dX3_clear_1 : decode cX3_clear 1 = .ok (.getfield 9, 3) := by decide +kernel
theorem dX3_clear_4 : decode cX3_clear 4 = .ok (.iconst 0, 1) := by decide +kernel
theorem dX3_clear_5 : decode cX3_clear 5 = .ok (.invokestatic 19, 3) := by decide +kernel
theorem dX3_clear_8 : decode cX3_clear 8 = .ok (.return_, 1) := by decide +kernel
theorem dX3_copyFrom_0 : decode cX3_copyFrom 0 = .ok (.aload_n 1, 1) := by decide +kernel
theorem dX3_copyFrom_1 : decode cX3_copyFrom 1 = .ok (.getfield 9, 3) := by decide +kernel
theorem dX3_copyFrom_4 : decode cX3_copyFrom 4 = .ok (.iconst 0, 1) := by decide +kernel
theorem dX3_copyFrom_5 : decode cX3_copyFrom 5 = .ok (.aload_n 0, 1) := by decide +kernel
theorem dX3_copyFrom_6 : decode cX3_copyFrom 6 = .ok (.getfield 9, 3) := by decide +kernel
theorem dX3_copyFrom_9 : decode cX3_copyFrom 9 = .ok (.iconst 0, 1) := by decide +kernel
theorem dX3_copyFrom_10 : decode cX3_copyFrom 10 = .ok (.bipush 108, 2) := by decide +kernel
theorem dX3_copyFrom_12 : decode cX3_copyFrom 12 = .ok (.invokestatic 25, 3) := by decide +kernel
theorem dX3_copyFrom_15 : decode cX3_copyFrom 15 = .ok (.return_, 1) := by decide +kernel
theorem dX3_differing_0 : decode cX3_differing 0 = .ok (.iconst 0, 1) := by decide +kernel
theorem dX3_differing_1 : decode cX3_differing 1 = .ok (.istore 5, 2) := by decide +kernel
theorem dX3_differing_3 : decode cX3_differing 3 = .ok (.iconst 0, 1) := by decide +kernel
theorem dX3_differing_4 : decode cX3_differing 4 = .ok (.istore 6, 2) := by decide +kernel
theorem dX3_differing_6 : decode cX3_differing 6 = .ok (.iload 6, 2) := by decide +kernel
theorem dX3_differing_8 : decode cX3_differing 8 = .ok (.iload 4, 2) := by decide +kernel
theorem dX3_differing_10 : decode cX3_differing 10 = .ok (.if_icmp .ge 29, 3) := by decide +kernel
theorem dX3_differing_13 : decode cX3_differing 13 = .ok (.aload_n 0, 1) := by decide +kernel
theorem dX3_differing_14 : decode cX3_differing 14 = .ok (.iload_n 1, 1) := by decide +kernel
theorem dX3_differing_15 : decode cX3_differing 15 = .ok (.iload 6, 2) := by decide +kernel
theorem dX3_differing_17 : decode cX3_differing 17 = .ok (.invokevirtual 31, 3) := by decide +kernel
theorem dX3_differing_20 : decode cX3_differing 20 = .ok (.aload_n 2, 1) := by decide +kernel
theorem dX3_differing_21 : decode cX3_differing 21 = .ok (.iload_n 3, 1) := by decide +kernel
theorem dX3_differing_22 : decode cX3_differing 22 = .ok (.iload 6, 2) := by decide +kernel
theorem dX3_differing_24 : decode cX3_differing 24 = .ok (.invokevirtual 31, 3) := by decide +kernel
theorem dX3_differing_27 : decode cX3_differing 27 = .ok (.if_icmp .eq 6, 3) := by decide +kernel
theorem dX3_differing_30 : decode cX3_differing 30 = .ok (.iinc 5 1, 3) := by decide +kernel
theorem dX3_differing_33 : decode cX3_differing 33 = .ok (.iinc 6 1, 3) := by decide +kernel
theorem dX3_differing_36 : decode cX3_differing 36 = .ok (.goto (-30), 3) := by decide +kernel
theorem dX3_differing_39 : decode cX3_differing 39 = .ok (.iload 5, 2) := by decide +kernel
theorem dX3_differing_41 : decode cX3_differing 41 = .ok (.ireturn, 1) := by decide +kernel
theorem dX3_isInside_0 : decode cX3_isInside 0 = .ok (.iload_n 0, 1) := by decide +kernel
theorem dX3_isInside_1 : decode cX3_isInside 1 = .ok (.iconst 0, 1) := by decide +kernel
theorem dX3_isInside_2 : decode cX3_isInside 2 = .ok (.bipush 8, 2) := by decide +kernel
theorem dX3_isInside_4 : decode cX3_isInside 4 = .ok (.invokestatic 35, 3) := by decide +kernel
theorem dX3_isInside_7 : decode cX3_isInside 7 = .ok (.ifCond .eq 17, 3) := by decide +kernel
theorem dX3_isInside_10 : decode cX3_isInside 10 = .ok (.iload_n 1, 1) := by decide +kernel
theorem dX3_isInside_11 : decode cX3_isInside 11 = .ok (.iconst 0, 1) := by decide +kernel
theorem dX3_isInside_12 : decode cX3_isInside 12 = .ok (.bipush 11, 2) := by decide +kernel
theorem dX3_isInside_14 : decode cX3_isInside 14 = .ok (.invokestatic 35, 3) := by decide +kernel
theorem dX3_isInside_17 : decode cX3_isInside 17 = .ok (.ifCond .eq 7, 3) := by decide +kernel
theorem dX3_isInside_20 : decode cX3_isInside 20 = .ok (.iconst 1, 1) := by decide +kernel
theorem dX3_isInside_21 : decode cX3_isInside 21 = .ok (.goto 4, 3) := by decide +kernel
theorem dX3_isInside_24 : decode cX3_isInside 24 = .ok (.iconst 0, 1) := by decide +kernel
theorem dX3_isInside_25 : decode cX3_isInside 25 = .ok (.ireturn, 1) := by decide +kernel
theorem dX4_init_0 : decode cX4_init 0 = .ok (.aload_n 0, 1) := by decide +kernel
theorem dX4_init_1 : decode cX4_init 1 = .ok (.invokespecial 3, 3) := by decide +kernel
theorem dX4_init_4 : decode cX4_init 4 = .ok (.aload_n 0, 1) := by decide +kernel
theorem dX4_init_5 : decode cX4_init 5 = .ok (.new 9, 3) := by decide +kernel
theorem dX4_init_8 : decode cX4_init 8 = .ok (.dup, 1) := by decide +kernel
theorem dX4_init_9 : decode cX4_init 9 = .ok (.invokespecial 11, 3) := by decide +kernel
theorem dX4_init_12 : decode cX4_init 12 = .ok (.putfield 12, 3) := by decide +kernel
theorem dX4_init_15 : decode cX4_init 15 = .ok (.aload_n 0, 1) := by decide +kernel
theorem dX4_init_16 : decode cX4_init 16 = .ok (.bipush 81, 2) := by decide +kernel
theorem dX4_init_18 : decode cX4_init 18 = .ok (.newarray .int, 2) := by decide +kernel
theorem dX4_init_20 : decode cX4_init 20 = .ok (.putfield 18, 3) := by decide +kernel
theorem dX4_init_23 : decode cX4_init 23 = .ok (.aload_n 0, 1) := by decide +kernel
theorem dX4_init_24 : decode cX4_init 24 = .ok (.iconst 4, 1) := by decide +kernel
theorem dX4_init_25 : decode cX4_init 25 = .ok (.putfield 22, 3) := by decide +kernel
theorem dX4_init_28 : decode cX4_init 28 = .ok (.aload_n 0, 1) := by decide +kernel
theorem dX4_init_29 : decode cX4_init 29 = .ok (.iconst 4, 1) := by decide +kernel
theorem dX4_init_30 : decode cX4_init 30 = .ok (.putfield 26, 3) := by decide +kernel
theorem dX4_init_33 : decode cX4_init 33 = .ok (.aload_n 0, 1) := by decide +kernel
theorem dX4_init_34 : decode cX4_init 34 = .ok (.iconst 0, 1) := by decide +kernel
theorem dX4_init_35 : decode cX4_init 35 = .ok (.putfield 29, 3) := by decide +kernel
theorem dX4_init_38 : decode cX4_init 38 = .ok (.aload_n 0, 1) := by decide +kernel
theorem dX4_init_39 : decode cX4_init 39 = .ok (.iconst 5, 1) := by decide +kernel
theorem dX4_init_40 : decode cX4_init 40 = .ok (.putfield 32, 3) := by decide +kernel
theorem dX4_init_43 : decode cX4_init 43 = .ok (.aload_n 0, 1) := by decide +kernel
theorem dX4_init_44 : decode cX4_init 44 = .ok (.iconst 1, 1) := by decide +kernel
theorem dX4_init_45 : decode cX4_init 45 = .ok (.putfield 35, 3) := by decide +kernel
theorem dX4_init_48 : decode cX4_init 48 = .ok (.aload_n 0, 1) := by decide +kernel
theorem dX4_init_49 : decode cX4_init 49 = .ok (.getfield 18, 3) := by decide +kernel
theorem dX4_init_52 : decode cX4_init 52 = .ok (.iconst 1, 1) := by decide +kernel
theorem dX4_init_53 : decode cX4_init 53 = .ok (.invokestatic 38, 3) := by decide +kernel
theorem dX4_init_56 : decode cX4_init 56 = .ok (.return_, 1) := by decide +kernel
theorem dX4_begin_0 : decode cX4_begin 0 = .ok (.aload_n 0, 1) := by decide +kernel
theorem dX4_begin_1 : decode cX4_begin 1 = .ok (.iload_n 1, 1) := by decide +kernel
theorem dX4_begin_2 : decode cX4_begin 2 = .ok (.putfield 22, 3) := by decide +kernel
theorem dX4_begin_5 : decode cX4_begin 5 = .ok (.aload_n 0, 1) := by decide +kernel
theorem dX4_begin_6 : decode cX4_begin 6 = .ok (.iload_n 2, 1) := by decide +kernel
theorem dX4_begin_7 : decode cX4_begin 7 = .ok (.putfield 26, 3) := by decide +kernel
theorem dX4_begin_10 : decode cX4_begin 10 = .ok (.aload_n 0, 1) := by decide +kernel
theorem dX4_begin_11 : decode cX4_begin 11 = .ok (.getfield 12, 3) := by decide +kernel
theorem dX4_begin_14 : decode cX4_begin 14 = .ok (.invokevirtual 44, 3) := by decide +kernel
theorem dX4_begin_17 : decode cX4_begin 17 = .ok (.aload_n 0, 1) := by decide +kernel
theorem dX4_begin_18 : decode cX4_begin 18 = .ok (.getfield 18, 3) := by decide +kernel
theorem dX4_begin_21 : decode cX4_begin 21 = .ok (.iconst 1, 1) := by decide +kernel
theorem dX4_begin_22 : decode cX4_begin 22 = .ok (.invokestatic 38, 3) := by decide +kernel
theorem dX4_begin_25 : decode cX4_begin 25 = .ok (.return_, 1) := by decide +kernel
theorem dX4_copyFrom_0 : decode cX4_copyFrom 0 = .ok (.aload_n 0, 1) := by decide +kernel
theorem dX4_copyFrom_1 : decode cX4_copyFrom 1 = .ok (.aload_n 1, 1) := by decide +kernel
theorem dX4_copyFrom_2 : decode cX4_copyFrom 2 = .ok (.getfield 22, 3) := by decide +kernel
theorem dX4_copyFrom_5 : decode cX4_copyFrom 5 = .ok (.putfield 22, 3) := by decide +kernel
theorem dX4_copyFrom_8 : decode cX4_copyFrom 8 = .ok (.aload_n 0, 1) := by decide +kernel
theorem dX4_copyFrom_9 : decode cX4_copyFrom 9 = .ok (.aload_n 1, 1) := by decide +kernel
theorem dX4_copyFrom_10 : decode cX4_copyFrom 10 = .ok (.getfield 26, 3) := by decide +kernel
theorem dX4_copyFrom_13 : decode cX4_copyFrom 13 = .ok (.putfield 26, 3) := by decide +kernel
theorem dX4_copyFrom_16 : decode cX4_copyFrom 16 = .ok (.aload_n 0, 1) := by decide +kernel
theorem dX4_copyFrom_17 : decode cX4_copyFrom 17 = .ok (.aload_n 1, 1) := by decide +kernel
theorem dX4_copyFrom_18 : decode cX4_copyFrom 18 = .ok (.getfield 29, 3) := by decide +kernel
theorem dX4_copyFrom_21 : decode cX4_copyFrom 21 = .ok (.putfield 29, 3) := by decide +kernel
theorem dX4_copyFrom_24 : decode cX4_copyFrom 24 = .ok (.aload_n 0, 1) := by decide +kernel
theorem dX4_copyFrom_25 : decode cX4_copyFrom 25 = .ok (.aload_n 1, 1) := by decide +kernel
theorem dX4_copyFrom_26 : decode cX4_copyFrom 26 = .ok (.getfield 32, 3) := by decide +kernel
theorem dX4_copyFrom_29 : decode cX4_copyFrom 29 = .ok (.putfield 32, 3) := by decide +kernel
theorem dX4_copyFrom_32 : decode cX4_copyFrom 32 = .ok (.aload_n 0, 1) := by decide +kernel
theorem dX4_copyFrom_33 : decode cX4_copyFrom 33 = .ok (.aload_n 1, 1) := by decide +kernel
theorem dX4_copyFrom_34 : decode cX4_copyFrom 34 = .ok (.getfield 35, 3) := by decide +kernel
theorem dX4_copyFrom_37 : decode cX4_copyFrom 37 = .ok (.putfield 35, 3) := by decide +kernel
theorem dX4_copyFrom_40 : decode cX4_copyFrom 40 = .ok (.aload_n 0, 1) := by decide +kernel
theorem dX4_copyFrom_41 : decode cX4_copyFrom 41 = .ok (.getfield 12, 3) := by decide +kernel
theorem dX4_copyFrom_44 : decode cX4_copyFrom 44 = .ok (.aload_n 1, 1) := by decide +kernel
theorem dX4_copyFrom_45 : decode cX4_copyFrom 45 = .ok (.getfield 12, 3) := by decide +kernel
theorem dX4_copyFrom_48 : decode cX4_copyFrom 48 = .ok (.invokevirtual 47, 3) := by decide +kernel
theorem dX4_copyFrom_51 : decode cX4_copyFrom 51 = .ok (.aload_n 1, 1) := by decide +kernel
theorem dX4_copyFrom_52 : decode cX4_copyFrom 52 = .ok (.getfield 18, 3) := by decide +kernel
theorem dX4_copyFrom_55 : decode cX4_copyFrom 55 = .ok (.iconst 0, 1) := by decide +kernel
theorem dX4_copyFrom_56 : decode cX4_copyFrom 56 = .ok (.aload_n 0, 1) := by decide +kernel
theorem dX4_copyFrom_57 : decode cX4_copyFrom 57 = .ok (.getfield 18, 3) := by decide +kernel
theorem dX4_copyFrom_60 : decode cX4_copyFrom 60 = .ok (.iconst 0, 1) := by decide +kernel
theorem dX4_copyFrom_61 : decode cX4_copyFrom 61 = .ok (.bipush 81, 2) := by decide +kernel
theorem dX4_copyFrom_63 : decode cX4_copyFrom 63 = .ok (.invokestatic 51, 3) := by decide +kernel
theorem dX4_copyFrom_66 : decode cX4_copyFrom 66 = .ok (.return_, 1) := by decide +kernel
theorem dX4_hasMachine_0 : decode cX4_hasMachine 0 = .ok (.iload_n 1, 1) := by decide +kernel
theorem dX4_hasMachine_1 : decode cX4_hasMachine 1 = .ok (.iconst 0, 1) := by decide +kernel
theorem dX4_hasMachine_2 : decode cX4_hasMachine 2 = .ok (.aload_n 0, 1) := by decide +kernel
theorem dX4_hasMachine_3 : decode cX4_hasMachine 3 = .ok (.getfield 22, 3) := by decide +kernel
theorem dX4_hasMachine_6 : decode cX4_hasMachine 6 = .ok (.iconst 1, 1) := by decide +kernel
theorem dX4_hasMachine_7 : decode cX4_hasMachine 7 = .ok (.isub, 1) := by decide +kernel
theorem dX4_hasMachine_8 : decode cX4_hasMachine 8 = .ok (.invokestatic 57, 3) := by decide +kernel
theorem dX4_hasMachine_11 : decode cX4_hasMachine 11 = .ok (.ireturn, 1) := by decide +kernel
theorem dX4_hasPlace_0 : decode cX4_hasPlace 0 = .ok (.iload_n 1, 1) := by decide +kernel
theorem dX4_hasPlace_1 : decode cX4_hasPlace 1 = .ok (.iconst 0, 1) := by decide +kernel
theorem dX4_hasPlace_2 : decode cX4_hasPlace 2 = .ok (.aload_n 0, 1) := by decide +kernel
theorem dX4_hasPlace_3 : decode cX4_hasPlace 3 = .ok (.getfield 26, 3) := by decide +kernel
theorem dX4_hasPlace_6 : decode cX4_hasPlace 6 = .ok (.iconst 1, 1) := by decide +kernel
theorem dX4_hasPlace_7 : decode cX4_hasPlace 7 = .ok (.isub, 1) := by decide +kernel
theorem dX4_hasPlace_8 : decode cX4_hasPlace 8 = .ok (.invokestatic 57, 3) := by decide +kernel
theorem dX4_hasPlace_11 : decode cX4_hasPlace 11 = .ok (.ireturn, 1) := by decide +kernel
theorem dX4_slowness_0 : decode cX4_slowness 0 = .ok (.iload_n 1, 1) := by decide +kernel
theorem dX4_slowness_1 : decode cX4_slowness 1 = .ok (.iload_n 2, 1) := by decide +kernel
theorem dX4_slowness_2 : decode cX4_slowness 2 = .ok (.invokestatic 61, 3) := by decide +kernel
theorem dX4_slowness_5 : decode cX4_slowness 5 = .ok (.ifCond .eq 17, 3) := by decide +kernel
theorem dX4_slowness_8 : decode cX4_slowness 8 = .ok (.aload_n 0, 1) := by decide +kernel
theorem dX4_slowness_9 : decode cX4_slowness 9 = .ok (.getfield 18, 3) := by decide +kernel
theorem dX4_slowness_12 : decode cX4_slowness 12 = .ok (.iload_n 1, 1) := by decide +kernel
theorem dX4_slowness_13 : decode cX4_slowness 13 = .ok (.bipush 9, 2) := by decide +kernel
theorem dX4_slowness_15 : decode cX4_slowness 15 = .ok (.imul, 1) := by decide +kernel
theorem dX4_slowness_16 : decode cX4_slowness 16 = .ok (.iload_n 2, 1) := by decide +kernel
theorem dX4_slowness_17 : decode cX4_slowness 17 = .ok (.iadd, 1) := by decide +kernel
theorem dX4_slowness_18 : decode cX4_slowness 18 = .ok (.iaload, 1) := by decide +kernel
theorem dX4_slowness_19 : decode cX4_slowness 19 = .ok (.goto 4, 3) := by decide +kernel
theorem dX4_slowness_22 : decode cX4_slowness 22 = .ok (.iconst 1, 1) := by decide +kernel
theorem dX4_slowness_23 : decode cX4_slowness 23 = .ok (.ireturn, 1) := by decide +kernel
theorem dX4_setSlowness_0 : decode cX4_setSlowness 0 = .ok (.iload_n 1, 1) := by decide +kernel
theorem dX4_setSlowness_1 : decode cX4_setSlowness 1 = .ok (.iload_n 2, 1) := by decide +kernel
theorem dX4_setSlowness_2 : decode cX4_setSlowness 2 = .ok (.invokestatic 61, 3) := by decide +kernel
theorem dX4_setSlowness_5 : decode cX4_setSlowness 5 = .ok (.ifCond .eq 27, 3) := by decide +kernel
theorem dX4_setSlowness_8 : decode cX4_setSlowness 8 = .ok (.aload_n 0, 1) := by decide +kernel
theorem dX4_setSlowness_9 : decode cX4_setSlowness 9 = .ok (.getfield 18, 3) := by decide +kernel
theorem dX4_setSlowness_12 : decode cX4_setSlowness 12 = .ok (.iload_n 1, 1) := by decide +kernel
theorem dX4_setSlowness_13 : decode cX4_setSlowness 13 = .ok (.bipush 9, 2) := by decide +kernel
theorem dX4_setSlowness_15 : decode cX4_setSlowness 15 = .ok (.imul, 1) := by decide +kernel
theorem dX4_setSlowness_16 : decode cX4_setSlowness 16 = .ok (.iload_n 2, 1) := by decide +kernel
theorem dX4_setSlowness_17 : decode cX4_setSlowness 17 = .ok (.iadd, 1) := by decide +kernel
theorem dX4_setSlowness_18 : decode cX4_setSlowness 18 = .ok (.iload_n 3, 1) := by decide +kernel
theorem dX4_setSlowness_19 : decode cX4_setSlowness 19 = .ok (.iastore, 1) := by decide +kernel
theorem dX4_setSlowness_20 : decode cX4_setSlowness 20 = .ok (.aload_n 0, 1) := by decide +kernel
theorem dX4_setSlowness_21 : decode cX4_setSlowness 21 = .ok (.getfield 18, 3) := by decide +kernel
theorem dX4_setSlowness_24 : decode cX4_setSlowness 24 = .ok (.iload_n 2, 1) := by decide +kernel
theorem dX4_setSlowness_25 : decode cX4_setSlowness 25 = .ok (.bipush 9, 2) := by decide +kernel
theorem dX4_setSlowness_27 : decode cX4_setSlowness 27 = .ok (.imul, 1) := by decide +kernel
theorem dX4_setSlowness_28 : decode cX4_setSlowness 28 = .ok (.iload_n 1, 1) := by decide +kernel
theorem dX4_setSlowness_29 : decode cX4_setSlowness 29 = .ok (.iadd, 1) := by decide +kernel
theorem dX4_setSlowness_30 : decode cX4_setSlowness 30 = .ok (.iload_n 3, 1) := by decide +kernel
theorem dX4_setSlowness_31 : decode cX4_setSlowness 31 = .ok (.iastore, 1) := by decide +kernel
theorem dX4_setSlowness_32 : decode cX4_setSlowness 32 = .ok (.return_, 1) := by decide +kernel
theorem dX4_mixed_0 : decode cX4_mixed 0 = .ok (.aload_n 0, 1) := by decide +kernel
theorem dX4_mixed_1 : decode cX4_mixed 1 = .ok (.getfield 29, 3) := by decide +kernel
theorem dX4_mixed_4 : decode cX4_mixed 4 = .ok (.ifCond .ne 11, 3) := by decide +kernel
theorem dX4_mixed_7 : decode cX4_mixed 7 = .ok (.iload_n 1, 1) := by decide +kernel
theorem dX4_mixed_8 : decode cX4_mixed 8 = .ok (.iload_n 2, 1) := by decide +kernel
theorem dX4_mixed_9 : decode cX4_mixed 9 = .ok (.iadd, 1) := by decide +kernel
theorem dX4_mixed_10 : decode cX4_mixed 10 = .ok (.sipush 997, 3) := by decide +kernel
theorem dX4_mixed_13 : decode cX4_mixed 13 = .ok (.irem, 1) := by decide +kernel
theorem dX4_mixed_14 : decode cX4_mixed 14 = .ok (.ireturn, 1) := by decide +kernel
theorem dX4_mixed_15 : decode cX4_mixed 15 = .ok (.aload_n 0, 1) := by decide +kernel
theorem dX4_mixed_16 : decode cX4_mixed 16 = .ok (.getfield 29, 3) := by decide +kernel
theorem dX4_mixed_19 : decode cX4_mixed 19 = .ok (.iconst 1, 1) := by decide +kernel
theorem dX4_mixed_20 : decode cX4_mixed 20 = .ok (.if_icmp .ne 9, 3) := by decide +kernel
theorem dX4_mixed_23 : decode cX4_mixed 23 = .ok (.iload_n 1, 1) := by decide +kernel
theorem dX4_mixed_24 : decode cX4_mixed 24 = .ok (.iload_n 2, 1) := by decide +kernel
theorem dX4_mixed_25 : decode cX4_mixed 25 = .ok (.invokestatic 65, 3) := by decide +kernel
theorem dX4_mixed_28 : decode cX4_mixed 28 = .ok (.ireturn, 1) := by decide +kernel
theorem dX4_mixed_29 : decode cX4_mixed 29 = .ok (.bipush 31, 2) := by decide +kernel
theorem dX4_mixed_31 : decode cX4_mixed 31 = .ok (.iload_n 1, 1) := by decide +kernel
theorem dX4_mixed_32 : decode cX4_mixed 32 = .ok (.imul, 1) := by decide +kernel
theorem dX4_mixed_33 : decode cX4_mixed 33 = .ok (.iload_n 2, 1) := by decide +kernel
theorem dX4_mixed_34 : decode cX4_mixed 34 = .ok (.iadd, 1) := by decide +kernel
theorem dX4_mixed_35 : decode cX4_mixed 35 = .ok (.sipush 997, 3) := by decide +kernel
theorem dX4_mixed_38 : decode cX4_mixed 38 = .ok (.irem, 1) := by decide +kernel
theorem dX4_mixed_39 : decode cX4_mixed 39 = .ok (.ireturn, 1) := by decide +kernel
theorem dX4_mixedByRising_0 : decode cX4_mixedByRising 0 = .ok (.aload_n 0, 1) := by decide +kernel
theorem dX4_mixedByRising_1 : decode cX4_mixedByRising 1 = .ok (.getfield 12, 3) := by decide +kernel
theorem dX4_mixedByRising_4 : decode cX4_mixedByRising 4 = .ok (.iconst 0, 1) := by decide +kernel
theorem dX4_mixedByRising_5 : decode cX4_mixedByRising 5 = .ok (.iload_n 1, 1) := by decide +kernel
theorem dX4_mixedByRising_6 : decode cX4_mixedByRising 6 = .ok (.invokevirtual 71, 3) := by decide +kernel
theorem dX4_mixedByRising_9 : decode cX4_mixedByRising 9 = .ok (.istore_n 2, 1) := by decide +kernel
theorem dX4_mixedByRising_10 : decode cX4_mixedByRising 10 = .ok (.iconst 1, 1) := by decide +kernel
theorem dX4_mixedByRising_11 : decode cX4_mixedByRising 11 = .ok (.istore_n 3, 1) := by decide +kernel
theorem dX4_mixedByRising_12 : decode cX4_mixedByRising 12 = .ok (.iload_n 3, 1) := by decide +kernel
theorem dX4_mixedByRising_13 : decode cX4_mixedByRising 13 = .ok (.aload_n 0, 1) := by decide +kernel
theorem dX4_mixedByRising_14 : decode cX4_mixedByRising 14 = .ok (.getfield 22, 3) := by decide +kernel
theorem dX4_mixedByRising_17 : decode cX4_mixedByRising 17 = .ok (.if_icmp .ge 24, 3) := by decide +kernel
theorem dX4_mixedByRising_20 : decode cX4_mixedByRising 20 = .ok (.aload_n 0, 1) := by decide +kernel
theorem dX4_mixedByRising_21 : decode cX4_mixedByRising 21 = .ok (.iload_n 2, 1) := by decide +kernel
theorem dX4_mixedByRising_22 : decode cX4_mixedByRising 22 = .ok (.aload_n 0, 1) := by decide +kernel
theorem dX4_mixedByRising_23 : decode cX4_mixedByRising 23 = .ok (.getfield 12, 3) := by decide +kernel
theorem dX4_mixedByRising_26 : decode cX4_mixedByRising 26 = .ok (.iload_n 3, 1) := by decide +kernel
theorem dX4_mixedByRising_27 : decode cX4_mixedByRising 27 = .ok (.iload_n 1, 1) := by decide +kernel
theorem dX4_mixedByRising_28 : decode cX4_mixedByRising 28 = .ok (.invokevirtual 71, 3) := by decide +kernel
theorem dX4_mixedByRising_31 : decode cX4_mixedByRising 31 = .ok (.invokevirtual 74, 3) := by decide +kernel
theorem dX4_mixedByRising_34 : decode cX4_mixedByRising 34 = .ok (.istore_n 2, 1) := by decide +kernel
theorem dX4_mixedByRising_35 : decode cX4_mixedByRising 35 = .ok (.iinc 3 1, 3) := by decide +kernel
theorem dX4_mixedByRising_38 : decode cX4_mixedByRising 38 = .ok (.goto (-26), 3) := by decide +kernel
theorem dX4_mixedByRising_41 : decode cX4_mixedByRising 41 = .ok (.iload_n 2, 1) := by decide +kernel
theorem dX4_mixedByRising_42 : decode cX4_mixedByRising 42 = .ok (.ireturn, 1) := by decide +kernel
theorem dX4_priceOf_0 : decode cX4_priceOf 0 = .ok (.aload_n 0, 1) := by decide +kernel
theorem dX4_priceOf_1 : decode cX4_priceOf 1 = .ok (.aload_n 1, 1) := by decide +kernel
theorem dX4_priceOf_2 : decode cX4_priceOf 2 = .ok (.iload_n 2, 1) := by decide +kernel
theorem dX4_priceOf_3 : decode cX4_priceOf 3 = .ok (.iconst 1, 1) := by decide +kernel
theorem dX4_priceOf_4 : decode cX4_priceOf 4 = .ok (.invokevirtual 77, 3) := by decide +kernel
theorem dX4_priceOf_7 : decode cX4_priceOf 7 = .ok (.aload_n 1, 1) := by decide +kernel
theorem dX4_priceOf_8 : decode cX4_priceOf 8 = .ok (.iload_n 2, 1) := by decide +kernel
theorem dX4_priceOf_9 : decode cX4_priceOf 9 = .ok (.iconst 2, 1) := by decide +kernel
theorem dX4_priceOf_10 : decode cX4_priceOf 10 = .ok (.invokevirtual 77, 3) := by decide +kernel
theorem dX4_priceOf_13 : decode cX4_priceOf 13 = .ok (.invokevirtual 82, 3) := by decide +kernel
theorem dX4_priceOf_16 : decode cX4_priceOf 16 = .ok (.istore_n 3, 1) := by decide +kernel
theorem dX4_priceOf_17 : decode cX4_priceOf 17 = .ok (.aload_n 0, 1) := by decide +kernel
theorem dX4_priceOf_18 : decode cX4_priceOf 18 = .ok (.getfield 32, 3) := by decide +kernel
theorem dX4_priceOf_21 : decode cX4_priceOf 21 = .ok (.aload_n 0, 1) := by decide +kernel
theorem dX4_priceOf_22 : decode cX4_priceOf 22 = .ok (.getfield 35, 3) := by decide +kernel
theorem dX4_priceOf_25 : decode cX4_priceOf 25 = .ok (.aload_n 1, 1) := by decide +kernel
theorem dX4_priceOf_26 : decode cX4_priceOf 26 = .ok (.iload_n 2, 1) := by decide +kernel
theorem dX4_priceOf_27 : decode cX4_priceOf 27 = .ok (.iconst 4, 1) := by decide +kernel
theorem dX4_priceOf_28 : decode cX4_priceOf 28 = .ok (.invokevirtual 77, 3) := by decide +kernel
theorem dX4_priceOf_31 : decode cX4_priceOf 31 = .ok (.imul, 1) := by decide +kernel
theorem dX4_priceOf_32 : decode cX4_priceOf 32 = .ok (.iadd, 1) := by decide +kernel
theorem dX4_priceOf_33 : decode cX4_priceOf 33 = .ok (.iload_n 3, 1) := by decide +kernel
theorem dX4_priceOf_34 : decode cX4_priceOf 34 = .ok (.imul, 1) := by decide +kernel
theorem dX4_priceOf_35 : decode cX4_priceOf 35 = .ok (.ireturn, 1) := by decide +kernel
theorem dX4_allNumbersAdded_0 : decode cX4_allNumbersAdded 0 = .ok (.iconst 0, 1) := by decide +kernel
theorem dX4_allNumbersAdded_1 : decode cX4_allNumbersAdded 1 = .ok (.istore_n 1, 1) := by decide +kernel
theorem dX4_allNumbersAdded_2 : decode cX4_allNumbersAdded 2 = .ok (.iconst 0, 1) := by decide +kernel
theorem dX4_allNumbersAdded_3 : decode cX4_allNumbersAdded 3 = .ok (.istore_n 2, 1) := by decide +kernel
theorem dX4_allNumbersAdded_4 : decode cX4_allNumbersAdded 4 = .ok (.iload_n 2, 1) := by decide +kernel
theorem dX4_allNumbersAdded_5 : decode cX4_allNumbersAdded 5 = .ok (.aload_n 0, 1) := by decide +kernel
theorem dX4_allNumbersAdded_6 : decode cX4_allNumbersAdded 6 = .ok (.getfield 22, 3) := by decide +kernel
theorem dX4_allNumbersAdded_9 : decode cX4_allNumbersAdded 9 = .ok (.if_icmp .ge 37, 3) := by decide +kernel
theorem dX4_allNumbersAdded_12 : decode cX4_allNumbersAdded 12 = .ok (.iconst 0, 1) := by decide +kernel
theorem dX4_allNumbersAdded_13 : decode cX4_allNumbersAdded 13 = .ok (.istore_n 3, 1) := by decide +kernel
theorem dX4_allNumbersAdded_14 : decode cX4_allNumbersAdded 14 = .ok (.iload_n 3, 1) := by decide +kernel
theorem dX4_allNumbersAdded_15 : decode cX4_allNumbersAdded 15 = .ok (.aload_n 0, 1) := by decide +kernel
theorem dX4_allNumbersAdded_16 : decode cX4_allNumbersAdded 16 = .ok (.getfield 26, 3) := by decide +kernel
theorem dX4_allNumbersAdded_19 : decode cX4_allNumbersAdded 19 = .ok (.if_icmp .ge 21, 3) := by decide +kernel
theorem dX4_allNumbersAdded_22 : decode cX4_allNumbersAdded 22 = .ok (.iload_n 1, 1) := by decide +kernel
theorem dX4_allNumbersAdded_23 : decode cX4_allNumbersAdded 23 = .ok (.aload_n 0, 1) := by decide +kernel
theorem dX4_allNumbersAdded_24 : decode cX4_allNumbersAdded 24 = .ok (.getfield 12, 3) := by decide +kernel
theorem dX4_allNumbersAdded_27 : decode cX4_allNumbersAdded 27 = .ok (.iload_n 2, 1) := by decide +kernel
theorem dX4_allNumbersAdded_28 : decode cX4_allNumbersAdded 28 = .ok (.iload_n 3, 1) := by decide +kernel
theorem dX4_allNumbersAdded_29 : decode cX4_allNumbersAdded 29 = .ok (.invokevirtual 71, 3) := by decide +kernel
theorem dX4_allNumbersAdded_32 : decode cX4_allNumbersAdded 32 = .ok (.iadd, 1) := by decide +kernel
theorem dX4_allNumbersAdded_33 : decode cX4_allNumbersAdded 33 = .ok (.istore_n 1, 1) := by decide +kernel
theorem dX4_allNumbersAdded_34 : decode cX4_allNumbersAdded 34 = .ok (.iinc 3 1, 3) := by decide +kernel
theorem dX4_allNumbersAdded_37 : decode cX4_allNumbersAdded 37 = .ok (.goto (-23), 3) := by decide +kernel
theorem dX4_allNumbersAdded_40 : decode cX4_allNumbersAdded 40 = .ok (.iinc 2 1, 3) := by decide +kernel
theorem dX4_allNumbersAdded_43 : decode cX4_allNumbersAdded 43 = .ok (.goto (-39), 3) := by decide +kernel
theorem dX4_allNumbersAdded_46 : decode cX4_allNumbersAdded 46 = .ok (.iload_n 1, 1) := by decide +kernel
theorem dX4_allNumbersAdded_47 : decode cX4_allNumbersAdded 47 = .ok (.ireturn, 1) := by decide +kernel
theorem dX4_hasLine_0 : decode cX4_hasLine 0 = .ok (.iload_n 0, 1) := by decide +kernel
theorem dX4_hasLine_1 : decode cX4_hasLine 1 = .ok (.iconst 0, 1) := by decide +kernel
theorem dX4_hasLine_2 : decode cX4_hasLine 2 = .ok (.bipush 8, 2) := by decide +kernel
theorem dX4_hasLine_4 : decode cX4_hasLine 4 = .ok (.invokestatic 57, 3) := by decide +kernel
theorem dX4_hasLine_7 : decode cX4_hasLine 7 = .ok (.ifCond .eq 17, 3) := by decide +kernel
theorem dX4_hasLine_10 : decode cX4_hasLine 10 = .ok (.iload_n 1, 1) := by decide +kernel
theorem dX4_hasLine_11 : decode cX4_hasLine 11 = .ok (.iconst 0, 1) := by decide +kernel
theorem dX4_hasLine_12 : decode cX4_hasLine 12 = .ok (.bipush 8, 2) := by decide +kernel
theorem dX4_hasLine_14 : decode cX4_hasLine 14 = .ok (.invokestatic 57, 3) := by decide +kernel
theorem dX4_hasLine_17 : decode cX4_hasLine 17 = .ok (.ifCond .eq 7, 3) := by decide +kernel
theorem dX4_hasLine_20 : decode cX4_hasLine 20 = .ok (.iconst 1, 1) := by decide +kernel
theorem dX4_hasLine_21 : decode cX4_hasLine 21 = .ok (.goto 4, 3) := by decide +kernel
theorem dX4_hasLine_24 : decode cX4_hasLine 24 = .ok (.iconst 0, 1) := by decide +kernel
theorem dX4_hasLine_25 : decode cX4_hasLine 25 = .ok (.ireturn, 1) := by decide +kernel
theorem dX5_init_0 : decode cX5_init 0 = .ok (.aload_n 0, 1) := by decide +kernel
theorem dX5_init_1 : decode cX5_init 1 = .ok (.invokespecial 1, 3) := by decide +kernel
theorem dX5_init_4 : decode cX5_init 4 = .ok (.aload_n 0, 1) := by decide +kernel
theorem dX5_init_5 : decode cX5_init 5 = .ok (.new 7, 3) := by decide +kernel
theorem dX5_init_8 : decode cX5_init 8 = .ok (.dup, 1) := by decide +kernel
theorem dX5_init_9 : decode cX5_init 9 = .ok (.invokespecial 9, 3) := by decide +kernel
theorem dX5_init_12 : decode cX5_init 12 = .ok (.putfield 10, 3) := by decide +kernel
theorem dX5_init_15 : decode cX5_init 15 = .ok (.aload_n 0, 1) := by decide +kernel
theorem dX5_init_16 : decode cX5_init 16 = .ok (.new 7, 3) := by decide +kernel
theorem dX5_init_19 : decode cX5_init 19 = .ok (.dup, 1) := by decide +kernel
theorem dX5_init_20 : decode cX5_init 20 = .ok (.invokespecial 9, 3) := by decide +kernel
theorem dX5_init_23 : decode cX5_init 23 = .ok (.putfield 16, 3) := by decide +kernel
theorem dX5_init_26 : decode cX5_init 26 = .ok (.aload_n 0, 1) := by decide +kernel
theorem dX5_init_27 : decode cX5_init 27 = .ok (.new 7, 3) := by decide +kernel
theorem dX5_init_30 : decode cX5_init 30 = .ok (.dup, 1) := by decide +kernel
theorem dX5_init_31 : decode cX5_init 31 = .ok (.invokespecial 9, 3) := by decide +kernel
theorem dX5_init_34 : decode cX5_init 34 = .ok (.putfield 19, 3) := by decide +kernel
theorem dX5_init_37 : decode cX5_init 37 = .ok (.aload_n 0, 1) := by decide +kernel
theorem dX5_init_38 : decode cX5_init 38 = .ok (.iconst 0, 1) := by decide +kernel
theorem dX5_init_39 : decode cX5_init 39 = .ok (.putfield 22, 3) := by decide +kernel
theorem dX5_init_42 : decode cX5_init 42 = .ok (.aload_n 0, 1) := by decide +kernel
theorem dX5_init_43 : decode cX5_init 43 = .ok (.new 26, 3) := by decide +kernel
theorem dX5_init_46 : decode cX5_init 46 = .ok (.dup, 1) := by decide +kernel
theorem dX5_init_47 : decode cX5_init 47 = .ok (.invokespecial 28, 3) := by decide +kernel
theorem dX5_init_50 : decode cX5_init 50 = .ok (.putfield 29, 3) := by decide +kernel
theorem dX5_init_53 : decode cX5_init 53 = .ok (.aload_n 0, 1) := by decide +kernel
theorem dX5_init_54 : decode cX5_init 54 = .ok (.new 33, 3) := by decide +kernel
theorem dX5_init_57 : decode cX5_init 57 = .ok (.dup, 1) := by decide +kernel
theorem dX5_init_58 : decode cX5_init 58 = .ok (.invokespecial 35, 3) := by decide +kernel
theorem dX5_init_61 : decode cX5_init 61 = .ok (.putfield 36, 3) := by decide +kernel
theorem dX5_init_64 : decode cX5_init 64 = .ok (.aload_n 0, 1) := by decide +kernel
theorem dX5_init_65 : decode cX5_init 65 = .ok (.new 40, 3) := by decide +kernel
theorem dX5_init_68 : decode cX5_init 68 = .ok (.dup, 1) := by decide +kernel
theorem dX5_init_69 : decode cX5_init 69 = .ok (.invokespecial 42, 3) := by decide +kernel
theorem dX5_init_72 : decode cX5_init 72 = .ok (.putfield 43, 3) := by decide +kernel
theorem dX5_init_75 : decode cX5_init 75 = .ok (.aload_n 0, 1) := by decide +kernel
theorem dX5_init_76 : decode cX5_init 76 = .ok (.new 40, 3) := by decide +kernel
theorem dX5_init_79 : decode cX5_init 79 = .ok (.dup, 1) := by decide +kernel
theorem dX5_init_80 : decode cX5_init 80 = .ok (.invokespecial 42, 3) := by decide +kernel
theorem dX5_init_83 : decode cX5_init 83 = .ok (.putfield 47, 3) := by decide +kernel
theorem dX5_init_86 : decode cX5_init 86 = .ok (.return_, 1) := by decide +kernel
theorem dX5_machines_0 : decode cX5_machines 0 = .ok (.iload_n 1, 1) := by decide +kernel
theorem dX5_machines_1 : decode cX5_machines 1 = .ok (.iconst 2, 1) := by decide +kernel
theorem dX5_machines_2 : decode cX5_machines 2 = .ok (.bipush 9, 2) := by decide +kernel
theorem dX5_machines_4 : decode cX5_machines 4 = .ok (.invokestatic 50, 3) := by decide +kernel
theorem dX5_machines_7 : decode cX5_machines 7 = .ok (.ifCond .eq 13, 3) := by decide +kernel
theorem dX5_machines_10 : decode cX5_machines 10 = .ok (.iload_n 2, 1) := by decide +kernel
theorem dX5_machines_11 : decode cX5_machines 11 = .ok (.iconst 1, 1) := by decide +kernel
theorem dX5_machines_12 : decode cX5_machines 12 = .ok (.bipush 12, 2) := by decide +kernel
theorem dX5_machines_14 : decode cX5_machines 14 = .ok (.invokestatic 50, 3) := by decide +kernel
theorem dX5_machines_17 : decode cX5_machines 17 = .ok (.ifCond .ne 6, 3) := by decide +kernel
theorem dX5_machines_20 : decode cX5_machines 20 = .ok (.bipush (-2), 2) := by decide +kernel
theorem dX5_machines_22 : decode cX5_machines 22 = .ok (.ireturn, 1) := by decide +kernel
theorem dX5_machines_23 : decode cX5_machines 23 = .ok (.aload_n 0, 1) := by decide +kernel
theorem dX5_machines_24 : decode cX5_machines 24 = .ok (.getfield 10, 3) := by decide +kernel
theorem dX5_machines_27 : decode cX5_machines 27 = .ok (.getfield 54, 3) := by decide +kernel
theorem dX5_machines_30 : decode cX5_machines 30 = .ok (.istore_n 3, 1) := by decide +kernel
theorem dX5_machines_31 : decode cX5_machines 31 = .ok (.aload_n 0, 1) := by decide +kernel
theorem dX5_machines_32 : decode cX5_machines 32 = .ok (.getfield 10, 3) := by decide +kernel
theorem dX5_machines_35 : decode cX5_machines 35 = .ok (.iload_n 1, 1) := by decide +kernel
theorem dX5_machines_36 : decode cX5_machines 36 = .ok (.iload_n 2, 1) := by decide +kernel
theorem dX5_machines_37 : decode cX5_machines 37 = .ok (.invokevirtual 57, 3) := by decide +kernel
theorem dX5_machines_40 : decode cX5_machines 40 = .ok (.iload_n 3, 1) := by decide +kernel
theorem dX5_machines_41 : decode cX5_machines 41 = .ok (.ireturn, 1) := by decide +kernel
theorem dX5_put_0 : decode cX5_put 0 = .ok (.aload_n 0, 1) := by decide +kernel
theorem dX5_put_1 : decode cX5_put 1 = .ok (.getfield 10, 3) := by decide +kernel
theorem dX5_put_4 : decode cX5_put 4 = .ok (.iload_n 1, 1) := by decide +kernel
theorem dX5_put_5 : decode cX5_put 5 = .ok (.invokevirtual 61, 3) := by decide +kernel
theorem dX5_put_8 : decode cX5_put 8 = .ok (.ifCond .ne 5, 3) := by decide +kernel
theorem dX5_put_11 : decode cX5_put 11 = .ok (.iconst (-1), 1) := by decide +kernel
theorem dX5_put_12 : decode cX5_put 12 = .ok (.ireturn, 1) := by decide +kernel
theorem dX5_put_13 : decode cX5_put 13 = .ok (.aload_n 0, 1) := by decide +kernel
theorem dX5_put_14 : decode cX5_put 14 = .ok (.getfield 10, 3) := by decide +kernel
theorem dX5_put_17 : decode cX5_put 17 = .ok (.iload_n 2, 1) := by decide +kernel
theorem dX5_put_18 : decode cX5_put 18 = .ok (.invokevirtual 65, 3) := by decide +kernel
theorem dX5_put_21 : decode cX5_put 21 = .ok (.ifCond .eq 14, 3) := by decide +kernel
theorem dX5_put_24 : decode cX5_put 24 = .ok (.iload_n 3, 1) := by decide +kernel
theorem dX5_put_25 : decode cX5_put 25 = .ok (.iconst 0, 1) := by decide +kernel
theorem dX5_put_26 : decode cX5_put 26 = .ok (.sipush 996, 3) := by decide +kernel
theorem dX5_put_29 : decode cX5_put 29 = .ok (.invokestatic 50, 3) := by decide +kernel
theorem dX5_put_32 : decode cX5_put 32 = .ok (.ifCond .ne 6, 3) := by decide +kernel
theorem dX5_put_35 : decode cX5_put 35 = .ok (.bipush (-2), 2) := by decide +kernel
theorem dX5_put_37 : decode cX5_put 37 = .ok (.ireturn, 1) := by decide +kernel
theorem dX5_put_38 : decode cX5_put 38 = .ok (.aload_n 0, 1) := by decide +kernel
theorem dX5_put_39 : decode cX5_put 39 = .ok (.getfield 10, 3) := by decide +kernel
theorem dX5_put_42 : decode cX5_put 42 = .ok (.getfield 68, 3) := by decide +kernel
theorem dX5_put_45 : decode cX5_put 45 = .ok (.iload_n 1, 1) := by decide +kernel
theorem dX5_put_46 : decode cX5_put 46 = .ok (.iload_n 2, 1) := by decide +kernel
theorem dX5_put_47 : decode cX5_put 47 = .ok (.invokevirtual 72, 3) := by decide +kernel
theorem dX5_put_50 : decode cX5_put 50 = .ok (.istore 4, 2) := by decide +kernel
theorem dX5_put_52 : decode cX5_put 52 = .ok (.aload_n 0, 1) := by decide +kernel
theorem dX5_put_53 : decode cX5_put 53 = .ok (.getfield 10, 3) := by decide +kernel
theorem dX5_put_56 : decode cX5_put 56 = .ok (.getfield 68, 3) := by decide +kernel
theorem dX5_put_59 : decode cX5_put 59 = .ok (.iload_n 1, 1) := by decide +kernel
theorem dX5_put_60 : decode cX5_put 60 = .ok (.iload_n 2, 1) := by decide +kernel
theorem dX5_put_61 : decode cX5_put 61 = .ok (.iload_n 3, 1) := by decide +kernel
theorem dX5_put_62 : decode cX5_put 62 = .ok (.invokevirtual 78, 3) := by decide +kernel
theorem dX5_put_65 : decode cX5_put 65 = .ok (.iload 4, 2) := by decide +kernel
theorem dX5_put_67 : decode cX5_put 67 = .ok (.ireturn, 1) := by decide +kernel
theorem dX5_rule_0 : decode cX5_rule 0 = .ok (.iload_n 1, 1) := by decide +kernel
theorem dX5_rule_1 : decode cX5_rule 1 = .ok (.iconst 0, 1) := by decide +kernel
theorem dX5_rule_2 : decode cX5_rule 2 = .ok (.iconst 2, 1) := by decide +kernel
theorem dX5_rule_3 : decode cX5_rule 3 = .ok (.invokestatic 50, 3) := by decide +kernel
theorem dX5_rule_6 : decode cX5_rule 6 = .ok (.ifCond .eq 21, 3) := by decide +kernel
theorem dX5_rule_9 : decode cX5_rule 9 = .ok (.iload_n 2, 1) := by decide +kernel
theorem dX5_rule_10 : decode cX5_rule 10 = .ok (.iconst 0, 1) := by decide +kernel
theorem dX5_rule_11 : decode cX5_rule 11 = .ok (.iload_n 1, 1) := by decide +kernel
theorem dX5_rule_12 : decode cX5_rule 12 = .ok (.ifCond .ne 7, 3) := by decide +kernel
theorem dX5_rule_15 : decode cX5_rule 15 = .ok (.iconst 2, 1) := by decide +kernel
theorem dX5_rule_16 : decode cX5_rule 16 = .ok (.goto 5, 3) := by decide +kernel
theorem dX5_rule_19 : decode cX5_rule 19 = .ok (.bipush 99, 2) := by decide +kernel
theorem dX5_rule_21 : decode cX5_rule 21 = .ok (.invokestatic 50, 3) := by decide +kernel
theorem dX5_rule_24 : decode cX5_rule 24 = .ok (.ifCond .ne 6, 3) := by decide +kernel
theorem dX5_rule_27 : decode cX5_rule 27 = .ok (.bipush (-2), 2) := by decide +kernel
theorem dX5_rule_29 : decode cX5_rule 29 = .ok (.ireturn, 1) := by decide +kernel
theorem dX5_rule_30 : decode cX5_rule 30 = .ok (.aload_n 0, 1) := by decide +kernel
theorem dX5_rule_31 : decode cX5_rule 31 = .ok (.iload_n 1, 1) := by decide +kernel
theorem dX5_rule_32 : decode cX5_rule 32 = .ok (.invokevirtual 82, 3) := by decide +kernel
theorem dX5_rule_35 : decode cX5_rule 35 = .ok (.istore_n 3, 1) := by decide +kernel
theorem dX5_rule_36 : decode cX5_rule 36 = .ok (.iload_n 1, 1) := by decide +kernel
theorem dX5_rule_37 : decode cX5_rule 37 = .ok (.ifCond .ne 14, 3) := by decide +kernel
theorem dX5_rule_40 : decode cX5_rule 40 = .ok (.aload_n 0, 1) := by decide +kernel
theorem dX5_rule_41 : decode cX5_rule 41 = .ok (.getfield 10, 3) := by decide +kernel
theorem dX5_rule_44 : decode cX5_rule 44 = .ok (.iload_n 2, 1) := by decide +kernel
theorem dX5_rule_45 : decode cX5_rule 45 = .ok (.putfield 86, 3) := by decide +kernel
theorem dX5_rule_48 : decode cX5_rule 48 = .ok (.goto 27, 3) := by decide +kernel
theorem dX5_rule_51 : decode cX5_rule 51 = .ok (.iload_n 1, 1) := by decide +kernel
theorem dX5_rule_52 : decode cX5_rule 52 = .ok (.iconst 1, 1) := by decide +kernel
theorem dX5_rule_53 : decode cX5_rule 53 = .ok (.if_icmp .ne 14, 3) := by decide +kernel
theorem dX5_rule_56 : decode cX5_rule 56 = .ok (.aload_n 0, 1) := by decide +kernel
theorem dX5_rule_57 : decode cX5_rule 57 = .ok (.getfield 10, 3) := by decide +kernel
theorem dX5_rule_60 : decode cX5_rule 60 = .ok (.iload_n 2, 1) := by decide +kernel
theorem dX5_rule_61 : decode cX5_rule 61 = .ok (.putfield 89, 3) := by decide +kernel
theorem dX5_rule_64 : decode cX5_rule 64 = .ok (.goto 11, 3) := by decide +kernel
theorem dX5_rule_67 : decode cX5_rule 67 = .ok (.aload_n 0, 1) := by decide +kernel
theorem dX5_rule_68 : decode cX5_rule 68 = .ok (.getfield 10, 3) := by decide +kernel
theorem dX5_rule_71 : decode cX5_rule 71 = .ok (.iload_n 2, 1) := by decide +kernel
theorem dX5_rule_72 : decode cX5_rule 72 = .ok (.putfield 92, 3) := by decide +kernel
theorem dX5_rule_75 : decode cX5_rule 75 = .ok (.iload_n 3, 1) := by decide +kernel
theorem dX5_rule_76 : decode cX5_rule 76 = .ok (.ireturn, 1) := by decide +kernel
theorem dX5_slow_0 : decode cX5_slow 0 = .ok (.aload_n 0, 1) := by decide +kernel
theorem dX5_slow_1 : decode cX5_slow 1 = .ok (.getfield 10, 3) := by decide +kernel
theorem dX5_slow_4 : decode cX5_slow 4 = .ok (.iload_n 1, 1) := by decide +kernel
theorem dX5_slow_5 : decode cX5_slow 5 = .ok (.invokevirtual 61, 3) := by decide +kernel
theorem dX5_slow_8 : decode cX5_slow 8 = .ok (.ifCond .eq 14, 3) := by decide +kernel
theorem dX5_slow_11 : decode cX5_slow 11 = .ok (.aload_n 0, 1) := by decide +kernel
theorem dX5_slow_12 : decode cX5_slow 12 = .ok (.getfield 10, 3) := by decide +kernel
theorem dX5_slow_15 : decode cX5_slow 15 = .ok (.iload_n 2, 1) := by decide +kernel
theorem dX5_slow_16 : decode cX5_slow 16 = .ok (.invokevirtual 61, 3) := by decide +kernel
theorem dX5_slow_19 : decode cX5_slow 19 = .ok (.ifCond .ne 5, 3) := by decide +kernel
theorem dX5_slow_22 : decode cX5_slow 22 = .ok (.iconst (-1), 1) := by decide +kernel
theorem dX5_slow_23 : decode cX5_slow 23 = .ok (.ireturn, 1) := by decide +kernel
theorem dX5_slow_24 : decode cX5_slow 24 = .ok (.iload_n 1, 1) := by decide +kernel
theorem dX5_slow_25 : decode cX5_slow 25 = .ok (.iload_n 2, 1) := by decide +kernel
theorem dX5_slow_26 : decode cX5_slow 26 = .ok (.if_icmp .eq 13, 3) := by decide +kernel
theorem dX5_slow_29 : decode cX5_slow 29 = .ok (.iload_n 3, 1) := by decide +kernel
theorem dX5_slow_30 : decode cX5_slow 30 = .ok (.iconst 1, 1) := by decide +kernel
theorem dX5_slow_31 : decode cX5_slow 31 = .ok (.bipush 9, 2) := by decide +kernel
theorem dX5_slow_33 : decode cX5_slow 33 = .ok (.invokestatic 50, 3) := by decide +kernel
theorem dX5_slow_36 : decode cX5_slow 36 = .ok (.ifCond .ne 6, 3) := by decide +kernel
theorem dX5_slow_39 : decode cX5_slow 39 = .ok (.bipush (-2), 2) := by decide +kernel
theorem dX5_slow_41 : decode cX5_slow 41 = .ok (.ireturn, 1) := by decide +kernel
theorem dX5_slow_42 : decode cX5_slow 42 = .ok (.aload_n 0, 1) := by decide +kernel
theorem dX5_slow_43 : decode cX5_slow 43 = .ok (.getfield 10, 3) := by decide +kernel
theorem dX5_slow_46 : decode cX5_slow 46 = .ok (.iload_n 1, 1) := by decide +kernel
theorem dX5_slow_47 : decode cX5_slow 47 = .ok (.iload_n 2, 1) := by decide +kernel
theorem dX5_slow_48 : decode cX5_slow 48 = .ok (.invokevirtual 95, 3) := by decide +kernel
theorem dX5_slow_51 : decode cX5_slow 51 = .ok (.istore 4, 2) := by decide +kernel
theorem dX5_slow_53 : decode cX5_slow 53 = .ok (.aload_n 0, 1) := by decide +kernel
theorem dX5_slow_54 : decode cX5_slow 54 = .ok (.getfield 10, 3) := by decide +kernel
theorem dX5_slow_57 : decode cX5_slow 57 = .ok (.iload_n 1, 1) := by decide +kernel
theorem dX5_slow_58 : decode cX5_slow 58 = .ok (.iload_n 2, 1) := by decide +kernel
theorem dX5_slow_59 : decode cX5_slow 59 = .ok (.iload_n 3, 1) := by decide +kernel
theorem dX5_slow_60 : decode cX5_slow 60 = .ok (.invokevirtual 98, 3) := by decide +kernel
theorem dX5_slow_63 : decode cX5_slow 63 = .ok (.iload 4, 2) := by decide +kernel
theorem dX5_slow_65 : decode cX5_slow 65 = .ok (.ireturn, 1) := by decide +kernel
theorem dX5_at_0 : decode cX5_at 0 = .ok (.aload_n 0, 1) := by decide +kernel
theorem dX5_at_1 : decode cX5_at 1 = .ok (.getfield 10, 3) := by decide +kernel
theorem dX5_at_4 : decode cX5_at 4 = .ok (.iload_n 1, 1) := by decide +kernel
theorem dX5_at_5 : decode cX5_at 5 = .ok (.invokevirtual 61, 3) := by decide +kernel
theorem dX5_at_8 : decode cX5_at 8 = .ok (.ifCond .ne 5, 3) := by decide +kernel
theorem dX5_at_11 : decode cX5_at 11 = .ok (.iconst (-1), 1) := by decide +kernel
theorem dX5_at_12 : decode cX5_at 12 = .ok (.ireturn, 1) := by decide +kernel
theorem dX5_at_13 : decode cX5_at 13 = .ok (.aload_n 0, 1) := by decide +kernel
theorem dX5_at_14 : decode cX5_at 14 = .ok (.getfield 10, 3) := by decide +kernel
theorem dX5_at_17 : decode cX5_at 17 = .ok (.iload_n 2, 1) := by decide +kernel
theorem dX5_at_18 : decode cX5_at 18 = .ok (.invokevirtual 65, 3) := by decide +kernel
theorem dX5_at_21 : decode cX5_at 21 = .ok (.ifCond .eq 18, 3) := by decide +kernel
theorem dX5_at_24 : decode cX5_at 24 = .ok (.aload_n 0, 1) := by decide +kernel
theorem dX5_at_25 : decode cX5_at 25 = .ok (.getfield 10, 3) := by decide +kernel
theorem dX5_at_28 : decode cX5_at 28 = .ok (.getfield 68, 3) := by decide +kernel
theorem dX5_at_31 : decode cX5_at 31 = .ok (.iload_n 1, 1) := by decide +kernel
theorem dX5_at_32 : decode cX5_at 32 = .ok (.iload_n 2, 1) := by decide +kernel
theorem dX5_at_33 : decode cX5_at 33 = .ok (.invokevirtual 72, 3) := by decide +kernel
theorem dX5_at_36 : decode cX5_at 36 = .ok (.goto 5, 3) := by decide +kernel
theorem dX5_at_39 : decode cX5_at 39 = .ok (.bipush (-6), 2) := by decide +kernel
theorem dX5_at_41 : decode cX5_at 41 = .ok (.ireturn, 1) := by decide +kernel
theorem dX5_way_0 : decode cX5_way 0 = .ok (.iload_n 1, 1) := by decide +kernel
theorem dX5_way_1 : decode cX5_way 1 = .ok (.invokestatic 101, 3) := by decide +kernel
theorem dX5_way_4 : decode cX5_way 4 = .ok (.ifCond .ne 5, 3) := by decide +kernel
theorem dX5_way_7 : decode cX5_way 7 = .ok (.iconst (-1), 1) := by decide +kernel
theorem dX5_way_8 : decode cX5_way 8 = .ok (.ireturn, 1) := by decide +kernel
theorem dX5_way_9 : decode cX5_way 9 = .ok (.iload_n 2, 1) := by decide +kernel
theorem dX5_way_10 : decode cX5_way 10 = .ok (.iconst 0, 1) := by decide +kernel
theorem dX5_way_11 : decode cX5_way 11 = .ok (.iconst 5, 1) := by decide +kernel
theorem dX5_way_12 : decode cX5_way 12 = .ok (.invokestatic 50, 3) := by decide +kernel
theorem dX5_way_15 : decode cX5_way 15 = .ok (.ifCond .ne 6, 3) := by decide +kernel
theorem dX5_way_18 : decode cX5_way 18 = .ok (.bipush (-2), 2) := by decide +kernel
theorem dX5_way_20 : decode cX5_way 20 = .ok (.ireturn, 1) := by decide +kernel
theorem dX5_way_21 : decode cX5_way 21 = .ok (.aload_n 0, 1) := by decide +kernel
theorem dX5_way_22 : decode cX5_way 22 = .ok (.iload_n 1, 1) := by decide +kernel
theorem dX5_way_23 : decode cX5_way 23 = .ok (.invokevirtual 104, 3) := by decide +kernel
theorem dX5_way_26 : decode cX5_way 26 = .ok (.aload_n 0, 1) := by decide +kernel
theorem dX5_way_27 : decode cX5_way 27 = .ok (.getfield 36, 3) := by decide +kernel
theorem dX5_way_30 : decode cX5_way 30 = .ok (.aload_n 0, 1) := by decide +kernel
theorem dX5_way_31 : decode cX5_way 31 = .ok (.getfield 10, 3) := by decide +kernel
theorem dX5_way_34 : decode cX5_way 34 = .ok (.aload_n 0, 1) := by decide +kernel
theorem dX5_way_35 : decode cX5_way 35 = .ok (.getfield 29, 3) := by decide +kernel
theorem dX5_way_38 : decode cX5_way 38 = .ok (.invokevirtual 108, 3) := by decide +kernel
theorem dX5_way_41 : decode cX5_way 41 = .ok (.iload_n 2, 1) := by decide +kernel
theorem dX5_way_42 : decode cX5_way 42 = .ok (.tableswitch 74 0 4 #[34, 42, 50, 58, 66], 34) := by decide +kernel
theorem dX5_way_76 : decode cX5_way 76 = .ok (.aload_n 0, 1) := by decide +kernel
theorem dX5_way_77 : decode cX5_way 77 = .ok (.getfield 29, 3) := by decide +kernel
theorem dX5_way_80 : decode cX5_way 80 = .ok (.getfield 112, 3) := by decide +kernel
theorem dX5_way_83 : decode cX5_way 83 = .ok (.ireturn, 1) := by decide +kernel
theorem dX5_way_84 : decode cX5_way 84 = .ok (.aload_n 0, 1) := by decide +kernel
theorem dX5_way_85 : decode cX5_way 85 = .ok (.getfield 29, 3) := by decide +kernel
theorem dX5_way_88 : decode cX5_way 88 = .ok (.getfield 115, 3) := by decide +kernel
theorem dX5_way_91 : decode cX5_way 91 = .ok (.ireturn, 1) := by decide +kernel
theorem dX5_way_92 : decode cX5_way 92 = .ok (.aload_n 0, 1) := by decide +kernel
theorem dX5_way_93 : decode cX5_way 93 = .ok (.getfield 29, 3) := by decide +kernel
theorem dX5_way_96 : decode cX5_way 96 = .ok (.invokevirtual 118, 3) := by decide +kernel
theorem dX5_way_99 : decode cX5_way 99 = .ok (.ireturn, 1) := by decide +kernel
theorem dX5_way_100 : decode cX5_way 100 = .ok (.aload_n 0, 1) := by decide +kernel
theorem dX5_way_101 : decode cX5_way 101 = .ok (.getfield 36, 3) := by decide +kernel
theorem dX5_way_104 : decode cX5_way 104 = .ok (.getfield 122, 3) := by decide +kernel
theorem dX5_way_107 : decode cX5_way 107 = .ok (.ireturn, 1) := by decide +kernel
theorem dX5_way_108 : decode cX5_way 108 = .ok (.aload_n 0, 1) := by decide +kernel
theorem dX5_way_109 : decode cX5_way 109 = .ok (.getfield 36, 3) := by decide +kernel
theorem dX5_way_112 : decode cX5_way 112 = .ok (.getfield 125, 3) := by decide +kernel
theorem dX5_way_115 : decode cX5_way 115 = .ok (.ireturn, 1) := by decide +kernel
theorem dX5_way_116 : decode cX5_way 116 = .ok (.aload_n 0, 1) := by decide +kernel
theorem dX5_way_117 : decode cX5_way 117 = .ok (.getfield 36, 3) := by decide +kernel
theorem dX5_way_120 : decode cX5_way 120 = .ok (.aload_n 0, 1) := by decide +kernel
theorem dX5_way_121 : decode cX5_way 121 = .ok (.getfield 10, 3) := by decide +kernel
theorem dX5_way_124 : decode cX5_way 124 = .ok (.getfield 54, 3) := by decide +kernel
theorem dX5_way_127 : decode cX5_way 127 = .ok (.invokevirtual 128, 3) := by decide +kernel
theorem dX5_way_130 : decode cX5_way 130 = .ok (.ireturn, 1) := by decide +kernel
theorem dX5_letter_0 : decode cX5_letter 0 = .ok (.iload_n 1, 1) := by decide +kernel
theorem dX5_letter_1 : decode cX5_letter 1 = .ok (.invokestatic 101, 3) := by decide +kernel
theorem dX5_letter_4 : decode cX5_letter 4 = .ok (.ifCond .ne 5, 3) := by decide +kernel
theorem dX5_letter_7 : decode cX5_letter 7 = .ok (.iconst (-1), 1) := by decide +kernel
theorem dX5_letter_8 : decode cX5_letter 8 = .ok (.ireturn, 1) := by decide +kernel
theorem dX5_letter_9 : decode cX5_letter 9 = .ok (.iload_n 3, 1) := by decide +kernel
theorem dX5_letter_10 : decode cX5_letter 10 = .ok (.iconst 0, 1) := by decide +kernel
theorem dX5_letter_11 : decode cX5_letter 11 = .ok (.bipush 6, 2) := by decide +kernel
theorem dX5_letter_13 : decode cX5_letter 13 = .ok (.invokestatic 50, 3) := by decide +kernel
theorem dX5_letter_16 : decode cX5_letter 16 = .ok (.ifCond .ne 6, 3) := by decide +kernel
theorem dX5_letter_19 : decode cX5_letter 19 = .ok (.bipush (-2), 2) := by decide +kernel
theorem dX5_letter_21 : decode cX5_letter 21 = .ok (.ireturn, 1) := by decide +kernel
theorem dX5_letter_22 : decode cX5_letter 22 = .ok (.aload_n 0, 1) := by decide +kernel
theorem dX5_letter_23 : decode cX5_letter 23 = .ok (.iload_n 1, 1) := by decide +kernel
theorem dX5_letter_24 : decode cX5_letter 24 = .ok (.invokevirtual 104, 3) := by decide +kernel
theorem dX5_letter_27 : decode cX5_letter 27 = .ok (.aload_n 0, 1) := by decide +kernel
theorem dX5_letter_28 : decode cX5_letter 28 = .ok (.getfield 29, 3) := by decide +kernel
theorem dX5_letter_31 : decode cX5_letter 31 = .ok (.iload_n 2, 1) := by decide +kernel
theorem dX5_letter_32 : decode cX5_letter 32 = .ok (.invokevirtual 131, 3) := by decide +kernel
theorem dX5_letter_35 : decode cX5_letter 35 = .ok (.ifCond .ne 6, 3) := by decide +kernel
theorem dX5_letter_38 : decode cX5_letter 38 = .ok (.bipush (-6), 2) := by decide +kernel
theorem dX5_letter_40 : decode cX5_letter 40 = .ok (.ireturn, 1) := by decide +kernel
theorem dX5_letter_41 : decode cX5_letter 41 = .ok (.iload_n 3, 1) := by decide +kernel
theorem dX5_letter_42 : decode cX5_letter 42 = .ok (.bipush 6, 2) := by decide +kernel
theorem dX5_letter_44 : decode cX5_letter 44 = .ok (.if_icmp .ne 18, 3) := by decide +kernel
theorem dX5_letter_47 : decode cX5_letter 47 = .ok (.aload_n 0, 1) := by decide +kernel
theorem dX5_letter_48 : decode cX5_letter 48 = .ok (.getfield 10, 3) := by decide +kernel
theorem dX5_letter_51 : decode cX5_letter 51 = .ok (.aload_n 0, 1) := by decide +kernel
theorem dX5_letter_52 : decode cX5_letter 52 = .ok (.getfield 29, 3) := by decide +kernel
theorem dX5_letter_55 : decode cX5_letter 55 = .ok (.iload_n 2, 1) := by decide +kernel
theorem dX5_letter_56 : decode cX5_letter 56 = .ok (.invokevirtual 134, 3) := by decide +kernel
theorem dX5_letter_59 : decode cX5_letter 59 = .ok (.goto 12, 3) := by decide +kernel
theorem dX5_letter_62 : decode cX5_letter 62 = .ok (.aload_n 0, 1) := by decide +kernel
theorem dX5_letter_63 : decode cX5_letter 63 = .ok (.getfield 29, 3) := by decide +kernel
theorem dX5_letter_66 : decode cX5_letter 66 = .ok (.iload_n 2, 1) := by decide +kernel
theorem dX5_letter_67 : decode cX5_letter 67 = .ok (.iload_n 3, 1) := by decide +kernel
theorem dX5_letter_68 : decode cX5_letter 68 = .ok (.invokevirtual 138, 3) := by decide +kernel
theorem dX5_letter_71 : decode cX5_letter 71 = .ok (.ireturn, 1) := by decide +kernel
theorem dX5_behind_0 : decode cX5_behind 0 = .ok (.iload_n 1, 1) := by decide +kernel
theorem dX5_behind_1 : decode cX5_behind 1 = .ok (.invokestatic 101, 3) := by decide +kernel
theorem dX5_behind_4 : decode cX5_behind 4 = .ok (.ifCond .eq 14, 3) := by decide +kernel
theorem dX5_behind_7 : decode cX5_behind 7 = .ok (.aload_n 0, 1) := by decide +kernel
theorem dX5_behind_8 : decode cX5_behind 8 = .ok (.getfield 10, 3) := by decide +kernel
theorem dX5_behind_11 : decode cX5_behind 11 = .ok (.iload_n 3, 1) := by decide +kernel
theorem dX5_behind_12 : decode cX5_behind 12 = .ok (.invokevirtual 61, 3) := by decide +kernel
theorem dX5_behind_15 : decode cX5_behind 15 = .ok (.ifCond .ne 5, 3) := by decide +kernel
theorem dX5_behind_18 : decode cX5_behind 18 = .ok (.iconst (-1), 1) := by decide +kernel
theorem dX5_behind_19 : decode cX5_behind 19 = .ok (.ireturn, 1) := by decide +kernel
theorem dX5_behind_20 : decode cX5_behind 20 = .ok (.iload_n 2, 1) := by decide +kernel
theorem dX5_behind_21 : decode cX5_behind 21 = .ok (.ifCond .ge 6, 3) := by decide +kernel
theorem dX5_behind_24 : decode cX5_behind 24 = .ok (.bipush (-2), 2) := by decide +kernel
theorem dX5_behind_26 : decode cX5_behind 26 = .ok (.ireturn, 1) := by decide +kernel
theorem dX5_behind_27 : decode cX5_behind 27 = .ok (.aload_n 0, 1) := by decide +kernel
theorem dX5_behind_28 : decode cX5_behind 28 = .ok (.getfield 10, 3) := by decide +kernel
theorem dX5_behind_31 : decode cX5_behind 31 = .ok (.iload 4, 2) := by decide +kernel
theorem dX5_behind_33 : decode cX5_behind 33 = .ok (.invokevirtual 65, 3) := by decide +kernel
theorem dX5_behind_36 : decode cX5_behind 36 = .ok (.ifCond .ne 6, 3) := by decide +kernel
theorem dX5_behind_39 : decode cX5_behind 39 = .ok (.bipush (-6), 2) := by decide +kernel
theorem dX5_behind_41 : decode cX5_behind 41 = .ok (.ireturn, 1) := by decide +kernel
theorem dX5_behind_42 : decode cX5_behind 42 = .ok (.aload_n 0, 1) := by decide +kernel
theorem dX5_behind_43 : decode cX5_behind 43 = .ok (.iload_n 1, 1) := by decide +kernel
theorem dX5_behind_44 : decode cX5_behind 44 = .ok (.invokevirtual 104, 3) := by decide +kernel
theorem dX5_behind_47 : decode cX5_behind 47 = .ok (.aload_n 0, 1) := by decide +kernel
theorem dX5_behind_48 : decode cX5_behind 48 = .ok (.getfield 43, 3) := by decide +kernel
theorem dX5_behind_51 : decode cX5_behind 51 = .ok (.aload_n 0, 1) := by decide +kernel
theorem dX5_behind_52 : decode cX5_behind 52 = .ok (.getfield 10, 3) := by decide +kernel
theorem dX5_behind_55 : decode cX5_behind 55 = .ok (.aload_n 0, 1) := by decide +kernel
theorem dX5_behind_56 : decode cX5_behind 56 = .ok (.getfield 29, 3) := by decide +kernel
theorem dX5_behind_59 : decode cX5_behind 59 = .ok (.iload_n 2, 1) := by decide +kernel
theorem dX5_behind_60 : decode cX5_behind 60 = .ok (.iconst (-1), 1) := by decide +kernel
theorem dX5_behind_61 : decode cX5_behind 61 = .ok (.invokevirtual 141, 3) := by decide +kernel
theorem dX5_behind_64 : decode cX5_behind 64 = .ok (.aload_n 0, 1) := by decide +kernel
theorem dX5_behind_65 : decode cX5_behind 65 = .ok (.getfield 43, 3) := by decide +kernel
theorem dX5_behind_68 : decode cX5_behind 68 = .ok (.getfield 145, 3) := by decide +kernel
theorem dX5_behind_71 : decode cX5_behind 71 = .ok (.iload_n 3, 1) := by decide +kernel
theorem dX5_behind_72 : decode cX5_behind 72 = .ok (.iload 4, 2) := by decide +kernel
theorem dX5_behind_74 : decode cX5_behind 74 = .ok (.invokevirtual 72, 3) := by decide +kernel
theorem dX5_behind_77 : decode cX5_behind 77 = .ok (.ireturn, 1) := by decide +kernel
theorem dX5_same_0 : decode cX5_same 0 = .ok (.iload_n 1, 1) := by decide +kernel
theorem dX5_same_1 : decode cX5_same 1 = .ok (.invokestatic 101, 3) := by decide +kernel
theorem dX5_same_4 : decode cX5_same 4 = .ok (.ifCond .ne 5, 3) := by decide +kernel
theorem dX5_same_7 : decode cX5_same 7 = .ok (.iconst (-1), 1) := by decide +kernel
theorem dX5_same_8 : decode cX5_same 8 = .ok (.ireturn, 1) := by decide +kernel
theorem dX5_same_9 : decode cX5_same 9 = .ok (.iload_n 2, 1) := by decide +kernel
theorem dX5_same_10 : decode cX5_same 10 = .ok (.iconst 0, 1) := by decide +kernel
theorem dX5_same_11 : decode cX5_same 11 = .ok (.iconst 1, 1) := by decide +kernel
theorem dX5_same_12 : decode cX5_same 12 = .ok (.invokestatic 50, 3) := by decide +kernel
theorem dX5_same_15 : decode cX5_same 15 = .ok (.ifCond .ne 6, 3) := by decide +kernel
theorem dX5_same_18 : decode cX5_same 18 = .ok (.bipush (-2), 2) := by decide +kernel
theorem dX5_same_20 : decode cX5_same 20 = .ok (.ireturn, 1) := by decide +kernel
theorem dX5_same_21 : decode cX5_same 21 = .ok (.aload_n 0, 1) := by decide +kernel
theorem dX5_same_22 : decode cX5_same 22 = .ok (.aload_n 0, 1) := by decide +kernel
theorem dX5_same_23 : decode cX5_same 23 = .ok (.getfield 43, 3) := by decide +kernel
theorem dX5_same_26 : decode cX5_same 26 = .ok (.iload_n 1, 1) := by decide +kernel
theorem dX5_same_27 : decode cX5_same 27 = .ok (.invokevirtual 146, 3) := by decide +kernel
theorem dX5_same_30 : decode cX5_same 30 = .ok (.iload_n 2, 1) := by decide +kernel
theorem dX5_same_31 : decode cX5_same 31 = .ok (.ifCond .ne 20, 3) := by decide +kernel
theorem dX5_same_34 : decode cX5_same 34 = .ok (.aload_n 0, 1) := by decide +kernel
theorem dX5_same_35 : decode cX5_same 35 = .ok (.aload_n 0, 1) := by decide +kernel
theorem dX5_same_36 : decode cX5_same 36 = .ok (.getfield 43, 3) := by decide +kernel
theorem dX5_same_39 : decode cX5_same 39 = .ok (.getfield 145, 3) := by decide +kernel
theorem dX5_same_42 : decode cX5_same 42 = .ok (.invokevirtual 150, 3) := by decide +kernel
theorem dX5_same_45 : decode cX5_same 45 = .ok (.invokestatic 154, 3) := by decide +kernel
theorem dX5_same_48 : decode cX5_same 48 = .ok (.goto 14, 3) := by decide +kernel
theorem dX5_same_51 : decode cX5_same 51 = .ok (.aload_n 0, 1) := by decide +kernel
theorem dX5_same_52 : decode cX5_same 52 = .ok (.aload_n 0, 1) := by decide +kernel
theorem dX5_same_53 : decode cX5_same 53 = .ok (.getfield 43, 3) := by decide +kernel
theorem dX5_same_56 : decode cX5_same 56 = .ok (.getfield 145, 3) := by decide +kernel
theorem dX5_same_59 : decode cX5_same 59 = .ok (.invokevirtual 158, 3) := by decide +kernel
theorem dX5_same_62 : decode cX5_same 62 = .ok (.ireturn, 1) := by decide +kernel
theorem dX5_alike_0 : decode cX5_alike 0 = .ok (.iload_n 1, 1) := by decide +kernel
theorem dX5_alike_1 : decode cX5_alike 1 = .ok (.invokestatic 101, 3) := by decide +kernel
theorem dX5_alike_4 : decode cX5_alike 4 = .ok (.ifCond .eq 10, 3) := by decide +kernel
theorem dX5_alike_7 : decode cX5_alike 7 = .ok (.iload_n 2, 1) := by decide +kernel
theorem dX5_alike_8 : decode cX5_alike 8 = .ok (.invokestatic 101, 3) := by decide +kernel
theorem dX5_alike_11 : decode cX5_alike 11 = .ok (.ifCond .ne 5, 3) := by decide +kernel
theorem dX5_alike_14 : decode cX5_alike 14 = .ok (.iconst (-1), 1) := by decide +kernel
theorem dX5_alike_15 : decode cX5_alike 15 = .ok (.ireturn, 1) := by decide +kernel
theorem dX5_alike_16 : decode cX5_alike 16 = .ok (.aload_n 0, 1) := by decide +kernel
theorem dX5_alike_17 : decode cX5_alike 17 = .ok (.aload_n 0, 1) := by decide +kernel
theorem dX5_alike_18 : decode cX5_alike 18 = .ok (.getfield 43, 3) := by decide +kernel
theorem dX5_alike_21 : decode cX5_alike 21 = .ok (.iload_n 1, 1) := by decide +kernel
theorem dX5_alike_22 : decode cX5_alike 22 = .ok (.invokevirtual 146, 3) := by decide +kernel
theorem dX5_alike_25 : decode cX5_alike 25 = .ok (.aload_n 0, 1) := by decide +kernel
theorem dX5_alike_26 : decode cX5_alike 26 = .ok (.aload_n 0, 1) := by decide +kernel
theorem dX5_alike_27 : decode cX5_alike 27 = .ok (.getfield 47, 3) := by decide +kernel
theorem dX5_alike_30 : decode cX5_alike 30 = .ok (.iload_n 2, 1) := by decide +kernel
theorem dX5_alike_31 : decode cX5_alike 31 = .ok (.invokevirtual 146, 3) := by decide +kernel
theorem dX5_alike_34 : decode cX5_alike 34 = .ok (.aload_n 0, 1) := by decide +kernel
theorem dX5_alike_35 : decode cX5_alike 35 = .ok (.getfield 43, 3) := by decide +kernel
theorem dX5_alike_38 : decode cX5_alike 38 = .ok (.getfield 145, 3) := by decide +kernel
theorem dX5_alike_41 : decode cX5_alike 41 = .ok (.iconst 0, 1) := by decide +kernel
theorem dX5_alike_42 : decode cX5_alike 42 = .ok (.aload_n 0, 1) := by decide +kernel
theorem dX5_alike_43 : decode cX5_alike 43 = .ok (.getfield 47, 3) := by decide +kernel
theorem dX5_alike_46 : decode cX5_alike 46 = .ok (.getfield 145, 3) := by decide +kernel
theorem dX5_alike_49 : decode cX5_alike 49 = .ok (.iconst 0, 1) := by decide +kernel
theorem dX5_alike_50 : decode cX5_alike 50 = .ok (.aload_n 0, 1) := by decide +kernel
theorem dX5_alike_51 : decode cX5_alike 51 = .ok (.getfield 10, 3) := by decide +kernel
theorem dX5_alike_54 : decode cX5_alike 54 = .ok (.getfield 162, 3) := by decide +kernel
theorem dX5_alike_57 : decode cX5_alike 57 = .ok (.invokevirtual 165, 3) := by decide +kernel
theorem dX5_alike_60 : decode cX5_alike 60 = .ok (.ifCond .ne 7, 3) := by decide +kernel
theorem dX5_alike_63 : decode cX5_alike 63 = .ok (.iconst 1, 1) := by decide +kernel
theorem dX5_alike_64 : decode cX5_alike 64 = .ok (.goto 4, 3) := by decide +kernel
theorem dX5_alike_67 : decode cX5_alike 67 = .ok (.iconst 0, 1) := by decide +kernel
theorem dX5_alike_68 : decode cX5_alike 68 = .ok (.invokestatic 154, 3) := by decide +kernel
theorem dX5_alike_71 : decode cX5_alike 71 = .ok (.ireturn, 1) := by decide +kernel
theorem dX5_best_0 : decode cX5_best 0 = .ok (.iload_n 1, 1) := by decide +kernel
theorem dX5_best_1 : decode cX5_best 1 = .ok (.iconst 1, 1) := by decide +kernel
theorem dX5_best_2 : decode cX5_best 2 = .ok (.bipush 99, 2) := by decide +kernel
theorem dX5_best_4 : decode cX5_best 4 = .ok (.invokestatic 50, 3) := by decide +kernel
theorem dX5_best_7 : decode cX5_best 7 = .ok (.ifCond .eq 12, 3) := by decide +kernel
theorem dX5_best_10 : decode cX5_best 10 = .ok (.iload_n 2, 1) := by decide +kernel
theorem dX5_best_11 : decode cX5_best 11 = .ok (.iconst 0, 1) := by decide +kernel
theorem dX5_best_12 : decode cX5_best 12 = .ok (.iconst 1, 1) := by decide +kernel
theorem dX5_best_13 : decode cX5_best 13 = .ok (.invokestatic 50, 3) := by decide +kernel
theorem dX5_best_16 : decode cX5_best 16 = .ok (.ifCond .ne 6, 3) := by decide +kernel
theorem dX5_best_19 : decode cX5_best 19 = .ok (.bipush (-2), 2) := by decide +kernel
theorem dX5_best_21 : decode cX5_best 21 = .ok (.ireturn, 1) := by decide +kernel
theorem dX5_best_22 : decode cX5_best 22 = .ok (.iconst 0, 1) := by decide +kernel
theorem dX5_best_23 : decode cX5_best 23 = .ok (.istore_n 3, 1) := by decide +kernel
theorem dX5_best_24 : decode cX5_best 24 = .ok (.aload_n 0, 1) := by decide +kernel
theorem dX5_best_25 : decode cX5_best 25 = .ok (.iconst 0, 1) := by decide +kernel
theorem dX5_best_26 : decode cX5_best 26 = .ok (.iload_n 1, 1) := by decide +kernel
theorem dX5_best_27 : decode cX5_best 27 = .ok (.invokevirtual 169, 3) := by decide +kernel
theorem dX5_best_30 : decode cX5_best 30 = .ok (.istore 4, 2) := by decide +kernel
theorem dX5_best_32 : decode cX5_best 32 = .ok (.iconst 1, 1) := by decide +kernel
theorem dX5_best_33 : decode cX5_best 33 = .ok (.istore 5, 2) := by decide +kernel
theorem dX5_best_35 : decode cX5_best 35 = .ok (.iload 5, 2) := by decide +kernel
theorem dX5_best_37 : decode cX5_best 37 = .ok (.iconst 3, 1) := by decide +kernel
theorem dX5_best_38 : decode cX5_best 38 = .ok (.if_icmp .gt 32, 3) := by decide +kernel
theorem dX5_best_41 : decode cX5_best 41 = .ok (.aload_n 0, 1) := by decide +kernel
theorem dX5_best_42 : decode cX5_best 42 = .ok (.iload 5, 2) := by decide +kernel
theorem dX5_best_44 : decode cX5_best 44 = .ok (.iload_n 1, 1) := by decide +kernel
theorem dX5_best_45 : decode cX5_best 45 = .ok (.invokevirtual 169, 3) := by decide +kernel
theorem dX5_best_48 : decode cX5_best 48 = .ok (.istore 6, 2) := by decide +kernel
theorem dX5_best_50 : decode cX5_best 50 = .ok (.iload 6, 2) := by decide +kernel
theorem dX5_best_52 : decode cX5_best 52 = .ok (.iload 4, 2) := by decide +kernel
theorem dX5_best_54 : decode cX5_best 54 = .ok (.if_icmp .ge 10, 3) := by decide +kernel
theorem dX5_best_57 : decode cX5_best 57 = .ok (.iload 5, 2) := by decide +kernel
theorem dX5_best_59 : decode cX5_best 59 = .ok (.istore_n 3, 1) := by decide +kernel
theorem dX5_best_60 : decode cX5_best 60 = .ok (.iload 6, 2) := by decide +kernel
theorem dX5_best_62 : decode cX5_best 62 = .ok (.istore 4, 2) := by decide +kernel
theorem dX5_best_64 : decode cX5_best 64 = .ok (.iinc 5 1, 3) := by decide +kernel
theorem dX5_best_67 : decode cX5_best 67 = .ok (.goto (-32), 3) := by decide +kernel
theorem dX5_best_70 : decode cX5_best 70 = .ok (.iload_n 2, 1) := by decide +kernel
theorem dX5_best_71 : decode cX5_best 71 = .ok (.ifCond .ne 7, 3) := by decide +kernel
theorem dX5_best_74 : decode cX5_best 74 = .ok (.iload_n 3, 1) := by decide +kernel
theorem dX5_best_75 : decode cX5_best 75 = .ok (.goto 5, 3) := by decide +kernel
theorem dX5_best_78 : decode cX5_best 78 = .ok (.iload 4, 2) := by decide +kernel
theorem dX5_best_80 : decode cX5_best 80 = .ok (.ireturn, 1) := by decide +kernel
theorem dX5_from_0 : decode cX5_from 0 = .ok (.iload_n 1, 1) := by decide +kernel
theorem dX5_from_1 : decode cX5_from 1 = .ok (.invokestatic 101, 3) := by decide +kernel
theorem dX5_from_4 : decode cX5_from 4 = .ok (.ifCond .eq 10, 3) := by decide +kernel
theorem dX5_from_7 : decode cX5_from 7 = .ok (.iload_n 2, 1) := by decide +kernel
theorem dX5_from_8 : decode cX5_from 8 = .ok (.invokestatic 101, 3) := by decide +kernel
theorem dX5_from_11 : decode cX5_from 11 = .ok (.ifCond .ne 5, 3) := by decide +kernel
theorem dX5_from_14 : decode cX5_from 14 = .ok (.iconst (-1), 1) := by decide +kernel
theorem dX5_from_15 : decode cX5_from 15 = .ok (.ireturn, 1) := by decide +kernel
theorem dX5_from_16 : decode cX5_from 16 = .ok (.iconst 1, 1) := by decide +kernel
theorem dX5_from_17 : decode cX5_from 17 = .ok (.istore_n 3, 1) := by decide +kernel
theorem dX5_from_18 : decode cX5_from 18 = .ok (.iload_n 3, 1) := by decide +kernel
theorem dX5_from_19 : decode cX5_from 19 = .ok (.bipush 99, 2) := by decide +kernel
theorem dX5_from_21 : decode cX5_from 21 = .ok (.if_icmp .gt 26, 3) := by decide +kernel
theorem dX5_from_24 : decode cX5_from 24 = .ok (.aload_n 0, 1) := by decide +kernel
theorem dX5_from_25 : decode cX5_from 25 = .ok (.iload_n 1, 1) := by decide +kernel
theorem dX5_from_26 : decode cX5_from 26 = .ok (.iload_n 3, 1) := by decide +kernel
theorem dX5_from_27 : decode cX5_from 27 = .ok (.invokevirtual 169, 3) := by decide +kernel
theorem dX5_from_30 : decode cX5_from 30 = .ok (.aload_n 0, 1) := by decide +kernel
theorem dX5_from_31 : decode cX5_from 31 = .ok (.iload_n 2, 1) := by decide +kernel
theorem dX5_from_32 : decode cX5_from 32 = .ok (.iload_n 3, 1) := by decide +kernel
theorem dX5_from_33 : decode cX5_from 33 = .ok (.invokevirtual 169, 3) := by decide +kernel
theorem dX5_from_36 : decode cX5_from 36 = .ok (.if_icmp .ge 5, 3) := by decide +kernel
theorem dX5_from_39 : decode cX5_from 39 = .ok (.iload_n 3, 1) := by decide +kernel
theorem dX5_from_40 : decode cX5_from 40 = .ok (.ireturn, 1) := by decide +kernel
theorem dX5_from_41 : decode cX5_from 41 = .ok (.iinc 3 1, 3) := by decide +kernel
theorem dX5_from_44 : decode cX5_from 44 = .ok (.goto (-26), 3) := by decide +kernel
theorem dX5_from_47 : decode cX5_from 47 = .ok (.bipush (-6), 2) := by decide +kernel
theorem dX5_from_49 : decode cX5_from 49 = .ok (.ireturn, 1) := by decide +kernel
theorem dX5_lost_0 : decode cX5_lost 0 = .ok (.iload_n 1, 1) := by decide +kernel
theorem dX5_lost_1 : decode cX5_lost 1 = .ok (.invokestatic 101, 3) := by decide +kernel
theorem dX5_lost_4 : decode cX5_lost 4 = .ok (.ifCond .ne 5, 3) := by decide +kernel
theorem dX5_lost_7 : decode cX5_lost 7 = .ok (.iconst (-1), 1) := by decide +kernel
theorem dX5_lost_8 : decode cX5_lost 8 = .ok (.ireturn, 1) := by decide +kernel
theorem dX5_lost_9 : decode cX5_lost 9 = .ok (.iload_n 3, 1) := by decide +kernel
theorem dX5_lost_10 : decode cX5_lost 10 = .ok (.iconst 0, 1) := by decide +kernel
theorem dX5_lost_11 : decode cX5_lost 11 = .ok (.iconst 1, 1) := by decide +kernel
theorem dX5_lost_12 : decode cX5_lost 12 = .ok (.invokestatic 50, 3) := by decide +kernel
theorem dX5_lost_15 : decode cX5_lost 15 = .ok (.ifCond .ne 6, 3) := by decide +kernel
theorem dX5_lost_18 : decode cX5_lost 18 = .ok (.bipush (-2), 2) := by decide +kernel
theorem dX5_lost_20 : decode cX5_lost 20 = .ok (.ireturn, 1) := by decide +kernel
theorem dX5_lost_21 : decode cX5_lost 21 = .ok (.aload_n 0, 1) := by decide +kernel
theorem dX5_lost_22 : decode cX5_lost 22 = .ok (.aload_n 0, 1) := by decide +kernel
theorem dX5_lost_23 : decode cX5_lost 23 = .ok (.getfield 43, 3) := by decide +kernel
theorem dX5_lost_26 : decode cX5_lost 26 = .ok (.iload_n 1, 1) := by decide +kernel
theorem dX5_lost_27 : decode cX5_lost 27 = .ok (.invokevirtual 146, 3) := by decide +kernel
theorem dX5_lost_30 : decode cX5_lost 30 = .ok (.aload_n 0, 1) := by decide +kernel
theorem dX5_lost_31 : decode cX5_lost 31 = .ok (.getfield 29, 3) := by decide +kernel
theorem dX5_lost_34 : decode cX5_lost 34 = .ok (.iload_n 2, 1) := by decide +kernel
theorem dX5_lost_35 : decode cX5_lost 35 = .ok (.invokevirtual 131, 3) := by decide +kernel
theorem dX5_lost_38 : decode cX5_lost 38 = .ok (.ifCond .ne 6, 3) := by decide +kernel
theorem dX5_lost_41 : decode cX5_lost 41 = .ok (.bipush (-6), 2) := by decide +kernel
theorem dX5_lost_43 : decode cX5_lost 43 = .ok (.ireturn, 1) := by decide +kernel
theorem dX5_lost_44 : decode cX5_lost 44 = .ok (.aload_n 0, 1) := by decide +kernel
theorem dX5_lost_45 : decode cX5_lost 45 = .ok (.getfield 47, 3) := by decide +kernel
theorem dX5_lost_48 : decode cX5_lost 48 = .ok (.aload_n 0, 1) := by decide +kernel
theorem dX5_lost_49 : decode cX5_lost 49 = .ok (.getfield 10, 3) := by decide +kernel
theorem dX5_lost_52 : decode cX5_lost 52 = .ok (.aload_n 0, 1) := by decide +kernel
theorem dX5_lost_53 : decode cX5_lost 53 = .ok (.getfield 29, 3) := by decide +kernel
theorem dX5_lost_56 : decode cX5_lost 56 = .ok (.aload_n 0, 1) := by decide +kernel
theorem dX5_lost_57 : decode cX5_lost 57 = .ok (.getfield 29, 3) := by decide +kernel
theorem dX5_lost_60 : decode cX5_lost 60 = .ok (.getfield 112, 3) := by decide +kernel
theorem dX5_lost_63 : decode cX5_lost 63 = .ok (.iload_n 2, 1) := by decide +kernel
theorem dX5_lost_64 : decode cX5_lost 64 = .ok (.invokevirtual 141, 3) := by decide +kernel
theorem dX5_lost_67 : decode cX5_lost 67 = .ok (.iload_n 3, 1) := by decide +kernel
theorem dX5_lost_68 : decode cX5_lost 68 = .ok (.ifCond .ne 10, 3) := by decide +kernel
theorem dX5_lost_71 : decode cX5_lost 71 = .ok (.aload_n 0, 1) := by decide +kernel
theorem dX5_lost_72 : decode cX5_lost 72 = .ok (.invokevirtual 172, 3) := by decide +kernel
theorem dX5_lost_75 : decode cX5_lost 75 = .ok (.goto 7, 3) := by decide +kernel
theorem dX5_lost_78 : decode cX5_lost 78 = .ok (.aload_n 0, 1) := by decide +kernel
theorem dX5_lost_79 : decode cX5_lost 79 = .ok (.invokevirtual 175, 3) := by decide +kernel
theorem dX5_lost_82 : decode cX5_lost 82 = .ok (.ireturn, 1) := by decide +kernel
theorem dX5_worst_0 : decode cX5_worst 0 = .ok (.iload_n 1, 1) := by decide +kernel
theorem dX5_worst_1 : decode cX5_worst 1 = .ok (.invokestatic 101, 3) := by decide +kernel
theorem dX5_worst_4 : decode cX5_worst 4 = .ok (.ifCond .ne 5, 3) := by decide +kernel
theorem dX5_worst_7 : decode cX5_worst 7 = .ok (.iconst (-1), 1) := by decide +kernel
theorem dX5_worst_8 : decode cX5_worst 8 = .ok (.ireturn, 1) := by decide +kernel
theorem dX5_worst_9 : decode cX5_worst 9 = .ok (.iload_n 2, 1) := by decide +kernel
theorem dX5_worst_10 : decode cX5_worst 10 = .ok (.iconst 0, 1) := by decide +kernel
theorem dX5_worst_11 : decode cX5_worst 11 = .ok (.iconst 2, 1) := by decide +kernel
theorem dX5_worst_12 : decode cX5_worst 12 = .ok (.invokestatic 50, 3) := by decide +kernel
theorem dX5_worst_15 : decode cX5_worst 15 = .ok (.ifCond .ne 6, 3) := by decide +kernel
theorem dX5_worst_18 : decode cX5_worst 18 = .ok (.bipush (-2), 2) := by decide +kernel
theorem dX5_worst_20 : decode cX5_worst 20 = .ok (.ireturn, 1) := by decide +kernel
theorem dX5_worst_21 : decode cX5_worst 21 = .ok (.aload_n 0, 1) := by decide +kernel
theorem dX5_worst_22 : decode cX5_worst 22 = .ok (.aload_n 0, 1) := by decide +kernel
theorem dX5_worst_23 : decode cX5_worst 23 = .ok (.getfield 43, 3) := by decide +kernel
theorem dX5_worst_26 : decode cX5_worst 26 = .ok (.iload_n 1, 1) := by decide +kernel
theorem dX5_worst_27 : decode cX5_worst 27 = .ok (.invokevirtual 146, 3) := by decide +kernel
theorem dX5_worst_30 : decode cX5_worst 30 = .ok (.iconst 0, 1) := by decide +kernel
theorem dX5_worst_31 : decode cX5_worst 31 = .ok (.istore_n 3, 1) := by decide +kernel
theorem dX5_worst_32 : decode cX5_worst 32 = .ok (.iconst 0, 1) := by decide +kernel
theorem dX5_worst_33 : decode cX5_worst 33 = .ok (.istore 4, 2) := by decide +kernel
theorem dX5_worst_35 : decode cX5_worst 35 = .ok (.iconst 0, 1) := by decide +kernel
theorem dX5_worst_36 : decode cX5_worst 36 = .ok (.istore 5, 2) := by decide +kernel
theorem dX5_worst_38 : decode cX5_worst 38 = .ok (.iconst 0, 1) := by decide +kernel
theorem dX5_worst_39 : decode cX5_worst 39 = .ok (.istore 6, 2) := by decide +kernel
theorem dX5_worst_41 : decode cX5_worst 41 = .ok (.iload 6, 2) := by decide +kernel
theorem dX5_worst_43 : decode cX5_worst 43 = .ok (.aload_n 0, 1) := by decide +kernel
theorem dX5_worst_44 : decode cX5_worst 44 = .ok (.getfield 29, 3) := by decide +kernel
theorem dX5_worst_47 : decode cX5_worst 47 = .ok (.getfield 115, 3) := by decide +kernel
theorem dX5_worst_50 : decode cX5_worst 50 = .ok (.if_icmp .ge 61, 3) := by decide +kernel
theorem dX5_worst_53 : decode cX5_worst 53 = .ok (.aload_n 0, 1) := by decide +kernel
theorem dX5_worst_54 : decode cX5_worst 54 = .ok (.getfield 47, 3) := by decide +kernel
theorem dX5_worst_57 : decode cX5_worst 57 = .ok (.aload_n 0, 1) := by decide +kernel
theorem dX5_worst_58 : decode cX5_worst 58 = .ok (.getfield 10, 3) := by decide +kernel
theorem dX5_worst_61 : decode cX5_worst 61 = .ok (.aload_n 0, 1) := by decide +kernel
theorem dX5_worst_62 : decode cX5_worst 62 = .ok (.getfield 29, 3) := by decide +kernel
theorem dX5_worst_65 : decode cX5_worst 65 = .ok (.aload_n 0, 1) := by decide +kernel
theorem dX5_worst_66 : decode cX5_worst 66 = .ok (.getfield 29, 3) := by decide +kernel
theorem dX5_worst_69 : decode cX5_worst 69 = .ok (.getfield 112, 3) := by decide +kernel
theorem dX5_worst_72 : decode cX5_worst 72 = .ok (.iload 6, 2) := by decide +kernel
theorem dX5_worst_74 : decode cX5_worst 74 = .ok (.invokevirtual 141, 3) := by decide +kernel
theorem dX5_worst_77 : decode cX5_worst 77 = .ok (.aload_n 0, 1) := by decide +kernel
theorem dX5_worst_78 : decode cX5_worst 78 = .ok (.invokevirtual 175, 3) := by decide +kernel
theorem dX5_worst_81 : decode cX5_worst 81 = .ok (.istore 7, 2) := by decide +kernel
theorem dX5_worst_83 : decode cX5_worst 83 = .ok (.iload 7, 2) := by decide +kernel
theorem dX5_worst_85 : decode cX5_worst 85 = .ok (.iload 4, 2) := by decide +kernel
theorem dX5_worst_87 : decode cX5_worst 87 = .ok (.if_icmp .le 10, 3) := by decide +kernel
theorem dX5_worst_90 : decode cX5_worst 90 = .ok (.iload 6, 2) := by decide +kernel
theorem dX5_worst_92 : decode cX5_worst 92 = .ok (.istore_n 3, 1) := by decide +kernel
theorem dX5_worst_93 : decode cX5_worst 93 = .ok (.iload 7, 2) := by decide +kernel
theorem dX5_worst_95 : decode cX5_worst 95 = .ok (.istore 4, 2) := by decide +kernel
theorem dX5_worst_97 : decode cX5_worst 97 = .ok (.iload 7, 2) := by decide +kernel
theorem dX5_worst_99 : decode cX5_worst 99 = .ok (.ifCond .ne 6, 3) := by decide +kernel
theorem dX5_worst_102 : decode cX5_worst 102 = .ok (.iinc 5 1, 3) := by decide +kernel
theorem dX5_worst_105 : decode cX5_worst 105 = .ok (.iinc 6 1, 3) := by decide +kernel
theorem dX5_worst_108 : decode cX5_worst 108 = .ok (.goto (-67), 3) := by decide +kernel
theorem dX5_worst_111 : decode cX5_worst 111 = .ok (.iload_n 2, 1) := by decide +kernel
theorem dX5_worst_112 : decode cX5_worst 112 = .ok (.ifCond .ne 7, 3) := by decide +kernel
theorem dX5_worst_115 : decode cX5_worst 115 = .ok (.iload_n 3, 1) := by decide +kernel
theorem dX5_worst_116 : decode cX5_worst 116 = .ok (.goto 15, 3) := by decide +kernel
theorem dX5_worst_119 : decode cX5_worst 119 = .ok (.iload_n 2, 1) := by decide +kernel
theorem dX5_worst_120 : decode cX5_worst 120 = .ok (.iconst 1, 1) := by decide +kernel
theorem dX5_worst_121 : decode cX5_worst 121 = .ok (.if_icmp .ne 8, 3) := by decide +kernel
theorem dX5_worst_124 : decode cX5_worst 124 = .ok (.iload 4, 2) := by decide +kernel
theorem dX5_worst_126 : decode cX5_worst 126 = .ok (.goto 5, 3) := by decide +kernel
theorem dX5_worst_129 : decode cX5_worst 129 = .ok (.iload 5, 2) := by decide +kernel
theorem dX5_worst_131 : decode cX5_worst 131 = .ok (.ireturn, 1) := by decide +kernel
theorem dX5_comes_0 : decode cX5_comes 0 = .ok (.iload_n 1, 1) := by decide +kernel
theorem dX5_comes_1 : decode cX5_comes 1 = .ok (.invokestatic 101, 3) := by decide +kernel
theorem dX5_comes_4 : decode cX5_comes 4 = .ok (.ifCond .eq 14, 3) := by decide +kernel
theorem dX5_comes_7 : decode cX5_comes 7 = .ok (.aload_n 0, 1) := by decide +kernel
theorem dX5_comes_8 : decode cX5_comes 8 = .ok (.getfield 10, 3) := by decide +kernel
theorem dX5_comes_11 : decode cX5_comes 11 = .ok (.iload_n 2, 1) := by decide +kernel
theorem dX5_comes_12 : decode cX5_comes 12 = .ok (.invokevirtual 61, 3) := by decide +kernel
theorem dX5_comes_15 : decode cX5_comes 15 = .ok (.ifCond .ne 5, 3) := by decide +kernel
theorem dX5_comes_18 : decode cX5_comes 18 = .ok (.iconst (-1), 1) := by decide +kernel
theorem dX5_comes_19 : decode cX5_comes 19 = .ok (.ireturn, 1) := by decide +kernel
theorem dX5_comes_20 : decode cX5_comes 20 = .ok (.aload_n 0, 1) := by decide +kernel
theorem dX5_comes_21 : decode cX5_comes 21 = .ok (.getfield 10, 3) := by decide +kernel
theorem dX5_comes_24 : decode cX5_comes 24 = .ok (.iload_n 3, 1) := by decide +kernel
theorem dX5_comes_25 : decode cX5_comes 25 = .ok (.invokevirtual 65, 3) := by decide +kernel
theorem dX5_comes_28 : decode cX5_comes 28 = .ok (.ifCond .eq 13, 3) := by decide +kernel
theorem dX5_comes_31 : decode cX5_comes 31 = .ok (.iload 4, 2) := by decide +kernel
theorem dX5_comes_33 : decode cX5_comes 33 = .ok (.iconst 0, 1) := by decide +kernel
theorem dX5_comes_34 : decode cX5_comes 34 = .ok (.iconst 1, 1) := by decide +kernel
theorem dX5_comes_35 : decode cX5_comes 35 = .ok (.invokestatic 50, 3) := by decide +kernel
theorem dX5_comes_38 : decode cX5_comes 38 = .ok (.ifCond .ne 6, 3) := by decide +kernel
theorem dX5_comes_41 : decode cX5_comes 41 = .ok (.bipush (-2), 2) := by decide +kernel
theorem dX5_comes_43 : decode cX5_comes 43 = .ok (.ireturn, 1) := by decide +kernel
theorem dX5_comes_44 : decode cX5_comes 44 = .ok (.aload_n 0, 1) := by decide +kernel
theorem dX5_comes_45 : decode cX5_comes 45 = .ok (.iload_n 1, 1) := by decide +kernel
theorem dX5_comes_46 : decode cX5_comes 46 = .ok (.invokevirtual 104, 3) := by decide +kernel
theorem dX5_comes_49 : decode cX5_comes 49 = .ok (.iconst 0, 1) := by decide +kernel
theorem dX5_comes_50 : decode cX5_comes 50 = .ok (.istore 5, 2) := by decide +kernel
theorem dX5_comes_52 : decode cX5_comes 52 = .ok (.iconst 0, 1) := by decide +kernel
theorem dX5_comes_53 : decode cX5_comes 53 = .ok (.istore 6, 2) := by decide +kernel
theorem dX5_comes_55 : decode cX5_comes 55 = .ok (.iload 6, 2) := by decide +kernel
theorem dX5_comes_57 : decode cX5_comes 57 = .ok (.aload_n 0, 1) := by decide +kernel
theorem dX5_comes_58 : decode cX5_comes 58 = .ok (.getfield 29, 3) := by decide +kernel
theorem dX5_comes_61 : decode cX5_comes 61 = .ok (.getfield 115, 3) := by decide +kernel
theorem dX5_comes_64 : decode cX5_comes 64 = .ok (.if_icmp .ge 76, 3) := by decide +kernel
theorem dX5_comes_67 : decode cX5_comes 67 = .ok (.aload_n 0, 1) := by decide +kernel
theorem dX5_comes_68 : decode cX5_comes 68 = .ok (.getfield 29, 3) := by decide +kernel
theorem dX5_comes_71 : decode cX5_comes 71 = .ok (.iload 6, 2) := by decide +kernel
theorem dX5_comes_73 : decode cX5_comes 73 = .ok (.iconst 5, 1) := by decide +kernel
theorem dX5_comes_74 : decode cX5_comes 74 = .ok (.invokevirtual 138, 3) := by decide +kernel
theorem dX5_comes_77 : decode cX5_comes 77 = .ok (.iconst 2, 1) := by decide +kernel
theorem dX5_comes_78 : decode cX5_comes 78 = .ok (.if_icmp .ne 7, 3) := by decide +kernel
theorem dX5_comes_81 : decode cX5_comes 81 = .ok (.iconst 1, 1) := by decide +kernel
theorem dX5_comes_82 : decode cX5_comes 82 = .ok (.goto 4, 3) := by decide +kernel
theorem dX5_comes_85 : decode cX5_comes 85 = .ok (.iconst 0, 1) := by decide +kernel
theorem dX5_comes_86 : decode cX5_comes 86 = .ok (.istore 7, 2) := by decide +kernel
theorem dX5_comes_88 : decode cX5_comes 88 = .ok (.aload_n 0, 1) := by decide +kernel
theorem dX5_comes_89 : decode cX5_comes 89 = .ok (.getfield 29, 3) := by decide +kernel
theorem dX5_comes_92 : decode cX5_comes 92 = .ok (.iload 6, 2) := by decide +kernel
theorem dX5_comes_94 : decode cX5_comes 94 = .ok (.iconst 2, 1) := by decide +kernel
theorem dX5_comes_95 : decode cX5_comes 95 = .ok (.invokevirtual 138, 3) := by decide +kernel
theorem dX5_comes_98 : decode cX5_comes 98 = .ok (.iload_n 2, 1) := by decide +kernel
theorem dX5_comes_99 : decode cX5_comes 99 = .ok (.if_icmp .ne 35, 3) := by decide +kernel
theorem dX5_comes_102 : decode cX5_comes 102 = .ok (.aload_n 0, 1) := by decide +kernel
theorem dX5_comes_103 : decode cX5_comes 103 = .ok (.getfield 29, 3) := by decide +kernel
theorem dX5_comes_106 : decode cX5_comes 106 = .ok (.iload 6, 2) := by decide +kernel
theorem dX5_comes_108 : decode cX5_comes 108 = .ok (.iload_n 3, 1) := by decide +kernel
theorem dX5_comes_109 : decode cX5_comes 109 = .ok (.invokevirtual 178, 3) := by decide +kernel
theorem dX5_comes_112 : decode cX5_comes 112 = .ok (.ifCond .eq 22, 3) := by decide +kernel
theorem dX5_comes_115 : decode cX5_comes 115 = .ok (.iload 7, 2) := by decide +kernel
theorem dX5_comes_117 : decode cX5_comes 117 = .ok (.iload 4, 2) := by decide +kernel
theorem dX5_comes_119 : decode cX5_comes 119 = .ok (.iconst 1, 1) := by decide +kernel
theorem dX5_comes_120 : decode cX5_comes 120 = .ok (.if_icmp .ne 7, 3) := by decide +kernel
theorem dX5_comes_123 : decode cX5_comes 123 = .ok (.iconst 1, 1) := by decide +kernel
theorem dX5_comes_124 : decode cX5_comes 124 = .ok (.goto 4, 3) := by decide +kernel
theorem dX5_comes_127 : decode cX5_comes 127 = .ok (.iconst 0, 1) := by decide +kernel
theorem dX5_comes_128 : decode cX5_comes 128 = .ok (.if_icmp .ne 6, 3) := by decide +kernel
theorem dX5_comes_131 : decode cX5_comes 131 = .ok (.iinc 5 1, 3) := by decide +kernel
theorem dX5_comes_134 : decode cX5_comes 134 = .ok (.iinc 6 1, 3) := by decide +kernel
theorem dX5_comes_137 : decode cX5_comes 137 = .ok (.goto (-82), 3) := by decide +kernel
theorem dX5_comes_140 : decode cX5_comes 140 = .ok (.iload 5, 2) := by decide +kernel
theorem dX5_comes_142 : decode cX5_comes 142 = .ok (.ireturn, 1) := by decide +kernel
theorem dX5_image_0 : decode cX5_image 0 = .ok (.iload_n 1, 1) := by decide +kernel
theorem dX5_image_1 : decode cX5_image 1 = .ok (.iconst 0, 1) := by decide +kernel
theorem dX5_image_2 : decode cX5_image 2 = .ok (.iconst 1, 1) := by decide +kernel
theorem dX5_image_3 : decode cX5_image 3 = .ok (.invokestatic 50, 3) := by decide +kernel
theorem dX5_image_6 : decode cX5_image 6 = .ok (.ifCond .ne 6, 3) := by decide +kernel
theorem dX5_image_9 : decode cX5_image 9 = .ok (.bipush (-2), 2) := by decide +kernel
theorem dX5_image_11 : decode cX5_image 11 = .ok (.ireturn, 1) := by decide +kernel
theorem dX5_image_12 : decode cX5_image 12 = .ok (.aload_n 0, 1) := by decide +kernel
theorem dX5_image_13 : decode cX5_image 13 = .ok (.iload_n 1, 1) := by decide +kernel
theorem dX5_image_14 : decode cX5_image 14 = .ok (.invokevirtual 182, 3) := by decide +kernel
theorem dX5_image_17 : decode cX5_image 17 = .ok (.aload_n 0, 1) := by decide +kernel
theorem dX5_image_18 : decode cX5_image 18 = .ok (.getfield 10, 3) := by decide +kernel
theorem dX5_image_21 : decode cX5_image 21 = .ok (.invokevirtual 186, 3) := by decide +kernel
theorem dX5_image_24 : decode cX5_image 24 = .ok (.aload_n 0, 1) := by decide +kernel
theorem dX5_image_25 : decode cX5_image 25 = .ok (.dup, 1) := by decide +kernel
theorem dX5_image_26 : decode cX5_image 26 = .ok (.getfield 22, 3) := by decide +kernel
theorem dX5_image_29 : decode cX5_image 29 = .ok (.iconst 1, 1) := by decide +kernel
theorem dX5_image_30 : decode cX5_image 30 = .ok (.iload_n 1, 1) := by decide +kernel
theorem dX5_image_31 : decode cX5_image 31 = .ok (.ishl, 1) := by decide +kernel
theorem dX5_image_32 : decode cX5_image 32 = .ok (.ior, 1) := by decide +kernel
theorem dX5_image_33 : decode cX5_image 33 = .ok (.putfield 22, 3) := by decide +kernel
theorem dX5_image_36 : decode cX5_image 36 = .ok (.iconst 1, 1) := by decide +kernel
theorem dX5_image_37 : decode cX5_image 37 = .ok (.ireturn, 1) := by decide +kernel
theorem dX5_restore_0 : decode cX5_restore 0 = .ok (.iload_n 1, 1) := by decide +kernel
theorem dX5_restore_1 : decode cX5_restore 1 = .ok (.iconst 0, 1) := by decide +kernel
theorem dX5_restore_2 : decode cX5_restore 2 = .ok (.iconst 1, 1) := by decide +kernel
theorem dX5_restore_3 : decode cX5_restore 3 = .ok (.invokestatic 50, 3) := by decide +kernel
theorem dX5_restore_6 : decode cX5_restore 6 = .ok (.ifCond .ne 6, 3) := by decide +kernel
theorem dX5_restore_9 : decode cX5_restore 9 = .ok (.bipush (-2), 2) := by decide +kernel
theorem dX5_restore_11 : decode cX5_restore 11 = .ok (.ireturn, 1) := by decide +kernel
theorem dX5_restore_12 : decode cX5_restore 12 = .ok (.aload_n 0, 1) := by decide +kernel
theorem dX5_restore_13 : decode cX5_restore 13 = .ok (.getfield 22, 3) := by decide +kernel
theorem dX5_restore_16 : decode cX5_restore 16 = .ok (.iconst 1, 1) := by decide +kernel
theorem dX5_restore_17 : decode cX5_restore 17 = .ok (.iload_n 1, 1) := by decide +kernel
theorem dX5_restore_18 : decode cX5_restore 18 = .ok (.ishl, 1) := by decide +kernel
theorem dX5_restore_19 : decode cX5_restore 19 = .ok (.iand, 1) := by decide +kernel
theorem dX5_restore_20 : decode cX5_restore 20 = .ok (.ifCond .ne 6, 3) := by decide +kernel
theorem dX5_restore_23 : decode cX5_restore 23 = .ok (.bipush (-3), 2) := by decide +kernel
theorem dX5_restore_25 : decode cX5_restore 25 = .ok (.ireturn, 1) := by decide +kernel
theorem dX5_restore_26 : decode cX5_restore 26 = .ok (.aload_n 0, 1) := by decide +kernel
theorem dX5_restore_27 : decode cX5_restore 27 = .ok (.getfield 10, 3) := by decide +kernel
theorem dX5_restore_30 : decode cX5_restore 30 = .ok (.aload_n 0, 1) := by decide +kernel
theorem dX5_restore_31 : decode cX5_restore 31 = .ok (.iload_n 1, 1) := by decide +kernel
theorem dX5_restore_32 : decode cX5_restore 32 = .ok (.invokevirtual 182, 3) := by decide +kernel
theorem dX5_restore_35 : decode cX5_restore 35 = .ok (.invokevirtual 186, 3) := by decide +kernel
theorem dX5_restore_38 : decode cX5_restore 38 = .ok (.iconst 1, 1) := by decide +kernel
theorem dX5_restore_39 : decode cX5_restore 39 = .ok (.ireturn, 1) := by decide +kernel
theorem dX5_count_0 : decode cX5_count 0 = .ok (.iload_n 1, 1) := by decide +kernel
theorem dX5_count_1 : decode cX5_count 1 = .ok (.tableswitch 90 0 6 #[43, 51, 59, 65, 71, 77, 85], 43) := by decide +kernel
theorem dX5_count_44 : decode cX5_count 44 = .ok (.aload_n 0, 1) := by decide +kernel
theorem dX5_count_45 : decode cX5_count 45 = .ok (.getfield 10, 3) := by decide +kernel
theorem dX5_count_48 : decode cX5_count 48 = .ok (.getfield 54, 3) := by decide +kernel
theorem dX5_count_51 : decode cX5_count 51 = .ok (.ireturn, 1) := by decide +kernel
theorem dX5_count_52 : decode cX5_count 52 = .ok (.aload_n 0, 1) := by decide +kernel
theorem dX5_count_53 : decode cX5_count 53 = .ok (.getfield 10, 3) := by decide +kernel
theorem dX5_count_56 : decode cX5_count 56 = .ok (.getfield 162, 3) := by decide +kernel
theorem dX5_count_59 : decode cX5_count 59 = .ok (.ireturn, 1) := by decide +kernel
theorem dX5_count_60 : decode cX5_count 60 = .ok (.aload_n 0, 1) := by decide +kernel
theorem dX5_count_61 : decode cX5_count 61 = .ok (.iconst 0, 1) := by decide +kernel
theorem dX5_count_62 : decode cX5_count 62 = .ok (.invokevirtual 82, 3) := by decide +kernel
theorem dX5_count_65 : decode cX5_count 65 = .ok (.ireturn, 1) := by decide +kernel
theorem dX5_count_66 : decode cX5_count 66 = .ok (.aload_n 0, 1) := by decide +kernel
theorem dX5_count_67 : decode cX5_count 67 = .ok (.iconst 1, 1) := by decide +kernel
theorem dX5_count_68 : decode cX5_count 68 = .ok (.invokevirtual 82, 3) := by decide +kernel
theorem dX5_count_71 : decode cX5_count 71 = .ok (.ireturn, 1) := by decide +kernel
theorem dX5_count_72 : decode cX5_count 72 = .ok (.aload_n 0, 1) := by decide +kernel
theorem dX5_count_73 : decode cX5_count 73 = .ok (.iconst 2, 1) := by decide +kernel
theorem dX5_count_74 : decode cX5_count 74 = .ok (.invokevirtual 82, 3) := by decide +kernel
theorem dX5_count_77 : decode cX5_count 77 = .ok (.ireturn, 1) := by decide +kernel
theorem dX5_count_78 : decode cX5_count 78 = .ok (.aload_n 0, 1) := by decide +kernel
theorem dX5_count_79 : decode cX5_count 79 = .ok (.getfield 10, 3) := by decide +kernel
theorem dX5_count_82 : decode cX5_count 82 = .ok (.invokevirtual 190, 3) := by decide +kernel
theorem dX5_count_85 : decode cX5_count 85 = .ok (.ireturn, 1) := by decide +kernel
theorem dX5_count_86 : decode cX5_count 86 = .ok (.aload_n 0, 1) := by decide +kernel
theorem dX5_count_87 : decode cX5_count 87 = .ok (.getfield 22, 3) := by decide +kernel
theorem dX5_count_90 : decode cX5_count 90 = .ok (.ireturn, 1) := by decide +kernel
theorem dX5_count_91 : decode cX5_count 91 = .ok (.bipush (-2), 2) := by decide +kernel
theorem dX5_count_93 : decode cX5_count 93 = .ok (.ireturn, 1) := by decide +kernel
theorem dX5_isWithin_0 : decode cX5_isWithin 0 = .ok (.iload_n 0, 1) := by decide +kernel
theorem dX5_isWithin_1 : decode cX5_isWithin 1 = .ok (.iload_n 1, 1) := by decide +kernel
theorem dX5_isWithin_2 : decode cX5_isWithin 2 = .ok (.if_icmp .lt 12, 3) := by decide +kernel
theorem dX5_isWithin_5 : decode cX5_isWithin 5 = .ok (.iload_n 0, 1) := by decide +kernel
theorem dX5_isWithin_6 : decode cX5_isWithin 6 = .ok (.iload_n 2, 1) := by decide +kernel
theorem dX5_isWithin_7 : decode cX5_isWithin 7 = .ok (.if_icmp .gt 7, 3) := by decide +kernel
theorem dX5_isWithin_10 : decode cX5_isWithin 10 = .ok (.iconst 1, 1) := by decide +kernel
theorem dX5_isWithin_11 : decode cX5_isWithin 11 = .ok (.goto 4, 3) := by decide +kernel
theorem dX5_isWithin_14 : decode cX5_isWithin 14 = .ok (.iconst 0, 1) := by decide +kernel
theorem dX5_isWithin_15 : decode cX5_isWithin 15 = .ok (.ireturn, 1) := by decide +kernel
theorem dX5_isWay_0 : decode cX5_isWay 0 = .ok (.iload_n 0, 1) := by decide +kernel
theorem dX5_isWay_1 : decode cX5_isWay 1 = .ok (.iconst 0, 1) := by decide +kernel
theorem dX5_isWay_2 : decode cX5_isWay 2 = .ok (.iconst 3, 1) := by decide +kernel
theorem dX5_isWay_3 : decode cX5_isWay 3 = .ok (.invokestatic 50, 3) := by decide +kernel
theorem dX5_isWay_6 : decode cX5_isWay 6 = .ok (.ireturn, 1) := by decide +kernel
theorem dX5_asNumber_0 : decode cX5_asNumber 0 = .ok (.iload_n 0, 1) := by decide +kernel
theorem dX5_asNumber_1 : decode cX5_asNumber 1 = .ok (.ifCond .eq 7, 3) := by decide +kernel
theorem dX5_asNumber_4 : decode cX5_asNumber 4 = .ok (.iconst 1, 1) := by decide +kernel
theorem dX5_asNumber_5 : decode cX5_asNumber 5 = .ok (.goto 4, 3) := by decide +kernel
theorem dX5_asNumber_8 : decode cX5_asNumber 8 = .ok (.iconst 0, 1) := by decide +kernel
theorem dX5_asNumber_9 : decode cX5_asNumber 9 = .ok (.ireturn, 1) := by decide +kernel
theorem dX5_imageOf_0 : decode cX5_imageOf 0 = .ok (.iload_n 1, 1) := by decide +kernel
theorem dX5_imageOf_1 : decode cX5_imageOf 1 = .ok (.ifCond .ne 10, 3) := by decide +kernel
theorem dX5_imageOf_4 : decode cX5_imageOf 4 = .ok (.aload_n 0, 1) := by decide +kernel
theorem dX5_imageOf_5 : decode cX5_imageOf 5 = .ok (.getfield 16, 3) := by decide +kernel
theorem dX5_imageOf_8 : decode cX5_imageOf 8 = .ok (.goto 7, 3) := by decide +kernel
theorem dX5_imageOf_11 : decode cX5_imageOf 11 = .ok (.aload_n 0, 1) := by decide +kernel
theorem dX5_imageOf_12 : decode cX5_imageOf 12 = .ok (.getfield 19, 3) := by decide +kernel
theorem dX5_imageOf_15 : decode cX5_imageOf 15 = .ok (.areturn, 1) := by decide +kernel
theorem dX5_ruleNow_0 : decode cX5_ruleNow 0 = .ok (.iload_n 1, 1) := by decide +kernel
theorem dX5_ruleNow_1 : decode cX5_ruleNow 1 = .ok (.ifCond .ne 13, 3) := by decide +kernel
theorem dX5_ruleNow_4 : decode cX5_ruleNow 4 = .ok (.aload_n 0, 1) := by decide +kernel
theorem dX5_ruleNow_5 : decode cX5_ruleNow 5 = .ok (.getfield 10, 3) := by decide +kernel
theorem dX5_ruleNow_8 : decode cX5_ruleNow 8 = .ok (.getfield 86, 3) := by decide +kernel
theorem dX5_ruleNow_11 : decode cX5_ruleNow 11 = .ok (.goto 25, 3) := by decide +kernel
theorem dX5_ruleNow_14 : decode cX5_ruleNow 14 = .ok (.iload_n 1, 1) := by decide +kernel
theorem dX5_ruleNow_15 : decode cX5_ruleNow 15 = .ok (.iconst 1, 1) := by decide +kernel
theorem dX5_ruleNow_16 : decode cX5_ruleNow 16 = .ok (.if_icmp .ne 13, 3) := by decide +kernel
theorem dX5_ruleNow_19 : decode cX5_ruleNow 19 = .ok (.aload_n 0, 1) := by decide +kernel
theorem dX5_ruleNow_20 : decode cX5_ruleNow 20 = .ok (.getfield 10, 3) := by decide +kernel
theorem dX5_ruleNow_23 : decode cX5_ruleNow 23 = .ok (.getfield 89, 3) := by decide +kernel
theorem dX5_ruleNow_26 : decode cX5_ruleNow 26 = .ok (.goto 10, 3) := by decide +kernel
theorem dX5_ruleNow_29 : decode cX5_ruleNow 29 = .ok (.aload_n 0, 1) := by decide +kernel
theorem dX5_ruleNow_30 : decode cX5_ruleNow 30 = .ok (.getfield 10, 3) := by decide +kernel
theorem dX5_ruleNow_33 : decode cX5_ruleNow 33 = .ok (.getfield 92, 3) := by decide +kernel
theorem dX5_ruleNow_36 : decode cX5_ruleNow 36 = .ok (.ireturn, 1) := by decide +kernel
theorem dX5_write_0 : decode cX5_write 0 = .ok (.aload_n 0, 1) := by decide +kernel
theorem dX5_write_1 : decode cX5_write 1 = .ok (.getfield 29, 3) := by decide +kernel
theorem dX5_write_4 : decode cX5_write 4 = .ok (.iload_n 1, 1) := by decide +kernel
theorem dX5_write_5 : decode cX5_write 5 = .ok (.aload_n 0, 1) := by decide +kernel
theorem dX5_write_6 : decode cX5_write 6 = .ok (.getfield 10, 3) := by decide +kernel
theorem dX5_write_9 : decode cX5_write 9 = .ok (.getfield 54, 3) := by decide +kernel
theorem dX5_write_12 : decode cX5_write 12 = .ok (.aload_n 0, 1) := by decide +kernel
theorem dX5_write_13 : decode cX5_write 13 = .ok (.getfield 10, 3) := by decide +kernel
theorem dX5_write_16 : decode cX5_write 16 = .ok (.getfield 162, 3) := by decide +kernel
theorem dX5_write_19 : decode cX5_write 19 = .ok (.invokevirtual 193, 3) := by decide +kernel
theorem dX5_write_22 : decode cX5_write 22 = .ok (.return_, 1) := by decide +kernel
theorem dX5_playToTheEnd_0 : decode cX5_playToTheEnd 0 = .ok (.aload_n 0, 1) := by decide +kernel
theorem dX5_playToTheEnd_1 : decode cX5_playToTheEnd 1 = .ok (.iload_n 2, 1) := by decide +kernel
theorem dX5_playToTheEnd_2 : decode cX5_playToTheEnd 2 = .ok (.invokevirtual 104, 3) := by decide +kernel
theorem dX5_playToTheEnd_5 : decode cX5_playToTheEnd 5 = .ok (.aload_n 1, 1) := by decide +kernel
theorem dX5_playToTheEnd_6 : decode cX5_playToTheEnd 6 = .ok (.aload_n 0, 1) := by decide +kernel
theorem dX5_playToTheEnd_7 : decode cX5_playToTheEnd 7 = .ok (.getfield 10, 3) := by decide +kernel
theorem dX5_playToTheEnd_10 : decode cX5_playToTheEnd 10 = .ok (.aload_n 0, 1) := by decide +kernel
theorem dX5_playToTheEnd_11 : decode cX5_playToTheEnd 11 = .ok (.getfield 29, 3) := by decide +kernel
theorem dX5_playToTheEnd_14 : decode cX5_playToTheEnd 14 = .ok (.aload_n 0, 1) := by decide +kernel
theorem dX5_playToTheEnd_15 : decode cX5_playToTheEnd 15 = .ok (.getfield 29, 3) := by decide +kernel
theorem dX5_playToTheEnd_18 : decode cX5_playToTheEnd 18 = .ok (.getfield 112, 3) := by decide +kernel
theorem dX5_playToTheEnd_21 : decode cX5_playToTheEnd 21 = .ok (.iconst (-1), 1) := by decide +kernel
theorem dX5_playToTheEnd_22 : decode cX5_playToTheEnd 22 = .ok (.invokevirtual 141, 3) := by decide +kernel
theorem dX5_playToTheEnd_25 : decode cX5_playToTheEnd 25 = .ok (.return_, 1) := by decide +kernel
theorem dX5_timeIfSizeWere_0 : decode cX5_timeIfSizeWere 0 = .ok (.aload_n 0, 1) := by decide +kernel
theorem dX5_timeIfSizeWere_1 : decode cX5_timeIfSizeWere 1 = .ok (.getfield 29, 3) := by decide +kernel
theorem dX5_timeIfSizeWere_4 : decode cX5_timeIfSizeWere 4 = .ok (.iload_n 1, 1) := by decide +kernel
theorem dX5_timeIfSizeWere_5 : decode cX5_timeIfSizeWere 5 = .ok (.aload_n 0, 1) := by decide +kernel
theorem dX5_timeIfSizeWere_6 : decode cX5_timeIfSizeWere 6 = .ok (.getfield 10, 3) := by decide +kernel
theorem dX5_timeIfSizeWere_9 : decode cX5_timeIfSizeWere 9 = .ok (.getfield 54, 3) := by decide +kernel
theorem dX5_timeIfSizeWere_12 : decode cX5_timeIfSizeWere 12 = .ok (.iload_n 2, 1) := by decide +kernel
theorem dX5_timeIfSizeWere_13 : decode cX5_timeIfSizeWere 13 = .ok (.invokevirtual 193, 3) := by decide +kernel
theorem dX5_timeIfSizeWere_16 : decode cX5_timeIfSizeWere 16 = .ok (.aload_n 0, 1) := by decide +kernel
theorem dX5_timeIfSizeWere_17 : decode cX5_timeIfSizeWere 17 = .ok (.getfield 36, 3) := by decide +kernel
theorem dX5_timeIfSizeWere_20 : decode cX5_timeIfSizeWere 20 = .ok (.aload_n 0, 1) := by decide +kernel
theorem dX5_timeIfSizeWere_21 : decode cX5_timeIfSizeWere 21 = .ok (.getfield 10, 3) := by decide +kernel
theorem dX5_timeIfSizeWere_24 : decode cX5_timeIfSizeWere 24 = .ok (.aload_n 0, 1) := by decide +kernel
theorem dX5_timeIfSizeWere_25 : decode cX5_timeIfSizeWere 25 = .ok (.getfield 29, 3) := by decide +kernel
theorem dX5_timeIfSizeWere_28 : decode cX5_timeIfSizeWere 28 = .ok (.invokevirtual 108, 3) := by decide +kernel
theorem dX5_timeIfSizeWere_31 : decode cX5_timeIfSizeWere 31 = .ok (.aload_n 0, 1) := by decide +kernel
theorem dX5_timeIfSizeWere_32 : decode cX5_timeIfSizeWere 32 = .ok (.getfield 36, 3) := by decide +kernel
theorem dX5_timeIfSizeWere_35 : decode cX5_timeIfSizeWere 35 = .ok (.getfield 122, 3) := by decide +kernel
theorem dX5_timeIfSizeWere_38 : decode cX5_timeIfSizeWere 38 = .ok (.ireturn, 1) := by decide +kernel
theorem dX5_allRowsAreOne_0 : decode cX5_allRowsAreOne 0 = .ok (.iconst 1, 1) := by decide +kernel
theorem dX5_allRowsAreOne_1 : decode cX5_allRowsAreOne 1 = .ok (.istore_n 2, 1) := by decide +kernel
theorem dX5_allRowsAreOne_2 : decode cX5_allRowsAreOne 2 = .ok (.iload_n 2, 1) := by decide +kernel
theorem dX5_allRowsAreOne_3 : decode cX5_allRowsAreOne 3 = .ok (.aload_n 0, 1) := by decide +kernel
theorem dX5_allRowsAreOne_4 : decode cX5_allRowsAreOne 4 = .ok (.getfield 10, 3) := by decide +kernel
theorem dX5_allRowsAreOne_7 : decode cX5_allRowsAreOne 7 = .ok (.getfield 54, 3) := by decide +kernel
theorem dX5_allRowsAreOne_10 : decode cX5_allRowsAreOne 10 = .ok (.if_icmp .ge 28, 3) := by decide +kernel
theorem dX5_allRowsAreOne_13 : decode cX5_allRowsAreOne 13 = .ok (.aload_n 1, 1) := by decide +kernel
theorem dX5_allRowsAreOne_14 : decode cX5_allRowsAreOne 14 = .ok (.iload_n 2, 1) := by decide +kernel
theorem dX5_allRowsAreOne_15 : decode cX5_allRowsAreOne 15 = .ok (.aload_n 1, 1) := by decide +kernel
theorem dX5_allRowsAreOne_16 : decode cX5_allRowsAreOne 16 = .ok (.iconst 0, 1) := by decide +kernel
theorem dX5_allRowsAreOne_17 : decode cX5_allRowsAreOne 17 = .ok (.aload_n 0, 1) := by decide +kernel
theorem dX5_allRowsAreOne_18 : decode cX5_allRowsAreOne 18 = .ok (.getfield 10, 3) := by decide +kernel
theorem dX5_allRowsAreOne_21 : decode cX5_allRowsAreOne 21 = .ok (.getfield 162, 3) := by decide +kernel
theorem dX5_allRowsAreOne_24 : decode cX5_allRowsAreOne 24 = .ok (.invokevirtual 165, 3) := by decide +kernel
theorem dX5_allRowsAreOne_27 : decode cX5_allRowsAreOne 27 = .ok (.ifCond .le 5, 3) := by decide +kernel
theorem dX5_allRowsAreOne_30 : decode cX5_allRowsAreOne 30 = .ok (.iconst 0, 1) := by decide +kernel
theorem dX5_allRowsAreOne_31 : decode cX5_allRowsAreOne 31 = .ok (.ireturn, 1) := by decide +kernel
theorem dX5_allRowsAreOne_32 : decode cX5_allRowsAreOne 32 = .ok (.iinc 2 1, 3) := by decide +kernel
theorem dX5_allRowsAreOne_35 : decode cX5_allRowsAreOne 35 = .ok (.goto (-33), 3) := by decide +kernel
theorem dX5_allRowsAreOne_38 : decode cX5_allRowsAreOne 38 = .ok (.iconst 1, 1) := by decide +kernel
theorem dX5_allRowsAreOne_39 : decode cX5_allRowsAreOne 39 = .ok (.ireturn, 1) := by decide +kernel
theorem dX5_placesMixedByRising_0 : decode cX5_placesMixedByRising 0 = .ok (.iconst 0, 1) := by decide +kernel
theorem dX5_placesMixedByRising_1 : decode cX5_placesMixedByRising 1 = .ok (.istore_n 2, 1) := by decide +kernel
theorem dX5_placesMixedByRising_2 : decode cX5_placesMixedByRising 2 = .ok (.iconst 0, 1) := by decide +kernel
theorem dX5_placesMixedByRising_3 : decode cX5_placesMixedByRising 3 = .ok (.istore_n 3, 1) := by decide +kernel
theorem dX5_placesMixedByRising_4 : decode cX5_placesMixedByRising 4 = .ok (.iload_n 3, 1) := by decide +kernel
theorem dX5_placesMixedByRising_5 : decode cX5_placesMixedByRising 5 = .ok (.aload_n 0, 1) := by decide +kernel
theorem dX5_placesMixedByRising_6 : decode cX5_placesMixedByRising 6 = .ok (.getfield 10, 3) := by decide +kernel
theorem dX5_placesMixedByRising_9 : decode cX5_placesMixedByRising 9 = .ok (.getfield 162, 3) := by decide +kernel
theorem dX5_placesMixedByRising_12 : decode cX5_placesMixedByRising 12 = .ok (.if_icmp .ge 29, 3) := by decide +kernel
theorem dX5_placesMixedByRising_15 : decode cX5_placesMixedByRising 15 = .ok (.aload_n 1, 1) := by decide +kernel
theorem dX5_placesMixedByRising_16 : decode cX5_placesMixedByRising 16 = .ok (.iconst 0, 1) := by decide +kernel
theorem dX5_placesMixedByRising_17 : decode cX5_placesMixedByRising 17 = .ok (.iload_n 3, 1) := by decide +kernel
theorem dX5_placesMixedByRising_18 : decode cX5_placesMixedByRising 18 = .ok (.invokevirtual 72, 3) := by decide +kernel
theorem dX5_placesMixedByRising_21 : decode cX5_placesMixedByRising 21 = .ok (.aload_n 0, 1) := by decide +kernel
theorem dX5_placesMixedByRising_22 : decode cX5_placesMixedByRising 22 = .ok (.getfield 10, 3) := by decide +kernel
theorem dX5_placesMixedByRising_25 : decode cX5_placesMixedByRising 25 = .ok (.iload_n 3, 1) := by decide +kernel
theorem dX5_placesMixedByRising_26 : decode cX5_placesMixedByRising 26 = .ok (.invokevirtual 195, 3) := by decide +kernel
theorem dX5_placesMixedByRising_29 : decode cX5_placesMixedByRising 29 = .ok (.if_icmp .ne 6, 3) := by decide +kernel
theorem dX5_placesMixedByRising_32 : decode cX5_placesMixedByRising 32 = .ok (.iinc 2 1, 3) := by decide +kernel
theorem dX5_placesMixedByRising_35 : decode cX5_placesMixedByRising 35 = .ok (.iinc 3 1, 3) := by decide +kernel
theorem dX5_placesMixedByRising_38 : decode cX5_placesMixedByRising 38 = .ok (.goto (-34), 3) := by decide +kernel
theorem dX5_placesMixedByRising_41 : decode cX5_placesMixedByRising 41 = .ok (.iload_n 2, 1) := by decide +kernel
theorem dX5_placesMixedByRising_42 : decode cX5_placesMixedByRising 42 = .ok (.ireturn, 1) := by decide +kernel
theorem dX5_machinesThatDiffer_0 : decode cX5_machinesThatDiffer 0 = .ok (.iconst 0, 1) := by decide +kernel
theorem dX5_machinesThatDiffer_1 : decode cX5_machinesThatDiffer 1 = .ok (.istore_n 1, 1) := by decide +kernel
theorem dX5_machinesThatDiffer_2 : decode cX5_machinesThatDiffer 2 = .ok (.iconst 0, 1) := by decide +kernel
theorem dX5_machinesThatDiffer_3 : decode cX5_machinesThatDiffer 3 = .ok (.istore_n 2, 1) := by decide +kernel
theorem dX5_machinesThatDiffer_4 : decode cX5_machinesThatDiffer 4 = .ok (.iload_n 2, 1) := by decide +kernel
theorem dX5_machinesThatDiffer_5 : decode cX5_machinesThatDiffer 5 = .ok (.aload_n 0, 1) := by decide +kernel
theorem dX5_machinesThatDiffer_6 : decode cX5_machinesThatDiffer 6 = .ok (.getfield 10, 3) := by decide +kernel
theorem dX5_machinesThatDiffer_9 : decode cX5_machinesThatDiffer 9 = .ok (.getfield 54, 3) := by decide +kernel
theorem dX5_machinesThatDiffer_12 : decode cX5_machinesThatDiffer 12 = .ok (.if_icmp .ge 44, 3) := by decide +kernel
theorem dX5_machinesThatDiffer_15 : decode cX5_machinesThatDiffer 15 = .ok (.aload_n 0, 1) := by decide +kernel
theorem dX5_machinesThatDiffer_16 : decode cX5_machinesThatDiffer 16 = .ok (.getfield 43, 3) := by decide +kernel
theorem dX5_machinesThatDiffer_19 : decode cX5_machinesThatDiffer 19 = .ok (.getfield 145, 3) := by decide +kernel
theorem dX5_machinesThatDiffer_22 : decode cX5_machinesThatDiffer 22 = .ok (.iload_n 2, 1) := by decide +kernel
theorem dX5_machinesThatDiffer_23 : decode cX5_machinesThatDiffer 23 = .ok (.aload_n 0, 1) := by decide +kernel
theorem dX5_machinesThatDiffer_24 : decode cX5_machinesThatDiffer 24 = .ok (.getfield 47, 3) := by decide +kernel
theorem dX5_machinesThatDiffer_27 : decode cX5_machinesThatDiffer 27 = .ok (.getfield 145, 3) := by decide +kernel
theorem dX5_machinesThatDiffer_30 : decode cX5_machinesThatDiffer 30 = .ok (.iload_n 2, 1) := by decide +kernel
theorem dX5_machinesThatDiffer_31 : decode cX5_machinesThatDiffer 31 = .ok (.aload_n 0, 1) := by decide +kernel
theorem dX5_machinesThatDiffer_32 : decode cX5_machinesThatDiffer 32 = .ok (.getfield 10, 3) := by decide +kernel
theorem dX5_machinesThatDiffer_35 : decode cX5_machinesThatDiffer 35 = .ok (.getfield 162, 3) := by decide +kernel
theorem dX5_machinesThatDiffer_38 : decode cX5_machinesThatDiffer 38 = .ok (.invokevirtual 165, 3) := by decide +kernel
theorem dX5_machinesThatDiffer_41 : decode cX5_machinesThatDiffer 41 = .ok (.ifCond .le 9, 3) := by decide +kernel
theorem dX5_machinesThatDiffer_44 : decode cX5_machinesThatDiffer 44 = .ok (.iload_n 1, 1) := by decide +kernel
theorem dX5_machinesThatDiffer_45 : decode cX5_machinesThatDiffer 45 = .ok (.iconst 1, 1) := by decide +kernel
theorem dX5_machinesThatDiffer_46 : decode cX5_machinesThatDiffer 46 = .ok (.iload_n 2, 1) := by decide +kernel
theorem dX5_machinesThatDiffer_47 : decode cX5_machinesThatDiffer 47 = .ok (.ishl, 1) := by decide +kernel
theorem dX5_machinesThatDiffer_48 : decode cX5_machinesThatDiffer 48 = .ok (.ior, 1) := by decide +kernel
theorem dX5_machinesThatDiffer_49 : decode cX5_machinesThatDiffer 49 = .ok (.istore_n 1, 1) := by decide +kernel
theorem dX5_machinesThatDiffer_50 : decode cX5_machinesThatDiffer 50 = .ok (.iinc 2 1, 3) := by decide +kernel
theorem dX5_machinesThatDiffer_53 : decode cX5_machinesThatDiffer 53 = .ok (.goto (-49), 3) := by decide +kernel
theorem dX5_machinesThatDiffer_56 : decode cX5_machinesThatDiffer 56 = .ok (.iload_n 1, 1) := by decide +kernel
theorem dX5_machinesThatDiffer_57 : decode cX5_machinesThatDiffer 57 = .ok (.ireturn, 1) := by decide +kernel
theorem dX5_numbersThatDiffer_0 : decode cX5_numbersThatDiffer 0 = .ok (.iconst 0, 1) := by decide +kernel
theorem dX5_numbersThatDiffer_1 : decode cX5_numbersThatDiffer 1 = .ok (.istore_n 1, 1) := by decide +kernel
theorem dX5_numbersThatDiffer_2 : decode cX5_numbersThatDiffer 2 = .ok (.iconst 0, 1) := by decide +kernel
theorem dX5_numbersThatDiffer_3 : decode cX5_numbersThatDiffer 3 = .ok (.istore_n 2, 1) := by decide +kernel
theorem dX5_numbersThatDiffer_4 : decode cX5_numbersThatDiffer 4 = .ok (.iload_n 2, 1) := by decide +kernel
theorem dX5_numbersThatDiffer_5 : decode cX5_numbersThatDiffer 5 = .ok (.aload_n 0, 1) := by decide +kernel
theorem dX5_numbersThatDiffer_6 : decode cX5_numbersThatDiffer 6 = .ok (.getfield 10, 3) := by decide +kernel
theorem dX5_numbersThatDiffer_9 : decode cX5_numbersThatDiffer 9 = .ok (.getfield 54, 3) := by decide +kernel
theorem dX5_numbersThatDiffer_12 : decode cX5_numbersThatDiffer 12 = .ok (.if_icmp .ge 38, 3) := by decide +kernel
theorem dX5_numbersThatDiffer_15 : decode cX5_numbersThatDiffer 15 = .ok (.iload_n 1, 1) := by decide +kernel
theorem dX5_numbersThatDiffer_16 : decode cX5_numbersThatDiffer 16 = .ok (.aload_n 0, 1) := by decide +kernel
theorem dX5_numbersThatDiffer_17 : decode cX5_numbersThatDiffer 17 = .ok (.getfield 43, 3) := by decide +kernel
theorem dX5_numbersThatDiffer_20 : decode cX5_numbersThatDiffer 20 = .ok (.getfield 145, 3) := by decide +kernel
theorem dX5_numbersThatDiffer_23 : decode cX5_numbersThatDiffer 23 = .ok (.iload_n 2, 1) := by decide +kernel
theorem dX5_numbersThatDiffer_24 : decode cX5_numbersThatDiffer 24 = .ok (.aload_n 0, 1) := by decide +kernel
theorem dX5_numbersThatDiffer_25 : decode cX5_numbersThatDiffer 25 = .ok (.getfield 47, 3) := by decide +kernel
theorem dX5_numbersThatDiffer_28 : decode cX5_numbersThatDiffer 28 = .ok (.getfield 145, 3) := by decide +kernel
theorem dX5_numbersThatDiffer_31 : decode cX5_numbersThatDiffer 31 = .ok (.iload_n 2, 1) := by decide +kernel
theorem dX5_numbersThatDiffer_32 : decode cX5_numbersThatDiffer 32 = .ok (.aload_n 0, 1) := by decide +kernel
theorem dX5_numbersThatDiffer_33 : decode cX5_numbersThatDiffer 33 = .ok (.getfield 10, 3) := by decide +kernel
theorem dX5_numbersThatDiffer_36 : decode cX5_numbersThatDiffer 36 = .ok (.getfield 162, 3) := by decide +kernel
theorem dX5_numbersThatDiffer_39 : decode cX5_numbersThatDiffer 39 = .ok (.invokevirtual 165, 3) := by decide +kernel
theorem dX5_numbersThatDiffer_42 : decode cX5_numbersThatDiffer 42 = .ok (.iadd, 1) := by decide +kernel
theorem dX5_numbersThatDiffer_43 : decode cX5_numbersThatDiffer 43 = .ok (.istore_n 1, 1) := by decide +kernel
theorem dX5_numbersThatDiffer_44 : decode cX5_numbersThatDiffer 44 = .ok (.iinc 2 1, 3) := by decide +kernel
theorem dX5_numbersThatDiffer_47 : decode cX5_numbersThatDiffer 47 = .ok (.goto (-43), 3) := by decide +kernel
theorem dX5_numbersThatDiffer_50 : decode cX5_numbersThatDiffer 50 = .ok (.iload_n 1, 1) := by decide +kernel
theorem dX5_numbersThatDiffer_51 : decode cX5_numbersThatDiffer 51 = .ok (.ireturn, 1) := by decide +kernel
theorem dJ9_max_7cf53_0 : decode cJ9_max_7cf53 0 = .ok (.iload_n 0, 1) := by decide +kernel
theorem dJ9_max_7cf53_1 : decode cJ9_max_7cf53 1 = .ok (.iload_n 1, 1) := by decide +kernel
theorem dJ9_max_7cf53_2 : decode cJ9_max_7cf53 2 = .ok (.if_icmp .lt 7, 3) := by decide +kernel
theorem dJ9_max_7cf53_5 : decode cJ9_max_7cf53 5 = .ok (.iload_n 0, 1) := by decide +kernel
theorem dJ9_max_7cf53_6 : decode cJ9_max_7cf53 6 = .ok (.goto 4, 3) := by decide +kernel
theorem dJ9_max_7cf53_9 : decode cJ9_max_7cf53 9 = .ok (.iload_n 1, 1) := by decide +kernel
theorem dJ9_max_7cf53_10 : decode cJ9_max_7cf53 10 = .ok (.ireturn, 1) := by decide +kernel
theorem dJ9_min_7cf53_0 : decode cJ9_min_7cf53 0 = .ok (.iload_n 0, 1) := by decide +kernel
theorem dJ9_min_7cf53_1 : decode cJ9_min_7cf53 1 = .ok (.iload_n 1, 1) := by decide +kernel
theorem dJ9_min_7cf53_2 : decode cJ9_min_7cf53 2 = .ok (.if_icmp .gt 7, 3) := by decide +kernel
theorem dJ9_min_7cf53_5 : decode cJ9_min_7cf53 5 = .ok (.iload_n 0, 1) := by decide +kernel
theorem dJ9_min_7cf53_6 : decode cJ9_min_7cf53 6 = .ok (.goto 4, 3) := by decide +kernel
theorem dJ9_min_7cf53_9 : decode cJ9_min_7cf53 9 = .ok (.iload_n 1, 1) := by decide +kernel
theorem dJ9_min_7cf53_10 : decode cJ9_min_7cf53 10 = .ok (.ireturn, 1) := by decide +kernel
theorem dJ7_fill_53178_0 : decode cJ7_fill_53178 0 = .ok (.iconst 0, 1) := by decide +kernel
theorem dJ7_fill_53178_1 : decode cJ7_fill_53178 1 = .ok (.istore_n 2, 1) := by decide +kernel
theorem dJ7_fill_53178_2 : decode cJ7_fill_53178 2 = .ok (.aload_n 0, 1) := by decide +kernel
theorem dJ7_fill_53178_3 : decode cJ7_fill_53178 3 = .ok (.arraylength, 1) := by decide +kernel
theorem dJ7_fill_53178_4 : decode cJ7_fill_53178 4 = .ok (.istore_n 3, 1) := by decide +kernel
theorem dJ7_fill_53178_5 : decode cJ7_fill_53178 5 = .ok (.iload_n 2, 1) := by decide +kernel
theorem dJ7_fill_53178_6 : decode cJ7_fill_53178 6 = .ok (.iload_n 3, 1) := by decide +kernel
theorem dJ7_fill_53178_7 : decode cJ7_fill_53178 7 = .ok (.if_icmp .ge 13, 3) := by decide +kernel
theorem dJ7_fill_53178_10 : decode cJ7_fill_53178 10 = .ok (.aload_n 0, 1) := by decide +kernel
theorem dJ7_fill_53178_11 : decode cJ7_fill_53178 11 = .ok (.iload_n 2, 1) := by decide +kernel
theorem dJ7_fill_53178_12 : decode cJ7_fill_53178 12 = .ok (.iload_n 1, 1) := by decide +kernel
theorem dJ7_fill_53178_13 : decode cJ7_fill_53178 13 = .ok (.iastore, 1) := by decide +kernel
theorem dJ7_fill_53178_14 : decode cJ7_fill_53178 14 = .ok (.iinc 2 1, 3) := by decide +kernel
theorem dJ7_fill_53178_17 : decode cJ7_fill_53178 17 = .ok (.goto (-12), 3) := by decide +kernel
theorem dJ7_fill_53178_20 : decode cJ7_fill_53178 20 = .ok (.return_, 1) := by decide +kernel
end
section
theorem dX6_init_0 : decode cX6_init 0 = .ok (.aload_n 0, 1) := by decide +kernel
theorem dX6_init_1 : decode cX6_init 1 = .ok (.invokespecial 1, 3) := by decide +kernel
theorem dX6_init_4 : decode cX6_init 4 = .ok (.aload_n 0, 1) := by decide +kernel
theorem dX6_init_5 : decode cX6_init 5 = .ok (.sipush 194, 3) := by decide +kernel
theorem dX6_init_8 : decode cX6_init 8 = .ok (.newarray .int, 2) := by decide +kernel
theorem dX6_init_10 : decode cX6_init 10 = .ok (.putfield 7, 3) := by decide +kernel
theorem dX6_init_13 : decode cX6_init 13 = .ok (.aload_n 0, 1) := by decide +kernel
theorem dX6_init_14 : decode cX6_init 14 = .ok (.sipush 388, 3) := by decide +kernel
theorem dX6_init_17 : decode cX6_init 17 = .ok (.newarray .int, 2) := by decide +kernel
theorem dX6_init_19 : decode cX6_init 19 = .ok (.putfield 13, 3) := by decide +kernel
theorem dX6_init_22 : decode cX6_init 22 = .ok (.aload_n 0, 1) := by decide +kernel
theorem dX6_init_23 : decode cX6_init 23 = .ok (.iconst 2, 1) := by decide +kernel
theorem dX6_init_24 : decode cX6_init 24 = .ok (.newarray .boolean, 2) := by decide +kernel
theorem dX6_init_26 : decode cX6_init 26 = .ok (.putfield 16, 3) := by decide +kernel
theorem dX6_init_29 : decode cX6_init 29 = .ok (.aload_n 0, 1) := by decide +kernel
theorem dX6_init_30 : decode cX6_init 30 = .ok (.sipush 144, 3) := by decide +kernel
theorem dX6_init_33 : decode cX6_init 33 = .ok (.newarray .int, 2) := by decide +kernel
theorem dX6_init_35 : decode cX6_init 35 = .ok (.putfield 20, 3) := by decide +kernel
theorem dX6_init_38 : decode cX6_init 38 = .ok (.aload_n 0, 1) := by decide +kernel
theorem dX6_init_39 : decode cX6_init 39 = .ok (.sipush 144, 3) := by decide +kernel
theorem dX6_init_42 : decode cX6_init 42 = .ok (.newarray .int, 2) := by decide +kernel
theorem dX6_init_44 : decode cX6_init 44 = .ok (.putfield 23, 3) := by decide +kernel
theorem dX6_init_47 : decode cX6_init 47 = .ok (.aload_n 0, 1) := by decide +kernel
theorem dX6_init_48 : decode cX6_init 48 = .ok (.sipush 144, 3) := by decide +kernel
theorem dX6_init_51 : decode cX6_init 51 = .ok (.newarray .int, 2) := by decide +kernel
theorem dX6_init_53 : decode cX6_init 53 = .ok (.putfield 26, 3) := by decide +kernel
theorem dX6_init_56 : decode cX6_init 56 = .ok (.aload_n 0, 1) := by decide +kernel
theorem dX6_init_57 : decode cX6_init 57 = .ok (.sipush 144, 3) := by decide +kernel
theorem dX6_init_60 : decode cX6_init 60 = .ok (.newarray .int, 2) := by decide +kernel
theorem dX6_init_62 : decode cX6_init 62 = .ok (.putfield 29, 3) := by decide +kernel
theorem dX6_init_65 : decode cX6_init 65 = .ok (.aload_n 0, 1) := by decide +kernel
theorem dX6_init_66 : decode cX6_init 66 = .ok (.sipush 144, 3) := by decide +kernel
theorem dX6_init_69 : decode cX6_init 69 = .ok (.newarray .int, 2) := by decide +kernel
theorem dX6_init_71 : decode cX6_init 71 = .ok (.putfield 32, 3) := by decide +kernel
theorem dX6_init_74 : decode cX6_init 74 = .ok (.aload_n 0, 1) := by decide +kernel
theorem dX6_init_75 : decode cX6_init 75 = .ok (.sipush 144, 3) := by decide +kernel
theorem dX6_init_78 : decode cX6_init 78 = .ok (.newarray .int, 2) := by decide +kernel
theorem dX6_init_80 : decode cX6_init 80 = .ok (.putfield 35, 3) := by decide +kernel
theorem dX6_init_83 : decode cX6_init 83 = .ok (.aload_n 0, 1) := by decide +kernel
theorem dX6_init_84 : decode cX6_init 84 = .ok (.bipush 9, 2) := by decide +kernel
theorem dX6_init_86 : decode cX6_init 86 = .ok (.newarray .int, 2) := by decide +kernel
theorem dX6_init_88 : decode cX6_init 88 = .ok (.putfield 38, 3) := by decide +kernel
theorem dX6_init_91 : decode cX6_init 91 = .ok (.aload_n 0, 1) := by decide +kernel
theorem dX6_init_92 : decode cX6_init 92 = .ok (.bipush 9, 2) := by decide +kernel
theorem dX6_init_94 : decode cX6_init 94 = .ok (.newarray .int, 2) := by decide +kernel
theorem dX6_init_96 : decode cX6_init 96 = .ok (.putfield 41, 3) := by decide +kernel
theorem dX6_init_99 : decode cX6_init 99 = .ok (.aload_n 0, 1) := by decide +kernel
theorem dX6_init_100 : decode cX6_init 100 = .ok (.bipush 9, 2) := by decide +kernel
theorem dX6_init_102 : decode cX6_init 102 = .ok (.newarray .int, 2) := by decide +kernel
theorem dX6_init_104 : decode cX6_init 104 = .ok (.putfield 44, 3) := by decide +kernel
theorem dX6_init_107 : decode cX6_init 107 = .ok (.aload_n 0, 1) := by decide +kernel
theorem dX6_init_108 : decode cX6_init 108 = .ok (.bipush 9, 2) := by decide +kernel
theorem dX6_init_110 : decode cX6_init 110 = .ok (.newarray .int, 2) := by decide +kernel
theorem dX6_init_112 : decode cX6_init 112 = .ok (.putfield 47, 3) := by decide +kernel
theorem dX6_init_115 : decode cX6_init 115 = .ok (.aload_n 0, 1) := by decide +kernel
theorem dX6_init_116 : decode cX6_init 116 = .ok (.bipush 108, 2) := by decide +kernel
theorem dX6_init_118 : decode cX6_init 118 = .ok (.newarray .int, 2) := by decide +kernel
theorem dX6_init_120 : decode cX6_init 120 = .ok (.putfield 50, 3) := by decide +kernel
theorem dX6_init_123 : decode cX6_init 123 = .ok (.aload_n 0, 1) := by decide +kernel
theorem dX6_init_124 : decode cX6_init 124 = .ok (.bipush 108, 2) := by decide +kernel
theorem dX6_init_126 : decode cX6_init 126 = .ok (.newarray .int, 2) := by decide +kernel
theorem dX6_init_128 : decode cX6_init 128 = .ok (.putfield 53, 3) := by decide +kernel
theorem dX6_init_131 : decode cX6_init 131 = .ok (.aload_n 0, 1) := by decide +kernel
theorem dX6_init_132 : decode cX6_init 132 = .ok (.bipush 9, 2) := by decide +kernel
theorem dX6_init_134 : decode cX6_init 134 = .ok (.newarray .int, 2) := by decide +kernel
theorem dX6_init_136 : decode cX6_init 136 = .ok (.putfield 56, 3) := by decide +kernel
theorem dX6_init_139 : decode cX6_init 139 = .ok (.aload_n 0, 1) := by decide +kernel
theorem dX6_init_140 : decode cX6_init 140 = .ok (.bipush 9, 2) := by decide +kernel
theorem dX6_init_142 : decode cX6_init 142 = .ok (.newarray .int, 2) := by decide +kernel
theorem dX6_init_144 : decode cX6_init 144 = .ok (.putfield 59, 3) := by decide +kernel
theorem dX6_init_147 : decode cX6_init 147 = .ok (.aload_n 0, 1) := by decide +kernel
theorem dX6_init_148 : decode cX6_init 148 = .ok (.bipush 108, 2) := by decide +kernel
theorem dX6_init_150 : decode cX6_init 150 = .ok (.newarray .int, 2) := by decide +kernel
theorem dX6_init_152 : decode cX6_init 152 = .ok (.putfield 62, 3) := by decide +kernel
theorem dX6_init_155 : decode cX6_init 155 = .ok (.aload_n 0, 1) := by decide +kernel
theorem dX6_init_156 : decode cX6_init 156 = .ok (.getfield 7, 3) := by decide +kernel
theorem dX6_init_159 : decode cX6_init 159 = .ok (.iconst 3, 1) := by decide +kernel
theorem dX6_init_160 : decode cX6_init 160 = .ok (.iconst 5, 1) := by decide +kernel
theorem dX6_init_161 : decode cX6_init 161 = .ok (.iastore, 1) := by decide +kernel
theorem dX6_init_162 : decode cX6_init 162 = .ok (.aload_n 0, 1) := by decide +kernel
theorem dX6_init_163 : decode cX6_init 163 = .ok (.getfield 7, 3) := by decide +kernel
theorem dX6_init_166 : decode cX6_init 166 = .ok (.iconst 4, 1) := by decide +kernel
theorem dX6_init_167 : decode cX6_init 167 = .ok (.iconst 1, 1) := by decide +kernel
theorem dX6_init_168 : decode cX6_init 168 = .ok (.iastore, 1) := by decide +kernel
theorem dX6_init_169 : decode cX6_init 169 = .ok (.aload_n 0, 1) := by decide +kernel
theorem dX6_init_170 : decode cX6_init 170 = .ok (.iconst 4, 1) := by decide +kernel
theorem dX6_init_171 : decode cX6_init 171 = .ok (.iconst 4, 1) := by decide +kernel
theorem dX6_init_172 : decode cX6_init 172 = .ok (.invokevirtual 65, 3) := by decide +kernel
theorem dX6_init_175 : decode cX6_init 175 = .ok (.return_, 1) := by decide +kernel
theorem dX6_begin_0 : decode cX6_begin 0 = .ok (.aload_n 0, 1) := by decide +kernel
theorem dX6_begin_1 : decode cX6_begin 1 = .ok (.getfield 7, 3) := by decide +kernel
theorem dX6_begin_4 : decode cX6_begin 4 = .ok (.iconst 0, 1) := by decide +kernel
theorem dX6_begin_5 : decode cX6_begin 5 = .ok (.iload_n 1, 1) := by decide +kernel
theorem dX6_begin_6 : decode cX6_begin 6 = .ok (.iastore, 1) := by decide +kernel
theorem dX6_begin_7 : decode cX6_begin 7 = .ok (.aload_n 0, 1) := by decide +kernel
theorem dX6_begin_8 : decode cX6_begin 8 = .ok (.getfield 7, 3) := by decide +kernel
theorem dX6_begin_11 : decode cX6_begin 11 = .ok (.iconst 1, 1) := by decide +kernel
theorem dX6_begin_12 : decode cX6_begin 12 = .ok (.iload_n 2, 1) := by decide +kernel
theorem dX6_begin_13 : decode cX6_begin 13 = .ok (.iastore, 1) := by decide +kernel
theorem dX6_begin_14 : decode cX6_begin 14 = .ok (.iconst 0, 1) := by decide +kernel
theorem dX6_begin_15 : decode cX6_begin 15 = .ok (.istore_n 3, 1) := by decide +kernel
theorem dX6_begin_16 : decode cX6_begin 16 = .ok (.iload_n 3, 1) := by decide +kernel
theorem dX6_begin_17 : decode cX6_begin 17 = .ok (.bipush 81, 2) := by decide +kernel
theorem dX6_begin_19 : decode cX6_begin 19 = .ok (.if_icmp .ge 18, 3) := by decide +kernel
theorem dX6_begin_22 : decode cX6_begin 22 = .ok (.aload_n 0, 1) := by decide +kernel
theorem dX6_begin_23 : decode cX6_begin 23 = .ok (.getfield 7, 3) := by decide +kernel
theorem dX6_begin_26 : decode cX6_begin 26 = .ok (.iconst 5, 1) := by decide +kernel
theorem dX6_begin_27 : decode cX6_begin 27 = .ok (.iload_n 3, 1) := by decide +kernel
theorem dX6_begin_28 : decode cX6_begin 28 = .ok (.iadd, 1) := by decide +kernel
theorem dX6_begin_29 : decode cX6_begin 29 = .ok (.iconst 1, 1) := by decide +kernel
theorem dX6_begin_30 : decode cX6_begin 30 = .ok (.iastore, 1) := by decide +kernel
theorem dX6_begin_31 : decode cX6_begin 31 = .ok (.iinc 3 1, 3) := by decide +kernel
theorem dX6_begin_34 : decode cX6_begin 34 = .ok (.goto (-18), 3) := by decide +kernel
theorem dX6_begin_37 : decode cX6_begin 37 = .ok (.iconst 0, 1) := by decide +kernel
theorem dX6_begin_38 : decode cX6_begin 38 = .ok (.istore_n 3, 1) := by decide +kernel
theorem dX6_begin_39 : decode cX6_begin 39 = .ok (.iload_n 3, 1) := by decide +kernel
theorem dX6_begin_40 : decode cX6_begin 40 = .ok (.bipush 108, 2) := by decide +kernel
theorem dX6_begin_42 : decode cX6_begin 42 = .ok (.if_icmp .ge 19, 3) := by decide +kernel
theorem dX6_begin_45 : decode cX6_begin 45 = .ok (.aload_n 0, 1) := by decide +kernel
theorem dX6_begin_46 : decode cX6_begin 46 = .ok (.getfield 7, 3) := by decide +kernel
theorem dX6_begin_49 : decode cX6_begin 49 = .ok (.bipush 86, 2) := by decide +kernel
theorem dX6_begin_51 : decode cX6_begin 51 = .ok (.iload_n 3, 1) := by decide +kernel
theorem dX6_begin_52 : decode cX6_begin 52 = .ok (.iadd, 1) := by decide +kernel
theorem dX6_begin_53 : decode cX6_begin 53 = .ok (.iconst 0, 1) := by decide +kernel
theorem dX6_begin_54 : decode cX6_begin 54 = .ok (.iastore, 1) := by decide +kernel
theorem dX6_begin_55 : decode cX6_begin 55 = .ok (.iinc 3 1, 3) := by decide +kernel
theorem dX6_begin_58 : decode cX6_begin 58 = .ok (.goto (-19), 3) := by decide +kernel
theorem dX6_begin_61 : decode cX6_begin 61 = .ok (.return_, 1) := by decide +kernel
theorem dX6_in_0 : decode cX6_in 0 = .ok (.iload_n 0, 1) := by decide +kernel
theorem dX6_in_1 : decode cX6_in 1 = .ok (.iload_n 1, 1) := by decide +kernel
theorem dX6_in_2 : decode cX6_in 2 = .ok (.if_icmp .lt 12, 3) := by decide +kernel
theorem dX6_in_5 : decode cX6_in 5 = .ok (.iload_n 0, 1) := by decide +kernel
theorem dX6_in_6 : decode cX6_in 6 = .ok (.iload_n 2, 1) := by decide +kernel
theorem dX6_in_7 : decode cX6_in 7 = .ok (.if_icmp .gt 7, 3) := by decide +kernel
theorem dX6_in_10 : decode cX6_in 10 = .ok (.iconst 1, 1) := by decide +kernel
theorem dX6_in_11 : decode cX6_in 11 = .ok (.goto 4, 3) := by decide +kernel
theorem dX6_in_14 : decode cX6_in 14 = .ok (.iconst 0, 1) := by decide +kernel
theorem dX6_in_15 : decode cX6_in 15 = .ok (.ireturn, 1) := by decide +kernel
theorem dX6_isMachine_0 : decode cX6_isMachine 0 = .ok (.iload_n 1, 1) := by decide +kernel
theorem dX6_isMachine_1 : decode cX6_isMachine 1 = .ok (.iconst 0, 1) := by decide +kernel
theorem dX6_isMachine_2 : decode cX6_isMachine 2 = .ok (.aload_n 0, 1) := by decide +kernel
theorem dX6_isMachine_3 : decode cX6_isMachine 3 = .ok (.getfield 7, 3) := by decide +kernel
theorem dX6_isMachine_6 : decode cX6_isMachine 6 = .ok (.iconst 0, 1) := by decide +kernel
theorem dX6_isMachine_7 : decode cX6_isMachine 7 = .ok (.iaload, 1) := by decide +kernel
theorem dX6_isMachine_8 : decode cX6_isMachine 8 = .ok (.iconst 1, 1) := by decide +kernel
theorem dX6_isMachine_9 : decode cX6_isMachine 9 = .ok (.isub, 1) := by decide +kernel
theorem dX6_isMachine_10 : decode cX6_isMachine 10 = .ok (.invokestatic 69, 3) := by decide +kernel
theorem dX6_isMachine_13 : decode cX6_isMachine 13 = .ok (.ireturn, 1) := by decide +kernel
theorem dX6_isPlace_0 : decode cX6_isPlace 0 = .ok (.iload_n 1, 1) := by decide +kernel
theorem dX6_isPlace_1 : decode cX6_isPlace 1 = .ok (.iconst 0, 1) := by decide +kernel
theorem dX6_isPlace_2 : decode cX6_isPlace 2 = .ok (.aload_n 0, 1) := by decide +kernel
theorem dX6_isPlace_3 : decode cX6_isPlace 3 = .ok (.getfield 7, 3) := by decide +kernel
theorem dX6_isPlace_6 : decode cX6_isPlace 6 = .ok (.iconst 1, 1) := by decide +kernel
theorem dX6_isPlace_7 : decode cX6_isPlace 7 = .ok (.iaload, 1) := by decide +kernel
theorem dX6_isPlace_8 : decode cX6_isPlace 8 = .ok (.iconst 1, 1) := by decide +kernel
theorem dX6_isPlace_9 : decode cX6_isPlace 9 = .ok (.isub, 1) := by decide +kernel
theorem dX6_isPlace_10 : decode cX6_isPlace 10 = .ok (.invokestatic 69, 3) := by decide +kernel
theorem dX6_isPlace_13 : decode cX6_isPlace 13 = .ok (.ireturn, 1) := by decide +kernel
theorem dX6_isWay_0 : decode cX6_isWay 0 = .ok (.iload_n 0, 1) := by decide +kernel
theorem dX6_isWay_1 : decode cX6_isWay 1 = .ok (.iconst 0, 1) := by decide +kernel
theorem dX6_isWay_2 : decode cX6_isWay 2 = .ok (.iconst 3, 1) := by decide +kernel
theorem dX6_isWay_3 : decode cX6_isWay 3 = .ok (.invokestatic 69, 3) := by decide +kernel
theorem dX6_isWay_6 : decode cX6_isWay 6 = .ok (.ireturn, 1) := by decide +kernel
theorem dX6_machines_0 : decode cX6_machines 0 = .ok (.iload_n 1, 1) := by decide +kernel
theorem dX6_machines_1 : decode cX6_machines 1 = .ok (.iconst 2, 1) := by decide +kernel
theorem dX6_machines_2 : decode cX6_machines 2 = .ok (.bipush 9, 2) := by decide +kernel
theorem dX6_machines_4 : decode cX6_machines 4 = .ok (.invokestatic 69, 3) := by decide +kernel
theorem dX6_machines_7 : decode cX6_machines 7 = .ok (.ifCond .eq 13, 3) := by decide +kernel
theorem dX6_machines_10 : decode cX6_machines 10 = .ok (.iload_n 2, 1) := by decide +kernel
theorem dX6_machines_11 : decode cX6_machines 11 = .ok (.iconst 1, 1) := by decide +kernel
theorem dX6_machines_12 : decode cX6_machines 12 = .ok (.bipush 12, 2) := by decide +kernel
theorem dX6_machines_14 : decode cX6_machines 14 = .ok (.invokestatic 69, 3) := by decide +kernel
theorem dX6_machines_17 : decode cX6_machines 17 = .ok (.ifCond .ne 6, 3) := by decide +kernel
theorem dX6_machines_20 : decode cX6_machines 20 = .ok (.bipush (-2), 2) := by decide +kernel
theorem dX6_machines_22 : decode cX6_machines 22 = .ok (.ireturn, 1) := by decide +kernel
theorem dX6_machines_23 : decode cX6_machines 23 = .ok (.aload_n 0, 1) := by decide +kernel
theorem dX6_machines_24 : decode cX6_machines 24 = .ok (.getfield 7, 3) := by decide +kernel
theorem dX6_machines_27 : decode cX6_machines 27 = .ok (.iconst 0, 1) := by decide +kernel
theorem dX6_machines_28 : decode cX6_machines 28 = .ok (.iaload, 1) := by decide +kernel
theorem dX6_machines_29 : decode cX6_machines 29 = .ok (.istore_n 3, 1) := by decide +kernel
theorem dX6_machines_30 : decode cX6_machines 30 = .ok (.aload_n 0, 1) := by decide +kernel
theorem dX6_machines_31 : decode cX6_machines 31 = .ok (.iload_n 1, 1) := by decide +kernel
theorem dX6_machines_32 : decode cX6_machines 32 = .ok (.iload_n 2, 1) := by decide +kernel
theorem dX6_machines_33 : decode cX6_machines 33 = .ok (.invokevirtual 65, 3) := by decide +kernel
theorem dX6_machines_36 : decode cX6_machines 36 = .ok (.iload_n 3, 1) := by decide +kernel
theorem dX6_machines_37 : decode cX6_machines 37 = .ok (.ireturn, 1) := by decide +kernel
theorem dX6_cell_0 : decode cX6_cell 0 = .ok (.bipush 12, 2) := by decide +kernel
theorem dX6_cell_2 : decode cX6_cell 2 = .ok (.iload_n 0, 1) := by decide +kernel
theorem dX6_cell_3 : decode cX6_cell 3 = .ok (.imul, 1) := by decide +kernel
theorem dX6_cell_4 : decode cX6_cell 4 = .ok (.iload_n 1, 1) := by decide +kernel
theorem dX6_cell_5 : decode cX6_cell 5 = .ok (.iadd, 1) := by decide +kernel
theorem dX6_cell_6 : decode cX6_cell 6 = .ok (.ireturn, 1) := by decide +kernel
theorem dX6_put_0 : decode cX6_put 0 = .ok (.aload_n 0, 1) := by decide +kernel
theorem dX6_put_1 : decode cX6_put 1 = .ok (.iload_n 1, 1) := by decide +kernel
theorem dX6_put_2 : decode cX6_put 2 = .ok (.invokevirtual 73, 3) := by decide +kernel
theorem dX6_put_5 : decode cX6_put 5 = .ok (.ifCond .ne 5, 3) := by decide +kernel
theorem dX6_put_8 : decode cX6_put 8 = .ok (.iconst (-1), 1) := by decide +kernel
theorem dX6_put_9 : decode cX6_put 9 = .ok (.ireturn, 1) := by decide +kernel
theorem dX6_put_10 : decode cX6_put 10 = .ok (.aload_n 0, 1) := by decide +kernel
theorem dX6_put_11 : decode cX6_put 11 = .ok (.iload_n 2, 1) := by decide +kernel
theorem dX6_put_12 : decode cX6_put 12 = .ok (.invokevirtual 77, 3) := by decide +kernel
theorem dX6_put_15 : decode cX6_put 15 = .ok (.ifCond .eq 14, 3) := by decide +kernel
theorem dX6_put_18 : decode cX6_put 18 = .ok (.iload_n 3, 1) := by decide +kernel
theorem dX6_put_19 : decode cX6_put 19 = .ok (.iconst 0, 1) := by decide +kernel
theorem dX6_put_20 : decode cX6_put 20 = .ok (.sipush 996, 3) := by decide +kernel
theorem dX6_put_23 : decode cX6_put 23 = .ok (.invokestatic 69, 3) := by decide +kernel
theorem dX6_put_26 : decode cX6_put 26 = .ok (.ifCond .ne 6, 3) := by decide +kernel
theorem dX6_put_29 : decode cX6_put 29 = .ok (.bipush (-2), 2) := by decide +kernel
theorem dX6_put_31 : decode cX6_put 31 = .ok (.ireturn, 1) := by decide +kernel
theorem dX6_put_32 : decode cX6_put 32 = .ok (.aload_n 0, 1) := by decide +kernel
theorem dX6_put_33 : decode cX6_put 33 = .ok (.getfield 7, 3) := by decide +kernel
theorem dX6_put_36 : decode cX6_put 36 = .ok (.bipush 86, 2) := by decide +kernel
theorem dX6_put_38 : decode cX6_put 38 = .ok (.iload_n 1, 1) := by decide +kernel
theorem dX6_put_39 : decode cX6_put 39 = .ok (.iload_n 2, 1) := by decide +kernel
theorem dX6_put_40 : decode cX6_put 40 = .ok (.invokestatic 80, 3) := by decide +kernel
theorem dX6_put_43 : decode cX6_put 43 = .ok (.iadd, 1) := by decide +kernel
theorem dX6_put_44 : decode cX6_put 44 = .ok (.iaload, 1) := by decide +kernel
theorem dX6_put_45 : decode cX6_put 45 = .ok (.istore 4, 2) := by decide +kernel
theorem dX6_put_47 : decode cX6_put 47 = .ok (.aload_n 0, 1) := by decide +kernel
theorem dX6_put_48 : decode cX6_put 48 = .ok (.getfield 7, 3) := by decide +kernel
theorem dX6_put_51 : decode cX6_put 51 = .ok (.bipush 86, 2) := by decide +kernel
theorem dX6_put_53 : decode cX6_put 53 = .ok (.iload_n 1, 1) := by decide +kernel
theorem dX6_put_54 : decode cX6_put 54 = .ok (.iload_n 2, 1) := by decide +kernel
theorem dX6_put_55 : decode cX6_put 55 = .ok (.invokestatic 80, 3) := by decide +kernel
theorem dX6_put_58 : decode cX6_put 58 = .ok (.iadd, 1) := by decide +kernel
theorem dX6_put_59 : decode cX6_put 59 = .ok (.iload_n 3, 1) := by decide +kernel
theorem dX6_put_60 : decode cX6_put 60 = .ok (.iastore, 1) := by decide +kernel
theorem dX6_put_61 : decode cX6_put 61 = .ok (.iload 4, 2) := by decide +kernel
theorem dX6_put_63 : decode cX6_put 63 = .ok (.ireturn, 1) := by decide +kernel
theorem dX6_rule_0 : decode cX6_rule 0 = .ok (.iload_n 1, 1) := by decide +kernel
theorem dX6_rule_1 : decode cX6_rule 1 = .ok (.iconst 0, 1) := by decide +kernel
theorem dX6_rule_2 : decode cX6_rule 2 = .ok (.iconst 2, 1) := by decide +kernel
theorem dX6_rule_3 : decode cX6_rule 3 = .ok (.invokestatic 69, 3) := by decide +kernel
theorem dX6_rule_6 : decode cX6_rule 6 = .ok (.ifCond .eq 21, 3) := by decide +kernel
theorem dX6_rule_9 : decode cX6_rule 9 = .ok (.iload_n 2, 1) := by decide +kernel
theorem dX6_rule_10 : decode cX6_rule 10 = .ok (.iconst 0, 1) := by decide +kernel
theorem dX6_rule_11 : decode cX6_rule 11 = .ok (.iload_n 1, 1) := by decide +kernel
theorem dX6_rule_12 : decode cX6_rule 12 = .ok (.ifCond .ne 7, 3) := by decide +kernel
theorem dX6_rule_15 : decode cX6_rule 15 = .ok (.iconst 2, 1) := by decide +kernel
theorem dX6_rule_16 : decode cX6_rule 16 = .ok (.goto 5, 3) := by decide +kernel
theorem dX6_rule_19 : decode cX6_rule 19 = .ok (.bipush 99, 2) := by decide +kernel
theorem dX6_rule_21 : decode cX6_rule 21 = .ok (.invokestatic 69, 3) := by decide +kernel
theorem dX6_rule_24 : decode cX6_rule 24 = .ok (.ifCond .ne 6, 3) := by decide +kernel
theorem dX6_rule_27 : decode cX6_rule 27 = .ok (.bipush (-2), 2) := by decide +kernel
theorem dX6_rule_29 : decode cX6_rule 29 = .ok (.ireturn, 1) := by decide +kernel
theorem dX6_rule_30 : decode cX6_rule 30 = .ok (.aload_n 0, 1) := by decide +kernel
theorem dX6_rule_31 : decode cX6_rule 31 = .ok (.getfield 7, 3) := by decide +kernel
theorem dX6_rule_34 : decode cX6_rule 34 = .ok (.iconst 2, 1) := by decide +kernel
theorem dX6_rule_35 : decode cX6_rule 35 = .ok (.iload_n 1, 1) := by decide +kernel
theorem dX6_rule_36 : decode cX6_rule 36 = .ok (.iadd, 1) := by decide +kernel
theorem dX6_rule_37 : decode cX6_rule 37 = .ok (.iaload, 1) := by decide +kernel
theorem dX6_rule_38 : decode cX6_rule 38 = .ok (.istore_n 3, 1) := by decide +kernel
theorem dX6_rule_39 : decode cX6_rule 39 = .ok (.aload_n 0, 1) := by decide +kernel
theorem dX6_rule_40 : decode cX6_rule 40 = .ok (.getfield 7, 3) := by decide +kernel
theorem dX6_rule_43 : decode cX6_rule 43 = .ok (.iconst 2, 1) := by decide +kernel
theorem dX6_rule_44 : decode cX6_rule 44 = .ok (.iload_n 1, 1) := by decide +kernel
theorem dX6_rule_45 : decode cX6_rule 45 = .ok (.iadd, 1) := by decide +kernel
theorem dX6_rule_46 : decode cX6_rule 46 = .ok (.iload_n 2, 1) := by decide +kernel
theorem dX6_rule_47 : decode cX6_rule 47 = .ok (.iastore, 1) := by decide +kernel
theorem dX6_rule_48 : decode cX6_rule 48 = .ok (.iload_n 3, 1) := by decide +kernel
theorem dX6_rule_49 : decode cX6_rule 49 = .ok (.ireturn, 1) := by decide +kernel
theorem dX6_slow_0 : decode cX6_slow 0 = .ok (.aload_n 0, 1) := by decide +kernel
theorem dX6_slow_1 : decode cX6_slow 1 = .ok (.iload_n 1, 1) := by decide +kernel
theorem dX6_slow_2 : decode cX6_slow 2 = .ok (.invokevirtual 73, 3) := by decide +kernel
theorem dX6_slow_5 : decode cX6_slow 5 = .ok (.ifCond .eq 11, 3) := by decide +kernel
theorem dX6_slow_8 : decode cX6_slow 8 = .ok (.aload_n 0, 1) := by decide +kernel
theorem dX6_slow_9 : decode cX6_slow 9 = .ok (.iload_n 2, 1) := by decide +kernel
theorem dX6_slow_10 : decode cX6_slow 10 = .ok (.invokevirtual 73, 3) := by decide +kernel
theorem dX6_slow_13 : decode cX6_slow 13 = .ok (.ifCond .ne 5, 3) := by decide +kernel
theorem dX6_slow_16 : decode cX6_slow 16 = .ok (.iconst (-1), 1) := by decide +kernel
theorem dX6_slow_17 : decode cX6_slow 17 = .ok (.ireturn, 1) := by decide +kernel
theorem dX6_slow_18 : decode cX6_slow 18 = .ok (.iload_n 1, 1) := by decide +kernel
theorem dX6_slow_19 : decode cX6_slow 19 = .ok (.iload_n 2, 1) := by decide +kernel
theorem dX6_slow_20 : decode cX6_slow 20 = .ok (.if_icmp .eq 13, 3) := by decide +kernel
theorem dX6_slow_23 : decode cX6_slow 23 = .ok (.iload_n 3, 1) := by decide +kernel
theorem dX6_slow_24 : decode cX6_slow 24 = .ok (.iconst 1, 1) := by decide +kernel
theorem dX6_slow_25 : decode cX6_slow 25 = .ok (.bipush 9, 2) := by decide +kernel
theorem dX6_slow_27 : decode cX6_slow 27 = .ok (.invokestatic 69, 3) := by decide +kernel
theorem dX6_slow_30 : decode cX6_slow 30 = .ok (.ifCond .ne 6, 3) := by decide +kernel
theorem dX6_slow_33 : decode cX6_slow 33 = .ok (.bipush (-2), 2) := by decide +kernel
theorem dX6_slow_35 : decode cX6_slow 35 = .ok (.ireturn, 1) := by decide +kernel
theorem dX6_slow_36 : decode cX6_slow 36 = .ok (.aload_n 0, 1) := by decide +kernel
theorem dX6_slow_37 : decode cX6_slow 37 = .ok (.getfield 7, 3) := by decide +kernel
theorem dX6_slow_40 : decode cX6_slow 40 = .ok (.iconst 5, 1) := by decide +kernel
theorem dX6_slow_41 : decode cX6_slow 41 = .ok (.bipush 9, 2) := by decide +kernel
theorem dX6_slow_43 : decode cX6_slow 43 = .ok (.iload_n 1, 1) := by decide +kernel
theorem dX6_slow_44 : decode cX6_slow 44 = .ok (.imul, 1) := by decide +kernel
theorem dX6_slow_45 : decode cX6_slow 45 = .ok (.iadd, 1) := by decide +kernel
theorem dX6_slow_46 : decode cX6_slow 46 = .ok (.iload_n 2, 1) := by decide +kernel
theorem dX6_slow_47 : decode cX6_slow 47 = .ok (.iadd, 1) := by decide +kernel
theorem dX6_slow_48 : decode cX6_slow 48 = .ok (.iaload, 1) := by decide +kernel
theorem dX6_slow_49 : decode cX6_slow 49 = .ok (.istore 4, 2) := by decide +kernel
theorem dX6_slow_51 : decode cX6_slow 51 = .ok (.aload_n 0, 1) := by decide +kernel
theorem dX6_slow_52 : decode cX6_slow 52 = .ok (.getfield 7, 3) := by decide +kernel
theorem dX6_slow_55 : decode cX6_slow 55 = .ok (.iconst 5, 1) := by decide +kernel
theorem dX6_slow_56 : decode cX6_slow 56 = .ok (.bipush 9, 2) := by decide +kernel
theorem dX6_slow_58 : decode cX6_slow 58 = .ok (.iload_n 1, 1) := by decide +kernel
theorem dX6_slow_59 : decode cX6_slow 59 = .ok (.imul, 1) := by decide +kernel
theorem dX6_slow_60 : decode cX6_slow 60 = .ok (.iadd, 1) := by decide +kernel
theorem dX6_slow_61 : decode cX6_slow 61 = .ok (.iload_n 2, 1) := by decide +kernel
theorem dX6_slow_62 : decode cX6_slow 62 = .ok (.iadd, 1) := by decide +kernel
theorem dX6_slow_63 : decode cX6_slow 63 = .ok (.iload_n 3, 1) := by decide +kernel
theorem dX6_slow_64 : decode cX6_slow 64 = .ok (.iastore, 1) := by decide +kernel
theorem dX6_slow_65 : decode cX6_slow 65 = .ok (.aload_n 0, 1) := by decide +kernel
theorem dX6_slow_66 : decode cX6_slow 66 = .ok (.getfield 7, 3) := by decide +kernel
theorem dX6_slow_69 : decode cX6_slow 69 = .ok (.iconst 5, 1) := by decide +kernel
theorem dX6_slow_70 : decode cX6_slow 70 = .ok (.bipush 9, 2) := by decide +kernel
theorem dX6_slow_72 : decode cX6_slow 72 = .ok (.iload_n 2, 1) := by decide +kernel
theorem dX6_slow_73 : decode cX6_slow 73 = .ok (.imul, 1) := by decide +kernel
theorem dX6_slow_74 : decode cX6_slow 74 = .ok (.iadd, 1) := by decide +kernel
theorem dX6_slow_75 : decode cX6_slow 75 = .ok (.iload_n 1, 1) := by decide +kernel
theorem dX6_slow_76 : decode cX6_slow 76 = .ok (.iadd, 1) := by decide +kernel
theorem dX6_slow_77 : decode cX6_slow 77 = .ok (.iload_n 3, 1) := by decide +kernel
theorem dX6_slow_78 : decode cX6_slow 78 = .ok (.iastore, 1) := by decide +kernel
theorem dX6_slow_79 : decode cX6_slow 79 = .ok (.iload 4, 2) := by decide +kernel
theorem dX6_slow_81 : decode cX6_slow 81 = .ok (.ireturn, 1) := by decide +kernel
theorem dX6_at_0 : decode cX6_at 0 = .ok (.aload_n 0, 1) := by decide +kernel
theorem dX6_at_1 : decode cX6_at 1 = .ok (.iload_n 1, 1) := by decide +kernel
theorem dX6_at_2 : decode cX6_at 2 = .ok (.invokevirtual 73, 3) := by decide +kernel
theorem dX6_at_5 : decode cX6_at 5 = .ok (.ifCond .ne 5, 3) := by decide +kernel
theorem dX6_at_8 : decode cX6_at 8 = .ok (.iconst (-1), 1) := by decide +kernel
theorem dX6_at_9 : decode cX6_at 9 = .ok (.ireturn, 1) := by decide +kernel
theorem dX6_at_10 : decode cX6_at 10 = .ok (.aload_n 0, 1) := by decide +kernel
theorem dX6_at_11 : decode cX6_at 11 = .ok (.iload_n 2, 1) := by decide +kernel
theorem dX6_at_12 : decode cX6_at 12 = .ok (.invokevirtual 77, 3) := by decide +kernel
theorem dX6_at_15 : decode cX6_at 15 = .ok (.ifCond .eq 19, 3) := by decide +kernel
theorem dX6_at_18 : decode cX6_at 18 = .ok (.aload_n 0, 1) := by decide +kernel
theorem dX6_at_19 : decode cX6_at 19 = .ok (.getfield 7, 3) := by decide +kernel
theorem dX6_at_22 : decode cX6_at 22 = .ok (.bipush 86, 2) := by decide +kernel
theorem dX6_at_24 : decode cX6_at 24 = .ok (.iload_n 1, 1) := by decide +kernel
theorem dX6_at_25 : decode cX6_at 25 = .ok (.iload_n 2, 1) := by decide +kernel
theorem dX6_at_26 : decode cX6_at 26 = .ok (.invokestatic 80, 3) := by decide +kernel
theorem dX6_at_29 : decode cX6_at 29 = .ok (.iadd, 1) := by decide +kernel
theorem dX6_at_30 : decode cX6_at 30 = .ok (.iaload, 1) := by decide +kernel
theorem dX6_at_31 : decode cX6_at 31 = .ok (.goto 5, 3) := by decide +kernel
theorem dX6_at_34 : decode cX6_at 34 = .ok (.bipush (-6), 2) := by decide +kernel
theorem dX6_at_36 : decode cX6_at 36 = .ok (.ireturn, 1) := by decide +kernel
theorem dX6_send_0 : decode cX6_send 0 = .ok (.aload_n 0, 1) := by decide +kernel
theorem dX6_send_1 : decode cX6_send 1 = .ok (.getfield 20, 3) := by decide +kernel
theorem dX6_send_4 : decode cX6_send 4 = .ok (.aload_n 0, 1) := by decide +kernel
theorem dX6_send_5 : decode cX6_send 5 = .ok (.getfield 84, 3) := by decide +kernel
theorem dX6_send_8 : decode cX6_send 8 = .ok (.aload_n 0, 1) := by decide +kernel
theorem dX6_send_9 : decode cX6_send 9 = .ok (.getfield 88, 3) := by decide +kernel
theorem dX6_send_12 : decode cX6_send 12 = .ok (.iastore, 1) := by decide +kernel
theorem dX6_send_13 : decode cX6_send 13 = .ok (.aload_n 0, 1) := by decide +kernel
theorem dX6_send_14 : decode cX6_send 14 = .ok (.getfield 23, 3) := by decide +kernel
theorem dX6_send_17 : decode cX6_send 17 = .ok (.aload_n 0, 1) := by decide +kernel
theorem dX6_send_18 : decode cX6_send 18 = .ok (.getfield 84, 3) := by decide +kernel
theorem dX6_send_21 : decode cX6_send 21 = .ok (.iload_n 1, 1) := by decide +kernel
theorem dX6_send_22 : decode cX6_send 22 = .ok (.iastore, 1) := by decide +kernel
theorem dX6_send_23 : decode cX6_send 23 = .ok (.aload_n 0, 1) := by decide +kernel
theorem dX6_send_24 : decode cX6_send 24 = .ok (.getfield 26, 3) := by decide +kernel
theorem dX6_send_27 : decode cX6_send 27 = .ok (.aload_n 0, 1) := by decide +kernel
theorem dX6_send_28 : decode cX6_send 28 = .ok (.getfield 84, 3) := by decide +kernel
theorem dX6_send_31 : decode cX6_send 31 = .ok (.iload_n 2, 1) := by decide +kernel
theorem dX6_send_32 : decode cX6_send 32 = .ok (.iastore, 1) := by decide +kernel
theorem dX6_send_33 : decode cX6_send 33 = .ok (.aload_n 0, 1) := by decide +kernel
theorem dX6_send_34 : decode cX6_send 34 = .ok (.getfield 29, 3) := by decide +kernel
theorem dX6_send_37 : decode cX6_send 37 = .ok (.aload_n 0, 1) := by decide +kernel
theorem dX6_send_38 : decode cX6_send 38 = .ok (.getfield 84, 3) := by decide +kernel
theorem dX6_send_41 : decode cX6_send 41 = .ok (.iload_n 3, 1) := by decide +kernel
theorem dX6_send_42 : decode cX6_send 42 = .ok (.iastore, 1) := by decide +kernel
theorem dX6_send_43 : decode cX6_send 43 = .ok (.aload_n 0, 1) := by decide +kernel
theorem dX6_send_44 : decode cX6_send 44 = .ok (.getfield 32, 3) := by decide +kernel
theorem dX6_send_47 : decode cX6_send 47 = .ok (.aload_n 0, 1) := by decide +kernel
theorem dX6_send_48 : decode cX6_send 48 = .ok (.getfield 84, 3) := by decide +kernel
theorem dX6_send_51 : decode cX6_send 51 = .ok (.iload 4, 2) := by decide +kernel
theorem dX6_send_53 : decode cX6_send 53 = .ok (.iastore, 1) := by decide +kernel
theorem dX6_send_54 : decode cX6_send 54 = .ok (.aload_n 0, 1) := by decide +kernel
theorem dX6_send_55 : decode cX6_send 55 = .ok (.getfield 35, 3) := by decide +kernel
theorem dX6_send_58 : decode cX6_send 58 = .ok (.aload_n 0, 1) := by decide +kernel
theorem dX6_send_59 : decode cX6_send 59 = .ok (.getfield 84, 3) := by decide +kernel
theorem dX6_send_62 : decode cX6_send 62 = .ok (.iload 5, 2) := by decide +kernel
theorem dX6_send_64 : decode cX6_send 64 = .ok (.iastore, 1) := by decide +kernel
theorem dX6_send_65 : decode cX6_send 65 = .ok (.aload_n 0, 1) := by decide +kernel
theorem dX6_send_66 : decode cX6_send 66 = .ok (.dup, 1) := by decide +kernel
theorem dX6_send_67 : decode cX6_send 67 = .ok (.getfield 84, 3) := by decide +kernel
theorem dX6_send_70 : decode cX6_send 70 = .ok (.iconst 1, 1) := by decide +kernel
theorem dX6_send_71 : decode cX6_send 71 = .ok (.iadd, 1) := by decide +kernel
theorem dX6_send_72 : decode cX6_send 72 = .ok (.putfield 84, 3) := by decide +kernel
theorem dX6_send_75 : decode cX6_send 75 = .ok (.return_, 1) := by decide +kernel
theorem dX6_sendPart_0 : decode cX6_sendPart 0 = .ok (.aload_n 0, 1) := by decide +kernel
theorem dX6_sendPart_1 : decode cX6_sendPart 1 = .ok (.getfield 7, 3) := by decide +kernel
theorem dX6_sendPart_4 : decode cX6_sendPart 4 = .ok (.iconst 0, 1) := by decide +kernel
theorem dX6_sendPart_5 : decode cX6_sendPart 5 = .ok (.iaload, 1) := by decide +kernel
theorem dX6_sendPart_6 : decode cX6_sendPart 6 = .ok (.istore 5, 2) := by decide +kernel
theorem dX6_sendPart_8 : decode cX6_sendPart 8 = .ok (.iload_n 2, 1) := by decide +kernel
theorem dX6_sendPart_9 : decode cX6_sendPart 9 = .ok (.iload 5, 2) := by decide +kernel
theorem dX6_sendPart_11 : decode cX6_sendPart 11 = .ok (.irem, 1) := by decide +kernel
theorem dX6_sendPart_12 : decode cX6_sendPart 12 = .ok (.iload 5, 2) := by decide +kernel
theorem dX6_sendPart_14 : decode cX6_sendPart 14 = .ok (.iadd, 1) := by decide +kernel
theorem dX6_sendPart_15 : decode cX6_sendPart 15 = .ok (.iload 5, 2) := by decide +kernel
theorem dX6_sendPart_17 : decode cX6_sendPart 17 = .ok (.irem, 1) := by decide +kernel
theorem dX6_sendPart_18 : decode cX6_sendPart 18 = .ok (.istore 6, 2) := by decide +kernel
theorem dX6_sendPart_20 : decode cX6_sendPart 20 = .ok (.iload_n 3, 1) := by decide +kernel
theorem dX6_sendPart_21 : decode cX6_sendPart 21 = .ok (.iload 6, 2) := by decide +kernel
theorem dX6_sendPart_23 : decode cX6_sendPart 23 = .ok (.imul, 1) := by decide +kernel
theorem dX6_sendPart_24 : decode cX6_sendPart 24 = .ok (.iload 5, 2) := by decide +kernel
theorem dX6_sendPart_26 : decode cX6_sendPart 26 = .ok (.idiv, 1) := by decide +kernel
theorem dX6_sendPart_27 : decode cX6_sendPart 27 = .ok (.istore 7, 2) := by decide +kernel
theorem dX6_sendPart_29 : decode cX6_sendPart 29 = .ok (.aload_n 0, 1) := by decide +kernel
theorem dX6_sendPart_30 : decode cX6_sendPart 30 = .ok (.iload_n 1, 1) := by decide +kernel
theorem dX6_sendPart_31 : decode cX6_sendPart 31 = .ok (.iload_n 1, 1) := by decide +kernel
theorem dX6_sendPart_32 : decode cX6_sendPart 32 = .ok (.iconst 1, 1) := by decide +kernel
theorem dX6_sendPart_33 : decode cX6_sendPart 33 = .ok (.iadd, 1) := by decide +kernel
theorem dX6_sendPart_34 : decode cX6_sendPart 34 = .ok (.iload 5, 2) := by decide +kernel
theorem dX6_sendPart_36 : decode cX6_sendPart 36 = .ok (.irem, 1) := by decide +kernel
theorem dX6_sendPart_37 : decode cX6_sendPart 37 = .ok (.iload 7, 2) := by decide +kernel
theorem dX6_sendPart_39 : decode cX6_sendPart 39 = .ok (.iload_n 3, 1) := by decide +kernel
theorem dX6_sendPart_40 : decode cX6_sendPart 40 = .ok (.iload 6, 2) := by decide +kernel
theorem dX6_sendPart_42 : decode cX6_sendPart 42 = .ok (.iconst 1, 1) := by decide +kernel
theorem dX6_sendPart_43 : decode cX6_sendPart 43 = .ok (.iadd, 1) := by decide +kernel
theorem dX6_sendPart_44 : decode cX6_sendPart 44 = .ok (.imul, 1) := by decide +kernel
theorem dX6_sendPart_45 : decode cX6_sendPart 45 = .ok (.iload 5, 2) := by decide +kernel
theorem dX6_sendPart_47 : decode cX6_sendPart 47 = .ok (.idiv, 1) := by decide +kernel
theorem dX6_sendPart_48 : decode cX6_sendPart 48 = .ok (.iload 7, 2) := by decide +kernel
theorem dX6_sendPart_50 : decode cX6_sendPart 50 = .ok (.isub, 1) := by decide +kernel
theorem dX6_sendPart_51 : decode cX6_sendPart 51 = .ok (.iload 4, 2) := by decide +kernel
theorem dX6_sendPart_53 : decode cX6_sendPart 53 = .ok (.invokevirtual 91, 3) := by decide +kernel
theorem dX6_sendPart_56 : decode cX6_sendPart 56 = .ok (.return_, 1) := by decide +kernel
theorem dX6_layRing_0 : decode cX6_layRing 0 = .ok (.aload_n 0, 1) := by decide +kernel
theorem dX6_layRing_1 : decode cX6_layRing 1 = .ok (.getfield 7, 3) := by decide +kernel
theorem dX6_layRing_4 : decode cX6_layRing 4 = .ok (.iconst 0, 1) := by decide +kernel
theorem dX6_layRing_5 : decode cX6_layRing 5 = .ok (.iaload, 1) := by decide +kernel
theorem dX6_layRing_6 : decode cX6_layRing 6 = .ok (.istore_n 2, 1) := by decide +kernel
theorem dX6_layRing_7 : decode cX6_layRing 7 = .ok (.iconst 0, 1) := by decide +kernel
theorem dX6_layRing_8 : decode cX6_layRing 8 = .ok (.istore_n 3, 1) := by decide +kernel
theorem dX6_layRing_9 : decode cX6_layRing 9 = .ok (.iload_n 3, 1) := by decide +kernel
theorem dX6_layRing_10 : decode cX6_layRing 10 = .ok (.iload_n 2, 1) := by decide +kernel
theorem dX6_layRing_11 : decode cX6_layRing 11 = .ok (.iconst 1, 1) := by decide +kernel
theorem dX6_layRing_12 : decode cX6_layRing 12 = .ok (.isub, 1) := by decide +kernel
theorem dX6_layRing_13 : decode cX6_layRing 13 = .ok (.if_icmp .ge 46, 3) := by decide +kernel
theorem dX6_layRing_16 : decode cX6_layRing 16 = .ok (.iconst 0, 1) := by decide +kernel
theorem dX6_layRing_17 : decode cX6_layRing 17 = .ok (.istore 4, 2) := by decide +kernel
theorem dX6_layRing_19 : decode cX6_layRing 19 = .ok (.iload 4, 2) := by decide +kernel
theorem dX6_layRing_21 : decode cX6_layRing 21 = .ok (.iload_n 2, 1) := by decide +kernel
theorem dX6_layRing_22 : decode cX6_layRing 22 = .ok (.if_icmp .ge 21, 3) := by decide +kernel
theorem dX6_layRing_25 : decode cX6_layRing 25 = .ok (.aload_n 0, 1) := by decide +kernel
theorem dX6_layRing_26 : decode cX6_layRing 26 = .ok (.iload 4, 2) := by decide +kernel
theorem dX6_layRing_28 : decode cX6_layRing 28 = .ok (.iload 4, 2) := by decide +kernel
theorem dX6_layRing_30 : decode cX6_layRing 30 = .ok (.iload_n 3, 1) := by decide +kernel
theorem dX6_layRing_31 : decode cX6_layRing 31 = .ok (.isub, 1) := by decide +kernel
theorem dX6_layRing_32 : decode cX6_layRing 32 = .ok (.iload_n 1, 1) := by decide +kernel
theorem dX6_layRing_33 : decode cX6_layRing 33 = .ok (.iconst 1, 1) := by decide +kernel
theorem dX6_layRing_34 : decode cX6_layRing 34 = .ok (.invokevirtual 95, 3) := by decide +kernel
theorem dX6_layRing_37 : decode cX6_layRing 37 = .ok (.iinc 4 1, 3) := by decide +kernel
theorem dX6_layRing_40 : decode cX6_layRing 40 = .ok (.goto (-21), 3) := by decide +kernel
theorem dX6_layRing_43 : decode cX6_layRing 43 = .ok (.aload_n 0, 1) := by decide +kernel
theorem dX6_layRing_44 : decode cX6_layRing 44 = .ok (.dup, 1) := by decide +kernel
theorem dX6_layRing_45 : decode cX6_layRing 45 = .ok (.getfield 88, 3) := by decide +kernel
theorem dX6_layRing_48 : decode cX6_layRing 48 = .ok (.iconst 1, 1) := by decide +kernel
theorem dX6_layRing_49 : decode cX6_layRing 49 = .ok (.iadd, 1) := by decide +kernel
theorem dX6_layRing_50 : decode cX6_layRing 50 = .ok (.putfield 88, 3) := by decide +kernel
theorem dX6_layRing_53 : decode cX6_layRing 53 = .ok (.iinc 3 1, 3) := by decide +kernel
theorem dX6_layRing_56 : decode cX6_layRing 56 = .ok (.goto (-47), 3) := by decide +kernel
theorem dX6_layRing_59 : decode cX6_layRing 59 = .ok (.iconst 0, 1) := by decide +kernel
theorem dX6_layRing_60 : decode cX6_layRing 60 = .ok (.istore_n 3, 1) := by decide +kernel
theorem dX6_layRing_61 : decode cX6_layRing 61 = .ok (.iload_n 3, 1) := by decide +kernel
theorem dX6_layRing_62 : decode cX6_layRing 62 = .ok (.iload_n 2, 1) := by decide +kernel
theorem dX6_layRing_63 : decode cX6_layRing 63 = .ok (.iconst 1, 1) := by decide +kernel
theorem dX6_layRing_64 : decode cX6_layRing 64 = .ok (.isub, 1) := by decide +kernel
theorem dX6_layRing_65 : decode cX6_layRing 65 = .ok (.if_icmp .ge 48, 3) := by decide +kernel
theorem dX6_layRing_68 : decode cX6_layRing 68 = .ok (.iconst 0, 1) := by decide +kernel
theorem dX6_layRing_69 : decode cX6_layRing 69 = .ok (.istore 4, 2) := by decide +kernel
theorem dX6_layRing_71 : decode cX6_layRing 71 = .ok (.iload 4, 2) := by decide +kernel
theorem dX6_layRing_73 : decode cX6_layRing 73 = .ok (.iload_n 2, 1) := by decide +kernel
theorem dX6_layRing_74 : decode cX6_layRing 74 = .ok (.if_icmp .ge 23, 3) := by decide +kernel
theorem dX6_layRing_77 : decode cX6_layRing 77 = .ok (.aload_n 0, 1) := by decide +kernel
theorem dX6_layRing_78 : decode cX6_layRing 78 = .ok (.iload 4, 2) := by decide +kernel
theorem dX6_layRing_80 : decode cX6_layRing 80 = .ok (.iload 4, 2) := by decide +kernel
theorem dX6_layRing_82 : decode cX6_layRing 82 = .ok (.iconst 1, 1) := by decide +kernel
theorem dX6_layRing_83 : decode cX6_layRing 83 = .ok (.iadd, 1) := by decide +kernel
theorem dX6_layRing_84 : decode cX6_layRing 84 = .ok (.iload_n 3, 1) := by decide +kernel
theorem dX6_layRing_85 : decode cX6_layRing 85 = .ok (.isub, 1) := by decide +kernel
theorem dX6_layRing_86 : decode cX6_layRing 86 = .ok (.iload_n 1, 1) := by decide +kernel
theorem dX6_layRing_87 : decode cX6_layRing 87 = .ok (.iconst 2, 1) := by decide +kernel
theorem dX6_layRing_88 : decode cX6_layRing 88 = .ok (.invokevirtual 95, 3) := by decide +kernel
theorem dX6_layRing_91 : decode cX6_layRing 91 = .ok (.iinc 4 1, 3) := by decide +kernel
theorem dX6_layRing_94 : decode cX6_layRing 94 = .ok (.goto (-23), 3) := by decide +kernel
theorem dX6_layRing_97 : decode cX6_layRing 97 = .ok (.aload_n 0, 1) := by decide +kernel
theorem dX6_layRing_98 : decode cX6_layRing 98 = .ok (.dup, 1) := by decide +kernel
theorem dX6_layRing_99 : decode cX6_layRing 99 = .ok (.getfield 88, 3) := by decide +kernel
theorem dX6_layRing_102 : decode cX6_layRing 102 = .ok (.iconst 1, 1) := by decide +kernel
theorem dX6_layRing_103 : decode cX6_layRing 103 = .ok (.iadd, 1) := by decide +kernel
theorem dX6_layRing_104 : decode cX6_layRing 104 = .ok (.putfield 88, 3) := by decide +kernel
theorem dX6_layRing_107 : decode cX6_layRing 107 = .ok (.iinc 3 1, 3) := by decide +kernel
theorem dX6_layRing_110 : decode cX6_layRing 110 = .ok (.goto (-49), 3) := by decide +kernel
theorem dX6_layRing_113 : decode cX6_layRing 113 = .ok (.return_, 1) := by decide +kernel
theorem dX6_takeNext_0 : decode cX6_takeNext 0 = .ok (.iconst 0, 1) := by decide +kernel
theorem dX6_takeNext_1 : decode cX6_takeNext 1 = .ok (.istore_n 2, 1) := by decide +kernel
theorem dX6_takeNext_2 : decode cX6_takeNext 2 = .ok (.iload_n 2, 1) := by decide +kernel
theorem dX6_takeNext_3 : decode cX6_takeNext 3 = .ok (.iload_n 1, 1) := by decide +kernel
theorem dX6_takeNext_4 : decode cX6_takeNext 4 = .ok (.if_icmp .ge 33, 3) := by decide +kernel
theorem dX6_takeNext_7 : decode cX6_takeNext 7 = .ok (.aload_n 0, 1) := by decide +kernel
theorem dX6_takeNext_8 : decode cX6_takeNext 8 = .ok (.getfield 38, 3) := by decide +kernel
theorem dX6_takeNext_11 : decode cX6_takeNext 11 = .ok (.iload_n 2, 1) := by decide +kernel
theorem dX6_takeNext_12 : decode cX6_takeNext 12 = .ok (.aload_n 0, 1) := by decide +kernel
theorem dX6_takeNext_13 : decode cX6_takeNext 13 = .ok (.getfield 44, 3) := by decide +kernel
theorem dX6_takeNext_16 : decode cX6_takeNext 16 = .ok (.iload_n 2, 1) := by decide +kernel
theorem dX6_takeNext_17 : decode cX6_takeNext 17 = .ok (.iaload, 1) := by decide +kernel
theorem dX6_takeNext_18 : decode cX6_takeNext 18 = .ok (.iastore, 1) := by decide +kernel
theorem dX6_takeNext_19 : decode cX6_takeNext 19 = .ok (.aload_n 0, 1) := by decide +kernel
theorem dX6_takeNext_20 : decode cX6_takeNext 20 = .ok (.getfield 41, 3) := by decide +kernel
theorem dX6_takeNext_23 : decode cX6_takeNext 23 = .ok (.iload_n 2, 1) := by decide +kernel
theorem dX6_takeNext_24 : decode cX6_takeNext 24 = .ok (.aload_n 0, 1) := by decide +kernel
theorem dX6_takeNext_25 : decode cX6_takeNext 25 = .ok (.getfield 47, 3) := by decide +kernel
theorem dX6_takeNext_28 : decode cX6_takeNext 28 = .ok (.iload_n 2, 1) := by decide +kernel
theorem dX6_takeNext_29 : decode cX6_takeNext 29 = .ok (.iaload, 1) := by decide +kernel
theorem dX6_takeNext_30 : decode cX6_takeNext 30 = .ok (.iastore, 1) := by decide +kernel
theorem dX6_takeNext_31 : decode cX6_takeNext 31 = .ok (.iinc 2 1, 3) := by decide +kernel
theorem dX6_takeNext_34 : decode cX6_takeNext 34 = .ok (.goto (-32), 3) := by decide +kernel
theorem dX6_takeNext_37 : decode cX6_takeNext 37 = .ok (.aload_n 0, 1) := by decide +kernel
theorem dX6_takeNext_38 : decode cX6_takeNext 38 = .ok (.dup, 1) := by decide +kernel
theorem dX6_takeNext_39 : decode cX6_takeNext 39 = .ok (.getfield 88, 3) := by decide +kernel
theorem dX6_takeNext_42 : decode cX6_takeNext 42 = .ok (.iconst 1, 1) := by decide +kernel
theorem dX6_takeNext_43 : decode cX6_takeNext 43 = .ok (.iadd, 1) := by decide +kernel
theorem dX6_takeNext_44 : decode cX6_takeNext 44 = .ok (.putfield 88, 3) := by decide +kernel
theorem dX6_takeNext_47 : decode cX6_takeNext 47 = .ok (.return_, 1) := by decide +kernel
theorem dX6_halve_0 : decode cX6_halve 0 = .ok (.iconst 0, 1) := by decide +kernel
theorem dX6_halve_1 : decode cX6_halve 1 = .ok (.istore_n 3, 1) := by decide +kernel
theorem dX6_halve_2 : decode cX6_halve 2 = .ok (.iload_n 3, 1) := by decide +kernel
theorem dX6_halve_3 : decode cX6_halve 3 = .ok (.iload_n 1, 1) := by decide +kernel
theorem dX6_halve_4 : decode cX6_halve 4 = .ok (.if_icmp .ge 146, 3) := by decide +kernel
theorem dX6_halve_7 : decode cX6_halve 7 = .ok (.iload_n 3, 1) := by decide +kernel
theorem dX6_halve_8 : decode cX6_halve 8 = .ok (.iload_n 2, 1) := by decide +kernel
theorem dX6_halve_9 : decode cX6_halve 9 = .ok (.iand, 1) := by decide +kernel
theorem dX6_halve_10 : decode cX6_halve 10 = .ok (.ifCond .eq 7, 3) := by decide +kernel
theorem dX6_halve_13 : decode cX6_halve 13 = .ok (.iconst 1, 1) := by decide +kernel
theorem dX6_halve_14 : decode cX6_halve 14 = .ok (.goto 4, 3) := by decide +kernel
theorem dX6_halve_17 : decode cX6_halve 17 = .ok (.iconst 0, 1) := by decide +kernel
theorem dX6_halve_18 : decode cX6_halve 18 = .ok (.istore 4, 2) := by decide +kernel
theorem dX6_halve_20 : decode cX6_halve 20 = .ok (.aload_n 0, 1) := by decide +kernel
theorem dX6_halve_21 : decode cX6_halve 21 = .ok (.getfield 41, 3) := by decide +kernel
theorem dX6_halve_24 : decode cX6_halve 24 = .ok (.iload_n 3, 1) := by decide +kernel
theorem dX6_halve_25 : decode cX6_halve 25 = .ok (.iaload, 1) := by decide +kernel
theorem dX6_halve_26 : decode cX6_halve 26 = .ok (.iconst 2, 1) := by decide +kernel
theorem dX6_halve_27 : decode cX6_halve 27 = .ok (.idiv, 1) := by decide +kernel
theorem dX6_halve_28 : decode cX6_halve 28 = .ok (.istore 5, 2) := by decide +kernel
theorem dX6_halve_30 : decode cX6_halve 30 = .ok (.aload_n 0, 1) := by decide +kernel
theorem dX6_halve_31 : decode cX6_halve 31 = .ok (.getfield 44, 3) := by decide +kernel
theorem dX6_halve_34 : decode cX6_halve 34 = .ok (.iload_n 3, 1) := by decide +kernel
theorem dX6_halve_35 : decode cX6_halve 35 = .ok (.iload 4, 2) := by decide +kernel
theorem dX6_halve_37 : decode cX6_halve 37 = .ok (.ifCond .eq 15, 3) := by decide +kernel
theorem dX6_halve_40 : decode cX6_halve 40 = .ok (.aload_n 0, 1) := by decide +kernel
theorem dX6_halve_41 : decode cX6_halve 41 = .ok (.getfield 38, 3) := by decide +kernel
theorem dX6_halve_44 : decode cX6_halve 44 = .ok (.iload_n 3, 1) := by decide +kernel
theorem dX6_halve_45 : decode cX6_halve 45 = .ok (.iaload, 1) := by decide +kernel
theorem dX6_halve_46 : decode cX6_halve 46 = .ok (.iload 5, 2) := by decide +kernel
theorem dX6_halve_48 : decode cX6_halve 48 = .ok (.iadd, 1) := by decide +kernel
theorem dX6_halve_49 : decode cX6_halve 49 = .ok (.goto 9, 3) := by decide +kernel
theorem dX6_halve_52 : decode cX6_halve 52 = .ok (.aload_n 0, 1) := by decide +kernel
theorem dX6_halve_53 : decode cX6_halve 53 = .ok (.getfield 38, 3) := by decide +kernel
theorem dX6_halve_56 : decode cX6_halve 56 = .ok (.iload_n 3, 1) := by decide +kernel
theorem dX6_halve_57 : decode cX6_halve 57 = .ok (.iaload, 1) := by decide +kernel
theorem dX6_halve_58 : decode cX6_halve 58 = .ok (.iastore, 1) := by decide +kernel
theorem dX6_halve_59 : decode cX6_halve 59 = .ok (.aload_n 0, 1) := by decide +kernel
theorem dX6_halve_60 : decode cX6_halve 60 = .ok (.getfield 47, 3) := by decide +kernel
theorem dX6_halve_63 : decode cX6_halve 63 = .ok (.iload_n 3, 1) := by decide +kernel
theorem dX6_halve_64 : decode cX6_halve 64 = .ok (.iload 4, 2) := by decide +kernel
theorem dX6_halve_66 : decode cX6_halve 66 = .ok (.ifCond .eq 15, 3) := by decide +kernel
theorem dX6_halve_69 : decode cX6_halve 69 = .ok (.aload_n 0, 1) := by decide +kernel
theorem dX6_halve_70 : decode cX6_halve 70 = .ok (.getfield 41, 3) := by decide +kernel
theorem dX6_halve_73 : decode cX6_halve 73 = .ok (.iload_n 3, 1) := by decide +kernel
theorem dX6_halve_74 : decode cX6_halve 74 = .ok (.iaload, 1) := by decide +kernel
theorem dX6_halve_75 : decode cX6_halve 75 = .ok (.iload 5, 2) := by decide +kernel
theorem dX6_halve_77 : decode cX6_halve 77 = .ok (.isub, 1) := by decide +kernel
theorem dX6_halve_78 : decode cX6_halve 78 = .ok (.goto 5, 3) := by decide +kernel
theorem dX6_halve_81 : decode cX6_halve 81 = .ok (.iload 5, 2) := by decide +kernel
theorem dX6_halve_83 : decode cX6_halve 83 = .ok (.iastore, 1) := by decide +kernel
theorem dX6_halve_84 : decode cX6_halve 84 = .ok (.aload_n 0, 1) := by decide +kernel
theorem dX6_halve_85 : decode cX6_halve 85 = .ok (.iload_n 3, 1) := by decide +kernel
theorem dX6_halve_86 : decode cX6_halve 86 = .ok (.iload_n 3, 1) := by decide +kernel
theorem dX6_halve_87 : decode cX6_halve 87 = .ok (.iload_n 2, 1) := by decide +kernel
theorem dX6_halve_88 : decode cX6_halve 88 = .ok (.ixor, 1) := by decide +kernel
theorem dX6_halve_89 : decode cX6_halve 89 = .ok (.iload 4, 2) := by decide +kernel
theorem dX6_halve_91 : decode cX6_halve 91 = .ok (.ifCond .eq 12, 3) := by decide +kernel
theorem dX6_halve_94 : decode cX6_halve 94 = .ok (.aload_n 0, 1) := by decide +kernel
theorem dX6_halve_95 : decode cX6_halve 95 = .ok (.getfield 38, 3) := by decide +kernel
theorem dX6_halve_98 : decode cX6_halve 98 = .ok (.iload_n 3, 1) := by decide +kernel
theorem dX6_halve_99 : decode cX6_halve 99 = .ok (.iaload, 1) := by decide +kernel
theorem dX6_halve_100 : decode cX6_halve 100 = .ok (.goto 12, 3) := by decide +kernel
theorem dX6_halve_103 : decode cX6_halve 103 = .ok (.aload_n 0, 1) := by decide +kernel
theorem dX6_halve_104 : decode cX6_halve 104 = .ok (.getfield 38, 3) := by decide +kernel
theorem dX6_halve_107 : decode cX6_halve 107 = .ok (.iload_n 3, 1) := by decide +kernel
theorem dX6_halve_108 : decode cX6_halve 108 = .ok (.iaload, 1) := by decide +kernel
theorem dX6_halve_109 : decode cX6_halve 109 = .ok (.iload 5, 2) := by decide +kernel
theorem dX6_halve_111 : decode cX6_halve 111 = .ok (.iadd, 1) := by decide +kernel
theorem dX6_halve_112 : decode cX6_halve 112 = .ok (.iload 4, 2) := by decide +kernel
theorem dX6_halve_114 : decode cX6_halve 114 = .ok (.ifCond .eq 8, 3) := by decide +kernel
theorem dX6_halve_117 : decode cX6_halve 117 = .ok (.iload 5, 2) := by decide +kernel
theorem dX6_halve_119 : decode cX6_halve 119 = .ok (.goto 12, 3) := by decide +kernel
theorem dX6_halve_122 : decode cX6_halve 122 = .ok (.aload_n 0, 1) := by decide +kernel
theorem dX6_halve_123 : decode cX6_halve 123 = .ok (.getfield 41, 3) := by decide +kernel
theorem dX6_halve_126 : decode cX6_halve 126 = .ok (.iload_n 3, 1) := by decide +kernel
theorem dX6_halve_127 : decode cX6_halve 127 = .ok (.iaload, 1) := by decide +kernel
theorem dX6_halve_128 : decode cX6_halve 128 = .ok (.iload 5, 2) := by decide +kernel
theorem dX6_halve_130 : decode cX6_halve 130 = .ok (.isub, 1) := by decide +kernel
theorem dX6_halve_131 : decode cX6_halve 131 = .ok (.iload 4, 2) := by decide +kernel
theorem dX6_halve_133 : decode cX6_halve 133 = .ok (.ifCond .eq 7, 3) := by decide +kernel
theorem dX6_halve_136 : decode cX6_halve 136 = .ok (.iconst 0, 1) := by decide +kernel
theorem dX6_halve_137 : decode cX6_halve 137 = .ok (.goto 4, 3) := by decide +kernel
theorem dX6_halve_140 : decode cX6_halve 140 = .ok (.iconst 1, 1) := by decide +kernel
theorem dX6_halve_141 : decode cX6_halve 141 = .ok (.invokevirtual 91, 3) := by decide +kernel
theorem dX6_halve_144 : decode cX6_halve 144 = .ok (.iinc 3 1, 3) := by decide +kernel
theorem dX6_halve_147 : decode cX6_halve 147 = .ok (.goto (-145), 3) := by decide +kernel
theorem dX6_halve_150 : decode cX6_halve 150 = .ok (.aload_n 0, 1) := by decide +kernel
theorem dX6_halve_151 : decode cX6_halve 151 = .ok (.iload_n 1, 1) := by decide +kernel
theorem dX6_halve_152 : decode cX6_halve 152 = .ok (.invokevirtual 99, 3) := by decide +kernel
theorem dX6_halve_155 : decode cX6_halve 155 = .ok (.return_, 1) := by decide +kernel
theorem dX6_doubleUp_0 : decode cX6_doubleUp 0 = .ok (.iconst 0, 1) := by decide +kernel
theorem dX6_doubleUp_1 : decode cX6_doubleUp 1 = .ok (.istore_n 3, 1) := by decide +kernel
theorem dX6_doubleUp_2 : decode cX6_doubleUp 2 = .ok (.iload_n 3, 1) := by decide +kernel
theorem dX6_doubleUp_3 : decode cX6_doubleUp 3 = .ok (.iload_n 1, 1) := by decide +kernel
theorem dX6_doubleUp_4 : decode cX6_doubleUp 4 = .ok (.if_icmp .ge 67, 3) := by decide +kernel
theorem dX6_doubleUp_7 : decode cX6_doubleUp 7 = .ok (.aload_n 0, 1) := by decide +kernel
theorem dX6_doubleUp_8 : decode cX6_doubleUp 8 = .ok (.getfield 44, 3) := by decide +kernel
theorem dX6_doubleUp_11 : decode cX6_doubleUp 11 = .ok (.iload_n 3, 1) := by decide +kernel
theorem dX6_doubleUp_12 : decode cX6_doubleUp 12 = .ok (.aload_n 0, 1) := by decide +kernel
theorem dX6_doubleUp_13 : decode cX6_doubleUp 13 = .ok (.getfield 38, 3) := by decide +kernel
theorem dX6_doubleUp_16 : decode cX6_doubleUp 16 = .ok (.iload_n 3, 1) := by decide +kernel
theorem dX6_doubleUp_17 : decode cX6_doubleUp 17 = .ok (.iload_n 2, 1) := by decide +kernel
theorem dX6_doubleUp_18 : decode cX6_doubleUp 18 = .ok (.iconst (-1), 1) := by decide +kernel
theorem dX6_doubleUp_19 : decode cX6_doubleUp 19 = .ok (.ixor, 1) := by decide +kernel
theorem dX6_doubleUp_20 : decode cX6_doubleUp 20 = .ok (.iand, 1) := by decide +kernel
theorem dX6_doubleUp_21 : decode cX6_doubleUp 21 = .ok (.iaload, 1) := by decide +kernel
theorem dX6_doubleUp_22 : decode cX6_doubleUp 22 = .ok (.iastore, 1) := by decide +kernel
theorem dX6_doubleUp_23 : decode cX6_doubleUp 23 = .ok (.aload_n 0, 1) := by decide +kernel
theorem dX6_doubleUp_24 : decode cX6_doubleUp 24 = .ok (.getfield 47, 3) := by decide +kernel
theorem dX6_doubleUp_27 : decode cX6_doubleUp 27 = .ok (.iload_n 3, 1) := by decide +kernel
theorem dX6_doubleUp_28 : decode cX6_doubleUp 28 = .ok (.aload_n 0, 1) := by decide +kernel
theorem dX6_doubleUp_29 : decode cX6_doubleUp 29 = .ok (.getfield 41, 3) := by decide +kernel
theorem dX6_doubleUp_32 : decode cX6_doubleUp 32 = .ok (.iload_n 3, 1) := by decide +kernel
theorem dX6_doubleUp_33 : decode cX6_doubleUp 33 = .ok (.iaload, 1) := by decide +kernel
theorem dX6_doubleUp_34 : decode cX6_doubleUp 34 = .ok (.aload_n 0, 1) := by decide +kernel
theorem dX6_doubleUp_35 : decode cX6_doubleUp 35 = .ok (.getfield 41, 3) := by decide +kernel
theorem dX6_doubleUp_38 : decode cX6_doubleUp 38 = .ok (.iload_n 3, 1) := by decide +kernel
theorem dX6_doubleUp_39 : decode cX6_doubleUp 39 = .ok (.iload_n 2, 1) := by decide +kernel
theorem dX6_doubleUp_40 : decode cX6_doubleUp 40 = .ok (.ixor, 1) := by decide +kernel
theorem dX6_doubleUp_41 : decode cX6_doubleUp 41 = .ok (.iaload, 1) := by decide +kernel
theorem dX6_doubleUp_42 : decode cX6_doubleUp 42 = .ok (.iadd, 1) := by decide +kernel
theorem dX6_doubleUp_43 : decode cX6_doubleUp 43 = .ok (.iastore, 1) := by decide +kernel
theorem dX6_doubleUp_44 : decode cX6_doubleUp 44 = .ok (.aload_n 0, 1) := by decide +kernel
theorem dX6_doubleUp_45 : decode cX6_doubleUp 45 = .ok (.iload_n 3, 1) := by decide +kernel
theorem dX6_doubleUp_46 : decode cX6_doubleUp 46 = .ok (.iload_n 3, 1) := by decide +kernel
theorem dX6_doubleUp_47 : decode cX6_doubleUp 47 = .ok (.iload_n 2, 1) := by decide +kernel
theorem dX6_doubleUp_48 : decode cX6_doubleUp 48 = .ok (.ixor, 1) := by decide +kernel
theorem dX6_doubleUp_49 : decode cX6_doubleUp 49 = .ok (.aload_n 0, 1) := by decide +kernel
theorem dX6_doubleUp_50 : decode cX6_doubleUp 50 = .ok (.getfield 38, 3) := by decide +kernel
theorem dX6_doubleUp_53 : decode cX6_doubleUp 53 = .ok (.iload_n 3, 1) := by decide +kernel
theorem dX6_doubleUp_54 : decode cX6_doubleUp 54 = .ok (.iaload, 1) := by decide +kernel
theorem dX6_doubleUp_55 : decode cX6_doubleUp 55 = .ok (.aload_n 0, 1) := by decide +kernel
theorem dX6_doubleUp_56 : decode cX6_doubleUp 56 = .ok (.getfield 41, 3) := by decide +kernel
theorem dX6_doubleUp_59 : decode cX6_doubleUp 59 = .ok (.iload_n 3, 1) := by decide +kernel
theorem dX6_doubleUp_60 : decode cX6_doubleUp 60 = .ok (.iaload, 1) := by decide +kernel
theorem dX6_doubleUp_61 : decode cX6_doubleUp 61 = .ok (.iconst 2, 1) := by decide +kernel
theorem dX6_doubleUp_62 : decode cX6_doubleUp 62 = .ok (.invokevirtual 91, 3) := by decide +kernel
theorem dX6_doubleUp_65 : decode cX6_doubleUp 65 = .ok (.iinc 3 1, 3) := by decide +kernel
theorem dX6_doubleUp_68 : decode cX6_doubleUp 68 = .ok (.goto (-66), 3) := by decide +kernel
theorem dX6_doubleUp_71 : decode cX6_doubleUp 71 = .ok (.aload_n 0, 1) := by decide +kernel
theorem dX6_doubleUp_72 : decode cX6_doubleUp 72 = .ok (.iload_n 1, 1) := by decide +kernel
theorem dX6_doubleUp_73 : decode cX6_doubleUp 73 = .ok (.invokevirtual 99, 3) := by decide +kernel
theorem dX6_doubleUp_76 : decode cX6_doubleUp 76 = .ok (.return_, 1) := by decide +kernel
theorem dX6_layHalves_0 : decode cX6_layHalves 0 = .ok (.aload_n 0, 1) := by decide +kernel
theorem dX6_layHalves_1 : decode cX6_layHalves 1 = .ok (.getfield 7, 3) := by decide +kernel
theorem dX6_layHalves_4 : decode cX6_layHalves 4 = .ok (.iconst 0, 1) := by decide +kernel
theorem dX6_layHalves_5 : decode cX6_layHalves 5 = .ok (.iaload, 1) := by decide +kernel
theorem dX6_layHalves_6 : decode cX6_layHalves 6 = .ok (.istore_n 2, 1) := by decide +kernel
theorem dX6_layHalves_7 : decode cX6_layHalves 7 = .ok (.iload_n 2, 1) := by decide +kernel
theorem dX6_layHalves_8 : decode cX6_layHalves 8 = .ok (.bipush 8, 2) := by decide +kernel
theorem dX6_layHalves_10 : decode cX6_layHalves 10 = .ok (.if_icmp .lt 8, 3) := by decide +kernel
theorem dX6_layHalves_13 : decode cX6_layHalves 13 = .ok (.bipush 8, 2) := by decide +kernel
theorem dX6_layHalves_15 : decode cX6_layHalves 15 = .ok (.goto 13, 3) := by decide +kernel
theorem dX6_layHalves_18 : decode cX6_layHalves 18 = .ok (.iload_n 2, 1) := by decide +kernel
theorem dX6_layHalves_19 : decode cX6_layHalves 19 = .ok (.iconst 4, 1) := by decide +kernel
theorem dX6_layHalves_20 : decode cX6_layHalves 20 = .ok (.if_icmp .lt 7, 3) := by decide +kernel
theorem dX6_layHalves_23 : decode cX6_layHalves 23 = .ok (.iconst 4, 1) := by decide +kernel
theorem dX6_layHalves_24 : decode cX6_layHalves 24 = .ok (.goto 4, 3) := by decide +kernel
theorem dX6_layHalves_27 : decode cX6_layHalves 27 = .ok (.iconst 2, 1) := by decide +kernel
theorem dX6_layHalves_28 : decode cX6_layHalves 28 = .ok (.istore_n 3, 1) := by decide +kernel
theorem dX6_layHalves_29 : decode cX6_layHalves 29 = .ok (.iload_n 3, 1) := by decide +kernel
theorem dX6_layHalves_30 : decode cX6_layHalves 30 = .ok (.istore 4, 2) := by decide +kernel
theorem dX6_layHalves_32 : decode cX6_layHalves 32 = .ok (.iload 4, 2) := by decide +kernel
theorem dX6_layHalves_34 : decode cX6_layHalves 34 = .ok (.iload_n 2, 1) := by decide +kernel
theorem dX6_layHalves_35 : decode cX6_layHalves 35 = .ok (.if_icmp .ge 22, 3) := by decide +kernel
theorem dX6_layHalves_38 : decode cX6_layHalves 38 = .ok (.aload_n 0, 1) := by decide +kernel
theorem dX6_layHalves_39 : decode cX6_layHalves 39 = .ok (.iload 4, 2) := by decide +kernel
theorem dX6_layHalves_41 : decode cX6_layHalves 41 = .ok (.iload 4, 2) := by decide +kernel
theorem dX6_layHalves_43 : decode cX6_layHalves 43 = .ok (.iload_n 3, 1) := by decide +kernel
theorem dX6_layHalves_44 : decode cX6_layHalves 44 = .ok (.isub, 1) := by decide +kernel
theorem dX6_layHalves_45 : decode cX6_layHalves 45 = .ok (.iconst 0, 1) := by decide +kernel
theorem dX6_layHalves_46 : decode cX6_layHalves 46 = .ok (.iload_n 1, 1) := by decide +kernel
theorem dX6_layHalves_47 : decode cX6_layHalves 47 = .ok (.iconst 0, 1) := by decide +kernel
theorem dX6_layHalves_48 : decode cX6_layHalves 48 = .ok (.invokevirtual 91, 3) := by decide +kernel
theorem dX6_layHalves_51 : decode cX6_layHalves 51 = .ok (.iinc 4 1, 3) := by decide +kernel
theorem dX6_layHalves_54 : decode cX6_layHalves 54 = .ok (.goto (-22), 3) := by decide +kernel
theorem dX6_layHalves_57 : decode cX6_layHalves 57 = .ok (.aload_n 0, 1) := by decide +kernel
theorem dX6_layHalves_58 : decode cX6_layHalves 58 = .ok (.dup, 1) := by decide +kernel
theorem dX6_layHalves_59 : decode cX6_layHalves 59 = .ok (.getfield 88, 3) := by decide +kernel
theorem dX6_layHalves_62 : decode cX6_layHalves 62 = .ok (.iload_n 2, 1) := by decide +kernel
theorem dX6_layHalves_63 : decode cX6_layHalves 63 = .ok (.iload_n 3, 1) := by decide +kernel
theorem dX6_layHalves_64 : decode cX6_layHalves 64 = .ok (.if_icmp .le 7, 3) := by decide +kernel
theorem dX6_layHalves_67 : decode cX6_layHalves 67 = .ok (.iconst 1, 1) := by decide +kernel
theorem dX6_layHalves_68 : decode cX6_layHalves 68 = .ok (.goto 4, 3) := by decide +kernel
theorem dX6_layHalves_71 : decode cX6_layHalves 71 = .ok (.iconst 0, 1) := by decide +kernel
theorem dX6_layHalves_72 : decode cX6_layHalves 72 = .ok (.iadd, 1) := by decide +kernel
theorem dX6_layHalves_73 : decode cX6_layHalves 73 = .ok (.putfield 88, 3) := by decide +kernel
theorem dX6_layHalves_76 : decode cX6_layHalves 76 = .ok (.iconst 0, 1) := by decide +kernel
theorem dX6_layHalves_77 : decode cX6_layHalves 77 = .ok (.istore 4, 2) := by decide +kernel
theorem dX6_layHalves_79 : decode cX6_layHalves 79 = .ok (.iload 4, 2) := by decide +kernel
theorem dX6_layHalves_81 : decode cX6_layHalves 81 = .ok (.iload_n 3, 1) := by decide +kernel
theorem dX6_layHalves_82 : decode cX6_layHalves 82 = .ok (.if_icmp .ge 25, 3) := by decide +kernel
theorem dX6_layHalves_85 : decode cX6_layHalves 85 = .ok (.aload_n 0, 1) := by decide +kernel
theorem dX6_layHalves_86 : decode cX6_layHalves 86 = .ok (.getfield 38, 3) := by decide +kernel
theorem dX6_layHalves_89 : decode cX6_layHalves 89 = .ok (.iload 4, 2) := by decide +kernel
theorem dX6_layHalves_91 : decode cX6_layHalves 91 = .ok (.iconst 0, 1) := by decide +kernel
theorem dX6_layHalves_92 : decode cX6_layHalves 92 = .ok (.iastore, 1) := by decide +kernel
theorem dX6_layHalves_93 : decode cX6_layHalves 93 = .ok (.aload_n 0, 1) := by decide +kernel
theorem dX6_layHalves_94 : decode cX6_layHalves 94 = .ok (.getfield 41, 3) := by decide +kernel
theorem dX6_layHalves_97 : decode cX6_layHalves 97 = .ok (.iload 4, 2) := by decide +kernel
theorem dX6_layHalves_99 : decode cX6_layHalves 99 = .ok (.iload_n 1, 1) := by decide +kernel
theorem dX6_layHalves_100 : decode cX6_layHalves 100 = .ok (.iastore, 1) := by decide +kernel
theorem dX6_layHalves_101 : decode cX6_layHalves 101 = .ok (.iinc 4 1, 3) := by decide +kernel
theorem dX6_layHalves_104 : decode cX6_layHalves 104 = .ok (.goto (-25), 3) := by decide +kernel
theorem dX6_layHalves_107 : decode cX6_layHalves 107 = .ok (.iload_n 3, 1) := by decide +kernel
theorem dX6_layHalves_108 : decode cX6_layHalves 108 = .ok (.iconst 2, 1) := by decide +kernel
theorem dX6_layHalves_109 : decode cX6_layHalves 109 = .ok (.idiv, 1) := by decide +kernel
theorem dX6_layHalves_110 : decode cX6_layHalves 110 = .ok (.istore 4, 2) := by decide +kernel
theorem dX6_layHalves_112 : decode cX6_layHalves 112 = .ok (.iload 4, 2) := by decide +kernel
theorem dX6_layHalves_114 : decode cX6_layHalves 114 = .ok (.ifCond .le 19, 3) := by decide +kernel
theorem dX6_layHalves_117 : decode cX6_layHalves 117 = .ok (.aload_n 0, 1) := by decide +kernel
theorem dX6_layHalves_118 : decode cX6_layHalves 118 = .ok (.iload_n 3, 1) := by decide +kernel
theorem dX6_layHalves_119 : decode cX6_layHalves 119 = .ok (.iload 4, 2) := by decide +kernel
theorem dX6_layHalves_121 : decode cX6_layHalves 121 = .ok (.invokevirtual 103, 3) := by decide +kernel
theorem dX6_layHalves_124 : decode cX6_layHalves 124 = .ok (.iload 4, 2) := by decide +kernel
theorem dX6_layHalves_126 : decode cX6_layHalves 126 = .ok (.iconst 2, 1) := by decide +kernel
theorem dX6_layHalves_127 : decode cX6_layHalves 127 = .ok (.idiv, 1) := by decide +kernel
theorem dX6_layHalves_128 : decode cX6_layHalves 128 = .ok (.istore 4, 2) := by decide +kernel
theorem dX6_layHalves_130 : decode cX6_layHalves 130 = .ok (.goto (-18), 3) := by decide +kernel
theorem dX6_layHalves_133 : decode cX6_layHalves 133 = .ok (.iconst 1, 1) := by decide +kernel
theorem dX6_layHalves_134 : decode cX6_layHalves 134 = .ok (.istore 4, 2) := by decide +kernel
theorem dX6_layHalves_136 : decode cX6_layHalves 136 = .ok (.iload 4, 2) := by decide +kernel
theorem dX6_layHalves_138 : decode cX6_layHalves 138 = .ok (.iload_n 3, 1) := by decide +kernel
theorem dX6_layHalves_139 : decode cX6_layHalves 139 = .ok (.if_icmp .ge 19, 3) := by decide +kernel
theorem dX6_layHalves_142 : decode cX6_layHalves 142 = .ok (.aload_n 0, 1) := by decide +kernel
theorem dX6_layHalves_143 : decode cX6_layHalves 143 = .ok (.iload_n 3, 1) := by decide +kernel
theorem dX6_layHalves_144 : decode cX6_layHalves 144 = .ok (.iload 4, 2) := by decide +kernel
theorem dX6_layHalves_146 : decode cX6_layHalves 146 = .ok (.invokevirtual 106, 3) := by decide +kernel
theorem dX6_layHalves_149 : decode cX6_layHalves 149 = .ok (.iload 4, 2) := by decide +kernel
theorem dX6_layHalves_151 : decode cX6_layHalves 151 = .ok (.iconst 2, 1) := by decide +kernel
theorem dX6_layHalves_152 : decode cX6_layHalves 152 = .ok (.imul, 1) := by decide +kernel
theorem dX6_layHalves_153 : decode cX6_layHalves 153 = .ok (.istore 4, 2) := by decide +kernel
theorem dX6_layHalves_155 : decode cX6_layHalves 155 = .ok (.goto (-19), 3) := by decide +kernel
theorem dX6_layHalves_158 : decode cX6_layHalves 158 = .ok (.iconst 0, 1) := by decide +kernel
theorem dX6_layHalves_159 : decode cX6_layHalves 159 = .ok (.istore 4, 2) := by decide +kernel
theorem dX6_layHalves_161 : decode cX6_layHalves 161 = .ok (.iload 4, 2) := by decide +kernel
theorem dX6_layHalves_163 : decode cX6_layHalves 163 = .ok (.iload_n 3, 1) := by decide +kernel
theorem dX6_layHalves_164 : decode cX6_layHalves 164 = .ok (.iadd, 1) := by decide +kernel
theorem dX6_layHalves_165 : decode cX6_layHalves 165 = .ok (.iload_n 2, 1) := by decide +kernel
theorem dX6_layHalves_166 : decode cX6_layHalves 166 = .ok (.if_icmp .ge 22, 3) := by decide +kernel
theorem dX6_layHalves_169 : decode cX6_layHalves 169 = .ok (.aload_n 0, 1) := by decide +kernel
theorem dX6_layHalves_170 : decode cX6_layHalves 170 = .ok (.iload 4, 2) := by decide +kernel
theorem dX6_layHalves_172 : decode cX6_layHalves 172 = .ok (.iload 4, 2) := by decide +kernel
theorem dX6_layHalves_174 : decode cX6_layHalves 174 = .ok (.iload_n 3, 1) := by decide +kernel
theorem dX6_layHalves_175 : decode cX6_layHalves 175 = .ok (.iadd, 1) := by decide +kernel
theorem dX6_layHalves_176 : decode cX6_layHalves 176 = .ok (.iconst 0, 1) := by decide +kernel
theorem dX6_layHalves_177 : decode cX6_layHalves 177 = .ok (.iload_n 1, 1) := by decide +kernel
theorem dX6_layHalves_178 : decode cX6_layHalves 178 = .ok (.iconst 2, 1) := by decide +kernel
theorem dX6_layHalves_179 : decode cX6_layHalves 179 = .ok (.invokevirtual 91, 3) := by decide +kernel
theorem dX6_layHalves_182 : decode cX6_layHalves 182 = .ok (.iinc 4 1, 3) := by decide +kernel
theorem dX6_layHalves_185 : decode cX6_layHalves 185 = .ok (.goto (-24), 3) := by decide +kernel
theorem dX6_layHalves_188 : decode cX6_layHalves 188 = .ok (.aload_n 0, 1) := by decide +kernel
theorem dX6_layHalves_189 : decode cX6_layHalves 189 = .ok (.dup, 1) := by decide +kernel
theorem dX6_layHalves_190 : decode cX6_layHalves 190 = .ok (.getfield 88, 3) := by decide +kernel
theorem dX6_layHalves_193 : decode cX6_layHalves 193 = .ok (.iload_n 2, 1) := by decide +kernel
theorem dX6_layHalves_194 : decode cX6_layHalves 194 = .ok (.iload_n 3, 1) := by decide +kernel
theorem dX6_layHalves_195 : decode cX6_layHalves 195 = .ok (.if_icmp .le 7, 3) := by decide +kernel
theorem dX6_layHalves_198 : decode cX6_layHalves 198 = .ok (.iconst 1, 1) := by decide +kernel
theorem dX6_layHalves_199 : decode cX6_layHalves 199 = .ok (.goto 4, 3) := by decide +kernel
theorem dX6_layHalves_202 : decode cX6_layHalves 202 = .ok (.iconst 0, 1) := by decide +kernel
theorem dX6_layHalves_203 : decode cX6_layHalves 203 = .ok (.iadd, 1) := by decide +kernel
theorem dX6_layHalves_204 : decode cX6_layHalves 204 = .ok (.putfield 88, 3) := by decide +kernel
theorem dX6_layHalves_207 : decode cX6_layHalves 207 = .ok (.return_, 1) := by decide +kernel
theorem dX6_levelOf_0 : decode cX6_levelOf 0 = .ok (.iconst 0, 1) := by decide +kernel
theorem dX6_levelOf_1 : decode cX6_levelOf 1 = .ok (.istore_n 1, 1) := by decide +kernel
theorem dX6_levelOf_2 : decode cX6_levelOf 2 = .ok (.iload_n 0, 1) := by decide +kernel
theorem dX6_levelOf_3 : decode cX6_levelOf 3 = .ok (.istore_n 2, 1) := by decide +kernel
theorem dX6_levelOf_4 : decode cX6_levelOf 4 = .ok (.iload_n 2, 1) := by decide +kernel
theorem dX6_levelOf_5 : decode cX6_levelOf 5 = .ok (.ifCond .le 15, 3) := by decide +kernel
theorem dX6_levelOf_8 : decode cX6_levelOf 8 = .ok (.iinc 1 1, 3) := by decide +kernel
theorem dX6_levelOf_11 : decode cX6_levelOf 11 = .ok (.iload_n 2, 1) := by decide +kernel
theorem dX6_levelOf_12 : decode cX6_levelOf 12 = .ok (.iconst 1, 1) := by decide +kernel
theorem dX6_levelOf_13 : decode cX6_levelOf 13 = .ok (.isub, 1) := by decide +kernel
theorem dX6_levelOf_14 : decode cX6_levelOf 14 = .ok (.iconst 2, 1) := by decide +kernel
theorem dX6_levelOf_15 : decode cX6_levelOf 15 = .ok (.idiv, 1) := by decide +kernel
theorem dX6_levelOf_16 : decode cX6_levelOf 16 = .ok (.istore_n 2, 1) := by decide +kernel
theorem dX6_levelOf_17 : decode cX6_levelOf 17 = .ok (.goto (-13), 3) := by decide +kernel
theorem dX6_levelOf_20 : decode cX6_levelOf 20 = .ok (.iload_n 1, 1) := by decide +kernel
theorem dX6_levelOf_21 : decode cX6_levelOf 21 = .ok (.ireturn, 1) := by decide +kernel
theorem dX6_layTree_0 : decode cX6_layTree 0 = .ok (.aload_n 0, 1) := by decide +kernel
theorem dX6_layTree_1 : decode cX6_layTree 1 = .ok (.getfield 7, 3) := by decide +kernel
theorem dX6_layTree_4 : decode cX6_layTree 4 = .ok (.iconst 0, 1) := by decide +kernel
theorem dX6_layTree_5 : decode cX6_layTree 5 = .ok (.iaload, 1) := by decide +kernel
theorem dX6_layTree_6 : decode cX6_layTree 6 = .ok (.istore_n 2, 1) := by decide +kernel
theorem dX6_layTree_7 : decode cX6_layTree 7 = .ok (.iload_n 2, 1) := by decide +kernel
theorem dX6_layTree_8 : decode cX6_layTree 8 = .ok (.iconst 1, 1) := by decide +kernel
theorem dX6_layTree_9 : decode cX6_layTree 9 = .ok (.isub, 1) := by decide +kernel
theorem dX6_layTree_10 : decode cX6_layTree 10 = .ok (.invokestatic 109, 3) := by decide +kernel
theorem dX6_layTree_13 : decode cX6_layTree 13 = .ok (.istore_n 3, 1) := by decide +kernel
theorem dX6_layTree_14 : decode cX6_layTree 14 = .ok (.iload_n 3, 1) := by decide +kernel
theorem dX6_layTree_15 : decode cX6_layTree 15 = .ok (.istore 4, 2) := by decide +kernel
theorem dX6_layTree_17 : decode cX6_layTree 17 = .ok (.iload 4, 2) := by decide +kernel
theorem dX6_layTree_19 : decode cX6_layTree 19 = .ok (.ifCond .le 59, 3) := by decide +kernel
theorem dX6_layTree_22 : decode cX6_layTree 22 = .ok (.iconst 1, 1) := by decide +kernel
theorem dX6_layTree_23 : decode cX6_layTree 23 = .ok (.istore 5, 2) := by decide +kernel
theorem dX6_layTree_25 : decode cX6_layTree 25 = .ok (.iload 5, 2) := by decide +kernel
theorem dX6_layTree_27 : decode cX6_layTree 27 = .ok (.iload_n 2, 1) := by decide +kernel
theorem dX6_layTree_28 : decode cX6_layTree 28 = .ok (.if_icmp .ge 34, 3) := by decide +kernel
theorem dX6_layTree_31 : decode cX6_layTree 31 = .ok (.iload 5, 2) := by decide +kernel
theorem dX6_layTree_33 : decode cX6_layTree 33 = .ok (.invokestatic 109, 3) := by decide +kernel
theorem dX6_layTree_36 : decode cX6_layTree 36 = .ok (.iload 4, 2) := by decide +kernel
theorem dX6_layTree_38 : decode cX6_layTree 38 = .ok (.if_icmp .ne 18, 3) := by decide +kernel
theorem dX6_layTree_41 : decode cX6_layTree 41 = .ok (.aload_n 0, 1) := by decide +kernel
theorem dX6_layTree_42 : decode cX6_layTree 42 = .ok (.iload 5, 2) := by decide +kernel
theorem dX6_layTree_44 : decode cX6_layTree 44 = .ok (.iload 5, 2) := by decide +kernel
theorem dX6_layTree_46 : decode cX6_layTree 46 = .ok (.iconst 1, 1) := by decide +kernel
theorem dX6_layTree_47 : decode cX6_layTree 47 = .ok (.isub, 1) := by decide +kernel
theorem dX6_layTree_48 : decode cX6_layTree 48 = .ok (.iconst 2, 1) := by decide +kernel
theorem dX6_layTree_49 : decode cX6_layTree 49 = .ok (.idiv, 1) := by decide +kernel
theorem dX6_layTree_50 : decode cX6_layTree 50 = .ok (.iconst 0, 1) := by decide +kernel
theorem dX6_layTree_51 : decode cX6_layTree 51 = .ok (.iload_n 1, 1) := by decide +kernel
theorem dX6_layTree_52 : decode cX6_layTree 52 = .ok (.iconst 0, 1) := by decide +kernel
theorem dX6_layTree_53 : decode cX6_layTree 53 = .ok (.invokevirtual 91, 3) := by decide +kernel
theorem dX6_layTree_56 : decode cX6_layTree 56 = .ok (.iinc 5 1, 3) := by decide +kernel
theorem dX6_layTree_59 : decode cX6_layTree 59 = .ok (.goto (-34), 3) := by decide +kernel
theorem dX6_layTree_62 : decode cX6_layTree 62 = .ok (.aload_n 0, 1) := by decide +kernel
theorem dX6_layTree_63 : decode cX6_layTree 63 = .ok (.dup, 1) := by decide +kernel
theorem dX6_layTree_64 : decode cX6_layTree 64 = .ok (.getfield 88, 3) := by decide +kernel
theorem dX6_layTree_67 : decode cX6_layTree 67 = .ok (.iconst 1, 1) := by decide +kernel
theorem dX6_layTree_68 : decode cX6_layTree 68 = .ok (.iadd, 1) := by decide +kernel
theorem dX6_layTree_69 : decode cX6_layTree 69 = .ok (.putfield 88, 3) := by decide +kernel
theorem dX6_layTree_72 : decode cX6_layTree 72 = .ok (.iinc 4 (-1), 3) := by decide +kernel
theorem dX6_layTree_75 : decode cX6_layTree 75 = .ok (.goto (-58), 3) := by decide +kernel
theorem dX6_layTree_78 : decode cX6_layTree 78 = .ok (.iconst 1, 1) := by decide +kernel
theorem dX6_layTree_79 : decode cX6_layTree 79 = .ok (.istore 4, 2) := by decide +kernel
theorem dX6_layTree_81 : decode cX6_layTree 81 = .ok (.iload 4, 2) := by decide +kernel
theorem dX6_layTree_83 : decode cX6_layTree 83 = .ok (.iload_n 3, 1) := by decide +kernel
theorem dX6_layTree_84 : decode cX6_layTree 84 = .ok (.if_icmp .gt 59, 3) := by decide +kernel
theorem dX6_layTree_87 : decode cX6_layTree 87 = .ok (.iconst 1, 1) := by decide +kernel
theorem dX6_layTree_88 : decode cX6_layTree 88 = .ok (.istore 5, 2) := by decide +kernel
theorem dX6_layTree_90 : decode cX6_layTree 90 = .ok (.iload 5, 2) := by decide +kernel
theorem dX6_layTree_92 : decode cX6_layTree 92 = .ok (.iload_n 2, 1) := by decide +kernel
theorem dX6_layTree_93 : decode cX6_layTree 93 = .ok (.if_icmp .ge 34, 3) := by decide +kernel
theorem dX6_layTree_96 : decode cX6_layTree 96 = .ok (.iload 5, 2) := by decide +kernel
theorem dX6_layTree_98 : decode cX6_layTree 98 = .ok (.invokestatic 109, 3) := by decide +kernel
theorem dX6_layTree_101 : decode cX6_layTree 101 = .ok (.iload 4, 2) := by decide +kernel
theorem dX6_layTree_103 : decode cX6_layTree 103 = .ok (.if_icmp .ne 18, 3) := by decide +kernel
theorem dX6_layTree_106 : decode cX6_layTree 106 = .ok (.aload_n 0, 1) := by decide +kernel
theorem dX6_layTree_107 : decode cX6_layTree 107 = .ok (.iload 5, 2) := by decide +kernel
theorem dX6_layTree_109 : decode cX6_layTree 109 = .ok (.iconst 1, 1) := by decide +kernel
theorem dX6_layTree_110 : decode cX6_layTree 110 = .ok (.isub, 1) := by decide +kernel
theorem dX6_layTree_111 : decode cX6_layTree 111 = .ok (.iconst 2, 1) := by decide +kernel
theorem dX6_layTree_112 : decode cX6_layTree 112 = .ok (.idiv, 1) := by decide +kernel
theorem dX6_layTree_113 : decode cX6_layTree 113 = .ok (.iload 5, 2) := by decide +kernel
theorem dX6_layTree_115 : decode cX6_layTree 115 = .ok (.iconst 0, 1) := by decide +kernel
theorem dX6_layTree_116 : decode cX6_layTree 116 = .ok (.iload_n 1, 1) := by decide +kernel
theorem dX6_layTree_117 : decode cX6_layTree 117 = .ok (.iconst 2, 1) := by decide +kernel
theorem dX6_layTree_118 : decode cX6_layTree 118 = .ok (.invokevirtual 91, 3) := by decide +kernel
theorem dX6_layTree_121 : decode cX6_layTree 121 = .ok (.iinc 5 1, 3) := by decide +kernel
theorem dX6_layTree_124 : decode cX6_layTree 124 = .ok (.goto (-34), 3) := by decide +kernel
theorem dX6_layTree_127 : decode cX6_layTree 127 = .ok (.aload_n 0, 1) := by decide +kernel
theorem dX6_layTree_128 : decode cX6_layTree 128 = .ok (.dup, 1) := by decide +kernel
theorem dX6_layTree_129 : decode cX6_layTree 129 = .ok (.getfield 88, 3) := by decide +kernel
theorem dX6_layTree_132 : decode cX6_layTree 132 = .ok (.iconst 1, 1) := by decide +kernel
theorem dX6_layTree_133 : decode cX6_layTree 133 = .ok (.iadd, 1) := by decide +kernel
theorem dX6_layTree_134 : decode cX6_layTree 134 = .ok (.putfield 88, 3) := by decide +kernel
theorem dX6_layTree_137 : decode cX6_layTree 137 = .ok (.iinc 4 1, 3) := by decide +kernel
theorem dX6_layTree_140 : decode cX6_layTree 140 = .ok (.goto (-59), 3) := by decide +kernel
theorem dX6_layTree_143 : decode cX6_layTree 143 = .ok (.return_, 1) := by decide +kernel
theorem dX6_layEach_0 : decode cX6_layEach 0 = .ok (.iconst 1, 1) := by decide +kernel
theorem dX6_layEach_1 : decode cX6_layEach 1 = .ok (.istore_n 2, 1) := by decide +kernel
theorem dX6_layEach_2 : decode cX6_layEach 2 = .ok (.iload_n 2, 1) := by decide +kernel
theorem dX6_layEach_3 : decode cX6_layEach 3 = .ok (.aload_n 0, 1) := by decide +kernel
theorem dX6_layEach_4 : decode cX6_layEach 4 = .ok (.getfield 7, 3) := by decide +kernel
theorem dX6_layEach_7 : decode cX6_layEach 7 = .ok (.iconst 0, 1) := by decide +kernel
theorem dX6_layEach_8 : decode cX6_layEach 8 = .ok (.iaload, 1) := by decide +kernel
theorem dX6_layEach_9 : decode cX6_layEach 9 = .ok (.if_icmp .ge 18, 3) := by decide +kernel
theorem dX6_layEach_12 : decode cX6_layEach 12 = .ok (.aload_n 0, 1) := by decide +kernel
theorem dX6_layEach_13 : decode cX6_layEach 13 = .ok (.iload_n 2, 1) := by decide +kernel
theorem dX6_layEach_14 : decode cX6_layEach 14 = .ok (.iconst 0, 1) := by decide +kernel
theorem dX6_layEach_15 : decode cX6_layEach 15 = .ok (.iconst 0, 1) := by decide +kernel
theorem dX6_layEach_16 : decode cX6_layEach 16 = .ok (.iload_n 1, 1) := by decide +kernel
theorem dX6_layEach_17 : decode cX6_layEach 17 = .ok (.iconst 0, 1) := by decide +kernel
theorem dX6_layEach_18 : decode cX6_layEach 18 = .ok (.invokevirtual 91, 3) := by decide +kernel
theorem dX6_layEach_21 : decode cX6_layEach 21 = .ok (.iinc 2 1, 3) := by decide +kernel
theorem dX6_layEach_24 : decode cX6_layEach 24 = .ok (.goto (-22), 3) := by decide +kernel
theorem dX6_layEach_27 : decode cX6_layEach 27 = .ok (.aload_n 0, 1) := by decide +kernel
theorem dX6_layEach_28 : decode cX6_layEach 28 = .ok (.dup, 1) := by decide +kernel
theorem dX6_layEach_29 : decode cX6_layEach 29 = .ok (.getfield 88, 3) := by decide +kernel
theorem dX6_layEach_32 : decode cX6_layEach 32 = .ok (.iconst 1, 1) := by decide +kernel
theorem dX6_layEach_33 : decode cX6_layEach 33 = .ok (.iadd, 1) := by decide +kernel
theorem dX6_layEach_34 : decode cX6_layEach 34 = .ok (.putfield 88, 3) := by decide +kernel
theorem dX6_layEach_37 : decode cX6_layEach 37 = .ok (.iconst 1, 1) := by decide +kernel
theorem dX6_layEach_38 : decode cX6_layEach 38 = .ok (.istore_n 2, 1) := by decide +kernel
theorem dX6_layEach_39 : decode cX6_layEach 39 = .ok (.iload_n 2, 1) := by decide +kernel
theorem dX6_layEach_40 : decode cX6_layEach 40 = .ok (.aload_n 0, 1) := by decide +kernel
theorem dX6_layEach_41 : decode cX6_layEach 41 = .ok (.getfield 7, 3) := by decide +kernel
theorem dX6_layEach_44 : decode cX6_layEach 44 = .ok (.iconst 0, 1) := by decide +kernel
theorem dX6_layEach_45 : decode cX6_layEach 45 = .ok (.iaload, 1) := by decide +kernel
theorem dX6_layEach_46 : decode cX6_layEach 46 = .ok (.if_icmp .ge 18, 3) := by decide +kernel
theorem dX6_layEach_49 : decode cX6_layEach 49 = .ok (.aload_n 0, 1) := by decide +kernel
theorem dX6_layEach_50 : decode cX6_layEach 50 = .ok (.iconst 0, 1) := by decide +kernel
theorem dX6_layEach_51 : decode cX6_layEach 51 = .ok (.iload_n 2, 1) := by decide +kernel
theorem dX6_layEach_52 : decode cX6_layEach 52 = .ok (.iconst 0, 1) := by decide +kernel
theorem dX6_layEach_53 : decode cX6_layEach 53 = .ok (.iload_n 1, 1) := by decide +kernel
theorem dX6_layEach_54 : decode cX6_layEach 54 = .ok (.iconst 2, 1) := by decide +kernel
theorem dX6_layEach_55 : decode cX6_layEach 55 = .ok (.invokevirtual 91, 3) := by decide +kernel
theorem dX6_layEach_58 : decode cX6_layEach 58 = .ok (.iinc 2 1, 3) := by decide +kernel
theorem dX6_layEach_61 : decode cX6_layEach 61 = .ok (.goto (-22), 3) := by decide +kernel
theorem dX6_layEach_64 : decode cX6_layEach 64 = .ok (.aload_n 0, 1) := by decide +kernel
theorem dX6_layEach_65 : decode cX6_layEach 65 = .ok (.dup, 1) := by decide +kernel
theorem dX6_layEach_66 : decode cX6_layEach 66 = .ok (.getfield 88, 3) := by decide +kernel
theorem dX6_layEach_69 : decode cX6_layEach 69 = .ok (.iconst 1, 1) := by decide +kernel
theorem dX6_layEach_70 : decode cX6_layEach 70 = .ok (.iadd, 1) := by decide +kernel
theorem dX6_layEach_71 : decode cX6_layEach 71 = .ok (.putfield 88, 3) := by decide +kernel
theorem dX6_layEach_74 : decode cX6_layEach 74 = .ok (.return_, 1) := by decide +kernel
theorem dX6_lay_0 : decode cX6_lay 0 = .ok (.aload_n 0, 1) := by decide +kernel
theorem dX6_lay_1 : decode cX6_lay 1 = .ok (.iconst 0, 1) := by decide +kernel
theorem dX6_lay_2 : decode cX6_lay 2 = .ok (.putfield 84, 3) := by decide +kernel
theorem dX6_lay_5 : decode cX6_lay 5 = .ok (.aload_n 0, 1) := by decide +kernel
theorem dX6_lay_6 : decode cX6_lay 6 = .ok (.iconst 0, 1) := by decide +kernel
theorem dX6_lay_7 : decode cX6_lay 7 = .ok (.putfield 88, 3) := by decide +kernel
theorem dX6_lay_10 : decode cX6_lay 10 = .ok (.iload_n 1, 1) := by decide +kernel
theorem dX6_lay_11 : decode cX6_lay 11 = .ok (.tableswitch 49 0 2 #[25, 33, 41], 25) := by decide +kernel
theorem dX6_lay_36 : decode cX6_lay 36 = .ok (.aload_n 0, 1) := by decide +kernel
theorem dX6_lay_37 : decode cX6_lay 37 = .ok (.iload_n 2, 1) := by decide +kernel
theorem dX6_lay_38 : decode cX6_lay 38 = .ok (.invokevirtual 113, 3) := by decide +kernel
theorem dX6_lay_41 : decode cX6_lay 41 = .ok (.goto 24, 3) := by decide +kernel
theorem dX6_lay_44 : decode cX6_lay 44 = .ok (.aload_n 0, 1) := by decide +kernel
theorem dX6_lay_45 : decode cX6_lay 45 = .ok (.iload_n 2, 1) := by decide +kernel
theorem dX6_lay_46 : decode cX6_lay 46 = .ok (.invokevirtual 116, 3) := by decide +kernel
theorem dX6_lay_49 : decode cX6_lay 49 = .ok (.goto 16, 3) := by decide +kernel
theorem dX6_lay_52 : decode cX6_lay 52 = .ok (.aload_n 0, 1) := by decide +kernel
theorem dX6_lay_53 : decode cX6_lay 53 = .ok (.iload_n 2, 1) := by decide +kernel
theorem dX6_lay_54 : decode cX6_lay 54 = .ok (.invokevirtual 119, 3) := by decide +kernel
theorem dX6_lay_57 : decode cX6_lay 57 = .ok (.goto 8, 3) := by decide +kernel
theorem dX6_lay_60 : decode cX6_lay 60 = .ok (.aload_n 0, 1) := by decide +kernel
theorem dX6_lay_61 : decode cX6_lay 61 = .ok (.iload_n 2, 1) := by decide +kernel
theorem dX6_lay_62 : decode cX6_lay 62 = .ok (.invokevirtual 122, 3) := by decide +kernel
theorem dX6_lay_65 : decode cX6_lay 65 = .ok (.return_, 1) := by decide +kernel
theorem dX6_mixed_0 : decode cX6_mixed 0 = .ok (.aload_n 0, 1) := by decide +kernel
theorem dX6_mixed_1 : decode cX6_mixed 1 = .ok (.getfield 7, 3) := by decide +kernel
theorem dX6_mixed_4 : decode cX6_mixed 4 = .ok (.iconst 2, 1) := by decide +kernel
theorem dX6_mixed_5 : decode cX6_mixed 5 = .ok (.iaload, 1) := by decide +kernel
theorem dX6_mixed_6 : decode cX6_mixed 6 = .ok (.ifCond .ne 13, 3) := by decide +kernel
theorem dX6_mixed_9 : decode cX6_mixed 9 = .ok (.iload_n 1, 1) := by decide +kernel
theorem dX6_mixed_10 : decode cX6_mixed 10 = .ok (.iload_n 2, 1) := by decide +kernel
theorem dX6_mixed_11 : decode cX6_mixed 11 = .ok (.iadd, 1) := by decide +kernel
theorem dX6_mixed_12 : decode cX6_mixed 12 = .ok (.sipush 997, 3) := by decide +kernel
theorem dX6_mixed_15 : decode cX6_mixed 15 = .ok (.irem, 1) := by decide +kernel
theorem dX6_mixed_16 : decode cX6_mixed 16 = .ok (.goto 36, 3) := by decide +kernel
theorem dX6_mixed_19 : decode cX6_mixed 19 = .ok (.aload_n 0, 1) := by decide +kernel
theorem dX6_mixed_20 : decode cX6_mixed 20 = .ok (.getfield 7, 3) := by decide +kernel
theorem dX6_mixed_23 : decode cX6_mixed 23 = .ok (.iconst 2, 1) := by decide +kernel
theorem dX6_mixed_24 : decode cX6_mixed 24 = .ok (.iaload, 1) := by decide +kernel
theorem dX6_mixed_25 : decode cX6_mixed 25 = .ok (.iconst 1, 1) := by decide +kernel
theorem dX6_mixed_26 : decode cX6_mixed 26 = .ok (.if_icmp .ne 16, 3) := by decide +kernel
theorem dX6_mixed_29 : decode cX6_mixed 29 = .ok (.iload_n 1, 1) := by decide +kernel
theorem dX6_mixed_30 : decode cX6_mixed 30 = .ok (.iload_n 2, 1) := by decide +kernel
theorem dX6_mixed_31 : decode cX6_mixed 31 = .ok (.if_icmp .le 7, 3) := by decide +kernel
theorem dX6_mixed_34 : decode cX6_mixed 34 = .ok (.iload_n 1, 1) := by decide +kernel
theorem dX6_mixed_35 : decode cX6_mixed 35 = .ok (.goto 17, 3) := by decide +kernel
theorem dX6_mixed_38 : decode cX6_mixed 38 = .ok (.iload_n 2, 1) := by decide +kernel
theorem dX6_mixed_39 : decode cX6_mixed 39 = .ok (.goto 13, 3) := by decide +kernel
theorem dX6_mixed_42 : decode cX6_mixed 42 = .ok (.bipush 31, 2) := by decide +kernel
theorem dX6_mixed_44 : decode cX6_mixed 44 = .ok (.iload_n 1, 1) := by decide +kernel
theorem dX6_mixed_45 : decode cX6_mixed 45 = .ok (.imul, 1) := by decide +kernel
theorem dX6_mixed_46 : decode cX6_mixed 46 = .ok (.iload_n 2, 1) := by decide +kernel
theorem dX6_mixed_47 : decode cX6_mixed 47 = .ok (.iadd, 1) := by decide +kernel
theorem dX6_mixed_48 : decode cX6_mixed 48 = .ok (.sipush 997, 3) := by decide +kernel
theorem dX6_mixed_51 : decode cX6_mixed 51 = .ok (.irem, 1) := by decide +kernel
theorem dX6_mixed_52 : decode cX6_mixed 52 = .ok (.ireturn, 1) := by decide +kernel
theorem dX6_come_0 : decode cX6_come 0 = .ok (.aload_n 0, 1) := by decide +kernel
theorem dX6_come_1 : decode cX6_come 1 = .ok (.getfield 29, 3) := by decide +kernel
theorem dX6_come_4 : decode cX6_come 4 = .ok (.iload_n 1, 1) := by decide +kernel
theorem dX6_come_5 : decode cX6_come 5 = .ok (.iaload, 1) := by decide +kernel
theorem dX6_come_6 : decode cX6_come 6 = .ok (.istore_n 2, 1) := by decide +kernel
theorem dX6_come_7 : decode cX6_come 7 = .ok (.iload_n 2, 1) := by decide +kernel
theorem dX6_come_8 : decode cX6_come 8 = .ok (.aload_n 0, 1) := by decide +kernel
theorem dX6_come_9 : decode cX6_come 9 = .ok (.getfield 29, 3) := by decide +kernel
theorem dX6_come_12 : decode cX6_come 12 = .ok (.iload_n 1, 1) := by decide +kernel
theorem dX6_come_13 : decode cX6_come 13 = .ok (.iaload, 1) := by decide +kernel
theorem dX6_come_14 : decode cX6_come 14 = .ok (.aload_n 0, 1) := by decide +kernel
theorem dX6_come_15 : decode cX6_come 15 = .ok (.getfield 32, 3) := by decide +kernel
theorem dX6_come_18 : decode cX6_come 18 = .ok (.iload_n 1, 1) := by decide +kernel
theorem dX6_come_19 : decode cX6_come 19 = .ok (.iaload, 1) := by decide +kernel
theorem dX6_come_20 : decode cX6_come 20 = .ok (.iadd, 1) := by decide +kernel
theorem dX6_come_21 : decode cX6_come 21 = .ok (.if_icmp .ge 97, 3) := by decide +kernel
theorem dX6_come_24 : decode cX6_come 24 = .ok (.aload_n 0, 1) := by decide +kernel
theorem dX6_come_25 : decode cX6_come 25 = .ok (.getfield 53, 3) := by decide +kernel
theorem dX6_come_28 : decode cX6_come 28 = .ok (.aload_n 0, 1) := by decide +kernel
theorem dX6_come_29 : decode cX6_come 29 = .ok (.getfield 23, 3) := by decide +kernel
theorem dX6_come_32 : decode cX6_come 32 = .ok (.iload_n 1, 1) := by decide +kernel
theorem dX6_come_33 : decode cX6_come 33 = .ok (.iaload, 1) := by decide +kernel
theorem dX6_come_34 : decode cX6_come 34 = .ok (.iload_n 2, 1) := by decide +kernel
theorem dX6_come_35 : decode cX6_come 35 = .ok (.invokestatic 80, 3) := by decide +kernel
theorem dX6_come_38 : decode cX6_come 38 = .ok (.iaload, 1) := by decide +kernel
theorem dX6_come_39 : decode cX6_come 39 = .ok (.istore_n 3, 1) := by decide +kernel
theorem dX6_come_40 : decode cX6_come 40 = .ok (.aload_n 0, 1) := by decide +kernel
theorem dX6_come_41 : decode cX6_come 41 = .ok (.getfield 50, 3) := by decide +kernel
theorem dX6_come_44 : decode cX6_come 44 = .ok (.aload_n 0, 1) := by decide +kernel
theorem dX6_come_45 : decode cX6_come 45 = .ok (.getfield 26, 3) := by decide +kernel
theorem dX6_come_48 : decode cX6_come 48 = .ok (.iload_n 1, 1) := by decide +kernel
theorem dX6_come_49 : decode cX6_come 49 = .ok (.iaload, 1) := by decide +kernel
theorem dX6_come_50 : decode cX6_come 50 = .ok (.iload_n 2, 1) := by decide +kernel
theorem dX6_come_51 : decode cX6_come 51 = .ok (.invokestatic 80, 3) := by decide +kernel
theorem dX6_come_54 : decode cX6_come 54 = .ok (.iaload, 1) := by decide +kernel
theorem dX6_come_55 : decode cX6_come 55 = .ok (.istore 4, 2) := by decide +kernel
theorem dX6_come_57 : decode cX6_come 57 = .ok (.aload_n 0, 1) := by decide +kernel
theorem dX6_come_58 : decode cX6_come 58 = .ok (.getfield 50, 3) := by decide +kernel
theorem dX6_come_61 : decode cX6_come 61 = .ok (.aload_n 0, 1) := by decide +kernel
theorem dX6_come_62 : decode cX6_come 62 = .ok (.getfield 26, 3) := by decide +kernel
theorem dX6_come_65 : decode cX6_come 65 = .ok (.iload_n 1, 1) := by decide +kernel
theorem dX6_come_66 : decode cX6_come 66 = .ok (.iaload, 1) := by decide +kernel
theorem dX6_come_67 : decode cX6_come 67 = .ok (.iload_n 2, 1) := by decide +kernel
theorem dX6_come_68 : decode cX6_come 68 = .ok (.invokestatic 80, 3) := by decide +kernel
theorem dX6_come_71 : decode cX6_come 71 = .ok (.aload_n 0, 1) := by decide +kernel
theorem dX6_come_72 : decode cX6_come 72 = .ok (.getfield 35, 3) := by decide +kernel
theorem dX6_come_75 : decode cX6_come 75 = .ok (.iload_n 1, 1) := by decide +kernel
theorem dX6_come_76 : decode cX6_come 76 = .ok (.iaload, 1) := by decide +kernel
theorem dX6_come_77 : decode cX6_come 77 = .ok (.ifCond .ne 13, 3) := by decide +kernel
theorem dX6_come_80 : decode cX6_come 80 = .ok (.aload_n 0, 1) := by decide +kernel
theorem dX6_come_81 : decode cX6_come 81 = .ok (.iload 4, 2) := by decide +kernel
theorem dX6_come_83 : decode cX6_come 83 = .ok (.iload_n 3, 1) := by decide +kernel
theorem dX6_come_84 : decode cX6_come 84 = .ok (.invokevirtual 125, 3) := by decide +kernel
theorem dX6_come_87 : decode cX6_come 87 = .ok (.goto 24, 3) := by decide +kernel
theorem dX6_come_90 : decode cX6_come 90 = .ok (.aload_n 0, 1) := by decide +kernel
theorem dX6_come_91 : decode cX6_come 91 = .ok (.getfield 35, 3) := by decide +kernel
theorem dX6_come_94 : decode cX6_come 94 = .ok (.iload_n 1, 1) := by decide +kernel
theorem dX6_come_95 : decode cX6_come 95 = .ok (.iaload, 1) := by decide +kernel
theorem dX6_come_96 : decode cX6_come 96 = .ok (.iconst 1, 1) := by decide +kernel
theorem dX6_come_97 : decode cX6_come 97 = .ok (.if_icmp .ne 13, 3) := by decide +kernel
theorem dX6_come_100 : decode cX6_come 100 = .ok (.aload_n 0, 1) := by decide +kernel
theorem dX6_come_101 : decode cX6_come 101 = .ok (.iload_n 3, 1) := by decide +kernel
theorem dX6_come_102 : decode cX6_come 102 = .ok (.iload 4, 2) := by decide +kernel
theorem dX6_come_104 : decode cX6_come 104 = .ok (.invokevirtual 125, 3) := by decide +kernel
theorem dX6_come_107 : decode cX6_come 107 = .ok (.goto 4, 3) := by decide +kernel
theorem dX6_come_110 : decode cX6_come 110 = .ok (.iload_n 3, 1) := by decide +kernel
theorem dX6_come_111 : decode cX6_come 111 = .ok (.iastore, 1) := by decide +kernel
theorem dX6_come_112 : decode cX6_come 112 = .ok (.iinc 2 1, 3) := by decide +kernel
theorem dX6_come_115 : decode cX6_come 115 = .ok (.goto (-108), 3) := by decide +kernel
theorem dX6_come_118 : decode cX6_come 118 = .ok (.return_, 1) := by decide +kernel
theorem dX6_beginRound_0 : decode cX6_beginRound 0 = .ok (.iconst 0, 1) := by decide +kernel
theorem dX6_beginRound_1 : decode cX6_beginRound 1 = .ok (.istore_n 1, 1) := by decide +kernel
theorem dX6_beginRound_2 : decode cX6_beginRound 2 = .ok (.iload_n 1, 1) := by decide +kernel
theorem dX6_beginRound_3 : decode cX6_beginRound 3 = .ok (.bipush 108, 2) := by decide +kernel
theorem dX6_beginRound_5 : decode cX6_beginRound 5 = .ok (.if_icmp .ge 21, 3) := by decide +kernel
theorem dX6_beginRound_8 : decode cX6_beginRound 8 = .ok (.aload_n 0, 1) := by decide +kernel
theorem dX6_beginRound_9 : decode cX6_beginRound 9 = .ok (.getfield 53, 3) := by decide +kernel
theorem dX6_beginRound_12 : decode cX6_beginRound 12 = .ok (.iload_n 1, 1) := by decide +kernel
theorem dX6_beginRound_13 : decode cX6_beginRound 13 = .ok (.aload_n 0, 1) := by decide +kernel
theorem dX6_beginRound_14 : decode cX6_beginRound 14 = .ok (.getfield 50, 3) := by decide +kernel
theorem dX6_beginRound_17 : decode cX6_beginRound 17 = .ok (.iload_n 1, 1) := by decide +kernel
theorem dX6_beginRound_18 : decode cX6_beginRound 18 = .ok (.iaload, 1) := by decide +kernel
theorem dX6_beginRound_19 : decode cX6_beginRound 19 = .ok (.iastore, 1) := by decide +kernel
theorem dX6_beginRound_20 : decode cX6_beginRound 20 = .ok (.iinc 1 1, 3) := by decide +kernel
theorem dX6_beginRound_23 : decode cX6_beginRound 23 = .ok (.goto (-21), 3) := by decide +kernel
theorem dX6_beginRound_26 : decode cX6_beginRound 26 = .ok (.return_, 1) := by decide +kernel
theorem dX6_go_0 : decode cX6_go 0 = .ok (.iconst 0, 1) := by decide +kernel
theorem dX6_go_1 : decode cX6_go 1 = .ok (.istore_n 3, 1) := by decide +kernel
theorem dX6_go_2 : decode cX6_go 2 = .ok (.iload_n 3, 1) := by decide +kernel
theorem dX6_go_3 : decode cX6_go 3 = .ok (.bipush 108, 2) := by decide +kernel
theorem dX6_go_5 : decode cX6_go 5 = .ok (.if_icmp .ge 24, 3) := by decide +kernel
theorem dX6_go_8 : decode cX6_go 8 = .ok (.aload_n 0, 1) := by decide +kernel
theorem dX6_go_9 : decode cX6_go 9 = .ok (.getfield 50, 3) := by decide +kernel
theorem dX6_go_12 : decode cX6_go 12 = .ok (.iload_n 3, 1) := by decide +kernel
theorem dX6_go_13 : decode cX6_go 13 = .ok (.aload_n 0, 1) := by decide +kernel
theorem dX6_go_14 : decode cX6_go 14 = .ok (.getfield 7, 3) := by decide +kernel
theorem dX6_go_17 : decode cX6_go 17 = .ok (.bipush 86, 2) := by decide +kernel
theorem dX6_go_19 : decode cX6_go 19 = .ok (.iload_n 3, 1) := by decide +kernel
theorem dX6_go_20 : decode cX6_go 20 = .ok (.iadd, 1) := by decide +kernel
theorem dX6_go_21 : decode cX6_go 21 = .ok (.iaload, 1) := by decide +kernel
theorem dX6_go_22 : decode cX6_go 22 = .ok (.iastore, 1) := by decide +kernel
theorem dX6_go_23 : decode cX6_go 23 = .ok (.iinc 3 1, 3) := by decide +kernel
theorem dX6_go_26 : decode cX6_go 26 = .ok (.goto (-24), 3) := by decide +kernel
theorem dX6_go_29 : decode cX6_go 29 = .ok (.iconst 0, 1) := by decide +kernel
theorem dX6_go_30 : decode cX6_go 30 = .ok (.istore_n 3, 1) := by decide +kernel
theorem dX6_go_31 : decode cX6_go 31 = .ok (.iload_n 3, 1) := by decide +kernel
theorem dX6_go_32 : decode cX6_go 32 = .ok (.aload_n 0, 1) := by decide +kernel
theorem dX6_go_33 : decode cX6_go 33 = .ok (.getfield 84, 3) := by decide +kernel
theorem dX6_go_36 : decode cX6_go 36 = .ok (.if_icmp .ge 54, 3) := by decide +kernel
theorem dX6_go_39 : decode cX6_go 39 = .ok (.iload_n 3, 1) := by decide +kernel
theorem dX6_go_40 : decode cX6_go 40 = .ok (.ifCond .eq 20, 3) := by decide +kernel
theorem dX6_go_43 : decode cX6_go 43 = .ok (.aload_n 0, 1) := by decide +kernel
theorem dX6_go_44 : decode cX6_go 44 = .ok (.getfield 20, 3) := by decide +kernel
theorem dX6_go_47 : decode cX6_go 47 = .ok (.iload_n 3, 1) := by decide +kernel
theorem dX6_go_48 : decode cX6_go 48 = .ok (.iaload, 1) := by decide +kernel
theorem dX6_go_49 : decode cX6_go 49 = .ok (.aload_n 0, 1) := by decide +kernel
theorem dX6_go_50 : decode cX6_go 50 = .ok (.getfield 20, 3) := by decide +kernel
theorem dX6_go_53 : decode cX6_go 53 = .ok (.iload_n 3, 1) := by decide +kernel
theorem dX6_go_54 : decode cX6_go 54 = .ok (.iconst 1, 1) := by decide +kernel
theorem dX6_go_55 : decode cX6_go 55 = .ok (.isub, 1) := by decide +kernel
theorem dX6_go_56 : decode cX6_go 56 = .ok (.iaload, 1) := by decide +kernel
theorem dX6_go_57 : decode cX6_go 57 = .ok (.if_icmp .eq 7, 3) := by decide +kernel
theorem dX6_go_60 : decode cX6_go 60 = .ok (.aload_n 0, 1) := by decide +kernel
theorem dX6_go_61 : decode cX6_go 61 = .ok (.invokevirtual 128, 3) := by decide +kernel
theorem dX6_go_64 : decode cX6_go 64 = .ok (.aload_n 0, 1) := by decide +kernel
theorem dX6_go_65 : decode cX6_go 65 = .ok (.getfield 20, 3) := by decide +kernel
theorem dX6_go_68 : decode cX6_go 68 = .ok (.iload_n 3, 1) := by decide +kernel
theorem dX6_go_69 : decode cX6_go 69 = .ok (.iaload, 1) := by decide +kernel
theorem dX6_go_70 : decode cX6_go 70 = .ok (.iload_n 1, 1) := by decide +kernel
theorem dX6_go_71 : decode cX6_go 71 = .ok (.if_icmp .ge 13, 3) := by decide +kernel
theorem dX6_go_74 : decode cX6_go 74 = .ok (.iload_n 3, 1) := by decide +kernel
theorem dX6_go_75 : decode cX6_go 75 = .ok (.iload_n 2, 1) := by decide +kernel
theorem dX6_go_76 : decode cX6_go 76 = .ok (.if_icmp .eq 8, 3) := by decide +kernel
theorem dX6_go_79 : decode cX6_go 79 = .ok (.aload_n 0, 1) := by decide +kernel
theorem dX6_go_80 : decode cX6_go 80 = .ok (.iload_n 3, 1) := by decide +kernel
theorem dX6_go_81 : decode cX6_go 81 = .ok (.invokevirtual 131, 3) := by decide +kernel
theorem dX6_go_84 : decode cX6_go 84 = .ok (.iinc 3 1, 3) := by decide +kernel
theorem dX6_go_87 : decode cX6_go 87 = .ok (.goto (-56), 3) := by decide +kernel
theorem dX6_go_90 : decode cX6_go 90 = .ok (.return_, 1) := by decide +kernel
theorem dX6_priceOf_0 : decode cX6_priceOf 0 = .ok (.aload_n 0, 1) := by decide +kernel
theorem dX6_priceOf_1 : decode cX6_priceOf 1 = .ok (.getfield 7, 3) := by decide +kernel
theorem dX6_priceOf_4 : decode cX6_priceOf 4 = .ok (.iconst 3, 1) := by decide +kernel
theorem dX6_priceOf_5 : decode cX6_priceOf 5 = .ok (.iaload, 1) := by decide +kernel
theorem dX6_priceOf_6 : decode cX6_priceOf 6 = .ok (.aload_n 0, 1) := by decide +kernel
theorem dX6_priceOf_7 : decode cX6_priceOf 7 = .ok (.getfield 7, 3) := by decide +kernel
theorem dX6_priceOf_10 : decode cX6_priceOf 10 = .ok (.iconst 4, 1) := by decide +kernel
theorem dX6_priceOf_11 : decode cX6_priceOf 11 = .ok (.iaload, 1) := by decide +kernel
theorem dX6_priceOf_12 : decode cX6_priceOf 12 = .ok (.aload_n 0, 1) := by decide +kernel
theorem dX6_priceOf_13 : decode cX6_priceOf 13 = .ok (.getfield 32, 3) := by decide +kernel
theorem dX6_priceOf_16 : decode cX6_priceOf 16 = .ok (.iload_n 1, 1) := by decide +kernel
theorem dX6_priceOf_17 : decode cX6_priceOf 17 = .ok (.iaload, 1) := by decide +kernel
theorem dX6_priceOf_18 : decode cX6_priceOf 18 = .ok (.imul, 1) := by decide +kernel
theorem dX6_priceOf_19 : decode cX6_priceOf 19 = .ok (.iadd, 1) := by decide +kernel
theorem dX6_priceOf_20 : decode cX6_priceOf 20 = .ok (.aload_n 0, 1) := by decide +kernel
theorem dX6_priceOf_21 : decode cX6_priceOf 21 = .ok (.getfield 7, 3) := by decide +kernel
theorem dX6_priceOf_24 : decode cX6_priceOf 24 = .ok (.iconst 5, 1) := by decide +kernel
theorem dX6_priceOf_25 : decode cX6_priceOf 25 = .ok (.bipush 9, 2) := by decide +kernel
theorem dX6_priceOf_27 : decode cX6_priceOf 27 = .ok (.aload_n 0, 1) := by decide +kernel
theorem dX6_priceOf_28 : decode cX6_priceOf 28 = .ok (.getfield 23, 3) := by decide +kernel
theorem dX6_priceOf_31 : decode cX6_priceOf 31 = .ok (.iload_n 1, 1) := by decide +kernel
theorem dX6_priceOf_32 : decode cX6_priceOf 32 = .ok (.iaload, 1) := by decide +kernel
theorem dX6_priceOf_33 : decode cX6_priceOf 33 = .ok (.imul, 1) := by decide +kernel
theorem dX6_priceOf_34 : decode cX6_priceOf 34 = .ok (.iadd, 1) := by decide +kernel
theorem dX6_priceOf_35 : decode cX6_priceOf 35 = .ok (.aload_n 0, 1) := by decide +kernel
theorem dX6_priceOf_36 : decode cX6_priceOf 36 = .ok (.getfield 26, 3) := by decide +kernel
theorem dX6_priceOf_39 : decode cX6_priceOf 39 = .ok (.iload_n 1, 1) := by decide +kernel
theorem dX6_priceOf_40 : decode cX6_priceOf 40 = .ok (.iaload, 1) := by decide +kernel
theorem dX6_priceOf_41 : decode cX6_priceOf 41 = .ok (.iadd, 1) := by decide +kernel
theorem dX6_priceOf_42 : decode cX6_priceOf 42 = .ok (.iaload, 1) := by decide +kernel
theorem dX6_priceOf_43 : decode cX6_priceOf 43 = .ok (.imul, 1) := by decide +kernel
theorem dX6_priceOf_44 : decode cX6_priceOf 44 = .ok (.ireturn, 1) := by decide +kernel
theorem dX6_endRound_0 : decode cX6_endRound 0 = .ok (.iconst 0, 1) := by decide +kernel
theorem dX6_endRound_1 : decode cX6_endRound 1 = .ok (.istore_n 2, 1) := by decide +kernel
theorem dX6_endRound_2 : decode cX6_endRound 2 = .ok (.iconst 0, 1) := by decide +kernel
theorem dX6_endRound_3 : decode cX6_endRound 3 = .ok (.istore_n 3, 1) := by decide +kernel
theorem dX6_endRound_4 : decode cX6_endRound 4 = .ok (.iload_n 3, 1) := by decide +kernel
theorem dX6_endRound_5 : decode cX6_endRound 5 = .ok (.bipush 9, 2) := by decide +kernel
theorem dX6_endRound_7 : decode cX6_endRound 7 = .ok (.if_icmp .ge 52, 3) := by decide +kernel
theorem dX6_endRound_10 : decode cX6_endRound 10 = .ok (.aload_n 0, 1) := by decide +kernel
theorem dX6_endRound_11 : decode cX6_endRound 11 = .ok (.getfield 56, 3) := by decide +kernel
theorem dX6_endRound_14 : decode cX6_endRound 14 = .ok (.iload_n 3, 1) := by decide +kernel
theorem dX6_endRound_15 : decode cX6_endRound 15 = .ok (.iaload, 1) := by decide +kernel
theorem dX6_endRound_16 : decode cX6_endRound 16 = .ok (.iload_n 2, 1) := by decide +kernel
theorem dX6_endRound_17 : decode cX6_endRound 17 = .ok (.if_icmp .le 12, 3) := by decide +kernel
theorem dX6_endRound_20 : decode cX6_endRound 20 = .ok (.aload_n 0, 1) := by decide +kernel
theorem dX6_endRound_21 : decode cX6_endRound 21 = .ok (.getfield 56, 3) := by decide +kernel
theorem dX6_endRound_24 : decode cX6_endRound 24 = .ok (.iload_n 3, 1) := by decide +kernel
theorem dX6_endRound_25 : decode cX6_endRound 25 = .ok (.iaload, 1) := by decide +kernel
theorem dX6_endRound_26 : decode cX6_endRound 26 = .ok (.goto 4, 3) := by decide +kernel
theorem dX6_endRound_29 : decode cX6_endRound 29 = .ok (.iload_n 2, 1) := by decide +kernel
theorem dX6_endRound_30 : decode cX6_endRound 30 = .ok (.istore_n 2, 1) := by decide +kernel
theorem dX6_endRound_31 : decode cX6_endRound 31 = .ok (.aload_n 0, 1) := by decide +kernel
theorem dX6_endRound_32 : decode cX6_endRound 32 = .ok (.getfield 59, 3) := by decide +kernel
theorem dX6_endRound_35 : decode cX6_endRound 35 = .ok (.iload_n 3, 1) := by decide +kernel
theorem dX6_endRound_36 : decode cX6_endRound 36 = .ok (.dup2, 1) := by decide +kernel
theorem dX6_endRound_37 : decode cX6_endRound 37 = .ok (.iaload, 1) := by decide +kernel
theorem dX6_endRound_38 : decode cX6_endRound 38 = .ok (.aload_n 0, 1) := by decide +kernel
theorem dX6_endRound_39 : decode cX6_endRound 39 = .ok (.getfield 56, 3) := by decide +kernel
theorem dX6_endRound_42 : decode cX6_endRound 42 = .ok (.iload_n 3, 1) := by decide +kernel
theorem dX6_endRound_43 : decode cX6_endRound 43 = .ok (.iaload, 1) := by decide +kernel
theorem dX6_endRound_44 : decode cX6_endRound 44 = .ok (.iadd, 1) := by decide +kernel
theorem dX6_endRound_45 : decode cX6_endRound 45 = .ok (.iastore, 1) := by decide +kernel
theorem dX6_endRound_46 : decode cX6_endRound 46 = .ok (.aload_n 0, 1) := by decide +kernel
theorem dX6_endRound_47 : decode cX6_endRound 47 = .ok (.getfield 56, 3) := by decide +kernel
theorem dX6_endRound_50 : decode cX6_endRound 50 = .ok (.iload_n 3, 1) := by decide +kernel
theorem dX6_endRound_51 : decode cX6_endRound 51 = .ok (.iconst 0, 1) := by decide +kernel
theorem dX6_endRound_52 : decode cX6_endRound 52 = .ok (.iastore, 1) := by decide +kernel
theorem dX6_endRound_53 : decode cX6_endRound 53 = .ok (.iinc 3 1, 3) := by decide +kernel
theorem dX6_endRound_56 : decode cX6_endRound 56 = .ok (.goto (-52), 3) := by decide +kernel
theorem dX6_endRound_59 : decode cX6_endRound 59 = .ok (.iload_n 2, 1) := by decide +kernel
theorem dX6_endRound_60 : decode cX6_endRound 60 = .ok (.aload_n 0, 1) := by decide +kernel
theorem dX6_endRound_61 : decode cX6_endRound 61 = .ok (.getfield 134, 3) := by decide +kernel
theorem dX6_endRound_64 : decode cX6_endRound 64 = .ok (.if_icmp .le 13, 3) := by decide +kernel
theorem dX6_endRound_67 : decode cX6_endRound 67 = .ok (.aload_n 0, 1) := by decide +kernel
theorem dX6_endRound_68 : decode cX6_endRound 68 = .ok (.iload_n 2, 1) := by decide +kernel
theorem dX6_endRound_69 : decode cX6_endRound 69 = .ok (.putfield 134, 3) := by decide +kernel
theorem dX6_endRound_72 : decode cX6_endRound 72 = .ok (.aload_n 0, 1) := by decide +kernel
theorem dX6_endRound_73 : decode cX6_endRound 73 = .ok (.iload_n 1, 1) := by decide +kernel
theorem dX6_endRound_74 : decode cX6_endRound 74 = .ok (.putfield 137, 3) := by decide +kernel
theorem dX6_endRound_77 : decode cX6_endRound 77 = .ok (.aload_n 0, 1) := by decide +kernel
theorem dX6_endRound_78 : decode cX6_endRound 78 = .ok (.dup, 1) := by decide +kernel
theorem dX6_endRound_79 : decode cX6_endRound 79 = .ok (.getfield 140, 3) := by decide +kernel
theorem dX6_endRound_82 : decode cX6_endRound 82 = .ok (.iload_n 2, 1) := by decide +kernel
theorem dX6_endRound_83 : decode cX6_endRound 83 = .ok (.iadd, 1) := by decide +kernel
theorem dX6_endRound_84 : decode cX6_endRound 84 = .ok (.putfield 140, 3) := by decide +kernel
theorem dX6_endRound_87 : decode cX6_endRound 87 = .ok (.return_, 1) := by decide +kernel
theorem dX6_clock_0 : decode cX6_clock 0 = .ok (.aload_n 0, 1) := by decide +kernel
theorem dX6_clock_1 : decode cX6_clock 1 = .ok (.iconst 0, 1) := by decide +kernel
theorem dX6_clock_2 : decode cX6_clock 2 = .ok (.putfield 140, 3) := by decide +kernel
theorem dX6_clock_5 : decode cX6_clock 5 = .ok (.aload_n 0, 1) := by decide +kernel
theorem dX6_clock_6 : decode cX6_clock 6 = .ok (.iconst (-1), 1) := by decide +kernel
theorem dX6_clock_7 : decode cX6_clock 7 = .ok (.putfield 134, 3) := by decide +kernel
theorem dX6_clock_10 : decode cX6_clock 10 = .ok (.aload_n 0, 1) := by decide +kernel
theorem dX6_clock_11 : decode cX6_clock 11 = .ok (.iconst 0, 1) := by decide +kernel
theorem dX6_clock_12 : decode cX6_clock 12 = .ok (.putfield 137, 3) := by decide +kernel
theorem dX6_clock_15 : decode cX6_clock 15 = .ok (.iconst 0, 1) := by decide +kernel
theorem dX6_clock_16 : decode cX6_clock 16 = .ok (.istore_n 1, 1) := by decide +kernel
theorem dX6_clock_17 : decode cX6_clock 17 = .ok (.iload_n 1, 1) := by decide +kernel
theorem dX6_clock_18 : decode cX6_clock 18 = .ok (.bipush 9, 2) := by decide +kernel
theorem dX6_clock_20 : decode cX6_clock 20 = .ok (.if_icmp .ge 23, 3) := by decide +kernel
theorem dX6_clock_23 : decode cX6_clock 23 = .ok (.aload_n 0, 1) := by decide +kernel
theorem dX6_clock_24 : decode cX6_clock 24 = .ok (.getfield 56, 3) := by decide +kernel
theorem dX6_clock_27 : decode cX6_clock 27 = .ok (.iload_n 1, 1) := by decide +kernel
theorem dX6_clock_28 : decode cX6_clock 28 = .ok (.iconst 0, 1) := by decide +kernel
theorem dX6_clock_29 : decode cX6_clock 29 = .ok (.iastore, 1) := by decide +kernel
theorem dX6_clock_30 : decode cX6_clock 30 = .ok (.aload_n 0, 1) := by decide +kernel
theorem dX6_clock_31 : decode cX6_clock 31 = .ok (.getfield 59, 3) := by decide +kernel
theorem dX6_clock_34 : decode cX6_clock 34 = .ok (.iload_n 1, 1) := by decide +kernel
theorem dX6_clock_35 : decode cX6_clock 35 = .ok (.iconst 0, 1) := by decide +kernel
theorem dX6_clock_36 : decode cX6_clock 36 = .ok (.iastore, 1) := by decide +kernel
theorem dX6_clock_37 : decode cX6_clock 37 = .ok (.iinc 1 1, 3) := by decide +kernel
theorem dX6_clock_40 : decode cX6_clock 40 = .ok (.goto (-23), 3) := by decide +kernel
theorem dX6_clock_43 : decode cX6_clock 43 = .ok (.iconst 0, 1) := by decide +kernel
theorem dX6_clock_44 : decode cX6_clock 44 = .ok (.istore_n 1, 1) := by decide +kernel
theorem dX6_clock_45 : decode cX6_clock 45 = .ok (.iload_n 1, 1) := by decide +kernel
theorem dX6_clock_46 : decode cX6_clock 46 = .ok (.aload_n 0, 1) := by decide +kernel
theorem dX6_clock_47 : decode cX6_clock 47 = .ok (.getfield 84, 3) := by decide +kernel
theorem dX6_clock_50 : decode cX6_clock 50 = .ok (.if_icmp .ge 84, 3) := by decide +kernel
theorem dX6_clock_53 : decode cX6_clock 53 = .ok (.aload_n 0, 1) := by decide +kernel
theorem dX6_clock_54 : decode cX6_clock 54 = .ok (.getfield 56, 3) := by decide +kernel
theorem dX6_clock_57 : decode cX6_clock 57 = .ok (.aload_n 0, 1) := by decide +kernel
theorem dX6_clock_58 : decode cX6_clock 58 = .ok (.getfield 23, 3) := by decide +kernel
theorem dX6_clock_61 : decode cX6_clock 61 = .ok (.iload_n 1, 1) := by decide +kernel
theorem dX6_clock_62 : decode cX6_clock 62 = .ok (.iaload, 1) := by decide +kernel
theorem dX6_clock_63 : decode cX6_clock 63 = .ok (.dup2, 1) := by decide +kernel
theorem dX6_clock_64 : decode cX6_clock 64 = .ok (.iaload, 1) := by decide +kernel
theorem dX6_clock_65 : decode cX6_clock 65 = .ok (.aload_n 0, 1) := by decide +kernel
theorem dX6_clock_66 : decode cX6_clock 66 = .ok (.iload_n 1, 1) := by decide +kernel
theorem dX6_clock_67 : decode cX6_clock 67 = .ok (.invokevirtual 143, 3) := by decide +kernel
theorem dX6_clock_70 : decode cX6_clock 70 = .ok (.iadd, 1) := by decide +kernel
theorem dX6_clock_71 : decode cX6_clock 71 = .ok (.iastore, 1) := by decide +kernel
theorem dX6_clock_72 : decode cX6_clock 72 = .ok (.aload_n 0, 1) := by decide +kernel
theorem dX6_clock_73 : decode cX6_clock 73 = .ok (.getfield 56, 3) := by decide +kernel
theorem dX6_clock_76 : decode cX6_clock 76 = .ok (.aload_n 0, 1) := by decide +kernel
theorem dX6_clock_77 : decode cX6_clock 77 = .ok (.getfield 26, 3) := by decide +kernel
theorem dX6_clock_80 : decode cX6_clock 80 = .ok (.iload_n 1, 1) := by decide +kernel
theorem dX6_clock_81 : decode cX6_clock 81 = .ok (.iaload, 1) := by decide +kernel
theorem dX6_clock_82 : decode cX6_clock 82 = .ok (.dup2, 1) := by decide +kernel
theorem dX6_clock_83 : decode cX6_clock 83 = .ok (.iaload, 1) := by decide +kernel
theorem dX6_clock_84 : decode cX6_clock 84 = .ok (.aload_n 0, 1) := by decide +kernel
theorem dX6_clock_85 : decode cX6_clock 85 = .ok (.iload_n 1, 1) := by decide +kernel
theorem dX6_clock_86 : decode cX6_clock 86 = .ok (.invokevirtual 143, 3) := by decide +kernel
theorem dX6_clock_89 : decode cX6_clock 89 = .ok (.iadd, 1) := by decide +kernel
theorem dX6_clock_90 : decode cX6_clock 90 = .ok (.iastore, 1) := by decide +kernel
theorem dX6_clock_91 : decode cX6_clock 91 = .ok (.iload_n 1, 1) := by decide +kernel
theorem dX6_clock_92 : decode cX6_clock 92 = .ok (.aload_n 0, 1) := by decide +kernel
theorem dX6_clock_93 : decode cX6_clock 93 = .ok (.getfield 84, 3) := by decide +kernel
theorem dX6_clock_96 : decode cX6_clock 96 = .ok (.iconst 1, 1) := by decide +kernel
theorem dX6_clock_97 : decode cX6_clock 97 = .ok (.isub, 1) := by decide +kernel
theorem dX6_clock_98 : decode cX6_clock 98 = .ok (.if_icmp .eq 20, 3) := by decide +kernel
theorem dX6_clock_101 : decode cX6_clock 101 = .ok (.aload_n 0, 1) := by decide +kernel
theorem dX6_clock_102 : decode cX6_clock 102 = .ok (.getfield 20, 3) := by decide +kernel
theorem dX6_clock_105 : decode cX6_clock 105 = .ok (.iload_n 1, 1) := by decide +kernel
theorem dX6_clock_106 : decode cX6_clock 106 = .ok (.iconst 1, 1) := by decide +kernel
theorem dX6_clock_107 : decode cX6_clock 107 = .ok (.iadd, 1) := by decide +kernel
theorem dX6_clock_108 : decode cX6_clock 108 = .ok (.iaload, 1) := by decide +kernel
theorem dX6_clock_109 : decode cX6_clock 109 = .ok (.aload_n 0, 1) := by decide +kernel
theorem dX6_clock_110 : decode cX6_clock 110 = .ok (.getfield 20, 3) := by decide +kernel
theorem dX6_clock_113 : decode cX6_clock 113 = .ok (.iload_n 1, 1) := by decide +kernel
theorem dX6_clock_114 : decode cX6_clock 114 = .ok (.iaload, 1) := by decide +kernel
theorem dX6_clock_115 : decode cX6_clock 115 = .ok (.if_icmp .eq 13, 3) := by decide +kernel
theorem dX6_clock_118 : decode cX6_clock 118 = .ok (.aload_n 0, 1) := by decide +kernel
theorem dX6_clock_119 : decode cX6_clock 119 = .ok (.aload_n 0, 1) := by decide +kernel
theorem dX6_clock_120 : decode cX6_clock 120 = .ok (.getfield 20, 3) := by decide +kernel
theorem dX6_clock_123 : decode cX6_clock 123 = .ok (.iload_n 1, 1) := by decide +kernel
theorem dX6_clock_124 : decode cX6_clock 124 = .ok (.iaload, 1) := by decide +kernel
theorem dX6_clock_125 : decode cX6_clock 125 = .ok (.invokevirtual 146, 3) := by decide +kernel
theorem dX6_clock_128 : decode cX6_clock 128 = .ok (.iinc 1 1, 3) := by decide +kernel
theorem dX6_clock_131 : decode cX6_clock 131 = .ok (.goto (-86), 3) := by decide +kernel
theorem dX6_clock_134 : decode cX6_clock 134 = .ok (.return_, 1) := by decide +kernel
theorem dX6_busiest_0 : decode cX6_busiest 0 = .ok (.iconst 0, 1) := by decide +kernel
theorem dX6_busiest_1 : decode cX6_busiest 1 = .ok (.istore_n 1, 1) := by decide +kernel
theorem dX6_busiest_2 : decode cX6_busiest 2 = .ok (.iconst 1, 1) := by decide +kernel
theorem dX6_busiest_3 : decode cX6_busiest 3 = .ok (.istore_n 2, 1) := by decide +kernel
theorem dX6_busiest_4 : decode cX6_busiest 4 = .ok (.iload_n 2, 1) := by decide +kernel
theorem dX6_busiest_5 : decode cX6_busiest 5 = .ok (.aload_n 0, 1) := by decide +kernel
theorem dX6_busiest_6 : decode cX6_busiest 6 = .ok (.getfield 7, 3) := by decide +kernel
theorem dX6_busiest_9 : decode cX6_busiest 9 = .ok (.iconst 0, 1) := by decide +kernel
theorem dX6_busiest_10 : decode cX6_busiest 10 = .ok (.iaload, 1) := by decide +kernel
theorem dX6_busiest_11 : decode cX6_busiest 11 = .ok (.if_icmp .ge 30, 3) := by decide +kernel
theorem dX6_busiest_14 : decode cX6_busiest 14 = .ok (.aload_n 0, 1) := by decide +kernel
theorem dX6_busiest_15 : decode cX6_busiest 15 = .ok (.getfield 59, 3) := by decide +kernel
theorem dX6_busiest_18 : decode cX6_busiest 18 = .ok (.iload_n 2, 1) := by decide +kernel
theorem dX6_busiest_19 : decode cX6_busiest 19 = .ok (.iaload, 1) := by decide +kernel
theorem dX6_busiest_20 : decode cX6_busiest 20 = .ok (.aload_n 0, 1) := by decide +kernel
theorem dX6_busiest_21 : decode cX6_busiest 21 = .ok (.getfield 59, 3) := by decide +kernel
theorem dX6_busiest_24 : decode cX6_busiest 24 = .ok (.iload_n 1, 1) := by decide +kernel
theorem dX6_busiest_25 : decode cX6_busiest 25 = .ok (.iaload, 1) := by decide +kernel
theorem dX6_busiest_26 : decode cX6_busiest 26 = .ok (.if_icmp .le 7, 3) := by decide +kernel
theorem dX6_busiest_29 : decode cX6_busiest 29 = .ok (.iload_n 2, 1) := by decide +kernel
theorem dX6_busiest_30 : decode cX6_busiest 30 = .ok (.goto 4, 3) := by decide +kernel
theorem dX6_busiest_33 : decode cX6_busiest 33 = .ok (.iload_n 1, 1) := by decide +kernel
theorem dX6_busiest_34 : decode cX6_busiest 34 = .ok (.istore_n 1, 1) := by decide +kernel
theorem dX6_busiest_35 : decode cX6_busiest 35 = .ok (.iinc 2 1, 3) := by decide +kernel
theorem dX6_busiest_38 : decode cX6_busiest 38 = .ok (.goto (-34), 3) := by decide +kernel
theorem dX6_busiest_41 : decode cX6_busiest 41 = .ok (.iload_n 1, 1) := by decide +kernel
theorem dX6_busiest_42 : decode cX6_busiest 42 = .ok (.ireturn, 1) := by decide +kernel
theorem dX6_numbers_0 : decode cX6_numbers 0 = .ok (.iconst 0, 1) := by decide +kernel
theorem dX6_numbers_1 : decode cX6_numbers 1 = .ok (.istore_n 1, 1) := by decide +kernel
theorem dX6_numbers_2 : decode cX6_numbers 2 = .ok (.iconst 0, 1) := by decide +kernel
theorem dX6_numbers_3 : decode cX6_numbers 3 = .ok (.istore_n 2, 1) := by decide +kernel
theorem dX6_numbers_4 : decode cX6_numbers 4 = .ok (.iload_n 2, 1) := by decide +kernel
theorem dX6_numbers_5 : decode cX6_numbers 5 = .ok (.aload_n 0, 1) := by decide +kernel
theorem dX6_numbers_6 : decode cX6_numbers 6 = .ok (.getfield 84, 3) := by decide +kernel
theorem dX6_numbers_9 : decode cX6_numbers 9 = .ok (.if_icmp .ge 18, 3) := by decide +kernel
theorem dX6_numbers_12 : decode cX6_numbers 12 = .ok (.iload_n 1, 1) := by decide +kernel
theorem dX6_numbers_13 : decode cX6_numbers 13 = .ok (.aload_n 0, 1) := by decide +kernel
theorem dX6_numbers_14 : decode cX6_numbers 14 = .ok (.getfield 32, 3) := by decide +kernel
theorem dX6_numbers_17 : decode cX6_numbers 17 = .ok (.iload_n 2, 1) := by decide +kernel
theorem dX6_numbers_18 : decode cX6_numbers 18 = .ok (.iaload, 1) := by decide +kernel
theorem dX6_numbers_19 : decode cX6_numbers 19 = .ok (.iadd, 1) := by decide +kernel
theorem dX6_numbers_20 : decode cX6_numbers 20 = .ok (.istore_n 1, 1) := by decide +kernel
theorem dX6_numbers_21 : decode cX6_numbers 21 = .ok (.iinc 2 1, 3) := by decide +kernel
theorem dX6_numbers_24 : decode cX6_numbers 24 = .ok (.goto (-20), 3) := by decide +kernel
theorem dX6_numbers_27 : decode cX6_numbers 27 = .ok (.iload_n 1, 1) := by decide +kernel
theorem dX6_numbers_28 : decode cX6_numbers 28 = .ok (.ireturn, 1) := by decide +kernel
theorem dX6_way_0 : decode cX6_way 0 = .ok (.iload_n 1, 1) := by decide +kernel
theorem dX6_way_1 : decode cX6_way 1 = .ok (.invokestatic 149, 3) := by decide +kernel
theorem dX6_way_4 : decode cX6_way 4 = .ok (.ifCond .ne 5, 3) := by decide +kernel
theorem dX6_way_7 : decode cX6_way 7 = .ok (.iconst (-1), 1) := by decide +kernel
theorem dX6_way_8 : decode cX6_way 8 = .ok (.ireturn, 1) := by decide +kernel
theorem dX6_way_9 : decode cX6_way 9 = .ok (.aload_n 0, 1) := by decide +kernel
theorem dX6_way_10 : decode cX6_way 10 = .ok (.iload_n 1, 1) := by decide +kernel
theorem dX6_way_11 : decode cX6_way 11 = .ok (.aload_n 0, 1) := by decide +kernel
theorem dX6_way_12 : decode cX6_way 12 = .ok (.getfield 7, 3) := by decide +kernel
theorem dX6_way_15 : decode cX6_way 15 = .ok (.iconst 1, 1) := by decide +kernel
theorem dX6_way_16 : decode cX6_way 16 = .ok (.iaload, 1) := by decide +kernel
theorem dX6_way_17 : decode cX6_way 17 = .ok (.invokevirtual 152, 3) := by decide +kernel
theorem dX6_way_20 : decode cX6_way 20 = .ok (.aload_n 0, 1) := by decide +kernel
theorem dX6_way_21 : decode cX6_way 21 = .ok (.invokevirtual 155, 3) := by decide +kernel
theorem dX6_way_24 : decode cX6_way 24 = .ok (.iload_n 2, 1) := by decide +kernel
theorem dX6_way_25 : decode cX6_way 25 = .ok (.tableswitch 69 0 5 #[39, 44, 49, 54, 59, 64], 39) := by decide +kernel
theorem dX6_way_64 : decode cX6_way 64 = .ok (.aload_n 0, 1) := by decide +kernel
theorem dX6_way_65 : decode cX6_way 65 = .ok (.getfield 88, 3) := by decide +kernel
theorem dX6_way_68 : decode cX6_way 68 = .ok (.ireturn, 1) := by decide +kernel
theorem dX6_way_69 : decode cX6_way 69 = .ok (.aload_n 0, 1) := by decide +kernel
theorem dX6_way_70 : decode cX6_way 70 = .ok (.getfield 84, 3) := by decide +kernel
theorem dX6_way_73 : decode cX6_way 73 = .ok (.ireturn, 1) := by decide +kernel
theorem dX6_way_74 : decode cX6_way 74 = .ok (.aload_n 0, 1) := by decide +kernel
theorem dX6_way_75 : decode cX6_way 75 = .ok (.invokevirtual 158, 3) := by decide +kernel
theorem dX6_way_78 : decode cX6_way 78 = .ok (.ireturn, 1) := by decide +kernel
theorem dX6_way_79 : decode cX6_way 79 = .ok (.aload_n 0, 1) := by decide +kernel
theorem dX6_way_80 : decode cX6_way 80 = .ok (.getfield 140, 3) := by decide +kernel
theorem dX6_way_83 : decode cX6_way 83 = .ok (.ireturn, 1) := by decide +kernel
theorem dX6_way_84 : decode cX6_way 84 = .ok (.aload_n 0, 1) := by decide +kernel
theorem dX6_way_85 : decode cX6_way 85 = .ok (.getfield 137, 3) := by decide +kernel
theorem dX6_way_88 : decode cX6_way 88 = .ok (.ireturn, 1) := by decide +kernel
theorem dX6_way_89 : decode cX6_way 89 = .ok (.aload_n 0, 1) := by decide +kernel
theorem dX6_way_90 : decode cX6_way 90 = .ok (.invokevirtual 162, 3) := by decide +kernel
theorem dX6_way_93 : decode cX6_way 93 = .ok (.ireturn, 1) := by decide +kernel
theorem dX6_way_94 : decode cX6_way 94 = .ok (.bipush (-2), 2) := by decide +kernel
theorem dX6_way_96 : decode cX6_way 96 = .ok (.ireturn, 1) := by decide +kernel
theorem dX6_letter_0 : decode cX6_letter 0 = .ok (.iload_n 1, 1) := by decide +kernel
theorem dX6_letter_1 : decode cX6_letter 1 = .ok (.invokestatic 149, 3) := by decide +kernel
theorem dX6_letter_4 : decode cX6_letter 4 = .ok (.ifCond .ne 5, 3) := by decide +kernel
theorem dX6_letter_7 : decode cX6_letter 7 = .ok (.iconst (-1), 1) := by decide +kernel
theorem dX6_letter_8 : decode cX6_letter 8 = .ok (.ireturn, 1) := by decide +kernel
theorem dX6_letter_9 : decode cX6_letter 9 = .ok (.iload_n 3, 1) := by decide +kernel
theorem dX6_letter_10 : decode cX6_letter 10 = .ok (.iconst 0, 1) := by decide +kernel
theorem dX6_letter_11 : decode cX6_letter 11 = .ok (.bipush 6, 2) := by decide +kernel
theorem dX6_letter_13 : decode cX6_letter 13 = .ok (.invokestatic 69, 3) := by decide +kernel
theorem dX6_letter_16 : decode cX6_letter 16 = .ok (.ifCond .ne 6, 3) := by decide +kernel
theorem dX6_letter_19 : decode cX6_letter 19 = .ok (.bipush (-2), 2) := by decide +kernel
theorem dX6_letter_21 : decode cX6_letter 21 = .ok (.ireturn, 1) := by decide +kernel
theorem dX6_letter_22 : decode cX6_letter 22 = .ok (.aload_n 0, 1) := by decide +kernel
theorem dX6_letter_23 : decode cX6_letter 23 = .ok (.iload_n 1, 1) := by decide +kernel
theorem dX6_letter_24 : decode cX6_letter 24 = .ok (.aload_n 0, 1) := by decide +kernel
theorem dX6_letter_25 : decode cX6_letter 25 = .ok (.getfield 7, 3) := by decide +kernel
theorem dX6_letter_28 : decode cX6_letter 28 = .ok (.iconst 1, 1) := by decide +kernel
theorem dX6_letter_29 : decode cX6_letter 29 = .ok (.iaload, 1) := by decide +kernel
theorem dX6_letter_30 : decode cX6_letter 30 = .ok (.invokevirtual 152, 3) := by decide +kernel
theorem dX6_letter_33 : decode cX6_letter 33 = .ok (.iload_n 2, 1) := by decide +kernel
theorem dX6_letter_34 : decode cX6_letter 34 = .ok (.iconst 0, 1) := by decide +kernel
theorem dX6_letter_35 : decode cX6_letter 35 = .ok (.aload_n 0, 1) := by decide +kernel
theorem dX6_letter_36 : decode cX6_letter 36 = .ok (.getfield 84, 3) := by decide +kernel
theorem dX6_letter_39 : decode cX6_letter 39 = .ok (.iconst 1, 1) := by decide +kernel
theorem dX6_letter_40 : decode cX6_letter 40 = .ok (.isub, 1) := by decide +kernel
theorem dX6_letter_41 : decode cX6_letter 41 = .ok (.invokestatic 69, 3) := by decide +kernel
theorem dX6_letter_44 : decode cX6_letter 44 = .ok (.ifCond .ne 6, 3) := by decide +kernel
theorem dX6_letter_47 : decode cX6_letter 47 = .ok (.bipush (-6), 2) := by decide +kernel
theorem dX6_letter_49 : decode cX6_letter 49 = .ok (.ireturn, 1) := by decide +kernel
theorem dX6_letter_50 : decode cX6_letter 50 = .ok (.iload_n 3, 1) := by decide +kernel
theorem dX6_letter_51 : decode cX6_letter 51 = .ok (.tableswitch 79 0 5 #[37, 44, 51, 58, 65, 72], 37) := by decide +kernel
theorem dX6_letter_88 : decode cX6_letter 88 = .ok (.aload_n 0, 1) := by decide +kernel
theorem dX6_letter_89 : decode cX6_letter 89 = .ok (.getfield 20, 3) := by decide +kernel
theorem dX6_letter_92 : decode cX6_letter 92 = .ok (.iload_n 2, 1) := by decide +kernel
theorem dX6_letter_93 : decode cX6_letter 93 = .ok (.iaload, 1) := by decide +kernel
theorem dX6_letter_94 : decode cX6_letter 94 = .ok (.ireturn, 1) := by decide +kernel
theorem dX6_letter_95 : decode cX6_letter 95 = .ok (.aload_n 0, 1) := by decide +kernel
theorem dX6_letter_96 : decode cX6_letter 96 = .ok (.getfield 23, 3) := by decide +kernel
theorem dX6_letter_99 : decode cX6_letter 99 = .ok (.iload_n 2, 1) := by decide +kernel
theorem dX6_letter_100 : decode cX6_letter 100 = .ok (.iaload, 1) := by decide +kernel
theorem dX6_letter_101 : decode cX6_letter 101 = .ok (.ireturn, 1) := by decide +kernel
theorem dX6_letter_102 : decode cX6_letter 102 = .ok (.aload_n 0, 1) := by decide +kernel
theorem dX6_letter_103 : decode cX6_letter 103 = .ok (.getfield 26, 3) := by decide +kernel
theorem dX6_letter_106 : decode cX6_letter 106 = .ok (.iload_n 2, 1) := by decide +kernel
theorem dX6_letter_107 : decode cX6_letter 107 = .ok (.iaload, 1) := by decide +kernel
theorem dX6_letter_108 : decode cX6_letter 108 = .ok (.ireturn, 1) := by decide +kernel
theorem dX6_letter_109 : decode cX6_letter 109 = .ok (.aload_n 0, 1) := by decide +kernel
theorem dX6_letter_110 : decode cX6_letter 110 = .ok (.getfield 29, 3) := by decide +kernel
theorem dX6_letter_113 : decode cX6_letter 113 = .ok (.iload_n 2, 1) := by decide +kernel
theorem dX6_letter_114 : decode cX6_letter 114 = .ok (.iaload, 1) := by decide +kernel
theorem dX6_letter_115 : decode cX6_letter 115 = .ok (.ireturn, 1) := by decide +kernel
theorem dX6_letter_116 : decode cX6_letter 116 = .ok (.aload_n 0, 1) := by decide +kernel
theorem dX6_letter_117 : decode cX6_letter 117 = .ok (.getfield 32, 3) := by decide +kernel
theorem dX6_letter_120 : decode cX6_letter 120 = .ok (.iload_n 2, 1) := by decide +kernel
theorem dX6_letter_121 : decode cX6_letter 121 = .ok (.iaload, 1) := by decide +kernel
theorem dX6_letter_122 : decode cX6_letter 122 = .ok (.ireturn, 1) := by decide +kernel
theorem dX6_letter_123 : decode cX6_letter 123 = .ok (.aload_n 0, 1) := by decide +kernel
theorem dX6_letter_124 : decode cX6_letter 124 = .ok (.getfield 35, 3) := by decide +kernel
theorem dX6_letter_127 : decode cX6_letter 127 = .ok (.iload_n 2, 1) := by decide +kernel
theorem dX6_letter_128 : decode cX6_letter 128 = .ok (.iaload, 1) := by decide +kernel
theorem dX6_letter_129 : decode cX6_letter 129 = .ok (.ireturn, 1) := by decide +kernel
theorem dX6_letter_130 : decode cX6_letter 130 = .ok (.aload_n 0, 1) := by decide +kernel
theorem dX6_letter_131 : decode cX6_letter 131 = .ok (.iload_n 2, 1) := by decide +kernel
theorem dX6_letter_132 : decode cX6_letter 132 = .ok (.invokevirtual 143, 3) := by decide +kernel
theorem dX6_letter_135 : decode cX6_letter 135 = .ok (.ireturn, 1) := by decide +kernel
theorem dX6_behind_0 : decode cX6_behind 0 = .ok (.iload_n 1, 1) := by decide +kernel
theorem dX6_behind_1 : decode cX6_behind 1 = .ok (.invokestatic 149, 3) := by decide +kernel
theorem dX6_behind_4 : decode cX6_behind 4 = .ok (.ifCond .eq 11, 3) := by decide +kernel
theorem dX6_behind_7 : decode cX6_behind 7 = .ok (.aload_n 0, 1) := by decide +kernel
theorem dX6_behind_8 : decode cX6_behind 8 = .ok (.iload_n 3, 1) := by decide +kernel
theorem dX6_behind_9 : decode cX6_behind 9 = .ok (.invokevirtual 73, 3) := by decide +kernel
theorem dX6_behind_12 : decode cX6_behind 12 = .ok (.ifCond .ne 5, 3) := by decide +kernel
theorem dX6_behind_15 : decode cX6_behind 15 = .ok (.iconst (-1), 1) := by decide +kernel
theorem dX6_behind_16 : decode cX6_behind 16 = .ok (.ireturn, 1) := by decide +kernel
theorem dX6_behind_17 : decode cX6_behind 17 = .ok (.iload_n 2, 1) := by decide +kernel
theorem dX6_behind_18 : decode cX6_behind 18 = .ok (.ifCond .ge 6, 3) := by decide +kernel
theorem dX6_behind_21 : decode cX6_behind 21 = .ok (.bipush (-2), 2) := by decide +kernel
theorem dX6_behind_23 : decode cX6_behind 23 = .ok (.ireturn, 1) := by decide +kernel
theorem dX6_behind_24 : decode cX6_behind 24 = .ok (.aload_n 0, 1) := by decide +kernel
theorem dX6_behind_25 : decode cX6_behind 25 = .ok (.iload 4, 2) := by decide +kernel
theorem dX6_behind_27 : decode cX6_behind 27 = .ok (.invokevirtual 77, 3) := by decide +kernel
theorem dX6_behind_30 : decode cX6_behind 30 = .ok (.ifCond .ne 6, 3) := by decide +kernel
theorem dX6_behind_33 : decode cX6_behind 33 = .ok (.bipush (-6), 2) := by decide +kernel
theorem dX6_behind_35 : decode cX6_behind 35 = .ok (.ireturn, 1) := by decide +kernel
theorem dX6_behind_36 : decode cX6_behind 36 = .ok (.aload_n 0, 1) := by decide +kernel
theorem dX6_behind_37 : decode cX6_behind 37 = .ok (.iload_n 1, 1) := by decide +kernel
theorem dX6_behind_38 : decode cX6_behind 38 = .ok (.aload_n 0, 1) := by decide +kernel
theorem dX6_behind_39 : decode cX6_behind 39 = .ok (.getfield 7, 3) := by decide +kernel
theorem dX6_behind_42 : decode cX6_behind 42 = .ok (.iconst 1, 1) := by decide +kernel
theorem dX6_behind_43 : decode cX6_behind 43 = .ok (.iaload, 1) := by decide +kernel
theorem dX6_behind_44 : decode cX6_behind 44 = .ok (.invokevirtual 152, 3) := by decide +kernel
theorem dX6_behind_47 : decode cX6_behind 47 = .ok (.aload_n 0, 1) := by decide +kernel
theorem dX6_behind_48 : decode cX6_behind 48 = .ok (.iload_n 2, 1) := by decide +kernel
theorem dX6_behind_49 : decode cX6_behind 49 = .ok (.bipush (-6), 2) := by decide +kernel
theorem dX6_behind_51 : decode cX6_behind 51 = .ok (.invokevirtual 165, 3) := by decide +kernel
theorem dX6_behind_54 : decode cX6_behind 54 = .ok (.aload_n 0, 1) := by decide +kernel
theorem dX6_behind_55 : decode cX6_behind 55 = .ok (.getfield 50, 3) := by decide +kernel
theorem dX6_behind_58 : decode cX6_behind 58 = .ok (.iload_n 3, 1) := by decide +kernel
theorem dX6_behind_59 : decode cX6_behind 59 = .ok (.iload 4, 2) := by decide +kernel
theorem dX6_behind_61 : decode cX6_behind 61 = .ok (.invokestatic 80, 3) := by decide +kernel
theorem dX6_behind_64 : decode cX6_behind 64 = .ok (.iaload, 1) := by decide +kernel
theorem dX6_behind_65 : decode cX6_behind 65 = .ok (.ireturn, 1) := by decide +kernel
theorem dX6_goAll_0 : decode cX6_goAll 0 = .ok (.aload_n 0, 1) := by decide +kernel
theorem dX6_goAll_1 : decode cX6_goAll 1 = .ok (.iload_n 1, 1) := by decide +kernel
theorem dX6_goAll_2 : decode cX6_goAll 2 = .ok (.aload_n 0, 1) := by decide +kernel
theorem dX6_goAll_3 : decode cX6_goAll 3 = .ok (.getfield 7, 3) := by decide +kernel
theorem dX6_goAll_6 : decode cX6_goAll 6 = .ok (.iconst 1, 1) := by decide +kernel
theorem dX6_goAll_7 : decode cX6_goAll 7 = .ok (.iaload, 1) := by decide +kernel
theorem dX6_goAll_8 : decode cX6_goAll 8 = .ok (.invokevirtual 152, 3) := by decide +kernel
theorem dX6_goAll_11 : decode cX6_goAll 11 = .ok (.aload_n 0, 1) := by decide +kernel
theorem dX6_goAll_12 : decode cX6_goAll 12 = .ok (.aload_n 0, 1) := by decide +kernel
theorem dX6_goAll_13 : decode cX6_goAll 13 = .ok (.getfield 88, 3) := by decide +kernel
theorem dX6_goAll_16 : decode cX6_goAll 16 = .ok (.iload_n 2, 1) := by decide +kernel
theorem dX6_goAll_17 : decode cX6_goAll 17 = .ok (.invokevirtual 165, 3) := by decide +kernel
theorem dX6_goAll_20 : decode cX6_goAll 20 = .ok (.return_, 1) := by decide +kernel
theorem dX6_allMixed_0 : decode cX6_allMixed 0 = .ok (.aload_n 0, 1) := by decide +kernel
theorem dX6_allMixed_1 : decode cX6_allMixed 1 = .ok (.getfield 7, 3) := by decide +kernel
theorem dX6_allMixed_4 : decode cX6_allMixed 4 = .ok (.bipush 86, 2) := by decide +kernel
theorem dX6_allMixed_6 : decode cX6_allMixed 6 = .ok (.iload_n 1, 1) := by decide +kernel
theorem dX6_allMixed_7 : decode cX6_allMixed 7 = .ok (.iadd, 1) := by decide +kernel
theorem dX6_allMixed_8 : decode cX6_allMixed 8 = .ok (.iaload, 1) := by decide +kernel
theorem dX6_allMixed_9 : decode cX6_allMixed 9 = .ok (.istore_n 2, 1) := by decide +kernel
theorem dX6_allMixed_10 : decode cX6_allMixed 10 = .ok (.iconst 1, 1) := by decide +kernel
theorem dX6_allMixed_11 : decode cX6_allMixed 11 = .ok (.istore_n 3, 1) := by decide +kernel
theorem dX6_allMixed_12 : decode cX6_allMixed 12 = .ok (.iload_n 3, 1) := by decide +kernel
theorem dX6_allMixed_13 : decode cX6_allMixed 13 = .ok (.aload_n 0, 1) := by decide +kernel
theorem dX6_allMixed_14 : decode cX6_allMixed 14 = .ok (.getfield 7, 3) := by decide +kernel
theorem dX6_allMixed_17 : decode cX6_allMixed 17 = .ok (.iconst 0, 1) := by decide +kernel
theorem dX6_allMixed_18 : decode cX6_allMixed 18 = .ok (.iaload, 1) := by decide +kernel
theorem dX6_allMixed_19 : decode cX6_allMixed 19 = .ok (.if_icmp .ge 28, 3) := by decide +kernel
theorem dX6_allMixed_22 : decode cX6_allMixed 22 = .ok (.aload_n 0, 1) := by decide +kernel
theorem dX6_allMixed_23 : decode cX6_allMixed 23 = .ok (.iload_n 2, 1) := by decide +kernel
theorem dX6_allMixed_24 : decode cX6_allMixed 24 = .ok (.aload_n 0, 1) := by decide +kernel
theorem dX6_allMixed_25 : decode cX6_allMixed 25 = .ok (.getfield 7, 3) := by decide +kernel
theorem dX6_allMixed_28 : decode cX6_allMixed 28 = .ok (.bipush 86, 2) := by decide +kernel
theorem dX6_allMixed_30 : decode cX6_allMixed 30 = .ok (.iload_n 3, 1) := by decide +kernel
theorem dX6_allMixed_31 : decode cX6_allMixed 31 = .ok (.iload_n 1, 1) := by decide +kernel
theorem dX6_allMixed_32 : decode cX6_allMixed 32 = .ok (.invokestatic 80, 3) := by decide +kernel
theorem dX6_allMixed_35 : decode cX6_allMixed 35 = .ok (.iadd, 1) := by decide +kernel
theorem dX6_allMixed_36 : decode cX6_allMixed 36 = .ok (.iaload, 1) := by decide +kernel
theorem dX6_allMixed_37 : decode cX6_allMixed 37 = .ok (.invokevirtual 125, 3) := by decide +kernel
theorem dX6_allMixed_40 : decode cX6_allMixed 40 = .ok (.istore_n 2, 1) := by decide +kernel
theorem dX6_allMixed_41 : decode cX6_allMixed 41 = .ok (.iinc 3 1, 3) := by decide +kernel
theorem dX6_allMixed_44 : decode cX6_allMixed 44 = .ok (.goto (-32), 3) := by decide +kernel
theorem dX6_allMixed_47 : decode cX6_allMixed 47 = .ok (.iload_n 2, 1) := by decide +kernel
theorem dX6_allMixed_48 : decode cX6_allMixed 48 = .ok (.ireturn, 1) := by decide +kernel
theorem dX6_same_0 : decode cX6_same 0 = .ok (.iload_n 1, 1) := by decide +kernel
theorem dX6_same_1 : decode cX6_same 1 = .ok (.invokestatic 149, 3) := by decide +kernel
theorem dX6_same_4 : decode cX6_same 4 = .ok (.ifCond .ne 5, 3) := by decide +kernel
theorem dX6_same_7 : decode cX6_same 7 = .ok (.iconst (-1), 1) := by decide +kernel
theorem dX6_same_8 : decode cX6_same 8 = .ok (.ireturn, 1) := by decide +kernel
theorem dX6_same_9 : decode cX6_same 9 = .ok (.iload_n 2, 1) := by decide +kernel
theorem dX6_same_10 : decode cX6_same 10 = .ok (.iconst 0, 1) := by decide +kernel
theorem dX6_same_11 : decode cX6_same 11 = .ok (.iconst 1, 1) := by decide +kernel
theorem dX6_same_12 : decode cX6_same 12 = .ok (.invokestatic 69, 3) := by decide +kernel
theorem dX6_same_15 : decode cX6_same 15 = .ok (.ifCond .ne 6, 3) := by decide +kernel
theorem dX6_same_18 : decode cX6_same 18 = .ok (.bipush (-2), 2) := by decide +kernel
theorem dX6_same_20 : decode cX6_same 20 = .ok (.ireturn, 1) := by decide +kernel
theorem dX6_same_21 : decode cX6_same 21 = .ok (.aload_n 0, 1) := by decide +kernel
theorem dX6_same_22 : decode cX6_same 22 = .ok (.iload_n 1, 1) := by decide +kernel
theorem dX6_same_23 : decode cX6_same 23 = .ok (.bipush (-6), 2) := by decide +kernel
theorem dX6_same_25 : decode cX6_same 25 = .ok (.invokevirtual 168, 3) := by decide +kernel
theorem dX6_same_28 : decode cX6_same 28 = .ok (.iconst 1, 1) := by decide +kernel
theorem dX6_same_29 : decode cX6_same 29 = .ok (.istore_n 3, 1) := by decide +kernel
theorem dX6_same_30 : decode cX6_same 30 = .ok (.iconst 0, 1) := by decide +kernel
theorem dX6_same_31 : decode cX6_same 31 = .ok (.istore 4, 2) := by decide +kernel
theorem dX6_same_33 : decode cX6_same 33 = .ok (.iconst 0, 1) := by decide +kernel
theorem dX6_same_34 : decode cX6_same 34 = .ok (.istore 5, 2) := by decide +kernel
theorem dX6_same_36 : decode cX6_same 36 = .ok (.iload 5, 2) := by decide +kernel
theorem dX6_same_38 : decode cX6_same 38 = .ok (.aload_n 0, 1) := by decide +kernel
theorem dX6_same_39 : decode cX6_same 39 = .ok (.getfield 7, 3) := by decide +kernel
theorem dX6_same_42 : decode cX6_same 42 = .ok (.iconst 1, 1) := by decide +kernel
theorem dX6_same_43 : decode cX6_same 43 = .ok (.iaload, 1) := by decide +kernel
theorem dX6_same_44 : decode cX6_same 44 = .ok (.if_icmp .ge 87, 3) := by decide +kernel
theorem dX6_same_47 : decode cX6_same 47 = .ok (.iconst 1, 1) := by decide +kernel
theorem dX6_same_48 : decode cX6_same 48 = .ok (.istore 6, 2) := by decide +kernel
theorem dX6_same_50 : decode cX6_same 50 = .ok (.iload 6, 2) := by decide +kernel
theorem dX6_same_52 : decode cX6_same 52 = .ok (.aload_n 0, 1) := by decide +kernel
theorem dX6_same_53 : decode cX6_same 53 = .ok (.getfield 7, 3) := by decide +kernel
theorem dX6_same_56 : decode cX6_same 56 = .ok (.iconst 0, 1) := by decide +kernel
theorem dX6_same_57 : decode cX6_same 57 = .ok (.iaload, 1) := by decide +kernel
theorem dX6_same_58 : decode cX6_same 58 = .ok (.if_icmp .ge 41, 3) := by decide +kernel
theorem dX6_same_61 : decode cX6_same 61 = .ok (.iload_n 3, 1) := by decide +kernel
theorem dX6_same_62 : decode cX6_same 62 = .ok (.ifCond .eq 29, 3) := by decide +kernel
theorem dX6_same_65 : decode cX6_same 65 = .ok (.aload_n 0, 1) := by decide +kernel
theorem dX6_same_66 : decode cX6_same 66 = .ok (.getfield 50, 3) := by decide +kernel
theorem dX6_same_69 : decode cX6_same 69 = .ok (.iload 6, 2) := by decide +kernel
theorem dX6_same_71 : decode cX6_same 71 = .ok (.iload 5, 2) := by decide +kernel
theorem dX6_same_73 : decode cX6_same 73 = .ok (.invokestatic 80, 3) := by decide +kernel
theorem dX6_same_76 : decode cX6_same 76 = .ok (.iaload, 1) := by decide +kernel
theorem dX6_same_77 : decode cX6_same 77 = .ok (.aload_n 0, 1) := by decide +kernel
theorem dX6_same_78 : decode cX6_same 78 = .ok (.getfield 50, 3) := by decide +kernel
theorem dX6_same_81 : decode cX6_same 81 = .ok (.iload 5, 2) := by decide +kernel
theorem dX6_same_83 : decode cX6_same 83 = .ok (.iaload, 1) := by decide +kernel
theorem dX6_same_84 : decode cX6_same 84 = .ok (.if_icmp .ne 7, 3) := by decide +kernel
theorem dX6_same_87 : decode cX6_same 87 = .ok (.iconst 1, 1) := by decide +kernel
theorem dX6_same_88 : decode cX6_same 88 = .ok (.goto 4, 3) := by decide +kernel
theorem dX6_same_91 : decode cX6_same 91 = .ok (.iconst 0, 1) := by decide +kernel
theorem dX6_same_92 : decode cX6_same 92 = .ok (.istore_n 3, 1) := by decide +kernel
theorem dX6_same_93 : decode cX6_same 93 = .ok (.iinc 6 1, 3) := by decide +kernel
theorem dX6_same_96 : decode cX6_same 96 = .ok (.goto (-46), 3) := by decide +kernel
theorem dX6_same_99 : decode cX6_same 99 = .ok (.iload 4, 2) := by decide +kernel
theorem dX6_same_101 : decode cX6_same 101 = .ok (.aload_n 0, 1) := by decide +kernel
theorem dX6_same_102 : decode cX6_same 102 = .ok (.getfield 50, 3) := by decide +kernel
theorem dX6_same_105 : decode cX6_same 105 = .ok (.iload 5, 2) := by decide +kernel
theorem dX6_same_107 : decode cX6_same 107 = .ok (.iaload, 1) := by decide +kernel
theorem dX6_same_108 : decode cX6_same 108 = .ok (.aload_n 0, 1) := by decide +kernel
theorem dX6_same_109 : decode cX6_same 109 = .ok (.iload 5, 2) := by decide +kernel
theorem dX6_same_111 : decode cX6_same 111 = .ok (.invokevirtual 171, 3) := by decide +kernel
theorem dX6_same_114 : decode cX6_same 114 = .ok (.if_icmp .ne 7, 3) := by decide +kernel
theorem dX6_same_117 : decode cX6_same 117 = .ok (.iconst 1, 1) := by decide +kernel
theorem dX6_same_118 : decode cX6_same 118 = .ok (.goto 4, 3) := by decide +kernel
theorem dX6_same_121 : decode cX6_same 121 = .ok (.iconst 0, 1) := by decide +kernel
theorem dX6_same_122 : decode cX6_same 122 = .ok (.iadd, 1) := by decide +kernel
theorem dX6_same_123 : decode cX6_same 123 = .ok (.istore 4, 2) := by decide +kernel
theorem dX6_same_125 : decode cX6_same 125 = .ok (.iinc 5 1, 3) := by decide +kernel
theorem dX6_same_128 : decode cX6_same 128 = .ok (.goto (-92), 3) := by decide +kernel
theorem dX6_same_131 : decode cX6_same 131 = .ok (.iload_n 2, 1) := by decide +kernel
theorem dX6_same_132 : decode cX6_same 132 = .ok (.iconst 1, 1) := by decide +kernel
theorem dX6_same_133 : decode cX6_same 133 = .ok (.if_icmp .ne 8, 3) := by decide +kernel
theorem dX6_same_136 : decode cX6_same 136 = .ok (.iload 4, 2) := by decide +kernel
theorem dX6_same_138 : decode cX6_same 138 = .ok (.goto 12, 3) := by decide +kernel
theorem dX6_same_141 : decode cX6_same 141 = .ok (.iload_n 3, 1) := by decide +kernel
theorem dX6_same_142 : decode cX6_same 142 = .ok (.ifCond .eq 7, 3) := by decide +kernel
theorem dX6_same_145 : decode cX6_same 145 = .ok (.iconst 1, 1) := by decide +kernel
theorem dX6_same_146 : decode cX6_same 146 = .ok (.goto 4, 3) := by decide +kernel
theorem dX6_same_149 : decode cX6_same 149 = .ok (.iconst 0, 1) := by decide +kernel
theorem dX6_same_150 : decode cX6_same 150 = .ok (.ireturn, 1) := by decide +kernel
theorem dX6_keepEnd_0 : decode cX6_keepEnd 0 = .ok (.iconst 0, 1) := by decide +kernel
theorem dX6_keepEnd_1 : decode cX6_keepEnd 1 = .ok (.istore_n 1, 1) := by decide +kernel
theorem dX6_keepEnd_2 : decode cX6_keepEnd 2 = .ok (.iload_n 1, 1) := by decide +kernel
theorem dX6_keepEnd_3 : decode cX6_keepEnd 3 = .ok (.bipush 108, 2) := by decide +kernel
theorem dX6_keepEnd_5 : decode cX6_keepEnd 5 = .ok (.if_icmp .ge 21, 3) := by decide +kernel
theorem dX6_keepEnd_8 : decode cX6_keepEnd 8 = .ok (.aload_n 0, 1) := by decide +kernel
theorem dX6_keepEnd_9 : decode cX6_keepEnd 9 = .ok (.getfield 62, 3) := by decide +kernel
theorem dX6_keepEnd_12 : decode cX6_keepEnd 12 = .ok (.iload_n 1, 1) := by decide +kernel
theorem dX6_keepEnd_13 : decode cX6_keepEnd 13 = .ok (.aload_n 0, 1) := by decide +kernel
theorem dX6_keepEnd_14 : decode cX6_keepEnd 14 = .ok (.getfield 50, 3) := by decide +kernel
theorem dX6_keepEnd_17 : decode cX6_keepEnd 17 = .ok (.iload_n 1, 1) := by decide +kernel
theorem dX6_keepEnd_18 : decode cX6_keepEnd 18 = .ok (.iaload, 1) := by decide +kernel
theorem dX6_keepEnd_19 : decode cX6_keepEnd 19 = .ok (.iastore, 1) := by decide +kernel
theorem dX6_keepEnd_20 : decode cX6_keepEnd 20 = .ok (.iinc 1 1, 3) := by decide +kernel
theorem dX6_keepEnd_23 : decode cX6_keepEnd 23 = .ok (.goto (-21), 3) := by decide +kernel
theorem dX6_keepEnd_26 : decode cX6_keepEnd 26 = .ok (.return_, 1) := by decide +kernel
theorem dX6_alike_0 : decode cX6_alike 0 = .ok (.iload_n 1, 1) := by decide +kernel
theorem dX6_alike_1 : decode cX6_alike 1 = .ok (.invokestatic 149, 3) := by decide +kernel
theorem dX6_alike_4 : decode cX6_alike 4 = .ok (.ifCond .eq 10, 3) := by decide +kernel
theorem dX6_alike_7 : decode cX6_alike 7 = .ok (.iload_n 2, 1) := by decide +kernel
theorem dX6_alike_8 : decode cX6_alike 8 = .ok (.invokestatic 149, 3) := by decide +kernel
theorem dX6_alike_11 : decode cX6_alike 11 = .ok (.ifCond .ne 5, 3) := by decide +kernel
theorem dX6_alike_14 : decode cX6_alike 14 = .ok (.iconst (-1), 1) := by decide +kernel
theorem dX6_alike_15 : decode cX6_alike 15 = .ok (.ireturn, 1) := by decide +kernel
theorem dX6_alike_16 : decode cX6_alike 16 = .ok (.aload_n 0, 1) := by decide +kernel
theorem dX6_alike_17 : decode cX6_alike 17 = .ok (.iload_n 1, 1) := by decide +kernel
theorem dX6_alike_18 : decode cX6_alike 18 = .ok (.bipush (-6), 2) := by decide +kernel
theorem dX6_alike_20 : decode cX6_alike 20 = .ok (.invokevirtual 168, 3) := by decide +kernel
theorem dX6_alike_23 : decode cX6_alike 23 = .ok (.aload_n 0, 1) := by decide +kernel
theorem dX6_alike_24 : decode cX6_alike 24 = .ok (.invokevirtual 174, 3) := by decide +kernel
theorem dX6_alike_27 : decode cX6_alike 27 = .ok (.aload_n 0, 1) := by decide +kernel
theorem dX6_alike_28 : decode cX6_alike 28 = .ok (.iload_n 2, 1) := by decide +kernel
theorem dX6_alike_29 : decode cX6_alike 29 = .ok (.bipush (-6), 2) := by decide +kernel
theorem dX6_alike_31 : decode cX6_alike 31 = .ok (.invokevirtual 168, 3) := by decide +kernel
theorem dX6_alike_34 : decode cX6_alike 34 = .ok (.iconst 1, 1) := by decide +kernel
theorem dX6_alike_35 : decode cX6_alike 35 = .ok (.istore_n 3, 1) := by decide +kernel
theorem dX6_alike_36 : decode cX6_alike 36 = .ok (.iconst 0, 1) := by decide +kernel
theorem dX6_alike_37 : decode cX6_alike 37 = .ok (.istore 4, 2) := by decide +kernel
theorem dX6_alike_39 : decode cX6_alike 39 = .ok (.iload 4, 2) := by decide +kernel
theorem dX6_alike_41 : decode cX6_alike 41 = .ok (.aload_n 0, 1) := by decide +kernel
theorem dX6_alike_42 : decode cX6_alike 42 = .ok (.getfield 7, 3) := by decide +kernel
theorem dX6_alike_45 : decode cX6_alike 45 = .ok (.iconst 1, 1) := by decide +kernel
theorem dX6_alike_46 : decode cX6_alike 46 = .ok (.iaload, 1) := by decide +kernel
theorem dX6_alike_47 : decode cX6_alike 47 = .ok (.if_icmp .ge 36, 3) := by decide +kernel
theorem dX6_alike_50 : decode cX6_alike 50 = .ok (.iload_n 3, 1) := by decide +kernel
theorem dX6_alike_51 : decode cX6_alike 51 = .ok (.ifCond .eq 24, 3) := by decide +kernel
theorem dX6_alike_54 : decode cX6_alike 54 = .ok (.aload_n 0, 1) := by decide +kernel
theorem dX6_alike_55 : decode cX6_alike 55 = .ok (.getfield 50, 3) := by decide +kernel
theorem dX6_alike_58 : decode cX6_alike 58 = .ok (.iload 4, 2) := by decide +kernel
theorem dX6_alike_60 : decode cX6_alike 60 = .ok (.iaload, 1) := by decide +kernel
theorem dX6_alike_61 : decode cX6_alike 61 = .ok (.aload_n 0, 1) := by decide +kernel
theorem dX6_alike_62 : decode cX6_alike 62 = .ok (.getfield 62, 3) := by decide +kernel
theorem dX6_alike_65 : decode cX6_alike 65 = .ok (.iload 4, 2) := by decide +kernel
theorem dX6_alike_67 : decode cX6_alike 67 = .ok (.iaload, 1) := by decide +kernel
theorem dX6_alike_68 : decode cX6_alike 68 = .ok (.if_icmp .ne 7, 3) := by decide +kernel
theorem dX6_alike_71 : decode cX6_alike 71 = .ok (.iconst 1, 1) := by decide +kernel
theorem dX6_alike_72 : decode cX6_alike 72 = .ok (.goto 4, 3) := by decide +kernel
theorem dX6_alike_75 : decode cX6_alike 75 = .ok (.iconst 0, 1) := by decide +kernel
theorem dX6_alike_76 : decode cX6_alike 76 = .ok (.istore_n 3, 1) := by decide +kernel
theorem dX6_alike_77 : decode cX6_alike 77 = .ok (.iinc 4 1, 3) := by decide +kernel
theorem dX6_alike_80 : decode cX6_alike 80 = .ok (.goto (-41), 3) := by decide +kernel
theorem dX6_alike_83 : decode cX6_alike 83 = .ok (.iload_n 3, 1) := by decide +kernel
theorem dX6_alike_84 : decode cX6_alike 84 = .ok (.ifCond .eq 7, 3) := by decide +kernel
theorem dX6_alike_87 : decode cX6_alike 87 = .ok (.iconst 1, 1) := by decide +kernel
theorem dX6_alike_88 : decode cX6_alike 88 = .ok (.goto 4, 3) := by decide +kernel
theorem dX6_alike_91 : decode cX6_alike 91 = .ok (.iconst 0, 1) := by decide +kernel
theorem dX6_alike_92 : decode cX6_alike 92 = .ok (.ireturn, 1) := by decide +kernel
theorem dX6_timeBy_0 : decode cX6_timeBy 0 = .ok (.aload_n 0, 1) := by decide +kernel
theorem dX6_timeBy_1 : decode cX6_timeBy 1 = .ok (.iload_n 1, 1) := by decide +kernel
theorem dX6_timeBy_2 : decode cX6_timeBy 2 = .ok (.iload_n 2, 1) := by decide +kernel
theorem dX6_timeBy_3 : decode cX6_timeBy 3 = .ok (.invokevirtual 152, 3) := by decide +kernel
theorem dX6_timeBy_6 : decode cX6_timeBy 6 = .ok (.aload_n 0, 1) := by decide +kernel
theorem dX6_timeBy_7 : decode cX6_timeBy 7 = .ok (.invokevirtual 155, 3) := by decide +kernel
theorem dX6_timeBy_10 : decode cX6_timeBy 10 = .ok (.aload_n 0, 1) := by decide +kernel
theorem dX6_timeBy_11 : decode cX6_timeBy 11 = .ok (.getfield 140, 3) := by decide +kernel
theorem dX6_timeBy_14 : decode cX6_timeBy 14 = .ok (.ireturn, 1) := by decide +kernel
theorem dX6_best_0 : decode cX6_best 0 = .ok (.iload_n 1, 1) := by decide +kernel
theorem dX6_best_1 : decode cX6_best 1 = .ok (.iconst 1, 1) := by decide +kernel
theorem dX6_best_2 : decode cX6_best 2 = .ok (.bipush 99, 2) := by decide +kernel
theorem dX6_best_4 : decode cX6_best 4 = .ok (.invokestatic 69, 3) := by decide +kernel
theorem dX6_best_7 : decode cX6_best 7 = .ok (.ifCond .eq 12, 3) := by decide +kernel
theorem dX6_best_10 : decode cX6_best 10 = .ok (.iload_n 2, 1) := by decide +kernel
theorem dX6_best_11 : decode cX6_best 11 = .ok (.iconst 0, 1) := by decide +kernel
theorem dX6_best_12 : decode cX6_best 12 = .ok (.iconst 1, 1) := by decide +kernel
theorem dX6_best_13 : decode cX6_best 13 = .ok (.invokestatic 69, 3) := by decide +kernel
theorem dX6_best_16 : decode cX6_best 16 = .ok (.ifCond .ne 6, 3) := by decide +kernel
theorem dX6_best_19 : decode cX6_best 19 = .ok (.bipush (-2), 2) := by decide +kernel
theorem dX6_best_21 : decode cX6_best 21 = .ok (.ireturn, 1) := by decide +kernel
theorem dX6_best_22 : decode cX6_best 22 = .ok (.iconst 0, 1) := by decide +kernel
theorem dX6_best_23 : decode cX6_best 23 = .ok (.istore_n 3, 1) := by decide +kernel
theorem dX6_best_24 : decode cX6_best 24 = .ok (.aload_n 0, 1) := by decide +kernel
theorem dX6_best_25 : decode cX6_best 25 = .ok (.iconst 0, 1) := by decide +kernel
theorem dX6_best_26 : decode cX6_best 26 = .ok (.iload_n 1, 1) := by decide +kernel
theorem dX6_best_27 : decode cX6_best 27 = .ok (.invokevirtual 177, 3) := by decide +kernel
theorem dX6_best_30 : decode cX6_best 30 = .ok (.istore 4, 2) := by decide +kernel
theorem dX6_best_32 : decode cX6_best 32 = .ok (.iconst 1, 1) := by decide +kernel
theorem dX6_best_33 : decode cX6_best 33 = .ok (.istore 5, 2) := by decide +kernel
theorem dX6_best_35 : decode cX6_best 35 = .ok (.iload 5, 2) := by decide +kernel
theorem dX6_best_37 : decode cX6_best 37 = .ok (.iconst 4, 1) := by decide +kernel
theorem dX6_best_38 : decode cX6_best 38 = .ok (.if_icmp .ge 48, 3) := by decide +kernel
theorem dX6_best_41 : decode cX6_best 41 = .ok (.aload_n 0, 1) := by decide +kernel
theorem dX6_best_42 : decode cX6_best 42 = .ok (.iload 5, 2) := by decide +kernel
theorem dX6_best_44 : decode cX6_best 44 = .ok (.iload_n 1, 1) := by decide +kernel
theorem dX6_best_45 : decode cX6_best 45 = .ok (.invokevirtual 177, 3) := by decide +kernel
theorem dX6_best_48 : decode cX6_best 48 = .ok (.istore 6, 2) := by decide +kernel
theorem dX6_best_50 : decode cX6_best 50 = .ok (.iload 6, 2) := by decide +kernel
theorem dX6_best_52 : decode cX6_best 52 = .ok (.iload 4, 2) := by decide +kernel
theorem dX6_best_54 : decode cX6_best 54 = .ok (.if_icmp .ge 8, 3) := by decide +kernel
theorem dX6_best_57 : decode cX6_best 57 = .ok (.iload 5, 2) := by decide +kernel
theorem dX6_best_59 : decode cX6_best 59 = .ok (.goto 4, 3) := by decide +kernel
theorem dX6_best_62 : decode cX6_best 62 = .ok (.iload_n 3, 1) := by decide +kernel
theorem dX6_best_63 : decode cX6_best 63 = .ok (.istore_n 3, 1) := by decide +kernel
theorem dX6_best_64 : decode cX6_best 64 = .ok (.iload 6, 2) := by decide +kernel
theorem dX6_best_66 : decode cX6_best 66 = .ok (.iload 4, 2) := by decide +kernel
theorem dX6_best_68 : decode cX6_best 68 = .ok (.if_icmp .ge 8, 3) := by decide +kernel
theorem dX6_best_71 : decode cX6_best 71 = .ok (.iload 6, 2) := by decide +kernel
theorem dX6_best_73 : decode cX6_best 73 = .ok (.goto 5, 3) := by decide +kernel
theorem dX6_best_76 : decode cX6_best 76 = .ok (.iload 4, 2) := by decide +kernel
theorem dX6_best_78 : decode cX6_best 78 = .ok (.istore 4, 2) := by decide +kernel
theorem dX6_best_80 : decode cX6_best 80 = .ok (.iinc 5 1, 3) := by decide +kernel
theorem dX6_best_83 : decode cX6_best 83 = .ok (.goto (-48), 3) := by decide +kernel
theorem dX6_best_86 : decode cX6_best 86 = .ok (.iload_n 2, 1) := by decide +kernel
theorem dX6_best_87 : decode cX6_best 87 = .ok (.ifCond .ne 7, 3) := by decide +kernel
theorem dX6_best_90 : decode cX6_best 90 = .ok (.iload_n 3, 1) := by decide +kernel
theorem dX6_best_91 : decode cX6_best 91 = .ok (.goto 5, 3) := by decide +kernel
theorem dX6_best_94 : decode cX6_best 94 = .ok (.iload 4, 2) := by decide +kernel
theorem dX6_best_96 : decode cX6_best 96 = .ok (.ireturn, 1) := by decide +kernel
theorem dX6_from_0 : decode cX6_from 0 = .ok (.iload_n 1, 1) := by decide +kernel
theorem dX6_from_1 : decode cX6_from 1 = .ok (.invokestatic 149, 3) := by decide +kernel
theorem dX6_from_4 : decode cX6_from 4 = .ok (.ifCond .eq 10, 3) := by decide +kernel
theorem dX6_from_7 : decode cX6_from 7 = .ok (.iload_n 2, 1) := by decide +kernel
theorem dX6_from_8 : decode cX6_from 8 = .ok (.invokestatic 149, 3) := by decide +kernel
theorem dX6_from_11 : decode cX6_from 11 = .ok (.ifCond .ne 5, 3) := by decide +kernel
theorem dX6_from_14 : decode cX6_from 14 = .ok (.iconst (-1), 1) := by decide +kernel
theorem dX6_from_15 : decode cX6_from 15 = .ok (.ireturn, 1) := by decide +kernel
theorem dX6_from_16 : decode cX6_from 16 = .ok (.iconst 1, 1) := by decide +kernel
theorem dX6_from_17 : decode cX6_from 17 = .ok (.istore_n 3, 1) := by decide +kernel
theorem dX6_from_18 : decode cX6_from 18 = .ok (.iload_n 3, 1) := by decide +kernel
theorem dX6_from_19 : decode cX6_from 19 = .ok (.bipush 100, 2) := by decide +kernel
theorem dX6_from_21 : decode cX6_from 21 = .ok (.if_icmp .ge 26, 3) := by decide +kernel
theorem dX6_from_24 : decode cX6_from 24 = .ok (.aload_n 0, 1) := by decide +kernel
theorem dX6_from_25 : decode cX6_from 25 = .ok (.iload_n 1, 1) := by decide +kernel
theorem dX6_from_26 : decode cX6_from 26 = .ok (.iload_n 3, 1) := by decide +kernel
theorem dX6_from_27 : decode cX6_from 27 = .ok (.invokevirtual 177, 3) := by decide +kernel
theorem dX6_from_30 : decode cX6_from 30 = .ok (.aload_n 0, 1) := by decide +kernel
theorem dX6_from_31 : decode cX6_from 31 = .ok (.iload_n 2, 1) := by decide +kernel
theorem dX6_from_32 : decode cX6_from 32 = .ok (.iload_n 3, 1) := by decide +kernel
theorem dX6_from_33 : decode cX6_from 33 = .ok (.invokevirtual 177, 3) := by decide +kernel
theorem dX6_from_36 : decode cX6_from 36 = .ok (.if_icmp .ge 5, 3) := by decide +kernel
theorem dX6_from_39 : decode cX6_from 39 = .ok (.iload_n 3, 1) := by decide +kernel
theorem dX6_from_40 : decode cX6_from 40 = .ok (.ireturn, 1) := by decide +kernel
theorem dX6_from_41 : decode cX6_from 41 = .ok (.iinc 3 1, 3) := by decide +kernel
theorem dX6_from_44 : decode cX6_from 44 = .ok (.goto (-26), 3) := by decide +kernel
theorem dX6_from_47 : decode cX6_from 47 = .ok (.bipush (-6), 2) := by decide +kernel
theorem dX6_from_49 : decode cX6_from 49 = .ok (.ireturn, 1) := by decide +kernel
theorem dX6_otherNumbers_0 : decode cX6_otherNumbers 0 = .ok (.iconst 0, 1) := by decide +kernel
theorem dX6_otherNumbers_1 : decode cX6_otherNumbers 1 = .ok (.istore_n 2, 1) := by decide +kernel
theorem dX6_otherNumbers_2 : decode cX6_otherNumbers 2 = .ok (.iconst 0, 1) := by decide +kernel
theorem dX6_otherNumbers_3 : decode cX6_otherNumbers 3 = .ok (.istore_n 3, 1) := by decide +kernel
theorem dX6_otherNumbers_4 : decode cX6_otherNumbers 4 = .ok (.iload_n 3, 1) := by decide +kernel
theorem dX6_otherNumbers_5 : decode cX6_otherNumbers 5 = .ok (.aload_n 0, 1) := by decide +kernel
theorem dX6_otherNumbers_6 : decode cX6_otherNumbers 6 = .ok (.getfield 7, 3) := by decide +kernel
theorem dX6_otherNumbers_9 : decode cX6_otherNumbers 9 = .ok (.iconst 1, 1) := by decide +kernel
theorem dX6_otherNumbers_10 : decode cX6_otherNumbers 10 = .ok (.iaload, 1) := by decide +kernel
theorem dX6_otherNumbers_11 : decode cX6_otherNumbers 11 = .ok (.if_icmp .ge 40, 3) := by decide +kernel
theorem dX6_otherNumbers_14 : decode cX6_otherNumbers 14 = .ok (.iload_n 2, 1) := by decide +kernel
theorem dX6_otherNumbers_15 : decode cX6_otherNumbers 15 = .ok (.aload_n 0, 1) := by decide +kernel
theorem dX6_otherNumbers_16 : decode cX6_otherNumbers 16 = .ok (.getfield 50, 3) := by decide +kernel
theorem dX6_otherNumbers_19 : decode cX6_otherNumbers 19 = .ok (.iload_n 1, 1) := by decide +kernel
theorem dX6_otherNumbers_20 : decode cX6_otherNumbers 20 = .ok (.iload_n 3, 1) := by decide +kernel
theorem dX6_otherNumbers_21 : decode cX6_otherNumbers 21 = .ok (.invokestatic 80, 3) := by decide +kernel
theorem dX6_otherNumbers_24 : decode cX6_otherNumbers 24 = .ok (.iaload, 1) := by decide +kernel
theorem dX6_otherNumbers_25 : decode cX6_otherNumbers 25 = .ok (.aload_n 0, 1) := by decide +kernel
theorem dX6_otherNumbers_26 : decode cX6_otherNumbers 26 = .ok (.getfield 62, 3) := by decide +kernel
theorem dX6_otherNumbers_29 : decode cX6_otherNumbers 29 = .ok (.iload_n 1, 1) := by decide +kernel
theorem dX6_otherNumbers_30 : decode cX6_otherNumbers 30 = .ok (.iload_n 3, 1) := by decide +kernel
theorem dX6_otherNumbers_31 : decode cX6_otherNumbers 31 = .ok (.invokestatic 80, 3) := by decide +kernel
theorem dX6_otherNumbers_34 : decode cX6_otherNumbers 34 = .ok (.iaload, 1) := by decide +kernel
theorem dX6_otherNumbers_35 : decode cX6_otherNumbers 35 = .ok (.if_icmp .eq 7, 3) := by decide +kernel
theorem dX6_otherNumbers_38 : decode cX6_otherNumbers 38 = .ok (.iconst 1, 1) := by decide +kernel
theorem dX6_otherNumbers_39 : decode cX6_otherNumbers 39 = .ok (.goto 4, 3) := by decide +kernel
theorem dX6_otherNumbers_42 : decode cX6_otherNumbers 42 = .ok (.iconst 0, 1) := by decide +kernel
theorem dX6_otherNumbers_43 : decode cX6_otherNumbers 43 = .ok (.iadd, 1) := by decide +kernel
theorem dX6_otherNumbers_44 : decode cX6_otherNumbers 44 = .ok (.istore_n 2, 1) := by decide +kernel
theorem dX6_otherNumbers_45 : decode cX6_otherNumbers 45 = .ok (.iinc 3 1, 3) := by decide +kernel
theorem dX6_otherNumbers_48 : decode cX6_otherNumbers 48 = .ok (.goto (-44), 3) := by decide +kernel
theorem dX6_otherNumbers_51 : decode cX6_otherNumbers 51 = .ok (.iload_n 2, 1) := by decide +kernel
theorem dX6_otherNumbers_52 : decode cX6_otherNumbers 52 = .ok (.ireturn, 1) := by decide +kernel
theorem dX6_harm_0 : decode cX6_harm 0 = .ok (.iconst 0, 1) := by decide +kernel
theorem dX6_harm_1 : decode cX6_harm 1 = .ok (.istore_n 1, 1) := by decide +kernel
theorem dX6_harm_2 : decode cX6_harm 2 = .ok (.iconst 0, 1) := by decide +kernel
theorem dX6_harm_3 : decode cX6_harm 3 = .ok (.istore_n 2, 1) := by decide +kernel
theorem dX6_harm_4 : decode cX6_harm 4 = .ok (.iload_n 2, 1) := by decide +kernel
theorem dX6_harm_5 : decode cX6_harm 5 = .ok (.aload_n 0, 1) := by decide +kernel
theorem dX6_harm_6 : decode cX6_harm 6 = .ok (.getfield 7, 3) := by decide +kernel
theorem dX6_harm_9 : decode cX6_harm 9 = .ok (.iconst 0, 1) := by decide +kernel
theorem dX6_harm_10 : decode cX6_harm 10 = .ok (.iaload, 1) := by decide +kernel
theorem dX6_harm_11 : decode cX6_harm 11 = .ok (.if_icmp .ge 17, 3) := by decide +kernel
theorem dX6_harm_14 : decode cX6_harm 14 = .ok (.iload_n 1, 1) := by decide +kernel
theorem dX6_harm_15 : decode cX6_harm 15 = .ok (.aload_n 0, 1) := by decide +kernel
theorem dX6_harm_16 : decode cX6_harm 16 = .ok (.iload_n 2, 1) := by decide +kernel
theorem dX6_harm_17 : decode cX6_harm 17 = .ok (.invokevirtual 180, 3) := by decide +kernel
theorem dX6_harm_20 : decode cX6_harm 20 = .ok (.iadd, 1) := by decide +kernel
theorem dX6_harm_21 : decode cX6_harm 21 = .ok (.istore_n 1, 1) := by decide +kernel
theorem dX6_harm_22 : decode cX6_harm 22 = .ok (.iinc 2 1, 3) := by decide +kernel
theorem dX6_harm_25 : decode cX6_harm 25 = .ok (.goto (-21), 3) := by decide +kernel
theorem dX6_harm_28 : decode cX6_harm 28 = .ok (.iload_n 1, 1) := by decide +kernel
theorem dX6_harm_29 : decode cX6_harm 29 = .ok (.ireturn, 1) := by decide +kernel
theorem dX6_harmed_0 : decode cX6_harmed 0 = .ok (.iconst 0, 1) := by decide +kernel
theorem dX6_harmed_1 : decode cX6_harmed 1 = .ok (.istore_n 1, 1) := by decide +kernel
theorem dX6_harmed_2 : decode cX6_harmed 2 = .ok (.iconst 0, 1) := by decide +kernel
theorem dX6_harmed_3 : decode cX6_harmed 3 = .ok (.istore_n 2, 1) := by decide +kernel
theorem dX6_harmed_4 : decode cX6_harmed 4 = .ok (.iload_n 2, 1) := by decide +kernel
theorem dX6_harmed_5 : decode cX6_harmed 5 = .ok (.aload_n 0, 1) := by decide +kernel
theorem dX6_harmed_6 : decode cX6_harmed 6 = .ok (.getfield 7, 3) := by decide +kernel
theorem dX6_harmed_9 : decode cX6_harmed 9 = .ok (.iconst 0, 1) := by decide +kernel
theorem dX6_harmed_10 : decode cX6_harmed 10 = .ok (.iaload, 1) := by decide +kernel
theorem dX6_harmed_11 : decode cX6_harmed 11 = .ok (.if_icmp .ge 27, 3) := by decide +kernel
theorem dX6_harmed_14 : decode cX6_harmed 14 = .ok (.iload_n 1, 1) := by decide +kernel
theorem dX6_harmed_15 : decode cX6_harmed 15 = .ok (.aload_n 0, 1) := by decide +kernel
theorem dX6_harmed_16 : decode cX6_harmed 16 = .ok (.iload_n 2, 1) := by decide +kernel
theorem dX6_harmed_17 : decode cX6_harmed 17 = .ok (.invokevirtual 180, 3) := by decide +kernel
theorem dX6_harmed_20 : decode cX6_harmed 20 = .ok (.ifCond .le 9, 3) := by decide +kernel
theorem dX6_harmed_23 : decode cX6_harmed 23 = .ok (.iconst 1, 1) := by decide +kernel
theorem dX6_harmed_24 : decode cX6_harmed 24 = .ok (.iload_n 2, 1) := by decide +kernel
theorem dX6_harmed_25 : decode cX6_harmed 25 = .ok (.ishl, 1) := by decide +kernel
theorem dX6_harmed_26 : decode cX6_harmed 26 = .ok (.goto 4, 3) := by decide +kernel
theorem dX6_harmed_29 : decode cX6_harmed 29 = .ok (.iconst 0, 1) := by decide +kernel
theorem dX6_harmed_30 : decode cX6_harmed 30 = .ok (.ior, 1) := by decide +kernel
theorem dX6_harmed_31 : decode cX6_harmed 31 = .ok (.istore_n 1, 1) := by decide +kernel
theorem dX6_harmed_32 : decode cX6_harmed 32 = .ok (.iinc 2 1, 3) := by decide +kernel
theorem dX6_harmed_35 : decode cX6_harmed 35 = .ok (.goto (-31), 3) := by decide +kernel
theorem dX6_harmed_38 : decode cX6_harmed 38 = .ok (.iload_n 1, 1) := by decide +kernel
theorem dX6_harmed_39 : decode cX6_harmed 39 = .ok (.ireturn, 1) := by decide +kernel
theorem dX6_lost_0 : decode cX6_lost 0 = .ok (.iload_n 1, 1) := by decide +kernel
theorem dX6_lost_1 : decode cX6_lost 1 = .ok (.invokestatic 149, 3) := by decide +kernel
theorem dX6_lost_4 : decode cX6_lost 4 = .ok (.ifCond .ne 5, 3) := by decide +kernel
theorem dX6_lost_7 : decode cX6_lost 7 = .ok (.iconst (-1), 1) := by decide +kernel
theorem dX6_lost_8 : decode cX6_lost 8 = .ok (.ireturn, 1) := by decide +kernel
theorem dX6_lost_9 : decode cX6_lost 9 = .ok (.iload_n 3, 1) := by decide +kernel
theorem dX6_lost_10 : decode cX6_lost 10 = .ok (.iconst 0, 1) := by decide +kernel
theorem dX6_lost_11 : decode cX6_lost 11 = .ok (.iconst 1, 1) := by decide +kernel
theorem dX6_lost_12 : decode cX6_lost 12 = .ok (.invokestatic 69, 3) := by decide +kernel
theorem dX6_lost_15 : decode cX6_lost 15 = .ok (.ifCond .ne 6, 3) := by decide +kernel
theorem dX6_lost_18 : decode cX6_lost 18 = .ok (.bipush (-2), 2) := by decide +kernel
theorem dX6_lost_20 : decode cX6_lost 20 = .ok (.ireturn, 1) := by decide +kernel
theorem dX6_lost_21 : decode cX6_lost 21 = .ok (.aload_n 0, 1) := by decide +kernel
theorem dX6_lost_22 : decode cX6_lost 22 = .ok (.iload_n 1, 1) := by decide +kernel
theorem dX6_lost_23 : decode cX6_lost 23 = .ok (.bipush (-6), 2) := by decide +kernel
theorem dX6_lost_25 : decode cX6_lost 25 = .ok (.invokevirtual 168, 3) := by decide +kernel
theorem dX6_lost_28 : decode cX6_lost 28 = .ok (.aload_n 0, 1) := by decide +kernel
theorem dX6_lost_29 : decode cX6_lost 29 = .ok (.invokevirtual 174, 3) := by decide +kernel
theorem dX6_lost_32 : decode cX6_lost 32 = .ok (.iload_n 2, 1) := by decide +kernel
theorem dX6_lost_33 : decode cX6_lost 33 = .ok (.iconst 0, 1) := by decide +kernel
theorem dX6_lost_34 : decode cX6_lost 34 = .ok (.aload_n 0, 1) := by decide +kernel
theorem dX6_lost_35 : decode cX6_lost 35 = .ok (.getfield 84, 3) := by decide +kernel
theorem dX6_lost_38 : decode cX6_lost 38 = .ok (.iconst 1, 1) := by decide +kernel
theorem dX6_lost_39 : decode cX6_lost 39 = .ok (.isub, 1) := by decide +kernel
theorem dX6_lost_40 : decode cX6_lost 40 = .ok (.invokestatic 69, 3) := by decide +kernel
theorem dX6_lost_43 : decode cX6_lost 43 = .ok (.ifCond .ne 6, 3) := by decide +kernel
theorem dX6_lost_46 : decode cX6_lost 46 = .ok (.bipush (-6), 2) := by decide +kernel
theorem dX6_lost_48 : decode cX6_lost 48 = .ok (.ireturn, 1) := by decide +kernel
theorem dX6_lost_49 : decode cX6_lost 49 = .ok (.aload_n 0, 1) := by decide +kernel
theorem dX6_lost_50 : decode cX6_lost 50 = .ok (.iload_n 1, 1) := by decide +kernel
theorem dX6_lost_51 : decode cX6_lost 51 = .ok (.iload_n 2, 1) := by decide +kernel
theorem dX6_lost_52 : decode cX6_lost 52 = .ok (.invokevirtual 168, 3) := by decide +kernel
theorem dX6_lost_55 : decode cX6_lost 55 = .ok (.iload_n 3, 1) := by decide +kernel
theorem dX6_lost_56 : decode cX6_lost 56 = .ok (.ifCond .ne 10, 3) := by decide +kernel
theorem dX6_lost_59 : decode cX6_lost 59 = .ok (.aload_n 0, 1) := by decide +kernel
theorem dX6_lost_60 : decode cX6_lost 60 = .ok (.invokevirtual 183, 3) := by decide +kernel
theorem dX6_lost_63 : decode cX6_lost 63 = .ok (.goto 7, 3) := by decide +kernel
theorem dX6_lost_66 : decode cX6_lost 66 = .ok (.aload_n 0, 1) := by decide +kernel
theorem dX6_lost_67 : decode cX6_lost 67 = .ok (.invokevirtual 186, 3) := by decide +kernel
theorem dX6_lost_70 : decode cX6_lost 70 = .ok (.ireturn, 1) := by decide +kernel
theorem dX6_worst_0 : decode cX6_worst 0 = .ok (.iload_n 1, 1) := by decide +kernel
theorem dX6_worst_1 : decode cX6_worst 1 = .ok (.invokestatic 149, 3) := by decide +kernel
theorem dX6_worst_4 : decode cX6_worst 4 = .ok (.ifCond .ne 5, 3) := by decide +kernel
theorem dX6_worst_7 : decode cX6_worst 7 = .ok (.iconst (-1), 1) := by decide +kernel
theorem dX6_worst_8 : decode cX6_worst 8 = .ok (.ireturn, 1) := by decide +kernel
theorem dX6_worst_9 : decode cX6_worst 9 = .ok (.iload_n 2, 1) := by decide +kernel
theorem dX6_worst_10 : decode cX6_worst 10 = .ok (.iconst 0, 1) := by decide +kernel
theorem dX6_worst_11 : decode cX6_worst 11 = .ok (.iconst 2, 1) := by decide +kernel
theorem dX6_worst_12 : decode cX6_worst 12 = .ok (.invokestatic 69, 3) := by decide +kernel
theorem dX6_worst_15 : decode cX6_worst 15 = .ok (.ifCond .ne 6, 3) := by decide +kernel
theorem dX6_worst_18 : decode cX6_worst 18 = .ok (.bipush (-2), 2) := by decide +kernel
theorem dX6_worst_20 : decode cX6_worst 20 = .ok (.ireturn, 1) := by decide +kernel
theorem dX6_worst_21 : decode cX6_worst 21 = .ok (.aload_n 0, 1) := by decide +kernel
theorem dX6_worst_22 : decode cX6_worst 22 = .ok (.iload_n 1, 1) := by decide +kernel
theorem dX6_worst_23 : decode cX6_worst 23 = .ok (.bipush (-6), 2) := by decide +kernel
theorem dX6_worst_25 : decode cX6_worst 25 = .ok (.invokevirtual 168, 3) := by decide +kernel
theorem dX6_worst_28 : decode cX6_worst 28 = .ok (.aload_n 0, 1) := by decide +kernel
theorem dX6_worst_29 : decode cX6_worst 29 = .ok (.invokevirtual 174, 3) := by decide +kernel
theorem dX6_worst_32 : decode cX6_worst 32 = .ok (.iconst 0, 1) := by decide +kernel
theorem dX6_worst_33 : decode cX6_worst 33 = .ok (.istore_n 3, 1) := by decide +kernel
theorem dX6_worst_34 : decode cX6_worst 34 = .ok (.iconst (-1), 1) := by decide +kernel
theorem dX6_worst_35 : decode cX6_worst 35 = .ok (.istore 4, 2) := by decide +kernel
theorem dX6_worst_37 : decode cX6_worst 37 = .ok (.iconst 0, 1) := by decide +kernel
theorem dX6_worst_38 : decode cX6_worst 38 = .ok (.istore 5, 2) := by decide +kernel
theorem dX6_worst_40 : decode cX6_worst 40 = .ok (.iconst 0, 1) := by decide +kernel
theorem dX6_worst_41 : decode cX6_worst 41 = .ok (.istore 6, 2) := by decide +kernel
theorem dX6_worst_43 : decode cX6_worst 43 = .ok (.iload 6, 2) := by decide +kernel
theorem dX6_worst_45 : decode cX6_worst 45 = .ok (.aload_n 0, 1) := by decide +kernel
theorem dX6_worst_46 : decode cX6_worst 46 = .ok (.getfield 84, 3) := by decide +kernel
theorem dX6_worst_49 : decode cX6_worst 49 = .ok (.if_icmp .ge 70, 3) := by decide +kernel
theorem dX6_worst_52 : decode cX6_worst 52 = .ok (.aload_n 0, 1) := by decide +kernel
theorem dX6_worst_53 : decode cX6_worst 53 = .ok (.aload_n 0, 1) := by decide +kernel
theorem dX6_worst_54 : decode cX6_worst 54 = .ok (.getfield 88, 3) := by decide +kernel
theorem dX6_worst_57 : decode cX6_worst 57 = .ok (.iload 6, 2) := by decide +kernel
theorem dX6_worst_59 : decode cX6_worst 59 = .ok (.invokevirtual 165, 3) := by decide +kernel
theorem dX6_worst_62 : decode cX6_worst 62 = .ok (.aload_n 0, 1) := by decide +kernel
theorem dX6_worst_63 : decode cX6_worst 63 = .ok (.invokevirtual 186, 3) := by decide +kernel
theorem dX6_worst_66 : decode cX6_worst 66 = .ok (.istore 7, 2) := by decide +kernel
theorem dX6_worst_68 : decode cX6_worst 68 = .ok (.iload 7, 2) := by decide +kernel
theorem dX6_worst_70 : decode cX6_worst 70 = .ok (.iload 4, 2) := by decide +kernel
theorem dX6_worst_72 : decode cX6_worst 72 = .ok (.if_icmp .le 8, 3) := by decide +kernel
theorem dX6_worst_75 : decode cX6_worst 75 = .ok (.iload 6, 2) := by decide +kernel
theorem dX6_worst_77 : decode cX6_worst 77 = .ok (.goto 4, 3) := by decide +kernel
theorem dX6_worst_80 : decode cX6_worst 80 = .ok (.iload_n 3, 1) := by decide +kernel
theorem dX6_worst_81 : decode cX6_worst 81 = .ok (.istore_n 3, 1) := by decide +kernel
theorem dX6_worst_82 : decode cX6_worst 82 = .ok (.iload 7, 2) := by decide +kernel
theorem dX6_worst_84 : decode cX6_worst 84 = .ok (.iload 4, 2) := by decide +kernel
theorem dX6_worst_86 : decode cX6_worst 86 = .ok (.if_icmp .le 8, 3) := by decide +kernel
theorem dX6_worst_89 : decode cX6_worst 89 = .ok (.iload 7, 2) := by decide +kernel
theorem dX6_worst_91 : decode cX6_worst 91 = .ok (.goto 5, 3) := by decide +kernel
theorem dX6_worst_94 : decode cX6_worst 94 = .ok (.iload 4, 2) := by decide +kernel
theorem dX6_worst_96 : decode cX6_worst 96 = .ok (.istore 4, 2) := by decide +kernel
theorem dX6_worst_98 : decode cX6_worst 98 = .ok (.iload 5, 2) := by decide +kernel
theorem dX6_worst_100 : decode cX6_worst 100 = .ok (.iload 7, 2) := by decide +kernel
theorem dX6_worst_102 : decode cX6_worst 102 = .ok (.ifCond .ne 7, 3) := by decide +kernel
theorem dX6_worst_105 : decode cX6_worst 105 = .ok (.iconst 1, 1) := by decide +kernel
theorem dX6_worst_106 : decode cX6_worst 106 = .ok (.goto 4, 3) := by decide +kernel
theorem dX6_worst_109 : decode cX6_worst 109 = .ok (.iconst 0, 1) := by decide +kernel
theorem dX6_worst_110 : decode cX6_worst 110 = .ok (.iadd, 1) := by decide +kernel
theorem dX6_worst_111 : decode cX6_worst 111 = .ok (.istore 5, 2) := by decide +kernel
theorem dX6_worst_113 : decode cX6_worst 113 = .ok (.iinc 6 1, 3) := by decide +kernel
theorem dX6_worst_116 : decode cX6_worst 116 = .ok (.goto (-73), 3) := by decide +kernel
theorem dX6_worst_119 : decode cX6_worst 119 = .ok (.iload_n 2, 1) := by decide +kernel
theorem dX6_worst_120 : decode cX6_worst 120 = .ok (.ifCond .ne 7, 3) := by decide +kernel
theorem dX6_worst_123 : decode cX6_worst 123 = .ok (.iload_n 3, 1) := by decide +kernel
theorem dX6_worst_124 : decode cX6_worst 124 = .ok (.goto 15, 3) := by decide +kernel
theorem dX6_worst_127 : decode cX6_worst 127 = .ok (.iload_n 2, 1) := by decide +kernel
theorem dX6_worst_128 : decode cX6_worst 128 = .ok (.iconst 1, 1) := by decide +kernel
theorem dX6_worst_129 : decode cX6_worst 129 = .ok (.if_icmp .ne 8, 3) := by decide +kernel
theorem dX6_worst_132 : decode cX6_worst 132 = .ok (.iload 4, 2) := by decide +kernel
theorem dX6_worst_134 : decode cX6_worst 134 = .ok (.goto 5, 3) := by decide +kernel
theorem dX6_worst_137 : decode cX6_worst 137 = .ok (.iload 5, 2) := by decide +kernel
theorem dX6_worst_139 : decode cX6_worst 139 = .ok (.ireturn, 1) := by decide +kernel
theorem dX6_comes_0 : decode cX6_comes 0 = .ok (.iload_n 1, 1) := by decide +kernel
theorem dX6_comes_1 : decode cX6_comes 1 = .ok (.invokestatic 149, 3) := by decide +kernel
theorem dX6_comes_4 : decode cX6_comes 4 = .ok (.ifCond .eq 11, 3) := by decide +kernel
theorem dX6_comes_7 : decode cX6_comes 7 = .ok (.aload_n 0, 1) := by decide +kernel
theorem dX6_comes_8 : decode cX6_comes 8 = .ok (.iload_n 2, 1) := by decide +kernel
theorem dX6_comes_9 : decode cX6_comes 9 = .ok (.invokevirtual 73, 3) := by decide +kernel
theorem dX6_comes_12 : decode cX6_comes 12 = .ok (.ifCond .ne 5, 3) := by decide +kernel
theorem dX6_comes_15 : decode cX6_comes 15 = .ok (.iconst (-1), 1) := by decide +kernel
theorem dX6_comes_16 : decode cX6_comes 16 = .ok (.ireturn, 1) := by decide +kernel
theorem dX6_comes_17 : decode cX6_comes 17 = .ok (.aload_n 0, 1) := by decide +kernel
theorem dX6_comes_18 : decode cX6_comes 18 = .ok (.iload_n 3, 1) := by decide +kernel
theorem dX6_comes_19 : decode cX6_comes 19 = .ok (.invokevirtual 77, 3) := by decide +kernel
theorem dX6_comes_22 : decode cX6_comes 22 = .ok (.ifCond .eq 13, 3) := by decide +kernel
theorem dX6_comes_25 : decode cX6_comes 25 = .ok (.iload 4, 2) := by decide +kernel
theorem dX6_comes_27 : decode cX6_comes 27 = .ok (.iconst 0, 1) := by decide +kernel
theorem dX6_comes_28 : decode cX6_comes 28 = .ok (.iconst 1, 1) := by decide +kernel
theorem dX6_comes_29 : decode cX6_comes 29 = .ok (.invokestatic 69, 3) := by decide +kernel
theorem dX6_comes_32 : decode cX6_comes 32 = .ok (.ifCond .ne 6, 3) := by decide +kernel
theorem dX6_comes_35 : decode cX6_comes 35 = .ok (.bipush (-2), 2) := by decide +kernel
theorem dX6_comes_37 : decode cX6_comes 37 = .ok (.ireturn, 1) := by decide +kernel
theorem dX6_comes_38 : decode cX6_comes 38 = .ok (.aload_n 0, 1) := by decide +kernel
theorem dX6_comes_39 : decode cX6_comes 39 = .ok (.iload_n 1, 1) := by decide +kernel
theorem dX6_comes_40 : decode cX6_comes 40 = .ok (.aload_n 0, 1) := by decide +kernel
theorem dX6_comes_41 : decode cX6_comes 41 = .ok (.getfield 7, 3) := by decide +kernel
theorem dX6_comes_44 : decode cX6_comes 44 = .ok (.iconst 1, 1) := by decide +kernel
theorem dX6_comes_45 : decode cX6_comes 45 = .ok (.iaload, 1) := by decide +kernel
theorem dX6_comes_46 : decode cX6_comes 46 = .ok (.invokevirtual 152, 3) := by decide +kernel
theorem dX6_comes_49 : decode cX6_comes 49 = .ok (.iconst 0, 1) := by decide +kernel
theorem dX6_comes_50 : decode cX6_comes 50 = .ok (.istore 5, 2) := by decide +kernel
theorem dX6_comes_52 : decode cX6_comes 52 = .ok (.iconst 0, 1) := by decide +kernel
theorem dX6_comes_53 : decode cX6_comes 53 = .ok (.istore 6, 2) := by decide +kernel
theorem dX6_comes_55 : decode cX6_comes 55 = .ok (.iload 6, 2) := by decide +kernel
theorem dX6_comes_57 : decode cX6_comes 57 = .ok (.aload_n 0, 1) := by decide +kernel
theorem dX6_comes_58 : decode cX6_comes 58 = .ok (.getfield 84, 3) := by decide +kernel
theorem dX6_comes_61 : decode cX6_comes 61 = .ok (.if_icmp .ge 103, 3) := by decide +kernel
theorem dX6_comes_64 : decode cX6_comes 64 = .ok (.aload_n 0, 1) := by decide +kernel
theorem dX6_comes_65 : decode cX6_comes 65 = .ok (.getfield 26, 3) := by decide +kernel
theorem dX6_comes_68 : decode cX6_comes 68 = .ok (.iload 6, 2) := by decide +kernel
theorem dX6_comes_70 : decode cX6_comes 70 = .ok (.iaload, 1) := by decide +kernel
theorem dX6_comes_71 : decode cX6_comes 71 = .ok (.iload_n 2, 1) := by decide +kernel
theorem dX6_comes_72 : decode cX6_comes 72 = .ok (.if_icmp .ne 38, 3) := by decide +kernel
theorem dX6_comes_75 : decode cX6_comes 75 = .ok (.iload_n 3, 1) := by decide +kernel
theorem dX6_comes_76 : decode cX6_comes 76 = .ok (.aload_n 0, 1) := by decide +kernel
theorem dX6_comes_77 : decode cX6_comes 77 = .ok (.getfield 29, 3) := by decide +kernel
theorem dX6_comes_80 : decode cX6_comes 80 = .ok (.iload 6, 2) := by decide +kernel
theorem dX6_comes_82 : decode cX6_comes 82 = .ok (.iaload, 1) := by decide +kernel
theorem dX6_comes_83 : decode cX6_comes 83 = .ok (.aload_n 0, 1) := by decide +kernel
theorem dX6_comes_84 : decode cX6_comes 84 = .ok (.getfield 29, 3) := by decide +kernel
theorem dX6_comes_87 : decode cX6_comes 87 = .ok (.iload 6, 2) := by decide +kernel
theorem dX6_comes_89 : decode cX6_comes 89 = .ok (.iaload, 1) := by decide +kernel
theorem dX6_comes_90 : decode cX6_comes 90 = .ok (.aload_n 0, 1) := by decide +kernel
theorem dX6_comes_91 : decode cX6_comes 91 = .ok (.getfield 32, 3) := by decide +kernel
theorem dX6_comes_94 : decode cX6_comes 94 = .ok (.iload 6, 2) := by decide +kernel
theorem dX6_comes_96 : decode cX6_comes 96 = .ok (.iaload, 1) := by decide +kernel
theorem dX6_comes_97 : decode cX6_comes 97 = .ok (.iadd, 1) := by decide +kernel
theorem dX6_comes_98 : decode cX6_comes 98 = .ok (.iconst 1, 1) := by decide +kernel
theorem dX6_comes_99 : decode cX6_comes 99 = .ok (.isub, 1) := by decide +kernel
theorem dX6_comes_100 : decode cX6_comes 100 = .ok (.invokestatic 69, 3) := by decide +kernel
theorem dX6_comes_103 : decode cX6_comes 103 = .ok (.ifCond .eq 7, 3) := by decide +kernel
theorem dX6_comes_106 : decode cX6_comes 106 = .ok (.iconst 1, 1) := by decide +kernel
theorem dX6_comes_107 : decode cX6_comes 107 = .ok (.goto 4, 3) := by decide +kernel
theorem dX6_comes_110 : decode cX6_comes 110 = .ok (.iconst 0, 1) := by decide +kernel
theorem dX6_comes_111 : decode cX6_comes 111 = .ok (.istore 7, 2) := by decide +kernel
theorem dX6_comes_113 : decode cX6_comes 113 = .ok (.iload 5, 2) := by decide +kernel
theorem dX6_comes_115 : decode cX6_comes 115 = .ok (.iload 7, 2) := by decide +kernel
theorem dX6_comes_117 : decode cX6_comes 117 = .ok (.ifCond .eq 37, 3) := by decide +kernel
theorem dX6_comes_120 : decode cX6_comes 120 = .ok (.aload_n 0, 1) := by decide +kernel
theorem dX6_comes_121 : decode cX6_comes 121 = .ok (.getfield 35, 3) := by decide +kernel
theorem dX6_comes_124 : decode cX6_comes 124 = .ok (.iload 6, 2) := by decide +kernel
theorem dX6_comes_126 : decode cX6_comes 126 = .ok (.iaload, 1) := by decide +kernel
theorem dX6_comes_127 : decode cX6_comes 127 = .ok (.iconst 2, 1) := by decide +kernel
theorem dX6_comes_128 : decode cX6_comes 128 = .ok (.if_icmp .ne 7, 3) := by decide +kernel
theorem dX6_comes_131 : decode cX6_comes 131 = .ok (.iconst 1, 1) := by decide +kernel
theorem dX6_comes_132 : decode cX6_comes 132 = .ok (.goto 4, 3) := by decide +kernel
theorem dX6_comes_135 : decode cX6_comes 135 = .ok (.iconst 0, 1) := by decide +kernel
theorem dX6_comes_136 : decode cX6_comes 136 = .ok (.iload 4, 2) := by decide +kernel
theorem dX6_comes_138 : decode cX6_comes 138 = .ok (.iconst 1, 1) := by decide +kernel
theorem dX6_comes_139 : decode cX6_comes 139 = .ok (.if_icmp .ne 7, 3) := by decide +kernel
theorem dX6_comes_142 : decode cX6_comes 142 = .ok (.iconst 1, 1) := by decide +kernel
theorem dX6_comes_143 : decode cX6_comes 143 = .ok (.goto 4, 3) := by decide +kernel
theorem dX6_comes_146 : decode cX6_comes 146 = .ok (.iconst 0, 1) := by decide +kernel
theorem dX6_comes_147 : decode cX6_comes 147 = .ok (.if_icmp .ne 7, 3) := by decide +kernel
theorem dX6_comes_150 : decode cX6_comes 150 = .ok (.iconst 1, 1) := by decide +kernel
theorem dX6_comes_151 : decode cX6_comes 151 = .ok (.goto 4, 3) := by decide +kernel
theorem dX6_comes_154 : decode cX6_comes 154 = .ok (.iconst 0, 1) := by decide +kernel
theorem dX6_comes_155 : decode cX6_comes 155 = .ok (.iadd, 1) := by decide +kernel
theorem dX6_comes_156 : decode cX6_comes 156 = .ok (.istore 5, 2) := by decide +kernel
theorem dX6_comes_158 : decode cX6_comes 158 = .ok (.iinc 6 1, 3) := by decide +kernel
theorem dX6_comes_161 : decode cX6_comes 161 = .ok (.goto (-106), 3) := by decide +kernel
theorem dX6_comes_164 : decode cX6_comes 164 = .ok (.iload 5, 2) := by decide +kernel
theorem dX6_comes_166 : decode cX6_comes 166 = .ok (.ireturn, 1) := by decide +kernel
theorem dX6_image_0 : decode cX6_image 0 = .ok (.iload_n 1, 1) := by decide +kernel
theorem dX6_image_1 : decode cX6_image 1 = .ok (.iconst 0, 1) := by decide +kernel
theorem dX6_image_2 : decode cX6_image 2 = .ok (.iconst 1, 1) := by decide +kernel
theorem dX6_image_3 : decode cX6_image 3 = .ok (.invokestatic 69, 3) := by decide +kernel
theorem dX6_image_6 : decode cX6_image 6 = .ok (.ifCond .ne 6, 3) := by decide +kernel
theorem dX6_image_9 : decode cX6_image 9 = .ok (.bipush (-2), 2) := by decide +kernel
theorem dX6_image_11 : decode cX6_image 11 = .ok (.ireturn, 1) := by decide +kernel
theorem dX6_image_12 : decode cX6_image 12 = .ok (.iconst 0, 1) := by decide +kernel
theorem dX6_image_13 : decode cX6_image 13 = .ok (.istore_n 2, 1) := by decide +kernel
theorem dX6_image_14 : decode cX6_image 14 = .ok (.iload_n 2, 1) := by decide +kernel
theorem dX6_image_15 : decode cX6_image 15 = .ok (.sipush 194, 3) := by decide +kernel
theorem dX6_image_18 : decode cX6_image 18 = .ok (.if_icmp .ge 27, 3) := by decide +kernel
theorem dX6_image_21 : decode cX6_image 21 = .ok (.aload_n 0, 1) := by decide +kernel
theorem dX6_image_22 : decode cX6_image 22 = .ok (.getfield 13, 3) := by decide +kernel
theorem dX6_image_25 : decode cX6_image 25 = .ok (.sipush 194, 3) := by decide +kernel
theorem dX6_image_28 : decode cX6_image 28 = .ok (.iload_n 1, 1) := by decide +kernel
theorem dX6_image_29 : decode cX6_image 29 = .ok (.imul, 1) := by decide +kernel
theorem dX6_image_30 : decode cX6_image 30 = .ok (.iload_n 2, 1) := by decide +kernel
theorem dX6_image_31 : decode cX6_image 31 = .ok (.iadd, 1) := by decide +kernel
theorem dX6_image_32 : decode cX6_image 32 = .ok (.aload_n 0, 1) := by decide +kernel
theorem dX6_image_33 : decode cX6_image 33 = .ok (.getfield 7, 3) := by decide +kernel
theorem dX6_image_36 : decode cX6_image 36 = .ok (.iload_n 2, 1) := by decide +kernel
theorem dX6_image_37 : decode cX6_image 37 = .ok (.iaload, 1) := by decide +kernel
theorem dX6_image_38 : decode cX6_image 38 = .ok (.iastore, 1) := by decide +kernel
theorem dX6_image_39 : decode cX6_image 39 = .ok (.iinc 2 1, 3) := by decide +kernel
theorem dX6_image_42 : decode cX6_image 42 = .ok (.goto (-28), 3) := by decide +kernel
theorem dX6_image_45 : decode cX6_image 45 = .ok (.aload_n 0, 1) := by decide +kernel
theorem dX6_image_46 : decode cX6_image 46 = .ok (.getfield 16, 3) := by decide +kernel
theorem dX6_image_49 : decode cX6_image 49 = .ok (.iload_n 1, 1) := by decide +kernel
theorem dX6_image_50 : decode cX6_image 50 = .ok (.iconst 1, 1) := by decide +kernel
theorem dX6_image_51 : decode cX6_image 51 = .ok (.bastore, 1) := by decide +kernel
theorem dX6_image_52 : decode cX6_image 52 = .ok (.iconst 1, 1) := by decide +kernel
theorem dX6_image_53 : decode cX6_image 53 = .ok (.ireturn, 1) := by decide +kernel
theorem dX6_restore_0 : decode cX6_restore 0 = .ok (.iload_n 1, 1) := by decide +kernel
theorem dX6_restore_1 : decode cX6_restore 1 = .ok (.iconst 0, 1) := by decide +kernel
theorem dX6_restore_2 : decode cX6_restore 2 = .ok (.iconst 1, 1) := by decide +kernel
theorem dX6_restore_3 : decode cX6_restore 3 = .ok (.invokestatic 69, 3) := by decide +kernel
theorem dX6_restore_6 : decode cX6_restore 6 = .ok (.ifCond .ne 6, 3) := by decide +kernel
theorem dX6_restore_9 : decode cX6_restore 9 = .ok (.bipush (-2), 2) := by decide +kernel
theorem dX6_restore_11 : decode cX6_restore 11 = .ok (.ireturn, 1) := by decide +kernel
theorem dX6_restore_12 : decode cX6_restore 12 = .ok (.aload_n 0, 1) := by decide +kernel
theorem dX6_restore_13 : decode cX6_restore 13 = .ok (.getfield 16, 3) := by decide +kernel
theorem dX6_restore_16 : decode cX6_restore 16 = .ok (.iload_n 1, 1) := by decide +kernel
theorem dX6_restore_17 : decode cX6_restore 17 = .ok (.baload, 1) := by decide +kernel
theorem dX6_restore_18 : decode cX6_restore 18 = .ok (.ifCond .ne 6, 3) := by decide +kernel
theorem dX6_restore_21 : decode cX6_restore 21 = .ok (.bipush (-3), 2) := by decide +kernel
theorem dX6_restore_23 : decode cX6_restore 23 = .ok (.ireturn, 1) := by decide +kernel
theorem dX6_restore_24 : decode cX6_restore 24 = .ok (.iconst 0, 1) := by decide +kernel
theorem dX6_restore_25 : decode cX6_restore 25 = .ok (.istore_n 2, 1) := by decide +kernel
theorem dX6_restore_26 : decode cX6_restore 26 = .ok (.iload_n 2, 1) := by decide +kernel
theorem dX6_restore_27 : decode cX6_restore 27 = .ok (.sipush 194, 3) := by decide +kernel
theorem dX6_restore_30 : decode cX6_restore 30 = .ok (.if_icmp .ge 27, 3) := by decide +kernel
theorem dX6_restore_33 : decode cX6_restore 33 = .ok (.aload_n 0, 1) := by decide +kernel
theorem dX6_restore_34 : decode cX6_restore 34 = .ok (.getfield 7, 3) := by decide +kernel
theorem dX6_restore_37 : decode cX6_restore 37 = .ok (.iload_n 2, 1) := by decide +kernel
theorem dX6_restore_38 : decode cX6_restore 38 = .ok (.aload_n 0, 1) := by decide +kernel
theorem dX6_restore_39 : decode cX6_restore 39 = .ok (.getfield 13, 3) := by decide +kernel
theorem dX6_restore_42 : decode cX6_restore 42 = .ok (.sipush 194, 3) := by decide +kernel
theorem dX6_restore_45 : decode cX6_restore 45 = .ok (.iload_n 1, 1) := by decide +kernel
theorem dX6_restore_46 : decode cX6_restore 46 = .ok (.imul, 1) := by decide +kernel
theorem dX6_restore_47 : decode cX6_restore 47 = .ok (.iload_n 2, 1) := by decide +kernel
theorem dX6_restore_48 : decode cX6_restore 48 = .ok (.iadd, 1) := by decide +kernel
theorem dX6_restore_49 : decode cX6_restore 49 = .ok (.iaload, 1) := by decide +kernel
theorem dX6_restore_50 : decode cX6_restore 50 = .ok (.iastore, 1) := by decide +kernel
theorem dX6_restore_51 : decode cX6_restore 51 = .ok (.iinc 2 1, 3) := by decide +kernel
theorem dX6_restore_54 : decode cX6_restore 54 = .ok (.goto (-28), 3) := by decide +kernel
theorem dX6_restore_57 : decode cX6_restore 57 = .ok (.iconst 1, 1) := by decide +kernel
theorem dX6_restore_58 : decode cX6_restore 58 = .ok (.ireturn, 1) := by decide +kernel
theorem dX6_allNumbers_0 : decode cX6_allNumbers 0 = .ok (.iconst 0, 1) := by decide +kernel
theorem dX6_allNumbers_1 : decode cX6_allNumbers 1 = .ok (.istore_n 1, 1) := by decide +kernel
theorem dX6_allNumbers_2 : decode cX6_allNumbers 2 = .ok (.iconst 0, 1) := by decide +kernel
theorem dX6_allNumbers_3 : decode cX6_allNumbers 3 = .ok (.istore_n 2, 1) := by decide +kernel
theorem dX6_allNumbers_4 : decode cX6_allNumbers 4 = .ok (.iload_n 2, 1) := by decide +kernel
theorem dX6_allNumbers_5 : decode cX6_allNumbers 5 = .ok (.bipush 108, 2) := by decide +kernel
theorem dX6_allNumbers_7 : decode cX6_allNumbers 7 = .ok (.if_icmp .ge 21, 3) := by decide +kernel
theorem dX6_allNumbers_10 : decode cX6_allNumbers 10 = .ok (.iload_n 1, 1) := by decide +kernel
theorem dX6_allNumbers_11 : decode cX6_allNumbers 11 = .ok (.aload_n 0, 1) := by decide +kernel
theorem dX6_allNumbers_12 : decode cX6_allNumbers 12 = .ok (.getfield 7, 3) := by decide +kernel
theorem dX6_allNumbers_15 : decode cX6_allNumbers 15 = .ok (.bipush 86, 2) := by decide +kernel
theorem dX6_allNumbers_17 : decode cX6_allNumbers 17 = .ok (.iload_n 2, 1) := by decide +kernel
theorem dX6_allNumbers_18 : decode cX6_allNumbers 18 = .ok (.iadd, 1) := by decide +kernel
theorem dX6_allNumbers_19 : decode cX6_allNumbers 19 = .ok (.iaload, 1) := by decide +kernel
theorem dX6_allNumbers_20 : decode cX6_allNumbers 20 = .ok (.iadd, 1) := by decide +kernel
theorem dX6_allNumbers_21 : decode cX6_allNumbers 21 = .ok (.istore_n 1, 1) := by decide +kernel
theorem dX6_allNumbers_22 : decode cX6_allNumbers 22 = .ok (.iinc 2 1, 3) := by decide +kernel
theorem dX6_allNumbers_25 : decode cX6_allNumbers 25 = .ok (.goto (-21), 3) := by decide +kernel
theorem dX6_allNumbers_28 : decode cX6_allNumbers 28 = .ok (.iload_n 1, 1) := by decide +kernel
theorem dX6_allNumbers_29 : decode cX6_allNumbers 29 = .ok (.ireturn, 1) := by decide +kernel
theorem dX6_count_0 : decode cX6_count 0 = .ok (.iload_n 1, 1) := by decide +kernel
theorem dX6_count_1 : decode cX6_count 1 = .ok (.tableswitch 113 0 6 #[43, 50, 57, 64, 71, 78, 83], 43) := by decide +kernel
theorem dX6_count_44 : decode cX6_count 44 = .ok (.aload_n 0, 1) := by decide +kernel
theorem dX6_count_45 : decode cX6_count 45 = .ok (.getfield 7, 3) := by decide +kernel
theorem dX6_count_48 : decode cX6_count 48 = .ok (.iconst 0, 1) := by decide +kernel
theorem dX6_count_49 : decode cX6_count 49 = .ok (.iaload, 1) := by decide +kernel
theorem dX6_count_50 : decode cX6_count 50 = .ok (.ireturn, 1) := by decide +kernel
theorem dX6_count_51 : decode cX6_count 51 = .ok (.aload_n 0, 1) := by decide +kernel
theorem dX6_count_52 : decode cX6_count 52 = .ok (.getfield 7, 3) := by decide +kernel
theorem dX6_count_55 : decode cX6_count 55 = .ok (.iconst 1, 1) := by decide +kernel
theorem dX6_count_56 : decode cX6_count 56 = .ok (.iaload, 1) := by decide +kernel
theorem dX6_count_57 : decode cX6_count 57 = .ok (.ireturn, 1) := by decide +kernel
theorem dX6_count_58 : decode cX6_count 58 = .ok (.aload_n 0, 1) := by decide +kernel
theorem dX6_count_59 : decode cX6_count 59 = .ok (.getfield 7, 3) := by decide +kernel
theorem dX6_count_62 : decode cX6_count 62 = .ok (.iconst 2, 1) := by decide +kernel
theorem dX6_count_63 : decode cX6_count 63 = .ok (.iaload, 1) := by decide +kernel
theorem dX6_count_64 : decode cX6_count 64 = .ok (.ireturn, 1) := by decide +kernel
theorem dX6_count_65 : decode cX6_count 65 = .ok (.aload_n 0, 1) := by decide +kernel
theorem dX6_count_66 : decode cX6_count 66 = .ok (.getfield 7, 3) := by decide +kernel
theorem dX6_count_69 : decode cX6_count 69 = .ok (.iconst 3, 1) := by decide +kernel
theorem dX6_count_70 : decode cX6_count 70 = .ok (.iaload, 1) := by decide +kernel
theorem dX6_count_71 : decode cX6_count 71 = .ok (.ireturn, 1) := by decide +kernel
theorem dX6_count_72 : decode cX6_count 72 = .ok (.aload_n 0, 1) := by decide +kernel
theorem dX6_count_73 : decode cX6_count 73 = .ok (.getfield 7, 3) := by decide +kernel
theorem dX6_count_76 : decode cX6_count 76 = .ok (.iconst 4, 1) := by decide +kernel
theorem dX6_count_77 : decode cX6_count 77 = .ok (.iaload, 1) := by decide +kernel
theorem dX6_count_78 : decode cX6_count 78 = .ok (.ireturn, 1) := by decide +kernel
theorem dX6_count_79 : decode cX6_count 79 = .ok (.aload_n 0, 1) := by decide +kernel
theorem dX6_count_80 : decode cX6_count 80 = .ok (.invokevirtual 189, 3) := by decide +kernel
theorem dX6_count_83 : decode cX6_count 83 = .ok (.ireturn, 1) := by decide +kernel
theorem dX6_count_84 : decode cX6_count 84 = .ok (.aload_n 0, 1) := by decide +kernel
theorem dX6_count_85 : decode cX6_count 85 = .ok (.getfield 16, 3) := by decide +kernel
theorem dX6_count_88 : decode cX6_count 88 = .ok (.iconst 0, 1) := by decide +kernel
theorem dX6_count_89 : decode cX6_count 89 = .ok (.baload, 1) := by decide +kernel
theorem dX6_count_90 : decode cX6_count 90 = .ok (.ifCond .eq 7, 3) := by decide +kernel
theorem dX6_count_93 : decode cX6_count 93 = .ok (.iconst 1, 1) := by decide +kernel
theorem dX6_count_94 : decode cX6_count 94 = .ok (.goto 4, 3) := by decide +kernel
theorem dX6_count_97 : decode cX6_count 97 = .ok (.iconst 0, 1) := by decide +kernel
theorem dX6_count_98 : decode cX6_count 98 = .ok (.aload_n 0, 1) := by decide +kernel
theorem dX6_count_99 : decode cX6_count 99 = .ok (.getfield 16, 3) := by decide +kernel
theorem dX6_count_102 : decode cX6_count 102 = .ok (.iconst 1, 1) := by decide +kernel
theorem dX6_count_103 : decode cX6_count 103 = .ok (.baload, 1) := by decide +kernel
theorem dX6_count_104 : decode cX6_count 104 = .ok (.ifCond .eq 7, 3) := by decide +kernel
theorem dX6_count_107 : decode cX6_count 107 = .ok (.iconst 2, 1) := by decide +kernel
theorem dX6_count_108 : decode cX6_count 108 = .ok (.goto 4, 3) := by decide +kernel
theorem dX6_count_111 : decode cX6_count 111 = .ok (.iconst 0, 1) := by decide +kernel
theorem dX6_count_112 : decode cX6_count 112 = .ok (.iadd, 1) := by decide +kernel
theorem dX6_count_113 : decode cX6_count 113 = .ok (.ireturn, 1) := by decide +kernel
theorem dX6_count_114 : decode cX6_count 114 = .ok (.bipush (-2), 2) := by decide +kernel
theorem dX6_count_116 : decode cX6_count 116 = .ok (.ireturn, 1) := by decide +kernel
end
section
theorem dL_law_0 : decode cL_law 0 = .ok (.new 7, 3) := by decide +kernel
theorem dL_law_3 : decode cL_law 3 = .ok (.dup, 1) := by decide +kernel
theorem dL_law_4 : decode cL_law 4 = .ok (.invokespecial 9, 3) := by decide +kernel
theorem dL_law_7 : decode cL_law 7 = .ok (.astore_n 1, 1) := by decide +kernel
theorem dL_law_8 : decode cL_law 8 = .ok (.new 10, 3) := by decide +kernel
theorem dL_law_11 : decode cL_law 11 = .ok (.dup, 1) := by decide +kernel
theorem dL_law_12 : decode cL_law 12 = .ok (.invokespecial 12, 3) := by decide +kernel
theorem dL_law_15 : decode cL_law 15 = .ok (.astore_n 2, 1) := by decide +kernel
theorem dL_law_16 : decode cL_law 16 = .ok (.iconst 0, 1) := by decide +kernel
theorem dL_law_17 : decode cL_law 17 = .ok (.istore_n 3, 1) := by decide +kernel
theorem dL_law_18 : decode cL_law 18 = .ok (.iload_n 3, 1) := by decide +kernel
theorem dL_law_19 : decode cL_law 19 = .ok (.aload_n 0, 1) := by decide +kernel
theorem dL_law_20 : decode cL_law 20 = .ok (.arraylength, 1) := by decide +kernel
theorem dL_law_21 : decode cL_law 21 = .ok (.iconst 5, 1) := by decide +kernel
theorem dL_law_22 : decode cL_law 22 = .ok (.isub, 1) := by decide +kernel
theorem dL_law_23 : decode cL_law 23 = .ok (.if_icmp .gt 747, 3) := by decide +kernel
theorem dL_law_26 : decode cL_law 26 = .ok (.aload_n 0, 1) := by decide +kernel
theorem dL_law_27 : decode cL_law 27 = .ok (.iload_n 3, 1) := by decide +kernel
theorem dL_law_28 : decode cL_law 28 = .ok (.iaload, 1) := by decide +kernel
theorem dL_law_29 : decode cL_law 29 = .ok (.bipush 31, 2) := by decide +kernel
theorem dL_law_31 : decode cL_law 31 = .ok (.iand, 1) := by decide +kernel
theorem dL_law_32 : decode cL_law 32 = .ok (.tableswitch 732 0 17 #[88, 121, 164, 197, 240, 273, 306, 349, 402, 435, 468, 501, 534, 577, 610, 663, 686, 709], 88) := by decide +kernel
theorem dL_law_120 : decode cL_law 120 = .ok (.aload_n 1, 1) := by decide +kernel
theorem dL_law_121 : decode cL_law 121 = .ok (.aload_n 0, 1) := by decide +kernel
theorem dL_law_122 : decode cL_law 122 = .ok (.iload_n 3, 1) := by decide +kernel
theorem dL_law_123 : decode cL_law 123 = .ok (.iconst 1, 1) := by decide +kernel
theorem dL_law_124 : decode cL_law 124 = .ok (.iadd, 1) := by decide +kernel
theorem dL_law_125 : decode cL_law 125 = .ok (.iaload, 1) := by decide +kernel
theorem dL_law_126 : decode cL_law 126 = .ok (.aload_n 0, 1) := by decide +kernel
theorem dL_law_127 : decode cL_law 127 = .ok (.iload_n 3, 1) := by decide +kernel
theorem dL_law_128 : decode cL_law 128 = .ok (.iconst 2, 1) := by decide +kernel
theorem dL_law_129 : decode cL_law 129 = .ok (.iadd, 1) := by decide +kernel
theorem dL_law_130 : decode cL_law 130 = .ok (.iaload, 1) := by decide +kernel
theorem dL_law_131 : decode cL_law 131 = .ok (.invokevirtual 13, 3) := by decide +kernel
theorem dL_law_134 : decode cL_law 134 = .ok (.aload_n 2, 1) := by decide +kernel
theorem dL_law_135 : decode cL_law 135 = .ok (.aload_n 0, 1) := by decide +kernel
theorem dL_law_136 : decode cL_law 136 = .ok (.iload_n 3, 1) := by decide +kernel
theorem dL_law_137 : decode cL_law 137 = .ok (.iconst 1, 1) := by decide +kernel
theorem dL_law_138 : decode cL_law 138 = .ok (.iadd, 1) := by decide +kernel
theorem dL_law_139 : decode cL_law 139 = .ok (.iaload, 1) := by decide +kernel
theorem dL_law_140 : decode cL_law 140 = .ok (.aload_n 0, 1) := by decide +kernel
theorem dL_law_141 : decode cL_law 141 = .ok (.iload_n 3, 1) := by decide +kernel
theorem dL_law_142 : decode cL_law 142 = .ok (.iconst 2, 1) := by decide +kernel
theorem dL_law_143 : decode cL_law 143 = .ok (.iadd, 1) := by decide +kernel
theorem dL_law_144 : decode cL_law 144 = .ok (.iaload, 1) := by decide +kernel
theorem dL_law_145 : decode cL_law 145 = .ok (.invokevirtual 17, 3) := by decide +kernel
theorem dL_law_148 : decode cL_law 148 = .ok (.if_icmp .eq 616, 3) := by decide +kernel
theorem dL_law_151 : decode cL_law 151 = .ok (.iconst 0, 1) := by decide +kernel
theorem dL_law_152 : decode cL_law 152 = .ok (.ireturn, 1) := by decide +kernel
theorem dL_law_153 : decode cL_law 153 = .ok (.aload_n 1, 1) := by decide +kernel
theorem dL_law_154 : decode cL_law 154 = .ok (.aload_n 0, 1) := by decide +kernel
theorem dL_law_155 : decode cL_law 155 = .ok (.iload_n 3, 1) := by decide +kernel
theorem dL_law_156 : decode cL_law 156 = .ok (.iconst 1, 1) := by decide +kernel
theorem dL_law_157 : decode cL_law 157 = .ok (.iadd, 1) := by decide +kernel
theorem dL_law_158 : decode cL_law 158 = .ok (.iaload, 1) := by decide +kernel
theorem dL_law_159 : decode cL_law 159 = .ok (.aload_n 0, 1) := by decide +kernel
theorem dL_law_160 : decode cL_law 160 = .ok (.iload_n 3, 1) := by decide +kernel
theorem dL_law_161 : decode cL_law 161 = .ok (.iconst 2, 1) := by decide +kernel
theorem dL_law_162 : decode cL_law 162 = .ok (.iadd, 1) := by decide +kernel
theorem dL_law_163 : decode cL_law 163 = .ok (.iaload, 1) := by decide +kernel
theorem dL_law_164 : decode cL_law 164 = .ok (.aload_n 0, 1) := by decide +kernel
theorem dL_law_165 : decode cL_law 165 = .ok (.iload_n 3, 1) := by decide +kernel
theorem dL_law_166 : decode cL_law 166 = .ok (.iconst 3, 1) := by decide +kernel
theorem dL_law_167 : decode cL_law 167 = .ok (.iadd, 1) := by decide +kernel
theorem dL_law_168 : decode cL_law 168 = .ok (.iaload, 1) := by decide +kernel
theorem dL_law_169 : decode cL_law 169 = .ok (.invokevirtual 18, 3) := by decide +kernel
theorem dL_law_172 : decode cL_law 172 = .ok (.aload_n 2, 1) := by decide +kernel
theorem dL_law_173 : decode cL_law 173 = .ok (.aload_n 0, 1) := by decide +kernel
theorem dL_law_174 : decode cL_law 174 = .ok (.iload_n 3, 1) := by decide +kernel
theorem dL_law_175 : decode cL_law 175 = .ok (.iconst 1, 1) := by decide +kernel
theorem dL_law_176 : decode cL_law 176 = .ok (.iadd, 1) := by decide +kernel
theorem dL_law_177 : decode cL_law 177 = .ok (.iaload, 1) := by decide +kernel
theorem dL_law_178 : decode cL_law 178 = .ok (.aload_n 0, 1) := by decide +kernel
theorem dL_law_179 : decode cL_law 179 = .ok (.iload_n 3, 1) := by decide +kernel
theorem dL_law_180 : decode cL_law 180 = .ok (.iconst 2, 1) := by decide +kernel
theorem dL_law_181 : decode cL_law 181 = .ok (.iadd, 1) := by decide +kernel
theorem dL_law_182 : decode cL_law 182 = .ok (.iaload, 1) := by decide +kernel
theorem dL_law_183 : decode cL_law 183 = .ok (.aload_n 0, 1) := by decide +kernel
theorem dL_law_184 : decode cL_law 184 = .ok (.iload_n 3, 1) := by decide +kernel
theorem dL_law_185 : decode cL_law 185 = .ok (.iconst 3, 1) := by decide +kernel
theorem dL_law_186 : decode cL_law 186 = .ok (.iadd, 1) := by decide +kernel
theorem dL_law_187 : decode cL_law 187 = .ok (.iaload, 1) := by decide +kernel
theorem dL_law_188 : decode cL_law 188 = .ok (.invokevirtual 22, 3) := by decide +kernel
theorem dL_law_191 : decode cL_law 191 = .ok (.if_icmp .eq 573, 3) := by decide +kernel
theorem dL_law_194 : decode cL_law 194 = .ok (.iconst 0, 1) := by decide +kernel
theorem dL_law_195 : decode cL_law 195 = .ok (.ireturn, 1) := by decide +kernel
theorem dL_law_196 : decode cL_law 196 = .ok (.aload_n 1, 1) := by decide +kernel
theorem dL_law_197 : decode cL_law 197 = .ok (.aload_n 0, 1) := by decide +kernel
theorem dL_law_198 : decode cL_law 198 = .ok (.iload_n 3, 1) := by decide +kernel
theorem dL_law_199 : decode cL_law 199 = .ok (.iconst 1, 1) := by decide +kernel
theorem dL_law_200 : decode cL_law 200 = .ok (.iadd, 1) := by decide +kernel
theorem dL_law_201 : decode cL_law 201 = .ok (.iaload, 1) := by decide +kernel
theorem dL_law_202 : decode cL_law 202 = .ok (.aload_n 0, 1) := by decide +kernel
theorem dL_law_203 : decode cL_law 203 = .ok (.iload_n 3, 1) := by decide +kernel
theorem dL_law_204 : decode cL_law 204 = .ok (.iconst 2, 1) := by decide +kernel
theorem dL_law_205 : decode cL_law 205 = .ok (.iadd, 1) := by decide +kernel
theorem dL_law_206 : decode cL_law 206 = .ok (.iaload, 1) := by decide +kernel
theorem dL_law_207 : decode cL_law 207 = .ok (.invokevirtual 23, 3) := by decide +kernel
theorem dL_law_210 : decode cL_law 210 = .ok (.aload_n 2, 1) := by decide +kernel
theorem dL_law_211 : decode cL_law 211 = .ok (.aload_n 0, 1) := by decide +kernel
theorem dL_law_212 : decode cL_law 212 = .ok (.iload_n 3, 1) := by decide +kernel
theorem dL_law_213 : decode cL_law 213 = .ok (.iconst 1, 1) := by decide +kernel
theorem dL_law_214 : decode cL_law 214 = .ok (.iadd, 1) := by decide +kernel
theorem dL_law_215 : decode cL_law 215 = .ok (.iaload, 1) := by decide +kernel
theorem dL_law_216 : decode cL_law 216 = .ok (.aload_n 0, 1) := by decide +kernel
theorem dL_law_217 : decode cL_law 217 = .ok (.iload_n 3, 1) := by decide +kernel
theorem dL_law_218 : decode cL_law 218 = .ok (.iconst 2, 1) := by decide +kernel
theorem dL_law_219 : decode cL_law 219 = .ok (.iadd, 1) := by decide +kernel
theorem dL_law_220 : decode cL_law 220 = .ok (.iaload, 1) := by decide +kernel
theorem dL_law_221 : decode cL_law 221 = .ok (.invokevirtual 26, 3) := by decide +kernel
theorem dL_law_224 : decode cL_law 224 = .ok (.if_icmp .eq 540, 3) := by decide +kernel
theorem dL_law_227 : decode cL_law 227 = .ok (.iconst 0, 1) := by decide +kernel
theorem dL_law_228 : decode cL_law 228 = .ok (.ireturn, 1) := by decide +kernel
theorem dL_law_229 : decode cL_law 229 = .ok (.aload_n 1, 1) := by decide +kernel
theorem dL_law_230 : decode cL_law 230 = .ok (.aload_n 0, 1) := by decide +kernel
theorem dL_law_231 : decode cL_law 231 = .ok (.iload_n 3, 1) := by decide +kernel
theorem dL_law_232 : decode cL_law 232 = .ok (.iconst 1, 1) := by decide +kernel
theorem dL_law_233 : decode cL_law 233 = .ok (.iadd, 1) := by decide +kernel
theorem dL_law_234 : decode cL_law 234 = .ok (.iaload, 1) := by decide +kernel
theorem dL_law_235 : decode cL_law 235 = .ok (.aload_n 0, 1) := by decide +kernel
theorem dL_law_236 : decode cL_law 236 = .ok (.iload_n 3, 1) := by decide +kernel
theorem dL_law_237 : decode cL_law 237 = .ok (.iconst 2, 1) := by decide +kernel
theorem dL_law_238 : decode cL_law 238 = .ok (.iadd, 1) := by decide +kernel
theorem dL_law_239 : decode cL_law 239 = .ok (.iaload, 1) := by decide +kernel
theorem dL_law_240 : decode cL_law 240 = .ok (.aload_n 0, 1) := by decide +kernel
theorem dL_law_241 : decode cL_law 241 = .ok (.iload_n 3, 1) := by decide +kernel
theorem dL_law_242 : decode cL_law 242 = .ok (.iconst 3, 1) := by decide +kernel
theorem dL_law_243 : decode cL_law 243 = .ok (.iadd, 1) := by decide +kernel
theorem dL_law_244 : decode cL_law 244 = .ok (.iaload, 1) := by decide +kernel
theorem dL_law_245 : decode cL_law 245 = .ok (.invokevirtual 27, 3) := by decide +kernel
theorem dL_law_248 : decode cL_law 248 = .ok (.aload_n 2, 1) := by decide +kernel
theorem dL_law_249 : decode cL_law 249 = .ok (.aload_n 0, 1) := by decide +kernel
theorem dL_law_250 : decode cL_law 250 = .ok (.iload_n 3, 1) := by decide +kernel
theorem dL_law_251 : decode cL_law 251 = .ok (.iconst 1, 1) := by decide +kernel
theorem dL_law_252 : decode cL_law 252 = .ok (.iadd, 1) := by decide +kernel
theorem dL_law_253 : decode cL_law 253 = .ok (.iaload, 1) := by decide +kernel
theorem dL_law_254 : decode cL_law 254 = .ok (.aload_n 0, 1) := by decide +kernel
theorem dL_law_255 : decode cL_law 255 = .ok (.iload_n 3, 1) := by decide +kernel
theorem dL_law_256 : decode cL_law 256 = .ok (.iconst 2, 1) := by decide +kernel
theorem dL_law_257 : decode cL_law 257 = .ok (.iadd, 1) := by decide +kernel
theorem dL_law_258 : decode cL_law 258 = .ok (.iaload, 1) := by decide +kernel
theorem dL_law_259 : decode cL_law 259 = .ok (.aload_n 0, 1) := by decide +kernel
theorem dL_law_260 : decode cL_law 260 = .ok (.iload_n 3, 1) := by decide +kernel
theorem dL_law_261 : decode cL_law 261 = .ok (.iconst 3, 1) := by decide +kernel
theorem dL_law_262 : decode cL_law 262 = .ok (.iadd, 1) := by decide +kernel
theorem dL_law_263 : decode cL_law 263 = .ok (.iaload, 1) := by decide +kernel
theorem dL_law_264 : decode cL_law 264 = .ok (.invokevirtual 30, 3) := by decide +kernel
theorem dL_law_267 : decode cL_law 267 = .ok (.if_icmp .eq 497, 3) := by decide +kernel
theorem dL_law_270 : decode cL_law 270 = .ok (.iconst 0, 1) := by decide +kernel
theorem dL_law_271 : decode cL_law 271 = .ok (.ireturn, 1) := by decide +kernel
theorem dL_law_272 : decode cL_law 272 = .ok (.aload_n 1, 1) := by decide +kernel
theorem dL_law_273 : decode cL_law 273 = .ok (.aload_n 0, 1) := by decide +kernel
theorem dL_law_274 : decode cL_law 274 = .ok (.iload_n 3, 1) := by decide +kernel
theorem dL_law_275 : decode cL_law 275 = .ok (.iconst 1, 1) := by decide +kernel
theorem dL_law_276 : decode cL_law 276 = .ok (.iadd, 1) := by decide +kernel
theorem dL_law_277 : decode cL_law 277 = .ok (.iaload, 1) := by decide +kernel
theorem dL_law_278 : decode cL_law 278 = .ok (.aload_n 0, 1) := by decide +kernel
theorem dL_law_279 : decode cL_law 279 = .ok (.iload_n 3, 1) := by decide +kernel
theorem dL_law_280 : decode cL_law 280 = .ok (.iconst 2, 1) := by decide +kernel
theorem dL_law_281 : decode cL_law 281 = .ok (.iadd, 1) := by decide +kernel
theorem dL_law_282 : decode cL_law 282 = .ok (.iaload, 1) := by decide +kernel
theorem dL_law_283 : decode cL_law 283 = .ok (.invokevirtual 31, 3) := by decide +kernel
theorem dL_law_286 : decode cL_law 286 = .ok (.aload_n 2, 1) := by decide +kernel
theorem dL_law_287 : decode cL_law 287 = .ok (.aload_n 0, 1) := by decide +kernel
theorem dL_law_288 : decode cL_law 288 = .ok (.iload_n 3, 1) := by decide +kernel
theorem dL_law_289 : decode cL_law 289 = .ok (.iconst 1, 1) := by decide +kernel
theorem dL_law_290 : decode cL_law 290 = .ok (.iadd, 1) := by decide +kernel
theorem dL_law_291 : decode cL_law 291 = .ok (.iaload, 1) := by decide +kernel
theorem dL_law_292 : decode cL_law 292 = .ok (.aload_n 0, 1) := by decide +kernel
theorem dL_law_293 : decode cL_law 293 = .ok (.iload_n 3, 1) := by decide +kernel
theorem dL_law_294 : decode cL_law 294 = .ok (.iconst 2, 1) := by decide +kernel
theorem dL_law_295 : decode cL_law 295 = .ok (.iadd, 1) := by decide +kernel
theorem dL_law_296 : decode cL_law 296 = .ok (.iaload, 1) := by decide +kernel
theorem dL_law_297 : decode cL_law 297 = .ok (.invokevirtual 34, 3) := by decide +kernel
theorem dL_law_300 : decode cL_law 300 = .ok (.if_icmp .eq 464, 3) := by decide +kernel
theorem dL_law_303 : decode cL_law 303 = .ok (.iconst 0, 1) := by decide +kernel
theorem dL_law_304 : decode cL_law 304 = .ok (.ireturn, 1) := by decide +kernel
theorem dL_law_305 : decode cL_law 305 = .ok (.aload_n 1, 1) := by decide +kernel
theorem dL_law_306 : decode cL_law 306 = .ok (.aload_n 0, 1) := by decide +kernel
theorem dL_law_307 : decode cL_law 307 = .ok (.iload_n 3, 1) := by decide +kernel
theorem dL_law_308 : decode cL_law 308 = .ok (.iconst 1, 1) := by decide +kernel
theorem dL_law_309 : decode cL_law 309 = .ok (.iadd, 1) := by decide +kernel
theorem dL_law_310 : decode cL_law 310 = .ok (.iaload, 1) := by decide +kernel
theorem dL_law_311 : decode cL_law 311 = .ok (.aload_n 0, 1) := by decide +kernel
theorem dL_law_312 : decode cL_law 312 = .ok (.iload_n 3, 1) := by decide +kernel
theorem dL_law_313 : decode cL_law 313 = .ok (.iconst 2, 1) := by decide +kernel
theorem dL_law_314 : decode cL_law 314 = .ok (.iadd, 1) := by decide +kernel
theorem dL_law_315 : decode cL_law 315 = .ok (.iaload, 1) := by decide +kernel
theorem dL_law_316 : decode cL_law 316 = .ok (.invokevirtual 35, 3) := by decide +kernel
theorem dL_law_319 : decode cL_law 319 = .ok (.aload_n 2, 1) := by decide +kernel
theorem dL_law_320 : decode cL_law 320 = .ok (.aload_n 0, 1) := by decide +kernel
theorem dL_law_321 : decode cL_law 321 = .ok (.iload_n 3, 1) := by decide +kernel
theorem dL_law_322 : decode cL_law 322 = .ok (.iconst 1, 1) := by decide +kernel
theorem dL_law_323 : decode cL_law 323 = .ok (.iadd, 1) := by decide +kernel
theorem dL_law_324 : decode cL_law 324 = .ok (.iaload, 1) := by decide +kernel
theorem dL_law_325 : decode cL_law 325 = .ok (.aload_n 0, 1) := by decide +kernel
theorem dL_law_326 : decode cL_law 326 = .ok (.iload_n 3, 1) := by decide +kernel
theorem dL_law_327 : decode cL_law 327 = .ok (.iconst 2, 1) := by decide +kernel
theorem dL_law_328 : decode cL_law 328 = .ok (.iadd, 1) := by decide +kernel
theorem dL_law_329 : decode cL_law 329 = .ok (.iaload, 1) := by decide +kernel
theorem dL_law_330 : decode cL_law 330 = .ok (.invokevirtual 38, 3) := by decide +kernel
theorem dL_law_333 : decode cL_law 333 = .ok (.if_icmp .eq 431, 3) := by decide +kernel
theorem dL_law_336 : decode cL_law 336 = .ok (.iconst 0, 1) := by decide +kernel
theorem dL_law_337 : decode cL_law 337 = .ok (.ireturn, 1) := by decide +kernel
theorem dL_law_338 : decode cL_law 338 = .ok (.aload_n 1, 1) := by decide +kernel
theorem dL_law_339 : decode cL_law 339 = .ok (.aload_n 0, 1) := by decide +kernel
theorem dL_law_340 : decode cL_law 340 = .ok (.iload_n 3, 1) := by decide +kernel
theorem dL_law_341 : decode cL_law 341 = .ok (.iconst 1, 1) := by decide +kernel
theorem dL_law_342 : decode cL_law 342 = .ok (.iadd, 1) := by decide +kernel
theorem dL_law_343 : decode cL_law 343 = .ok (.iaload, 1) := by decide +kernel
theorem dL_law_344 : decode cL_law 344 = .ok (.aload_n 0, 1) := by decide +kernel
theorem dL_law_345 : decode cL_law 345 = .ok (.iload_n 3, 1) := by decide +kernel
theorem dL_law_346 : decode cL_law 346 = .ok (.iconst 2, 1) := by decide +kernel
theorem dL_law_347 : decode cL_law 347 = .ok (.iadd, 1) := by decide +kernel
theorem dL_law_348 : decode cL_law 348 = .ok (.iaload, 1) := by decide +kernel
theorem dL_law_349 : decode cL_law 349 = .ok (.aload_n 0, 1) := by decide +kernel
theorem dL_law_350 : decode cL_law 350 = .ok (.iload_n 3, 1) := by decide +kernel
theorem dL_law_351 : decode cL_law 351 = .ok (.iconst 3, 1) := by decide +kernel
theorem dL_law_352 : decode cL_law 352 = .ok (.iadd, 1) := by decide +kernel
theorem dL_law_353 : decode cL_law 353 = .ok (.iaload, 1) := by decide +kernel
theorem dL_law_354 : decode cL_law 354 = .ok (.invokevirtual 39, 3) := by decide +kernel
theorem dL_law_357 : decode cL_law 357 = .ok (.aload_n 2, 1) := by decide +kernel
theorem dL_law_358 : decode cL_law 358 = .ok (.aload_n 0, 1) := by decide +kernel
theorem dL_law_359 : decode cL_law 359 = .ok (.iload_n 3, 1) := by decide +kernel
theorem dL_law_360 : decode cL_law 360 = .ok (.iconst 1, 1) := by decide +kernel
theorem dL_law_361 : decode cL_law 361 = .ok (.iadd, 1) := by decide +kernel
theorem dL_law_362 : decode cL_law 362 = .ok (.iaload, 1) := by decide +kernel
theorem dL_law_363 : decode cL_law 363 = .ok (.aload_n 0, 1) := by decide +kernel
theorem dL_law_364 : decode cL_law 364 = .ok (.iload_n 3, 1) := by decide +kernel
theorem dL_law_365 : decode cL_law 365 = .ok (.iconst 2, 1) := by decide +kernel
theorem dL_law_366 : decode cL_law 366 = .ok (.iadd, 1) := by decide +kernel
theorem dL_law_367 : decode cL_law 367 = .ok (.iaload, 1) := by decide +kernel
theorem dL_law_368 : decode cL_law 368 = .ok (.aload_n 0, 1) := by decide +kernel
theorem dL_law_369 : decode cL_law 369 = .ok (.iload_n 3, 1) := by decide +kernel
theorem dL_law_370 : decode cL_law 370 = .ok (.iconst 3, 1) := by decide +kernel
theorem dL_law_371 : decode cL_law 371 = .ok (.iadd, 1) := by decide +kernel
theorem dL_law_372 : decode cL_law 372 = .ok (.iaload, 1) := by decide +kernel
theorem dL_law_373 : decode cL_law 373 = .ok (.invokevirtual 42, 3) := by decide +kernel
theorem dL_law_376 : decode cL_law 376 = .ok (.if_icmp .eq 388, 3) := by decide +kernel
theorem dL_law_379 : decode cL_law 379 = .ok (.iconst 0, 1) := by decide +kernel
theorem dL_law_380 : decode cL_law 380 = .ok (.ireturn, 1) := by decide +kernel
theorem dL_law_381 : decode cL_law 381 = .ok (.aload_n 1, 1) := by decide +kernel
theorem dL_law_382 : decode cL_law 382 = .ok (.aload_n 0, 1) := by decide +kernel
theorem dL_law_383 : decode cL_law 383 = .ok (.iload_n 3, 1) := by decide +kernel
theorem dL_law_384 : decode cL_law 384 = .ok (.iconst 1, 1) := by decide +kernel
theorem dL_law_385 : decode cL_law 385 = .ok (.iadd, 1) := by decide +kernel
theorem dL_law_386 : decode cL_law 386 = .ok (.iaload, 1) := by decide +kernel
theorem dL_law_387 : decode cL_law 387 = .ok (.aload_n 0, 1) := by decide +kernel
theorem dL_law_388 : decode cL_law 388 = .ok (.iload_n 3, 1) := by decide +kernel
theorem dL_law_389 : decode cL_law 389 = .ok (.iconst 2, 1) := by decide +kernel
theorem dL_law_390 : decode cL_law 390 = .ok (.iadd, 1) := by decide +kernel
theorem dL_law_391 : decode cL_law 391 = .ok (.iaload, 1) := by decide +kernel
theorem dL_law_392 : decode cL_law 392 = .ok (.aload_n 0, 1) := by decide +kernel
theorem dL_law_393 : decode cL_law 393 = .ok (.iload_n 3, 1) := by decide +kernel
theorem dL_law_394 : decode cL_law 394 = .ok (.iconst 3, 1) := by decide +kernel
theorem dL_law_395 : decode cL_law 395 = .ok (.iadd, 1) := by decide +kernel
theorem dL_law_396 : decode cL_law 396 = .ok (.iaload, 1) := by decide +kernel
theorem dL_law_397 : decode cL_law 397 = .ok (.aload_n 0, 1) := by decide +kernel
theorem dL_law_398 : decode cL_law 398 = .ok (.iload_n 3, 1) := by decide +kernel
theorem dL_law_399 : decode cL_law 399 = .ok (.iconst 4, 1) := by decide +kernel
theorem dL_law_400 : decode cL_law 400 = .ok (.iadd, 1) := by decide +kernel
theorem dL_law_401 : decode cL_law 401 = .ok (.iaload, 1) := by decide +kernel
theorem dL_law_402 : decode cL_law 402 = .ok (.invokevirtual 43, 3) := by decide +kernel
theorem dL_law_405 : decode cL_law 405 = .ok (.aload_n 2, 1) := by decide +kernel
theorem dL_law_406 : decode cL_law 406 = .ok (.aload_n 0, 1) := by decide +kernel
theorem dL_law_407 : decode cL_law 407 = .ok (.iload_n 3, 1) := by decide +kernel
theorem dL_law_408 : decode cL_law 408 = .ok (.iconst 1, 1) := by decide +kernel
theorem dL_law_409 : decode cL_law 409 = .ok (.iadd, 1) := by decide +kernel
theorem dL_law_410 : decode cL_law 410 = .ok (.iaload, 1) := by decide +kernel
theorem dL_law_411 : decode cL_law 411 = .ok (.aload_n 0, 1) := by decide +kernel
theorem dL_law_412 : decode cL_law 412 = .ok (.iload_n 3, 1) := by decide +kernel
theorem dL_law_413 : decode cL_law 413 = .ok (.iconst 2, 1) := by decide +kernel
theorem dL_law_414 : decode cL_law 414 = .ok (.iadd, 1) := by decide +kernel
theorem dL_law_415 : decode cL_law 415 = .ok (.iaload, 1) := by decide +kernel
theorem dL_law_416 : decode cL_law 416 = .ok (.aload_n 0, 1) := by decide +kernel
theorem dL_law_417 : decode cL_law 417 = .ok (.iload_n 3, 1) := by decide +kernel
theorem dL_law_418 : decode cL_law 418 = .ok (.iconst 3, 1) := by decide +kernel
theorem dL_law_419 : decode cL_law 419 = .ok (.iadd, 1) := by decide +kernel
theorem dL_law_420 : decode cL_law 420 = .ok (.iaload, 1) := by decide +kernel
theorem dL_law_421 : decode cL_law 421 = .ok (.aload_n 0, 1) := by decide +kernel
theorem dL_law_422 : decode cL_law 422 = .ok (.iload_n 3, 1) := by decide +kernel
theorem dL_law_423 : decode cL_law 423 = .ok (.iconst 4, 1) := by decide +kernel
theorem dL_law_424 : decode cL_law 424 = .ok (.iadd, 1) := by decide +kernel
theorem dL_law_425 : decode cL_law 425 = .ok (.iaload, 1) := by decide +kernel
theorem dL_law_426 : decode cL_law 426 = .ok (.invokevirtual 47, 3) := by decide +kernel
theorem dL_law_429 : decode cL_law 429 = .ok (.if_icmp .eq 335, 3) := by decide +kernel
theorem dL_law_432 : decode cL_law 432 = .ok (.iconst 0, 1) := by decide +kernel
theorem dL_law_433 : decode cL_law 433 = .ok (.ireturn, 1) := by decide +kernel
theorem dL_law_434 : decode cL_law 434 = .ok (.aload_n 1, 1) := by decide +kernel
theorem dL_law_435 : decode cL_law 435 = .ok (.aload_n 0, 1) := by decide +kernel
theorem dL_law_436 : decode cL_law 436 = .ok (.iload_n 3, 1) := by decide +kernel
theorem dL_law_437 : decode cL_law 437 = .ok (.iconst 1, 1) := by decide +kernel
theorem dL_law_438 : decode cL_law 438 = .ok (.iadd, 1) := by decide +kernel
theorem dL_law_439 : decode cL_law 439 = .ok (.iaload, 1) := by decide +kernel
theorem dL_law_440 : decode cL_law 440 = .ok (.aload_n 0, 1) := by decide +kernel
theorem dL_law_441 : decode cL_law 441 = .ok (.iload_n 3, 1) := by decide +kernel
theorem dL_law_442 : decode cL_law 442 = .ok (.iconst 2, 1) := by decide +kernel
theorem dL_law_443 : decode cL_law 443 = .ok (.iadd, 1) := by decide +kernel
theorem dL_law_444 : decode cL_law 444 = .ok (.iaload, 1) := by decide +kernel
theorem dL_law_445 : decode cL_law 445 = .ok (.invokevirtual 48, 3) := by decide +kernel
theorem dL_law_448 : decode cL_law 448 = .ok (.aload_n 2, 1) := by decide +kernel
theorem dL_law_449 : decode cL_law 449 = .ok (.aload_n 0, 1) := by decide +kernel
theorem dL_law_450 : decode cL_law 450 = .ok (.iload_n 3, 1) := by decide +kernel
theorem dL_law_451 : decode cL_law 451 = .ok (.iconst 1, 1) := by decide +kernel
theorem dL_law_452 : decode cL_law 452 = .ok (.iadd, 1) := by decide +kernel
theorem dL_law_453 : decode cL_law 453 = .ok (.iaload, 1) := by decide +kernel
theorem dL_law_454 : decode cL_law 454 = .ok (.aload_n 0, 1) := by decide +kernel
theorem dL_law_455 : decode cL_law 455 = .ok (.iload_n 3, 1) := by decide +kernel
theorem dL_law_456 : decode cL_law 456 = .ok (.iconst 2, 1) := by decide +kernel
theorem dL_law_457 : decode cL_law 457 = .ok (.iadd, 1) := by decide +kernel
theorem dL_law_458 : decode cL_law 458 = .ok (.iaload, 1) := by decide +kernel
theorem dL_law_459 : decode cL_law 459 = .ok (.invokevirtual 51, 3) := by decide +kernel
theorem dL_law_462 : decode cL_law 462 = .ok (.if_icmp .eq 302, 3) := by decide +kernel
theorem dL_law_465 : decode cL_law 465 = .ok (.iconst 0, 1) := by decide +kernel
theorem dL_law_466 : decode cL_law 466 = .ok (.ireturn, 1) := by decide +kernel
theorem dL_law_467 : decode cL_law 467 = .ok (.aload_n 1, 1) := by decide +kernel
theorem dL_law_468 : decode cL_law 468 = .ok (.aload_n 0, 1) := by decide +kernel
theorem dL_law_469 : decode cL_law 469 = .ok (.iload_n 3, 1) := by decide +kernel
theorem dL_law_470 : decode cL_law 470 = .ok (.iconst 1, 1) := by decide +kernel
theorem dL_law_471 : decode cL_law 471 = .ok (.iadd, 1) := by decide +kernel
theorem dL_law_472 : decode cL_law 472 = .ok (.iaload, 1) := by decide +kernel
theorem dL_law_473 : decode cL_law 473 = .ok (.aload_n 0, 1) := by decide +kernel
theorem dL_law_474 : decode cL_law 474 = .ok (.iload_n 3, 1) := by decide +kernel
theorem dL_law_475 : decode cL_law 475 = .ok (.iconst 2, 1) := by decide +kernel
theorem dL_law_476 : decode cL_law 476 = .ok (.iadd, 1) := by decide +kernel
theorem dL_law_477 : decode cL_law 477 = .ok (.iaload, 1) := by decide +kernel
theorem dL_law_478 : decode cL_law 478 = .ok (.invokevirtual 52, 3) := by decide +kernel
theorem dL_law_481 : decode cL_law 481 = .ok (.aload_n 2, 1) := by decide +kernel
theorem dL_law_482 : decode cL_law 482 = .ok (.aload_n 0, 1) := by decide +kernel
theorem dL_law_483 : decode cL_law 483 = .ok (.iload_n 3, 1) := by decide +kernel
theorem dL_law_484 : decode cL_law 484 = .ok (.iconst 1, 1) := by decide +kernel
theorem dL_law_485 : decode cL_law 485 = .ok (.iadd, 1) := by decide +kernel
theorem dL_law_486 : decode cL_law 486 = .ok (.iaload, 1) := by decide +kernel
theorem dL_law_487 : decode cL_law 487 = .ok (.aload_n 0, 1) := by decide +kernel
theorem dL_law_488 : decode cL_law 488 = .ok (.iload_n 3, 1) := by decide +kernel
theorem dL_law_489 : decode cL_law 489 = .ok (.iconst 2, 1) := by decide +kernel
theorem dL_law_490 : decode cL_law 490 = .ok (.iadd, 1) := by decide +kernel
theorem dL_law_491 : decode cL_law 491 = .ok (.iaload, 1) := by decide +kernel
theorem dL_law_492 : decode cL_law 492 = .ok (.invokevirtual 55, 3) := by decide +kernel
theorem dL_law_495 : decode cL_law 495 = .ok (.if_icmp .eq 269, 3) := by decide +kernel
theorem dL_law_498 : decode cL_law 498 = .ok (.iconst 0, 1) := by decide +kernel
theorem dL_law_499 : decode cL_law 499 = .ok (.ireturn, 1) := by decide +kernel
theorem dL_law_500 : decode cL_law 500 = .ok (.aload_n 1, 1) := by decide +kernel
theorem dL_law_501 : decode cL_law 501 = .ok (.aload_n 0, 1) := by decide +kernel
theorem dL_law_502 : decode cL_law 502 = .ok (.iload_n 3, 1) := by decide +kernel
theorem dL_law_503 : decode cL_law 503 = .ok (.iconst 1, 1) := by decide +kernel
theorem dL_law_504 : decode cL_law 504 = .ok (.iadd, 1) := by decide +kernel
theorem dL_law_505 : decode cL_law 505 = .ok (.iaload, 1) := by decide +kernel
theorem dL_law_506 : decode cL_law 506 = .ok (.aload_n 0, 1) := by decide +kernel
theorem dL_law_507 : decode cL_law 507 = .ok (.iload_n 3, 1) := by decide +kernel
theorem dL_law_508 : decode cL_law 508 = .ok (.iconst 2, 1) := by decide +kernel
theorem dL_law_509 : decode cL_law 509 = .ok (.iadd, 1) := by decide +kernel
theorem dL_law_510 : decode cL_law 510 = .ok (.iaload, 1) := by decide +kernel
theorem dL_law_511 : decode cL_law 511 = .ok (.invokevirtual 56, 3) := by decide +kernel
theorem dL_law_514 : decode cL_law 514 = .ok (.aload_n 2, 1) := by decide +kernel
theorem dL_law_515 : decode cL_law 515 = .ok (.aload_n 0, 1) := by decide +kernel
theorem dL_law_516 : decode cL_law 516 = .ok (.iload_n 3, 1) := by decide +kernel
theorem dL_law_517 : decode cL_law 517 = .ok (.iconst 1, 1) := by decide +kernel
theorem dL_law_518 : decode cL_law 518 = .ok (.iadd, 1) := by decide +kernel
theorem dL_law_519 : decode cL_law 519 = .ok (.iaload, 1) := by decide +kernel
theorem dL_law_520 : decode cL_law 520 = .ok (.aload_n 0, 1) := by decide +kernel
theorem dL_law_521 : decode cL_law 521 = .ok (.iload_n 3, 1) := by decide +kernel
theorem dL_law_522 : decode cL_law 522 = .ok (.iconst 2, 1) := by decide +kernel
theorem dL_law_523 : decode cL_law 523 = .ok (.iadd, 1) := by decide +kernel
theorem dL_law_524 : decode cL_law 524 = .ok (.iaload, 1) := by decide +kernel
theorem dL_law_525 : decode cL_law 525 = .ok (.invokevirtual 59, 3) := by decide +kernel
theorem dL_law_528 : decode cL_law 528 = .ok (.if_icmp .eq 236, 3) := by decide +kernel
theorem dL_law_531 : decode cL_law 531 = .ok (.iconst 0, 1) := by decide +kernel
theorem dL_law_532 : decode cL_law 532 = .ok (.ireturn, 1) := by decide +kernel
theorem dL_law_533 : decode cL_law 533 = .ok (.aload_n 1, 1) := by decide +kernel
theorem dL_law_534 : decode cL_law 534 = .ok (.aload_n 0, 1) := by decide +kernel
theorem dL_law_535 : decode cL_law 535 = .ok (.iload_n 3, 1) := by decide +kernel
theorem dL_law_536 : decode cL_law 536 = .ok (.iconst 1, 1) := by decide +kernel
theorem dL_law_537 : decode cL_law 537 = .ok (.iadd, 1) := by decide +kernel
theorem dL_law_538 : decode cL_law 538 = .ok (.iaload, 1) := by decide +kernel
theorem dL_law_539 : decode cL_law 539 = .ok (.aload_n 0, 1) := by decide +kernel
theorem dL_law_540 : decode cL_law 540 = .ok (.iload_n 3, 1) := by decide +kernel
theorem dL_law_541 : decode cL_law 541 = .ok (.iconst 2, 1) := by decide +kernel
theorem dL_law_542 : decode cL_law 542 = .ok (.iadd, 1) := by decide +kernel
theorem dL_law_543 : decode cL_law 543 = .ok (.iaload, 1) := by decide +kernel
theorem dL_law_544 : decode cL_law 544 = .ok (.invokevirtual 60, 3) := by decide +kernel
theorem dL_law_547 : decode cL_law 547 = .ok (.aload_n 2, 1) := by decide +kernel
theorem dL_law_548 : decode cL_law 548 = .ok (.aload_n 0, 1) := by decide +kernel
theorem dL_law_549 : decode cL_law 549 = .ok (.iload_n 3, 1) := by decide +kernel
theorem dL_law_550 : decode cL_law 550 = .ok (.iconst 1, 1) := by decide +kernel
theorem dL_law_551 : decode cL_law 551 = .ok (.iadd, 1) := by decide +kernel
theorem dL_law_552 : decode cL_law 552 = .ok (.iaload, 1) := by decide +kernel
theorem dL_law_553 : decode cL_law 553 = .ok (.aload_n 0, 1) := by decide +kernel
theorem dL_law_554 : decode cL_law 554 = .ok (.iload_n 3, 1) := by decide +kernel
theorem dL_law_555 : decode cL_law 555 = .ok (.iconst 2, 1) := by decide +kernel
theorem dL_law_556 : decode cL_law 556 = .ok (.iadd, 1) := by decide +kernel
theorem dL_law_557 : decode cL_law 557 = .ok (.iaload, 1) := by decide +kernel
theorem dL_law_558 : decode cL_law 558 = .ok (.invokevirtual 63, 3) := by decide +kernel
theorem dL_law_561 : decode cL_law 561 = .ok (.if_icmp .eq 203, 3) := by decide +kernel
theorem dL_law_564 : decode cL_law 564 = .ok (.iconst 0, 1) := by decide +kernel
theorem dL_law_565 : decode cL_law 565 = .ok (.ireturn, 1) := by decide +kernel
theorem dL_law_566 : decode cL_law 566 = .ok (.aload_n 1, 1) := by decide +kernel
theorem dL_law_567 : decode cL_law 567 = .ok (.aload_n 0, 1) := by decide +kernel
theorem dL_law_568 : decode cL_law 568 = .ok (.iload_n 3, 1) := by decide +kernel
theorem dL_law_569 : decode cL_law 569 = .ok (.iconst 1, 1) := by decide +kernel
theorem dL_law_570 : decode cL_law 570 = .ok (.iadd, 1) := by decide +kernel
theorem dL_law_571 : decode cL_law 571 = .ok (.iaload, 1) := by decide +kernel
theorem dL_law_572 : decode cL_law 572 = .ok (.aload_n 0, 1) := by decide +kernel
theorem dL_law_573 : decode cL_law 573 = .ok (.iload_n 3, 1) := by decide +kernel
theorem dL_law_574 : decode cL_law 574 = .ok (.iconst 2, 1) := by decide +kernel
theorem dL_law_575 : decode cL_law 575 = .ok (.iadd, 1) := by decide +kernel
theorem dL_law_576 : decode cL_law 576 = .ok (.iaload, 1) := by decide +kernel
theorem dL_law_577 : decode cL_law 577 = .ok (.aload_n 0, 1) := by decide +kernel
theorem dL_law_578 : decode cL_law 578 = .ok (.iload_n 3, 1) := by decide +kernel
theorem dL_law_579 : decode cL_law 579 = .ok (.iconst 3, 1) := by decide +kernel
theorem dL_law_580 : decode cL_law 580 = .ok (.iadd, 1) := by decide +kernel
theorem dL_law_581 : decode cL_law 581 = .ok (.iaload, 1) := by decide +kernel
theorem dL_law_582 : decode cL_law 582 = .ok (.invokevirtual 64, 3) := by decide +kernel
theorem dL_law_585 : decode cL_law 585 = .ok (.aload_n 2, 1) := by decide +kernel
theorem dL_law_586 : decode cL_law 586 = .ok (.aload_n 0, 1) := by decide +kernel
theorem dL_law_587 : decode cL_law 587 = .ok (.iload_n 3, 1) := by decide +kernel
theorem dL_law_588 : decode cL_law 588 = .ok (.iconst 1, 1) := by decide +kernel
theorem dL_law_589 : decode cL_law 589 = .ok (.iadd, 1) := by decide +kernel
theorem dL_law_590 : decode cL_law 590 = .ok (.iaload, 1) := by decide +kernel
theorem dL_law_591 : decode cL_law 591 = .ok (.aload_n 0, 1) := by decide +kernel
theorem dL_law_592 : decode cL_law 592 = .ok (.iload_n 3, 1) := by decide +kernel
theorem dL_law_593 : decode cL_law 593 = .ok (.iconst 2, 1) := by decide +kernel
theorem dL_law_594 : decode cL_law 594 = .ok (.iadd, 1) := by decide +kernel
theorem dL_law_595 : decode cL_law 595 = .ok (.iaload, 1) := by decide +kernel
theorem dL_law_596 : decode cL_law 596 = .ok (.aload_n 0, 1) := by decide +kernel
theorem dL_law_597 : decode cL_law 597 = .ok (.iload_n 3, 1) := by decide +kernel
theorem dL_law_598 : decode cL_law 598 = .ok (.iconst 3, 1) := by decide +kernel
theorem dL_law_599 : decode cL_law 599 = .ok (.iadd, 1) := by decide +kernel
theorem dL_law_600 : decode cL_law 600 = .ok (.iaload, 1) := by decide +kernel
theorem dL_law_601 : decode cL_law 601 = .ok (.invokevirtual 67, 3) := by decide +kernel
theorem dL_law_604 : decode cL_law 604 = .ok (.if_icmp .eq 160, 3) := by decide +kernel
theorem dL_law_607 : decode cL_law 607 = .ok (.iconst 0, 1) := by decide +kernel
theorem dL_law_608 : decode cL_law 608 = .ok (.ireturn, 1) := by decide +kernel
theorem dL_law_609 : decode cL_law 609 = .ok (.aload_n 1, 1) := by decide +kernel
theorem dL_law_610 : decode cL_law 610 = .ok (.aload_n 0, 1) := by decide +kernel
theorem dL_law_611 : decode cL_law 611 = .ok (.iload_n 3, 1) := by decide +kernel
theorem dL_law_612 : decode cL_law 612 = .ok (.iconst 1, 1) := by decide +kernel
theorem dL_law_613 : decode cL_law 613 = .ok (.iadd, 1) := by decide +kernel
theorem dL_law_614 : decode cL_law 614 = .ok (.iaload, 1) := by decide +kernel
theorem dL_law_615 : decode cL_law 615 = .ok (.aload_n 0, 1) := by decide +kernel
theorem dL_law_616 : decode cL_law 616 = .ok (.iload_n 3, 1) := by decide +kernel
theorem dL_law_617 : decode cL_law 617 = .ok (.iconst 2, 1) := by decide +kernel
theorem dL_law_618 : decode cL_law 618 = .ok (.iadd, 1) := by decide +kernel
theorem dL_law_619 : decode cL_law 619 = .ok (.iaload, 1) := by decide +kernel
theorem dL_law_620 : decode cL_law 620 = .ok (.invokevirtual 68, 3) := by decide +kernel
theorem dL_law_623 : decode cL_law 623 = .ok (.aload_n 2, 1) := by decide +kernel
theorem dL_law_624 : decode cL_law 624 = .ok (.aload_n 0, 1) := by decide +kernel
theorem dL_law_625 : decode cL_law 625 = .ok (.iload_n 3, 1) := by decide +kernel
theorem dL_law_626 : decode cL_law 626 = .ok (.iconst 1, 1) := by decide +kernel
theorem dL_law_627 : decode cL_law 627 = .ok (.iadd, 1) := by decide +kernel
theorem dL_law_628 : decode cL_law 628 = .ok (.iaload, 1) := by decide +kernel
theorem dL_law_629 : decode cL_law 629 = .ok (.aload_n 0, 1) := by decide +kernel
theorem dL_law_630 : decode cL_law 630 = .ok (.iload_n 3, 1) := by decide +kernel
theorem dL_law_631 : decode cL_law 631 = .ok (.iconst 2, 1) := by decide +kernel
theorem dL_law_632 : decode cL_law 632 = .ok (.iadd, 1) := by decide +kernel
theorem dL_law_633 : decode cL_law 633 = .ok (.iaload, 1) := by decide +kernel
theorem dL_law_634 : decode cL_law 634 = .ok (.invokevirtual 71, 3) := by decide +kernel
theorem dL_law_637 : decode cL_law 637 = .ok (.if_icmp .eq 127, 3) := by decide +kernel
theorem dL_law_640 : decode cL_law 640 = .ok (.iconst 0, 1) := by decide +kernel
theorem dL_law_641 : decode cL_law 641 = .ok (.ireturn, 1) := by decide +kernel
theorem dL_law_642 : decode cL_law 642 = .ok (.aload_n 1, 1) := by decide +kernel
theorem dL_law_643 : decode cL_law 643 = .ok (.aload_n 0, 1) := by decide +kernel
theorem dL_law_644 : decode cL_law 644 = .ok (.iload_n 3, 1) := by decide +kernel
theorem dL_law_645 : decode cL_law 645 = .ok (.iconst 1, 1) := by decide +kernel
theorem dL_law_646 : decode cL_law 646 = .ok (.iadd, 1) := by decide +kernel
theorem dL_law_647 : decode cL_law 647 = .ok (.iaload, 1) := by decide +kernel
theorem dL_law_648 : decode cL_law 648 = .ok (.aload_n 0, 1) := by decide +kernel
theorem dL_law_649 : decode cL_law 649 = .ok (.iload_n 3, 1) := by decide +kernel
theorem dL_law_650 : decode cL_law 650 = .ok (.iconst 2, 1) := by decide +kernel
theorem dL_law_651 : decode cL_law 651 = .ok (.iadd, 1) := by decide +kernel
theorem dL_law_652 : decode cL_law 652 = .ok (.iaload, 1) := by decide +kernel
theorem dL_law_653 : decode cL_law 653 = .ok (.aload_n 0, 1) := by decide +kernel
theorem dL_law_654 : decode cL_law 654 = .ok (.iload_n 3, 1) := by decide +kernel
theorem dL_law_655 : decode cL_law 655 = .ok (.iconst 3, 1) := by decide +kernel
theorem dL_law_656 : decode cL_law 656 = .ok (.iadd, 1) := by decide +kernel
theorem dL_law_657 : decode cL_law 657 = .ok (.iaload, 1) := by decide +kernel
theorem dL_law_658 : decode cL_law 658 = .ok (.aload_n 0, 1) := by decide +kernel
theorem dL_law_659 : decode cL_law 659 = .ok (.iload_n 3, 1) := by decide +kernel
theorem dL_law_660 : decode cL_law 660 = .ok (.iconst 4, 1) := by decide +kernel
theorem dL_law_661 : decode cL_law 661 = .ok (.iadd, 1) := by decide +kernel
theorem dL_law_662 : decode cL_law 662 = .ok (.iaload, 1) := by decide +kernel
theorem dL_law_663 : decode cL_law 663 = .ok (.invokevirtual 72, 3) := by decide +kernel
theorem dL_law_666 : decode cL_law 666 = .ok (.aload_n 2, 1) := by decide +kernel
theorem dL_law_667 : decode cL_law 667 = .ok (.aload_n 0, 1) := by decide +kernel
theorem dL_law_668 : decode cL_law 668 = .ok (.iload_n 3, 1) := by decide +kernel
theorem dL_law_669 : decode cL_law 669 = .ok (.iconst 1, 1) := by decide +kernel
theorem dL_law_670 : decode cL_law 670 = .ok (.iadd, 1) := by decide +kernel
theorem dL_law_671 : decode cL_law 671 = .ok (.iaload, 1) := by decide +kernel
theorem dL_law_672 : decode cL_law 672 = .ok (.aload_n 0, 1) := by decide +kernel
theorem dL_law_673 : decode cL_law 673 = .ok (.iload_n 3, 1) := by decide +kernel
theorem dL_law_674 : decode cL_law 674 = .ok (.iconst 2, 1) := by decide +kernel
theorem dL_law_675 : decode cL_law 675 = .ok (.iadd, 1) := by decide +kernel
theorem dL_law_676 : decode cL_law 676 = .ok (.iaload, 1) := by decide +kernel
theorem dL_law_677 : decode cL_law 677 = .ok (.aload_n 0, 1) := by decide +kernel
theorem dL_law_678 : decode cL_law 678 = .ok (.iload_n 3, 1) := by decide +kernel
theorem dL_law_679 : decode cL_law 679 = .ok (.iconst 3, 1) := by decide +kernel
theorem dL_law_680 : decode cL_law 680 = .ok (.iadd, 1) := by decide +kernel
theorem dL_law_681 : decode cL_law 681 = .ok (.iaload, 1) := by decide +kernel
theorem dL_law_682 : decode cL_law 682 = .ok (.aload_n 0, 1) := by decide +kernel
theorem dL_law_683 : decode cL_law 683 = .ok (.iload_n 3, 1) := by decide +kernel
theorem dL_law_684 : decode cL_law 684 = .ok (.iconst 4, 1) := by decide +kernel
theorem dL_law_685 : decode cL_law 685 = .ok (.iadd, 1) := by decide +kernel
theorem dL_law_686 : decode cL_law 686 = .ok (.iaload, 1) := by decide +kernel
theorem dL_law_687 : decode cL_law 687 = .ok (.invokevirtual 75, 3) := by decide +kernel
theorem dL_law_690 : decode cL_law 690 = .ok (.if_icmp .eq 74, 3) := by decide +kernel
theorem dL_law_693 : decode cL_law 693 = .ok (.iconst 0, 1) := by decide +kernel
theorem dL_law_694 : decode cL_law 694 = .ok (.ireturn, 1) := by decide +kernel
theorem dL_law_695 : decode cL_law 695 = .ok (.aload_n 1, 1) := by decide +kernel
theorem dL_law_696 : decode cL_law 696 = .ok (.aload_n 0, 1) := by decide +kernel
theorem dL_law_697 : decode cL_law 697 = .ok (.iload_n 3, 1) := by decide +kernel
theorem dL_law_698 : decode cL_law 698 = .ok (.iconst 1, 1) := by decide +kernel
theorem dL_law_699 : decode cL_law 699 = .ok (.iadd, 1) := by decide +kernel
theorem dL_law_700 : decode cL_law 700 = .ok (.iaload, 1) := by decide +kernel
theorem dL_law_701 : decode cL_law 701 = .ok (.invokevirtual 76, 3) := by decide +kernel
theorem dL_law_704 : decode cL_law 704 = .ok (.aload_n 2, 1) := by decide +kernel
theorem dL_law_705 : decode cL_law 705 = .ok (.aload_n 0, 1) := by decide +kernel
theorem dL_law_706 : decode cL_law 706 = .ok (.iload_n 3, 1) := by decide +kernel
theorem dL_law_707 : decode cL_law 707 = .ok (.iconst 1, 1) := by decide +kernel
theorem dL_law_708 : decode cL_law 708 = .ok (.iadd, 1) := by decide +kernel
theorem dL_law_709 : decode cL_law 709 = .ok (.iaload, 1) := by decide +kernel
theorem dL_law_710 : decode cL_law 710 = .ok (.invokevirtual 80, 3) := by decide +kernel
theorem dL_law_713 : decode cL_law 713 = .ok (.if_icmp .eq 51, 3) := by decide +kernel
theorem dL_law_716 : decode cL_law 716 = .ok (.iconst 0, 1) := by decide +kernel
theorem dL_law_717 : decode cL_law 717 = .ok (.ireturn, 1) := by decide +kernel
theorem dL_law_718 : decode cL_law 718 = .ok (.aload_n 1, 1) := by decide +kernel
theorem dL_law_719 : decode cL_law 719 = .ok (.aload_n 0, 1) := by decide +kernel
theorem dL_law_720 : decode cL_law 720 = .ok (.iload_n 3, 1) := by decide +kernel
theorem dL_law_721 : decode cL_law 721 = .ok (.iconst 1, 1) := by decide +kernel
theorem dL_law_722 : decode cL_law 722 = .ok (.iadd, 1) := by decide +kernel
theorem dL_law_723 : decode cL_law 723 = .ok (.iaload, 1) := by decide +kernel
theorem dL_law_724 : decode cL_law 724 = .ok (.invokevirtual 81, 3) := by decide +kernel
theorem dL_law_727 : decode cL_law 727 = .ok (.aload_n 2, 1) := by decide +kernel
theorem dL_law_728 : decode cL_law 728 = .ok (.aload_n 0, 1) := by decide +kernel
theorem dL_law_729 : decode cL_law 729 = .ok (.iload_n 3, 1) := by decide +kernel
theorem dL_law_730 : decode cL_law 730 = .ok (.iconst 1, 1) := by decide +kernel
theorem dL_law_731 : decode cL_law 731 = .ok (.iadd, 1) := by decide +kernel
theorem dL_law_732 : decode cL_law 732 = .ok (.iaload, 1) := by decide +kernel
theorem dL_law_733 : decode cL_law 733 = .ok (.invokevirtual 84, 3) := by decide +kernel
theorem dL_law_736 : decode cL_law 736 = .ok (.if_icmp .eq 28, 3) := by decide +kernel
theorem dL_law_739 : decode cL_law 739 = .ok (.iconst 0, 1) := by decide +kernel
theorem dL_law_740 : decode cL_law 740 = .ok (.ireturn, 1) := by decide +kernel
theorem dL_law_741 : decode cL_law 741 = .ok (.aload_n 1, 1) := by decide +kernel
theorem dL_law_742 : decode cL_law 742 = .ok (.aload_n 0, 1) := by decide +kernel
theorem dL_law_743 : decode cL_law 743 = .ok (.iload_n 3, 1) := by decide +kernel
theorem dL_law_744 : decode cL_law 744 = .ok (.iconst 1, 1) := by decide +kernel
theorem dL_law_745 : decode cL_law 745 = .ok (.iadd, 1) := by decide +kernel
theorem dL_law_746 : decode cL_law 746 = .ok (.iaload, 1) := by decide +kernel
theorem dL_law_747 : decode cL_law 747 = .ok (.invokevirtual 85, 3) := by decide +kernel
theorem dL_law_750 : decode cL_law 750 = .ok (.aload_n 2, 1) := by decide +kernel
theorem dL_law_751 : decode cL_law 751 = .ok (.aload_n 0, 1) := by decide +kernel
theorem dL_law_752 : decode cL_law 752 = .ok (.iload_n 3, 1) := by decide +kernel
theorem dL_law_753 : decode cL_law 753 = .ok (.iconst 1, 1) := by decide +kernel
theorem dL_law_754 : decode cL_law 754 = .ok (.iadd, 1) := by decide +kernel
theorem dL_law_755 : decode cL_law 755 = .ok (.iaload, 1) := by decide +kernel
theorem dL_law_756 : decode cL_law 756 = .ok (.invokevirtual 88, 3) := by decide +kernel
theorem dL_law_759 : decode cL_law 759 = .ok (.if_icmp .eq 5, 3) := by decide +kernel
theorem dL_law_762 : decode cL_law 762 = .ok (.iconst 0, 1) := by decide +kernel
theorem dL_law_763 : decode cL_law 763 = .ok (.ireturn, 1) := by decide +kernel
theorem dL_law_764 : decode cL_law 764 = .ok (.iinc 3 5, 3) := by decide +kernel
theorem dL_law_767 : decode cL_law 767 = .ok (.goto (-749), 3) := by decide +kernel
theorem dL_law_770 : decode cL_law 770 = .ok (.iconst 1, 1) := by decide +kernel
theorem dL_law_771 : decode cL_law 771 = .ok (.ireturn, 1) := by decide +kernel
end
section
/-! ===== own layer: nest words, worlds, contracts, calls, ends ===== -/
def nestT : List Cond := [Cond.fieldLinkNest RX2 21 "SumsForAll$Setting" "rows" "LSumsForAll$Rows;" "SumsForAll", Cond.fieldLinkNest RX5 68 "SumsForAll$Setting" "rows" "LSumsForAll$Rows;" "SumsForAll", Cond.fieldLinkNest RX5 54 "SumsForAll$Setting" "many" "I" "SumsForAll", Cond.fieldLinkNest RX5 162 "SumsForAll$Setting" "size" "I" "SumsForAll", Cond.fieldLinkNest RX5 86 "SumsForAll$Setting" "op" "I" "SumsForAll", Cond.fieldLinkNest RX5 89 "SumsForAll$Setting" "start" "I" "SumsForAll", Cond.fieldLinkNest RX5 92 "SumsForAll$Setting" "each" "I" "SumsForAll", Cond.fieldLinkNest RX0 36 "SumsForAll$Letters" "written" "I" "SumsForAll", Cond.fieldLinkNest RX2 34 "SumsForAll$Letters" "written" "I" "SumsForAll", Cond.fieldLinkNest RX5 115 "SumsForAll$Letters" "written" "I" "SumsForAll", Cond.fieldLinkNest RX2 28 "SumsForAll$Letters" "rounds" "I" "SumsForAll", Cond.fieldLinkNest RX0 31 "SumsForAll$Letters" "rounds" "I" "SumsForAll", Cond.fieldLinkNest RX5 112 "SumsForAll$Letters" "rounds" "I" "SumsForAll", Cond.fieldLinkNest RX5 122 "SumsForAll$Busy" "time" "I" "SumsForAll", Cond.fieldLinkNest RX5 125 "SumsForAll$Busy" "longestRound" "I" "SumsForAll", Cond.fieldLinkNest RX5 145 "SumsForAll$Play" "rows" "LSumsForAll$Rows;" "SumsForAll", Cond.methodLinkNest RX4 11 yX3_init "SumsForAll", Cond.methodLinkNest RX5 28 yX1_init "SumsForAll", Cond.methodLinkNest RX5 35 yX0_init "SumsForAll", Cond.methodLinkNest RX5 42 yX2_init "SumsForAll", Cond.methodLinkNest RX2 11 yX3_init "SumsForAll", Cond.methodLinkNest RX4 57 yX5_isWithin "SumsForAll", Cond.methodLinkNest RX3 35 yX5_isWithin "SumsForAll", Cond.methodLinkNest RX1 56 yX5_isWithin "SumsForAll", Cond.methodLinkNest RX0 57 yX5_isWithin "SumsForAll"]
def nestW (w : Cond) : Prop := (∃ (a : String) (i : Nat) (b n d h : String), w = .fieldLinkNest a i b n d h) ∨ (∃ (a : String) (i : Nat) (x : MethodName) (h : String), w = .methodLinkNest a i x h)
theorem nestT_ok : ∀ w ∈ nestT, nestW w := List.forall_mem_cons.mpr ⟨Or.inl ⟨_, _, _, _, _, _, rfl⟩, List.forall_mem_cons.mpr ⟨Or.inl ⟨_, _, _, _, _, _, rfl⟩, List.forall_mem_cons.mpr ⟨Or.inl ⟨_, _, _, _, _, _, rfl⟩, List.forall_mem_cons.mpr ⟨Or.inl ⟨_, _, _, _, _, _, rfl⟩, List.forall_mem_cons.mpr ⟨Or.inl ⟨_, _, _, _, _, _, rfl⟩, List.forall_mem_cons.mpr ⟨Or.inl ⟨_, _, _, _, _, _, rfl⟩, List.forall_mem_cons.mpr ⟨Or.inl ⟨_, _, _, _, _, _, rfl⟩, List.forall_mem_cons.mpr ⟨Or.inl ⟨_, _, _, _, _, _, rfl⟩, List.forall_mem_cons.mpr ⟨Or.inl ⟨_, _, _, _, _, _, rfl⟩, List.forall_mem_cons.mpr ⟨Or.inl ⟨_, _, _, _, _, _, rfl⟩, List.forall_mem_cons.mpr ⟨Or.inl ⟨_, _, _, _, _, _, rfl⟩, List.forall_mem_cons.mpr ⟨Or.inl ⟨_, _, _, _, _, _, rfl⟩, List.forall_mem_cons.mpr ⟨Or.inl ⟨_, _, _, _, _, _, rfl⟩, List.forall_mem_cons.mpr ⟨Or.inl ⟨_, _, _, _, _, _, rfl⟩, List.forall_mem_cons.mpr ⟨Or.inl ⟨_, _, _, _, _, _, rfl⟩, List.forall_mem_cons.mpr ⟨Or.inl ⟨_, _, _, _, _, _, rfl⟩, List.forall_mem_cons.mpr ⟨Or.inr ⟨_, _, _, _, rfl⟩, List.forall_mem_cons.mpr ⟨Or.inr ⟨_, _, _, _, rfl⟩, List.forall_mem_cons.mpr ⟨Or.inr ⟨_, _, _, _, rfl⟩, List.forall_mem_cons.mpr ⟨Or.inr ⟨_, _, _, _, rfl⟩, List.forall_mem_cons.mpr ⟨Or.inr ⟨_, _, _, _, rfl⟩, List.forall_mem_cons.mpr ⟨Or.inr ⟨_, _, _, _, rfl⟩, List.forall_mem_cons.mpr ⟨Or.inr ⟨_, _, _, _, rfl⟩, List.forall_mem_cons.mpr ⟨Or.inr ⟨_, _, _, _, rfl⟩, List.forall_mem_cons.mpr ⟨Or.inr ⟨_, _, _, _, rfl⟩, fun _ h => absurd h List.not_mem_nil⟩⟩⟩⟩⟩⟩⟩⟩⟩⟩⟩⟩⟩⟩⟩⟩⟩⟩⟩⟩⟩⟩⟩⟩⟩
theorem nestT_in : ∀ w ∈ nestT, w ∈ lw_tbl := List.forall_mem_cons.mpr ⟨List.mem_append_right _ (List.mem_append_left _ (List.mem_of_getElem? (i := 40) rfl)), List.forall_mem_cons.mpr ⟨List.mem_append_right _ (List.mem_append_left _ (List.mem_of_getElem? (i := 41) rfl)), List.forall_mem_cons.mpr ⟨List.mem_append_right _ (List.mem_append_left _ (List.mem_of_getElem? (i := 44) rfl)), List.forall_mem_cons.mpr ⟨List.mem_append_right _ (List.mem_append_left _ (List.mem_of_getElem? (i := 46) rfl)), List.forall_mem_cons.mpr ⟨List.mem_append_right _ (List.mem_append_left _ (List.mem_of_getElem? (i := 48) rfl)), List.forall_mem_cons.mpr ⟨List.mem_append_right _ (List.mem_append_left _ (List.mem_of_getElem? (i := 50) rfl)), List.forall_mem_cons.mpr ⟨List.mem_append_right _ (List.mem_append_left _ (List.mem_of_getElem? (i := 52) rfl)), List.forall_mem_cons.mpr ⟨List.mem_append_right _ (List.mem_append_left _ (List.mem_of_getElem? (i := 76) rfl)), List.forall_mem_cons.mpr ⟨List.mem_append_right _ (List.mem_append_left _ (List.mem_of_getElem? (i := 77) rfl)), List.forall_mem_cons.mpr ⟨List.mem_append_right _ (List.mem_append_left _ (List.mem_of_getElem? (i := 78) rfl)), List.forall_mem_cons.mpr ⟨List.mem_append_right _ (List.mem_append_left _ (List.mem_of_getElem? (i := 80) rfl)), List.forall_mem_cons.mpr ⟨List.mem_append_right _ (List.mem_append_left _ (List.mem_of_getElem? (i := 81) rfl)), List.forall_mem_cons.mpr ⟨List.mem_append_right _ (List.mem_append_left _ (List.mem_of_getElem? (i := 82) rfl)), List.forall_mem_cons.mpr ⟨List.mem_append_right _ (List.mem_append_left _ (List.mem_of_getElem? (i := 111) rfl)), List.forall_mem_cons.mpr ⟨List.mem_append_right _ (List.mem_append_left _ (List.mem_of_getElem? (i := 113) rfl)), List.forall_mem_cons.mpr ⟨List.mem_append_right _ (List.mem_append_left _ (List.mem_of_getElem? (i := 132) rfl)), List.forall_mem_cons.mpr ⟨List.mem_append_right _ (List.mem_append_left _ (List.mem_of_getElem? (i := 27) rfl)), List.forall_mem_cons.mpr ⟨List.mem_append_right _ (List.mem_append_left _ (List.mem_of_getElem? (i := 70) rfl)), List.forall_mem_cons.mpr ⟨List.mem_append_right _ (List.mem_append_left _ (List.mem_of_getElem? (i := 104) rfl)), List.forall_mem_cons.mpr ⟨List.mem_append_right _ (List.mem_append_left _ (List.mem_of_getElem? (i := 125) rfl)), List.forall_mem_cons.mpr ⟨List.mem_append_right _ (List.mem_append_left _ (List.mem_of_getElem? (i := 130) rfl)), List.forall_mem_cons.mpr ⟨List.mem_append_right _ (List.mem_append_left _ (List.mem_of_getElem? (i := 188) rfl)), List.forall_mem_cons.mpr ⟨List.mem_append_right _ (List.mem_append_left _ (List.mem_of_getElem? (i := 200) rfl)), List.forall_mem_cons.mpr ⟨List.mem_append_right _ (List.mem_append_right _ (List.mem_append_left _ (List.mem_of_getElem? (i := 86) rfl))), List.forall_mem_cons.mpr ⟨List.mem_append_right _ (List.mem_append_right _ (List.mem_append_left _ (List.mem_of_getElem? (i := 97) rfl))), fun _ h => absurd h List.not_mem_nil⟩⟩⟩⟩⟩⟩⟩⟩⟩⟩⟩⟩⟩⟩⟩⟩⟩⟩⟩⟩⟩⟩⟩⟩⟩
def KK (G : va_G) (cI cZ : ClassId) (U : State) : Prop := va_K G vwCl [(cI, .int), (cZ, .boolean)] U ∧ ∀ w ∈ nestT, va_Nw w U
theorem nest_on {w : Cond} (h : nestW w) : w.onTables = true := by
  rcases h with ⟨a, i, b, n, d, h', rfl⟩ | ⟨a, i, x, h', rfl⟩ <;> rfl
theorem KK.warm {G : va_G} {cI cZ : ClassId} {s U : State} (hW : s.WarmedH U.vm) (h : KK G cI cZ s) : KK G cI cZ U := by
  refine ⟨va_K.moved hW.alike h.1, fun w hw => ?_⟩
  have h2 := h.2 w hw
  rcases nestT_ok w hw with ⟨a, i, b, n, d, h', rfl⟩ | ⟨a, i, x, h', rfl⟩
  · exact va_Nw.warmF hW h2
  · exact va_Nw.warmM hW h2
theorem KK.same {G : va_G} {cI cZ : ClassId} {s U : State} (e : s.vm = U.vm) (h : KK G cI cZ s) : KK G cI cZ U :=
  ⟨va_K.moved (by rw [e]; exact Vm.Alike.refl _) h.1, fun w hw => va_Nw.same (nest_on (nestT_ok w hw)) e (h.2 w hw)⟩
/-- the words that go down with every call: the good ones of the tables -/
def TT : List Cond := lw_tbl.filter goodWord
theorem TT_in : ∀ w ∈ TT, w ∈ lw_tbl := fun _ h => (List.mem_filter.mp h).1
theorem TT_good : GoodIn TT TT := fun _ h => ⟨h, good_of_word (List.mem_filter.mp h).2⟩
theorem tm0 (i : Nat) (w : Cond) (h : (k2_sels lw_privs)[i]? = some w) (hg : goodWord w = true) : w ∈ TT := List.mem_filter.mpr ⟨List.mem_append_left _ (List.mem_of_getElem? h), hg⟩
theorem tm1 (i : Nat) (w : Cond) (h : tables_1_1[i]? = some w) (hg : goodWord w = true) : w ∈ TT := List.mem_filter.mpr ⟨List.mem_append_right _ (List.mem_append_left _ (List.mem_of_getElem? h)), hg⟩
theorem tm2 (i : Nat) (w : Cond) (h : tables_1_2[i]? = some w) (hg : goodWord w = true) : w ∈ TT := List.mem_filter.mpr ⟨List.mem_append_right _ (List.mem_append_right _ (List.mem_append_left _ (List.mem_of_getElem? h))), hg⟩
theorem tm3 (i : Nat) (w : Cond) (h : tables_1_3[i]? = some w) (hg : goodWord w = true) : w ∈ TT := List.mem_filter.mpr ⟨List.mem_append_right _ (List.mem_append_right _ (List.mem_append_right _ (List.mem_append_left _ (List.mem_of_getElem? h)))), hg⟩
theorem tm4 (i : Nat) (w : Cond) (h : tables_1_4[i]? = some w) (hg : goodWord w = true) : w ∈ TT := List.mem_filter.mpr ⟨List.mem_append_right _ (List.mem_append_right _ (List.mem_append_right _ (List.mem_append_right _ (List.mem_of_getElem? h)))), hg⟩
/-- the fixed facts of a walk -/
def Fx (p : Program) (s : State) (m : MethodId) (args : Array Value) (meth : Method) (c : Code) (G : va_G) (cI cZ : ClassId) (own : String) (cc : ByteArray) (mL : Nat) : Prop :=
  p.tables.exec = Jvm.exec ∧ c.code = cc ∧ c.maxLocals = mL ∧ s.vm.findClass own = some m.cls ∧ (∀ w ∈ TT, w.before args s = true) ∧ meth.locks = false ∧ KK G cI cZ s
/-- the world at a point: cells, apart, nothing else changed -/
def Hd (G : va_G) (A : Nat → Prop) (H0 : Heap) (ws : va_W) (H : Heap) (locs : List Loc) : Prop := va_P G vwCl ws H ∧ va_D A ws ∧ va_S A H0 H locs
theorem Hd.sub {G : va_G} {A : Nat → Prop} {H0 H : Heap} {ws ws' : va_W} {locs : List Loc} (h : Hd G A H0 ws H locs) (is : List Nat) (hn : va_nd is = true) (hs : is.map (fun i => ws[i]?) = ws'.map some) : Hd G A H0 ws' H locs := by
  refine ⟨h.1.sub is ?_, h.2.1.sub is hn hs, h.2.2⟩
  have : is.filterMap (fun i => ws[i]?) = (is.map (fun i => ws[i]?)).filterMap id := by rw [List.filterMap_map]; rfl
  rw [this, hs, List.filterMap_map]
  simp
theorem vp_cell_congr {cA : ClassId} {n : Nat} {f g : Nat → Int32} (h : ∀ j, j < n → f j = g j) : vp_cell cA (n, .inl f) = vp_cell cA (n, .inl g) := by
  show arrV cA n (fun j => .int (f j)) = arrV cA n (fun j => .int (g j))
  unfold arrV
  congr 1
  apply Array.ext
  · simp
  · intro j h1 h2
    have hj : j < n := by simpa using h1
    simp [h j hj]
theorem Hd.arr {G : va_G} {A : Nat → Prop} {H0 H : Heap} {ws : va_W} {locs : List Loc} {a n : Nat} {cA : ClassId} {f : Nat → Int32} (h : Hd G A H0 ws H locs) (q0 : Nat) (he : ws[q0]? = some (a, .inl (cA, n, .inl f))) (g : Nat → Int32) (hg : ∀ j, j < n → f j = g j) : Hd G A H0 (ws.set q0 (a, .inl (cA, n, .inl g))) H locs := by
  refine ⟨h.1.set h.2.1 he ?_ (fun q _ => rfl), h.2.1.set he, h.2.2⟩
  have h1 : va_at G vwCl (a, .inl (cA, n, .inl f)) H := h.1 q0 _ he
  show H[a]? = some (vp_cell cA (n, .inl g))
  rw [← vp_cell_congr hg]
  exact h1
theorem Hd.cong {G : va_G} {A : Nat → Prop} {H0 H : Heap} {ws ws' : va_W} {locs : List Loc} (h : Hd G A H0 ws H locs) (e : ws = ws') : Hd G A H0 ws' H locs := e ▸ h
theorem lv_rep {ls : Array Slot} {nL : Nat} {v v' : List (Nat × Value)} (h : lv_has ls nL v) (e : v = v') : lv_has ls nL v' := e ▸ h
def b2i (b : Bool) : Int32 := if b then 1 else 0
theorem b2i_t : b2i true = 1 := rfl
theorem b2i_f : b2i false = 0 := rfl
theorem b2i_nar (b : Bool) : narrow .boolean (.int (b2i b)) = .int (b2i b) := by cases b <;> rfl
/-- a contract of a method that only reads and answers an int -/
def CR (l : Launch) (G : va_G) (cI cZ : ClassId) (y : MethodName) (cc : ByteArray) (mL : Nat) (ret : FieldType) (fr lo : Nat) (av : List Value) (w0 : va_W) (r : Int32) : Prop :=
  Met l y (.code y cc mL (some ret) :: TT) { frames := fr, cells := 0, slots := 0, locals := lo } (va_Pc av (fun U => va_P G vwCl w0 U.heap ∧ KK G cI cZ U)) (QcRead r) 0 0 (fun _ => False)
def QM (G : va_G) (w0 : va_W) (sz : Nat) (Post : Option Value → va_W → Prop) : Array Value → State → Outcome → State → Prop := fun _ st oc t =>
  (∃ (v : Option Value) (w1 : va_W), oc = .returned v ∧ Post v w1 ∧ va_P G vwCl w1 t.heap ∧ va_D (va_A w0 sz) w1) ∧ va_F (va_A w0 sz) st t
/-- a contract of a method that changes its cells -/
def CM (l : Launch) (G : va_G) (cI cZ : ClassId) (y : MethodName) (cc : ByteArray) (mL : Nat) (ret : Option FieldType) (fr lo mc ms : Nat) (av : List Value) (w0 : va_W) (Post : Option Value → va_W → Prop) : Prop :=
  ∀ sz : Nat, Met l y (.code y cc mL ret :: TT) { frames := fr, cells := mc, slots := ms, locals := lo } (va_Pc av (fun U => U.heap.size = sz ∧ va_P G vwCl w0 U.heap ∧ KK G cI cZ U ∧ va_D (fun _ => True) w0)) (QM G w0 sz Post) mc ms (va_A w0 sz)
theorem CR.of {l : Launch} {G : va_G} {cI cZ : ClassId} {y : MethodName} {cc : ByteArray} {mL : Nat} {ret : FieldType} {fr lo : Nat} {av : List Value} {w0 : va_W} {r : Int32} {own : String} (hy : plainName y.cls = true) (ho : y.cls = own) (hn : narrow ret (.int r) = .int r) (hm : (lg_sl av).length ≤ mL)
    (body : ∀ (p : Program) (e : Env) (R : Room) (s : State) (m : MethodId) (args : Array Value) (below : List Frame) (meth : Method) (c : Code) (H : Heap) (Q : State → Prop), Fx p s m args meth c G cI cZ own cc mL → R = { frames := fr, cells := 0, slots := 0, locals := lo } → (∀ (pc : Nat) (ls : Array Slot), decode cc pc = .ok (.ireturn, 1) → W p l e R s m args below meth c H [] 0 0 Q (F0 m pc ls [.int r])) → va_P G vwCl w0 H → ∀ ls, lv_has ls mL (lv_args 0 av) → W p l e R s m args below meth c H [] 0 0 Q (F0 m 0 ls [])) : CR l G cI cZ y cc mL ret fr lo av w0 r := by
  refine Met.ofW (cc := cc) (maxL := mL) (ret := some ret) hy rfl ?_
  intro p e s m args below meth c s₁ B hml hv
  obtain ⟨rfl, hP, hK⟩ := hv
  have hts := atoms_spec (ws := Cond.code y cc mL (some ret) :: TT) B.pre
  have hown : s.vm.findClass own = some m.cls := by rw [← ho]; exact findClass_of_methodNamed B.named
  have hr := B.returns
  have hl := lv_entry av (n := mL) hm
  rw [lg_entry_eq]
  refine body p e _ s m _ below meth c s.heap _ ⟨B.exec, B.bytes, hml, hown, fun w hw => hts w (List.mem_cons_of_mem _ hw), B.notSynchronized, hK⟩ rfl ?_ hP _ hl
  intro pc ls hdg
  exact W.zret B.exec B.bytes hr hn (fun t ht hW => ⟨rfl, ht⟩) (fun q h => by cases h) hdg B.notSynchronized
theorem CM.of {l : Launch} {G : va_G} {cI cZ : ClassId} {y : MethodName} {cc : ByteArray} {mL : Nat} {ret : Option FieldType} {fr lo mc ms : Nat} {av : List Value} {w0 : va_W} {Post : Option Value → va_W → Prop} {own : String} (hy : plainName y.cls = true) (ho : y.cls = own) (hm : (lg_sl av).length ≤ mL)
    (body : ∀ (p : Program) (e : Env) (R : Room) (s : State) (m : MethodId) (args : Array Value) (below : List Frame) (meth : Method) (c : Code) (Q : State → Prop) (A : Nat → Prop), Fx p s m args meth c G cI cZ own cc mL → R = { frames := fr, cells := mc, slots := ms, locals := lo } → meth.sig.returnType = ret → meth.name = y.name → (∀ q, s.heap.size ≤ q → A q) →
      (∀ (H : Heap) (locs : List Loc) (w1 : va_W) (ls : Array Slot) (pc : Nat), Hd G A s.heap w1 H locs → (ret = none → Post none w1 → decode cc pc = .ok (.return_, 1) → W p l e R s m args below meth c H locs mc ms Q (F0 m pc ls [])) ∧ (∀ v : Int32, ret = some .int → Post (some (.int v)) w1 → decode cc pc = .ok (.ireturn, 1) → W p l e R s m args below meth c H locs mc ms Q (F0 m pc ls [.int v])) ∧ (∀ (v : Nat) (rt : String), ret = some (.object rt) → Post (some (.ref v)) w1 → decode cc pc = .ok (.areturn, 1) → W p l e R s m args below meth c H locs mc ms Q (F0 m pc ls [.ref v]))) →
      Hd G A s.heap w0 s.heap [] → ∀ ls, lv_has ls mL (lv_args 0 av) → W p l e R s m args below meth c s.heap [] 0 0 Q (F0 m 0 ls [])) : CM l G cI cZ y cc mL ret fr lo mc ms av w0 Post := by
  intro sz
  refine Met.ofW (cc := cc) (maxL := mL) (ret := ret) hy rfl ?_
  intro p e s m args below meth c s₁ B hml hv
  obtain ⟨rfl, hsz, hP, hK, hD0⟩ := hv
  subst hsz
  have hts := atoms_spec (ws := Cond.code y cc mL ret :: TT) B.pre
  have hown : s.vm.findClass own = some m.cls := by rw [← ho]; exact findClass_of_methodNamed B.named
  have hr := B.returns
  have hl := lv_entry av (n := mL) hm
  rw [lg_entry_eq]
  refine body p e _ s m _ below meth c _ (va_A w0 s.heap.size) ⟨B.exec, B.bytes, hml, hown, fun w hw => hts w (List.mem_cons_of_mem _ hw), B.notSynchronized, hK⟩ rfl hr (name_of_methodNamed B.named B.method).1 (fun q h => Or.inr h) ?_ ⟨hP, hD0.self, va_S.rf⟩ _ hl
  intro H locs w1 ls pc hd
  refine ⟨fun e1 hp hdg => ?_, fun v e1 hp hdg => ?_, fun v rt e1 hp hdg => ?_⟩
  · exact W.vret B.exec B.bytes (hr.trans e1) (fun t ht hW => ⟨⟨_, w1, rfl, hp, by rw [ht]; exact hd.1, hd.2.1⟩, hd.2.2.F ht⟩) hd.2.2.2.2 hdg B.notSynchronized
  · exact W.iret B.exec B.bytes (hr.trans e1) (fun t ht hW => ⟨⟨_, w1, rfl, hp, by rw [ht]; exact hd.1, hd.2.1⟩, hd.2.2.F ht⟩) hd.2.2.2.2 hdg B.notSynchronized
  · exact W.aret B.exec B.bytes (hr.trans e1) (Or.inl ⟨rt, rfl⟩) (Or.inr ⟨v, rfl⟩) (fun t ht hW => ⟨⟨_, w1, rfl, hp, by rw [ht]; exact hd.1, hd.2.1⟩, hd.2.2.F ht⟩) hd.2.2.2.2 hdg B.notSynchronized
/-- what the tables say of a method that is called -/
def KLV (own : String) (index : Nat) (C : String) (y : MethodName) (bytes : ByteArray) (maxL : Nat) (ret : Option FieldType) (n : Nat) : Prop :=
  Cond.methodLink own index y ∈ TT ∧ Cond.instanceMethod y ∈ TT ∧ Cond.selects C y y ∈ TT ∧ Cond.initialized C ∈ TT ∧ Cond.code y bytes maxL ret ∈ TT ∧ (y.cls = C ∧ y.cls ≠ "java/lang/invoke/MethodHandle" ∧ y.cls ≠ "java/lang/invoke/VarHandle" ∧ (parseMethodDescriptor y.desc).map (fun d => d.parameters.length) = some n)
def KLS (own : String) (index : Nat) (y : MethodName) (bytes : ByteArray) (maxL : Nat) (ret : Option FieldType) (n : Nat) : Prop :=
  Cond.methodLink own index y ∈ TT ∧ Cond.static y ∈ TT ∧ Cond.initialized y.cls ∈ TT ∧ Cond.code y bytes maxL ret ∈ TT ∧ (y.cls ≠ "java/lang/invoke/MethodHandle" ∧ y.cls ≠ "java/lang/invoke/VarHandle" ∧ (parseMethodDescriptor y.desc).map (fun d => d.parameters.length) = some n)
def KLSN (own : String) (index : Nat) (y : MethodName) (host : String) (bytes : ByteArray) (maxL : Nat) (ret : Option FieldType) (n : Nat) : Prop :=
  Cond.methodLinkNest own index y host ∈ nestT ∧ Cond.static y ∈ TT ∧ Cond.initialized y.cls ∈ TT ∧ Cond.code y bytes maxL ret ∈ TT ∧ (y.cls ≠ "java/lang/invoke/MethodHandle" ∧ y.cls ≠ "java/lang/invoke/VarHandle" ∧ (parseMethodDescriptor y.desc).map (fun d => d.parameters.length) = some n)
def KLI (own : String) (index : Nat) (y : MethodName) (bytes : ByteArray) (maxL : Nat) (n : Nat) : Prop :=
  Cond.methodLink own index y ∈ TT ∧ Cond.instanceMethod y ∈ TT ∧ Cond.initialized y.cls ∈ TT ∧ Cond.code y bytes maxL none ∈ TT ∧ y.name = "<init>" ∧ (y.cls ≠ "java/lang/invoke/MethodHandle" ∧ y.cls ≠ "java/lang/invoke/VarHandle" ∧ (parseMethodDescriptor y.desc).map (fun d => d.parameters.length) = some n)
def KLIN (own : String) (index : Nat) (y : MethodName) (host : String) (bytes : ByteArray) (maxL : Nat) (n : Nat) : Prop :=
  Cond.methodLinkNest own index y host ∈ nestT ∧ Cond.instanceMethod y ∈ TT ∧ Cond.initialized y.cls ∈ TT ∧ Cond.code y bytes maxL none ∈ TT ∧ y.name = "<init>" ∧ (y.cls ≠ "java/lang/invoke/MethodHandle" ∧ y.cls ≠ "java/lang/invoke/VarHandle" ∧ (parseMethodDescriptor y.desc).map (fun d => d.parameters.length) = some n)
theorem gd_c {c : Cond} (h : c ∈ TT) : GoodIn TT (c :: TT) := fun w hw => (List.mem_cons.mp hw).elim (fun e => e ▸ TT_good _ h) (TT_good w)
section OwnCalls
variable {p : Program} {l : Launch} {e : Env} {R : Room} {s : State} {m : MethodId} {args : Array Value} {below : List Frame} {meth : Method} {c : Code} {H : Heap} {locs : List Loc} {cells slots : Nat} {Q : State → Prop} {G : va_G} {cI cZ : ClassId} {own : String} {cc bytes : ByteArray} {mL maxL index n pc fr lo mc ms : Nat} {y : MethodName} {rest : List Value} {ls : Array Slot} {r : Int32} {st0 As : List Value} {w0 ws wr : va_W} {A : Nat → Prop} {H0 : Heap} {Post : Option Value → va_W → Prop}
theorem st_eq {x z : Int32} (h : x = z) (k : W p l e R s m args below meth c H locs cells slots Q (F0 m pc ls (.int z :: rest))) : W p l e R s m args below meth c H locs cells slots Q (F0 m pc ls (.int x :: rest)) := h ▸ k
theorem st_all {st st' : List Value} (h : st = st') (k : W p l e R s m args below meth c H locs cells slots Q (F0 m pc ls st')) : W p l e R s m args below meth c H locs cells slots Q (F0 m pc ls st) := h ▸ k
theorem runR {a : Array Value} (hr : va_Run p l e R s m args below meth c H locs cells slots 0 0 (F0 m pc ls st0) rest (QcRead r a) (fun _ => False)) (kk : W p l e R s m args below meth c H locs cells slots Q (F0 m (pc + 3) ls (.int r :: rest))) : W p l e R s m args below meth c H locs cells slots Q (F0 m pc ls st0) := by
  intro T hT X
  obtain ⟨v, st₀, t, T', L, h0, X', hL, e1, e2, ⟨hv, hh⟩, st⟩ := hr T hT X
  cases hv
  obtain ⟨t2, a1, b1⟩ := kk T' (by rw [e1, hh, h0]) (Stand.forget X' (fun q h => (hL q h).elim))
  exact ⟨t2, st t2 a1, b1⟩
theorem preR {bv : List Value} (X : Fx p s m args meth c G cI cZ own cc mL) (hP : va_P G vwCl w0 H) : PreS s H (va_Pc bv (fun U => va_P G vwCl w0 U.heap ∧ KK G cI cZ U)) bv :=
  ⟨fun a U g mk q => ⟨q.1, q.2.1, KK.same (s := U) rfl q.2.2⟩, fun U hU hW => ⟨rfl, by rw [hU]; exact hP, KK.warm hW X.2.2.2.2.2.2⟩⟩
theorem preM {bv : List Value} {A0 : Nat → Prop} (X : Fx p s m args meth c G cI cZ own cc mL) (hP : va_P G vwCl w0 H) (hD : va_D A0 w0) : PreS s H (va_Pc bv (fun U => U.heap.size = H.size ∧ va_P G vwCl w0 U.heap ∧ KK G cI cZ U ∧ va_D (fun _ => True) w0)) bv :=
  ⟨fun a U g mk q => ⟨q.1, q.2.1, q.2.2.1, KK.same (s := U) rfl q.2.2.2.1, q.2.2.2.2⟩, fun U hU hW => ⟨rfl, by rw [hU], by rw [hU]; exact hP, KK.warm hW X.2.2.2.2.2.2, hD.weaken (fun _ _ _ _ => trivial)⟩⟩
theorem recvX {b ci : Nat} {fs : List Value} {q : vw_C} (X : Fx p s m args meth c G cI cZ own cc mL) (hP : va_P G vwCl w0 H) (hrec : w0[0]? = some (b, .inr (ci, fs))) (hci : vwCl[ci]? = some q) : ∃ cellB : Cell, H[b]? = some cellB ∧ cellB.vm.isStatics = false ∧ s.vm.findClass q.1 = some cellB.cls :=
  va_recv X.2.2.2.2.2.2.1 hP hci hrec
theorem goodV {C : String} {ret : Option FieldType} (hk : KLV own index C y bytes maxL ret n) : GoodIn TT (wsV own index C y (.code y bytes maxL ret :: TT)) := by
  obtain ⟨h1, h2, h3, h4, h5, -⟩ := hk
  intro w hw
  have hw : w ∈ ([.methodLink own index y, .instanceMethod y, .selects C y y, .initialized C] : List Cond) ++ (.code y bytes maxL ret :: TT) := hw
  rcases List.mem_append.mp hw with h | h
  · simp only [List.mem_cons, List.not_mem_nil, or_false] at h
    rcases h with rfl | rfl | rfl | rfl
    · exact TT_good _ h1
    · exact TT_good _ h2
    · exact TT_good _ h3
    · exact TT_good _ h4
  · exact gd_c h5 w h
theorem goodS {ret : Option FieldType} (hk : KLS own index y bytes maxL ret n) : GoodIn TT (va_wsS own index y (.code y bytes maxL ret :: TT)) := by
  obtain ⟨h1, h2, h3, h4, -⟩ := hk
  intro w hw
  have hw : w ∈ ([.methodLink own index y, .static y, .initialized y.cls] : List Cond) ++ (.code y bytes maxL ret :: TT) := hw
  rcases List.mem_append.mp hw with h | h
  · simp only [List.mem_cons, List.not_mem_nil, or_false] at h
    rcases h with rfl | rfl | rfl
    · exact TT_good _ h1
    · exact TT_good _ h2
    · exact TT_good _ h3
  · exact gd_c h4 w h
theorem Fx.cf (X : Fx p s m args meth c G cI cZ own cc mL) : CallFix p m c cc mL s args TT own := ⟨X.1, X.2.1, X.2.2.1, X.2.2.2.1, X.2.2.2.2.1⟩
/-- a call of a method that only reads -/
theorem cR_V {ret : FieldType} {b ci : Nat} {fs : List Value} {q : vw_C} (X : Fx p s m args meth c G cI cZ own cc mL) (hc : CR l G cI cZ y bytes maxL ret fr lo (.ref b :: As) w0 r) (hk : KLV own index q.1 y bytes maxL (some ret) n) (hP : va_P G vwCl w0 H) (hrec : w0[0]? = some (b, .inr (ci, fs))) (hci : vwCl[ci]? = some q) (hsz : ls.size = mL) (hst : st0 = As.reverse ++ .ref b :: rest) (hn : As.length = n) (hcat : (rest.map fun v => v.category).sum ≤ 8) (hR : fr + 1 ≤ R.frames ∧ 8 + (maxL + 11) + lo ≤ R.locals) (hcs : cells + 0 ≤ R.cells ∧ slots + 0 ≤ R.slots) (hdg : decode cc pc = .ok (.invokevirtual index, 3))
    (kk : W p l e R s m args below meth c H locs cells slots Q (F0 m (pc + 3) ls (.int r :: rest))) : W p l e R s m args below meth c H locs cells slots Q (F0 m pc ls st0) :=
  runR (va_runV (As := As) (rest := rest) X.cf hc (cwV n X.2.2.2.2.1 (goodV hk) rfl rfl rfl hk.2.2.2.2.2 hR) ⟨(preR X hP).1, recvX X hP hrec hci, (preR X hP).2⟩ rfl hn hsz hst (lv_room hcat) hdg hcs) kk
theorem cR_S {ret : FieldType} (X : Fx p s m args meth c G cI cZ own cc mL) (hc : CR l G cI cZ y bytes maxL ret fr lo As w0 r) (hk : KLS own index y bytes maxL (some ret) n) (hP : va_P G vwCl w0 H) (hsz : ls.size = mL) (hst : st0 = As.reverse ++ rest) (hn : As.length = n) (hcat : (rest.map fun v => v.category).sum ≤ 8) (hR : fr + 1 ≤ R.frames ∧ 8 + (maxL + 11) + lo ≤ R.locals) (hcs : cells + 0 ≤ R.cells ∧ slots + 0 ≤ R.slots) (hdg : decode cc pc = .ok (.invokestatic index, 3))
    (kk : W p l e R s m args below meth c H locs cells slots Q (F0 m (pc + 3) ls (.int r :: rest))) : W p l e R s m args below meth c H locs cells slots Q (F0 m pc ls st0) :=
  runR (va_runS (As := As) (rest := rest) X.cf hc (va_cwS n X.2.2.2.2.1 (goodS hk) rfl rfl rfl hk.2.2.2.2 hR) (preR X hP) rfl hn hsz hst (lv_room hcat) hdg hcs) kk
theorem cR_SN {ret : FieldType} {host : String} (X : Fx p s m args meth c G cI cZ own cc mL) (hc : CR l G cI cZ y bytes maxL ret fr lo As w0 r) (hk : KLSN own index y host bytes maxL (some ret) n) (hP : va_P G vwCl w0 H) (hsz : ls.size = mL) (hst : st0 = As.reverse ++ rest) (hn : As.length = n) (hcat : (rest.map fun v => v.category).sum ≤ 8) (hR : fr + 1 ≤ R.frames ∧ 8 + (maxL + 11) + lo ≤ R.locals) (hcs : cells + 0 ≤ R.cells ∧ slots + 0 ≤ R.slots) (hdg : decode cc pc = .ok (.invokestatic index, 3))
    (kk : W p l e R s m args below meth c H locs cells slots Q (F0 m (pc + 3) ls (.int r :: rest))) : W p l e R s m args below meth c H locs cells slots Q (F0 m pc ls st0) :=
  runR (va_runSN (As := As) (rest := rest) X.cf hc ⟨va_cnB n X.2.2.2.2.1 (gd_c hk.2.2.2.1) rfl rfl rfl (X.2.2.2.2.2.2.2 _ hk.1) (X.2.2.2.2.1 _ hk.2.2.1) hk.2.2.2.2 hR, X.2.2.2.2.1 _ hk.2.1, trivial⟩ (preR X hP) rfl hn hsz hst (lv_room hcat) hdg hcs) kk
theorem runM {a : Array Value} (hr : va_Run p l e R s m args below meth c H locs cells slots mc ms (F0 m pc ls st0) rest (QM G w0 H.size Post a) (va_A w0 H.size)) (hd : Hd G A H0 ws H locs) (hA : ∀ q, H0.size ≤ q → A q) (isC isR : List Nat) (hC : isC.map (fun i => ws[i]?) = w0.map some) (hR : isR.map (fun i => ws[i]?) = wr.map some) (hnd : va_nd isR = true) (hdis : ∀ i ∈ isR, i ∉ isC)
    (kk : ∀ (v : Option Value) (w1 : va_W) (H1 : Heap) (locs1 : List Loc), Post v w1 → Hd G A H0 (wr ++ w1) H1 locs1 → W p l e R s m args below meth c H1 locs1 (cells + mc) (slots + ms) Q (F0 m (pc + 3) ls (v.toList ++ rest))) : W p l e R s m args below meth c H locs cells slots Q (F0 m pc ls st0) := by
  intro T hT X
  obtain ⟨v, st₀, t, T', L, h0, X', hL, e1, e2, ⟨⟨v', w1, hv, hp, hP1, hD1⟩, hF⟩, st⟩ := hr T hT X
  obtain rfl : v = v' := by injection hv
  have hFr := va_free hd.2.1 hd.2.2 hA isC hC
  have hk : ∀ q : Nat, q < H.size → ¬ va_A w0 H.size q → t.heap[q]? = H[q]? := fun q h1 h2 => by
    have := hF.2 q (by rw [h0]; exact h1) h2
    rw [this, h0]
  obtain ⟨hP, hD⟩ := va_join hd.1 hd.2.1 isC isR hC hR hnd hdis hk hFr hP1 hD1
  have hS := hd.2.2
  have hsz : H.size ≤ t.heap.size := by have := hF.1; rw [h0] at this; exact this
  obtain ⟨t2, a1, b1⟩ := kk v w1 t.heap (locs ++ L) hp ⟨hP, hD, Nat.le_trans hS.1 hsz, fun q h1 h2 => by
    rw [hk q (Nat.lt_of_lt_of_le h1 hS.1) (fun h => h2 (hFr q h))]
    exact hS.2.1 q h1 h2, fun x hx => (List.mem_append.mp hx).elim (hS.2.2 x) (fun h => hFr _ (hL x h))⟩ T' e1 X'
  exact ⟨t2, st t2 a1, b1⟩
theorem Hd.subP (hd : Hd G A H0 ws H locs) (isC : List Nat) (hC : isC.map (fun i => ws[i]?) = w0.map some) : va_P G vwCl w0 H := by
  refine hd.1.sub isC ?_
  have : isC.filterMap (fun i => ws[i]?) = (isC.map (fun i => ws[i]?)).filterMap id := by rw [List.filterMap_map]; rfl
  rw [this, hC, List.filterMap_map]
  simp
/-- a call of a method that changes its cells -/
theorem cM_V {ret : Option FieldType} {b ci : Nat} {fs : List Value} {q : vw_C} (X : Fx p s m args meth c G cI cZ own cc mL) (hc : CM l G cI cZ y bytes maxL ret fr lo mc ms (.ref b :: As) w0 Post) (hk : KLV own index q.1 y bytes maxL ret n) (hd : Hd G A H0 ws H locs) (hA : ∀ q, H0.size ≤ q → A q) (isC isR : List Nat) (hC : isC.map (fun i => ws[i]?) = w0.map some) (hRs : isR.map (fun i => ws[i]?) = wr.map some) (hndC : va_nd isC = true) (hnd : va_nd isR = true) (hdis : ∀ i ∈ isR, i ∉ isC) (hrec : w0[0]? = some (b, .inr (ci, fs))) (hci : vwCl[ci]? = some q) (hsz : ls.size = mL) (hst : st0 = As.reverse ++ .ref b :: rest) (hn : As.length = n) (hcat : (rest.map fun v => v.category).sum ≤ 8) (hR : fr + 1 ≤ R.frames ∧ 8 + (maxL + 11) + lo ≤ R.locals) (hcs : cells + mc ≤ R.cells ∧ slots + ms ≤ R.slots) (hdg : decode cc pc = .ok (.invokevirtual index, 3))
    (kk : ∀ (v : Option Value) (w1 : va_W) (H1 : Heap) (locs1 : List Loc), Post v w1 → Hd G A H0 (wr ++ w1) H1 locs1 → W p l e R s m args below meth c H1 locs1 (cells + mc) (slots + ms) Q (F0 m (pc + 3) ls (v.toList ++ rest))) : W p l e R s m args below meth c H locs cells slots Q (F0 m pc ls st0) :=
  runM (va_runV (As := As) (rest := rest) X.cf (hc H.size) (cwV n X.2.2.2.2.1 (goodV hk) rfl rfl rfl hk.2.2.2.2.2 hR) ⟨(preM X (hd.subP isC hC) (hd.2.1.sub isC hndC hC)).1, recvX X (hd.subP isC hC) hrec hci, (preM X (hd.subP isC hC) (hd.2.1.sub isC hndC hC)).2⟩ rfl hn hsz hst (lv_room hcat) hdg hcs) hd hA isC isR hC hRs hnd hdis kk
theorem cM_S {ret : Option FieldType} (X : Fx p s m args meth c G cI cZ own cc mL) (hc : CM l G cI cZ y bytes maxL ret fr lo mc ms As w0 Post) (hk : KLS own index y bytes maxL ret n) (hd : Hd G A H0 ws H locs) (hA : ∀ q, H0.size ≤ q → A q) (isC isR : List Nat) (hC : isC.map (fun i => ws[i]?) = w0.map some) (hRs : isR.map (fun i => ws[i]?) = wr.map some) (hndC : va_nd isC = true) (hnd : va_nd isR = true) (hdis : ∀ i ∈ isR, i ∉ isC) (hsz : ls.size = mL) (hst : st0 = As.reverse ++ rest) (hn : As.length = n) (hcat : (rest.map fun v => v.category).sum ≤ 8) (hR : fr + 1 ≤ R.frames ∧ 8 + (maxL + 11) + lo ≤ R.locals) (hcs : cells + mc ≤ R.cells ∧ slots + ms ≤ R.slots) (hdg : decode cc pc = .ok (.invokestatic index, 3))
    (kk : ∀ (v : Option Value) (w1 : va_W) (H1 : Heap) (locs1 : List Loc), Post v w1 → Hd G A H0 (wr ++ w1) H1 locs1 → W p l e R s m args below meth c H1 locs1 (cells + mc) (slots + ms) Q (F0 m (pc + 3) ls (v.toList ++ rest))) : W p l e R s m args below meth c H locs cells slots Q (F0 m pc ls st0) :=
  runM (va_runS (As := As) (rest := rest) X.cf (hc H.size) (va_cwS n X.2.2.2.2.1 (goodS hk) rfl rfl rfl hk.2.2.2.2 hR) (preM X (hd.subP isC hC) (hd.2.1.sub isC hndC hC)) rfl hn hsz hst (lv_room hcat) hdg hcs) hd hA isC isR hC hRs hnd hdis kk
theorem cM_I {b : Nat} (X : Fx p s m args meth c G cI cZ own cc mL) (hc : CM l G cI cZ y bytes maxL none fr lo mc ms (.ref b :: As) w0 Post) (hk : KLI own index y bytes maxL n) (hd : Hd G A H0 ws H locs) (hA : ∀ q, H0.size ≤ q → A q) (isC isR : List Nat) (hC : isC.map (fun i => ws[i]?) = w0.map some) (hRs : isR.map (fun i => ws[i]?) = wr.map some) (hndC : va_nd isC = true) (hnd : va_nd isR = true) (hdis : ∀ i ∈ isR, i ∉ isC) (hsz : ls.size = mL) (hst : st0 = As.reverse ++ .ref b :: rest) (hn : As.length = n) (hcat : (rest.map fun v => v.category).sum ≤ 8) (hR : fr + 1 ≤ R.frames ∧ 8 + (maxL + 11) + lo ≤ R.locals) (hcs : cells + mc ≤ R.cells ∧ slots + ms ≤ R.slots) (hdg : decode cc pc = .ok (.invokespecial index, 3))
    (kk : ∀ (v : Option Value) (w1 : va_W) (H1 : Heap) (locs1 : List Loc), Post v w1 → Hd G A H0 (wr ++ w1) H1 locs1 → W p l e R s m args below meth c H1 locs1 (cells + mc) (slots + ms) Q (F0 m (pc + 3) ls (v.toList ++ rest))) : W p l e R s m args below meth c H locs cells slots Q (F0 m pc ls st0) :=
  runM (va_runI (As := As) (rest := rest) X.cf (hc H.size) (cwI n X.2.2.2.2.1 (gd_c hk.2.2.2.1) rfl rfl rfl (X.2.2.2.2.1 _ hk.2.2.1) (X.2.2.2.2.1 _ hk.1) (X.2.2.2.2.1 _ hk.2.1) hk.2.2.2.2.1 hk.2.2.2.2.2 hR) (preM X (hd.subP isC hC) (hd.2.1.sub isC hndC hC)) rfl hn hsz hst (lv_room hcat) hdg hcs) hd hA isC isR hC hRs hnd hdis kk
theorem cM_IN {b : Nat} {host : String} (X : Fx p s m args meth c G cI cZ own cc mL) (hc : CM l G cI cZ y bytes maxL none fr lo mc ms (.ref b :: As) w0 Post) (hk : KLIN own index y host bytes maxL n) (hd : Hd G A H0 ws H locs) (hA : ∀ q, H0.size ≤ q → A q) (isC isR : List Nat) (hC : isC.map (fun i => ws[i]?) = w0.map some) (hRs : isR.map (fun i => ws[i]?) = wr.map some) (hndC : va_nd isC = true) (hnd : va_nd isR = true) (hdis : ∀ i ∈ isR, i ∉ isC) (hsz : ls.size = mL) (hst : st0 = As.reverse ++ .ref b :: rest) (hn : As.length = n) (hcat : (rest.map fun v => v.category).sum ≤ 8) (hR : fr + 1 ≤ R.frames ∧ 8 + (maxL + 11) + lo ≤ R.locals) (hcs : cells + mc ≤ R.cells ∧ slots + ms ≤ R.slots) (hdg : decode cc pc = .ok (.invokespecial index, 3))
    (kk : ∀ (v : Option Value) (w1 : va_W) (H1 : Heap) (locs1 : List Loc), Post v w1 → Hd G A H0 (wr ++ w1) H1 locs1 → W p l e R s m args below meth c H1 locs1 (cells + mc) (slots + ms) Q (F0 m (pc + 3) ls (v.toList ++ rest))) : W p l e R s m args below meth c H locs cells slots Q (F0 m pc ls st0) :=
  runM (va_runIN (As := As) (rest := rest) X.cf (hc H.size) ⟨va_cnB n X.2.2.2.2.1 (gd_c hk.2.2.2.1) rfl rfl rfl (X.2.2.2.2.2.2.2 _ hk.1) (X.2.2.2.2.1 _ hk.2.2.1) hk.2.2.2.2.2 hR, hk.2.2.2.2.1, X.2.2.2.2.1 _ hk.2.1⟩ (preM X (hd.subP isC hC) (hd.2.1.sub isC hndC hC)) rfl hn hsz hst (lv_room hcat) hdg hcs) hd hA isC isR hC hRs hnd hdis kk
/-- fields -/
theorem x_get {ref C : String} {T : u_T} {N ci a : Nat} {fs : List Value} {v : Value} (k : Nat) (hin : ∀ w ∈ u_ws C T N, w ∈ TT) (hc : vwCl[ci]? = some (C, T, N)) (hk : k < N) (hlink : Cond.fieldLink own index ref (T k).2.1 (T k).2.2.1 ∈ TT) (href : (T k).1 = ref) (X : Fx p s m args meth c G cI cZ own cc mL) (hP : va_P G vwCl ws H) (q0 : Nat) (he : ws[q0]? = some (a, .inr (ci, fs))) (hv : fs[k]? = some v) (hdg : decode cc pc = .ok (.getfield index, 3))
    (kk : W p l e R s m args below meth c H locs cells slots Q (F0 m (pc + 3) ls (v :: rest))) : W p l e R s m args below meth c H locs cells slots Q (F0 m pc ls (.ref a :: rest)) :=
  va_get X.1 X.2.1 X.2.2.2.2.1 hin X.2.2.2.1 X.2.2.2.2.2.2.1 hP q0 he hc k hk (X.2.2.2.2.1 _ hlink) (fun _ h => href ▸ h) hv hdg kk
theorem x_getN {ref C host : String} {T : u_T} {N ci a : Nat} {fs : List Value} {v : Value} (k : Nat) (hin : ∀ w ∈ u_ws C T N, w ∈ TT) (hc : vwCl[ci]? = some (C, T, N)) (hk : k < N) (hlink : Cond.fieldLinkNest own index ref (T k).2.1 (T k).2.2.1 host ∈ nestT) (href : (T k).1 = ref) (X : Fx p s m args meth c G cI cZ own cc mL) (hP : va_P G vwCl ws H) (q0 : Nat) (he : ws[q0]? = some (a, .inr (ci, fs))) (hv : fs[k]? = some v) (hdg : decode cc pc = .ok (.getfield index, 3))
    (kk : W p l e R s m args below meth c H locs cells slots Q (F0 m (pc + 3) ls (v :: rest))) : W p l e R s m args below meth c H locs cells slots Q (F0 m pc ls (.ref a :: rest)) :=
  va_getN X.1 X.2.1 X.2.2.2.2.1 hin X.2.2.2.1 X.2.2.2.2.2.2.1 hP q0 he hc k hk (va_Nw.use (nest_on (nestT_ok _ hlink)) (X.2.2.2.2.2.2.2 _ hlink)) (fun _ h => href ▸ h) hv hdg kk
theorem x_put {ref C : String} {T : u_T} {N ci a : Nat} {fs : List Value} {v : Value} {ty : FieldType} (k : Nat) (hin : ∀ w ∈ u_ws C T N, w ∈ TT) (ty0 : Nat → FieldType) (hty : ∀ k, k < N → parseFieldDescriptor (T k).2.2.1 = some (ty0 k)) (hnm : ∀ a, a < N → ∀ b, b < N → a ≠ b → (T a).2.1 ≠ (T b).2.1) (hc : vwCl[ci]? = some (C, T, N)) (hk : k < N) (hlink : Cond.fieldLink own index ref (T k).2.1 (T k).2.2.1 ∈ TT) (href : (T k).1 = ref) (hfin : (T k).2.2.2 = false) (hdt : parseFieldDescriptor (T k).2.2.1 = some ty) (X : Fx p s m args meth c G cI cZ own cc mL) (hd : Hd G A H0 ws H locs) (q0 : Nat) (he : ws[q0]? = some (a, .inr (ci, fs))) (hn : narrow ty v = v) (hfit : fits ty v = true) (hlen : k < fs.length) (hdg : decode cc pc = .ok (.putfield index, 3))
    (kk : ∀ (H1 : Heap) (locs1 : List Loc), Hd G A H0 (ws.set q0 (a, .inr (ci, fs.set k v))) H1 locs1 → W p l e R s m args below meth c H1 locs1 cells slots Q (F0 m (pc + 3) ls rest)) : W p l e R s m args below meth c H locs cells slots Q (F0 m pc ls (v :: .ref a :: rest)) :=
  va_put X.1 X.2.1 X.2.2.2.2.1 hin ty0 hty hnm X.2.2.2.1 X.2.2.2.2.2.2.1 hd.1 hd.2.1 hd.2.2 q0 he hc k hk (X.2.2.2.2.1 _ hlink) (fun _ h => href ▸ h) hfin hdt hn hfit hlen hdg (fun H1 l1 h1 h2 h3 => kk H1 l1 ⟨h1, h2, h3⟩)
theorem x_putN {ref C host : String} {T : u_T} {N ci a : Nat} {fs : List Value} {v : Value} {ty : FieldType} (k : Nat) (hin : ∀ w ∈ u_ws C T N, w ∈ TT) (ty0 : Nat → FieldType) (hty : ∀ k, k < N → parseFieldDescriptor (T k).2.2.1 = some (ty0 k)) (hnm : ∀ a, a < N → ∀ b, b < N → a ≠ b → (T a).2.1 ≠ (T b).2.1) (hc : vwCl[ci]? = some (C, T, N)) (hk : k < N) (hlink : Cond.fieldLinkNest own index ref (T k).2.1 (T k).2.2.1 host ∈ nestT) (href : (T k).1 = ref) (hfin : (T k).2.2.2 = false) (hdt : parseFieldDescriptor (T k).2.2.1 = some ty) (X : Fx p s m args meth c G cI cZ own cc mL) (hd : Hd G A H0 ws H locs) (q0 : Nat) (he : ws[q0]? = some (a, .inr (ci, fs))) (hn : narrow ty v = v) (hfit : fits ty v = true) (hlen : k < fs.length) (hdg : decode cc pc = .ok (.putfield index, 3))
    (kk : ∀ (H1 : Heap) (locs1 : List Loc), Hd G A H0 (ws.set q0 (a, .inr (ci, fs.set k v))) H1 locs1 → W p l e R s m args below meth c H1 locs1 cells slots Q (F0 m (pc + 3) ls rest)) : W p l e R s m args below meth c H locs cells slots Q (F0 m pc ls (v :: .ref a :: rest)) :=
  va_putN X.1 X.2.1 X.2.2.2.2.1 hin ty0 hty hnm X.2.2.2.1 X.2.2.2.2.2.2.1 hd.1 hd.2.1 hd.2.2 q0 he hc k hk (va_Nw.use (nest_on (nestT_ok _ hlink)) (X.2.2.2.2.2.2.2 _ hlink)) (fun _ h => href ▸ h) hfin hdt hn hfit hlen hdg (fun H1 l1 h1 h2 h3 => kk H1 l1 ⟨h1, h2, h3⟩)
theorem x_putF {ref C : String} {T : u_T} {N ci a : Nat} {fs : List Value} {v : Value} {ty : FieldType} (k : Nat) (hin : ∀ w ∈ u_ws C T N, w ∈ TT) (ty0 : Nat → FieldType) (hty : ∀ k, k < N → parseFieldDescriptor (T k).2.2.1 = some (ty0 k)) (hnm : ∀ a, a < N → ∀ b, b < N → a ≠ b → (T a).2.1 ≠ (T b).2.1) (hc : vwCl[ci]? = some (C, T, N)) (hk : k < N) (hlink : Cond.fieldLink own index ref (T k).2.1 (T k).2.2.1 ∈ TT) (href : (T k).1 = ref) (hfin : (T k).2.2.2 = true) (hdt : parseFieldDescriptor (T k).2.2.1 = some ty) (hdecl : (T k).1 = own) (hin2 : meth.name = "<init>") (X : Fx p s m args meth c G cI cZ own cc mL) (hd : Hd G A H0 ws H locs) (q0 : Nat) (he : ws[q0]? = some (a, .inr (ci, fs))) (hn : narrow ty v = v) (hfit : fits ty v = true) (hlen : k < fs.length) (hdg : decode cc pc = .ok (.putfield index, 3))
    (kk : ∀ (H1 : Heap) (locs1 : List Loc), Hd G A H0 (ws.set q0 (a, .inr (ci, fs.set k v))) H1 locs1 → W p l e R s m args below meth c H1 locs1 cells slots Q (F0 m (pc + 3) ls rest)) : W p l e R s m args below meth c H locs cells slots Q (F0 m pc ls (v :: .ref a :: rest)) :=
  va_putF X.1 X.2.1 X.2.2.2.2.1 hin ty0 hty hnm X.2.2.2.1 X.2.2.2.2.2.2.1 hd.1 hd.2.1 hd.2.2 q0 he hc k hk (X.2.2.2.2.1 _ hlink) (fun _ h => href ▸ h) hfin hin2 hdecl hdt hn hfit hlen hdg (fun H1 l1 h1 h2 h3 => kk H1 l1 ⟨h1, h2, h3⟩)
/-- int arrays at places that are natural numbers -/
theorem n_iald {a k : Nat} {N : Nat} {f : Nat → Int32} (X : Fx p s m args meth c G cI cZ own cc mL) (hP : va_P G vwCl ws H) (q0 : Nat) (he : ws[q0]? = some (a, .inl (cI, N, .inl f))) (hk : k < N) (hN : N < 2 ^ 31) (hdg : decode cc pc = .ok (.iaload, 1))
    (kk : W p l e R s m args below meth c H locs cells slots Q (F0 m (pc + 1) ls (.int (f k) :: rest))) : W p l e R s m args below meth c H locs cells slots Q (F0 m pc ls (.int (nI k) :: .ref a :: rest)) :=
  va_iald X.1 X.2.1 X.2.2.2.2.2.2.1 hP q0 0 he rfl (vp_in_nI hk hN) hdg (by rw [nI_clamp (Nat.lt_trans hk hN)]; exact kk)
theorem n_zald {a k : Nat} {N : Nat} {f : Nat → Int32} (X : Fx p s m args meth c G cI cZ own cc mL) (hP : va_P G vwCl ws H) (q0 : Nat) (he : ws[q0]? = some (a, .inl (cZ, N, .inl f))) (hk : k < N) (hN : N < 2 ^ 31) (hdg : decode cc pc = .ok (.baload, 1))
    (kk : W p l e R s m args below meth c H locs cells slots Q (F0 m (pc + 1) ls (.int (f k) :: rest))) : W p l e R s m args below meth c H locs cells slots Q (F0 m pc ls (.int (nI k) :: .ref a :: rest)) :=
  va_zald X.1 X.2.1 X.2.2.2.2.2.2.1 hP q0 1 he rfl (vp_in_nI hk hN) hdg (by rw [nI_clamp (Nat.lt_trans hk hN)]; exact kk)
theorem n_iast {a k : Nat} {N : Nat} {f : Nat → Int32} {x : Int32} (X : Fx p s m args meth c G cI cZ own cc mL) (hd : Hd G A H0 ws H locs) (q0 : Nat) (he : ws[q0]? = some (a, .inl (cI, N, .inl f))) (hk : k < N) (hN : N < 2 ^ 31) (hdg : decode cc pc = .ok (.iastore, 1))
    (kk : ∀ (H1 : Heap) (locs1 : List Loc), Hd G A H0 (ws.set q0 (a, .inl (cI, N, .inl (upd f k x)))) H1 locs1 → W p l e R s m args below meth c H1 locs1 cells slots Q (F0 m (pc + 1) ls rest)) : W p l e R s m args below meth c H locs cells slots Q (F0 m pc ls (.int x :: .int (nI k) :: .ref a :: rest)) :=
  va_iast X.1 X.2.1 X.2.2.2.2.2.2.1 hd.1 hd.2.1 hd.2.2 q0 0 he rfl (vp_in_nI hk hN) hdg (fun H1 l1 h1 h2 h3 => by rw [nI_clamp (Nat.lt_trans hk hN)] at h1 h2; exact kk H1 l1 ⟨h1, h2, h3⟩)
theorem n_zast {a k : Nat} {N : Nat} {f : Nat → Int32} {x : Int32} (X : Fx p s m args meth c G cI cZ own cc mL) (hd : Hd G A H0 ws H locs) (q0 : Nat) (he : ws[q0]? = some (a, .inl (cZ, N, .inl f))) (hk : k < N) (hN : N < 2 ^ 31) (hdg : decode cc pc = .ok (.bastore, 1))
    (kk : ∀ (H1 : Heap) (locs1 : List Loc), Hd G A H0 (ws.set q0 (a, .inl (cZ, N, .inl (upd f k (vp_nar .boolean x))))) H1 locs1 → W p l e R s m args below meth c H1 locs1 cells slots Q (F0 m (pc + 1) ls rest)) : W p l e R s m args below meth c H locs cells slots Q (F0 m pc ls (.int x :: .int (nI k) :: .ref a :: rest)) :=
  va_zast X.1 X.2.1 X.2.2.2.2.2.2.1 hd.1 hd.2.1 hd.2.2 q0 1 he rfl (vp_in_nI hk hN) hdg (fun H1 l1 h1 h2 h3 => by rw [nI_clamp (Nat.lt_trans hk hN)] at h1 h2; exact kk H1 l1 ⟨h1, h2, h3⟩)
/-- new arrays and objects, copies -/
theorem x_newaI {N : Nat} (X : Fx p s m args meth c G cI cZ own cc mL) (hd : Hd G A H0 ws H locs) (hA : ∀ q, H0.size ≤ q → A q) (hN : N < 2 ^ 31) (hby : N * 4 ≤ 536870912) (hcells : cells + 1 ≤ R.cells) (hslots : slots + N ≤ R.slots) (hdg : decode cc pc = .ok (.newarray .int, 2)) (hw : Cond.arrayClass .int ∈ TT)
    (kk : ∀ (q : Nat) (H1 : Heap) (locs1 : List Loc), Hd G A H0 (ws ++ [(q, .inl (cI, N, .inl (fun _ => 0)))]) H1 locs1 → W p l e R s m args below meth c H1 locs1 (cells + 1) (slots + N) Q (F0 m (pc + 2) ls (.ref q :: rest))) : W p l e R s m args below meth c H locs cells slots Q (F0 m pc ls (.int (nI N) :: rest)) := by
  refine va_newa (atype := .int) (ty := .int) (N' := N) (a0 := (N, .inl (fun _ => 0))) X.1 X.2.1 (X.2.2.2.2.1 _ hw) rfl X.2.2.2.2.2.2.1 hd.1 hd.2.1 hd.2.2 hA (fun _ => rfl) (nI_pos hN) (nI_clamp hN) hby hcells hslots hdg (fun q cA H1 k1 p1 d1 s1 => ?_)
  have e1 : va_RA s cA .int := (k1.2 2 (cA, .int) rfl).2
  have e2 : va_RA s cI .int := (k1.2 0 (cI, .int) rfl).2
  have e3 : cA = cI := Option.some.inj (Eq.trans (Eq.symm e1) e2)
  subst e3
  exact kk q H1 locs ⟨p1, d1, s1⟩
theorem x_newaZ {N : Nat} (X : Fx p s m args meth c G cI cZ own cc mL) (hd : Hd G A H0 ws H locs) (hA : ∀ q, H0.size ≤ q → A q) (hN : N < 2 ^ 31) (hby : N * 4 ≤ 536870912) (hcells : cells + 1 ≤ R.cells) (hslots : slots + N ≤ R.slots) (hdg : decode cc pc = .ok (.newarray .boolean, 2)) (hw : Cond.arrayClass .boolean ∈ TT)
    (kk : ∀ (q : Nat) (H1 : Heap) (locs1 : List Loc), Hd G A H0 (ws ++ [(q, .inl (cZ, N, .inl (fun _ => 0)))]) H1 locs1 → W p l e R s m args below meth c H1 locs1 (cells + 1) (slots + N) Q (F0 m (pc + 2) ls (.ref q :: rest))) : W p l e R s m args below meth c H locs cells slots Q (F0 m pc ls (.int (nI N) :: rest)) := by
  refine va_newa (atype := .boolean) (ty := .boolean) (N' := N) (a0 := (N, .inl (fun _ => 0))) X.1 X.2.1 (X.2.2.2.2.1 _ hw) rfl X.2.2.2.2.2.2.1 hd.1 hd.2.1 hd.2.2 hA (fun _ => rfl) (nI_pos hN) (nI_clamp hN) (Nat.le_trans (Nat.mul_le_mul_left N (by decide)) hby) hcells hslots hdg (fun q cA H1 k1 p1 d1 s1 => ?_)
  have e1 : va_RA s cA .boolean := (k1.2 2 (cA, .boolean) rfl).2
  have e2 : va_RA s cZ .boolean := (k1.2 1 (cZ, .boolean) rfl).2
  have e3 : cA = cZ := Option.some.inj (Eq.trans (Eq.symm e1) e2)
  subst e3
  exact kk q H1 locs ⟨p1, d1, s1⟩
theorem x_new {C : String} {T : u_T} {N ci : Nat} {fs : List Value} (hin : ∀ w ∈ u_ws C T N, w ∈ TT) (ty : Nat → FieldType) (hty : ∀ k, k < N → parseFieldDescriptor (T k).2.2.1 = some (ty k)) (hcl : Cond.classLink own index C ∈ TT) (hinst : Cond.instantiable C N ∈ TT) (hini : Cond.initialized C ∈ TT) (hc : vwCl[ci]? = some (C, T, N)) (hfs : ∀ j, j < N → defaultValue (ty j) = vp_V fs j) (X : Fx p s m args meth c G cI cZ own cc mL) (hd : Hd G A H0 ws H locs) (hA : ∀ q, H0.size ≤ q → A q) (hcells : cells + 1 ≤ R.cells) (hslots : slots + N ≤ R.slots) (hdg : decode cc pc = .ok (.new index, 3))
    (kk : ∀ (q : Nat) (H1 : Heap), Hd G A H0 (ws ++ [(q, .inr (ci, fs))]) H1 locs → W p l e R s m args below meth c H1 locs (cells + 1) (slots + N) Q (F0 m (pc + 3) ls (.ref q :: rest))) : W p l e R s m args below meth c H locs cells slots Q (F0 m pc ls rest) :=
  va_new X.1 X.2.1 X.2.2.2.2.1 hin ty hty X.2.2.2.1 (X.2.2.2.2.1 _ hcl) (X.2.2.2.2.1 _ hinst) (X.2.2.2.2.1 _ hini) X.2.2.2.2.2.2.1 hd.1 hd.2.1 hd.2.2 hA hc hfs hcells hslots hdg (fun q H1 p1 d1 s1 => kk q H1 ⟨p1, d1, s1⟩)
theorem x_copy {a0 a1 N0 N1 sp dp n : Nat} {f g : Nat → Int32} (X : Fx p s m args meth c G cI cZ own cc mL) (hd : Hd G A H0 ws H locs) (q0 q1 : Nat) (he0 : ws[q0]? = some (a0, .inl (cI, N0, .inl f))) (he1 : ws[q1]? = some (a1, .inl (cI, N1, .inl g))) (h1 : sp < 2 ^ 31) (h2 : dp < 2 ^ 31) (h3 : n < 2 ^ 31) (h4 : sp + n ≤ N0) (h5 : dp + n ≤ N1) (hk : Cond.methodLink own index arraycopyName ∈ TT) (hw1 : Cond.native arraycopyName ∈ TT) (hw2 : Cond.static arraycopyName ∈ TT) (hw3 : Cond.initialized "java/lang/System" ∈ TT) (hfr : 1 ≤ R.frames) (hlo : (rest.map fun v => v.category).sum + (nativeFrameWords "java/lang/System" "arraycopy" 5 + 11) ≤ R.locals) (hml : c.maxLocals = ls.size) (hdg : decode cc pc = .ok (.invokestatic index, 3))
    (kk : ∀ (H1 : Heap) (locs1 : List Loc), Hd G A H0 (ws.set q1 (a1, .inl (cI, N1, .inl (va_cpy f g sp dp n)))) H1 locs1 → W p l e R s m args below meth c H1 locs1 cells slots Q (F0 m (pc + 3) ls rest)) : W p l e R s m args below meth c H locs cells slots Q (F0 m pc ls (.int (nI n) :: .int (nI dp) :: .ref a1 :: .int (nI sp) :: .ref a0 :: rest)) := by
  refine va_copyi (ty := .int) X.1 X.2.1 hml X.2.2.2.1 (X.2.2.2.2.1 _ hk) (X.2.2.2.2.1 _ hw1) (X.2.2.2.2.1 _ hw2) (X.2.2.2.2.1 _ hw3) X.2.2.2.2.2.2.1 hd.1 hd.2.1 hd.2.2 q0 q1 0 0 he0 he1 rfl rfl rfl (nI_pos h1) (nI_pos h2) (nI_pos h3) (by rw [nI_clamp h1, nI_clamp h3]; exact h4) (by rw [nI_clamp h2, nI_clamp h3]; exact h5) (fun _ _ => rfl) hfr hlo hdg (fun H1 l1 p1 d1 s1 => ?_)
  rw [nI_clamp h1, nI_clamp h2, nI_clamp h3] at p1 d1
  exact kk H1 l1 ⟨p1, d1, s1⟩
/-- arithmetic on natural numbers -/
theorem n_add {a b : Nat} (hx : p.tables.exec = Jvm.exec) (hb : c.code = cc) (hdg : decode cc pc = .ok (.iadd, 1)) (kk : W p l e R s m args below meth c H locs cells slots Q (F0 m (pc + 1) ls (.int (nI (a + b)) :: rest))) : W p l e R s m args below meth c H locs cells slots Q (F0 m pc ls (.int (nI b) :: .int (nI a) :: rest)) :=
  lv_iadd hx hb hdg (by rw [nI_add]; exact kk)
theorem n_mul {a b : Nat} (hx : p.tables.exec = Jvm.exec) (hb : c.code = cc) (hdg : decode cc pc = .ok (.imul, 1)) (kk : W p l e R s m args below meth c H locs cells slots Q (F0 m (pc + 1) ls (.int (nI (a * b)) :: rest))) : W p l e R s m args below meth c H locs cells slots Q (F0 m pc ls (.int (nI b) :: .int (nI a) :: rest)) :=
  lv_imul hx hb hdg (by rw [pk_mul]; exact kk)
theorem n_sub {a b : Nat} (hx : p.tables.exec = Jvm.exec) (hb : c.code = cc) (hdg : decode cc pc = .ok (.isub, 1)) (h : b ≤ a) (kk : W p l e R s m args below meth c H locs cells slots Q (F0 m (pc + 1) ls (.int (nI (a - b)) :: rest))) : W p l e R s m args below meth c H locs cells slots Q (F0 m pc ls (.int (nI b) :: .int (nI a) :: rest)) :=
  lv_isub hx hb hdg (by rw [pk_sub h]; exact kk)
theorem n_div {a b : Nat} (hx : p.tables.exec = Jvm.exec) (hb : c.code = cc) (hdg : decode cc pc = .ok (.idiv, 1)) (h1 : a < 2 ^ 31) (h0 : 0 < b) (h2 : b < 2 ^ 31) (kk : W p l e R s m args below meth c H locs cells slots Q (F0 m (pc + 1) ls (.int (nI (a / b)) :: rest))) : W p l e R s m args below meth c H locs cells slots Q (F0 m pc ls (.int (nI b) :: .int (nI a) :: rest)) :=
  lv_idiv hx hb hdg (nI_ne0 h0 h2) (by rw [pk_div h1 h0 h2]; exact kk)
theorem n_rem {a b : Nat} (hx : p.tables.exec = Jvm.exec) (hb : c.code = cc) (hdg : decode cc pc = .ok (.irem, 1)) (h1 : a < 2 ^ 31) (h0 : 0 < b) (h2 : b < 2 ^ 31) (kk : W p l e R s m args below meth c H locs cells slots Q (F0 m (pc + 1) ls (.int (nI (a % b)) :: rest))) : W p l e R s m args below meth c H locs cells slots Q (F0 m pc ls (.int (nI b) :: .int (nI a) :: rest)) :=
  lv_irem hx hb hdg (nI_ne0 h0 h2) (by rw [pk_rem h1 h0 h2]; exact kk)
theorem n_land (a b : Nat) : nI a &&& nI b = nI (a &&& b) := by
  apply Int32.toBitVec_inj.mp
  show (BitVec.ofNat 32 a) &&& (BitVec.ofNat 32 b) = BitVec.ofNat 32 (a &&& b)
  apply BitVec.eq_of_toNat_eq
  simp [Nat.and_mod_two_pow]
theorem n_lxor (a b : Nat) : nI a ^^^ nI b = nI (a ^^^ b) := by
  apply Int32.toBitVec_inj.mp
  show (BitVec.ofNat 32 a) ^^^ (BitVec.ofNat 32 b) = BitVec.ofNat 32 (a ^^^ b)
  apply BitVec.eq_of_toNat_eq
  simp [Nat.xor_mod_two_pow]
theorem n_and {a b : Nat} (hx : p.tables.exec = Jvm.exec) (hb : c.code = cc) (hdg : decode cc pc = .ok (.iand, 1)) (kk : W p l e R s m args below meth c H locs cells slots Q (F0 m (pc + 1) ls (.int (nI (a &&& b)) :: rest))) : W p l e R s m args below meth c H locs cells slots Q (F0 m pc ls (.int (nI b) :: .int (nI a) :: rest)) :=
  lv_iand hx hb hdg (by rw [n_land]; exact kk)
theorem n_xor {a b : Nat} (hx : p.tables.exec = Jvm.exec) (hb : c.code = cc) (hdg : decode cc pc = .ok (.ixor, 1)) (kk : W p l e R s m args below meth c H locs cells slots Q (F0 m (pc + 1) ls (.int (nI (a ^^^ b)) :: rest))) : W p l e R s m args below meth c H locs cells slots Q (F0 m pc ls (.int (nI b) :: .int (nI a) :: rest)) :=
  lv_ixor hx hb hdg (by rw [n_lxor]; exact kk)
/-- comparisons of natural numbers -/
theorem n_icmp_ge {a b tgt : Nat} {off : Int} (hx : p.tables.exec = Jvm.exec) (hb : c.code = cc) (hdg : decode cc pc = .ok (.if_icmp .ge off, 3)) (ht : (pc : Int) + off = (tgt : Int)) (h1 : a < 2 ^ 31) (h2 : b < 2 ^ 31) (kt : b ≤ a → W p l e R s m args below meth c H locs cells slots Q (F0 m tgt ls rest)) (kf : a < b → W p l e R s m args below meth c H locs cells slots Q (F0 m (pc + 3) ls rest)) : W p l e R s m args below meth c H locs cells slots Q (F0 m pc ls (.int (nI b) :: .int (nI a) :: rest)) :=
  lv_icmp_ge hx hb hdg ht (fun h => kt ((nI_leI h2 h1).mp h)) (fun h => kf (Nat.lt_of_not_le (fun q => h ((nI_leI h2 h1).mpr q))))
theorem n_icmp_lt {a b tgt : Nat} {off : Int} (hx : p.tables.exec = Jvm.exec) (hb : c.code = cc) (hdg : decode cc pc = .ok (.if_icmp .lt off, 3)) (ht : (pc : Int) + off = (tgt : Int)) (h1 : a < 2 ^ 31) (h2 : b < 2 ^ 31) (kt : a < b → W p l e R s m args below meth c H locs cells slots Q (F0 m tgt ls rest)) (kf : b ≤ a → W p l e R s m args below meth c H locs cells slots Q (F0 m (pc + 3) ls rest)) : W p l e R s m args below meth c H locs cells slots Q (F0 m pc ls (.int (nI b) :: .int (nI a) :: rest)) :=
  lv_icmp_lt hx hb hdg ht (fun h => kt ((nI_ltI h1 h2).mp h)) (fun h => kf (Nat.le_of_not_lt (fun q => h ((nI_ltI h1 h2).mpr q))))
theorem n_icmp_le {a b tgt : Nat} {off : Int} (hx : p.tables.exec = Jvm.exec) (hb : c.code = cc) (hdg : decode cc pc = .ok (.if_icmp .le off, 3)) (ht : (pc : Int) + off = (tgt : Int)) (h1 : a < 2 ^ 31) (h2 : b < 2 ^ 31) (kt : a ≤ b → W p l e R s m args below meth c H locs cells slots Q (F0 m tgt ls rest)) (kf : b < a → W p l e R s m args below meth c H locs cells slots Q (F0 m (pc + 3) ls rest)) : W p l e R s m args below meth c H locs cells slots Q (F0 m pc ls (.int (nI b) :: .int (nI a) :: rest)) :=
  lv_icmp_le hx hb hdg ht (fun h => kt ((nI_leI h1 h2).mp h)) (fun h => kf (Nat.lt_of_not_le (fun q => h ((nI_leI h1 h2).mpr q))))
theorem n_icmp_gt {a b tgt : Nat} {off : Int} (hx : p.tables.exec = Jvm.exec) (hb : c.code = cc) (hdg : decode cc pc = .ok (.if_icmp .gt off, 3)) (ht : (pc : Int) + off = (tgt : Int)) (h1 : a < 2 ^ 31) (h2 : b < 2 ^ 31) (kt : b < a → W p l e R s m args below meth c H locs cells slots Q (F0 m tgt ls rest)) (kf : a ≤ b → W p l e R s m args below meth c H locs cells slots Q (F0 m (pc + 3) ls rest)) : W p l e R s m args below meth c H locs cells slots Q (F0 m pc ls (.int (nI b) :: .int (nI a) :: rest)) :=
  lv_icmp_gt hx hb hdg ht (fun h => kt ((nI_ltI h2 h1).mp h)) (fun h => kf (Nat.le_of_not_lt (fun q => h ((nI_ltI h2 h1).mpr q))))
theorem n_icmp_eq {a b tgt : Nat} {off : Int} (hx : p.tables.exec = Jvm.exec) (hb : c.code = cc) (hdg : decode cc pc = .ok (.if_icmp .eq off, 3)) (ht : (pc : Int) + off = (tgt : Int)) (h1 : a < 2 ^ 31) (h2 : b < 2 ^ 31) (kt : a = b → W p l e R s m args below meth c H locs cells slots Q (F0 m tgt ls rest)) (kf : ¬ a = b → W p l e R s m args below meth c H locs cells slots Q (F0 m (pc + 3) ls rest)) : W p l e R s m args below meth c H locs cells slots Q (F0 m pc ls (.int (nI b) :: .int (nI a) :: rest)) :=
  lv_icmp_eq hx hb hdg ht (fun h => kt ((nI_eq h1 h2).mp h)) (fun h => kf (fun q => h (by rw [q])))
theorem n_icmp_ne {a b tgt : Nat} {off : Int} (hx : p.tables.exec = Jvm.exec) (hb : c.code = cc) (hdg : decode cc pc = .ok (.if_icmp .ne off, 3)) (ht : (pc : Int) + off = (tgt : Int)) (h1 : a < 2 ^ 31) (h2 : b < 2 ^ 31) (kt : ¬ a = b → W p l e R s m args below meth c H locs cells slots Q (F0 m tgt ls rest)) (kf : a = b → W p l e R s m args below meth c H locs cells slots Q (F0 m (pc + 3) ls rest)) : W p l e R s m args below meth c H locs cells slots Q (F0 m pc ls (.int (nI b) :: .int (nI a) :: rest)) :=
  lv_icmp_ne hx hb hdg ht (fun h => kt (fun q => h (by rw [q]))) (fun h => kf ((nI_eq h1 h2).mp h))
theorem b_if_eq {b : Bool} {tgt : Nat} {off : Int} (hx : p.tables.exec = Jvm.exec) (hb : c.code = cc) (hdg : decode cc pc = .ok (.ifCond .eq off, 3)) (ht : (pc : Int) + off = (tgt : Int)) (kt : b = false → W p l e R s m args below meth c H locs cells slots Q (F0 m tgt ls rest)) (kf : b = true → W p l e R s m args below meth c H locs cells slots Q (F0 m (pc + 3) ls rest)) : W p l e R s m args below meth c H locs cells slots Q (F0 m pc ls (.int (b2i b) :: rest)) :=
  lv_if_eq hx hb hdg ht (fun h => kt (by cases b with | false => rfl | true => exact absurd h (by decide))) (fun h => kf (by cases b with | true => rfl | false => exact absurd rfl h))
theorem b_if_ne {b : Bool} {tgt : Nat} {off : Int} (hx : p.tables.exec = Jvm.exec) (hb : c.code = cc) (hdg : decode cc pc = .ok (.ifCond .ne off, 3)) (ht : (pc : Int) + off = (tgt : Int)) (kt : b = true → W p l e R s m args below meth c H locs cells slots Q (F0 m tgt ls rest)) (kf : b = false → W p l e R s m args below meth c H locs cells slots Q (F0 m (pc + 3) ls rest)) : W p l e R s m args below meth c H locs cells slots Q (F0 m pc ls (.int (b2i b) :: rest)) :=
  lv_if_ne hx hb hdg ht (fun h => kt (by cases b with | true => rfl | false => exact absurd rfl h)) (fun h => kf (by cases b with | false => rfl | true => exact absurd h (by decide)))
theorem n_if_eq {a tgt : Nat} {off : Int} (hx : p.tables.exec = Jvm.exec) (hb : c.code = cc) (hdg : decode cc pc = .ok (.ifCond .eq off, 3)) (ht : (pc : Int) + off = (tgt : Int)) (h1 : a < 2 ^ 31) (kt : a = 0 → W p l e R s m args below meth c H locs cells slots Q (F0 m tgt ls rest)) (kf : ¬ a = 0 → W p l e R s m args below meth c H locs cells slots Q (F0 m (pc + 3) ls rest)) : W p l e R s m args below meth c H locs cells slots Q (F0 m pc ls (.int (nI a) :: rest)) :=
  lv_if_eq hx hb hdg ht (fun h => kt ((nI_eq h1 (by decide)).mp (h.trans nI_0.symm))) (fun h => kf (fun q => h (by rw [q]; exact nI_0)))
theorem n_if_ne {a tgt : Nat} {off : Int} (hx : p.tables.exec = Jvm.exec) (hb : c.code = cc) (hdg : decode cc pc = .ok (.ifCond .ne off, 3)) (ht : (pc : Int) + off = (tgt : Int)) (h1 : a < 2 ^ 31) (kt : ¬ a = 0 → W p l e R s m args below meth c H locs cells slots Q (F0 m tgt ls rest)) (kf : a = 0 → W p l e R s m args below meth c H locs cells slots Q (F0 m (pc + 3) ls rest)) : W p l e R s m args below meth c H locs cells slots Q (F0 m pc ls (.int (nI a) :: rest)) :=
  lv_if_ne hx hb hdg ht (fun h => kt (fun q => h (by rw [q]; exact nI_0))) (fun h => kf ((nI_eq h1 (by decide)).mp (h.trans nI_0.symm)))
theorem n_if_le {a tgt : Nat} {off : Int} (hx : p.tables.exec = Jvm.exec) (hb : c.code = cc) (hdg : decode cc pc = .ok (.ifCond .le off, 3)) (ht : (pc : Int) + off = (tgt : Int)) (h1 : a < 2 ^ 31) (kt : a = 0 → W p l e R s m args below meth c H locs cells slots Q (F0 m tgt ls rest)) (kf : 0 < a → W p l e R s m args below meth c H locs cells slots Q (F0 m (pc + 3) ls rest)) : W p l e R s m args below meth c H locs cells slots Q (F0 m pc ls (.int (nI a) :: rest)) :=
  lv_if_le hx hb hdg ht (fun h => kt (Nat.eq_zero_of_not_pos (fun q => nI_nle q h1 h))) (fun h => kf (Nat.pos_of_ne_zero (fun q => h (by rw [q, nI_0]; decide))))
theorem n_if_gt {a tgt : Nat} {off : Int} (hx : p.tables.exec = Jvm.exec) (hb : c.code = cc) (hdg : decode cc pc = .ok (.ifCond .gt off, 3)) (ht : (pc : Int) + off = (tgt : Int)) (h1 : a < 2 ^ 31) (kt : 0 < a → W p l e R s m args below meth c H locs cells slots Q (F0 m tgt ls rest)) (kf : a = 0 → W p l e R s m args below meth c H locs cells slots Q (F0 m (pc + 3) ls rest)) : W p l e R s m args below meth c H locs cells slots Q (F0 m pc ls (.int (nI a) :: rest)) :=
  lv_if_gt hx hb hdg ht (fun h => kt (Nat.pos_of_ne_zero (fun q => by rw [q, nI_0] at h; exact absurd h (by decide)))) (fun h => kf (Nat.eq_zero_of_not_pos (fun q => h (by have := nI_lt q h1; rw [nI_0] at this; exact this))))
theorem n_if_ge {a tgt : Nat} {off : Int} (hx : p.tables.exec = Jvm.exec) (hb : c.code = cc) (hdg : decode cc pc = .ok (.ifCond .ge off, 3)) (ht : (pc : Int) + off = (tgt : Int)) (h1 : a < 2 ^ 31) (kt : W p l e R s m args below meth c H locs cells slots Q (F0 m tgt ls rest)) : W p l e R s m args below meth c H locs cells slots Q (F0 m pc ls (.int (nI a) :: rest)) :=
  lv_if_ge hx hb hdg ht (fun _ => kt) (fun h => absurd (nI_pos' h1) h)
theorem n_if_lt {a tgt : Nat} {off : Int} (hx : p.tables.exec = Jvm.exec) (hb : c.code = cc) (hdg : decode cc pc = .ok (.ifCond .lt off, 3)) (ht : (pc : Int) + off = (tgt : Int)) (h1 : a < 2 ^ 31) (kf : W p l e R s m args below meth c H locs cells slots Q (F0 m (pc + 3) ls rest)) : W p l e R s m args below meth c H locs cells slots Q (F0 m pc ls (.int (nI a) :: rest)) :=
  lv_if_lt hx hb hdg ht (fun h => absurd h (nI_pos h1)) (fun _ => kf)
end OwnCalls
end
section
/-! ===== what instructions link, by places of the tables ===== -/
theorem inT_X0 : ∀ w ∈ u_ws RX0 TX0 4, w ∈ TT := by
  intro w h
  obtain ⟨k, hk, rfl⟩ := List.mem_map.mp h
  have hk := List.mem_range.mp hk
  match k, hk with
  | 0, _ => exact tm1 114 _ rfl rfl
  | 1, _ => exact tm1 116 _ rfl rfl
  | 2, _ => exact tm1 118 _ rfl rfl
  | 3, _ => exact tm1 120 _ rfl rfl
  | n + 4, h => exact absurd h (by omega)
theorem inT_X1 : ∀ w ∈ u_ws RX1 TX1 7, w ∈ TT := by
  intro w h
  obtain ⟨k, hk, rfl⟩ := List.mem_map.mp h
  have hk := List.mem_range.mp hk
  match k, hk with
  | 0, _ => exact tm1 87 _ rfl rfl
  | 1, _ => exact tm1 89 _ rfl rfl
  | 2, _ => exact tm1 91 _ rfl rfl
  | 3, _ => exact tm1 93 _ rfl rfl
  | 4, _ => exact tm1 95 _ rfl rfl
  | 5, _ => exact tm1 97 _ rfl rfl
  | 6, _ => exact tm1 99 _ rfl rfl
  | n + 7, h => exact absurd h (by omega)
theorem inT_X2 : ∀ w ∈ u_ws RX2 TX2 2, w ∈ TT := by
  intro w h
  obtain ⟨k, hk, rfl⟩ := List.mem_map.mp h
  have hk := List.mem_range.mp hk
  match k, hk with
  | 0, _ => exact tm1 134 _ rfl rfl
  | 1, _ => exact tm1 136 _ rfl rfl
  | n + 2, h => exact absurd h (by omega)
theorem inT_X3 : ∀ w ∈ u_ws RX3 TX3 1, w ∈ TT := by
  intro w h
  obtain ⟨k, hk, rfl⟩ := List.mem_map.mp h
  have hk := List.mem_range.mp hk
  match k, hk with
  | 0, _ => exact tm1 32 _ rfl rfl
  | n + 1, h => exact absurd h (by omega)
theorem inT_X4 : ∀ w ∈ u_ws RX4 TX4 7, w ∈ TT := by
  intro w h
  obtain ⟨k, hk, rfl⟩ := List.mem_map.mp h
  have hk := List.mem_range.mp hk
  match k, hk with
  | 0, _ => exact tm1 53 _ rfl rfl
  | 1, _ => exact tm1 55 _ rfl rfl
  | 2, _ => exact tm1 57 _ rfl rfl
  | 3, _ => exact tm1 59 _ rfl rfl
  | 4, _ => exact tm1 61 _ rfl rfl
  | 5, _ => exact tm1 63 _ rfl rfl
  | 6, _ => exact tm1 65 _ rfl rfl
  | n + 7, h => exact absurd h (by omega)
theorem inT_X5 : ∀ w ∈ u_ws RX5 TX5 8, w ∈ TT := by
  intro w h
  obtain ⟨k, hk, rfl⟩ := List.mem_map.mp h
  have hk := List.mem_range.mp hk
  match k, hk with
  | 0, _ => exact tm1 147 _ rfl rfl
  | 1, _ => exact tm1 149 _ rfl rfl
  | 2, _ => exact tm1 151 _ rfl rfl
  | 3, _ => exact tm1 153 _ rfl rfl
  | 4, _ => exact tm1 155 _ rfl rfl
  | 5, _ => exact tm1 157 _ rfl rfl
  | 6, _ => exact tm1 159 _ rfl rfl
  | 7, _ => exact tm1 161 _ rfl rfl
  | n + 8, h => exact absurd h (by omega)
theorem inT_X6 : ∀ w ∈ u_ws RX6 TX6 23, w ∈ TT := by
  intro w h
  obtain ⟨k, hk, rfl⟩ := List.mem_map.mp h
  have hk := List.mem_range.mp hk
  match k, hk with
  | 0, _ => exact tm3 40 _ rfl rfl
  | 1, _ => exact tm3 42 _ rfl rfl
  | 2, _ => exact tm3 44 _ rfl rfl
  | 3, _ => exact tm3 46 _ rfl rfl
  | 4, _ => exact tm3 48 _ rfl rfl
  | 5, _ => exact tm3 50 _ rfl rfl
  | 6, _ => exact tm3 52 _ rfl rfl
  | 7, _ => exact tm3 54 _ rfl rfl
  | 8, _ => exact tm3 56 _ rfl rfl
  | 9, _ => exact tm3 58 _ rfl rfl
  | 10, _ => exact tm3 60 _ rfl rfl
  | 11, _ => exact tm3 62 _ rfl rfl
  | 12, _ => exact tm3 64 _ rfl rfl
  | 13, _ => exact tm3 66 _ rfl rfl
  | 14, _ => exact tm3 68 _ rfl rfl
  | 15, _ => exact tm3 70 _ rfl rfl
  | 16, _ => exact tm3 72 _ rfl rfl
  | 17, _ => exact tm3 74 _ rfl rfl
  | 18, _ => exact tm3 76 _ rfl rfl
  | 19, _ => exact tm3 78 _ rfl rfl
  | 20, _ => exact tm3 80 _ rfl rfl
  | 21, _ => exact tm3 82 _ rfl rfl
  | 22, _ => exact tm3 84 _ rfl rfl
  | n + 23, h => exact absurd h (by omega)
theorem lc_L_7 : Cond.classLink RL 7 RX5 ∈ TT := tm1 11 _ rfl rfl
theorem lk_L_9 : KLI RL 9 yX5_init cX5_init 1 0 := ⟨tm1 13 _ rfl rfl, tm1 14 _ rfl rfl, tm1 1 _ rfl rfl, tm1 15 _ rfl rfl, rfl, ⟨by decide, by decide, by decide⟩⟩
theorem lc_L_10 : Cond.classLink RL 10 RX6 ∈ TT := tm3 7 _ rfl rfl
theorem lk_L_12 : KLI RL 12 yX6_init cX6_init 1 0 := ⟨tm3 9 _ rfl rfl, tm3 10 _ rfl rfl, tm1 8 _ rfl rfl, tm3 11 _ rfl rfl, rfl, ⟨by decide, by decide, by decide⟩⟩
theorem lk_L_13 : KLV RL 13 RX5 yX5_machines cX5_machines 4 (some .int) 2 := ⟨tm1 164 _ rfl rfl, tm1 165 _ rfl rfl, tm1 166 _ rfl rfl, tm1 1 _ rfl rfl, tm1 167 _ rfl rfl, ⟨rfl, by decide, by decide, by decide⟩⟩
theorem lk_L_17 : KLV RL 17 RX6 yX6_machines cX6_machines 4 (some .int) 2 := ⟨tm3 88 _ rfl rfl, tm3 89 _ rfl rfl, tm3 90 _ rfl rfl, tm1 8 _ rfl rfl, tm3 91 _ rfl rfl, ⟨rfl, by decide, by decide, by decide⟩⟩
theorem lk_L_18 : KLV RL 18 RX5 yX5_put cX5_put 5 (some .int) 3 := ⟨tm1 180 _ rfl rfl, tm1 181 _ rfl rfl, tm1 182 _ rfl rfl, tm1 1 _ rfl rfl, tm1 183 _ rfl rfl, ⟨rfl, by decide, by decide, by decide⟩⟩
theorem lk_L_22 : KLV RL 22 RX6 yX6_put cX6_put 5 (some .int) 3 := ⟨tm3 95 _ rfl rfl, tm3 96 _ rfl rfl, tm3 97 _ rfl rfl, tm1 8 _ rfl rfl, tm3 98 _ rfl rfl, ⟨rfl, by decide, by decide, by decide⟩⟩
theorem lk_L_23 : KLV RL 23 RX5 yX5_rule cX5_rule 4 (some .int) 2 := ⟨tm1 205 _ rfl rfl, tm1 206 _ rfl rfl, tm1 207 _ rfl rfl, tm1 1 _ rfl rfl, tm1 208 _ rfl rfl, ⟨rfl, by decide, by decide, by decide⟩⟩
theorem lk_L_26 : KLV RL 26 RX6 yX6_rule cX6_rule 4 (some .int) 2 := ⟨tm3 110 _ rfl rfl, tm3 111 _ rfl rfl, tm3 112 _ rfl rfl, tm1 8 _ rfl rfl, tm3 113 _ rfl rfl, ⟨rfl, by decide, by decide, by decide⟩⟩
theorem lk_L_27 : KLV RL 27 RX5 yX5_slow cX5_slow 5 (some .int) 3 := ⟨tm1 213 _ rfl rfl, tm1 214 _ rfl rfl, tm1 215 _ rfl rfl, tm1 1 _ rfl rfl, tm1 216 _ rfl rfl, ⟨rfl, by decide, by decide, by decide⟩⟩
theorem lk_L_30 : KLV RL 30 RX6 yX6_slow cX6_slow 5 (some .int) 3 := ⟨tm3 114 _ rfl rfl, tm3 115 _ rfl rfl, tm3 116 _ rfl rfl, tm1 8 _ rfl rfl, tm3 117 _ rfl rfl, ⟨rfl, by decide, by decide, by decide⟩⟩
theorem lk_L_31 : KLV RL 31 RX5 yX5_at cX5_at 3 (some .int) 2 := ⟨tm1 228 _ rfl rfl, tm1 229 _ rfl rfl, tm1 230 _ rfl rfl, tm1 1 _ rfl rfl, tm1 231 _ rfl rfl, ⟨rfl, by decide, by decide, by decide⟩⟩
theorem lk_L_34 : KLV RL 34 RX6 yX6_at cX6_at 3 (some .int) 2 := ⟨tm3 118 _ rfl rfl, tm3 119 _ rfl rfl, tm3 120 _ rfl rfl, tm1 8 _ rfl rfl, tm3 121 _ rfl rfl, ⟨rfl, by decide, by decide, by decide⟩⟩
theorem lk_L_35 : KLV RL 35 RX5 yX5_way cX5_way 3 (some .int) 2 := ⟨tm1 232 _ rfl rfl, tm1 233 _ rfl rfl, tm1 234 _ rfl rfl, tm1 1 _ rfl rfl, tm1 235 _ rfl rfl, ⟨rfl, by decide, by decide, by decide⟩⟩
theorem lk_L_38 : KLV RL 38 RX6 yX6_way cX6_way 3 (some .int) 2 := ⟨tm3 122 _ rfl rfl, tm3 123 _ rfl rfl, tm3 124 _ rfl rfl, tm1 8 _ rfl rfl, tm3 125 _ rfl rfl, ⟨rfl, by decide, by decide, by decide⟩⟩
theorem lk_L_39 : KLV RL 39 RX5 yX5_letter cX5_letter 4 (some .int) 3 := ⟨tm2 114 _ rfl rfl, tm2 115 _ rfl rfl, tm2 116 _ rfl rfl, tm1 1 _ rfl rfl, tm2 117 _ rfl rfl, ⟨rfl, by decide, by decide, by decide⟩⟩
theorem lk_L_42 : KLV RL 42 RX6 yX6_letter cX6_letter 4 (some .int) 3 := ⟨tm3 192 _ rfl rfl, tm3 193 _ rfl rfl, tm3 194 _ rfl rfl, tm1 8 _ rfl rfl, tm3 195 _ rfl rfl, ⟨rfl, by decide, by decide, by decide⟩⟩
theorem lk_L_43 : KLV RL 43 RX5 yX5_behind cX5_behind 5 (some .int) 4 := ⟨tm2 121 _ rfl rfl, tm2 122 _ rfl rfl, tm2 123 _ rfl rfl, tm1 1 _ rfl rfl, tm2 124 _ rfl rfl, ⟨rfl, by decide, by decide, by decide⟩⟩
theorem lk_L_47 : KLV RL 47 RX6 yX6_behind cX6_behind 5 (some .int) 4 := ⟨tm3 196 _ rfl rfl, tm3 197 _ rfl rfl, tm3 198 _ rfl rfl, tm1 8 _ rfl rfl, tm3 199 _ rfl rfl, ⟨rfl, by decide, by decide, by decide⟩⟩
theorem lk_L_48 : KLV RL 48 RX5 yX5_same cX5_same 3 (some .int) 2 := ⟨tm2 151 _ rfl rfl, tm2 152 _ rfl rfl, tm2 153 _ rfl rfl, tm1 1 _ rfl rfl, tm2 154 _ rfl rfl, ⟨rfl, by decide, by decide, by decide⟩⟩
theorem lk_L_51 : KLV RL 51 RX6 yX6_same cX6_same 7 (some .int) 2 := ⟨tm3 216 _ rfl rfl, tm3 217 _ rfl rfl, tm3 218 _ rfl rfl, tm1 8 _ rfl rfl, tm3 219 _ rfl rfl, ⟨rfl, by decide, by decide, by decide⟩⟩
theorem lk_L_52 : KLV RL 52 RX5 yX5_alike cX5_alike 3 (some .int) 2 := ⟨tm2 181 _ rfl rfl, tm2 182 _ rfl rfl, tm2 183 _ rfl rfl, tm1 1 _ rfl rfl, tm2 184 _ rfl rfl, ⟨rfl, by decide, by decide, by decide⟩⟩
theorem lk_L_55 : KLV RL 55 RX6 yX6_alike cX6_alike 5 (some .int) 2 := ⟨tm3 228 _ rfl rfl, tm3 229 _ rfl rfl, tm3 230 _ rfl rfl, tm1 8 _ rfl rfl, tm3 231 _ rfl rfl, ⟨rfl, by decide, by decide, by decide⟩⟩
theorem lk_L_56 : KLV RL 56 RX5 yX5_best cX5_best 7 (some .int) 2 := ⟨tm2 185 _ rfl rfl, tm2 186 _ rfl rfl, tm2 187 _ rfl rfl, tm1 1 _ rfl rfl, tm2 188 _ rfl rfl, ⟨rfl, by decide, by decide, by decide⟩⟩
theorem lk_L_59 : KLV RL 59 RX6 yX6_best cX6_best 7 (some .int) 2 := ⟨tm3 236 _ rfl rfl, tm3 237 _ rfl rfl, tm3 238 _ rfl rfl, tm1 8 _ rfl rfl, tm3 239 _ rfl rfl, ⟨rfl, by decide, by decide, by decide⟩⟩
theorem lk_L_60 : KLV RL 60 RX5 yX5_from cX5_from 4 (some .int) 2 := ⟨tm2 193 _ rfl rfl, tm2 194 _ rfl rfl, tm2 195 _ rfl rfl, tm1 1 _ rfl rfl, tm2 196 _ rfl rfl, ⟨rfl, by decide, by decide, by decide⟩⟩
theorem lk_L_63 : KLV RL 63 RX6 yX6_from cX6_from 4 (some .int) 2 := ⟨tm4 4 _ rfl rfl, tm4 5 _ rfl rfl, tm4 6 _ rfl rfl, tm1 8 _ rfl rfl, tm4 7 _ rfl rfl, ⟨rfl, by decide, by decide, by decide⟩⟩
theorem lk_L_64 : KLV RL 64 RX5 yX5_lost cX5_lost 4 (some .int) 3 := ⟨tm2 197 _ rfl rfl, tm2 198 _ rfl rfl, tm2 199 _ rfl rfl, tm1 1 _ rfl rfl, tm2 200 _ rfl rfl, ⟨rfl, by decide, by decide, by decide⟩⟩
theorem lk_L_67 : KLV RL 67 RX6 yX6_lost cX6_lost 4 (some .int) 3 := ⟨tm4 8 _ rfl rfl, tm4 9 _ rfl rfl, tm4 10 _ rfl rfl, tm1 8 _ rfl rfl, tm4 11 _ rfl rfl, ⟨rfl, by decide, by decide, by decide⟩⟩
theorem lk_L_68 : KLV RL 68 RX5 yX5_worst cX5_worst 8 (some .int) 2 := ⟨tm2 209 _ rfl rfl, tm2 210 _ rfl rfl, tm2 211 _ rfl rfl, tm1 1 _ rfl rfl, tm2 212 _ rfl rfl, ⟨rfl, by decide, by decide, by decide⟩⟩
theorem lk_L_71 : KLV RL 71 RX6 yX6_worst cX6_worst 8 (some .int) 2 := ⟨tm4 24 _ rfl rfl, tm4 25 _ rfl rfl, tm4 26 _ rfl rfl, tm1 8 _ rfl rfl, tm4 27 _ rfl rfl, ⟨rfl, by decide, by decide, by decide⟩⟩
theorem lk_L_72 : KLV RL 72 RX5 yX5_comes cX5_comes 8 (some .int) 4 := ⟨tm2 213 _ rfl rfl, tm2 214 _ rfl rfl, tm2 215 _ rfl rfl, tm1 1 _ rfl rfl, tm2 216 _ rfl rfl, ⟨rfl, by decide, by decide, by decide⟩⟩
theorem lk_L_75 : KLV RL 75 RX6 yX6_comes cX6_comes 8 (some .int) 4 := ⟨tm4 28 _ rfl rfl, tm4 29 _ rfl rfl, tm4 30 _ rfl rfl, tm1 8 _ rfl rfl, tm4 31 _ rfl rfl, ⟨rfl, by decide, by decide, by decide⟩⟩
theorem lk_L_76 : KLV RL 76 RX5 yX5_image cX5_image 2 (some .int) 1 := ⟨tm2 221 _ rfl rfl, tm2 222 _ rfl rfl, tm2 223 _ rfl rfl, tm1 1 _ rfl rfl, tm2 224 _ rfl rfl, ⟨rfl, by decide, by decide, by decide⟩⟩
theorem lk_L_80 : KLV RL 80 RX6 yX6_image cX6_image 3 (some .int) 1 := ⟨tm4 32 _ rfl rfl, tm4 33 _ rfl rfl, tm4 34 _ rfl rfl, tm1 8 _ rfl rfl, tm4 35 _ rfl rfl, ⟨rfl, by decide, by decide, by decide⟩⟩
theorem lk_L_81 : KLV RL 81 RX5 yX5_restore cX5_restore 2 (some .int) 1 := ⟨tm2 235 _ rfl rfl, tm2 236 _ rfl rfl, tm2 237 _ rfl rfl, tm1 1 _ rfl rfl, tm2 238 _ rfl rfl, ⟨rfl, by decide, by decide, by decide⟩⟩
theorem lk_L_84 : KLV RL 84 RX6 yX6_restore cX6_restore 3 (some .int) 1 := ⟨tm4 36 _ rfl rfl, tm4 37 _ rfl rfl, tm4 38 _ rfl rfl, tm1 8 _ rfl rfl, tm4 39 _ rfl rfl, ⟨rfl, by decide, by decide, by decide⟩⟩
theorem lk_L_85 : KLV RL 85 RX5 yX5_count cX5_count 2 (some .int) 1 := ⟨tm2 239 _ rfl rfl, tm3 0 _ rfl rfl, tm3 1 _ rfl rfl, tm1 1 _ rfl rfl, tm3 2 _ rfl rfl, ⟨rfl, by decide, by decide, by decide⟩⟩
theorem lk_L_88 : KLV RL 88 RX6 yX6_count cX6_count 2 (some .int) 1 := ⟨tm4 40 _ rfl rfl, tm4 41 _ rfl rfl, tm4 42 _ rfl rfl, tm1 8 _ rfl rfl, tm4 43 _ rfl rfl, ⟨rfl, by decide, by decide, by decide⟩⟩
theorem lo_X0_3 : Cond.methodLink RX0 3 objectInit ∈ TT := tm1 107 _ rfl rfl
theorem lf_X0_9 : Cond.fieldLink RX0 9 "SumsForAll$Busy" "inRound" "[I" ∈ TT := tm1 108 _ rfl rfl
theorem lf_X0_15 : Cond.fieldLink RX0 15 "SumsForAll$Busy" "inAll" "[I" ∈ TT := tm1 109 _ rfl rfl
theorem lf_X0_18 : Cond.fieldLink RX0 18 "SumsForAll$Busy" "time" "I" ∈ TT := tm1 110 _ rfl rfl
theorem lf_X0_22 : Cond.fieldLink RX0 22 "SumsForAll$Busy" "longestRound" "I" ∈ TT := tm1 112 _ rfl rfl
theorem lk_X0_25 : KLS RX0 25 yJ7_fill_53178 cJ7_fill_53178 4 none 2 := ⟨tm2 77 _ rfl rfl, tm1 37 _ rfl rfl, tm1 4 _ rfl rfl, tm1 38 _ rfl rfl, ⟨by decide, by decide, by decide⟩⟩
theorem lf_X0_31 : Cond.fieldLinkNest RX0 31 "SumsForAll$Letters" "rounds" "I" "SumsForAll" ∈ nestT := List.mem_of_getElem? (i := 11) rfl
theorem lf_X0_36 : Cond.fieldLinkNest RX0 36 "SumsForAll$Letters" "written" "I" "SumsForAll" ∈ nestT := List.mem_of_getElem? (i := 7) rfl
theorem lk_X0_39 : KLV RX0 39 RX1 yX1_told cX1_told 3 (some .int) 2 := ⟨tm2 78 _ rfl rfl, tm2 79 _ rfl rfl, tm2 80 _ rfl rfl, tm1 5 _ rfl rfl, tm2 81 _ rfl rfl, ⟨rfl, by decide, by decide, by decide⟩⟩
theorem lk_X0_43 : KLV RX0 43 RX4 yX4_priceOf cX4_priceOf 4 (some .int) 2 := ⟨tm2 87 _ rfl rfl, tm2 88 _ rfl rfl, tm2 89 _ rfl rfl, tm1 2 _ rfl rfl, tm2 90 _ rfl rfl, ⟨rfl, by decide, by decide, by decide⟩⟩
theorem lk_X0_49 : KLV RX0 49 RX0 yX0_charge cX0_charge 3 none 2 := ⟨tm2 93 _ rfl rfl, tm2 95 _ rfl rfl, tm0 16 _ rfl rfl, tm1 6 _ rfl rfl, tm2 96 _ rfl rfl, ⟨rfl, by decide, by decide, by decide⟩⟩
theorem lk_X0_53 : KLV RX0 53 RX0 yX0_longestInRound cX0_longestInRound 3 (some .int) 0 := ⟨tm2 98 _ rfl rfl, tm2 100 _ rfl rfl, tm0 17 _ rfl rfl, tm1 6 _ rfl rfl, tm2 101 _ rfl rfl, ⟨rfl, by decide, by decide, by decide⟩⟩
theorem lk_X0_57 : KLSN RX0 57 yX5_isWithin "SumsForAll" cX5_isWithin 3 (some .boolean) 3 := ⟨List.mem_of_getElem? (i := 24) rfl, tm1 169 _ rfl rfl, tm1 1 _ rfl rfl, tm1 170 _ rfl rfl, ⟨by decide, by decide, by decide⟩⟩
theorem lo_X0_61 : Cond.methodLink RX0 61 Lib.Math.max.name ∈ TT := tm2 102 _ rfl rfl
theorem lo_X1_3 : Cond.methodLink RX1 3 objectInit ∈ TT := tm1 73 _ rfl rfl
theorem lf_X1_9 : Cond.fieldLink RX1 9 "SumsForAll$Letters" "table" "[I" ∈ TT := tm1 74 _ rfl rfl
theorem lf_X1_15 : Cond.fieldLink RX1 15 "SumsForAll$Letters" "written" "I" ∈ TT := tm1 75 _ rfl rfl
theorem lf_X1_19 : Cond.fieldLink RX1 19 "SumsForAll$Letters" "rounds" "I" ∈ TT := tm1 79 _ rfl rfl
theorem lf_X1_22 : Cond.fieldLink RX1 22 "SumsForAll$Letters" "many" "I" ∈ TT := tm1 83 _ rfl rfl
theorem lf_X1_25 : Cond.fieldLink RX1 25 "SumsForAll$Letters" "size" "I" ∈ TT := tm1 84 _ rfl rfl
theorem lf_X1_28 : Cond.fieldLink RX1 28 "SumsForAll$Letters" "spanFirst" "[I" ∈ TT := tm1 85 _ rfl rfl
theorem lf_X1_31 : Cond.fieldLink RX1 31 "SumsForAll$Letters" "spanLength" "[I" ∈ TT := tm1 86 _ rfl rfl
theorem lo_X1_34 : Cond.methodLink RX1 34 Lib.Math.min.name ∈ TT := tm2 7 _ rfl rfl
theorem lk_X1_40 : KLV RX1 40 RX1 yX1_writeRing cX1_writeRing 3 none 0 := ⟨tm2 10 _ rfl rfl, tm2 12 _ rfl rfl, tm0 2 _ rfl rfl, tm1 5 _ rfl rfl, tm2 13 _ rfl rfl, ⟨rfl, by decide, by decide, by decide⟩⟩
theorem lk_X1_43 : KLV RX1 43 RX1 yX1_writeHalves cX1_writeHalves 3 none 0 := ⟨tm2 34 _ rfl rfl, tm2 36 _ rfl rfl, tm0 8 _ rfl rfl, tm1 5 _ rfl rfl, tm2 37 _ rfl rfl, ⟨rfl, by decide, by decide, by decide⟩⟩
theorem lk_X1_46 : KLV RX1 46 RX1 yX1_writeTree cX1_writeTree 4 none 0 := ⟨tm2 55 _ rfl rfl, tm2 57 _ rfl rfl, tm0 13 _ rfl rfl, tm1 5 _ rfl rfl, tm2 58 _ rfl rfl, ⟨rfl, by decide, by decide, by decide⟩⟩
theorem lk_X1_49 : KLV RX1 49 RX1 yX1_writeEach cX1_writeEach 2 none 0 := ⟨tm2 69 _ rfl rfl, tm2 71 _ rfl rfl, tm0 15 _ rfl rfl, tm1 5 _ rfl rfl, tm2 72 _ rfl rfl, ⟨rfl, by decide, by decide, by decide⟩⟩
theorem lk_X1_52 : KLV RX1 52 RX1 yX1_has cX1_has 2 (some .boolean) 1 := ⟨tm2 82 _ rfl rfl, tm2 83 _ rfl rfl, tm2 84 _ rfl rfl, tm1 5 _ rfl rfl, tm2 85 _ rfl rfl, ⟨rfl, by decide, by decide, by decide⟩⟩
theorem lk_X1_56 : KLSN RX1 56 yX5_isWithin "SumsForAll" cX5_isWithin 3 (some .boolean) 3 := ⟨List.mem_of_getElem? (i := 23) rfl, tm1 169 _ rfl rfl, tm1 1 _ rfl rfl, tm1 170 _ rfl rfl, ⟨by decide, by decide, by decide⟩⟩
theorem lk_X1_60 : KLV RX1 60 RX1 yX1_told cX1_told 3 (some .int) 2 := ⟨tm2 109 _ rfl rfl, tm2 79 _ rfl rfl, tm2 80 _ rfl rfl, tm1 5 _ rfl rfl, tm2 81 _ rfl rfl, ⟨rfl, by decide, by decide, by decide⟩⟩
theorem lk_X1_63 : KLV RX1 63 RX1 yX1_send cX1_send 7 none 5 := ⟨tm2 26 _ rfl rfl, tm2 28 _ rfl rfl, tm0 6 _ rfl rfl, tm1 5 _ rfl rfl, tm2 29 _ rfl rfl, ⟨rfl, by decide, by decide, by decide⟩⟩
theorem lk_X1_67 : KLV RX1 67 RX1 yX1_aroundTheRing cX1_aroundTheRing 2 (some .int) 1 := ⟨tm2 14 _ rfl rfl, tm2 16 _ rfl rfl, tm0 3 _ rfl rfl, tm1 5 _ rfl rfl, tm2 17 _ rfl rfl, ⟨rfl, by decide, by decide, by decide⟩⟩
theorem lk_X1_71 : KLV RX1 71 RX1 yX1_sendPart cX1_sendPart 5 none 3 := ⟨tm2 18 _ rfl rfl, tm2 20 _ rfl rfl, tm0 4 _ rfl rfl, tm1 5 _ rfl rfl, tm2 21 _ rfl rfl, ⟨rfl, by decide, by decide, by decide⟩⟩
theorem lk_X1_75 : KLV RX1 75 RX1 yX1_endRound cX1_endRound 1 none 0 := ⟨tm2 30 _ rfl rfl, tm2 32 _ rfl rfl, tm0 7 _ rfl rfl, tm1 5 _ rfl rfl, tm2 33 _ rfl rfl, ⟨rfl, by decide, by decide, by decide⟩⟩
theorem lk_X1_78 : KLV RX1 78 RX1 yX1_partStart cX1_partStart 2 (some .int) 1 := ⟨tm2 22 _ rfl rfl, tm2 24 _ rfl rfl, tm0 5 _ rfl rfl, tm1 5 _ rfl rfl, tm2 25 _ rfl rfl, ⟨rfl, by decide, by decide, by decide⟩⟩
theorem lk_X1_81 : KLV RX1 81 RX1 yX1_greatestPowerOfTwo cX1_greatestPowerOfTwo 3 (some .int) 0 := ⟨tm2 38 _ rfl rfl, tm2 40 _ rfl rfl, tm0 9 _ rfl rfl, tm1 5 _ rfl rfl, tm2 41 _ rfl rfl, ⟨rfl, by decide, by decide, by decide⟩⟩
theorem lk_X1_85 : KLV RX1 85 RX1 yX1_sendWhole cX1_sendWhole 4 none 3 := ⟨tm2 42 _ rfl rfl, tm2 44 _ rfl rfl, tm0 10 _ rfl rfl, tm1 5 _ rfl rfl, tm2 45 _ rfl rfl, ⟨rfl, by decide, by decide, by decide⟩⟩
theorem lk_X1_88 : KLS RX1 88 yJ7_fill_53178 cJ7_fill_53178 4 none 2 := ⟨tm2 46 _ rfl rfl, tm1 37 _ rfl rfl, tm1 4 _ rfl rfl, tm1 38 _ rfl rfl, ⟨by decide, by decide, by decide⟩⟩
theorem lk_X1_94 : KLV RX1 94 RX1 yX1_writeHalving cX1_writeHalving 7 none 2 := ⟨tm2 47 _ rfl rfl, tm2 49 _ rfl rfl, tm0 11 _ rfl rfl, tm1 5 _ rfl rfl, tm2 50 _ rfl rfl, ⟨rfl, by decide, by decide, by decide⟩⟩
theorem lk_X1_98 : KLV RX1 98 RX1 yX1_writeDoubling cX1_writeDoubling 4 none 2 := ⟨tm2 51 _ rfl rfl, tm2 53 _ rfl rfl, tm0 12 _ rfl rfl, tm1 5 _ rfl rfl, tm2 54 _ rfl rfl, ⟨rfl, by decide, by decide, by decide⟩⟩
theorem lk_X1_101 : KLV RX1 101 RX1 yX1_deepestLevel cX1_deepestLevel 3 (some .int) 0 := ⟨tm2 59 _ rfl rfl, tm2 61 _ rfl rfl, tm0 14 _ rfl rfl, tm1 5 _ rfl rfl, tm2 62 _ rfl rfl, ⟨rfl, by decide, by decide, by decide⟩⟩
theorem lk_X1_104 : KLS RX1 104 yX1_firstOnLevel cX1_firstOnLevel 1 (some .int) 1 := ⟨tm2 63 _ rfl rfl, tm2 64 _ rfl rfl, tm1 5 _ rfl rfl, tm2 65 _ rfl rfl, ⟨by decide, by decide, by decide⟩⟩
theorem lk_X1_107 : KLS RX1 107 yX1_upper cX1_upper 1 (some .int) 1 := ⟨tm2 66 _ rfl rfl, tm2 67 _ rfl rfl, tm1 5 _ rfl rfl, tm2 68 _ rfl rfl, ⟨by decide, by decide, by decide⟩⟩
theorem lo_X2_3 : Cond.methodLink RX2 3 objectInit ∈ TT := tm1 128 _ rfl rfl
theorem lc_X2_9 : Cond.classLink RX2 9 RX3 ∈ TT := tm1 129 _ rfl rfl
theorem lk_X2_11 : KLIN RX2 11 yX3_init "SumsForAll" cX3_init 1 0 := ⟨List.mem_of_getElem? (i := 20) rfl, tm1 28 _ rfl rfl, tm1 3 _ rfl rfl, tm1 29 _ rfl rfl, rfl, ⟨by decide, by decide, by decide⟩⟩
theorem lf_X2_12 : Cond.fieldLink RX2 12 "SumsForAll$Play" "rows" "LSumsForAll$Rows;" ∈ TT := tm1 131 _ rfl rfl
theorem lf_X2_18 : Cond.fieldLink RX2 18 "SumsForAll$Play" "atRoundStart" "LSumsForAll$Rows;" ∈ TT := tm1 133 _ rfl rfl
theorem lf_X2_21 : Cond.fieldLinkNest RX2 21 "SumsForAll$Setting" "rows" "LSumsForAll$Rows;" "SumsForAll" ∈ nestT := List.mem_of_getElem? (i := 0) rfl
theorem lk_X2_24 : KLV RX2 24 RX3 yX3_copyFrom cX3_copyFrom 2 none 1 := ⟨tm2 129 _ rfl rfl, tm2 130 _ rfl rfl, tm2 131 _ rfl rfl, tm1 3 _ rfl rfl, tm2 132 _ rfl rfl, ⟨rfl, by decide, by decide, by decide⟩⟩
theorem lf_X2_28 : Cond.fieldLinkNest RX2 28 "SumsForAll$Letters" "rounds" "I" "SumsForAll" ∈ nestT := List.mem_of_getElem? (i := 10) rfl
theorem lf_X2_34 : Cond.fieldLinkNest RX2 34 "SumsForAll$Letters" "written" "I" "SumsForAll" ∈ nestT := List.mem_of_getElem? (i := 8) rfl
theorem lk_X2_37 : KLV RX2 37 RX1 yX1_told cX1_told 3 (some .int) 2 := ⟨tm2 136 _ rfl rfl, tm2 79 _ rfl rfl, tm2 80 _ rfl rfl, tm1 5 _ rfl rfl, tm2 81 _ rfl rfl, ⟨rfl, by decide, by decide, by decide⟩⟩
theorem lk_X2_41 : KLV RX2 41 RX2 yX2_deliver cX2_deliver 12 none 3 := ⟨tm2 137 _ rfl rfl, tm2 139 _ rfl rfl, tm0 18 _ rfl rfl, tm1 7 _ rfl rfl, tm2 140 _ rfl rfl, ⟨rfl, by decide, by decide, by decide⟩⟩
theorem lk_X2_45 : KLV RX2 45 RX3 yX3_get cX3_get 3 (some .int) 2 := ⟨tm2 141 _ rfl rfl, tm1 194 _ rfl rfl, tm1 195 _ rfl rfl, tm1 3 _ rfl rfl, tm1 196 _ rfl rfl, ⟨rfl, by decide, by decide, by decide⟩⟩
theorem lk_X2_48 : KLS RX2 48 yX2_received cX2_received 4 (some .int) 4 := ⟨tm2 142 _ rfl rfl, tm2 143 _ rfl rfl, tm1 7 _ rfl rfl, tm2 144 _ rfl rfl, ⟨by decide, by decide, by decide⟩⟩
theorem lk_X2_52 : KLV RX2 52 RX3 yX3_set cX3_set 4 none 3 := ⟨tm2 150 _ rfl rfl, tm1 202 _ rfl rfl, tm1 203 _ rfl rfl, tm1 3 _ rfl rfl, tm1 204 _ rfl rfl, ⟨rfl, by decide, by decide, by decide⟩⟩
theorem lk_X2_56 : KLV RX2 56 RX4 yX4_mixed cX4_mixed 3 (some .int) 2 := ⟨tm2 145 _ rfl rfl, tm2 146 _ rfl rfl, tm2 147 _ rfl rfl, tm1 2 _ rfl rfl, tm2 148 _ rfl rfl, ⟨rfl, by decide, by decide, by decide⟩⟩
theorem lo_X3_3 : Cond.methodLink RX3 3 objectInit ∈ TT := tm1 30 _ rfl rfl
theorem lf_X3_9 : Cond.fieldLink RX3 9 "SumsForAll$Rows" "numbers" "[I" ∈ TT := tm1 31 _ rfl rfl
theorem lk_X3_15 : KLS RX3 15 yX3_isInside cX3_isInside 2 (some .boolean) 2 := ⟨tm1 197 _ rfl rfl, tm1 198 _ rfl rfl, tm1 3 _ rfl rfl, tm1 199 _ rfl rfl, ⟨by decide, by decide, by decide⟩⟩
theorem lk_X3_19 : KLS RX3 19 yJ7_fill_53178 cJ7_fill_53178 4 none 2 := ⟨tm1 179 _ rfl rfl, tm1 37 _ rfl rfl, tm1 4 _ rfl rfl, tm1 38 _ rfl rfl, ⟨by decide, by decide, by decide⟩⟩
theorem lo_X3_25 : Cond.methodLink RX3 25 arraycopyName ∈ TT := tm2 133 _ rfl rfl
theorem lk_X3_31 : KLV RX3 31 RX3 yX3_get cX3_get 3 (some .int) 2 := ⟨tm2 167 _ rfl rfl, tm1 194 _ rfl rfl, tm1 195 _ rfl rfl, tm1 3 _ rfl rfl, tm1 196 _ rfl rfl, ⟨rfl, by decide, by decide, by decide⟩⟩
theorem lk_X3_35 : KLSN RX3 35 yX5_isWithin "SumsForAll" cX5_isWithin 3 (some .boolean) 3 := ⟨List.mem_of_getElem? (i := 22) rfl, tm1 169 _ rfl rfl, tm1 1 _ rfl rfl, tm1 170 _ rfl rfl, ⟨by decide, by decide, by decide⟩⟩
theorem lo_X4_3 : Cond.methodLink RX4 3 objectInit ∈ TT := tm1 24 _ rfl rfl
theorem lc_X4_9 : Cond.classLink RX4 9 RX3 ∈ TT := tm1 25 _ rfl rfl
theorem lk_X4_11 : KLIN RX4 11 yX3_init "SumsForAll" cX3_init 1 0 := ⟨List.mem_of_getElem? (i := 16) rfl, tm1 28 _ rfl rfl, tm1 3 _ rfl rfl, tm1 29 _ rfl rfl, rfl, ⟨by decide, by decide, by decide⟩⟩
theorem lf_X4_12 : Cond.fieldLink RX4 12 "SumsForAll$Setting" "rows" "LSumsForAll$Rows;" ∈ TT := tm1 39 _ rfl rfl
theorem lf_X4_18 : Cond.fieldLink RX4 18 "SumsForAll$Setting" "slows" "[I" ∈ TT := tm1 42 _ rfl rfl
theorem lf_X4_22 : Cond.fieldLink RX4 22 "SumsForAll$Setting" "many" "I" ∈ TT := tm1 43 _ rfl rfl
theorem lf_X4_26 : Cond.fieldLink RX4 26 "SumsForAll$Setting" "size" "I" ∈ TT := tm1 45 _ rfl rfl
theorem lf_X4_29 : Cond.fieldLink RX4 29 "SumsForAll$Setting" "op" "I" ∈ TT := tm1 47 _ rfl rfl
theorem lf_X4_32 : Cond.fieldLink RX4 32 "SumsForAll$Setting" "start" "I" ∈ TT := tm1 49 _ rfl rfl
theorem lf_X4_35 : Cond.fieldLink RX4 35 "SumsForAll$Setting" "each" "I" ∈ TT := tm1 51 _ rfl rfl
theorem lk_X4_38 : KLS RX4 38 yJ7_fill_53178 cJ7_fill_53178 4 none 2 := ⟨tm1 36 _ rfl rfl, tm1 37 _ rfl rfl, tm1 4 _ rfl rfl, tm1 38 _ rfl rfl, ⟨by decide, by decide, by decide⟩⟩
theorem lk_X4_44 : KLV RX4 44 RX3 yX3_clear cX3_clear 1 none 0 := ⟨tm1 175 _ rfl rfl, tm1 176 _ rfl rfl, tm1 177 _ rfl rfl, tm1 3 _ rfl rfl, tm1 178 _ rfl rfl, ⟨rfl, by decide, by decide, by decide⟩⟩
theorem lk_X4_47 : KLV RX4 47 RX3 yX3_copyFrom cX3_copyFrom 2 none 1 := ⟨tm2 233 _ rfl rfl, tm2 130 _ rfl rfl, tm2 131 _ rfl rfl, tm1 3 _ rfl rfl, tm2 132 _ rfl rfl, ⟨rfl, by decide, by decide, by decide⟩⟩
theorem lo_X4_51 : Cond.methodLink RX4 51 arraycopyName ∈ TT := tm2 234 _ rfl rfl
theorem lk_X4_57 : KLSN RX4 57 yX5_isWithin "SumsForAll" cX5_isWithin 3 (some .boolean) 3 := ⟨List.mem_of_getElem? (i := 21) rfl, tm1 169 _ rfl rfl, tm1 1 _ rfl rfl, tm1 170 _ rfl rfl, ⟨by decide, by decide, by decide⟩⟩
theorem lk_X4_61 : KLS RX4 61 yX4_hasLine cX4_hasLine 2 (some .boolean) 2 := ⟨tm1 221 _ rfl rfl, tm1 222 _ rfl rfl, tm1 2 _ rfl rfl, tm1 223 _ rfl rfl, ⟨by decide, by decide, by decide⟩⟩
theorem lo_X4_65 : Cond.methodLink RX4 65 Lib.Math.max.name ∈ TT := tm2 149 _ rfl rfl
theorem lk_X4_71 : KLV RX4 71 RX3 yX3_get cX3_get 3 (some .int) 2 := ⟨tm2 179 _ rfl rfl, tm1 194 _ rfl rfl, tm1 195 _ rfl rfl, tm1 3 _ rfl rfl, tm1 196 _ rfl rfl, ⟨rfl, by decide, by decide, by decide⟩⟩
theorem lk_X4_74 : KLV RX4 74 RX4 yX4_mixed cX4_mixed 3 (some .int) 2 := ⟨tm2 180 _ rfl rfl, tm2 146 _ rfl rfl, tm2 147 _ rfl rfl, tm1 2 _ rfl rfl, tm2 148 _ rfl rfl, ⟨rfl, by decide, by decide, by decide⟩⟩
theorem lk_X4_77 : KLV RX4 77 RX1 yX1_told cX1_told 3 (some .int) 2 := ⟨tm2 91 _ rfl rfl, tm2 79 _ rfl rfl, tm2 80 _ rfl rfl, tm1 5 _ rfl rfl, tm2 81 _ rfl rfl, ⟨rfl, by decide, by decide, by decide⟩⟩
theorem lk_X4_82 : KLV RX4 82 RX4 yX4_slowness cX4_slowness 3 (some .int) 2 := ⟨tm2 92 _ rfl rfl, tm1 218 _ rfl rfl, tm1 219 _ rfl rfl, tm1 2 _ rfl rfl, tm1 220 _ rfl rfl, ⟨rfl, by decide, by decide, by decide⟩⟩
theorem lo_X5_1 : Cond.methodLink RX5 1 objectInit ∈ TT := tm1 16 _ rfl rfl
theorem lc_X5_7 : Cond.classLink RX5 7 RX4 ∈ TT := tm1 19 _ rfl rfl
theorem lk_X5_9 : KLI RX5 9 yX4_init cX4_init 1 0 := ⟨tm1 21 _ rfl rfl, tm1 22 _ rfl rfl, tm1 2 _ rfl rfl, tm1 23 _ rfl rfl, rfl, ⟨by decide, by decide, by decide⟩⟩
theorem lf_X5_10 : Cond.fieldLink RX5 10 "SumsForAll" "now" "LSumsForAll$Setting;" ∈ TT := tm1 139 _ rfl rfl
theorem lf_X5_16 : Cond.fieldLink RX5 16 "SumsForAll" "image0" "LSumsForAll$Setting;" ∈ TT := tm1 140 _ rfl rfl
theorem lf_X5_19 : Cond.fieldLink RX5 19 "SumsForAll" "image1" "LSumsForAll$Setting;" ∈ TT := tm1 141 _ rfl rfl
theorem lf_X5_22 : Cond.fieldLink RX5 22 "SumsForAll" "keptImages" "I" ∈ TT := tm1 142 _ rfl rfl
theorem lc_X5_26 : Cond.classLink RX5 26 RX1 ∈ TT := tm1 68 _ rfl rfl
theorem lk_X5_28 : KLIN RX5 28 yX1_init "SumsForAll" cX1_init 1 0 := ⟨List.mem_of_getElem? (i := 17) rfl, tm1 71 _ rfl rfl, tm1 5 _ rfl rfl, tm1 72 _ rfl rfl, rfl, ⟨by decide, by decide, by decide⟩⟩
theorem lf_X5_29 : Cond.fieldLink RX5 29 "SumsForAll" "letters" "LSumsForAll$Letters;" ∈ TT := tm1 143 _ rfl rfl
theorem lc_X5_33 : Cond.classLink RX5 33 RX0 ∈ TT := tm1 102 _ rfl rfl
theorem lk_X5_35 : KLIN RX5 35 yX0_init "SumsForAll" cX0_init 1 0 := ⟨List.mem_of_getElem? (i := 18) rfl, tm1 105 _ rfl rfl, tm1 6 _ rfl rfl, tm1 106 _ rfl rfl, rfl, ⟨by decide, by decide, by decide⟩⟩
theorem lf_X5_36 : Cond.fieldLink RX5 36 "SumsForAll" "busy" "LSumsForAll$Busy;" ∈ TT := tm1 144 _ rfl rfl
theorem lc_X5_40 : Cond.classLink RX5 40 RX2 ∈ TT := tm1 123 _ rfl rfl
theorem lk_X5_42 : KLIN RX5 42 yX2_init "SumsForAll" cX2_init 1 0 := ⟨List.mem_of_getElem? (i := 19) rfl, tm1 126 _ rfl rfl, tm1 7 _ rfl rfl, tm1 127 _ rfl rfl, rfl, ⟨by decide, by decide, by decide⟩⟩
theorem lf_X5_43 : Cond.fieldLink RX5 43 "SumsForAll" "usual" "LSumsForAll$Play;" ∈ TT := tm1 145 _ rfl rfl
theorem lf_X5_47 : Cond.fieldLink RX5 47 "SumsForAll" "another" "LSumsForAll$Play;" ∈ TT := tm1 146 _ rfl rfl
theorem lk_X5_50 : KLS RX5 50 yX5_isWithin cX5_isWithin 3 (some .boolean) 3 := ⟨tm1 168 _ rfl rfl, tm1 169 _ rfl rfl, tm1 1 _ rfl rfl, tm1 170 _ rfl rfl, ⟨by decide, by decide, by decide⟩⟩
theorem lf_X5_54 : Cond.fieldLinkNest RX5 54 "SumsForAll$Setting" "many" "I" "SumsForAll" ∈ nestT := List.mem_of_getElem? (i := 2) rfl
theorem lk_X5_57 : KLV RX5 57 RX4 yX4_begin cX4_begin 3 none 2 := ⟨tm1 171 _ rfl rfl, tm1 172 _ rfl rfl, tm1 173 _ rfl rfl, tm1 2 _ rfl rfl, tm1 174 _ rfl rfl, ⟨rfl, by decide, by decide, by decide⟩⟩
theorem lk_X5_61 : KLV RX5 61 RX4 yX4_hasMachine cX4_hasMachine 2 (some .boolean) 1 := ⟨tm1 184 _ rfl rfl, tm1 185 _ rfl rfl, tm1 186 _ rfl rfl, tm1 2 _ rfl rfl, tm1 187 _ rfl rfl, ⟨rfl, by decide, by decide, by decide⟩⟩
theorem lk_X5_65 : KLV RX5 65 RX4 yX4_hasPlace cX4_hasPlace 2 (some .boolean) 1 := ⟨tm1 189 _ rfl rfl, tm1 190 _ rfl rfl, tm1 191 _ rfl rfl, tm1 2 _ rfl rfl, tm1 192 _ rfl rfl, ⟨rfl, by decide, by decide, by decide⟩⟩
theorem lf_X5_68 : Cond.fieldLinkNest RX5 68 "SumsForAll$Setting" "rows" "LSumsForAll$Rows;" "SumsForAll" ∈ nestT := List.mem_of_getElem? (i := 1) rfl
theorem lk_X5_72 : KLV RX5 72 RX3 yX3_get cX3_get 3 (some .int) 2 := ⟨tm1 193 _ rfl rfl, tm1 194 _ rfl rfl, tm1 195 _ rfl rfl, tm1 3 _ rfl rfl, tm1 196 _ rfl rfl, ⟨rfl, by decide, by decide, by decide⟩⟩
theorem lk_X5_78 : KLV RX5 78 RX3 yX3_set cX3_set 4 none 3 := ⟨tm1 201 _ rfl rfl, tm1 202 _ rfl rfl, tm1 203 _ rfl rfl, tm1 3 _ rfl rfl, tm1 204 _ rfl rfl, ⟨rfl, by decide, by decide, by decide⟩⟩
theorem lk_X5_82 : KLV RX5 82 RX5 yX5_ruleNow cX5_ruleNow 2 (some .int) 1 := ⟨tm1 209 _ rfl rfl, tm1 211 _ rfl rfl, tm0 0 _ rfl rfl, tm1 1 _ rfl rfl, tm1 212 _ rfl rfl, ⟨rfl, by decide, by decide, by decide⟩⟩
theorem lf_X5_86 : Cond.fieldLinkNest RX5 86 "SumsForAll$Setting" "op" "I" "SumsForAll" ∈ nestT := List.mem_of_getElem? (i := 4) rfl
theorem lf_X5_89 : Cond.fieldLinkNest RX5 89 "SumsForAll$Setting" "start" "I" "SumsForAll" ∈ nestT := List.mem_of_getElem? (i := 5) rfl
theorem lf_X5_92 : Cond.fieldLinkNest RX5 92 "SumsForAll$Setting" "each" "I" "SumsForAll" ∈ nestT := List.mem_of_getElem? (i := 6) rfl
theorem lk_X5_95 : KLV RX5 95 RX4 yX4_slowness cX4_slowness 3 (some .int) 2 := ⟨tm1 217 _ rfl rfl, tm1 218 _ rfl rfl, tm1 219 _ rfl rfl, tm1 2 _ rfl rfl, tm1 220 _ rfl rfl, ⟨rfl, by decide, by decide, by decide⟩⟩
theorem lk_X5_98 : KLV RX5 98 RX4 yX4_setSlowness cX4_setSlowness 4 none 3 := ⟨tm1 224 _ rfl rfl, tm1 225 _ rfl rfl, tm1 226 _ rfl rfl, tm1 2 _ rfl rfl, tm1 227 _ rfl rfl, ⟨rfl, by decide, by decide, by decide⟩⟩
theorem lk_X5_101 : KLS RX5 101 yX5_isWay cX5_isWay 1 (some .boolean) 1 := ⟨tm1 236 _ rfl rfl, tm1 237 _ rfl rfl, tm1 1 _ rfl rfl, tm1 238 _ rfl rfl, ⟨by decide, by decide, by decide⟩⟩
theorem lk_X5_104 : KLV RX5 104 RX5 yX5_write cX5_write 2 none 1 := ⟨tm1 239 _ rfl rfl, tm2 1 _ rfl rfl, tm0 1 _ rfl rfl, tm1 1 _ rfl rfl, tm2 2 _ rfl rfl, ⟨rfl, by decide, by decide, by decide⟩⟩
theorem lk_X5_108 : KLV RX5 108 RX0 yX0_reckon cX0_reckon 7 none 2 := ⟨tm2 73 _ rfl rfl, tm2 74 _ rfl rfl, tm2 75 _ rfl rfl, tm1 6 _ rfl rfl, tm2 76 _ rfl rfl, ⟨rfl, by decide, by decide, by decide⟩⟩
theorem lf_X5_112 : Cond.fieldLinkNest RX5 112 "SumsForAll$Letters" "rounds" "I" "SumsForAll" ∈ nestT := List.mem_of_getElem? (i := 12) rfl
theorem lf_X5_115 : Cond.fieldLinkNest RX5 115 "SumsForAll$Letters" "written" "I" "SumsForAll" ∈ nestT := List.mem_of_getElem? (i := 9) rfl
theorem lk_X5_118 : KLV RX5 118 RX1 yX1_numbersInAll cX1_numbersInAll 3 (some .int) 0 := ⟨tm2 105 _ rfl rfl, tm2 106 _ rfl rfl, tm2 107 _ rfl rfl, tm1 5 _ rfl rfl, tm2 108 _ rfl rfl, ⟨rfl, by decide, by decide, by decide⟩⟩
theorem lf_X5_122 : Cond.fieldLinkNest RX5 122 "SumsForAll$Busy" "time" "I" "SumsForAll" ∈ nestT := List.mem_of_getElem? (i := 13) rfl
theorem lf_X5_125 : Cond.fieldLinkNest RX5 125 "SumsForAll$Busy" "longestRound" "I" "SumsForAll" ∈ nestT := List.mem_of_getElem? (i := 14) rfl
theorem lk_X5_128 : KLV RX5 128 RX0 yX0_busiestMachine cX0_busiestMachine 4 (some .int) 1 := ⟨tm2 110 _ rfl rfl, tm2 111 _ rfl rfl, tm2 112 _ rfl rfl, tm1 6 _ rfl rfl, tm2 113 _ rfl rfl, ⟨rfl, by decide, by decide, by decide⟩⟩
theorem lk_X5_131 : KLV RX5 131 RX1 yX1_has cX1_has 2 (some .boolean) 1 := ⟨tm2 118 _ rfl rfl, tm2 83 _ rfl rfl, tm2 84 _ rfl rfl, tm1 5 _ rfl rfl, tm2 85 _ rfl rfl, ⟨rfl, by decide, by decide, by decide⟩⟩
theorem lk_X5_134 : KLV RX5 134 RX4 yX4_priceOf cX4_priceOf 4 (some .int) 2 := ⟨tm2 119 _ rfl rfl, tm2 88 _ rfl rfl, tm2 89 _ rfl rfl, tm1 2 _ rfl rfl, tm2 90 _ rfl rfl, ⟨rfl, by decide, by decide, by decide⟩⟩
theorem lk_X5_138 : KLV RX5 138 RX1 yX1_told cX1_told 3 (some .int) 2 := ⟨tm2 120 _ rfl rfl, tm2 79 _ rfl rfl, tm2 80 _ rfl rfl, tm1 5 _ rfl rfl, tm2 81 _ rfl rfl, ⟨rfl, by decide, by decide, by decide⟩⟩
theorem lk_X5_141 : KLV RX5 141 RX2 yX2_run cX2_run 7 none 4 := ⟨tm2 125 _ rfl rfl, tm2 126 _ rfl rfl, tm2 127 _ rfl rfl, tm1 7 _ rfl rfl, tm2 128 _ rfl rfl, ⟨rfl, by decide, by decide, by decide⟩⟩
theorem lf_X5_145 : Cond.fieldLinkNest RX5 145 "SumsForAll$Play" "rows" "LSumsForAll$Rows;" "SumsForAll" ∈ nestT := List.mem_of_getElem? (i := 15) rfl
theorem lk_X5_146 : KLV RX5 146 RX5 yX5_playToTheEnd cX5_playToTheEnd 3 none 2 := ⟨tm2 155 _ rfl rfl, tm2 157 _ rfl rfl, tm0 19 _ rfl rfl, tm1 1 _ rfl rfl, tm2 158 _ rfl rfl, ⟨rfl, by decide, by decide, by decide⟩⟩
theorem lk_X5_150 : KLV RX5 150 RX5 yX5_allRowsAreOne cX5_allRowsAreOne 3 (some .boolean) 1 := ⟨tm2 159 _ rfl rfl, tm2 161 _ rfl rfl, tm0 20 _ rfl rfl, tm1 1 _ rfl rfl, tm2 162 _ rfl rfl, ⟨rfl, by decide, by decide, by decide⟩⟩
theorem lk_X5_154 : KLS RX5 154 yX5_asNumber cX5_asNumber 1 (some .int) 1 := ⟨tm2 168 _ rfl rfl, tm2 169 _ rfl rfl, tm1 1 _ rfl rfl, tm2 170 _ rfl rfl, ⟨by decide, by decide, by decide⟩⟩
theorem lk_X5_158 : KLV RX5 158 RX5 yX5_placesMixedByRising cX5_placesMixedByRising 4 (some .int) 1 := ⟨tm2 171 _ rfl rfl, tm2 173 _ rfl rfl, tm0 21 _ rfl rfl, tm1 1 _ rfl rfl, tm2 174 _ rfl rfl, ⟨rfl, by decide, by decide, by decide⟩⟩
theorem lf_X5_162 : Cond.fieldLinkNest RX5 162 "SumsForAll$Setting" "size" "I" "SumsForAll" ∈ nestT := List.mem_of_getElem? (i := 3) rfl
theorem lk_X5_165 : KLV RX5 165 RX3 yX3_differing cX3_differing 7 (some .int) 4 := ⟨tm2 163 _ rfl rfl, tm2 164 _ rfl rfl, tm2 165 _ rfl rfl, tm1 3 _ rfl rfl, tm2 166 _ rfl rfl, ⟨rfl, by decide, by decide, by decide⟩⟩
theorem lk_X5_169 : KLV RX5 169 RX5 yX5_timeIfSizeWere cX5_timeIfSizeWere 3 (some .int) 2 := ⟨tm2 189 _ rfl rfl, tm2 191 _ rfl rfl, tm0 22 _ rfl rfl, tm1 1 _ rfl rfl, tm2 192 _ rfl rfl, ⟨rfl, by decide, by decide, by decide⟩⟩
theorem lk_X5_172 : KLV RX5 172 RX5 yX5_machinesThatDiffer cX5_machinesThatDiffer 3 (some .int) 0 := ⟨tm2 201 _ rfl rfl, tm2 203 _ rfl rfl, tm0 23 _ rfl rfl, tm1 1 _ rfl rfl, tm2 204 _ rfl rfl, ⟨rfl, by decide, by decide, by decide⟩⟩
theorem lk_X5_175 : KLV RX5 175 RX5 yX5_numbersThatDiffer cX5_numbersThatDiffer 3 (some .int) 0 := ⟨tm2 205 _ rfl rfl, tm2 207 _ rfl rfl, tm0 24 _ rfl rfl, tm1 1 _ rfl rfl, tm2 208 _ rfl rfl, ⟨rfl, by decide, by decide, by decide⟩⟩
theorem lk_X5_178 : KLV RX5 178 RX1 yX1_brings cX1_brings 4 (some .boolean) 2 := ⟨tm2 217 _ rfl rfl, tm2 218 _ rfl rfl, tm2 219 _ rfl rfl, tm1 5 _ rfl rfl, tm2 220 _ rfl rfl, ⟨rfl, by decide, by decide, by decide⟩⟩
theorem lk_X5_182 : KLV RX5 182 RX5 yX5_imageOf cX5_imageOf 2 (some (.object "SumsForAll$Setting")) 1 := ⟨tm2 225 _ rfl rfl, tm2 227 _ rfl rfl, tm0 25 _ rfl rfl, tm1 1 _ rfl rfl, tm2 228 _ rfl rfl, ⟨rfl, by decide, by decide, by decide⟩⟩
theorem lk_X5_186 : KLV RX5 186 RX4 yX4_copyFrom cX4_copyFrom 2 none 1 := ⟨tm2 229 _ rfl rfl, tm2 230 _ rfl rfl, tm2 231 _ rfl rfl, tm1 2 _ rfl rfl, tm2 232 _ rfl rfl, ⟨rfl, by decide, by decide, by decide⟩⟩
theorem lk_X5_190 : KLV RX5 190 RX4 yX4_allNumbersAdded cX4_allNumbersAdded 4 (some .int) 0 := ⟨tm3 3 _ rfl rfl, tm3 4 _ rfl rfl, tm3 5 _ rfl rfl, tm1 2 _ rfl rfl, tm3 6 _ rfl rfl, ⟨rfl, by decide, by decide, by decide⟩⟩
theorem lk_X5_193 : KLV RX5 193 RX1 yX1_write cX1_write 4 none 3 := ⟨tm2 3 _ rfl rfl, tm2 4 _ rfl rfl, tm2 5 _ rfl rfl, tm1 5 _ rfl rfl, tm2 6 _ rfl rfl, ⟨rfl, by decide, by decide, by decide⟩⟩
theorem lk_X5_195 : KLV RX5 195 RX4 yX4_mixedByRising cX4_mixedByRising 4 (some .int) 1 := ⟨tm2 175 _ rfl rfl, tm2 176 _ rfl rfl, tm2 177 _ rfl rfl, tm1 2 _ rfl rfl, tm2 178 _ rfl rfl, ⟨rfl, by decide, by decide, by decide⟩⟩
theorem lo_X6_1 : Cond.methodLink RX6 1 objectInit ∈ TT := tm3 12 _ rfl rfl
theorem lf_X6_7 : Cond.fieldLink RX6 7 "SumsForAllModel" "state" "[I" ∈ TT := tm3 17 _ rfl rfl
theorem lf_X6_13 : Cond.fieldLink RX6 13 "SumsForAllModel" "images" "[I" ∈ TT := tm3 18 _ rfl rfl
theorem lf_X6_16 : Cond.fieldLink RX6 16 "SumsForAllModel" "isKept" "[Z" ∈ TT := tm3 19 _ rfl rfl
theorem lf_X6_20 : Cond.fieldLink RX6 20 "SumsForAllModel" "round" "[I" ∈ TT := tm3 20 _ rfl rfl
theorem lf_X6_23 : Cond.fieldLink RX6 23 "SumsForAllModel" "from" "[I" ∈ TT := tm3 21 _ rfl rfl
theorem lf_X6_26 : Cond.fieldLink RX6 26 "SumsForAllModel" "to" "[I" ∈ TT := tm3 22 _ rfl rfl
theorem lf_X6_29 : Cond.fieldLink RX6 29 "SumsForAllModel" "first" "[I" ∈ TT := tm3 23 _ rfl rfl
theorem lf_X6_32 : Cond.fieldLink RX6 32 "SumsForAllModel" "much" "[I" ∈ TT := tm3 24 _ rfl rfl
theorem lf_X6_35 : Cond.fieldLink RX6 35 "SumsForAllModel" "kind" "[I" ∈ TT := tm3 25 _ rfl rfl
theorem lf_X6_38 : Cond.fieldLink RX6 38 "SumsForAllModel" "low" "[I" ∈ TT := tm3 28 _ rfl rfl
theorem lf_X6_41 : Cond.fieldLink RX6 41 "SumsForAllModel" "span" "[I" ∈ TT := tm3 29 _ rfl rfl
theorem lf_X6_44 : Cond.fieldLink RX6 44 "SumsForAllModel" "nextLow" "[I" ∈ TT := tm3 30 _ rfl rfl
theorem lf_X6_47 : Cond.fieldLink RX6 47 "SumsForAllModel" "nextSpan" "[I" ∈ TT := tm3 31 _ rfl rfl
theorem lf_X6_50 : Cond.fieldLink RX6 50 "SumsForAllModel" "now" "[I" ∈ TT := tm3 32 _ rfl rfl
theorem lf_X6_53 : Cond.fieldLink RX6 53 "SumsForAllModel" "begun" "[I" ∈ TT := tm3 33 _ rfl rfl
theorem lf_X6_56 : Cond.fieldLink RX6 56 "SumsForAllModel" "busy" "[I" ∈ TT := tm3 34 _ rfl rfl
theorem lf_X6_59 : Cond.fieldLink RX6 59 "SumsForAllModel" "busyAll" "[I" ∈ TT := tm3 35 _ rfl rfl
theorem lf_X6_62 : Cond.fieldLink RX6 62 "SumsForAllModel" "ended" "[I" ∈ TT := tm3 39 _ rfl rfl
theorem lk_X6_65 : KLV RX6 65 RX6 yX6_begin cX6_begin 4 none 2 := ⟨tm3 13 _ rfl rfl, tm3 15 _ rfl rfl, tm0 26 _ rfl rfl, tm1 8 _ rfl rfl, tm3 16 _ rfl rfl, ⟨rfl, by decide, by decide, by decide⟩⟩
theorem lk_X6_69 : KLS RX6 69 yX6_in cX6_in 3 (some .boolean) 3 := ⟨tm3 92 _ rfl rfl, tm3 93 _ rfl rfl, tm1 8 _ rfl rfl, tm3 94 _ rfl rfl, ⟨by decide, by decide, by decide⟩⟩
theorem lk_X6_73 : KLV RX6 73 RX6 yX6_isMachine cX6_isMachine 2 (some .boolean) 1 := ⟨tm3 99 _ rfl rfl, tm3 101 _ rfl rfl, tm0 27 _ rfl rfl, tm1 8 _ rfl rfl, tm3 102 _ rfl rfl, ⟨rfl, by decide, by decide, by decide⟩⟩
theorem lk_X6_77 : KLV RX6 77 RX6 yX6_isPlace cX6_isPlace 2 (some .boolean) 1 := ⟨tm3 103 _ rfl rfl, tm3 105 _ rfl rfl, tm0 28 _ rfl rfl, tm1 8 _ rfl rfl, tm3 106 _ rfl rfl, ⟨rfl, by decide, by decide, by decide⟩⟩
theorem lk_X6_80 : KLS RX6 80 yX6_cell cX6_cell 2 (some .int) 2 := ⟨tm3 107 _ rfl rfl, tm3 108 _ rfl rfl, tm1 8 _ rfl rfl, tm3 109 _ rfl rfl, ⟨by decide, by decide, by decide⟩⟩
theorem lf_X6_84 : Cond.fieldLink RX6 84 "SumsForAllModel" "letters" "I" ∈ TT := tm3 26 _ rfl rfl
theorem lf_X6_88 : Cond.fieldLink RX6 88 "SumsForAllModel" "rounds" "I" ∈ TT := tm3 27 _ rfl rfl
theorem lk_X6_91 : KLV RX6 91 RX6 yX6_send cX6_send 6 none 5 := ⟨tm3 141 _ rfl rfl, tm3 143 _ rfl rfl, tm0 32 _ rfl rfl, tm1 8 _ rfl rfl, tm3 144 _ rfl rfl, ⟨rfl, by decide, by decide, by decide⟩⟩
theorem lk_X6_95 : KLV RX6 95 RX6 yX6_sendPart cX6_sendPart 8 none 4 := ⟨tm3 137 _ rfl rfl, tm3 139 _ rfl rfl, tm0 31 _ rfl rfl, tm1 8 _ rfl rfl, tm3 140 _ rfl rfl, ⟨rfl, by decide, by decide, by decide⟩⟩
theorem lk_X6_99 : KLV RX6 99 RX6 yX6_takeNext cX6_takeNext 3 none 1 := ⟨tm3 153 _ rfl rfl, tm3 155 _ rfl rfl, tm0 35 _ rfl rfl, tm1 8 _ rfl rfl, tm3 156 _ rfl rfl, ⟨rfl, by decide, by decide, by decide⟩⟩
theorem lk_X6_103 : KLV RX6 103 RX6 yX6_halve cX6_halve 6 none 2 := ⟨tm3 149 _ rfl rfl, tm3 151 _ rfl rfl, tm0 34 _ rfl rfl, tm1 8 _ rfl rfl, tm3 152 _ rfl rfl, ⟨rfl, by decide, by decide, by decide⟩⟩
theorem lk_X6_106 : KLV RX6 106 RX6 yX6_doubleUp cX6_doubleUp 4 none 2 := ⟨tm3 157 _ rfl rfl, tm3 159 _ rfl rfl, tm0 36 _ rfl rfl, tm1 8 _ rfl rfl, tm3 160 _ rfl rfl, ⟨rfl, by decide, by decide, by decide⟩⟩
theorem lk_X6_109 : KLS RX6 109 yX6_levelOf cX6_levelOf 3 (some .int) 1 := ⟨tm3 165 _ rfl rfl, tm3 166 _ rfl rfl, tm1 8 _ rfl rfl, tm3 167 _ rfl rfl, ⟨by decide, by decide, by decide⟩⟩
theorem lk_X6_113 : KLV RX6 113 RX6 yX6_layRing cX6_layRing 5 none 1 := ⟨tm3 133 _ rfl rfl, tm3 135 _ rfl rfl, tm0 30 _ rfl rfl, tm1 8 _ rfl rfl, tm3 136 _ rfl rfl, ⟨rfl, by decide, by decide, by decide⟩⟩
theorem lk_X6_116 : KLV RX6 116 RX6 yX6_layHalves cX6_layHalves 5 none 1 := ⟨tm3 145 _ rfl rfl, tm3 147 _ rfl rfl, tm0 33 _ rfl rfl, tm1 8 _ rfl rfl, tm3 148 _ rfl rfl, ⟨rfl, by decide, by decide, by decide⟩⟩
theorem lk_X6_119 : KLV RX6 119 RX6 yX6_layTree cX6_layTree 6 none 1 := ⟨tm3 161 _ rfl rfl, tm3 163 _ rfl rfl, tm0 37 _ rfl rfl, tm1 8 _ rfl rfl, tm3 164 _ rfl rfl, ⟨rfl, by decide, by decide, by decide⟩⟩
theorem lk_X6_122 : KLV RX6 122 RX6 yX6_layEach cX6_layEach 3 none 1 := ⟨tm3 168 _ rfl rfl, tm3 170 _ rfl rfl, tm0 38 _ rfl rfl, tm1 8 _ rfl rfl, tm3 171 _ rfl rfl, ⟨rfl, by decide, by decide, by decide⟩⟩
theorem lk_X6_125 : KLV RX6 125 RX6 yX6_mixed cX6_mixed 3 (some .int) 2 := ⟨tm3 212 _ rfl rfl, tm3 214 _ rfl rfl, tm0 47 _ rfl rfl, tm1 8 _ rfl rfl, tm3 215 _ rfl rfl, ⟨rfl, by decide, by decide, by decide⟩⟩
theorem lk_X6_128 : KLV RX6 128 RX6 yX6_beginRound cX6_beginRound 2 none 0 := ⟨tm3 204 _ rfl rfl, tm3 206 _ rfl rfl, tm0 45 _ rfl rfl, tm1 8 _ rfl rfl, tm3 207 _ rfl rfl, ⟨rfl, by decide, by decide, by decide⟩⟩
theorem lk_X6_131 : KLV RX6 131 RX6 yX6_come cX6_come 5 none 1 := ⟨tm3 208 _ rfl rfl, tm3 210 _ rfl rfl, tm0 46 _ rfl rfl, tm1 8 _ rfl rfl, tm3 211 _ rfl rfl, ⟨rfl, by decide, by decide, by decide⟩⟩
theorem lf_X6_134 : Cond.fieldLink RX6 134 "SumsForAllModel" "longest" "I" ∈ TT := tm3 38 _ rfl rfl
theorem lf_X6_137 : Cond.fieldLink RX6 137 "SumsForAllModel" "longestRound" "I" ∈ TT := tm3 37 _ rfl rfl
theorem lf_X6_140 : Cond.fieldLink RX6 140 "SumsForAllModel" "time" "I" ∈ TT := tm3 36 _ rfl rfl
theorem lk_X6_143 : KLV RX6 143 RX6 yX6_priceOf cX6_priceOf 2 (some .int) 1 := ⟨tm3 176 _ rfl rfl, tm3 178 _ rfl rfl, tm0 40 _ rfl rfl, tm1 8 _ rfl rfl, tm3 179 _ rfl rfl, ⟨rfl, by decide, by decide, by decide⟩⟩
theorem lk_X6_146 : KLV RX6 146 RX6 yX6_endRound cX6_endRound 4 none 1 := ⟨tm3 180 _ rfl rfl, tm3 182 _ rfl rfl, tm0 41 _ rfl rfl, tm1 8 _ rfl rfl, tm3 183 _ rfl rfl, ⟨rfl, by decide, by decide, by decide⟩⟩
theorem lk_X6_149 : KLS RX6 149 yX6_isWay cX6_isWay 1 (some .boolean) 1 := ⟨tm3 126 _ rfl rfl, tm3 127 _ rfl rfl, tm1 8 _ rfl rfl, tm3 128 _ rfl rfl, ⟨by decide, by decide, by decide⟩⟩
theorem lk_X6_152 : KLV RX6 152 RX6 yX6_lay cX6_lay 3 none 2 := ⟨tm3 129 _ rfl rfl, tm3 131 _ rfl rfl, tm0 29 _ rfl rfl, tm1 8 _ rfl rfl, tm3 132 _ rfl rfl, ⟨rfl, by decide, by decide, by decide⟩⟩
theorem lk_X6_155 : KLV RX6 155 RX6 yX6_clock cX6_clock 2 none 0 := ⟨tm3 172 _ rfl rfl, tm3 174 _ rfl rfl, tm0 39 _ rfl rfl, tm1 8 _ rfl rfl, tm3 175 _ rfl rfl, ⟨rfl, by decide, by decide, by decide⟩⟩
theorem lk_X6_158 : KLV RX6 158 RX6 yX6_numbers cX6_numbers 3 (some .int) 0 := ⟨tm3 184 _ rfl rfl, tm3 186 _ rfl rfl, tm0 42 _ rfl rfl, tm1 8 _ rfl rfl, tm3 187 _ rfl rfl, ⟨rfl, by decide, by decide, by decide⟩⟩
theorem lk_X6_162 : KLV RX6 162 RX6 yX6_busiest cX6_busiest 3 (some .int) 0 := ⟨tm3 188 _ rfl rfl, tm3 190 _ rfl rfl, tm0 43 _ rfl rfl, tm1 8 _ rfl rfl, tm3 191 _ rfl rfl, ⟨rfl, by decide, by decide, by decide⟩⟩
theorem lk_X6_165 : KLV RX6 165 RX6 yX6_go cX6_go 4 none 2 := ⟨tm3 200 _ rfl rfl, tm3 202 _ rfl rfl, tm0 44 _ rfl rfl, tm1 8 _ rfl rfl, tm3 203 _ rfl rfl, ⟨rfl, by decide, by decide, by decide⟩⟩
theorem lk_X6_168 : KLV RX6 168 RX6 yX6_goAll cX6_goAll 3 none 2 := ⟨tm3 220 _ rfl rfl, tm3 222 _ rfl rfl, tm0 48 _ rfl rfl, tm1 8 _ rfl rfl, tm3 223 _ rfl rfl, ⟨rfl, by decide, by decide, by decide⟩⟩
theorem lk_X6_171 : KLV RX6 171 RX6 yX6_allMixed cX6_allMixed 4 (some .int) 1 := ⟨tm3 224 _ rfl rfl, tm3 226 _ rfl rfl, tm0 49 _ rfl rfl, tm1 8 _ rfl rfl, tm3 227 _ rfl rfl, ⟨rfl, by decide, by decide, by decide⟩⟩
theorem lk_X6_174 : KLV RX6 174 RX6 yX6_keepEnd cX6_keepEnd 2 none 0 := ⟨tm3 232 _ rfl rfl, tm3 234 _ rfl rfl, tm0 50 _ rfl rfl, tm1 8 _ rfl rfl, tm3 235 _ rfl rfl, ⟨rfl, by decide, by decide, by decide⟩⟩
theorem lk_X6_177 : KLV RX6 177 RX6 yX6_timeBy cX6_timeBy 3 (some .int) 2 := ⟨tm4 0 _ rfl rfl, tm4 2 _ rfl rfl, tm0 51 _ rfl rfl, tm1 8 _ rfl rfl, tm4 3 _ rfl rfl, ⟨rfl, by decide, by decide, by decide⟩⟩
theorem lk_X6_180 : KLV RX6 180 RX6 yX6_otherNumbers cX6_otherNumbers 4 (some .int) 1 := ⟨tm4 16 _ rfl rfl, tm4 18 _ rfl rfl, tm0 53 _ rfl rfl, tm1 8 _ rfl rfl, tm4 19 _ rfl rfl, ⟨rfl, by decide, by decide, by decide⟩⟩
theorem lk_X6_183 : KLV RX6 183 RX6 yX6_harmed cX6_harmed 3 (some .int) 0 := ⟨tm4 12 _ rfl rfl, tm4 14 _ rfl rfl, tm0 52 _ rfl rfl, tm1 8 _ rfl rfl, tm4 15 _ rfl rfl, ⟨rfl, by decide, by decide, by decide⟩⟩
theorem lk_X6_186 : KLV RX6 186 RX6 yX6_harm cX6_harm 3 (some .int) 0 := ⟨tm4 20 _ rfl rfl, tm4 22 _ rfl rfl, tm0 54 _ rfl rfl, tm1 8 _ rfl rfl, tm4 23 _ rfl rfl, ⟨rfl, by decide, by decide, by decide⟩⟩
theorem lk_X6_189 : KLV RX6 189 RX6 yX6_allNumbers cX6_allNumbers 3 (some .int) 0 := ⟨tm4 44 _ rfl rfl, tm4 46 _ rfl rfl, tm0 55 _ rfl rfl, tm1 8 _ rfl rfl, tm4 47 _ rfl rfl, ⟨rfl, by decide, by decide, by decide⟩⟩
theorem w_objI : Cond.instanceMethod objectInit ∈ TT := tm1 17 _ rfl rfl
theorem w_objC : Cond.code objectInit ⟨#[0xb1]⟩ 1 none ∈ TT := tm1 18 _ rfl rfl
theorem w_maxS : Cond.static Lib.Math.max.name ∈ TT := tm2 103 _ rfl rfl
theorem w_maxC : Cond.code Lib.Math.max.name Lib.Math.max.code 2 (some .int) ∈ TT := tm2 104 _ rfl rfl
theorem w_minS : Cond.static Lib.Math.min.name ∈ TT := tm2 8 _ rfl rfl
theorem w_minC : Cond.code Lib.Math.min.name Lib.Math.min.code 2 (some .int) ∈ TT := tm2 9 _ rfl rfl
theorem w_mathI : Cond.initialized "java/lang/Math" ∈ TT := tm1 9 _ rfl rfl
theorem w_sysI : Cond.initialized "java/lang/System" ∈ TT := tm1 10 _ rfl rfl
theorem w_acN : Cond.native arraycopyName ∈ TT := tm2 135 _ rfl rfl
theorem w_acS : Cond.static arraycopyName ∈ TT := tm2 134 _ rfl rfl
theorem w_ini_X5 : Cond.initialized RX5 ∈ TT := tm1 1 _ rfl rfl
theorem w_ini_X4 : Cond.initialized RX4 ∈ TT := tm1 2 _ rfl rfl
theorem w_ini_X3 : Cond.initialized RX3 ∈ TT := tm1 3 _ rfl rfl
theorem w_ini_X1 : Cond.initialized RX1 ∈ TT := tm1 5 _ rfl rfl
theorem w_ini_X0 : Cond.initialized RX0 ∈ TT := tm1 6 _ rfl rfl
theorem w_ini_X2 : Cond.initialized RX2 ∈ TT := tm1 7 _ rfl rfl
theorem w_ini_X6 : Cond.initialized RX6 ∈ TT := tm1 8 _ rfl rfl
theorem w_inst_X5 : Cond.instantiable RX5 8 ∈ TT := tm1 12 _ rfl rfl
theorem w_inst_X4 : Cond.instantiable RX4 7 ∈ TT := tm1 20 _ rfl rfl
theorem w_inst_X3 : Cond.instantiable RX3 1 ∈ TT := tm1 26 _ rfl rfl
theorem w_arrI : Cond.arrayClass .int ∈ TT := tm1 35 _ rfl rfl
theorem w_inst_X1 : Cond.instantiable RX1 7 ∈ TT := tm1 69 _ rfl rfl
theorem w_inst_X0 : Cond.instantiable RX0 4 ∈ TT := tm1 103 _ rfl rfl
theorem w_inst_X2 : Cond.instantiable RX2 2 ∈ TT := tm1 124 _ rfl rfl
theorem w_inst_X6 : Cond.instantiable RX6 23 ∈ TT := tm3 8 _ rfl rfl
theorem w_arrZ : Cond.arrayClass .boolean ∈ TT := tm3 87 _ rfl rfl
end
section
/-! ===== pure words of the class and the reference ===== -/
def inB (v lo hi : Int32) : Bool := decide (lo ≤ v) && decide (v ≤ hi)
theorem inB_t {v lo hi : Int32} (h1 : ¬ v < lo) (h2 : ¬ hi < v) : nI 1 = b2i (inB v lo hi) := by
  have e1 : lo ≤ v := Int32.not_lt.mp h1
  have e2 : v ≤ hi := Int32.not_lt.mp h2
  simp [inB, e1, e2, b2i]; rfl
theorem inB_f1 {v lo hi : Int32} (h1 : v < lo) : nI 0 = b2i (inB v lo hi) := by
  have e1 : ¬ lo ≤ v := Int32.not_le.mpr h1
  simp [inB, e1, b2i]; rfl
theorem inB_f2 {v lo hi : Int32} (h1 : hi < v) : nI 0 = b2i (inB v lo hi) := by
  have e1 : ¬ v ≤ hi := Int32.not_le.mpr h1
  simp [inB, e1, b2i]; rfl
theorem inB_tt {a b c : Nat} (h1 : b ≤ a) (h2 : a ≤ c) (h3 : c < 2 ^ 31) : inB (nI a) (nI b) (nI c) = true := by
  simp [inB, nI_le h1 (by omega), nI_le h2 h3]
theorem inB_of {v : Int32} {c : Nat} (h3 : c < 2 ^ 31) (h : inB v (nI 0) (nI c) = true) : ∃ a : Nat, a ≤ c ∧ v = nI a := by
  simp only [inB, Bool.and_eq_true, decide_eq_true_eq] at h
  have h0 : ¬ v < 0 := Int32.not_lt.mpr (by have := h.1; rw [nI_0] at this; exact this)
  exact nI_of2 (n := c) (nI_toInt h3) h0 h.2
def hasB (k : Int32) (w : Nat) : Bool := decide (0 ≤ k) && decide (k < nI w)
theorem hasB_N {k w : Nat} (hk : k < w) (hw : w < 2 ^ 31) : hasB (nI k) w = true := by
  simp [hasB, nI_pos' (Nat.lt_trans hk hw), nI_lt hk hw]
theorem hasB_of {v : Int32} {w : Nat} (hw : w < 2 ^ 31) (h : hasB v w = true) : ∃ k : Nat, k < w ∧ v = nI k := by
  simp only [hasB, Bool.and_eq_true, decide_eq_true_eq] at h
  obtain ⟨j, hj, rfl⟩ := nI_of (Int32.not_lt.mpr h.1)
  exact ⟨j, (nI_ltI hj hw).mp h.2, rfl⟩
theorem hasB_in {v : Int32} {w : Nat} (h1 : 1 ≤ w) (hw : w < 2 ^ 31) : hasB v w = inB v (nI 0) (nI (w - 1)) := by
  rw [Bool.eq_iff_iff]
  simp only [hasB, inB, Bool.and_eq_true, decide_eq_true_eq, nI_0]
  constructor
  · rintro ⟨a, b⟩
    obtain ⟨j, hj, rfl⟩ := nI_of (Int32.not_lt.mpr a)
    have := (nI_ltI hj hw).mp b
    exact ⟨a, nI_le (by omega) (by omega)⟩
  · rintro ⟨a, b⟩
    obtain ⟨j, hj, rfl⟩ := nI_of (Int32.not_lt.mpr a)
    have := (nI_leI hj (by omega)).mp b
    exact ⟨a, nI_lt (by omega) hw⟩
/-- a with b mixed -/
def mix (op a b : Int32) : Int32 := if op = 0 then (a + b) - (a + b) / nI 997 * nI 997 else if op = nI 1 then (if a < b then b else a) else (nI 31 * a + b) - (nI 31 * a + b) / nI 997 * nI 997
/-- how many of the first k places differ -/
def dfc (f g : Nat → Int32) (a b : Nat) : Nat → Nat
  | 0 => 0
  | k + 1 => dfc f g a b k + if f (12 * a + k) = g (12 * b + k) then 0 else 1
theorem dfc_le (f g : Nat → Int32) (a b : Nat) : ∀ k, dfc f g a b k ≤ k
  | 0 => Nat.le_refl _
  | k + 1 => by
    have := dfc_le f g a b k
    unfold dfc
    split <;> omega
/-- all numbers at a place, mixed by rising machines -/
def mbr (op : Int32) (f : Nat → Int32) (p : Nat) : Nat → Int32
  | 0 => f p
  | k + 1 => mix op (mbr op f p k) (f (12 * (k + 1) + p))
/-- letters: rows of six numbers -/
def lt (L : List (List Nat)) (k w : Nat) : Nat := (L.getD k []).getD w 0
def LTc (tb : Nat → Int32) (L : List (List Nat)) : Prop := ∀ k, k < L.length → ∀ w, w < 6 → tb (6 * k + w) = nI (lt L k w)
def prc (st ea : Int32) (g : Nat → Int32) (L : List (List Nat)) (k : Nat) : Int32 := (st + ea * nI (lt L k 4)) * g (9 * lt L k 1 + lt L k 2)
/-- letters that fit n machines and z places, R rounds, in order -/
def WFL (L : List (List Nat)) (R n z : Nat) : Prop := L.length ≤ 144 ∧ ∀ k, k < L.length → lt L k 0 < R ∧ lt L k 1 < n ∧ lt L k 2 < n ∧ lt L k 3 + lt L k 4 ≤ z ∧ lt L k 5 ≤ 2
def sr (f : Nat → Int32) (m : Nat) (s : Int32) : Nat → Int32
  | 0 => s
  | k + 1 => sr f m s k + f (12 * m + k)
def sa (f : Nat → Int32) (z : Nat) : Nat → Int32
  | 0 => nI 0
  | m + 1 => sr f m (sa f z m) z
def sl (L : List (List Nat)) : Nat → Nat
  | 0 => 0
  | k + 1 => sl L k + lt L k 4
theorem hasB_1 {k : Int32} {w : Nat} (h1 : ¬ k < 0) (h2 : ¬ nI w ≤ k) : nI 1 = b2i (hasB k w) := by
  have e1 : 0 ≤ k := Int32.not_lt.mp h1
  have e2 : k < nI w := Int32.not_le.mp h2
  simp [hasB, e1, e2, b2i]; rfl
theorem hasB_2 {k : Int32} {w : Nat} (h1 : k < 0) : nI 0 = b2i (hasB k w) := by
  have e1 : ¬ 0 ≤ k := Int32.not_le.mpr h1
  simp [hasB, e1, b2i]; rfl
theorem hasB_3 {k : Int32} {w : Nat} (h2 : nI w ≤ k) : nI 0 = b2i (hasB k w) := by
  have e2 : ¬ k < nI w := Int32.not_lt.mpr h2
  simp [hasB, e2, b2i]; rfl
def brB (L : List (List Nat)) (k q : Nat) : Bool := decide (lt L k 3 ≤ q) && decide (q < lt L k 3 + lt L k 4)
theorem ar1' : ∀ n, n < 10 → ∀ a, a < 10 → ∀ b, b < 10 → (a ≤ n ∧ b < n ∧ ¬ 0 ≤ nI a - nI b) → nI a - nI b + nI n = nI ((a + n - b) % n) := by decide +kernel
theorem ar2' : ∀ n, n < 10 → ∀ a, a < 10 → ∀ b, b < 10 → (a ≤ n ∧ b < n ∧ 0 ≤ nI a - nI b ∧ ¬ nI a - nI b < nI n) → nI a - nI b - nI n = nI ((a + n - b) % n) := by decide +kernel
theorem ar3' : ∀ n, n < 10 → ∀ a, a < 10 → ∀ b, b < 10 → (a ≤ n ∧ b < n ∧ 0 ≤ nI a - nI b ∧ nI a - nI b < nI n) → nI a - nI b = nI ((a + n - b) % n) := by decide +kernel
theorem ar1 (n : Nat) (hn : n < 10) (a : Nat) (ha : a < 10) (b : Nat) (hb : b < 10) (h1 : a ≤ n) (h2 : b < n) (h3 : ¬ 0 ≤ nI a - nI b) : nI a - nI b + nI n = nI ((a + n - b) % n) := ar1' n hn a ha b hb ⟨h1, h2, h3⟩
theorem ar2 (n : Nat) (hn : n < 10) (a : Nat) (ha : a < 10) (b : Nat) (hb : b < 10) (h1 : a ≤ n) (h2 : b < n) (h3 : 0 ≤ nI a - nI b) (h4 : ¬ nI a - nI b < nI n) : nI a - nI b - nI n = nI ((a + n - b) % n) := ar2' n hn a ha b hb ⟨h1, h2, h3, h4⟩
theorem ar3 (n : Nat) (hn : n < 10) (a : Nat) (ha : a < 10) (b : Nat) (hb : b < 10) (h1 : a ≤ n) (h2 : b < n) (h3 : 0 ≤ nI a - nI b) (h4 : nI a - nI b < nI n) : nI a - nI b = nI ((a + n - b) % n) := ar3' n hn a ha b hb ⟨h1, h2, h3, h4⟩
def gp2 (n : Nat) : Nat := if 8 ≤ n then 8 else if 4 ≤ n then 4 else 2
def dpl (n : Nat) : Nat := if 7 < n then 3 else if 3 < n then 2 else if 1 < n then 1 else 0
theorem fol : ∀ v, v < 6 → (nI 1 <<< (nI v &&& 31)) - nI 1 = nI (2 ^ v - 1) := by decide +kernel
def bus (g : Nat → Int32) : Nat → Nat
  | 0 => 0
  | k + 1 => if g (k + 1) ≤ g (bus g k) then bus g k else k + 1
theorem bus_le (g : Nat → Int32) : ∀ k, bus g k ≤ k
  | 0 => Nat.le_refl _
  | k + 1 => by
    have := bus_le g k
    unfold bus
    split <;> omega
def lng (r : Nat → Int32) : Nat → Int32
  | 0 => nI 0
  | k + 1 => if lng r k < r k then r k else lng r k
def rcv (op : Int32) (kd : Nat) (h c : Int32) : Int32 := if kd = 0 then mix op h c else if kd = 1 then mix op c h else c
def aro (f : Nat → Int32) (z : Nat) : Nat → Bool
  | 0 => true
  | k + 1 => aro f z k && decide (dfc f f (k + 1) 0 z = 0)
theorem aro_mono (f : Nat → Int32) (z k : Nat) (h : aro f z k = false) : ∀ j, aro f z (k + j) = false
  | 0 => h
  | j + 1 => by
    have := aro_mono f z k h j
    show (aro f z (k + j) && _) = false
    rw [this]; rfl
theorem aro_no {f : Nat → Int32} {z k n : Nat} (h : 0 < dfc f f (k + 1) 0 z) (hk : k + 1 ≤ n) : nI 0 = b2i (aro f z n) := by
  have e : aro f z (k + 1) = false := by
    have : ¬ dfc f f (k + 1) 0 z = 0 := by omega
    simp [aro, this]
  have e2 := aro_mono f z (k + 1) e (n - (k + 1))
  rw [show k + 1 + (n - (k + 1)) = n by omega] at e2
  rw [e2]; rfl
def pmr (op : Int32) (f g : Nat → Int32) (n : Nat) : Nat → Nat
  | 0 => 0
  | k + 1 => pmr op f g n k + if g (12 * 0 + k) = mbr op f k (n - 1) then 1 else 0
def mtd (f g : Nat → Int32) (z : Nat) : Nat → Int32
  | 0 => nI 0
  | k + 1 => if 0 < dfc f g k k z then mtd f g z k ||| (nI 1 <<< (nI k &&& 31)) else mtd f g z k
def ntd (f g : Nat → Int32) (z : Nat) : Nat → Nat
  | 0 => 0
  | k + 1 => ntd f g z k + dfc f g k k z
theorem ntd_le (f g : Nat → Int32) (z : Nat) : ∀ n, ntd f g z n ≤ n * z
  | 0 => Nat.zero_le _
  | n + 1 => by
    have h1 := ntd_le f g z n
    have h2 := dfc_le f g n n z
    unfold ntd
    rw [Nat.succ_mul]
    omega
end
section
set_option maxHeartbeats 4000000 in
set_option maxRecDepth 100000 in
theorem c_X5_isWithin (l : Launch) (G : va_G) (cI cZ : ClassId) (v : Int32) (lo : Int32) (hi : Int32) : CR l G cI cZ yX5_isWithin cX5_isWithin 3 .boolean 0 0 [.int v, .int lo, .int hi] [] (b2i (inB v lo hi)) := by
  refine CR.of (own := RX5) (by decide) rfl (b2i_nar _) (Nat.le_of_ble_eq_true rfl) ?_
  intro p e R s m args below meth c H Q X hR fin hP ls hl
  subst hR
  have hx := X.1
  have hb := X.2.1
  have hl : lv_has ls 3 [(0, .int v), (1, .int lo), (2, .int hi)] := hl
  refine lv_iload_n hx hb dX5_isWithin_0 rfl (lv_at hl 0 rfl) ?_
  refine lv_iload_n hx hb dX5_isWithin_1 rfl (lv_at hl 1 rfl) ?_
  refine lv_icmp_lt (tgt := 14) hx hb dX5_isWithin_2 (by decide) (fun c_2 => ?_) (fun c_2 => ?_)
  · refine lv_iconst (v := nI 0) hx hb dX5_isWithin_14 (by decide) ?_
    exact st_eq (show (nI 0 : Int32) = b2i (inB v lo hi) from by first | exact inB_t c_2 c_7 | exact inB_f1 c_2 | exact inB_f2 c_7) (fin _ _ dX5_isWithin_15)
  · refine lv_iload_n hx hb dX5_isWithin_5 rfl (lv_at hl 0 rfl) ?_
    refine lv_iload_n hx hb dX5_isWithin_6 rfl (lv_at hl 2 rfl) ?_
    refine lv_icmp_gt (tgt := 14) hx hb dX5_isWithin_7 (by decide) (fun c_7 => ?_) (fun c_7 => ?_)
    · refine lv_iconst (v := nI 0) hx hb dX5_isWithin_14 (by decide) ?_
      exact st_eq (show (nI 0 : Int32) = b2i (inB v lo hi) from by first | exact inB_t c_2 c_7 | exact inB_f1 c_2 | exact inB_f2 c_7) (fin _ _ dX5_isWithin_15)
    · refine lv_iconst (v := nI 1) hx hb dX5_isWithin_10 (by decide) ?_
      refine lv_goto (tgt := 15) hx hb dX5_isWithin_11 (by decide) ?_
      exact st_eq (show (nI 1 : Int32) = b2i (inB v lo hi) from by first | exact inB_t c_2 c_7 | exact inB_f1 c_2 | exact inB_f2 c_7) (fin _ _ dX5_isWithin_15)

set_option maxHeartbeats 4000000 in
set_option maxRecDepth 100000 in
theorem c_X5_isWay (l : Launch) (G : va_G) (cI cZ : ClassId) (v : Int32) : CR l G cI cZ yX5_isWay cX5_isWay 1 .boolean 1 22 [.int v] [] (b2i (inB v (nI 0) (nI 3))) := by
  refine CR.of (own := RX5) (by decide) rfl (b2i_nar _) (Nat.le_of_ble_eq_true rfl) ?_
  intro p e R s m args below meth c H Q X hR fin hP ls hl
  subst hR
  have hx := X.1
  have hb := X.2.1
  have hl : lv_has ls 1 [(0, .int v)] := hl
  refine lv_iload_n hx hb dX5_isWay_0 rfl (lv_at hl 0 rfl) ?_
  refine lv_iconst (v := nI 0) hx hb dX5_isWay_1 (by decide) ?_
  refine lv_iconst (v := nI 3) hx hb dX5_isWay_2 (by decide) ?_
  refine cR_S (As := [.int v, .int (nI 0), .int (nI 3)]) (rest := []) X (c_X5_isWithin l G cI cZ v (nI 0) (nI 3) ) lk_X5_50 (hP.sub (ws' := []) [] rfl) hl.1 rfl rfl (Nat.le_of_ble_eq_true rfl) ⟨Nat.le_of_ble_eq_true rfl, Nat.le_of_ble_eq_true rfl⟩ ⟨Nat.le_of_ble_eq_true rfl, Nat.le_of_ble_eq_true rfl⟩ dX5_isWay_3 ?_
  exact fin _ _ dX5_isWay_6

set_option maxHeartbeats 4000000 in
set_option maxRecDepth 100000 in
theorem c_X5_asNumber (l : Launch) (G : va_G) (cI cZ : ClassId) (b : Bool) : CR l G cI cZ yX5_asNumber cX5_asNumber 1 .int 0 0 [.int (b2i b)] [] (b2i b) := by
  refine CR.of (own := RX5) (by decide) rfl rfl (Nat.le_of_ble_eq_true rfl) ?_
  intro p e R s m args below meth c H Q X hR fin hP ls hl
  subst hR
  have hx := X.1
  have hb := X.2.1
  have hl : lv_has ls 1 [(0, .int (b2i b))] := hl
  refine lv_iload_n hx hb dX5_asNumber_0 rfl (lv_at hl 0 rfl) ?_
  refine b_if_eq (tgt := 8) hx hb dX5_asNumber_1 (by decide) (fun c_1 => ?_) (fun c_1 => ?_)
  · refine lv_iconst (v := nI 0) hx hb dX5_asNumber_8 (by decide) ?_
    exact st_eq (show (nI 0 : Int32) = b2i b from by first | (rw [c_1]; rfl)) (fin _ _ dX5_asNumber_9)
  · refine lv_iconst (v := nI 1) hx hb dX5_asNumber_4 (by decide) ?_
    refine lv_goto (tgt := 9) hx hb dX5_asNumber_5 (by decide) ?_
    exact st_eq (show (nI 1 : Int32) = b2i b from by first | (rw [c_1]; rfl)) (fin _ _ dX5_asNumber_9)

set_option maxHeartbeats 4000000 in
set_option maxRecDepth 100000 in
theorem c_X3_isInside (l : Launch) (G : va_G) (cI cZ : ClassId) (a : Nat) (b : Nat) (ha : a < 9) (hb1 : b < 12) : CR l G cI cZ yX3_isInside cX3_isInside 2 .boolean 1 22 [.int (nI a), .int (nI b)] [] (b2i true) := by
  refine CR.of (own := RX3) (by decide) rfl (b2i_nar _) (Nat.le_of_ble_eq_true rfl) ?_
  intro p e R s m args below meth c H Q X hR fin hP ls hl
  subst hR
  have hx := X.1
  have hb := X.2.1
  have hl : lv_has ls 2 [(0, .int (nI a)), (1, .int (nI b))] := hl
  refine lv_iload_n hx hb dX3_isInside_0 rfl (lv_at hl 0 rfl) ?_
  refine lv_iconst (v := nI 0) hx hb dX3_isInside_1 (by decide) ?_
  refine lv_bipush (v := nI 8) hx hb dX3_isInside_2 (by decide) ?_
  refine cR_SN (As := [.int (nI a), .int (nI 0), .int (nI 8)]) (rest := []) X (c_X5_isWithin l G cI cZ (nI a) (nI 0) (nI 8) ) lk_X3_35 (hP.sub (ws' := []) [] rfl) hl.1 rfl rfl (Nat.le_of_ble_eq_true rfl) ⟨Nat.le_of_ble_eq_true rfl, Nat.le_of_ble_eq_true rfl⟩ ⟨Nat.le_of_ble_eq_true rfl, Nat.le_of_ble_eq_true rfl⟩ dX3_isInside_4 ?_
  refine st_eq (show (b2i (inB (nI a) (nI 0) (nI 8)) : Int32) = b2i true from congrArg b2i (inB_tt (by omega) (by omega) (by omega))) ?_
  refine b_if_eq (tgt := 24) hx hb dX3_isInside_7 (by decide) (fun c_7 => ?_) (fun c_7 => ?_)
  · exact absurd ((rfl : true = true).symm.trans c_7) (by decide)
  · refine lv_iload_n hx hb dX3_isInside_10 rfl (lv_at hl 1 rfl) ?_
    refine lv_iconst (v := nI 0) hx hb dX3_isInside_11 (by decide) ?_
    refine lv_bipush (v := nI 11) hx hb dX3_isInside_12 (by decide) ?_
    refine cR_SN (As := [.int (nI b), .int (nI 0), .int (nI 11)]) (rest := []) X (c_X5_isWithin l G cI cZ (nI b) (nI 0) (nI 11) ) lk_X3_35 (hP.sub (ws' := []) [] rfl) hl.1 rfl rfl (Nat.le_of_ble_eq_true rfl) ⟨Nat.le_of_ble_eq_true rfl, Nat.le_of_ble_eq_true rfl⟩ ⟨Nat.le_of_ble_eq_true rfl, Nat.le_of_ble_eq_true rfl⟩ dX3_isInside_14 ?_
    refine st_eq (show (b2i (inB (nI b) (nI 0) (nI 11)) : Int32) = b2i true from congrArg b2i (inB_tt (by omega) (by omega) (by omega))) ?_
    refine b_if_eq (tgt := 24) hx hb dX3_isInside_17 (by decide) (fun c_17 => ?_) (fun c_17 => ?_)
    · exact absurd ((rfl : true = true).symm.trans c_17) (by decide)
    · refine lv_iconst (v := nI 1) hx hb dX3_isInside_20 (by decide) ?_
      refine lv_goto (tgt := 25) hx hb dX3_isInside_21 (by decide) ?_
      exact st_eq (show (nI 1 : Int32) = b2i true from rfl) (fin _ _ dX3_isInside_25)

set_option maxHeartbeats 4000000 in
set_option maxRecDepth 100000 in
theorem c_X4_hasLine (l : Launch) (G : va_G) (cI cZ : ClassId) (a : Nat) (b : Nat) (ha : a < 9) (hb1 : b < 9) : CR l G cI cZ yX4_hasLine cX4_hasLine 2 .boolean 1 22 [.int (nI a), .int (nI b)] [] (b2i true) := by
  refine CR.of (own := RX4) (by decide) rfl (b2i_nar _) (Nat.le_of_ble_eq_true rfl) ?_
  intro p e R s m args below meth c H Q X hR fin hP ls hl
  subst hR
  have hx := X.1
  have hb := X.2.1
  have hl : lv_has ls 2 [(0, .int (nI a)), (1, .int (nI b))] := hl
  refine lv_iload_n hx hb dX4_hasLine_0 rfl (lv_at hl 0 rfl) ?_
  refine lv_iconst (v := nI 0) hx hb dX4_hasLine_1 (by decide) ?_
  refine lv_bipush (v := nI 8) hx hb dX4_hasLine_2 (by decide) ?_
  refine cR_SN (As := [.int (nI a), .int (nI 0), .int (nI 8)]) (rest := []) X (c_X5_isWithin l G cI cZ (nI a) (nI 0) (nI 8) ) lk_X4_57 (hP.sub (ws' := []) [] rfl) hl.1 rfl rfl (Nat.le_of_ble_eq_true rfl) ⟨Nat.le_of_ble_eq_true rfl, Nat.le_of_ble_eq_true rfl⟩ ⟨Nat.le_of_ble_eq_true rfl, Nat.le_of_ble_eq_true rfl⟩ dX4_hasLine_4 ?_
  refine st_eq (show (b2i (inB (nI a) (nI 0) (nI 8)) : Int32) = b2i true from congrArg b2i (inB_tt (by omega) (by omega) (by omega))) ?_
  refine b_if_eq (tgt := 24) hx hb dX4_hasLine_7 (by decide) (fun c_7 => ?_) (fun c_7 => ?_)
  · exact absurd ((rfl : true = true).symm.trans c_7) (by decide)
  · refine lv_iload_n hx hb dX4_hasLine_10 rfl (lv_at hl 1 rfl) ?_
    refine lv_iconst (v := nI 0) hx hb dX4_hasLine_11 (by decide) ?_
    refine lv_bipush (v := nI 8) hx hb dX4_hasLine_12 (by decide) ?_
    refine cR_SN (As := [.int (nI b), .int (nI 0), .int (nI 8)]) (rest := []) X (c_X5_isWithin l G cI cZ (nI b) (nI 0) (nI 8) ) lk_X4_57 (hP.sub (ws' := []) [] rfl) hl.1 rfl rfl (Nat.le_of_ble_eq_true rfl) ⟨Nat.le_of_ble_eq_true rfl, Nat.le_of_ble_eq_true rfl⟩ ⟨Nat.le_of_ble_eq_true rfl, Nat.le_of_ble_eq_true rfl⟩ dX4_hasLine_14 ?_
    refine st_eq (show (b2i (inB (nI b) (nI 0) (nI 8)) : Int32) = b2i true from congrArg b2i (inB_tt (by omega) (by omega) (by omega))) ?_
    refine b_if_eq (tgt := 24) hx hb dX4_hasLine_17 (by decide) (fun c_17 => ?_) (fun c_17 => ?_)
    · exact absurd ((rfl : true = true).symm.trans c_17) (by decide)
    · refine lv_iconst (v := nI 1) hx hb dX4_hasLine_20 (by decide) ?_
      refine lv_goto (tgt := 25) hx hb dX4_hasLine_21 (by decide) ?_
      exact st_eq (show (nI 1 : Int32) = b2i true from rfl) (fin _ _ dX4_hasLine_25)

set_option maxHeartbeats 4000000 in
set_option maxRecDepth 100000 in
theorem c_X3_get (l : Launch) (G : va_G) (cI cZ : ClassId) (h0 : Nat) (h1 : Nat) (f : Nat → Int32) (a : Nat) (b : Nat) (ha : a < 9) (hb1 : b < 12) : CR l G cI cZ yX3_get cX3_get 3 .int 2 43 [.ref h0, .int (nI a), .int (nI b)] [(h0, .inr (3, [.ref h1])), (h1, .inl (cI, 108, .inl f))] (f (12 * a + b)) := by
  refine CR.of (own := RX3) (by decide) rfl rfl (Nat.le_of_ble_eq_true rfl) ?_
  intro p e R s m args below meth c H Q X hR fin hP ls hl
  subst hR
  have hx := X.1
  have hb := X.2.1
  have hl : lv_has ls 3 [(0, .ref h0), (1, .int (nI a)), (2, .int (nI b))] := hl
  refine lv_iload_n hx hb dX3_get_0 rfl (lv_at hl 1 rfl) ?_
  refine lv_iload_n hx hb dX3_get_1 rfl (lv_at hl 2 rfl) ?_
  refine cR_S (As := [.int (nI a), .int (nI b)]) (rest := []) X (c_X3_isInside l G cI cZ a b (by first | assumption | omega) (by first | assumption | omega)) lk_X3_15 (hP.sub (ws' := []) [] rfl) hl.1 rfl rfl (Nat.le_of_ble_eq_true rfl) ⟨Nat.le_of_ble_eq_true rfl, Nat.le_of_ble_eq_true rfl⟩ ⟨Nat.le_of_ble_eq_true rfl, Nat.le_of_ble_eq_true rfl⟩ dX3_get_2 ?_
  refine b_if_eq (tgt := 22) hx hb dX3_get_5 (by decide) (fun c_5 => ?_) (fun c_5 => ?_)
  · exact absurd ((rfl : true = true).symm.trans c_5) (by decide)
  · refine lv_aload_n hx hb dX3_get_8 rfl (lv_at hl 0 rfl) ?_
    refine x_get (C := RX3) (T := TX3) (N := 1) (ci := 3) 0 inT_X3 rfl (by decide) lf_X3_9 rfl X hP 0 rfl rfl dX3_get_9 ?_
    refine lv_iload_n hx hb dX3_get_12 rfl (lv_at hl 1 rfl) ?_
    refine lv_bipush (v := nI 12) hx hb dX3_get_13 (by decide) ?_
    refine n_mul hx hb dX3_get_15  ?_
    refine lv_iload_n hx hb dX3_get_16 rfl (lv_at hl 2 rfl) ?_
    refine n_add hx hb dX3_get_17  ?_
    refine n_iald X hP 1 rfl (by omega) (by decide) dX3_get_18 ?_
    refine lv_goto (tgt := 23) hx hb dX3_get_19 (by decide) ?_
    exact st_eq (show (f ((a * 12) + b) : Int32) = f (12 * a + b) from by rw [Nat.mul_comm]) (fin _ _ dX3_get_23)

set_option maxHeartbeats 4000000 in
set_option maxRecDepth 100000 in
theorem c_X4_hasMachine (l : Launch) (G : va_G) (cI cZ : ClassId) (h0 : Nat) (hr : Nat) (hs : Nat) (n : Nat) (z : Nat) (op : Int32) (st : Int32) (ea : Int32) (v : Int32) (hn : 1 ≤ n) : CR l G cI cZ yX4_hasMachine cX4_hasMachine 2 .boolean 1 22 [.ref h0, .int v] [(h0, .inr (4, [.ref hr, .ref hs, .int (nI n), .int (nI z), .int op, .int st, .int ea]))] (b2i (inB v (nI 0) (nI (n - 1)))) := by
  refine CR.of (own := RX4) (by decide) rfl (b2i_nar _) (Nat.le_of_ble_eq_true rfl) ?_
  intro p e R s m args below meth c H Q X hR fin hP ls hl
  subst hR
  have hx := X.1
  have hb := X.2.1
  have hl : lv_has ls 2 [(0, .ref h0), (1, .int v)] := hl
  refine lv_iload_n hx hb dX4_hasMachine_0 rfl (lv_at hl 1 rfl) ?_
  refine lv_iconst (v := nI 0) hx hb dX4_hasMachine_1 (by decide) ?_
  refine lv_aload_n hx hb dX4_hasMachine_2 rfl (lv_at hl 0 rfl) ?_
  refine x_get (C := RX4) (T := TX4) (N := 7) (ci := 4) 2 inT_X4 rfl (by decide) lf_X4_22 rfl X hP 0 rfl rfl dX4_hasMachine_3 ?_
  refine lv_iconst (v := nI 1) hx hb dX4_hasMachine_6 (by decide) ?_
  refine n_sub hx hb dX4_hasMachine_7 (by omega) ?_
  refine cR_SN (As := [.int v, .int (nI 0), .int (nI (n - 1))]) (rest := []) X (c_X5_isWithin l G cI cZ v (nI 0) (nI (n - 1)) ) lk_X4_57 (hP.sub (ws' := []) [] rfl) hl.1 rfl rfl (Nat.le_of_ble_eq_true rfl) ⟨Nat.le_of_ble_eq_true rfl, Nat.le_of_ble_eq_true rfl⟩ ⟨Nat.le_of_ble_eq_true rfl, Nat.le_of_ble_eq_true rfl⟩ dX4_hasMachine_8 ?_
  exact fin _ _ dX4_hasMachine_11

set_option maxHeartbeats 4000000 in
set_option maxRecDepth 100000 in
theorem c_X4_hasPlace (l : Launch) (G : va_G) (cI cZ : ClassId) (h0 : Nat) (hr : Nat) (hs : Nat) (n : Nat) (z : Nat) (op : Int32) (st : Int32) (ea : Int32) (v : Int32) (hz : 1 ≤ z) : CR l G cI cZ yX4_hasPlace cX4_hasPlace 2 .boolean 1 22 [.ref h0, .int v] [(h0, .inr (4, [.ref hr, .ref hs, .int (nI n), .int (nI z), .int op, .int st, .int ea]))] (b2i (inB v (nI 0) (nI (z - 1)))) := by
  refine CR.of (own := RX4) (by decide) rfl (b2i_nar _) (Nat.le_of_ble_eq_true rfl) ?_
  intro p e R s m args below meth c H Q X hR fin hP ls hl
  subst hR
  have hx := X.1
  have hb := X.2.1
  have hl : lv_has ls 2 [(0, .ref h0), (1, .int v)] := hl
  refine lv_iload_n hx hb dX4_hasPlace_0 rfl (lv_at hl 1 rfl) ?_
  refine lv_iconst (v := nI 0) hx hb dX4_hasPlace_1 (by decide) ?_
  refine lv_aload_n hx hb dX4_hasPlace_2 rfl (lv_at hl 0 rfl) ?_
  refine x_get (C := RX4) (T := TX4) (N := 7) (ci := 4) 3 inT_X4 rfl (by decide) lf_X4_26 rfl X hP 0 rfl rfl dX4_hasPlace_3 ?_
  refine lv_iconst (v := nI 1) hx hb dX4_hasPlace_6 (by decide) ?_
  refine n_sub hx hb dX4_hasPlace_7 (by omega) ?_
  refine cR_SN (As := [.int v, .int (nI 0), .int (nI (z - 1))]) (rest := []) X (c_X5_isWithin l G cI cZ v (nI 0) (nI (z - 1)) ) lk_X4_57 (hP.sub (ws' := []) [] rfl) hl.1 rfl rfl (Nat.le_of_ble_eq_true rfl) ⟨Nat.le_of_ble_eq_true rfl, Nat.le_of_ble_eq_true rfl⟩ ⟨Nat.le_of_ble_eq_true rfl, Nat.le_of_ble_eq_true rfl⟩ dX4_hasPlace_8 ?_
  exact fin _ _ dX4_hasPlace_11

set_option maxHeartbeats 4000000 in
set_option maxRecDepth 100000 in
theorem c_X4_slowness (l : Launch) (G : va_G) (cI cZ : ClassId) (h0 : Nat) (hr : Nat) (hs : Nat) (n : Nat) (z : Nat) (op : Int32) (st : Int32) (ea : Int32) (g : Nat → Int32) (a : Nat) (b : Nat) (ha : a < 9) (hb1 : b < 9) : CR l G cI cZ yX4_slowness cX4_slowness 3 .int 2 43 [.ref h0, .int (nI a), .int (nI b)] [(h0, .inr (4, [.ref hr, .ref hs, .int (nI n), .int (nI z), .int op, .int st, .int ea])), (hs, .inl (cI, 81, .inl g))] (g (9 * a + b)) := by
  refine CR.of (own := RX4) (by decide) rfl rfl (Nat.le_of_ble_eq_true rfl) ?_
  intro p e R s m args below meth c H Q X hR fin hP ls hl
  subst hR
  have hx := X.1
  have hb := X.2.1
  have hl : lv_has ls 3 [(0, .ref h0), (1, .int (nI a)), (2, .int (nI b))] := hl
  refine lv_iload_n hx hb dX4_slowness_0 rfl (lv_at hl 1 rfl) ?_
  refine lv_iload_n hx hb dX4_slowness_1 rfl (lv_at hl 2 rfl) ?_
  refine cR_S (As := [.int (nI a), .int (nI b)]) (rest := []) X (c_X4_hasLine l G cI cZ a b (by first | assumption | omega) (by first | assumption | omega)) lk_X4_61 (hP.sub (ws' := []) [] rfl) hl.1 rfl rfl (Nat.le_of_ble_eq_true rfl) ⟨Nat.le_of_ble_eq_true rfl, Nat.le_of_ble_eq_true rfl⟩ ⟨Nat.le_of_ble_eq_true rfl, Nat.le_of_ble_eq_true rfl⟩ dX4_slowness_2 ?_
  refine b_if_eq (tgt := 22) hx hb dX4_slowness_5 (by decide) (fun c_5 => ?_) (fun c_5 => ?_)
  · exact absurd ((rfl : true = true).symm.trans c_5) (by decide)
  · refine lv_aload_n hx hb dX4_slowness_8 rfl (lv_at hl 0 rfl) ?_
    refine x_get (C := RX4) (T := TX4) (N := 7) (ci := 4) 1 inT_X4 rfl (by decide) lf_X4_18 rfl X hP 0 rfl rfl dX4_slowness_9 ?_
    refine lv_iload_n hx hb dX4_slowness_12 rfl (lv_at hl 1 rfl) ?_
    refine lv_bipush (v := nI 9) hx hb dX4_slowness_13 (by decide) ?_
    refine n_mul hx hb dX4_slowness_15  ?_
    refine lv_iload_n hx hb dX4_slowness_16 rfl (lv_at hl 2 rfl) ?_
    refine n_add hx hb dX4_slowness_17  ?_
    refine n_iald X hP 1 rfl (by omega) (by decide) dX4_slowness_18 ?_
    refine lv_goto (tgt := 23) hx hb dX4_slowness_19 (by decide) ?_
    exact st_eq (show (g ((a * 9) + b) : Int32) = g (9 * a + b) from by rw [Nat.mul_comm]) (fin _ _ dX4_slowness_23)

set_option maxHeartbeats 4000000 in
set_option maxRecDepth 100000 in
theorem c_X4_mixed (l : Launch) (G : va_G) (cI cZ : ClassId) (h0 : Nat) (hr : Nat) (hs : Nat) (n : Nat) (z : Nat) (op : Int32) (st : Int32) (ea : Int32) (a : Int32) (b : Int32) : CR l G cI cZ yX4_mixed cX4_mixed 3 .int 1 13 [.ref h0, .int a, .int b] [(h0, .inr (4, [.ref hr, .ref hs, .int (nI n), .int (nI z), .int op, .int st, .int ea]))] (mix op a b) := by
  refine CR.of (own := RX4) (by decide) rfl rfl (Nat.le_of_ble_eq_true rfl) ?_
  intro p e R s m args below meth c H Q X hR fin hP ls hl
  subst hR
  have hx := X.1
  have hb := X.2.1
  have hl : lv_has ls 3 [(0, .ref h0), (1, .int a), (2, .int b)] := hl
  refine lv_aload_n hx hb dX4_mixed_0 rfl (lv_at hl 0 rfl) ?_
  refine x_get (C := RX4) (T := TX4) (N := 7) (ci := 4) 4 inT_X4 rfl (by decide) lf_X4_29 rfl X hP 0 rfl rfl dX4_mixed_1 ?_
  refine lv_if_ne (tgt := 15) hx hb dX4_mixed_4 (by decide) (fun c_4 => ?_) (fun c_4 => ?_)
  · refine lv_aload_n hx hb dX4_mixed_15 rfl (lv_at hl 0 rfl) ?_
    refine x_get (C := RX4) (T := TX4) (N := 7) (ci := 4) 4 inT_X4 rfl (by decide) lf_X4_29 rfl X hP 0 rfl rfl dX4_mixed_16 ?_
    refine lv_iconst (v := nI 1) hx hb dX4_mixed_19 (by decide) ?_
    refine lv_icmp_ne (tgt := 29) hx hb dX4_mixed_20 (by decide) (fun c_20 => ?_) (fun c_20 => ?_)
    · refine lv_bipush (v := nI 31) hx hb dX4_mixed_29 (by decide) ?_
      refine lv_iload_n hx hb dX4_mixed_31 rfl (lv_at hl 1 rfl) ?_
      refine lv_imul hx hb dX4_mixed_32 ?_
      refine lv_iload_n hx hb dX4_mixed_33 rfl (lv_at hl 2 rfl) ?_
      refine lv_iadd hx hb dX4_mixed_34 ?_
      refine lv_sipush (v := nI 997) hx hb dX4_mixed_35 (by decide) ?_
      refine lv_irem hx hb dX4_mixed_38 (by decide) ?_
      exact st_eq (show ((((nI 31) * a) + b) - (((nI 31) * a) + b) / (nI 997) * (nI 997) : Int32) = mix op a b from by rw [mix, if_neg c_4, if_neg c_20]) (fin _ _ dX4_mixed_39)
    · refine lv_iload_n hx hb dX4_mixed_23 rfl (lv_at hl 1 rfl) ?_
      refine lv_iload_n hx hb dX4_mixed_24 rfl (lv_at hl 2 rfl) ?_
      refine va_mmax hx hb (by rw [X.2.2.1]; exact hl.1.symm) X.2.2.2.1 (X.2.2.2.2.1 _ lo_X4_65) (X.2.2.2.2.1 _ w_maxS) (X.2.2.2.2.1 _ w_mathI) (X.2.2.2.2.1 _ w_maxC) (by decide) (Nat.le_of_ble_eq_true rfl) (Nat.zero_le _) (Nat.zero_le _) dX4_mixed_25 ?_
      exact st_eq (show (if a < b then b else a : Int32) = mix op a b from by rw [mix, if_neg c_4, if_pos c_20]) (fin _ _ dX4_mixed_28)
  · refine lv_iload_n hx hb dX4_mixed_7 rfl (lv_at hl 1 rfl) ?_
    refine lv_iload_n hx hb dX4_mixed_8 rfl (lv_at hl 2 rfl) ?_
    refine lv_iadd hx hb dX4_mixed_9 ?_
    refine lv_sipush (v := nI 997) hx hb dX4_mixed_10 (by decide) ?_
    refine lv_irem hx hb dX4_mixed_13 (by decide) ?_
    exact st_eq (show ((a + b) - (a + b) / (nI 997) * (nI 997) : Int32) = mix op a b from by rw [mix, if_pos c_4]) (fin _ _ dX4_mixed_14)

set_option maxHeartbeats 4000000 in
set_option maxRecDepth 100000 in
theorem c_X3_differing (l : Launch) (G : va_G) (cI cZ : ClassId) (h0 : Nat) (h1 : Nat) (g0 : Nat) (g1 : Nat) (f : Nat → Int32) (g : Nat → Int32) (a : Nat) (b : Nat) (z : Nat) (ha : a < 9) (hb1 : b < 9) (hz : z ≤ 12) : CR l G cI cZ yX3_differing cX3_differing 7 .int 3 65 [.ref h0, .int (nI a), .ref g0, .int (nI b), .int (nI z)] [(h0, .inr (3, [.ref h1])), (h1, .inl (cI, 108, .inl f)), (g0, .inr (3, [.ref g1])), (g1, .inl (cI, 108, .inl g))] (nI (dfc f g a b z)) := by
  refine CR.of (own := RX3) (by decide) rfl rfl (Nat.le_of_ble_eq_true rfl) ?_
  intro p e R s m args below meth c H Q X hR fin hP ls hl
  subst hR
  have hx := X.1
  have hb := X.2.1
  have hl : lv_has ls 7 [(0, .ref h0), (1, .int (nI a)), (2, .ref g0), (3, .int (nI b)), (4, .int (nI z))] := hl
  refine lv_iconst (v := nI 0) hx hb dX3_differing_0 (by decide) ?_
  refine lv_istore (lv' := [(5, .int (nI 0)), (0, .ref h0), (1, .int (nI a)), (2, .ref g0), (3, .int (nI b)), (4, .int (nI z))]) hx hb dX3_differing_1 hl (by decide) rfl (fun ls hl => ?_)
  refine lv_iconst (v := nI 0) hx hb dX3_differing_3 (by decide) ?_
  refine lv_istore (lv' := [(6, .int (nI 0)), (5, .int (nI 0)), (0, .ref h0), (1, .int (nI a)), (2, .ref g0), (3, .int (nI b)), (4, .int (nI z))]) hx hb dX3_differing_4 hl (by decide) rfl (fun ls hl => ?_)
  have LP6 : ∀ (fu : Nat) (i : Nat), (i ≤ z) → (z - i) < fu → ∀ (ls : Array Slot), lv_has ls 7 [(0, .ref h0), (1, .int (nI a)), (2, .ref g0), (3, .int (nI b)), (4, .int (nI z)), (5, .int (nI (dfc f g a b i))), (6, .int (nI i))] → W p l e ({ frames := 3, cells := 0, slots := 0, locals := 65 } : Room) s m args below meth c H [] 0 0 Q (F0 m 6 ls []) := by
    intro fu
    induction fu with
    | zero =>
      intro i hi hfu
      exact absurd hfu (Nat.not_lt_zero _)
    | succ fu ih6 =>
      intro i hi hfu  ls hl
      refine lv_iload hx hb dX3_differing_6 (lv_at hl 6 rfl) ?_
      refine lv_iload hx hb dX3_differing_8 (lv_at hl 4 rfl) ?_
      refine n_icmp_ge (tgt := 39) hx hb dX3_differing_10 (by decide) (by omega) (by omega) (fun c_10 => ?_) (fun c_10 => ?_)
      · refine lv_iload hx hb dX3_differing_39 (lv_at hl 5 rfl) ?_
        exact st_eq (show (nI (dfc f g a b i) : Int32) = nI (dfc f g a b z) from by rw [show i = z by omega]) (fin _ _ dX3_differing_41)
      · refine lv_aload_n hx hb dX3_differing_13 rfl (lv_at hl 0 rfl) ?_
        refine lv_iload_n hx hb dX3_differing_14 rfl (lv_at hl 1 rfl) ?_
        refine lv_iload hx hb dX3_differing_15 (lv_at hl 6 rfl) ?_
        refine cR_V (As := [.int (nI a), .int (nI i)]) (rest := []) X (c_X3_get l G cI cZ h0 h1 f a i (by first | assumption | omega) (by first | assumption | omega)) lk_X3_31 (hP.sub (ws' := [(h0, .inr (3, [.ref h1])), (h1, .inl (cI, 108, .inl f))]) [0, 1] rfl) rfl rfl hl.1 rfl rfl (Nat.le_of_ble_eq_true rfl) ⟨Nat.le_of_ble_eq_true rfl, Nat.le_of_ble_eq_true rfl⟩ ⟨Nat.le_of_ble_eq_true rfl, Nat.le_of_ble_eq_true rfl⟩ dX3_differing_17 ?_
        refine lv_aload_n hx hb dX3_differing_20 rfl (lv_at hl 2 rfl) ?_
        refine lv_iload_n hx hb dX3_differing_21 rfl (lv_at hl 3 rfl) ?_
        refine lv_iload hx hb dX3_differing_22 (lv_at hl 6 rfl) ?_
        refine cR_V (As := [.int (nI b), .int (nI i)]) (rest := [.int (f (12 * a + i))]) X (c_X3_get l G cI cZ g0 g1 g b i (by first | assumption | omega) (by first | assumption | omega)) lk_X3_31 (hP.sub (ws' := [(g0, .inr (3, [.ref g1])), (g1, .inl (cI, 108, .inl g))]) [2, 3] rfl) rfl rfl hl.1 rfl rfl (Nat.le_of_ble_eq_true rfl) ⟨Nat.le_of_ble_eq_true rfl, Nat.le_of_ble_eq_true rfl⟩ ⟨Nat.le_of_ble_eq_true rfl, Nat.le_of_ble_eq_true rfl⟩ dX3_differing_24 ?_
        refine lv_icmp_eq (tgt := 33) hx hb dX3_differing_27 (by decide) (fun c_27 => ?_) (fun c_27 => ?_)
        · refine lv_iinc (v := nI (i + 1)) (lv' := [(6, .int (nI (i + 1))), (0, .ref h0), (1, .int (nI a)), (2, .ref g0), (3, .int (nI b)), (4, .int (nI z)), (5, .int (nI (dfc f g a b i)))]) hx hb dX3_differing_33 hl (k := 6) rfl (nI_1 _) (by decide) rfl (fun ls hl => ?_)
          refine lv_goto (tgt := 6) hx hb dX3_differing_36 (by decide) ?_
          have hl : lv_has ls 7 [(6, .int (nI (i + 1))), (0, .ref h0), (1, .int (nI a)), (2, .ref g0), (3, .int (nI b)), (4, .int (nI z)), (5, .int (nI (dfc f g a b (i + 1))))] := lv_rep hl (congrArg (fun z_ : Int32 => ([(6, .int (nI (i + 1))), (0, .ref h0), (1, .int (nI a)), (2, .ref g0), (3, .int (nI b)), (4, .int (nI z)), (5, .int z_)] : List (Nat × Value))) (show (nI (dfc f g a b i) : Int32) = nI (dfc f g a b (i + 1)) from by first | (rw [dfc, if_pos c_27]; rfl) | (rw [dfc, if_neg c_27])))
          exact ih6  (i + 1) (by omega) (by omega) _ (lv_sub hl [1, 2, 3, 4, 5, 6, 0] rfl)
        · refine lv_iinc (v := nI (dfc f g a b i + 1)) (lv' := [(5, .int (nI (dfc f g a b i + 1))), (0, .ref h0), (1, .int (nI a)), (2, .ref g0), (3, .int (nI b)), (4, .int (nI z)), (6, .int (nI i))]) hx hb dX3_differing_30 hl (k := 5) rfl (nI_1 _) (by decide) rfl (fun ls hl => ?_)
          refine lv_iinc (v := nI (i + 1)) (lv' := [(6, .int (nI (i + 1))), (5, .int (nI (dfc f g a b i + 1))), (0, .ref h0), (1, .int (nI a)), (2, .ref g0), (3, .int (nI b)), (4, .int (nI z))]) hx hb dX3_differing_33 hl (k := 6) rfl (nI_1 _) (by decide) rfl (fun ls hl => ?_)
          refine lv_goto (tgt := 6) hx hb dX3_differing_36 (by decide) ?_
          have hl : lv_has ls 7 [(6, .int (nI (i + 1))), (5, .int (nI (dfc f g a b (i + 1)))), (0, .ref h0), (1, .int (nI a)), (2, .ref g0), (3, .int (nI b)), (4, .int (nI z))] := lv_rep hl (congrArg (fun z_ : Int32 => ([(6, .int (nI (i + 1))), (5, .int z_), (0, .ref h0), (1, .int (nI a)), (2, .ref g0), (3, .int (nI b)), (4, .int (nI z))] : List (Nat × Value))) (show (nI (dfc f g a b i + 1) : Int32) = nI (dfc f g a b (i + 1)) from by first | (rw [dfc, if_pos c_27]; rfl) | (rw [dfc, if_neg c_27])))
          exact ih6  (i + 1) (by omega) (by omega) _ (lv_sub hl [2, 3, 4, 5, 6, 1, 0] rfl)
  have hl : lv_has ls 7 [(6, .int (nI 0)), (5, .int (nI (dfc f g a b 0))), (0, .ref h0), (1, .int (nI a)), (2, .ref g0), (3, .int (nI b)), (4, .int (nI z))] := lv_rep hl (congrArg (fun z_ : Int32 => ([(6, .int (nI 0)), (5, .int z_), (0, .ref h0), (1, .int (nI a)), (2, .ref g0), (3, .int (nI b)), (4, .int (nI z))] : List (Nat × Value))) (show (nI 0 : Int32) = nI (dfc f g a b 0) from rfl))
  exact LP6 ((z - 0) + 1) 0 (Nat.zero_le _) (Nat.lt_succ_self _) _ (lv_sub hl [2, 3, 4, 5, 6, 1, 0] rfl)

set_option maxHeartbeats 4000000 in
set_option maxRecDepth 100000 in
theorem c_X4_mixedByRising (l : Launch) (G : va_G) (cI cZ : ClassId) (h0 : Nat) (hr : Nat) (hs : Nat) (n : Nat) (z : Nat) (op : Int32) (st : Int32) (ea : Int32) (ra : Nat) (f : Nat → Int32) (q : Nat) (hn : 1 ≤ n) (hn9 : n ≤ 9) (hq : q < 12) : CR l G cI cZ yX4_mixedByRising cX4_mixedByRising 4 .int 3 65 [.ref h0, .int (nI q)] [(h0, .inr (4, [.ref hr, .ref hs, .int (nI n), .int (nI z), .int op, .int st, .int ea])), (hr, .inr (3, [.ref ra])), (ra, .inl (cI, 108, .inl f))] (mbr op f q (n - 1)) := by
  refine CR.of (own := RX4) (by decide) rfl rfl (Nat.le_of_ble_eq_true rfl) ?_
  intro p e R s m args below meth c H Q X hR fin hP ls hl
  subst hR
  have hx := X.1
  have hb := X.2.1
  have hl : lv_has ls 4 [(0, .ref h0), (1, .int (nI q))] := hl
  refine lv_aload_n hx hb dX4_mixedByRising_0 rfl (lv_at hl 0 rfl) ?_
  refine x_get (C := RX4) (T := TX4) (N := 7) (ci := 4) 0 inT_X4 rfl (by decide) lf_X4_12 rfl X hP 0 rfl rfl dX4_mixedByRising_1 ?_
  refine lv_iconst (v := nI 0) hx hb dX4_mixedByRising_4 (by decide) ?_
  refine lv_iload_n hx hb dX4_mixedByRising_5 rfl (lv_at hl 1 rfl) ?_
  refine cR_V (As := [.int (nI 0), .int (nI q)]) (rest := []) X (c_X3_get l G cI cZ hr ra f 0 q (by first | assumption | omega) (by first | assumption | omega)) lk_X4_71 (hP.sub (ws' := [(hr, .inr (3, [.ref ra])), (ra, .inl (cI, 108, .inl f))]) [1, 2] rfl) rfl rfl hl.1 rfl rfl (Nat.le_of_ble_eq_true rfl) ⟨Nat.le_of_ble_eq_true rfl, Nat.le_of_ble_eq_true rfl⟩ ⟨Nat.le_of_ble_eq_true rfl, Nat.le_of_ble_eq_true rfl⟩ dX4_mixedByRising_6 ?_
  refine lv_istore_n (lv' := [(2, .int (f (12 * 0 + q))), (0, .ref h0), (1, .int (nI q))]) hx hb dX4_mixedByRising_9 rfl hl (by decide) rfl (fun ls hl => ?_)
  refine lv_iconst (v := nI 1) hx hb dX4_mixedByRising_10 (by decide) ?_
  refine lv_istore_n (lv' := [(3, .int (nI 1)), (2, .int (f (12 * 0 + q))), (0, .ref h0), (1, .int (nI q))]) hx hb dX4_mixedByRising_11 rfl hl (by decide) rfl (fun ls hl => ?_)
  have LP12 : ∀ (fu : Nat) (i : Nat), (i + 1 ≤ n) → (n - i) < fu → ∀ (ls : Array Slot), lv_has ls 4 [(0, .ref h0), (1, .int (nI q)), (2, .int (mbr op f q i)), (3, .int (nI (i + 1)))] → W p l e ({ frames := 3, cells := 0, slots := 0, locals := 65 } : Room) s m args below meth c H [] 0 0 Q (F0 m 12 ls []) := by
    intro fu
    induction fu with
    | zero =>
      intro i hi hfu
      exact absurd hfu (Nat.not_lt_zero _)
    | succ fu ih12 =>
      intro i hi hfu  ls hl
      refine lv_iload_n hx hb dX4_mixedByRising_12 rfl (lv_at hl 3 rfl) ?_
      refine lv_aload_n hx hb dX4_mixedByRising_13 rfl (lv_at hl 0 rfl) ?_
      refine x_get (C := RX4) (T := TX4) (N := 7) (ci := 4) 2 inT_X4 rfl (by decide) lf_X4_22 rfl X hP 0 rfl rfl dX4_mixedByRising_14 ?_
      refine n_icmp_ge (tgt := 41) hx hb dX4_mixedByRising_17 (by decide) (by omega) (by omega) (fun c_17 => ?_) (fun c_17 => ?_)
      · refine lv_iload_n hx hb dX4_mixedByRising_41 rfl (lv_at hl 2 rfl) ?_
        exact st_eq (show (mbr op f q i : Int32) = mbr op f q (n - 1) from by rw [show n - 1 = i by omega]) (fin _ _ dX4_mixedByRising_42)
      · refine lv_aload_n hx hb dX4_mixedByRising_20 rfl (lv_at hl 0 rfl) ?_
        refine lv_iload_n hx hb dX4_mixedByRising_21 rfl (lv_at hl 2 rfl) ?_
        refine lv_aload_n hx hb dX4_mixedByRising_22 rfl (lv_at hl 0 rfl) ?_
        refine x_get (C := RX4) (T := TX4) (N := 7) (ci := 4) 0 inT_X4 rfl (by decide) lf_X4_12 rfl X hP 0 rfl rfl dX4_mixedByRising_23 ?_
        refine lv_iload_n hx hb dX4_mixedByRising_26 rfl (lv_at hl 3 rfl) ?_
        refine lv_iload_n hx hb dX4_mixedByRising_27 rfl (lv_at hl 1 rfl) ?_
        refine cR_V (As := [.int (nI (i + 1)), .int (nI q)]) (rest := [.int (mbr op f q i), .ref h0]) X (c_X3_get l G cI cZ hr ra f (i + 1) q (by first | assumption | omega) (by first | assumption | omega)) lk_X4_71 (hP.sub (ws' := [(hr, .inr (3, [.ref ra])), (ra, .inl (cI, 108, .inl f))]) [1, 2] rfl) rfl rfl hl.1 rfl rfl (Nat.le_of_ble_eq_true rfl) ⟨Nat.le_of_ble_eq_true rfl, Nat.le_of_ble_eq_true rfl⟩ ⟨Nat.le_of_ble_eq_true rfl, Nat.le_of_ble_eq_true rfl⟩ dX4_mixedByRising_28 ?_
        refine cR_V (As := [.int (mbr op f q i), .int (f (12 * (i + 1) + q))]) (rest := []) X (c_X4_mixed l G cI cZ h0 hr hs n z op st ea (mbr op f q i) (f (12 * (i + 1) + q)) ) lk_X4_74 (hP.sub (ws' := [(h0, .inr (4, [.ref hr, .ref hs, .int (nI n), .int (nI z), .int op, .int st, .int ea]))]) [0] rfl) rfl rfl hl.1 rfl rfl (Nat.le_of_ble_eq_true rfl) ⟨Nat.le_of_ble_eq_true rfl, Nat.le_of_ble_eq_true rfl⟩ ⟨Nat.le_of_ble_eq_true rfl, Nat.le_of_ble_eq_true rfl⟩ dX4_mixedByRising_31 ?_
        refine lv_istore_n (lv' := [(2, .int (mix op (mbr op f q i) (f (12 * (i + 1) + q)))), (0, .ref h0), (1, .int (nI q)), (3, .int (nI (i + 1)))]) hx hb dX4_mixedByRising_34 rfl hl (by decide) rfl (fun ls hl => ?_)
        refine lv_iinc (v := nI (i + 1 + 1)) (lv' := [(3, .int (nI (i + 1 + 1))), (2, .int (mix op (mbr op f q i) (f (12 * (i + 1) + q)))), (0, .ref h0), (1, .int (nI q))]) hx hb dX4_mixedByRising_35 hl (k := 3) rfl (nI_1 _) (by decide) rfl (fun ls hl => ?_)
        refine lv_goto (tgt := 12) hx hb dX4_mixedByRising_38 (by decide) ?_
        have hl : lv_has ls 4 [(3, .int (nI (i + 1 + 1))), (2, .int (mbr op f q (i + 1))), (0, .ref h0), (1, .int (nI q))] := lv_rep hl (congrArg (fun z_ : Int32 => ([(3, .int (nI (i + 1 + 1))), (2, .int z_), (0, .ref h0), (1, .int (nI q))] : List (Nat × Value))) (show (mix op (mbr op f q i) (f (12 * (i + 1) + q)) : Int32) = mbr op f q (i + 1) from rfl))
        have hl : lv_has ls 4 [(3, .int (nI ((i + 1) + 1))), (2, .int (mbr op f q (i + 1))), (0, .ref h0), (1, .int (nI q))] := lv_rep hl (congrArg (fun z_ : Int32 => ([(3, .int z_), (2, .int (mbr op f q (i + 1))), (0, .ref h0), (1, .int (nI q))] : List (Nat × Value))) (show (nI (i + 1 + 1) : Int32) = nI ((i + 1) + 1) from rfl))
        exact ih12  (i + 1) (by omega) (by omega) _ (lv_sub hl [2, 3, 1, 0] rfl)
  have hl : lv_has ls 4 [(3, .int (nI 1)), (2, .int (mbr op f q 0)), (0, .ref h0), (1, .int (nI q))] := lv_rep hl (congrArg (fun z_ : Int32 => ([(3, .int (nI 1)), (2, .int z_), (0, .ref h0), (1, .int (nI q))] : List (Nat × Value))) (show (f (12 * 0 + q) : Int32) = mbr op f q 0 from by rw [mbr]; congr 1; omega))
  have hl : lv_has ls 4 [(3, .int (nI (0 + 1))), (2, .int (mbr op f q 0)), (0, .ref h0), (1, .int (nI q))] := lv_rep hl (congrArg (fun z_ : Int32 => ([(3, .int z_), (2, .int (mbr op f q 0)), (0, .ref h0), (1, .int (nI q))] : List (Nat × Value))) (show (nI 1 : Int32) = nI (0 + 1) from rfl))
  exact LP12 ((n - 0) + 1) 0 (by omega) (Nat.lt_succ_self _) _ (lv_sub hl [2, 3, 1, 0] rfl)

set_option maxHeartbeats 4000000 in
set_option maxRecDepth 100000 in
theorem c_X4_allNumbersAdded (l : Launch) (G : va_G) (cI cZ : ClassId) (h0 : Nat) (hr : Nat) (hs : Nat) (n : Nat) (z : Nat) (op : Int32) (st : Int32) (ea : Int32) (ra : Nat) (f : Nat → Int32) (hn9 : n ≤ 9) (hz : z ≤ 12) : CR l G cI cZ yX4_allNumbersAdded cX4_allNumbersAdded 4 .int 3 65 [.ref h0] [(h0, .inr (4, [.ref hr, .ref hs, .int (nI n), .int (nI z), .int op, .int st, .int ea])), (hr, .inr (3, [.ref ra])), (ra, .inl (cI, 108, .inl f))] (sa f z n) := by
  refine CR.of (own := RX4) (by decide) rfl rfl (Nat.le_of_ble_eq_true rfl) ?_
  intro p e R s m args below meth c H Q X hR fin hP ls hl
  subst hR
  have hx := X.1
  have hb := X.2.1
  have hl : lv_has ls 4 [(0, .ref h0)] := hl
  refine lv_iconst (v := nI 0) hx hb dX4_allNumbersAdded_0 (by decide) ?_
  refine lv_istore_n (lv' := [(1, .int (nI 0)), (0, .ref h0)]) hx hb dX4_allNumbersAdded_1 rfl hl (by decide) rfl (fun ls hl => ?_)
  refine lv_iconst (v := nI 0) hx hb dX4_allNumbersAdded_2 (by decide) ?_
  refine lv_istore_n (lv' := [(2, .int (nI 0)), (1, .int (nI 0)), (0, .ref h0)]) hx hb dX4_allNumbersAdded_3 rfl hl (by decide) rfl (fun ls hl => ?_)
  have LP4 : ∀ (fu : Nat) (i : Nat), (i ≤ n) → (n - i) < fu → ∀ (ls : Array Slot), lv_has ls 4 [(0, .ref h0), (1, .int (sa f z i)), (2, .int (nI i))] → W p l e ({ frames := 3, cells := 0, slots := 0, locals := 65 } : Room) s m args below meth c H [] 0 0 Q (F0 m 4 ls []) := by
    intro fu
    induction fu with
    | zero =>
      intro i hi hfu
      exact absurd hfu (Nat.not_lt_zero _)
    | succ fu ih4 =>
      intro i hi hfu  ls hl
      refine lv_iload_n hx hb dX4_allNumbersAdded_4 rfl (lv_at hl 2 rfl) ?_
      refine lv_aload_n hx hb dX4_allNumbersAdded_5 rfl (lv_at hl 0 rfl) ?_
      refine x_get (C := RX4) (T := TX4) (N := 7) (ci := 4) 2 inT_X4 rfl (by decide) lf_X4_22 rfl X hP 0 rfl rfl dX4_allNumbersAdded_6 ?_
      refine n_icmp_ge (tgt := 46) hx hb dX4_allNumbersAdded_9 (by decide) (by omega) (by omega) (fun c_9 => ?_) (fun c_9 => ?_)
      · refine lv_iload_n hx hb dX4_allNumbersAdded_46 rfl (lv_at hl 1 rfl) ?_
        exact st_eq (show (sa f z i : Int32) = sa f z n from by rw [show i = n by omega]) (fin _ _ dX4_allNumbersAdded_47)
      · refine lv_iconst (v := nI 0) hx hb dX4_allNumbersAdded_12 (by decide) ?_
        refine lv_istore_n (lv' := [(3, .int (nI 0)), (0, .ref h0), (1, .int (sa f z i)), (2, .int (nI i))]) hx hb dX4_allNumbersAdded_13 rfl hl (by decide) rfl (fun ls hl => ?_)
        have LP14 : ∀ (fu : Nat) (j : Nat), (j ≤ z) → (z - j) < fu → ∀ (ls : Array Slot), lv_has ls 4 [(0, .ref h0), (1, .int (sr f i (sa f z i) j)), (2, .int (nI i)), (3, .int (nI j))] → W p l e ({ frames := 3, cells := 0, slots := 0, locals := 65 } : Room) s m args below meth c H [] 0 0 Q (F0 m 14 ls []) := by
          intro fu
          induction fu with
          | zero =>
            intro j hj hfu
            exact absurd hfu (Nat.not_lt_zero _)
          | succ fu ih14 =>
            intro j hj hfu  ls hl
            refine lv_iload_n hx hb dX4_allNumbersAdded_14 rfl (lv_at hl 3 rfl) ?_
            refine lv_aload_n hx hb dX4_allNumbersAdded_15 rfl (lv_at hl 0 rfl) ?_
            refine x_get (C := RX4) (T := TX4) (N := 7) (ci := 4) 3 inT_X4 rfl (by decide) lf_X4_26 rfl X hP 0 rfl rfl dX4_allNumbersAdded_16 ?_
            refine n_icmp_ge (tgt := 40) hx hb dX4_allNumbersAdded_19 (by decide) (by omega) (by omega) (fun c_19 => ?_) (fun c_19 => ?_)
            · refine lv_iinc (v := nI (i + 1)) (lv' := [(2, .int (nI (i + 1))), (0, .ref h0), (1, .int (sr f i (sa f z i) j)), (3, .int (nI j))]) hx hb dX4_allNumbersAdded_40 hl (k := 2) rfl (nI_1 _) (by decide) rfl (fun ls hl => ?_)
              refine lv_goto (tgt := 4) hx hb dX4_allNumbersAdded_43 (by decide) ?_
              have hl : lv_has ls 4 [(2, .int (nI (i + 1))), (0, .ref h0), (1, .int (sa f z (i + 1))), (3, .int (nI j))] := lv_rep hl (congrArg (fun z_ : Int32 => ([(2, .int (nI (i + 1))), (0, .ref h0), (1, .int z_), (3, .int (nI j))] : List (Nat × Value))) (show (sr f i (sa f z i) j : Int32) = sa f z (i + 1) from by rw [show j = z by omega]; rfl))
              exact ih4  (i + 1) (by omega) (by omega) _ (lv_sub hl [1, 2, 0] rfl)
            · refine lv_iload_n hx hb dX4_allNumbersAdded_22 rfl (lv_at hl 1 rfl) ?_
              refine lv_aload_n hx hb dX4_allNumbersAdded_23 rfl (lv_at hl 0 rfl) ?_
              refine x_get (C := RX4) (T := TX4) (N := 7) (ci := 4) 0 inT_X4 rfl (by decide) lf_X4_12 rfl X hP 0 rfl rfl dX4_allNumbersAdded_24 ?_
              refine lv_iload_n hx hb dX4_allNumbersAdded_27 rfl (lv_at hl 2 rfl) ?_
              refine lv_iload_n hx hb dX4_allNumbersAdded_28 rfl (lv_at hl 3 rfl) ?_
              refine cR_V (As := [.int (nI i), .int (nI j)]) (rest := [.int (sr f i (sa f z i) j)]) X (c_X3_get l G cI cZ hr ra f i j (by first | assumption | omega) (by first | assumption | omega)) lk_X4_71 (hP.sub (ws' := [(hr, .inr (3, [.ref ra])), (ra, .inl (cI, 108, .inl f))]) [1, 2] rfl) rfl rfl hl.1 rfl rfl (Nat.le_of_ble_eq_true rfl) ⟨Nat.le_of_ble_eq_true rfl, Nat.le_of_ble_eq_true rfl⟩ ⟨Nat.le_of_ble_eq_true rfl, Nat.le_of_ble_eq_true rfl⟩ dX4_allNumbersAdded_29 ?_
              refine lv_iadd hx hb dX4_allNumbersAdded_32 ?_
              refine lv_istore_n (lv' := [(1, .int ((sr f i (sa f z i) j) + (f (12 * i + j)))), (0, .ref h0), (2, .int (nI i)), (3, .int (nI j))]) hx hb dX4_allNumbersAdded_33 rfl hl (by decide) rfl (fun ls hl => ?_)
              refine lv_iinc (v := nI (j + 1)) (lv' := [(3, .int (nI (j + 1))), (1, .int ((sr f i (sa f z i) j) + (f (12 * i + j)))), (0, .ref h0), (2, .int (nI i))]) hx hb dX4_allNumbersAdded_34 hl (k := 3) rfl (nI_1 _) (by decide) rfl (fun ls hl => ?_)
              refine lv_goto (tgt := 14) hx hb dX4_allNumbersAdded_37 (by decide) ?_
              have hl : lv_has ls 4 [(3, .int (nI (j + 1))), (1, .int (sr f i (sa f z i) (j + 1))), (0, .ref h0), (2, .int (nI i))] := lv_rep hl (congrArg (fun z_ : Int32 => ([(3, .int (nI (j + 1))), (1, .int z_), (0, .ref h0), (2, .int (nI i))] : List (Nat × Value))) (show ((sr f i (sa f z i) j) + (f (12 * i + j)) : Int32) = sr f i (sa f z i) (j + 1) from rfl))
              exact ih14  (j + 1) (by omega) (by omega) _ (lv_sub hl [2, 1, 3, 0] rfl)
        have hl : lv_has ls 4 [(3, .int (nI 0)), (0, .ref h0), (1, .int (sr f i (sa f z i) 0)), (2, .int (nI i))] := lv_rep hl (congrArg (fun z_ : Int32 => ([(3, .int (nI 0)), (0, .ref h0), (1, .int z_), (2, .int (nI i))] : List (Nat × Value))) (show (sa f z i : Int32) = sr f i (sa f z i) 0 from rfl))
        exact LP14 ((z - 0) + 1) 0 (Nat.zero_le _) (Nat.lt_succ_self _) _ (lv_sub hl [1, 2, 3, 0] rfl)
  have hl : lv_has ls 4 [(2, .int (nI 0)), (1, .int (sa f z 0)), (0, .ref h0)] := lv_rep hl (congrArg (fun z_ : Int32 => ([(2, .int (nI 0)), (1, .int z_), (0, .ref h0)] : List (Nat × Value))) (show (nI 0 : Int32) = sa f z 0 from rfl))
  exact LP4 ((n - 0) + 1) 0 (Nat.zero_le _) (Nat.lt_succ_self _) _ (lv_sub hl [2, 1, 0] rfl)

set_option maxHeartbeats 4000000 in
set_option maxRecDepth 100000 in
theorem c_X1_has (l : Launch) (G : va_G) (cI cZ : ClassId) (h0 : Nat) (ht : Nat) (qa : Nat) (qb : Nat) (rd : Nat) (ln : Nat) (lz : Nat) (L : List (List Nat)) (k : Int32) : CR l G cI cZ yX1_has cX1_has 2 .boolean 0 0 [.ref h0, .int k] [(h0, .inr (1, [.ref ht, .int (nI L.length), .int (nI rd), .int (nI ln), .int (nI lz), .ref qa, .ref qb]))] (b2i (hasB k L.length)) := by
  refine CR.of (own := RX1) (by decide) rfl (b2i_nar _) (Nat.le_of_ble_eq_true rfl) ?_
  intro p e R s m args below meth c H Q X hR fin hP ls hl
  subst hR
  have hx := X.1
  have hb := X.2.1
  have hl : lv_has ls 2 [(0, .ref h0), (1, .int k)] := hl
  refine lv_iload_n hx hb dX1_has_0 rfl (lv_at hl 1 rfl) ?_
  refine lv_if_lt (tgt := 16) hx hb dX1_has_1 (by decide) (fun c_1 => ?_) (fun c_1 => ?_)
  · refine lv_iconst (v := nI 0) hx hb dX1_has_16 (by decide) ?_
    exact st_eq (show (nI 0 : Int32) = b2i (hasB k L.length) from by first | exact hasB_1 c_1 c_9 | exact hasB_2 c_1 | exact hasB_3 c_9) (fin _ _ dX1_has_17)
  · refine lv_iload_n hx hb dX1_has_4 rfl (lv_at hl 1 rfl) ?_
    refine lv_aload_n hx hb dX1_has_5 rfl (lv_at hl 0 rfl) ?_
    refine x_get (C := RX1) (T := TX1) (N := 7) (ci := 1) 1 inT_X1 rfl (by decide) lf_X1_15 rfl X hP 0 rfl rfl dX1_has_6 ?_
    refine lv_icmp_ge (tgt := 16) hx hb dX1_has_9 (by decide) (fun c_9 => ?_) (fun c_9 => ?_)
    · refine lv_iconst (v := nI 0) hx hb dX1_has_16 (by decide) ?_
      exact st_eq (show (nI 0 : Int32) = b2i (hasB k L.length) from by first | exact hasB_1 c_1 c_9 | exact hasB_2 c_1 | exact hasB_3 c_9) (fin _ _ dX1_has_17)
    · refine lv_iconst (v := nI 1) hx hb dX1_has_12 (by decide) ?_
      refine lv_goto (tgt := 17) hx hb dX1_has_13 (by decide) ?_
      exact st_eq (show (nI 1 : Int32) = b2i (hasB k L.length) from by first | exact hasB_1 c_1 c_9 | exact hasB_2 c_1 | exact hasB_3 c_9) (fin _ _ dX1_has_17)

set_option maxHeartbeats 4000000 in
set_option maxRecDepth 100000 in
theorem c_X1_told (l : Launch) (G : va_G) (cI cZ : ClassId) (h0 : Nat) (ht : Nat) (qa : Nat) (qb : Nat) (rd : Nat) (ln : Nat) (lz : Nat) (L : List (List Nat)) (tb : Nat → Int32) (k : Nat) (w : Nat) (htb : LTc tb L) (hL : L.length ≤ 144) (hk : k < L.length) (hw : w < 6) : CR l G cI cZ yX1_told cX1_told 3 .int 1 22 [.ref h0, .int (nI k), .int (nI w)] [(h0, .inr (1, [.ref ht, .int (nI L.length), .int (nI rd), .int (nI ln), .int (nI lz), .ref qa, .ref qb])), (ht, .inl (cI, 864, .inl tb))] (nI (lt L k w)) := by
  refine CR.of (own := RX1) (by decide) rfl rfl (Nat.le_of_ble_eq_true rfl) ?_
  intro p e R s m args below meth c H Q X hR fin hP ls hl
  subst hR
  have hx := X.1
  have hb := X.2.1
  have hl : lv_has ls 3 [(0, .ref h0), (1, .int (nI k)), (2, .int (nI w))] := hl
  refine lv_aload_n hx hb dX1_told_0 rfl (lv_at hl 0 rfl) ?_
  refine lv_iload_n hx hb dX1_told_1 rfl (lv_at hl 1 rfl) ?_
  refine cR_V (As := [.int (nI k)]) (rest := []) X (c_X1_has l G cI cZ h0 ht qa qb rd ln lz L (nI k) ) lk_X1_52 (hP.sub (ws' := [(h0, .inr (1, [.ref ht, .int (nI L.length), .int (nI rd), .int (nI ln), .int (nI lz), .ref qa, .ref qb]))]) [0] rfl) rfl rfl hl.1 rfl rfl (Nat.le_of_ble_eq_true rfl) ⟨Nat.le_of_ble_eq_true rfl, Nat.le_of_ble_eq_true rfl⟩ ⟨Nat.le_of_ble_eq_true rfl, Nat.le_of_ble_eq_true rfl⟩ dX1_told_2 ?_
  refine st_eq (show (b2i (hasB (nI k) L.length) : Int32) = b2i true from congrArg b2i (hasB_N hk (by omega))) ?_
  refine b_if_eq (tgt := 31) hx hb dX1_told_5 (by decide) (fun c_5 => ?_) (fun c_5 => ?_)
  · exact absurd ((rfl : true = true).symm.trans c_5) (by decide)
  · refine lv_iload_n hx hb dX1_told_8 rfl (lv_at hl 2 rfl) ?_
    refine lv_iconst (v := nI 0) hx hb dX1_told_9 (by decide) ?_
    refine lv_iconst (v := nI 5) hx hb dX1_told_10 (by decide) ?_
    refine cR_SN (As := [.int (nI w), .int (nI 0), .int (nI 5)]) (rest := []) X (c_X5_isWithin l G cI cZ (nI w) (nI 0) (nI 5) ) lk_X1_56 (hP.sub (ws' := []) [] rfl) hl.1 rfl rfl (Nat.le_of_ble_eq_true rfl) ⟨Nat.le_of_ble_eq_true rfl, Nat.le_of_ble_eq_true rfl⟩ ⟨Nat.le_of_ble_eq_true rfl, Nat.le_of_ble_eq_true rfl⟩ dX1_told_11 ?_
    refine st_eq (show (b2i (inB (nI w) (nI 0) (nI 5)) : Int32) = b2i true from congrArg b2i (inB_tt (by omega) (by omega) (by omega))) ?_
    refine b_if_eq (tgt := 31) hx hb dX1_told_14 (by decide) (fun c_14 => ?_) (fun c_14 => ?_)
    · exact absurd ((rfl : true = true).symm.trans c_14) (by decide)
    · refine lv_aload_n hx hb dX1_told_17 rfl (lv_at hl 0 rfl) ?_
      refine x_get (C := RX1) (T := TX1) (N := 7) (ci := 1) 0 inT_X1 rfl (by decide) lf_X1_9 rfl X hP 0 rfl rfl dX1_told_18 ?_
      refine lv_iload_n hx hb dX1_told_21 rfl (lv_at hl 1 rfl) ?_
      refine lv_bipush (v := nI 6) hx hb dX1_told_22 (by decide) ?_
      refine n_mul hx hb dX1_told_24  ?_
      refine lv_iload_n hx hb dX1_told_25 rfl (lv_at hl 2 rfl) ?_
      refine n_add hx hb dX1_told_26  ?_
      refine n_iald X hP 1 rfl (by omega) (by decide) dX1_told_27 ?_
      refine st_eq (show (tb ((k * 6) + w) : Int32) = nI (lt L k w) from by rw [Nat.mul_comm k 6]; exact htb k hk w hw) ?_
      refine lv_goto (tgt := 32) hx hb dX1_told_28 (by decide) ?_
      exact fin _ _ dX1_told_32

set_option maxHeartbeats 4000000 in
set_option maxRecDepth 100000 in
theorem c_X1_brings (l : Launch) (G : va_G) (cI cZ : ClassId) (h0 : Nat) (ht : Nat) (qa : Nat) (qb : Nat) (rd : Nat) (ln : Nat) (lz : Nat) (L : List (List Nat)) (tb : Nat → Int32) (n : Nat) (z : Nat) (k : Nat) (q : Nat) (htb : LTc tb L) (hwf : WFL L rd n z) (hn9 : n ≤ 9) (hz : z ≤ 99) (hk : k < L.length) (hq : q < 12) : CR l G cI cZ yX1_brings cX1_brings 4 .boolean 2 44 [.ref h0, .int (nI k), .int (nI q)] [(h0, .inr (1, [.ref ht, .int (nI L.length), .int (nI rd), .int (nI ln), .int (nI lz), .ref qa, .ref qb])), (ht, .inl (cI, 864, .inl tb))] (b2i (brB L k q)) := by
  have hL := hwf.1
  obtain ⟨w0, w1, w2, w3, w4⟩ := hwf.2 k hk
  refine CR.of (own := RX1) (by decide) rfl (b2i_nar _) (Nat.le_of_ble_eq_true rfl) ?_
  intro p e R s m args below meth c H Q X hR fin hP ls hl
  subst hR
  have hx := X.1
  have hb := X.2.1
  have hl : lv_has ls 4 [(0, .ref h0), (1, .int (nI k)), (2, .int (nI q))] := hl
  refine lv_aload_n hx hb dX1_brings_0 rfl (lv_at hl 0 rfl) ?_
  refine lv_iload_n hx hb dX1_brings_1 rfl (lv_at hl 1 rfl) ?_
  refine lv_iconst (v := nI 3) hx hb dX1_brings_2 (by decide) ?_
  refine cR_V (As := [.int (nI k), .int (nI 3)]) (rest := []) X (c_X1_told l G cI cZ h0 ht qa qb rd ln lz L tb k 3 (by first | assumption | omega) (by first | assumption | omega) (by first | assumption | omega) (by first | assumption | omega)) lk_X1_60 (hP.sub (ws' := [(h0, .inr (1, [.ref ht, .int (nI L.length), .int (nI rd), .int (nI ln), .int (nI lz), .ref qa, .ref qb])), (ht, .inl (cI, 864, .inl tb))]) [0, 1] rfl) rfl rfl hl.1 rfl rfl (Nat.le_of_ble_eq_true rfl) ⟨Nat.le_of_ble_eq_true rfl, Nat.le_of_ble_eq_true rfl⟩ ⟨Nat.le_of_ble_eq_true rfl, Nat.le_of_ble_eq_true rfl⟩ dX1_brings_3 ?_
  refine lv_istore_n (lv' := [(3, .int (nI (lt L k 3))), (0, .ref h0), (1, .int (nI k)), (2, .int (nI q))]) hx hb dX1_brings_6 rfl hl (by decide) rfl (fun ls hl => ?_)
  refine lv_iload_n hx hb dX1_brings_7 rfl (lv_at hl 3 rfl) ?_
  refine lv_iload_n hx hb dX1_brings_8 rfl (lv_at hl 0 rfl) ?_
  refine n_icmp_lt (tgt := 28) hx hb dX1_brings_9 (by decide) (by omega) (by omega) (fun c_9 => ?_) (fun c_9 => ?_)
  · refine lv_iconst (v := nI 0) hx hb dX1_brings_28 (by decide) ?_
    exact st_eq (show (nI 0 : Int32) = b2i (brB L k q) from by first | (simp [brB, c_9, c_21, b2i, Nat.not_le.mpr c_9]; done) | (simp [brB, c_9, c_21, b2i]; rfl) | (simp [brB, Nat.not_le.mpr c_9, b2i]; rfl) | (simp [brB, Nat.not_lt.mpr c_21, b2i]; rfl)) (fin _ _ dX1_brings_29)
  · refine lv_iload_n hx hb dX1_brings_12 rfl (lv_at hl 3 rfl) ?_
    refine lv_iload_n hx hb dX1_brings_13 rfl (lv_at hl 0 rfl) ?_
    refine lv_aload_n hx hb dX1_brings_14 rfl (lv_at hl 1 rfl) ?_
    refine lv_iload_n hx hb dX1_brings_15 rfl (lv_at hl 2 rfl) ?_
    refine lv_iconst (v := nI 4) hx hb dX1_brings_16 (by decide) ?_
    refine cR_V (As := [.int (nI k), .int (nI 4)]) (rest := [.int (nI (lt L k 3)), .int (nI q)]) X (c_X1_told l G cI cZ h0 ht qa qb rd ln lz L tb k 4 (by first | assumption | omega) (by first | assumption | omega) (by first | assumption | omega) (by first | assumption | omega)) lk_X1_60 (hP.sub (ws' := [(h0, .inr (1, [.ref ht, .int (nI L.length), .int (nI rd), .int (nI ln), .int (nI lz), .ref qa, .ref qb])), (ht, .inl (cI, 864, .inl tb))]) [0, 1] rfl) rfl rfl hl.1 rfl rfl (Nat.le_of_ble_eq_true rfl) ⟨Nat.le_of_ble_eq_true rfl, Nat.le_of_ble_eq_true rfl⟩ ⟨Nat.le_of_ble_eq_true rfl, Nat.le_of_ble_eq_true rfl⟩ dX1_brings_17 ?_
    refine n_add hx hb dX1_brings_20  ?_
    refine n_icmp_ge (tgt := 28) hx hb dX1_brings_21 (by decide) (by omega) (by omega) (fun c_21 => ?_) (fun c_21 => ?_)
    · refine lv_iconst (v := nI 0) hx hb dX1_brings_28 (by decide) ?_
      exact st_eq (show (nI 0 : Int32) = b2i (brB L k q) from by first | (simp [brB, c_9, c_21, b2i, Nat.not_le.mpr c_9]; done) | (simp [brB, c_9, c_21, b2i]; rfl) | (simp [brB, Nat.not_le.mpr c_9, b2i]; rfl) | (simp [brB, Nat.not_lt.mpr c_21, b2i]; rfl)) (fin _ _ dX1_brings_29)
    · refine lv_iconst (v := nI 1) hx hb dX1_brings_24 (by decide) ?_
      refine lv_goto (tgt := 29) hx hb dX1_brings_25 (by decide) ?_
      exact st_eq (show (nI 1 : Int32) = b2i (brB L k q) from by first | (simp [brB, c_9, c_21, b2i, Nat.not_le.mpr c_9]; done) | (simp [brB, c_9, c_21, b2i]; rfl) | (simp [brB, Nat.not_le.mpr c_9, b2i]; rfl) | (simp [brB, Nat.not_lt.mpr c_21, b2i]; rfl)) (fin _ _ dX1_brings_29)

set_option maxHeartbeats 4000000 in
set_option maxRecDepth 100000 in
theorem c_X1_numbersInAll (l : Launch) (G : va_G) (cI cZ : ClassId) (h0 : Nat) (ht : Nat) (qa : Nat) (qb : Nat) (rd : Nat) (ln : Nat) (lz : Nat) (L : List (List Nat)) (tb : Nat → Int32) (htb : LTc tb L) (hL : L.length ≤ 144) : CR l G cI cZ yX1_numbersInAll cX1_numbersInAll 3 .int 2 44 [.ref h0] [(h0, .inr (1, [.ref ht, .int (nI L.length), .int (nI rd), .int (nI ln), .int (nI lz), .ref qa, .ref qb])), (ht, .inl (cI, 864, .inl tb))] (nI (sl L L.length)) := by
  refine CR.of (own := RX1) (by decide) rfl rfl (Nat.le_of_ble_eq_true rfl) ?_
  intro p e R s m args below meth c H Q X hR fin hP ls hl
  subst hR
  have hx := X.1
  have hb := X.2.1
  have hl : lv_has ls 3 [(0, .ref h0)] := hl
  refine lv_iconst (v := nI 0) hx hb dX1_numbersInAll_0 (by decide) ?_
  refine lv_istore_n (lv' := [(1, .int (nI 0)), (0, .ref h0)]) hx hb dX1_numbersInAll_1 rfl hl (by decide) rfl (fun ls hl => ?_)
  refine lv_iconst (v := nI 0) hx hb dX1_numbersInAll_2 (by decide) ?_
  refine lv_istore_n (lv' := [(2, .int (nI 0)), (1, .int (nI 0)), (0, .ref h0)]) hx hb dX1_numbersInAll_3 rfl hl (by decide) rfl (fun ls hl => ?_)
  have LP4 : ∀ (fu : Nat) (i : Nat), (i ≤ L.length) → (L.length - i) < fu → ∀ (ls : Array Slot), lv_has ls 3 [(0, .ref h0), (1, .int (nI (sl L i))), (2, .int (nI i))] → W p l e ({ frames := 2, cells := 0, slots := 0, locals := 44 } : Room) s m args below meth c H [] 0 0 Q (F0 m 4 ls []) := by
    intro fu
    induction fu with
    | zero =>
      intro i hi hfu
      exact absurd hfu (Nat.not_lt_zero _)
    | succ fu ih4 =>
      intro i hi hfu  ls hl
      refine lv_iload_n hx hb dX1_numbersInAll_4 rfl (lv_at hl 2 rfl) ?_
      refine lv_aload_n hx hb dX1_numbersInAll_5 rfl (lv_at hl 0 rfl) ?_
      refine x_get (C := RX1) (T := TX1) (N := 7) (ci := 1) 1 inT_X1 rfl (by decide) lf_X1_15 rfl X hP 0 rfl rfl dX1_numbersInAll_6 ?_
      refine n_icmp_ge (tgt := 27) hx hb dX1_numbersInAll_9 (by decide) (by omega) (by omega) (fun c_9 => ?_) (fun c_9 => ?_)
      · refine lv_iload_n hx hb dX1_numbersInAll_27 rfl (lv_at hl 1 rfl) ?_
        exact st_eq (show (nI (sl L i) : Int32) = nI (sl L L.length) from by rw [show i = L.length by omega]) (fin _ _ dX1_numbersInAll_28)
      · refine lv_iload_n hx hb dX1_numbersInAll_12 rfl (lv_at hl 1 rfl) ?_
        refine lv_aload_n hx hb dX1_numbersInAll_13 rfl (lv_at hl 0 rfl) ?_
        refine lv_iload_n hx hb dX1_numbersInAll_14 rfl (lv_at hl 2 rfl) ?_
        refine lv_iconst (v := nI 4) hx hb dX1_numbersInAll_15 (by decide) ?_
        refine cR_V (As := [.int (nI i), .int (nI 4)]) (rest := [.int (nI (sl L i))]) X (c_X1_told l G cI cZ h0 ht qa qb rd ln lz L tb i 4 (by first | assumption | omega) (by first | assumption | omega) (by first | assumption | omega) (by first | assumption | omega)) lk_X1_60 (hP.sub (ws' := [(h0, .inr (1, [.ref ht, .int (nI L.length), .int (nI rd), .int (nI ln), .int (nI lz), .ref qa, .ref qb])), (ht, .inl (cI, 864, .inl tb))]) [0, 1] rfl) rfl rfl hl.1 rfl rfl (Nat.le_of_ble_eq_true rfl) ⟨Nat.le_of_ble_eq_true rfl, Nat.le_of_ble_eq_true rfl⟩ ⟨Nat.le_of_ble_eq_true rfl, Nat.le_of_ble_eq_true rfl⟩ dX1_numbersInAll_16 ?_
        refine n_add hx hb dX1_numbersInAll_19  ?_
        refine lv_istore_n (lv' := [(1, .int (nI ((sl L i) + (lt L i 4)))), (0, .ref h0), (2, .int (nI i))]) hx hb dX1_numbersInAll_20 rfl hl (by decide) rfl (fun ls hl => ?_)
        refine lv_iinc (v := nI (i + 1)) (lv' := [(2, .int (nI (i + 1))), (1, .int (nI ((sl L i) + (lt L i 4)))), (0, .ref h0)]) hx hb dX1_numbersInAll_21 hl (k := 2) rfl (nI_1 _) (by decide) rfl (fun ls hl => ?_)
        refine lv_goto (tgt := 4) hx hb dX1_numbersInAll_24 (by decide) ?_
        have hl : lv_has ls 3 [(2, .int (nI (i + 1))), (1, .int (nI (sl L (i + 1)))), (0, .ref h0)] := lv_rep hl (congrArg (fun z_ : Int32 => ([(2, .int (nI (i + 1))), (1, .int z_), (0, .ref h0)] : List (Nat × Value))) (show (nI ((sl L i) + (lt L i 4)) : Int32) = nI (sl L (i + 1)) from rfl))
        exact ih4  (i + 1) (by omega) (by omega) _ (lv_sub hl [2, 1, 0] rfl)
  have hl : lv_has ls 3 [(2, .int (nI 0)), (1, .int (nI (sl L 0))), (0, .ref h0)] := lv_rep hl (congrArg (fun z_ : Int32 => ([(2, .int (nI 0)), (1, .int z_), (0, .ref h0)] : List (Nat × Value))) (show (nI 0 : Int32) = nI (sl L 0) from rfl))
  exact LP4 ((L.length - 0) + 1) 0 (Nat.zero_le _) (Nat.lt_succ_self _) _ (lv_sub hl [2, 1, 0] rfl)

set_option maxHeartbeats 4000000 in
set_option maxRecDepth 100000 in
theorem c_X4_priceOf (l : Launch) (G : va_G) (cI cZ : ClassId) (h0 : Nat) (hr : Nat) (hs : Nat) (mn : Nat) (mz : Nat) (op : Int32) (st : Int32) (ea : Int32) (g : Nat → Int32) (h1 : Nat) (ht : Nat) (qa : Nat) (qb : Nat) (rd : Nat) (ln : Nat) (lz : Nat) (L : List (List Nat)) (tb : Nat → Int32) (n : Nat) (z : Nat) (k : Nat) (htb : LTc tb L) (hwf : WFL L rd n z) (hn9 : n ≤ 9) (hz : z ≤ 99) (hk : k < L.length) : CR l G cI cZ yX4_priceOf cX4_priceOf 4 .int 3 65 [.ref h0, .ref h1, .int (nI k)] [(h0, .inr (4, [.ref hr, .ref hs, .int (nI mn), .int (nI mz), .int op, .int st, .int ea])), (hs, .inl (cI, 81, .inl g)), (h1, .inr (1, [.ref ht, .int (nI L.length), .int (nI rd), .int (nI ln), .int (nI lz), .ref qa, .ref qb])), (ht, .inl (cI, 864, .inl tb))] (prc st ea g L k) := by
  have hL := hwf.1
  obtain ⟨w0, w1, w2, w3, w4⟩ := hwf.2 k hk
  refine CR.of (own := RX4) (by decide) rfl rfl (Nat.le_of_ble_eq_true rfl) ?_
  intro p e R s m args below meth c H Q X hR fin hP ls hl
  subst hR
  have hx := X.1
  have hb := X.2.1
  have hl : lv_has ls 4 [(0, .ref h0), (1, .ref h1), (2, .int (nI k))] := hl
  refine lv_aload_n hx hb dX4_priceOf_0 rfl (lv_at hl 0 rfl) ?_
  refine lv_aload_n hx hb dX4_priceOf_1 rfl (lv_at hl 1 rfl) ?_
  refine lv_iload_n hx hb dX4_priceOf_2 rfl (lv_at hl 2 rfl) ?_
  refine lv_iconst (v := nI 1) hx hb dX4_priceOf_3 (by decide) ?_
  refine cR_V (As := [.int (nI k), .int (nI 1)]) (rest := [.ref h0]) X (c_X1_told l G cI cZ h1 ht qa qb rd ln lz L tb k 1 (by first | assumption | omega) (by first | assumption | omega) (by first | assumption | omega) (by first | assumption | omega)) lk_X4_77 (hP.sub (ws' := [(h1, .inr (1, [.ref ht, .int (nI L.length), .int (nI rd), .int (nI ln), .int (nI lz), .ref qa, .ref qb])), (ht, .inl (cI, 864, .inl tb))]) [2, 3] rfl) rfl rfl hl.1 rfl rfl (Nat.le_of_ble_eq_true rfl) ⟨Nat.le_of_ble_eq_true rfl, Nat.le_of_ble_eq_true rfl⟩ ⟨Nat.le_of_ble_eq_true rfl, Nat.le_of_ble_eq_true rfl⟩ dX4_priceOf_4 ?_
  refine lv_aload_n hx hb dX4_priceOf_7 rfl (lv_at hl 1 rfl) ?_
  refine lv_iload_n hx hb dX4_priceOf_8 rfl (lv_at hl 2 rfl) ?_
  refine lv_iconst (v := nI 2) hx hb dX4_priceOf_9 (by decide) ?_
  refine cR_V (As := [.int (nI k), .int (nI 2)]) (rest := [.int (nI (lt L k 1)), .ref h0]) X (c_X1_told l G cI cZ h1 ht qa qb rd ln lz L tb k 2 (by first | assumption | omega) (by first | assumption | omega) (by first | assumption | omega) (by first | assumption | omega)) lk_X4_77 (hP.sub (ws' := [(h1, .inr (1, [.ref ht, .int (nI L.length), .int (nI rd), .int (nI ln), .int (nI lz), .ref qa, .ref qb])), (ht, .inl (cI, 864, .inl tb))]) [2, 3] rfl) rfl rfl hl.1 rfl rfl (Nat.le_of_ble_eq_true rfl) ⟨Nat.le_of_ble_eq_true rfl, Nat.le_of_ble_eq_true rfl⟩ ⟨Nat.le_of_ble_eq_true rfl, Nat.le_of_ble_eq_true rfl⟩ dX4_priceOf_10 ?_
  refine cR_V (As := [.int (nI (lt L k 1)), .int (nI (lt L k 2))]) (rest := []) X (c_X4_slowness l G cI cZ h0 hr hs mn mz op st ea g (lt L k 1) (lt L k 2) (by first | assumption | omega) (by first | assumption | omega)) lk_X4_82 (hP.sub (ws' := [(h0, .inr (4, [.ref hr, .ref hs, .int (nI mn), .int (nI mz), .int op, .int st, .int ea])), (hs, .inl (cI, 81, .inl g))]) [0, 1] rfl) rfl rfl hl.1 rfl rfl (Nat.le_of_ble_eq_true rfl) ⟨Nat.le_of_ble_eq_true rfl, Nat.le_of_ble_eq_true rfl⟩ ⟨Nat.le_of_ble_eq_true rfl, Nat.le_of_ble_eq_true rfl⟩ dX4_priceOf_13 ?_
  refine lv_istore_n (lv' := [(3, .int (g (9 * (lt L k 1) + (lt L k 2)))), (0, .ref h0), (1, .ref h1), (2, .int (nI k))]) hx hb dX4_priceOf_16 rfl hl (by decide) rfl (fun ls hl => ?_)
  refine lv_aload_n hx hb dX4_priceOf_17 rfl (lv_at hl 1 rfl) ?_
  refine x_get (C := RX4) (T := TX4) (N := 7) (ci := 4) 5 inT_X4 rfl (by decide) lf_X4_32 rfl X hP 0 rfl rfl dX4_priceOf_18 ?_
  refine lv_aload_n hx hb dX4_priceOf_21 rfl (lv_at hl 1 rfl) ?_
  refine x_get (C := RX4) (T := TX4) (N := 7) (ci := 4) 6 inT_X4 rfl (by decide) lf_X4_35 rfl X hP 0 rfl rfl dX4_priceOf_22 ?_
  refine lv_aload_n hx hb dX4_priceOf_25 rfl (lv_at hl 2 rfl) ?_
  refine lv_iload_n hx hb dX4_priceOf_26 rfl (lv_at hl 3 rfl) ?_
  refine lv_iconst (v := nI 4) hx hb dX4_priceOf_27 (by decide) ?_
  refine cR_V (As := [.int (nI k), .int (nI 4)]) (rest := [.int ea, .int st]) X (c_X1_told l G cI cZ h1 ht qa qb rd ln lz L tb k 4 (by first | assumption | omega) (by first | assumption | omega) (by first | assumption | omega) (by first | assumption | omega)) lk_X4_77 (hP.sub (ws' := [(h1, .inr (1, [.ref ht, .int (nI L.length), .int (nI rd), .int (nI ln), .int (nI lz), .ref qa, .ref qb])), (ht, .inl (cI, 864, .inl tb))]) [2, 3] rfl) rfl rfl hl.1 rfl rfl (Nat.le_of_ble_eq_true rfl) ⟨Nat.le_of_ble_eq_true rfl, Nat.le_of_ble_eq_true rfl⟩ ⟨Nat.le_of_ble_eq_true rfl, Nat.le_of_ble_eq_true rfl⟩ dX4_priceOf_28 ?_
  refine lv_imul hx hb dX4_priceOf_31 ?_
  refine lv_iadd hx hb dX4_priceOf_32 ?_
  refine lv_iload_n hx hb dX4_priceOf_33 rfl (lv_at hl 0 rfl) ?_
  refine lv_imul hx hb dX4_priceOf_34 ?_
  exact st_eq (show ((st + (ea * (nI (lt L k 4)))) * (g (9 * (lt L k 1) + (lt L k 2))) : Int32) = prc st ea g L k from rfl) (fin _ _ dX4_priceOf_35)

set_option maxHeartbeats 4000000 in
set_option maxRecDepth 100000 in
theorem c_X1_partStart (l : Launch) (G : va_G) (cI cZ : ClassId) (h0 : Nat) (ht : Nat) (qa : Nat) (qb : Nat) (rd : Nat) (ln : Nat) (lz : Nat) (L : List (List Nat)) (q : Nat) (hn : 1 ≤ ln) (hn9 : ln ≤ 9) (hz : lz ≤ 99) (hq : q ≤ 10) : CR l G cI cZ yX1_partStart cX1_partStart 2 .int 0 0 [.ref h0, .int (nI q)] [(h0, .inr (1, [.ref ht, .int (nI L.length), .int (nI rd), .int (nI ln), .int (nI lz), .ref qa, .ref qb]))] (nI (lz * q / ln)) := by
  refine CR.of (own := RX1) (by decide) rfl rfl (Nat.le_of_ble_eq_true rfl) ?_
  intro p e R s m args below meth c H Q X hR fin hP ls hl
  subst hR
  have hx := X.1
  have hb := X.2.1
  have hl : lv_has ls 2 [(0, .ref h0), (1, .int (nI q))] := hl
  refine lv_aload_n hx hb dX1_partStart_0 rfl (lv_at hl 0 rfl) ?_
  refine x_get (C := RX1) (T := TX1) (N := 7) (ci := 1) 3 inT_X1 rfl (by decide) lf_X1_22 rfl X hP 0 rfl rfl dX1_partStart_1 ?_
  refine n_if_le (tgt := 21) hx hb dX1_partStart_4 (by decide) (by omega) (fun c_4 => ?_) (fun c_4 => ?_)
  · exfalso; omega
  · refine lv_aload_n hx hb dX1_partStart_7 rfl (lv_at hl 0 rfl) ?_
    refine x_get (C := RX1) (T := TX1) (N := 7) (ci := 1) 4 inT_X1 rfl (by decide) lf_X1_25 rfl X hP 0 rfl rfl dX1_partStart_8 ?_
    refine lv_iload_n hx hb dX1_partStart_11 rfl (lv_at hl 1 rfl) ?_
    refine n_mul hx hb dX1_partStart_12  ?_
    refine lv_aload_n hx hb dX1_partStart_13 rfl (lv_at hl 0 rfl) ?_
    refine x_get (C := RX1) (T := TX1) (N := 7) (ci := 1) 3 inT_X1 rfl (by decide) lf_X1_22 rfl X hP 0 rfl rfl dX1_partStart_14 ?_
    refine n_div hx hb dX1_partStart_17 (Nat.lt_of_le_of_lt (Nat.mul_le_mul hz hq) (by decide)) (by omega) (by omega) ?_
    refine lv_goto (tgt := 22) hx hb dX1_partStart_18 (by decide) ?_
    exact st_eq (show (nI ((lz * q) / ln) : Int32) = nI (lz * q / ln) from by first | rfl | simp_all) (fin _ _ dX1_partStart_22)

set_option maxHeartbeats 4000000 in
set_option maxRecDepth 100000 in
theorem c_X1_aroundTheRing (l : Launch) (G : va_G) (cI cZ : ClassId) (h0 : Nat) (ht : Nat) (qa : Nat) (qb : Nat) (rd : Nat) (ln : Nat) (lz : Nat) (L : List (List Nat)) (a : Nat) (b : Nat) (hn9 : ln ≤ 9) (ha : a ≤ ln) (hb1 : b < ln) : CR l G cI cZ yX1_aroundTheRing cX1_aroundTheRing 2 .int 0 0 [.ref h0, .int (nI a - nI b)] [(h0, .inr (1, [.ref ht, .int (nI L.length), .int (nI rd), .int (nI ln), .int (nI lz), .ref qa, .ref qb]))] (nI ((a + ln - b) % ln)) := by
  refine CR.of (own := RX1) (by decide) rfl rfl (Nat.le_of_ble_eq_true rfl) ?_
  intro p e R s m args below meth c H Q X hR fin hP ls hl
  subst hR
  have hx := X.1
  have hb := X.2.1
  have hl : lv_has ls 2 [(0, .ref h0), (1, .int (nI a - nI b))] := hl
  refine lv_iload_n hx hb dX1_aroundTheRing_0 rfl (lv_at hl 1 rfl) ?_
  refine lv_if_ge (tgt := 13) hx hb dX1_aroundTheRing_1 (by decide) (fun c_1 => ?_) (fun c_1 => ?_)
  · refine lv_iload_n hx hb dX1_aroundTheRing_13 rfl (lv_at hl 1 rfl) ?_
    refine lv_aload_n hx hb dX1_aroundTheRing_14 rfl (lv_at hl 0 rfl) ?_
    refine x_get (C := RX1) (T := TX1) (N := 7) (ci := 1) 3 inT_X1 rfl (by decide) lf_X1_22 rfl X hP 0 rfl rfl dX1_aroundTheRing_15 ?_
    refine lv_icmp_lt (tgt := 30) hx hb dX1_aroundTheRing_18 (by decide) (fun c_18 => ?_) (fun c_18 => ?_)
    · refine lv_iload_n hx hb dX1_aroundTheRing_30 rfl (lv_at hl 1 rfl) ?_
      exact st_eq (show (nI a - nI b : Int32) = nI ((a + ln - b) % ln) from by first | exact ar1 ln (by omega) a (by omega) b (by omega) ha hb1 c_1 | exact ar2 ln (by omega) a (by omega) b (by omega) ha hb1 c_1 c_18 | exact ar3 ln (by omega) a (by omega) b (by omega) ha hb1 c_1 c_18) (fin _ _ dX1_aroundTheRing_31)
    · refine lv_iload_n hx hb dX1_aroundTheRing_21 rfl (lv_at hl 1 rfl) ?_
      refine lv_aload_n hx hb dX1_aroundTheRing_22 rfl (lv_at hl 0 rfl) ?_
      refine x_get (C := RX1) (T := TX1) (N := 7) (ci := 1) 3 inT_X1 rfl (by decide) lf_X1_22 rfl X hP 0 rfl rfl dX1_aroundTheRing_23 ?_
      refine lv_isub hx hb dX1_aroundTheRing_26 ?_
      refine lv_goto (tgt := 31) hx hb dX1_aroundTheRing_27 (by decide) ?_
      exact st_eq (show ((nI a - nI b) - (nI ln) : Int32) = nI ((a + ln - b) % ln) from by first | exact ar1 ln (by omega) a (by omega) b (by omega) ha hb1 c_1 | exact ar2 ln (by omega) a (by omega) b (by omega) ha hb1 c_1 c_18 | exact ar3 ln (by omega) a (by omega) b (by omega) ha hb1 c_1 c_18) (fin _ _ dX1_aroundTheRing_31)
  · refine lv_iload_n hx hb dX1_aroundTheRing_4 rfl (lv_at hl 1 rfl) ?_
    refine lv_aload_n hx hb dX1_aroundTheRing_5 rfl (lv_at hl 0 rfl) ?_
    refine x_get (C := RX1) (T := TX1) (N := 7) (ci := 1) 3 inT_X1 rfl (by decide) lf_X1_22 rfl X hP 0 rfl rfl dX1_aroundTheRing_6 ?_
    refine lv_iadd hx hb dX1_aroundTheRing_9 ?_
    refine lv_goto (tgt := 31) hx hb dX1_aroundTheRing_10 (by decide) ?_
    exact st_eq (show ((nI a - nI b) + (nI ln) : Int32) = nI ((a + ln - b) % ln) from by first | exact ar1 ln (by omega) a (by omega) b (by omega) ha hb1 c_1 | exact ar2 ln (by omega) a (by omega) b (by omega) ha hb1 c_1 c_18 | exact ar3 ln (by omega) a (by omega) b (by omega) ha hb1 c_1 c_18) (fin _ _ dX1_aroundTheRing_31)

set_option maxHeartbeats 4000000 in
set_option maxRecDepth 100000 in
theorem c_X1_greatestPowerOfTwo (l : Launch) (G : va_G) (cI cZ : ClassId) (h0 : Nat) (ht : Nat) (qa : Nat) (qb : Nat) (rd : Nat) (ln : Nat) (lz : Nat) (L : List (List Nat)) (hn : 2 ≤ ln) (hn9 : ln ≤ 9) : CR l G cI cZ yX1_greatestPowerOfTwo cX1_greatestPowerOfTwo 3 .int 0 0 [.ref h0] [(h0, .inr (1, [.ref ht, .int (nI L.length), .int (nI rd), .int (nI ln), .int (nI lz), .ref qa, .ref qb]))] (nI (gp2 ln)) := by
  refine CR.of (own := RX1) (by decide) rfl rfl (Nat.le_of_ble_eq_true rfl) ?_
  intro p e R s m args below meth c H Q X hR fin hP ls hl
  subst hR
  have hx := X.1
  have hb := X.2.1
  have hl : lv_has ls 3 [(0, .ref h0)] := hl
  refine lv_iconst (v := nI 1) hx hb dX1_greatestPowerOfTwo_0 (by decide) ?_
  refine lv_istore_n (lv' := [(1, .int (nI 1)), (0, .ref h0)]) hx hb dX1_greatestPowerOfTwo_1 rfl hl (by decide) rfl (fun ls hl => ?_)
  refine lv_iconst (v := nI 2) hx hb dX1_greatestPowerOfTwo_2 (by decide) ?_
  refine lv_istore_n (lv' := [(2, .int (nI 2)), (1, .int (nI 1)), (0, .ref h0)]) hx hb dX1_greatestPowerOfTwo_3 rfl hl (by decide) rfl (fun ls hl => ?_)
  refine lv_iload_n hx hb dX1_greatestPowerOfTwo_4 rfl (lv_at hl 0 rfl) ?_
  refine lv_bipush (v := nI 9) hx hb dX1_greatestPowerOfTwo_5 (by decide) ?_
  refine n_icmp_gt (tgt := 27) hx hb dX1_greatestPowerOfTwo_7 (by decide) (by omega) (by omega) (fun c_7 => ?_) (fun c_7 => ?_)
  · exfalso; omega
  · refine lv_iload_n hx hb dX1_greatestPowerOfTwo_10 rfl (lv_at hl 0 rfl) ?_
    refine lv_aload_n hx hb dX1_greatestPowerOfTwo_11 rfl (lv_at hl 2 rfl) ?_
    refine x_get (C := RX1) (T := TX1) (N := 7) (ci := 1) 3 inT_X1 rfl (by decide) lf_X1_22 rfl X hP 0 rfl rfl dX1_greatestPowerOfTwo_12 ?_
    refine n_icmp_gt (tgt := 20) hx hb dX1_greatestPowerOfTwo_15 (by decide) (by omega) (by omega) (fun c_15 => ?_) (fun c_15 => ?_)
    · refine lv_iload_n hx hb dX1_greatestPowerOfTwo_20 rfl (lv_at hl 0 rfl) ?_
      refine lv_iconst (v := nI 2) hx hb dX1_greatestPowerOfTwo_21 (by decide) ?_
      refine n_mul hx hb dX1_greatestPowerOfTwo_22  ?_
      refine lv_istore_n (lv' := [(2, .int (nI (2 * 2))), (1, .int (nI 1)), (0, .ref h0)]) hx hb dX1_greatestPowerOfTwo_23 rfl hl (by decide) rfl (fun ls hl => ?_)
      refine lv_goto (tgt := 4) hx hb dX1_greatestPowerOfTwo_24 (by decide) ?_
      refine lv_iload_n hx hb dX1_greatestPowerOfTwo_4 rfl (lv_at hl 0 rfl) ?_
      refine lv_bipush (v := nI 9) hx hb dX1_greatestPowerOfTwo_5 (by decide) ?_
      refine n_icmp_gt (tgt := 27) hx hb dX1_greatestPowerOfTwo_7 (by decide) (by omega) (by omega) (fun c_7 => ?_) (fun c_7 => ?_)
      · exfalso; omega
      · refine lv_iload_n hx hb dX1_greatestPowerOfTwo_10 rfl (lv_at hl 0 rfl) ?_
        refine lv_aload_n hx hb dX1_greatestPowerOfTwo_11 rfl (lv_at hl 2 rfl) ?_
        refine x_get (C := RX1) (T := TX1) (N := 7) (ci := 1) 3 inT_X1 rfl (by decide) lf_X1_22 rfl X hP 0 rfl rfl dX1_greatestPowerOfTwo_12 ?_
        refine n_icmp_gt (tgt := 20) hx hb dX1_greatestPowerOfTwo_15 (by decide) (by omega) (by omega) (fun c_15 => ?_) (fun c_15 => ?_)
        · refine lv_iload_n hx hb dX1_greatestPowerOfTwo_20 rfl (lv_at hl 0 rfl) ?_
          refine lv_iconst (v := nI 2) hx hb dX1_greatestPowerOfTwo_21 (by decide) ?_
          refine n_mul hx hb dX1_greatestPowerOfTwo_22  ?_
          refine lv_istore_n (lv' := [(2, .int (nI ((2 * 2) * 2))), (1, .int (nI 1)), (0, .ref h0)]) hx hb dX1_greatestPowerOfTwo_23 rfl hl (by decide) rfl (fun ls hl => ?_)
          refine lv_goto (tgt := 4) hx hb dX1_greatestPowerOfTwo_24 (by decide) ?_
          refine lv_iload_n hx hb dX1_greatestPowerOfTwo_4 rfl (lv_at hl 0 rfl) ?_
          refine lv_bipush (v := nI 9) hx hb dX1_greatestPowerOfTwo_5 (by decide) ?_
          refine n_icmp_gt (tgt := 27) hx hb dX1_greatestPowerOfTwo_7 (by decide) (by omega) (by omega) (fun c_7 => ?_) (fun c_7 => ?_)
          · exfalso; omega
          · refine lv_iload_n hx hb dX1_greatestPowerOfTwo_10 rfl (lv_at hl 0 rfl) ?_
            refine lv_aload_n hx hb dX1_greatestPowerOfTwo_11 rfl (lv_at hl 2 rfl) ?_
            refine x_get (C := RX1) (T := TX1) (N := 7) (ci := 1) 3 inT_X1 rfl (by decide) lf_X1_22 rfl X hP 0 rfl rfl dX1_greatestPowerOfTwo_12 ?_
            refine n_icmp_gt (tgt := 20) hx hb dX1_greatestPowerOfTwo_15 (by decide) (by omega) (by omega) (fun c_15 => ?_) (fun c_15 => ?_)
            · refine lv_iload_n hx hb dX1_greatestPowerOfTwo_20 rfl (lv_at hl 0 rfl) ?_
              refine lv_iconst (v := nI 2) hx hb dX1_greatestPowerOfTwo_21 (by decide) ?_
              refine n_mul hx hb dX1_greatestPowerOfTwo_22  ?_
              refine lv_istore_n (lv' := [(2, .int (nI (((2 * 2) * 2) * 2))), (1, .int (nI 1)), (0, .ref h0)]) hx hb dX1_greatestPowerOfTwo_23 rfl hl (by decide) rfl (fun ls hl => ?_)
              refine lv_goto (tgt := 4) hx hb dX1_greatestPowerOfTwo_24 (by decide) ?_
              refine lv_iload_n hx hb dX1_greatestPowerOfTwo_4 rfl (lv_at hl 0 rfl) ?_
              refine lv_bipush (v := nI 9) hx hb dX1_greatestPowerOfTwo_5 (by decide) ?_
              refine n_icmp_gt (tgt := 27) hx hb dX1_greatestPowerOfTwo_7 (by decide) (by omega) (by omega) (fun c_7 => ?_) (fun c_7 => ?_)
              · refine lv_iload_n hx hb dX1_greatestPowerOfTwo_27 rfl (lv_at hl 1 rfl) ?_
                exact st_eq (show (nI 1 : Int32) = nI (gp2 ln) from by congr 1; simp only [gp2]; split <;> (try split) <;> omega) (fin _ _ dX1_greatestPowerOfTwo_28)
              · exfalso; omega
            · refine lv_iload_n hx hb dX1_greatestPowerOfTwo_18 rfl (lv_at hl 0 rfl) ?_
              refine lv_istore_n (lv' := [(1, .int (nI ((2 * 2) * 2))), (2, .int (nI ((2 * 2) * 2))), (0, .ref h0)]) hx hb dX1_greatestPowerOfTwo_19 rfl hl (by decide) rfl (fun ls hl => ?_)
              refine lv_iload_n hx hb dX1_greatestPowerOfTwo_20 rfl (lv_at hl 1 rfl) ?_
              refine lv_iconst (v := nI 2) hx hb dX1_greatestPowerOfTwo_21 (by decide) ?_
              refine n_mul hx hb dX1_greatestPowerOfTwo_22  ?_
              refine lv_istore_n (lv' := [(2, .int (nI (((2 * 2) * 2) * 2))), (1, .int (nI ((2 * 2) * 2))), (0, .ref h0)]) hx hb dX1_greatestPowerOfTwo_23 rfl hl (by decide) rfl (fun ls hl => ?_)
              refine lv_goto (tgt := 4) hx hb dX1_greatestPowerOfTwo_24 (by decide) ?_
              refine lv_iload_n hx hb dX1_greatestPowerOfTwo_4 rfl (lv_at hl 0 rfl) ?_
              refine lv_bipush (v := nI 9) hx hb dX1_greatestPowerOfTwo_5 (by decide) ?_
              refine n_icmp_gt (tgt := 27) hx hb dX1_greatestPowerOfTwo_7 (by decide) (by omega) (by omega) (fun c_7 => ?_) (fun c_7 => ?_)
              · refine lv_iload_n hx hb dX1_greatestPowerOfTwo_27 rfl (lv_at hl 1 rfl) ?_
                exact st_eq (show (nI ((2 * 2) * 2) : Int32) = nI (gp2 ln) from by congr 1; simp only [gp2]; split <;> (try split) <;> omega) (fin _ _ dX1_greatestPowerOfTwo_28)
              · exfalso; omega
        · refine lv_iload_n hx hb dX1_greatestPowerOfTwo_18 rfl (lv_at hl 0 rfl) ?_
          refine lv_istore_n (lv' := [(1, .int (nI (2 * 2))), (2, .int (nI (2 * 2))), (0, .ref h0)]) hx hb dX1_greatestPowerOfTwo_19 rfl hl (by decide) rfl (fun ls hl => ?_)
          refine lv_iload_n hx hb dX1_greatestPowerOfTwo_20 rfl (lv_at hl 1 rfl) ?_
          refine lv_iconst (v := nI 2) hx hb dX1_greatestPowerOfTwo_21 (by decide) ?_
          refine n_mul hx hb dX1_greatestPowerOfTwo_22  ?_
          refine lv_istore_n (lv' := [(2, .int (nI ((2 * 2) * 2))), (1, .int (nI (2 * 2))), (0, .ref h0)]) hx hb dX1_greatestPowerOfTwo_23 rfl hl (by decide) rfl (fun ls hl => ?_)
          refine lv_goto (tgt := 4) hx hb dX1_greatestPowerOfTwo_24 (by decide) ?_
          refine lv_iload_n hx hb dX1_greatestPowerOfTwo_4 rfl (lv_at hl 0 rfl) ?_
          refine lv_bipush (v := nI 9) hx hb dX1_greatestPowerOfTwo_5 (by decide) ?_
          refine n_icmp_gt (tgt := 27) hx hb dX1_greatestPowerOfTwo_7 (by decide) (by omega) (by omega) (fun c_7 => ?_) (fun c_7 => ?_)
          · exfalso; omega
          · refine lv_iload_n hx hb dX1_greatestPowerOfTwo_10 rfl (lv_at hl 0 rfl) ?_
            refine lv_aload_n hx hb dX1_greatestPowerOfTwo_11 rfl (lv_at hl 2 rfl) ?_
            refine x_get (C := RX1) (T := TX1) (N := 7) (ci := 1) 3 inT_X1 rfl (by decide) lf_X1_22 rfl X hP 0 rfl rfl dX1_greatestPowerOfTwo_12 ?_
            refine n_icmp_gt (tgt := 20) hx hb dX1_greatestPowerOfTwo_15 (by decide) (by omega) (by omega) (fun c_15 => ?_) (fun c_15 => ?_)
            · refine lv_iload_n hx hb dX1_greatestPowerOfTwo_20 rfl (lv_at hl 0 rfl) ?_
              refine lv_iconst (v := nI 2) hx hb dX1_greatestPowerOfTwo_21 (by decide) ?_
              refine n_mul hx hb dX1_greatestPowerOfTwo_22  ?_
              refine lv_istore_n (lv' := [(2, .int (nI (((2 * 2) * 2) * 2))), (1, .int (nI (2 * 2))), (0, .ref h0)]) hx hb dX1_greatestPowerOfTwo_23 rfl hl (by decide) rfl (fun ls hl => ?_)
              refine lv_goto (tgt := 4) hx hb dX1_greatestPowerOfTwo_24 (by decide) ?_
              refine lv_iload_n hx hb dX1_greatestPowerOfTwo_4 rfl (lv_at hl 0 rfl) ?_
              refine lv_bipush (v := nI 9) hx hb dX1_greatestPowerOfTwo_5 (by decide) ?_
              refine n_icmp_gt (tgt := 27) hx hb dX1_greatestPowerOfTwo_7 (by decide) (by omega) (by omega) (fun c_7 => ?_) (fun c_7 => ?_)
              · refine lv_iload_n hx hb dX1_greatestPowerOfTwo_27 rfl (lv_at hl 1 rfl) ?_
                exact st_eq (show (nI (2 * 2) : Int32) = nI (gp2 ln) from by congr 1; simp only [gp2]; split <;> (try split) <;> omega) (fin _ _ dX1_greatestPowerOfTwo_28)
              · exfalso; omega
            · refine lv_iload_n hx hb dX1_greatestPowerOfTwo_18 rfl (lv_at hl 0 rfl) ?_
              refine lv_istore_n (lv' := [(1, .int (nI ((2 * 2) * 2))), (2, .int (nI ((2 * 2) * 2))), (0, .ref h0)]) hx hb dX1_greatestPowerOfTwo_19 rfl hl (by decide) rfl (fun ls hl => ?_)
              refine lv_iload_n hx hb dX1_greatestPowerOfTwo_20 rfl (lv_at hl 1 rfl) ?_
              refine lv_iconst (v := nI 2) hx hb dX1_greatestPowerOfTwo_21 (by decide) ?_
              refine n_mul hx hb dX1_greatestPowerOfTwo_22  ?_
              refine lv_istore_n (lv' := [(2, .int (nI (((2 * 2) * 2) * 2))), (1, .int (nI ((2 * 2) * 2))), (0, .ref h0)]) hx hb dX1_greatestPowerOfTwo_23 rfl hl (by decide) rfl (fun ls hl => ?_)
              refine lv_goto (tgt := 4) hx hb dX1_greatestPowerOfTwo_24 (by decide) ?_
              refine lv_iload_n hx hb dX1_greatestPowerOfTwo_4 rfl (lv_at hl 0 rfl) ?_
              refine lv_bipush (v := nI 9) hx hb dX1_greatestPowerOfTwo_5 (by decide) ?_
              refine n_icmp_gt (tgt := 27) hx hb dX1_greatestPowerOfTwo_7 (by decide) (by omega) (by omega) (fun c_7 => ?_) (fun c_7 => ?_)
              · refine lv_iload_n hx hb dX1_greatestPowerOfTwo_27 rfl (lv_at hl 1 rfl) ?_
                exact st_eq (show (nI ((2 * 2) * 2) : Int32) = nI (gp2 ln) from by congr 1; simp only [gp2]; split <;> (try split) <;> omega) (fin _ _ dX1_greatestPowerOfTwo_28)
              · exfalso; omega
    · refine lv_iload_n hx hb dX1_greatestPowerOfTwo_18 rfl (lv_at hl 0 rfl) ?_
      refine lv_istore_n (lv' := [(1, .int (nI 2)), (2, .int (nI 2)), (0, .ref h0)]) hx hb dX1_greatestPowerOfTwo_19 rfl hl (by decide) rfl (fun ls hl => ?_)
      refine lv_iload_n hx hb dX1_greatestPowerOfTwo_20 rfl (lv_at hl 1 rfl) ?_
      refine lv_iconst (v := nI 2) hx hb dX1_greatestPowerOfTwo_21 (by decide) ?_
      refine n_mul hx hb dX1_greatestPowerOfTwo_22  ?_
      refine lv_istore_n (lv' := [(2, .int (nI (2 * 2))), (1, .int (nI 2)), (0, .ref h0)]) hx hb dX1_greatestPowerOfTwo_23 rfl hl (by decide) rfl (fun ls hl => ?_)
      refine lv_goto (tgt := 4) hx hb dX1_greatestPowerOfTwo_24 (by decide) ?_
      refine lv_iload_n hx hb dX1_greatestPowerOfTwo_4 rfl (lv_at hl 0 rfl) ?_
      refine lv_bipush (v := nI 9) hx hb dX1_greatestPowerOfTwo_5 (by decide) ?_
      refine n_icmp_gt (tgt := 27) hx hb dX1_greatestPowerOfTwo_7 (by decide) (by omega) (by omega) (fun c_7 => ?_) (fun c_7 => ?_)
      · exfalso; omega
      · refine lv_iload_n hx hb dX1_greatestPowerOfTwo_10 rfl (lv_at hl 0 rfl) ?_
        refine lv_aload_n hx hb dX1_greatestPowerOfTwo_11 rfl (lv_at hl 2 rfl) ?_
        refine x_get (C := RX1) (T := TX1) (N := 7) (ci := 1) 3 inT_X1 rfl (by decide) lf_X1_22 rfl X hP 0 rfl rfl dX1_greatestPowerOfTwo_12 ?_
        refine n_icmp_gt (tgt := 20) hx hb dX1_greatestPowerOfTwo_15 (by decide) (by omega) (by omega) (fun c_15 => ?_) (fun c_15 => ?_)
        · refine lv_iload_n hx hb dX1_greatestPowerOfTwo_20 rfl (lv_at hl 0 rfl) ?_
          refine lv_iconst (v := nI 2) hx hb dX1_greatestPowerOfTwo_21 (by decide) ?_
          refine n_mul hx hb dX1_greatestPowerOfTwo_22  ?_
          refine lv_istore_n (lv' := [(2, .int (nI ((2 * 2) * 2))), (1, .int (nI 2)), (0, .ref h0)]) hx hb dX1_greatestPowerOfTwo_23 rfl hl (by decide) rfl (fun ls hl => ?_)
          refine lv_goto (tgt := 4) hx hb dX1_greatestPowerOfTwo_24 (by decide) ?_
          refine lv_iload_n hx hb dX1_greatestPowerOfTwo_4 rfl (lv_at hl 0 rfl) ?_
          refine lv_bipush (v := nI 9) hx hb dX1_greatestPowerOfTwo_5 (by decide) ?_
          refine n_icmp_gt (tgt := 27) hx hb dX1_greatestPowerOfTwo_7 (by decide) (by omega) (by omega) (fun c_7 => ?_) (fun c_7 => ?_)
          · exfalso; omega
          · refine lv_iload_n hx hb dX1_greatestPowerOfTwo_10 rfl (lv_at hl 0 rfl) ?_
            refine lv_aload_n hx hb dX1_greatestPowerOfTwo_11 rfl (lv_at hl 2 rfl) ?_
            refine x_get (C := RX1) (T := TX1) (N := 7) (ci := 1) 3 inT_X1 rfl (by decide) lf_X1_22 rfl X hP 0 rfl rfl dX1_greatestPowerOfTwo_12 ?_
            refine n_icmp_gt (tgt := 20) hx hb dX1_greatestPowerOfTwo_15 (by decide) (by omega) (by omega) (fun c_15 => ?_) (fun c_15 => ?_)
            · refine lv_iload_n hx hb dX1_greatestPowerOfTwo_20 rfl (lv_at hl 0 rfl) ?_
              refine lv_iconst (v := nI 2) hx hb dX1_greatestPowerOfTwo_21 (by decide) ?_
              refine n_mul hx hb dX1_greatestPowerOfTwo_22  ?_
              refine lv_istore_n (lv' := [(2, .int (nI (((2 * 2) * 2) * 2))), (1, .int (nI 2)), (0, .ref h0)]) hx hb dX1_greatestPowerOfTwo_23 rfl hl (by decide) rfl (fun ls hl => ?_)
              refine lv_goto (tgt := 4) hx hb dX1_greatestPowerOfTwo_24 (by decide) ?_
              refine lv_iload_n hx hb dX1_greatestPowerOfTwo_4 rfl (lv_at hl 0 rfl) ?_
              refine lv_bipush (v := nI 9) hx hb dX1_greatestPowerOfTwo_5 (by decide) ?_
              refine n_icmp_gt (tgt := 27) hx hb dX1_greatestPowerOfTwo_7 (by decide) (by omega) (by omega) (fun c_7 => ?_) (fun c_7 => ?_)
              · refine lv_iload_n hx hb dX1_greatestPowerOfTwo_27 rfl (lv_at hl 1 rfl) ?_
                exact st_eq (show (nI 2 : Int32) = nI (gp2 ln) from by congr 1; simp only [gp2]; split <;> (try split) <;> omega) (fin _ _ dX1_greatestPowerOfTwo_28)
              · exfalso; omega
            · refine lv_iload_n hx hb dX1_greatestPowerOfTwo_18 rfl (lv_at hl 0 rfl) ?_
              refine lv_istore_n (lv' := [(1, .int (nI ((2 * 2) * 2))), (2, .int (nI ((2 * 2) * 2))), (0, .ref h0)]) hx hb dX1_greatestPowerOfTwo_19 rfl hl (by decide) rfl (fun ls hl => ?_)
              refine lv_iload_n hx hb dX1_greatestPowerOfTwo_20 rfl (lv_at hl 1 rfl) ?_
              refine lv_iconst (v := nI 2) hx hb dX1_greatestPowerOfTwo_21 (by decide) ?_
              refine n_mul hx hb dX1_greatestPowerOfTwo_22  ?_
              refine lv_istore_n (lv' := [(2, .int (nI (((2 * 2) * 2) * 2))), (1, .int (nI ((2 * 2) * 2))), (0, .ref h0)]) hx hb dX1_greatestPowerOfTwo_23 rfl hl (by decide) rfl (fun ls hl => ?_)
              refine lv_goto (tgt := 4) hx hb dX1_greatestPowerOfTwo_24 (by decide) ?_
              refine lv_iload_n hx hb dX1_greatestPowerOfTwo_4 rfl (lv_at hl 0 rfl) ?_
              refine lv_bipush (v := nI 9) hx hb dX1_greatestPowerOfTwo_5 (by decide) ?_
              refine n_icmp_gt (tgt := 27) hx hb dX1_greatestPowerOfTwo_7 (by decide) (by omega) (by omega) (fun c_7 => ?_) (fun c_7 => ?_)
              · refine lv_iload_n hx hb dX1_greatestPowerOfTwo_27 rfl (lv_at hl 1 rfl) ?_
                exact st_eq (show (nI ((2 * 2) * 2) : Int32) = nI (gp2 ln) from by congr 1; simp only [gp2]; split <;> (try split) <;> omega) (fin _ _ dX1_greatestPowerOfTwo_28)
              · exfalso; omega
        · refine lv_iload_n hx hb dX1_greatestPowerOfTwo_18 rfl (lv_at hl 0 rfl) ?_
          refine lv_istore_n (lv' := [(1, .int (nI (2 * 2))), (2, .int (nI (2 * 2))), (0, .ref h0)]) hx hb dX1_greatestPowerOfTwo_19 rfl hl (by decide) rfl (fun ls hl => ?_)
          refine lv_iload_n hx hb dX1_greatestPowerOfTwo_20 rfl (lv_at hl 1 rfl) ?_
          refine lv_iconst (v := nI 2) hx hb dX1_greatestPowerOfTwo_21 (by decide) ?_
          refine n_mul hx hb dX1_greatestPowerOfTwo_22  ?_
          refine lv_istore_n (lv' := [(2, .int (nI ((2 * 2) * 2))), (1, .int (nI (2 * 2))), (0, .ref h0)]) hx hb dX1_greatestPowerOfTwo_23 rfl hl (by decide) rfl (fun ls hl => ?_)
          refine lv_goto (tgt := 4) hx hb dX1_greatestPowerOfTwo_24 (by decide) ?_
          refine lv_iload_n hx hb dX1_greatestPowerOfTwo_4 rfl (lv_at hl 0 rfl) ?_
          refine lv_bipush (v := nI 9) hx hb dX1_greatestPowerOfTwo_5 (by decide) ?_
          refine n_icmp_gt (tgt := 27) hx hb dX1_greatestPowerOfTwo_7 (by decide) (by omega) (by omega) (fun c_7 => ?_) (fun c_7 => ?_)
          · exfalso; omega
          · refine lv_iload_n hx hb dX1_greatestPowerOfTwo_10 rfl (lv_at hl 0 rfl) ?_
            refine lv_aload_n hx hb dX1_greatestPowerOfTwo_11 rfl (lv_at hl 2 rfl) ?_
            refine x_get (C := RX1) (T := TX1) (N := 7) (ci := 1) 3 inT_X1 rfl (by decide) lf_X1_22 rfl X hP 0 rfl rfl dX1_greatestPowerOfTwo_12 ?_
            refine n_icmp_gt (tgt := 20) hx hb dX1_greatestPowerOfTwo_15 (by decide) (by omega) (by omega) (fun c_15 => ?_) (fun c_15 => ?_)
            · refine lv_iload_n hx hb dX1_greatestPowerOfTwo_20 rfl (lv_at hl 0 rfl) ?_
              refine lv_iconst (v := nI 2) hx hb dX1_greatestPowerOfTwo_21 (by decide) ?_
              refine n_mul hx hb dX1_greatestPowerOfTwo_22  ?_
              refine lv_istore_n (lv' := [(2, .int (nI (((2 * 2) * 2) * 2))), (1, .int (nI (2 * 2))), (0, .ref h0)]) hx hb dX1_greatestPowerOfTwo_23 rfl hl (by decide) rfl (fun ls hl => ?_)
              refine lv_goto (tgt := 4) hx hb dX1_greatestPowerOfTwo_24 (by decide) ?_
              refine lv_iload_n hx hb dX1_greatestPowerOfTwo_4 rfl (lv_at hl 0 rfl) ?_
              refine lv_bipush (v := nI 9) hx hb dX1_greatestPowerOfTwo_5 (by decide) ?_
              refine n_icmp_gt (tgt := 27) hx hb dX1_greatestPowerOfTwo_7 (by decide) (by omega) (by omega) (fun c_7 => ?_) (fun c_7 => ?_)
              · refine lv_iload_n hx hb dX1_greatestPowerOfTwo_27 rfl (lv_at hl 1 rfl) ?_
                exact st_eq (show (nI (2 * 2) : Int32) = nI (gp2 ln) from by congr 1; simp only [gp2]; split <;> (try split) <;> omega) (fin _ _ dX1_greatestPowerOfTwo_28)
              · exfalso; omega
            · refine lv_iload_n hx hb dX1_greatestPowerOfTwo_18 rfl (lv_at hl 0 rfl) ?_
              refine lv_istore_n (lv' := [(1, .int (nI ((2 * 2) * 2))), (2, .int (nI ((2 * 2) * 2))), (0, .ref h0)]) hx hb dX1_greatestPowerOfTwo_19 rfl hl (by decide) rfl (fun ls hl => ?_)
              refine lv_iload_n hx hb dX1_greatestPowerOfTwo_20 rfl (lv_at hl 1 rfl) ?_
              refine lv_iconst (v := nI 2) hx hb dX1_greatestPowerOfTwo_21 (by decide) ?_
              refine n_mul hx hb dX1_greatestPowerOfTwo_22  ?_
              refine lv_istore_n (lv' := [(2, .int (nI (((2 * 2) * 2) * 2))), (1, .int (nI ((2 * 2) * 2))), (0, .ref h0)]) hx hb dX1_greatestPowerOfTwo_23 rfl hl (by decide) rfl (fun ls hl => ?_)
              refine lv_goto (tgt := 4) hx hb dX1_greatestPowerOfTwo_24 (by decide) ?_
              refine lv_iload_n hx hb dX1_greatestPowerOfTwo_4 rfl (lv_at hl 0 rfl) ?_
              refine lv_bipush (v := nI 9) hx hb dX1_greatestPowerOfTwo_5 (by decide) ?_
              refine n_icmp_gt (tgt := 27) hx hb dX1_greatestPowerOfTwo_7 (by decide) (by omega) (by omega) (fun c_7 => ?_) (fun c_7 => ?_)
              · refine lv_iload_n hx hb dX1_greatestPowerOfTwo_27 rfl (lv_at hl 1 rfl) ?_
                exact st_eq (show (nI ((2 * 2) * 2) : Int32) = nI (gp2 ln) from by congr 1; simp only [gp2]; split <;> (try split) <;> omega) (fin _ _ dX1_greatestPowerOfTwo_28)
              · exfalso; omega

set_option maxHeartbeats 4000000 in
set_option maxRecDepth 100000 in
theorem c_X1_upper (l : Launch) (G : va_G) (cI cZ : ClassId) (k : Nat) (hk : 1 ≤ k) (hk9 : k ≤ 9) : CR l G cI cZ yX1_upper cX1_upper 1 .int 0 0 [.int (nI k)] [] (nI ((k - 1) / 2)) := by
  refine CR.of (own := RX1) (by decide) rfl rfl (Nat.le_of_ble_eq_true rfl) ?_
  intro p e R s m args below meth c H Q X hR fin hP ls hl
  subst hR
  have hx := X.1
  have hb := X.2.1
  have hl : lv_has ls 1 [(0, .int (nI k))] := hl
  refine lv_iload_n hx hb dX1_upper_0 rfl (lv_at hl 0 rfl) ?_
  refine lv_iconst (v := nI 1) hx hb dX1_upper_1 (by decide) ?_
  refine n_sub hx hb dX1_upper_2 (by omega) ?_
  refine lv_iconst (v := nI 2) hx hb dX1_upper_3 (by decide) ?_
  refine n_div hx hb dX1_upper_4 (by omega) (by omega) (by omega) ?_
  exact fin _ _ dX1_upper_5

set_option maxHeartbeats 4000000 in
set_option maxRecDepth 100000 in
theorem c_X1_firstOnLevel (l : Launch) (G : va_G) (cI cZ : ClassId) (v : Nat) (hv : v < 6) : CR l G cI cZ yX1_firstOnLevel cX1_firstOnLevel 1 .int 0 0 [.int (nI v)] [] (nI (2 ^ v - 1)) := by
  refine CR.of (own := RX1) (by decide) rfl rfl (Nat.le_of_ble_eq_true rfl) ?_
  intro p e R s m args below meth c H Q X hR fin hP ls hl
  subst hR
  have hx := X.1
  have hb := X.2.1
  have hl : lv_has ls 1 [(0, .int (nI v))] := hl
  refine lv_iconst (v := nI 1) hx hb dX1_firstOnLevel_0 (by decide) ?_
  refine lv_iload_n hx hb dX1_firstOnLevel_1 rfl (lv_at hl 0 rfl) ?_
  refine lv_ishl hx hb dX1_firstOnLevel_2 ?_
  refine lv_iconst (v := nI 1) hx hb dX1_firstOnLevel_3 (by decide) ?_
  refine lv_isub hx hb dX1_firstOnLevel_4 ?_
  exact st_eq (show (((nI 1) <<< ((nI v) &&& 31)) - (nI 1) : Int32) = nI (2 ^ v - 1) from fol v hv) (fin _ _ dX1_firstOnLevel_5)

set_option maxHeartbeats 4000000 in
set_option maxRecDepth 100000 in
theorem c_X1_deepestLevel (l : Launch) (G : va_G) (cI cZ : ClassId) (h0 : Nat) (ht : Nat) (qa : Nat) (qb : Nat) (rd : Nat) (ln : Nat) (lz : Nat) (L : List (List Nat)) (hn9 : ln ≤ 9) : CR l G cI cZ yX1_deepestLevel cX1_deepestLevel 3 .int 1 20 [.ref h0] [(h0, .inr (1, [.ref ht, .int (nI L.length), .int (nI rd), .int (nI ln), .int (nI lz), .ref qa, .ref qb]))] (nI (dpl ln)) := by
  refine CR.of (own := RX1) (by decide) rfl rfl (Nat.le_of_ble_eq_true rfl) ?_
  intro p e R s m args below meth c H Q X hR fin hP ls hl
  subst hR
  have hx := X.1
  have hb := X.2.1
  have hl : lv_has ls 3 [(0, .ref h0)] := hl
  refine lv_iconst (v := nI 0) hx hb dX1_deepestLevel_0 (by decide) ?_
  refine lv_istore_n (lv' := [(1, .int (nI 0)), (0, .ref h0)]) hx hb dX1_deepestLevel_1 rfl hl (by decide) rfl (fun ls hl => ?_)
  refine lv_iconst (v := nI 1) hx hb dX1_deepestLevel_2 (by decide) ?_
  refine lv_istore_n (lv' := [(2, .int (nI 1)), (1, .int (nI 0)), (0, .ref h0)]) hx hb dX1_deepestLevel_3 rfl hl (by decide) rfl (fun ls hl => ?_)
  refine lv_iload_n hx hb dX1_deepestLevel_4 rfl (lv_at hl 0 rfl) ?_
  refine lv_iconst (v := nI 3) hx hb dX1_deepestLevel_5 (by decide) ?_
  refine n_icmp_gt (tgt := 28) hx hb dX1_deepestLevel_6 (by decide) (by omega) (by omega) (fun c_6 => ?_) (fun c_6 => ?_)
  · exfalso; omega
  · refine lv_iload_n hx hb dX1_deepestLevel_9 rfl (lv_at hl 0 rfl) ?_
    refine cR_S (As := [.int (nI 1)]) (rest := []) X (c_X1_firstOnLevel l G cI cZ 1 (by first | assumption | omega)) lk_X1_104 (hP.sub (ws' := []) [] rfl) hl.1 rfl rfl (Nat.le_of_ble_eq_true rfl) ⟨Nat.le_of_ble_eq_true rfl, Nat.le_of_ble_eq_true rfl⟩ ⟨Nat.le_of_ble_eq_true rfl, Nat.le_of_ble_eq_true rfl⟩ dX1_deepestLevel_10 ?_
    refine st_eq (show nI (2 ^ 1 - 1) = nI 1 from rfl) ?_
    refine lv_aload_n hx hb dX1_deepestLevel_13 rfl (lv_at hl 2 rfl) ?_
    refine x_get (C := RX1) (T := TX1) (N := 7) (ci := 1) 3 inT_X1 rfl (by decide) lf_X1_22 rfl X hP 0 rfl rfl dX1_deepestLevel_14 ?_
    refine n_icmp_ge (tgt := 22) hx hb dX1_deepestLevel_17 (by decide) (by omega) (by omega) (fun c_17 => ?_) (fun c_17 => ?_)
    · refine lv_iinc (v := nI (1 + 1)) (lv' := [(2, .int (nI (1 + 1))), (1, .int (nI 0)), (0, .ref h0)]) hx hb dX1_deepestLevel_22 hl (k := 0) rfl (nI_1 _) (by decide) rfl (fun ls hl => ?_)
      refine lv_goto (tgt := 4) hx hb dX1_deepestLevel_25 (by decide) ?_
      refine lv_iload_n hx hb dX1_deepestLevel_4 rfl (lv_at hl 0 rfl) ?_
      refine lv_iconst (v := nI 3) hx hb dX1_deepestLevel_5 (by decide) ?_
      refine n_icmp_gt (tgt := 28) hx hb dX1_deepestLevel_6 (by decide) (by omega) (by omega) (fun c_6 => ?_) (fun c_6 => ?_)
      · exfalso; omega
      · refine lv_iload_n hx hb dX1_deepestLevel_9 rfl (lv_at hl 0 rfl) ?_
        refine cR_S (As := [.int (nI (1 + 1))]) (rest := []) X (c_X1_firstOnLevel l G cI cZ (1 + 1) (by first | assumption | omega)) lk_X1_104 (hP.sub (ws' := []) [] rfl) hl.1 rfl rfl (Nat.le_of_ble_eq_true rfl) ⟨Nat.le_of_ble_eq_true rfl, Nat.le_of_ble_eq_true rfl⟩ ⟨Nat.le_of_ble_eq_true rfl, Nat.le_of_ble_eq_true rfl⟩ dX1_deepestLevel_10 ?_
        refine st_eq (show nI (2 ^ (1 + 1) - 1) = nI 3 from rfl) ?_
        refine lv_aload_n hx hb dX1_deepestLevel_13 rfl (lv_at hl 2 rfl) ?_
        refine x_get (C := RX1) (T := TX1) (N := 7) (ci := 1) 3 inT_X1 rfl (by decide) lf_X1_22 rfl X hP 0 rfl rfl dX1_deepestLevel_14 ?_
        refine n_icmp_ge (tgt := 22) hx hb dX1_deepestLevel_17 (by decide) (by omega) (by omega) (fun c_17 => ?_) (fun c_17 => ?_)
        · refine lv_iinc (v := nI (1 + 1 + 1)) (lv' := [(2, .int (nI (1 + 1 + 1))), (1, .int (nI 0)), (0, .ref h0)]) hx hb dX1_deepestLevel_22 hl (k := 0) rfl (nI_1 _) (by decide) rfl (fun ls hl => ?_)
          refine lv_goto (tgt := 4) hx hb dX1_deepestLevel_25 (by decide) ?_
          refine lv_iload_n hx hb dX1_deepestLevel_4 rfl (lv_at hl 0 rfl) ?_
          refine lv_iconst (v := nI 3) hx hb dX1_deepestLevel_5 (by decide) ?_
          refine n_icmp_gt (tgt := 28) hx hb dX1_deepestLevel_6 (by decide) (by omega) (by omega) (fun c_6 => ?_) (fun c_6 => ?_)
          · exfalso; omega
          · refine lv_iload_n hx hb dX1_deepestLevel_9 rfl (lv_at hl 0 rfl) ?_
            refine cR_S (As := [.int (nI (1 + 1 + 1))]) (rest := []) X (c_X1_firstOnLevel l G cI cZ (1 + 1 + 1) (by first | assumption | omega)) lk_X1_104 (hP.sub (ws' := []) [] rfl) hl.1 rfl rfl (Nat.le_of_ble_eq_true rfl) ⟨Nat.le_of_ble_eq_true rfl, Nat.le_of_ble_eq_true rfl⟩ ⟨Nat.le_of_ble_eq_true rfl, Nat.le_of_ble_eq_true rfl⟩ dX1_deepestLevel_10 ?_
            refine st_eq (show nI (2 ^ (1 + 1 + 1) - 1) = nI 7 from rfl) ?_
            refine lv_aload_n hx hb dX1_deepestLevel_13 rfl (lv_at hl 2 rfl) ?_
            refine x_get (C := RX1) (T := TX1) (N := 7) (ci := 1) 3 inT_X1 rfl (by decide) lf_X1_22 rfl X hP 0 rfl rfl dX1_deepestLevel_14 ?_
            refine n_icmp_ge (tgt := 22) hx hb dX1_deepestLevel_17 (by decide) (by omega) (by omega) (fun c_17 => ?_) (fun c_17 => ?_)
            · refine lv_iinc (v := nI (1 + 1 + 1 + 1)) (lv' := [(2, .int (nI (1 + 1 + 1 + 1))), (1, .int (nI 0)), (0, .ref h0)]) hx hb dX1_deepestLevel_22 hl (k := 0) rfl (nI_1 _) (by decide) rfl (fun ls hl => ?_)
              refine lv_goto (tgt := 4) hx hb dX1_deepestLevel_25 (by decide) ?_
              refine lv_iload_n hx hb dX1_deepestLevel_4 rfl (lv_at hl 0 rfl) ?_
              refine lv_iconst (v := nI 3) hx hb dX1_deepestLevel_5 (by decide) ?_
              refine n_icmp_gt (tgt := 28) hx hb dX1_deepestLevel_6 (by decide) (by omega) (by omega) (fun c_6 => ?_) (fun c_6 => ?_)
              · refine lv_iload_n hx hb dX1_deepestLevel_28 rfl (lv_at hl 1 rfl) ?_
                exact st_eq (show (nI 0 : Int32) = nI (dpl ln) from by congr 1; simp only [dpl]; split <;> (try split) <;> (try split) <;> omega) (fin _ _ dX1_deepestLevel_29)
              · exfalso; omega
            · refine lv_iload_n hx hb dX1_deepestLevel_20 rfl (lv_at hl 0 rfl) ?_
              refine lv_istore_n (lv' := [(1, .int (nI (1 + 1 + 1))), (2, .int (nI (1 + 1 + 1))), (0, .ref h0)]) hx hb dX1_deepestLevel_21 rfl hl (by decide) rfl (fun ls hl => ?_)
              refine lv_iinc (v := nI (1 + 1 + 1 + 1)) (lv' := [(2, .int (nI (1 + 1 + 1 + 1))), (1, .int (nI (1 + 1 + 1))), (0, .ref h0)]) hx hb dX1_deepestLevel_22 hl (k := 1) rfl (nI_1 _) (by decide) rfl (fun ls hl => ?_)
              refine lv_goto (tgt := 4) hx hb dX1_deepestLevel_25 (by decide) ?_
              refine lv_iload_n hx hb dX1_deepestLevel_4 rfl (lv_at hl 0 rfl) ?_
              refine lv_iconst (v := nI 3) hx hb dX1_deepestLevel_5 (by decide) ?_
              refine n_icmp_gt (tgt := 28) hx hb dX1_deepestLevel_6 (by decide) (by omega) (by omega) (fun c_6 => ?_) (fun c_6 => ?_)
              · refine lv_iload_n hx hb dX1_deepestLevel_28 rfl (lv_at hl 1 rfl) ?_
                exact st_eq (show (nI (1 + 1 + 1) : Int32) = nI (dpl ln) from by congr 1; simp only [dpl]; split <;> (try split) <;> (try split) <;> omega) (fin _ _ dX1_deepestLevel_29)
              · exfalso; omega
        · refine lv_iload_n hx hb dX1_deepestLevel_20 rfl (lv_at hl 0 rfl) ?_
          refine lv_istore_n (lv' := [(1, .int (nI (1 + 1))), (2, .int (nI (1 + 1))), (0, .ref h0)]) hx hb dX1_deepestLevel_21 rfl hl (by decide) rfl (fun ls hl => ?_)
          refine lv_iinc (v := nI (1 + 1 + 1)) (lv' := [(2, .int (nI (1 + 1 + 1))), (1, .int (nI (1 + 1))), (0, .ref h0)]) hx hb dX1_deepestLevel_22 hl (k := 1) rfl (nI_1 _) (by decide) rfl (fun ls hl => ?_)
          refine lv_goto (tgt := 4) hx hb dX1_deepestLevel_25 (by decide) ?_
          refine lv_iload_n hx hb dX1_deepestLevel_4 rfl (lv_at hl 0 rfl) ?_
          refine lv_iconst (v := nI 3) hx hb dX1_deepestLevel_5 (by decide) ?_
          refine n_icmp_gt (tgt := 28) hx hb dX1_deepestLevel_6 (by decide) (by omega) (by omega) (fun c_6 => ?_) (fun c_6 => ?_)
          · exfalso; omega
          · refine lv_iload_n hx hb dX1_deepestLevel_9 rfl (lv_at hl 0 rfl) ?_
            refine cR_S (As := [.int (nI (1 + 1 + 1))]) (rest := []) X (c_X1_firstOnLevel l G cI cZ (1 + 1 + 1) (by first | assumption | omega)) lk_X1_104 (hP.sub (ws' := []) [] rfl) hl.1 rfl rfl (Nat.le_of_ble_eq_true rfl) ⟨Nat.le_of_ble_eq_true rfl, Nat.le_of_ble_eq_true rfl⟩ ⟨Nat.le_of_ble_eq_true rfl, Nat.le_of_ble_eq_true rfl⟩ dX1_deepestLevel_10 ?_
            refine st_eq (show nI (2 ^ (1 + 1 + 1) - 1) = nI 7 from rfl) ?_
            refine lv_aload_n hx hb dX1_deepestLevel_13 rfl (lv_at hl 2 rfl) ?_
            refine x_get (C := RX1) (T := TX1) (N := 7) (ci := 1) 3 inT_X1 rfl (by decide) lf_X1_22 rfl X hP 0 rfl rfl dX1_deepestLevel_14 ?_
            refine n_icmp_ge (tgt := 22) hx hb dX1_deepestLevel_17 (by decide) (by omega) (by omega) (fun c_17 => ?_) (fun c_17 => ?_)
            · refine lv_iinc (v := nI (1 + 1 + 1 + 1)) (lv' := [(2, .int (nI (1 + 1 + 1 + 1))), (1, .int (nI (1 + 1))), (0, .ref h0)]) hx hb dX1_deepestLevel_22 hl (k := 0) rfl (nI_1 _) (by decide) rfl (fun ls hl => ?_)
              refine lv_goto (tgt := 4) hx hb dX1_deepestLevel_25 (by decide) ?_
              refine lv_iload_n hx hb dX1_deepestLevel_4 rfl (lv_at hl 0 rfl) ?_
              refine lv_iconst (v := nI 3) hx hb dX1_deepestLevel_5 (by decide) ?_
              refine n_icmp_gt (tgt := 28) hx hb dX1_deepestLevel_6 (by decide) (by omega) (by omega) (fun c_6 => ?_) (fun c_6 => ?_)
              · refine lv_iload_n hx hb dX1_deepestLevel_28 rfl (lv_at hl 1 rfl) ?_
                exact st_eq (show (nI (1 + 1) : Int32) = nI (dpl ln) from by congr 1; simp only [dpl]; split <;> (try split) <;> (try split) <;> omega) (fin _ _ dX1_deepestLevel_29)
              · exfalso; omega
            · refine lv_iload_n hx hb dX1_deepestLevel_20 rfl (lv_at hl 0 rfl) ?_
              refine lv_istore_n (lv' := [(1, .int (nI (1 + 1 + 1))), (2, .int (nI (1 + 1 + 1))), (0, .ref h0)]) hx hb dX1_deepestLevel_21 rfl hl (by decide) rfl (fun ls hl => ?_)
              refine lv_iinc (v := nI (1 + 1 + 1 + 1)) (lv' := [(2, .int (nI (1 + 1 + 1 + 1))), (1, .int (nI (1 + 1 + 1))), (0, .ref h0)]) hx hb dX1_deepestLevel_22 hl (k := 1) rfl (nI_1 _) (by decide) rfl (fun ls hl => ?_)
              refine lv_goto (tgt := 4) hx hb dX1_deepestLevel_25 (by decide) ?_
              refine lv_iload_n hx hb dX1_deepestLevel_4 rfl (lv_at hl 0 rfl) ?_
              refine lv_iconst (v := nI 3) hx hb dX1_deepestLevel_5 (by decide) ?_
              refine n_icmp_gt (tgt := 28) hx hb dX1_deepestLevel_6 (by decide) (by omega) (by omega) (fun c_6 => ?_) (fun c_6 => ?_)
              · refine lv_iload_n hx hb dX1_deepestLevel_28 rfl (lv_at hl 1 rfl) ?_
                exact st_eq (show (nI (1 + 1 + 1) : Int32) = nI (dpl ln) from by congr 1; simp only [dpl]; split <;> (try split) <;> (try split) <;> omega) (fin _ _ dX1_deepestLevel_29)
              · exfalso; omega
    · refine lv_iload_n hx hb dX1_deepestLevel_20 rfl (lv_at hl 0 rfl) ?_
      refine lv_istore_n (lv' := [(1, .int (nI 1)), (2, .int (nI 1)), (0, .ref h0)]) hx hb dX1_deepestLevel_21 rfl hl (by decide) rfl (fun ls hl => ?_)
      refine lv_iinc (v := nI (1 + 1)) (lv' := [(2, .int (nI (1 + 1))), (1, .int (nI 1)), (0, .ref h0)]) hx hb dX1_deepestLevel_22 hl (k := 1) rfl (nI_1 _) (by decide) rfl (fun ls hl => ?_)
      refine lv_goto (tgt := 4) hx hb dX1_deepestLevel_25 (by decide) ?_
      refine lv_iload_n hx hb dX1_deepestLevel_4 rfl (lv_at hl 0 rfl) ?_
      refine lv_iconst (v := nI 3) hx hb dX1_deepestLevel_5 (by decide) ?_
      refine n_icmp_gt (tgt := 28) hx hb dX1_deepestLevel_6 (by decide) (by omega) (by omega) (fun c_6 => ?_) (fun c_6 => ?_)
      · exfalso; omega
      · refine lv_iload_n hx hb dX1_deepestLevel_9 rfl (lv_at hl 0 rfl) ?_
        refine cR_S (As := [.int (nI (1 + 1))]) (rest := []) X (c_X1_firstOnLevel l G cI cZ (1 + 1) (by first | assumption | omega)) lk_X1_104 (hP.sub (ws' := []) [] rfl) hl.1 rfl rfl (Nat.le_of_ble_eq_true rfl) ⟨Nat.le_of_ble_eq_true rfl, Nat.le_of_ble_eq_true rfl⟩ ⟨Nat.le_of_ble_eq_true rfl, Nat.le_of_ble_eq_true rfl⟩ dX1_deepestLevel_10 ?_
        refine st_eq (show nI (2 ^ (1 + 1) - 1) = nI 3 from rfl) ?_
        refine lv_aload_n hx hb dX1_deepestLevel_13 rfl (lv_at hl 2 rfl) ?_
        refine x_get (C := RX1) (T := TX1) (N := 7) (ci := 1) 3 inT_X1 rfl (by decide) lf_X1_22 rfl X hP 0 rfl rfl dX1_deepestLevel_14 ?_
        refine n_icmp_ge (tgt := 22) hx hb dX1_deepestLevel_17 (by decide) (by omega) (by omega) (fun c_17 => ?_) (fun c_17 => ?_)
        · refine lv_iinc (v := nI (1 + 1 + 1)) (lv' := [(2, .int (nI (1 + 1 + 1))), (1, .int (nI 1)), (0, .ref h0)]) hx hb dX1_deepestLevel_22 hl (k := 0) rfl (nI_1 _) (by decide) rfl (fun ls hl => ?_)
          refine lv_goto (tgt := 4) hx hb dX1_deepestLevel_25 (by decide) ?_
          refine lv_iload_n hx hb dX1_deepestLevel_4 rfl (lv_at hl 0 rfl) ?_
          refine lv_iconst (v := nI 3) hx hb dX1_deepestLevel_5 (by decide) ?_
          refine n_icmp_gt (tgt := 28) hx hb dX1_deepestLevel_6 (by decide) (by omega) (by omega) (fun c_6 => ?_) (fun c_6 => ?_)
          · exfalso; omega
          · refine lv_iload_n hx hb dX1_deepestLevel_9 rfl (lv_at hl 0 rfl) ?_
            refine cR_S (As := [.int (nI (1 + 1 + 1))]) (rest := []) X (c_X1_firstOnLevel l G cI cZ (1 + 1 + 1) (by first | assumption | omega)) lk_X1_104 (hP.sub (ws' := []) [] rfl) hl.1 rfl rfl (Nat.le_of_ble_eq_true rfl) ⟨Nat.le_of_ble_eq_true rfl, Nat.le_of_ble_eq_true rfl⟩ ⟨Nat.le_of_ble_eq_true rfl, Nat.le_of_ble_eq_true rfl⟩ dX1_deepestLevel_10 ?_
            refine st_eq (show nI (2 ^ (1 + 1 + 1) - 1) = nI 7 from rfl) ?_
            refine lv_aload_n hx hb dX1_deepestLevel_13 rfl (lv_at hl 2 rfl) ?_
            refine x_get (C := RX1) (T := TX1) (N := 7) (ci := 1) 3 inT_X1 rfl (by decide) lf_X1_22 rfl X hP 0 rfl rfl dX1_deepestLevel_14 ?_
            refine n_icmp_ge (tgt := 22) hx hb dX1_deepestLevel_17 (by decide) (by omega) (by omega) (fun c_17 => ?_) (fun c_17 => ?_)
            · refine lv_iinc (v := nI (1 + 1 + 1 + 1)) (lv' := [(2, .int (nI (1 + 1 + 1 + 1))), (1, .int (nI 1)), (0, .ref h0)]) hx hb dX1_deepestLevel_22 hl (k := 0) rfl (nI_1 _) (by decide) rfl (fun ls hl => ?_)
              refine lv_goto (tgt := 4) hx hb dX1_deepestLevel_25 (by decide) ?_
              refine lv_iload_n hx hb dX1_deepestLevel_4 rfl (lv_at hl 0 rfl) ?_
              refine lv_iconst (v := nI 3) hx hb dX1_deepestLevel_5 (by decide) ?_
              refine n_icmp_gt (tgt := 28) hx hb dX1_deepestLevel_6 (by decide) (by omega) (by omega) (fun c_6 => ?_) (fun c_6 => ?_)
              · refine lv_iload_n hx hb dX1_deepestLevel_28 rfl (lv_at hl 1 rfl) ?_
                exact st_eq (show (nI 1 : Int32) = nI (dpl ln) from by congr 1; simp only [dpl]; split <;> (try split) <;> (try split) <;> omega) (fin _ _ dX1_deepestLevel_29)
              · exfalso; omega
            · refine lv_iload_n hx hb dX1_deepestLevel_20 rfl (lv_at hl 0 rfl) ?_
              refine lv_istore_n (lv' := [(1, .int (nI (1 + 1 + 1))), (2, .int (nI (1 + 1 + 1))), (0, .ref h0)]) hx hb dX1_deepestLevel_21 rfl hl (by decide) rfl (fun ls hl => ?_)
              refine lv_iinc (v := nI (1 + 1 + 1 + 1)) (lv' := [(2, .int (nI (1 + 1 + 1 + 1))), (1, .int (nI (1 + 1 + 1))), (0, .ref h0)]) hx hb dX1_deepestLevel_22 hl (k := 1) rfl (nI_1 _) (by decide) rfl (fun ls hl => ?_)
              refine lv_goto (tgt := 4) hx hb dX1_deepestLevel_25 (by decide) ?_
              refine lv_iload_n hx hb dX1_deepestLevel_4 rfl (lv_at hl 0 rfl) ?_
              refine lv_iconst (v := nI 3) hx hb dX1_deepestLevel_5 (by decide) ?_
              refine n_icmp_gt (tgt := 28) hx hb dX1_deepestLevel_6 (by decide) (by omega) (by omega) (fun c_6 => ?_) (fun c_6 => ?_)
              · refine lv_iload_n hx hb dX1_deepestLevel_28 rfl (lv_at hl 1 rfl) ?_
                exact st_eq (show (nI (1 + 1 + 1) : Int32) = nI (dpl ln) from by congr 1; simp only [dpl]; split <;> (try split) <;> (try split) <;> omega) (fin _ _ dX1_deepestLevel_29)
              · exfalso; omega
        · refine lv_iload_n hx hb dX1_deepestLevel_20 rfl (lv_at hl 0 rfl) ?_
          refine lv_istore_n (lv' := [(1, .int (nI (1 + 1))), (2, .int (nI (1 + 1))), (0, .ref h0)]) hx hb dX1_deepestLevel_21 rfl hl (by decide) rfl (fun ls hl => ?_)
          refine lv_iinc (v := nI (1 + 1 + 1)) (lv' := [(2, .int (nI (1 + 1 + 1))), (1, .int (nI (1 + 1))), (0, .ref h0)]) hx hb dX1_deepestLevel_22 hl (k := 1) rfl (nI_1 _) (by decide) rfl (fun ls hl => ?_)
          refine lv_goto (tgt := 4) hx hb dX1_deepestLevel_25 (by decide) ?_
          refine lv_iload_n hx hb dX1_deepestLevel_4 rfl (lv_at hl 0 rfl) ?_
          refine lv_iconst (v := nI 3) hx hb dX1_deepestLevel_5 (by decide) ?_
          refine n_icmp_gt (tgt := 28) hx hb dX1_deepestLevel_6 (by decide) (by omega) (by omega) (fun c_6 => ?_) (fun c_6 => ?_)
          · exfalso; omega
          · refine lv_iload_n hx hb dX1_deepestLevel_9 rfl (lv_at hl 0 rfl) ?_
            refine cR_S (As := [.int (nI (1 + 1 + 1))]) (rest := []) X (c_X1_firstOnLevel l G cI cZ (1 + 1 + 1) (by first | assumption | omega)) lk_X1_104 (hP.sub (ws' := []) [] rfl) hl.1 rfl rfl (Nat.le_of_ble_eq_true rfl) ⟨Nat.le_of_ble_eq_true rfl, Nat.le_of_ble_eq_true rfl⟩ ⟨Nat.le_of_ble_eq_true rfl, Nat.le_of_ble_eq_true rfl⟩ dX1_deepestLevel_10 ?_
            refine st_eq (show nI (2 ^ (1 + 1 + 1) - 1) = nI 7 from rfl) ?_
            refine lv_aload_n hx hb dX1_deepestLevel_13 rfl (lv_at hl 2 rfl) ?_
            refine x_get (C := RX1) (T := TX1) (N := 7) (ci := 1) 3 inT_X1 rfl (by decide) lf_X1_22 rfl X hP 0 rfl rfl dX1_deepestLevel_14 ?_
            refine n_icmp_ge (tgt := 22) hx hb dX1_deepestLevel_17 (by decide) (by omega) (by omega) (fun c_17 => ?_) (fun c_17 => ?_)
            · refine lv_iinc (v := nI (1 + 1 + 1 + 1)) (lv' := [(2, .int (nI (1 + 1 + 1 + 1))), (1, .int (nI (1 + 1))), (0, .ref h0)]) hx hb dX1_deepestLevel_22 hl (k := 0) rfl (nI_1 _) (by decide) rfl (fun ls hl => ?_)
              refine lv_goto (tgt := 4) hx hb dX1_deepestLevel_25 (by decide) ?_
              refine lv_iload_n hx hb dX1_deepestLevel_4 rfl (lv_at hl 0 rfl) ?_
              refine lv_iconst (v := nI 3) hx hb dX1_deepestLevel_5 (by decide) ?_
              refine n_icmp_gt (tgt := 28) hx hb dX1_deepestLevel_6 (by decide) (by omega) (by omega) (fun c_6 => ?_) (fun c_6 => ?_)
              · refine lv_iload_n hx hb dX1_deepestLevel_28 rfl (lv_at hl 1 rfl) ?_
                exact st_eq (show (nI (1 + 1) : Int32) = nI (dpl ln) from by congr 1; simp only [dpl]; split <;> (try split) <;> (try split) <;> omega) (fin _ _ dX1_deepestLevel_29)
              · exfalso; omega
            · refine lv_iload_n hx hb dX1_deepestLevel_20 rfl (lv_at hl 0 rfl) ?_
              refine lv_istore_n (lv' := [(1, .int (nI (1 + 1 + 1))), (2, .int (nI (1 + 1 + 1))), (0, .ref h0)]) hx hb dX1_deepestLevel_21 rfl hl (by decide) rfl (fun ls hl => ?_)
              refine lv_iinc (v := nI (1 + 1 + 1 + 1)) (lv' := [(2, .int (nI (1 + 1 + 1 + 1))), (1, .int (nI (1 + 1 + 1))), (0, .ref h0)]) hx hb dX1_deepestLevel_22 hl (k := 1) rfl (nI_1 _) (by decide) rfl (fun ls hl => ?_)
              refine lv_goto (tgt := 4) hx hb dX1_deepestLevel_25 (by decide) ?_
              refine lv_iload_n hx hb dX1_deepestLevel_4 rfl (lv_at hl 0 rfl) ?_
              refine lv_iconst (v := nI 3) hx hb dX1_deepestLevel_5 (by decide) ?_
              refine n_icmp_gt (tgt := 28) hx hb dX1_deepestLevel_6 (by decide) (by omega) (by omega) (fun c_6 => ?_) (fun c_6 => ?_)
              · refine lv_iload_n hx hb dX1_deepestLevel_28 rfl (lv_at hl 1 rfl) ?_
                exact st_eq (show (nI (1 + 1 + 1) : Int32) = nI (dpl ln) from by congr 1; simp only [dpl]; split <;> (try split) <;> (try split) <;> omega) (fin _ _ dX1_deepestLevel_29)
              · exfalso; omega

set_option maxHeartbeats 4000000 in
set_option maxRecDepth 100000 in
theorem c_X0_busiestMachine (l : Launch) (G : va_G) (cI cZ : ClassId) (h0 : Nat) (hr : Nat) (ha : Nat) (tm : Int32) (lr : Nat) (g : Nat → Int32) (n : Nat) (hn : 1 ≤ n) (hn9 : n ≤ 9) : CR l G cI cZ yX0_busiestMachine cX0_busiestMachine 4 .int 0 0 [.ref h0, .int (nI n)] [(h0, .inr (0, [.ref hr, .ref ha, .int tm, .int (nI lr)])), (ha, .inl (cI, 9, .inl g))] (nI (bus g (n - 1))) := by
  refine CR.of (own := RX0) (by decide) rfl rfl (Nat.le_of_ble_eq_true rfl) ?_
  intro p e R s m args below meth c H Q X hR fin hP ls hl
  subst hR
  have hx := X.1
  have hb := X.2.1
  have hl : lv_has ls 4 [(0, .ref h0), (1, .int (nI n))] := hl
  refine lv_iconst (v := nI 0) hx hb dX0_busiestMachine_0 (by decide) ?_
  refine lv_istore_n (lv' := [(2, .int (nI 0)), (0, .ref h0), (1, .int (nI n))]) hx hb dX0_busiestMachine_1 rfl hl (by decide) rfl (fun ls hl => ?_)
  refine lv_iconst (v := nI 1) hx hb dX0_busiestMachine_2 (by decide) ?_
  refine lv_istore_n (lv' := [(3, .int (nI 1)), (2, .int (nI 0)), (0, .ref h0), (1, .int (nI n))]) hx hb dX0_busiestMachine_3 rfl hl (by decide) rfl (fun ls hl => ?_)
  have LP4 : ∀ (fu : Nat) (i : Nat), (i + 1 ≤ n) → (n - i) < fu → ∀ (ls : Array Slot), lv_has ls 4 [(0, .ref h0), (1, .int (nI n)), (2, .int (nI (bus g i))), (3, .int (nI (i + 1)))] → W p l e ({ frames := 0, cells := 0, slots := 0, locals := 0 } : Room) s m args below meth c H [] 0 0 Q (F0 m 4 ls []) := by
    intro fu
    induction fu with
    | zero =>
      intro i hi hfu
      exact absurd hfu (Nat.not_lt_zero _)
    | succ fu ih4 =>
      intro i hi hfu  ls hl
      refine lv_iload_n hx hb dX0_busiestMachine_4 rfl (lv_at hl 3 rfl) ?_
      refine lv_iload_n hx hb dX0_busiestMachine_5 rfl (lv_at hl 1 rfl) ?_
      refine n_icmp_ge (tgt := 38) hx hb dX0_busiestMachine_6 (by decide) (by omega) (by omega) (fun c_6 => ?_) (fun c_6 => ?_)
      · refine lv_iload_n hx hb dX0_busiestMachine_38 rfl (lv_at hl 2 rfl) ?_
        exact st_eq (show (nI (bus g i) : Int32) = nI (bus g (n - 1)) from by rw [show n - 1 = i by omega]) (fin _ _ dX0_busiestMachine_39)
      · refine lv_iload_n hx hb dX0_busiestMachine_9 rfl (lv_at hl 3 rfl) ?_
        refine lv_bipush (v := nI 9) hx hb dX0_busiestMachine_10 (by decide) ?_
        refine n_icmp_ge (tgt := 38) hx hb dX0_busiestMachine_12 (by decide) (by omega) (by omega) (fun c_12 => ?_) (fun c_12 => ?_)
        · exfalso; omega
        · refine lv_aload_n hx hb dX0_busiestMachine_15 rfl (lv_at hl 0 rfl) ?_
          refine x_get (C := RX0) (T := TX0) (N := 4) (ci := 0) 1 inT_X0 rfl (by decide) lf_X0_15 rfl X hP 0 rfl rfl dX0_busiestMachine_16 ?_
          refine lv_iload_n hx hb dX0_busiestMachine_19 rfl (lv_at hl 3 rfl) ?_
          refine n_iald X hP 1 rfl (by omega) (by decide) dX0_busiestMachine_20 ?_
          refine lv_aload_n hx hb dX0_busiestMachine_21 rfl (lv_at hl 0 rfl) ?_
          refine x_get (C := RX0) (T := TX0) (N := 4) (ci := 0) 1 inT_X0 rfl (by decide) lf_X0_15 rfl X hP 0 rfl rfl dX0_busiestMachine_22 ?_
          refine lv_iload_n hx hb dX0_busiestMachine_25 rfl (lv_at hl 2 rfl) ?_
          refine n_iald X hP 1 rfl (Nat.lt_of_le_of_lt (bus_le g i) (by omega)) (by decide) dX0_busiestMachine_26 ?_
          refine lv_icmp_le (tgt := 32) hx hb dX0_busiestMachine_27 (by decide) (fun c_27 => ?_) (fun c_27 => ?_)
          · refine lv_iinc (v := nI (i + 1 + 1)) (lv' := [(3, .int (nI (i + 1 + 1))), (0, .ref h0), (1, .int (nI n)), (2, .int (nI (bus g i)))]) hx hb dX0_busiestMachine_32 hl (k := 3) rfl (nI_1 _) (by decide) rfl (fun ls hl => ?_)
            refine lv_goto (tgt := 4) hx hb dX0_busiestMachine_35 (by decide) ?_
            have hl : lv_has ls 4 [(3, .int (nI (i + 1 + 1))), (0, .ref h0), (1, .int (nI n)), (2, .int (nI (bus g (i + 1))))] := lv_rep hl (congrArg (fun z_ : Int32 => ([(3, .int (nI (i + 1 + 1))), (0, .ref h0), (1, .int (nI n)), (2, .int z_)] : List (Nat × Value))) (show (nI (bus g i) : Int32) = nI (bus g (i + 1)) from by first | (rw [bus, if_pos c_27]; done) | rw [bus, if_neg c_27]))
            have hl : lv_has ls 4 [(3, .int (nI ((i + 1) + 1))), (0, .ref h0), (1, .int (nI n)), (2, .int (nI (bus g (i + 1))))] := lv_rep hl (congrArg (fun z_ : Int32 => ([(3, .int z_), (0, .ref h0), (1, .int (nI n)), (2, .int (nI (bus g (i + 1))))] : List (Nat × Value))) (show (nI (i + 1 + 1) : Int32) = nI ((i + 1) + 1) from rfl))
            exact ih4  (i + 1) (by omega) (by omega) _ (lv_sub hl [1, 2, 3, 0] rfl)
          · refine lv_iload_n hx hb dX0_busiestMachine_30 rfl (lv_at hl 3 rfl) ?_
            refine lv_istore_n (lv' := [(2, .int (nI (i + 1))), (0, .ref h0), (1, .int (nI n)), (3, .int (nI (i + 1)))]) hx hb dX0_busiestMachine_31 rfl hl (by decide) rfl (fun ls hl => ?_)
            refine lv_iinc (v := nI (i + 1 + 1)) (lv' := [(3, .int (nI (i + 1 + 1))), (2, .int (nI (i + 1))), (0, .ref h0), (1, .int (nI n))]) hx hb dX0_busiestMachine_32 hl (k := 3) rfl (nI_1 _) (by decide) rfl (fun ls hl => ?_)
            refine lv_goto (tgt := 4) hx hb dX0_busiestMachine_35 (by decide) ?_
            have hl : lv_has ls 4 [(3, .int (nI (i + 1 + 1))), (2, .int (nI (bus g (i + 1)))), (0, .ref h0), (1, .int (nI n))] := lv_rep hl (congrArg (fun z_ : Int32 => ([(3, .int (nI (i + 1 + 1))), (2, .int z_), (0, .ref h0), (1, .int (nI n))] : List (Nat × Value))) (show (nI (i + 1) : Int32) = nI (bus g (i + 1)) from by first | (rw [bus, if_pos c_27]; done) | rw [bus, if_neg c_27]))
            have hl : lv_has ls 4 [(3, .int (nI ((i + 1) + 1))), (2, .int (nI (bus g (i + 1)))), (0, .ref h0), (1, .int (nI n))] := lv_rep hl (congrArg (fun z_ : Int32 => ([(3, .int z_), (2, .int (nI (bus g (i + 1)))), (0, .ref h0), (1, .int (nI n))] : List (Nat × Value))) (show (nI (i + 1 + 1) : Int32) = nI ((i + 1) + 1) from rfl))
            exact ih4  (i + 1) (by omega) (by omega) _ (lv_sub hl [2, 3, 1, 0] rfl)
  have hl : lv_has ls 4 [(3, .int (nI 1)), (2, .int (nI (bus g 0))), (0, .ref h0), (1, .int (nI n))] := lv_rep hl (congrArg (fun z_ : Int32 => ([(3, .int (nI 1)), (2, .int z_), (0, .ref h0), (1, .int (nI n))] : List (Nat × Value))) (show (nI 0 : Int32) = nI (bus g 0) from rfl))
  have hl : lv_has ls 4 [(3, .int (nI (0 + 1))), (2, .int (nI (bus g 0))), (0, .ref h0), (1, .int (nI n))] := lv_rep hl (congrArg (fun z_ : Int32 => ([(3, .int z_), (2, .int (nI (bus g 0))), (0, .ref h0), (1, .int (nI n))] : List (Nat × Value))) (show (nI 1 : Int32) = nI (0 + 1) from rfl))
  exact LP4 ((n - 0) + 1) 0 (by omega) (Nat.lt_succ_self _) _ (lv_sub hl [2, 3, 1, 0] rfl)

set_option maxHeartbeats 4000000 in
set_option maxRecDepth 100000 in
theorem c_X0_longestInRound (l : Launch) (G : va_G) (cI cZ : ClassId) (h0 : Nat) (hr : Nat) (ha : Nat) (tm : Int32) (lr : Nat) (g : Nat → Int32) : CR l G cI cZ yX0_longestInRound cX0_longestInRound 3 .int 1 13 [.ref h0] [(h0, .inr (0, [.ref hr, .ref ha, .int tm, .int (nI lr)])), (hr, .inl (cI, 9, .inl g))] (lng g 9) := by
  refine CR.of (own := RX0) (by decide) rfl rfl (Nat.le_of_ble_eq_true rfl) ?_
  intro p e R s m args below meth c H Q X hR fin hP ls hl
  subst hR
  have hx := X.1
  have hb := X.2.1
  have hl : lv_has ls 3 [(0, .ref h0)] := hl
  refine lv_iconst (v := nI 0) hx hb dX0_longestInRound_0 (by decide) ?_
  refine lv_istore_n (lv' := [(1, .int (nI 0)), (0, .ref h0)]) hx hb dX0_longestInRound_1 rfl hl (by decide) rfl (fun ls hl => ?_)
  refine lv_iconst (v := nI 0) hx hb dX0_longestInRound_2 (by decide) ?_
  refine lv_istore_n (lv' := [(2, .int (nI 0)), (1, .int (nI 0)), (0, .ref h0)]) hx hb dX0_longestInRound_3 rfl hl (by decide) rfl (fun ls hl => ?_)
  have LP4 : ∀ (fu : Nat) (i : Nat), (i ≤ 9) → (9 - i) < fu → ∀ (ls : Array Slot), lv_has ls 3 [(0, .ref h0), (1, .int (lng g i)), (2, .int (nI i))] → W p l e ({ frames := 1, cells := 0, slots := 0, locals := 13 } : Room) s m args below meth c H [] 0 0 Q (F0 m 4 ls []) := by
    intro fu
    induction fu with
    | zero =>
      intro i hi hfu
      exact absurd hfu (Nat.not_lt_zero _)
    | succ fu ih4 =>
      intro i hi hfu  ls hl
      refine lv_iload_n hx hb dX0_longestInRound_4 rfl (lv_at hl 2 rfl) ?_
      refine lv_bipush (v := nI 9) hx hb dX0_longestInRound_5 (by decide) ?_
      refine n_icmp_ge (tgt := 27) hx hb dX0_longestInRound_7 (by decide) (by omega) (by omega) (fun c_7 => ?_) (fun c_7 => ?_)
      · refine lv_iload_n hx hb dX0_longestInRound_27 rfl (lv_at hl 1 rfl) ?_
        exact st_eq (show (lng g i : Int32) = lng g 9 from by rw [show i = 9 by omega]) (fin _ _ dX0_longestInRound_28)
      · refine lv_iload_n hx hb dX0_longestInRound_10 rfl (lv_at hl 1 rfl) ?_
        refine lv_aload_n hx hb dX0_longestInRound_11 rfl (lv_at hl 0 rfl) ?_
        refine x_get (C := RX0) (T := TX0) (N := 4) (ci := 0) 0 inT_X0 rfl (by decide) lf_X0_9 rfl X hP 0 rfl rfl dX0_longestInRound_12 ?_
        refine lv_iload_n hx hb dX0_longestInRound_15 rfl (lv_at hl 2 rfl) ?_
        refine n_iald X hP 1 rfl (by omega) (by decide) dX0_longestInRound_16 ?_
        refine va_mmax hx hb (by rw [X.2.2.1]; exact hl.1.symm) X.2.2.2.1 (X.2.2.2.2.1 _ lo_X0_61) (X.2.2.2.2.1 _ w_maxS) (X.2.2.2.2.1 _ w_mathI) (X.2.2.2.2.1 _ w_maxC) (by decide) (Nat.le_of_ble_eq_true rfl) (Nat.zero_le _) (Nat.zero_le _) dX0_longestInRound_17 ?_
        refine lv_istore_n (lv' := [(1, .int (if (lng g i) < (g i) then (g i) else (lng g i))), (0, .ref h0), (2, .int (nI i))]) hx hb dX0_longestInRound_20 rfl hl (by decide) rfl (fun ls hl => ?_)
        refine lv_iinc (v := nI (i + 1)) (lv' := [(2, .int (nI (i + 1))), (1, .int (if (lng g i) < (g i) then (g i) else (lng g i))), (0, .ref h0)]) hx hb dX0_longestInRound_21 hl (k := 2) rfl (nI_1 _) (by decide) rfl (fun ls hl => ?_)
        refine lv_goto (tgt := 4) hx hb dX0_longestInRound_24 (by decide) ?_
        have hl : lv_has ls 3 [(2, .int (nI (i + 1))), (1, .int (lng g (i + 1))), (0, .ref h0)] := lv_rep hl (congrArg (fun z_ : Int32 => ([(2, .int (nI (i + 1))), (1, .int z_), (0, .ref h0)] : List (Nat × Value))) (show (if (lng g i) < (g i) then (g i) else (lng g i) : Int32) = lng g (i + 1) from rfl))
        exact ih4  (i + 1) (by omega) (by omega) _ (lv_sub hl [2, 1, 0] rfl)
  have hl : lv_has ls 3 [(2, .int (nI 0)), (1, .int (lng g 0)), (0, .ref h0)] := lv_rep hl (congrArg (fun z_ : Int32 => ([(2, .int (nI 0)), (1, .int z_), (0, .ref h0)] : List (Nat × Value))) (show (nI 0 : Int32) = lng g 0 from rfl))
  exact LP4 ((9 - 0) + 1) 0 (Nat.zero_le _) (Nat.lt_succ_self _) _ (lv_sub hl [2, 1, 0] rfl)

set_option maxHeartbeats 4000000 in
set_option maxRecDepth 100000 in
theorem c_X2_received (l : Launch) (G : va_G) (cI cZ : ClassId) (h0 : Nat) (hr : Nat) (hs : Nat) (n : Nat) (z : Nat) (op : Int32) (st : Int32) (ea : Int32) (kd : Nat) (a : Int32) (b : Int32) (hkd : kd ≤ 2) : CR l G cI cZ yX2_received cX2_received 4 .int 2 35 [.ref h0, .int (nI kd), .int a, .int b] [(h0, .inr (4, [.ref hr, .ref hs, .int (nI n), .int (nI z), .int op, .int st, .int ea]))] (rcv op kd a b) := by
  refine CR.of (own := RX2) (by decide) rfl rfl (Nat.le_of_ble_eq_true rfl) ?_
  intro p e R s m args below meth c H Q X hR fin hP ls hl
  subst hR
  have hx := X.1
  have hb := X.2.1
  have hl : lv_has ls 4 [(0, .ref h0), (1, .int (nI kd)), (2, .int a), (3, .int b)] := hl
  refine lv_iload_n hx hb dX2_received_0 rfl (lv_at hl 1 rfl) ?_
  refine n_if_ne (tgt := 11) hx hb dX2_received_1 (by decide) (by omega) (fun c_1 => ?_) (fun c_1 => ?_)
  · refine lv_iload_n hx hb dX2_received_11 rfl (lv_at hl 1 rfl) ?_
    refine lv_iconst (v := nI 1) hx hb dX2_received_12 (by decide) ?_
    refine n_icmp_ne (tgt := 25) hx hb dX2_received_13 (by decide) (by omega) (by omega) (fun c_13 => ?_) (fun c_13 => ?_)
    · refine lv_iload_n hx hb dX2_received_25 rfl (lv_at hl 3 rfl) ?_
      exact st_eq (show (b : Int32) = rcv op kd a b from by first | (rw [rcv, if_neg c_1, if_pos c_13]; done) | rw [rcv, if_neg c_1, if_neg c_13]) (fin _ _ dX2_received_26)
    · refine lv_aload_n hx hb dX2_received_16 rfl (lv_at hl 0 rfl) ?_
      refine lv_iload_n hx hb dX2_received_17 rfl (lv_at hl 3 rfl) ?_
      refine lv_iload_n hx hb dX2_received_18 rfl (lv_at hl 2 rfl) ?_
      refine cR_V (As := [.int b, .int a]) (rest := []) X (c_X4_mixed l G cI cZ h0 hr hs n z op st ea b a ) lk_X2_56 (hP.sub (ws' := [(h0, .inr (4, [.ref hr, .ref hs, .int (nI n), .int (nI z), .int op, .int st, .int ea]))]) [0] rfl) rfl rfl hl.1 rfl rfl (Nat.le_of_ble_eq_true rfl) ⟨Nat.le_of_ble_eq_true rfl, Nat.le_of_ble_eq_true rfl⟩ ⟨Nat.le_of_ble_eq_true rfl, Nat.le_of_ble_eq_true rfl⟩ dX2_received_19 ?_
      refine lv_goto (tgt := 26) hx hb dX2_received_22 (by decide) ?_
      exact st_eq (show (mix op b a : Int32) = rcv op kd a b from by first | (rw [rcv, if_neg c_1, if_pos c_13]; done) | rw [rcv, if_neg c_1, if_neg c_13]) (fin _ _ dX2_received_26)
  · refine lv_aload_n hx hb dX2_received_4 rfl (lv_at hl 0 rfl) ?_
    refine lv_iload_n hx hb dX2_received_5 rfl (lv_at hl 2 rfl) ?_
    refine lv_iload_n hx hb dX2_received_6 rfl (lv_at hl 3 rfl) ?_
    refine cR_V (As := [.int a, .int b]) (rest := []) X (c_X4_mixed l G cI cZ h0 hr hs n z op st ea a b ) lk_X2_56 (hP.sub (ws' := [(h0, .inr (4, [.ref hr, .ref hs, .int (nI n), .int (nI z), .int op, .int st, .int ea]))]) [0] rfl) rfl rfl hl.1 rfl rfl (Nat.le_of_ble_eq_true rfl) ⟨Nat.le_of_ble_eq_true rfl, Nat.le_of_ble_eq_true rfl⟩ ⟨Nat.le_of_ble_eq_true rfl, Nat.le_of_ble_eq_true rfl⟩ dX2_received_7 ?_
    exact st_eq (show (mix op a b : Int32) = rcv op kd a b from by rw [rcv, if_pos c_1]) (fin _ _ dX2_received_10)

set_option maxHeartbeats 4000000 in
set_option maxRecDepth 100000 in
theorem c_X5_allRowsAreOne (l : Launch) (G : va_G) (cI cZ : ClassId) (x0 : Nat) (nw : Nat) (i0 : Nat) (i1 : Nat) (kp : Nat) (le : Nat) (bs : Nat) (us : Nat) (an : Nat) (sr_ : Nat) (ss : Nat) (n : Nat) (z : Nat) (op : Int32) (st : Int32) (ea : Int32) (r0 : Nat) (r1 : Nat) (f : Nat → Int32) (hn : 2 ≤ n) (hn9 : n ≤ 9) (hz1 : 1 ≤ z) (hz : z ≤ 12) : CR l G cI cZ yX5_allRowsAreOne cX5_allRowsAreOne 3 .boolean 4 91 [.ref x0, .ref r0] [(x0, .inr (5, [.ref nw, .ref i0, .ref i1, .int (nI kp), .ref le, .ref bs, .ref us, .ref an])), (nw, .inr (4, [.ref sr_, .ref ss, .int (nI n), .int (nI z), .int op, .int st, .int ea])), (r0, .inr (3, [.ref r1])), (r1, .inl (cI, 108, .inl f))] (b2i (aro f z (n - 1))) := by
  refine CR.of (own := RX5) (by decide) rfl (b2i_nar _) (Nat.le_of_ble_eq_true rfl) ?_
  intro p e R s m args below meth c H Q X hR fin hP ls hl
  subst hR
  have hx := X.1
  have hb := X.2.1
  have hl : lv_has ls 3 [(0, .ref x0), (1, .ref r0)] := hl
  refine lv_iconst (v := nI 1) hx hb dX5_allRowsAreOne_0 (by decide) ?_
  refine lv_istore_n (lv' := [(2, .int (nI 1)), (0, .ref x0), (1, .ref r0)]) hx hb dX5_allRowsAreOne_1 rfl hl (by decide) rfl (fun ls hl => ?_)
  have LP2 : ∀ (fu : Nat) (i : Nat), (i + 1 ≤ n) → (aro f z i = true) → (n - i) < fu → ∀ (ls : Array Slot), lv_has ls 3 [(0, .ref x0), (1, .ref r0), (2, .int (nI (i + 1)))] → W p l e ({ frames := 4, cells := 0, slots := 0, locals := 91 } : Room) s m args below meth c H [] 0 0 Q (F0 m 2 ls []) := by
    intro fu
    induction fu with
    | zero =>
      intro i hi har hfu
      exact absurd hfu (Nat.not_lt_zero _)
    | succ fu ih2 =>
      intro i hi har hfu  ls hl
      refine lv_iload_n hx hb dX5_allRowsAreOne_2 rfl (lv_at hl 2 rfl) ?_
      refine lv_aload_n hx hb dX5_allRowsAreOne_3 rfl (lv_at hl 0 rfl) ?_
      refine x_get (C := RX5) (T := TX5) (N := 8) (ci := 5) 0 inT_X5 rfl (by decide) lf_X5_10 rfl X hP 0 rfl rfl dX5_allRowsAreOne_4 ?_
      refine x_getN (C := RX4) (T := TX4) (N := 7) (ci := 4) 2 inT_X4 rfl (by decide) lf_X5_54 rfl X hP 1 rfl rfl dX5_allRowsAreOne_7 ?_
      refine n_icmp_ge (tgt := 38) hx hb dX5_allRowsAreOne_10 (by decide) (by omega) (by omega) (fun c_10 => ?_) (fun c_10 => ?_)
      · refine lv_iconst (v := nI 1) hx hb dX5_allRowsAreOne_38 (by decide) ?_
        exact st_eq (show (nI 1 : Int32) = b2i (aro f z (n - 1)) from by rw [show n - 1 = i by omega, har]; rfl) (fin _ _ dX5_allRowsAreOne_39)
      · refine lv_aload_n hx hb dX5_allRowsAreOne_13 rfl (lv_at hl 1 rfl) ?_
        refine lv_iload_n hx hb dX5_allRowsAreOne_14 rfl (lv_at hl 2 rfl) ?_
        refine lv_aload_n hx hb dX5_allRowsAreOne_15 rfl (lv_at hl 1 rfl) ?_
        refine lv_iconst (v := nI 0) hx hb dX5_allRowsAreOne_16 (by decide) ?_
        refine lv_aload_n hx hb dX5_allRowsAreOne_17 rfl (lv_at hl 0 rfl) ?_
        refine x_get (C := RX5) (T := TX5) (N := 8) (ci := 5) 0 inT_X5 rfl (by decide) lf_X5_10 rfl X hP 0 rfl rfl dX5_allRowsAreOne_18 ?_
        refine x_getN (C := RX4) (T := TX4) (N := 7) (ci := 4) 3 inT_X4 rfl (by decide) lf_X5_162 rfl X hP 1 rfl rfl dX5_allRowsAreOne_21 ?_
        refine cR_V (As := [.int (nI (i + 1)), .ref r0, .int (nI 0), .int (nI z)]) (rest := []) X (c_X3_differing l G cI cZ r0 r1 r0 r1 f f (i + 1) 0 z (by first | assumption | omega) (by first | assumption | omega) (by first | assumption | omega)) lk_X5_165 (hP.sub (ws' := [(r0, .inr (3, [.ref r1])), (r1, .inl (cI, 108, .inl f)), (r0, .inr (3, [.ref r1])), (r1, .inl (cI, 108, .inl f))]) [2, 3, 2, 3] rfl) rfl rfl hl.1 rfl rfl (Nat.le_of_ble_eq_true rfl) ⟨Nat.le_of_ble_eq_true rfl, Nat.le_of_ble_eq_true rfl⟩ ⟨Nat.le_of_ble_eq_true rfl, Nat.le_of_ble_eq_true rfl⟩ dX5_allRowsAreOne_24 ?_
        refine n_if_le (tgt := 32) hx hb dX5_allRowsAreOne_27 (by decide) (Nat.lt_of_le_of_lt (dfc_le _ _ _ _ _) (by omega)) (fun c_27 => ?_) (fun c_27 => ?_)
        · refine lv_iinc (v := nI (i + 1 + 1)) (lv' := [(2, .int (nI (i + 1 + 1))), (0, .ref x0), (1, .ref r0)]) hx hb dX5_allRowsAreOne_32 hl (k := 2) rfl (nI_1 _) (by decide) rfl (fun ls hl => ?_)
          refine lv_goto (tgt := 2) hx hb dX5_allRowsAreOne_35 (by decide) ?_
          have hl : lv_has ls 3 [(2, .int (nI ((i + 1) + 1))), (0, .ref x0), (1, .ref r0)] := lv_rep hl (congrArg (fun z_ : Int32 => ([(2, .int z_), (0, .ref x0), (1, .ref r0)] : List (Nat × Value))) (show (nI (i + 1 + 1) : Int32) = nI ((i + 1) + 1) from rfl))
          exact ih2  (i + 1) (by omega) (by simp [aro, har, c_27]) (by omega) _ (lv_sub hl [1, 2, 0] rfl)
        · refine lv_iconst (v := nI 0) hx hb dX5_allRowsAreOne_30 (by decide) ?_
          exact st_eq (show (nI 0 : Int32) = b2i (aro f z (n - 1)) from aro_no c_27 (by omega)) (fin _ _ dX5_allRowsAreOne_31)
  have hl : lv_has ls 3 [(2, .int (nI (0 + 1))), (0, .ref x0), (1, .ref r0)] := lv_rep hl (congrArg (fun z_ : Int32 => ([(2, .int z_), (0, .ref x0), (1, .ref r0)] : List (Nat × Value))) (show (nI 1 : Int32) = nI (0 + 1) from rfl))
  exact LP2 ((n - 0) + 1) 0 (by omega) rfl (Nat.lt_succ_self _) _ (lv_sub hl [1, 2, 0] rfl)

set_option maxHeartbeats 4000000 in
set_option maxRecDepth 100000 in
theorem c_X5_placesMixedByRising (l : Launch) (G : va_G) (cI cZ : ClassId) (x0 : Nat) (nw : Nat) (i0 : Nat) (i1 : Nat) (kp : Nat) (le : Nat) (bs : Nat) (us : Nat) (an : Nat) (sr_ : Nat) (ss : Nat) (n : Nat) (z : Nat) (op : Int32) (st : Int32) (ea : Int32) (ra : Nat) (r0 : Nat) (r1 : Nat) (f : Nat → Int32) (g : Nat → Int32) (hn : 2 ≤ n) (hn9 : n ≤ 9) (hz1 : 1 ≤ z) (hz : z ≤ 12) : CR l G cI cZ yX5_placesMixedByRising cX5_placesMixedByRising 4 .int 4 88 [.ref x0, .ref r0] [(x0, .inr (5, [.ref nw, .ref i0, .ref i1, .int (nI kp), .ref le, .ref bs, .ref us, .ref an])), (nw, .inr (4, [.ref sr_, .ref ss, .int (nI n), .int (nI z), .int op, .int st, .int ea])), (sr_, .inr (3, [.ref ra])), (ra, .inl (cI, 108, .inl f)), (r0, .inr (3, [.ref r1])), (r1, .inl (cI, 108, .inl g))] (nI (pmr op f g n z)) := by
  refine CR.of (own := RX5) (by decide) rfl rfl (Nat.le_of_ble_eq_true rfl) ?_
  intro p e R s m args below meth c H Q X hR fin hP ls hl
  subst hR
  have hx := X.1
  have hb := X.2.1
  have hl : lv_has ls 4 [(0, .ref x0), (1, .ref r0)] := hl
  refine lv_iconst (v := nI 0) hx hb dX5_placesMixedByRising_0 (by decide) ?_
  refine lv_istore_n (lv' := [(2, .int (nI 0)), (0, .ref x0), (1, .ref r0)]) hx hb dX5_placesMixedByRising_1 rfl hl (by decide) rfl (fun ls hl => ?_)
  refine lv_iconst (v := nI 0) hx hb dX5_placesMixedByRising_2 (by decide) ?_
  refine lv_istore_n (lv' := [(3, .int (nI 0)), (2, .int (nI 0)), (0, .ref x0), (1, .ref r0)]) hx hb dX5_placesMixedByRising_3 rfl hl (by decide) rfl (fun ls hl => ?_)
  have LP4 : ∀ (fu : Nat) (i : Nat), (i ≤ z) → (z - i) < fu → ∀ (ls : Array Slot), lv_has ls 4 [(0, .ref x0), (1, .ref r0), (2, .int (nI (pmr op f g n i))), (3, .int (nI i))] → W p l e ({ frames := 4, cells := 0, slots := 0, locals := 88 } : Room) s m args below meth c H [] 0 0 Q (F0 m 4 ls []) := by
    intro fu
    induction fu with
    | zero =>
      intro i hi hfu
      exact absurd hfu (Nat.not_lt_zero _)
    | succ fu ih4 =>
      intro i hi hfu  ls hl
      refine lv_iload_n hx hb dX5_placesMixedByRising_4 rfl (lv_at hl 3 rfl) ?_
      refine lv_aload_n hx hb dX5_placesMixedByRising_5 rfl (lv_at hl 0 rfl) ?_
      refine x_get (C := RX5) (T := TX5) (N := 8) (ci := 5) 0 inT_X5 rfl (by decide) lf_X5_10 rfl X hP 0 rfl rfl dX5_placesMixedByRising_6 ?_
      refine x_getN (C := RX4) (T := TX4) (N := 7) (ci := 4) 3 inT_X4 rfl (by decide) lf_X5_162 rfl X hP 1 rfl rfl dX5_placesMixedByRising_9 ?_
      refine n_icmp_ge (tgt := 41) hx hb dX5_placesMixedByRising_12 (by decide) (by omega) (by omega) (fun c_12 => ?_) (fun c_12 => ?_)
      · refine lv_iload_n hx hb dX5_placesMixedByRising_41 rfl (lv_at hl 2 rfl) ?_
        exact st_eq (show (nI (pmr op f g n i) : Int32) = nI (pmr op f g n z) from by rw [show i = z by omega]) (fin _ _ dX5_placesMixedByRising_42)
      · refine lv_aload_n hx hb dX5_placesMixedByRising_15 rfl (lv_at hl 1 rfl) ?_
        refine lv_iconst (v := nI 0) hx hb dX5_placesMixedByRising_16 (by decide) ?_
        refine lv_iload_n hx hb dX5_placesMixedByRising_17 rfl (lv_at hl 3 rfl) ?_
        refine cR_V (As := [.int (nI 0), .int (nI i)]) (rest := []) X (c_X3_get l G cI cZ r0 r1 g 0 i (by first | assumption | omega) (by first | assumption | omega)) lk_X5_72 (hP.sub (ws' := [(r0, .inr (3, [.ref r1])), (r1, .inl (cI, 108, .inl g))]) [4, 5] rfl) rfl rfl hl.1 rfl rfl (Nat.le_of_ble_eq_true rfl) ⟨Nat.le_of_ble_eq_true rfl, Nat.le_of_ble_eq_true rfl⟩ ⟨Nat.le_of_ble_eq_true rfl, Nat.le_of_ble_eq_true rfl⟩ dX5_placesMixedByRising_18 ?_
        refine lv_aload_n hx hb dX5_placesMixedByRising_21 rfl (lv_at hl 0 rfl) ?_
        refine x_get (C := RX5) (T := TX5) (N := 8) (ci := 5) 0 inT_X5 rfl (by decide) lf_X5_10 rfl X hP 0 rfl rfl dX5_placesMixedByRising_22 ?_
        refine lv_iload_n hx hb dX5_placesMixedByRising_25 rfl (lv_at hl 3 rfl) ?_
        refine cR_V (As := [.int (nI i)]) (rest := [.int (g (12 * 0 + i))]) X (c_X4_mixedByRising l G cI cZ nw sr_ ss n z op st ea ra f i (by first | assumption | omega) (by first | assumption | omega) (by first | assumption | omega)) lk_X5_195 (hP.sub (ws' := [(nw, .inr (4, [.ref sr_, .ref ss, .int (nI n), .int (nI z), .int op, .int st, .int ea])), (sr_, .inr (3, [.ref ra])), (ra, .inl (cI, 108, .inl f))]) [1, 2, 3] rfl) rfl rfl hl.1 rfl rfl (Nat.le_of_ble_eq_true rfl) ⟨Nat.le_of_ble_eq_true rfl, Nat.le_of_ble_eq_true rfl⟩ ⟨Nat.le_of_ble_eq_true rfl, Nat.le_of_ble_eq_true rfl⟩ dX5_placesMixedByRising_26 ?_
        refine lv_icmp_ne (tgt := 35) hx hb dX5_placesMixedByRising_29 (by decide) (fun c_29 => ?_) (fun c_29 => ?_)
        · refine lv_iinc (v := nI (i + 1)) (lv' := [(3, .int (nI (i + 1))), (0, .ref x0), (1, .ref r0), (2, .int (nI (pmr op f g n i)))]) hx hb dX5_placesMixedByRising_35 hl (k := 3) rfl (nI_1 _) (by decide) rfl (fun ls hl => ?_)
          refine lv_goto (tgt := 4) hx hb dX5_placesMixedByRising_38 (by decide) ?_
          have hl : lv_has ls 4 [(3, .int (nI (i + 1))), (0, .ref x0), (1, .ref r0), (2, .int (nI (pmr op f g n (i + 1))))] := lv_rep hl (congrArg (fun z_ : Int32 => ([(3, .int (nI (i + 1))), (0, .ref x0), (1, .ref r0), (2, .int z_)] : List (Nat × Value))) (show (nI (pmr op f g n i) : Int32) = nI (pmr op f g n (i + 1)) from by first | (rw [pmr, if_pos c_29]; done) | (rw [pmr, if_neg c_29]; rfl)))
          exact ih4  (i + 1) (by omega) (by omega) _ (lv_sub hl [1, 2, 3, 0] rfl)
        · refine lv_iinc (v := nI (pmr op f g n i + 1)) (lv' := [(2, .int (nI (pmr op f g n i + 1))), (0, .ref x0), (1, .ref r0), (3, .int (nI i))]) hx hb dX5_placesMixedByRising_32 hl (k := 2) rfl (nI_1 _) (by decide) rfl (fun ls hl => ?_)
          refine lv_iinc (v := nI (i + 1)) (lv' := [(3, .int (nI (i + 1))), (2, .int (nI (pmr op f g n i + 1))), (0, .ref x0), (1, .ref r0)]) hx hb dX5_placesMixedByRising_35 hl (k := 3) rfl (nI_1 _) (by decide) rfl (fun ls hl => ?_)
          refine lv_goto (tgt := 4) hx hb dX5_placesMixedByRising_38 (by decide) ?_
          have hl : lv_has ls 4 [(3, .int (nI (i + 1))), (2, .int (nI (pmr op f g n (i + 1)))), (0, .ref x0), (1, .ref r0)] := lv_rep hl (congrArg (fun z_ : Int32 => ([(3, .int (nI (i + 1))), (2, .int z_), (0, .ref x0), (1, .ref r0)] : List (Nat × Value))) (show (nI (pmr op f g n i + 1) : Int32) = nI (pmr op f g n (i + 1)) from by first | (rw [pmr, if_pos c_29]; done) | (rw [pmr, if_neg c_29]; rfl)))
          exact ih4  (i + 1) (by omega) (by omega) _ (lv_sub hl [2, 3, 1, 0] rfl)
  have hl : lv_has ls 4 [(3, .int (nI 0)), (2, .int (nI (pmr op f g n 0))), (0, .ref x0), (1, .ref r0)] := lv_rep hl (congrArg (fun z_ : Int32 => ([(3, .int (nI 0)), (2, .int z_), (0, .ref x0), (1, .ref r0)] : List (Nat × Value))) (show (nI 0 : Int32) = nI (pmr op f g n 0) from rfl))
  exact LP4 ((z - 0) + 1) 0 (Nat.zero_le _) (Nat.lt_succ_self _) _ (lv_sub hl [2, 3, 1, 0] rfl)

set_option maxHeartbeats 4000000 in
set_option maxRecDepth 100000 in
theorem c_X5_machinesThatDiffer (l : Launch) (G : va_G) (cI cZ : ClassId) (x0 : Nat) (nw : Nat) (i0 : Nat) (i1 : Nat) (kp : Nat) (le : Nat) (bs : Nat) (us : Nat) (an : Nat) (sr_ : Nat) (ss : Nat) (n : Nat) (z : Nat) (op : Int32) (st : Int32) (ea : Int32) (ur : Nat) (ur1 : Nat) (ub : Nat) (ar_ : Nat) (ar1_ : Nat) (ab : Nat) (f : Nat → Int32) (g : Nat → Int32) (hn : 2 ≤ n) (hn9 : n ≤ 9) (hz1 : 1 ≤ z) (hz : z ≤ 12) : CR l G cI cZ yX5_machinesThatDiffer cX5_machinesThatDiffer 3 .int 4 91 [.ref x0] [(x0, .inr (5, [.ref nw, .ref i0, .ref i1, .int (nI kp), .ref le, .ref bs, .ref us, .ref an])), (nw, .inr (4, [.ref sr_, .ref ss, .int (nI n), .int (nI z), .int op, .int st, .int ea])), (us, .inr (2, [.ref ur, .ref ub])), (ur, .inr (3, [.ref ur1])), (ur1, .inl (cI, 108, .inl f)), (an, .inr (2, [.ref ar_, .ref ab])), (ar_, .inr (3, [.ref ar1_])), (ar1_, .inl (cI, 108, .inl g))] (mtd f g z n) := by
  refine CR.of (own := RX5) (by decide) rfl rfl (Nat.le_of_ble_eq_true rfl) ?_
  intro p e R s m args below meth c H Q X hR fin hP ls hl
  subst hR
  have hx := X.1
  have hb := X.2.1
  have hl : lv_has ls 3 [(0, .ref x0)] := hl
  refine lv_iconst (v := nI 0) hx hb dX5_machinesThatDiffer_0 (by decide) ?_
  refine lv_istore_n (lv' := [(1, .int (nI 0)), (0, .ref x0)]) hx hb dX5_machinesThatDiffer_1 rfl hl (by decide) rfl (fun ls hl => ?_)
  refine lv_iconst (v := nI 0) hx hb dX5_machinesThatDiffer_2 (by decide) ?_
  refine lv_istore_n (lv' := [(2, .int (nI 0)), (1, .int (nI 0)), (0, .ref x0)]) hx hb dX5_machinesThatDiffer_3 rfl hl (by decide) rfl (fun ls hl => ?_)
  have LP4 : ∀ (fu : Nat) (i : Nat), (i ≤ n) → (n - i) < fu → ∀ (ls : Array Slot), lv_has ls 3 [(0, .ref x0), (1, .int (mtd f g z i)), (2, .int (nI i))] → W p l e ({ frames := 4, cells := 0, slots := 0, locals := 91 } : Room) s m args below meth c H [] 0 0 Q (F0 m 4 ls []) := by
    intro fu
    induction fu with
    | zero =>
      intro i hi hfu
      exact absurd hfu (Nat.not_lt_zero _)
    | succ fu ih4 =>
      intro i hi hfu  ls hl
      refine lv_iload_n hx hb dX5_machinesThatDiffer_4 rfl (lv_at hl 2 rfl) ?_
      refine lv_aload_n hx hb dX5_machinesThatDiffer_5 rfl (lv_at hl 0 rfl) ?_
      refine x_get (C := RX5) (T := TX5) (N := 8) (ci := 5) 0 inT_X5 rfl (by decide) lf_X5_10 rfl X hP 0 rfl rfl dX5_machinesThatDiffer_6 ?_
      refine x_getN (C := RX4) (T := TX4) (N := 7) (ci := 4) 2 inT_X4 rfl (by decide) lf_X5_54 rfl X hP 1 rfl rfl dX5_machinesThatDiffer_9 ?_
      refine n_icmp_ge (tgt := 56) hx hb dX5_machinesThatDiffer_12 (by decide) (by omega) (by omega) (fun c_12 => ?_) (fun c_12 => ?_)
      · refine lv_iload_n hx hb dX5_machinesThatDiffer_56 rfl (lv_at hl 1 rfl) ?_
        exact st_eq (show (mtd f g z i : Int32) = mtd f g z n from by rw [show i = n by omega]) (fin _ _ dX5_machinesThatDiffer_57)
      · refine lv_aload_n hx hb dX5_machinesThatDiffer_15 rfl (lv_at hl 0 rfl) ?_
        refine x_get (C := RX5) (T := TX5) (N := 8) (ci := 5) 6 inT_X5 rfl (by decide) lf_X5_43 rfl X hP 0 rfl rfl dX5_machinesThatDiffer_16 ?_
        refine x_getN (C := RX2) (T := TX2) (N := 2) (ci := 2) 0 inT_X2 rfl (by decide) lf_X5_145 rfl X hP 2 rfl rfl dX5_machinesThatDiffer_19 ?_
        refine lv_iload_n hx hb dX5_machinesThatDiffer_22 rfl (lv_at hl 2 rfl) ?_
        refine lv_aload_n hx hb dX5_machinesThatDiffer_23 rfl (lv_at hl 0 rfl) ?_
        refine x_get (C := RX5) (T := TX5) (N := 8) (ci := 5) 7 inT_X5 rfl (by decide) lf_X5_47 rfl X hP 0 rfl rfl dX5_machinesThatDiffer_24 ?_
        refine x_getN (C := RX2) (T := TX2) (N := 2) (ci := 2) 0 inT_X2 rfl (by decide) lf_X5_145 rfl X hP 5 rfl rfl dX5_machinesThatDiffer_27 ?_
        refine lv_iload_n hx hb dX5_machinesThatDiffer_30 rfl (lv_at hl 2 rfl) ?_
        refine lv_aload_n hx hb dX5_machinesThatDiffer_31 rfl (lv_at hl 0 rfl) ?_
        refine x_get (C := RX5) (T := TX5) (N := 8) (ci := 5) 0 inT_X5 rfl (by decide) lf_X5_10 rfl X hP 0 rfl rfl dX5_machinesThatDiffer_32 ?_
        refine x_getN (C := RX4) (T := TX4) (N := 7) (ci := 4) 3 inT_X4 rfl (by decide) lf_X5_162 rfl X hP 1 rfl rfl dX5_machinesThatDiffer_35 ?_
        refine cR_V (As := [.int (nI i), .ref ar_, .int (nI i), .int (nI z)]) (rest := []) X (c_X3_differing l G cI cZ ur ur1 ar_ ar1_ f g i i z (by first | assumption | omega) (by first | assumption | omega) (by first | assumption | omega)) lk_X5_165 (hP.sub (ws' := [(ur, .inr (3, [.ref ur1])), (ur1, .inl (cI, 108, .inl f)), (ar_, .inr (3, [.ref ar1_])), (ar1_, .inl (cI, 108, .inl g))]) [3, 4, 6, 7] rfl) rfl rfl hl.1 rfl rfl (Nat.le_of_ble_eq_true rfl) ⟨Nat.le_of_ble_eq_true rfl, Nat.le_of_ble_eq_true rfl⟩ ⟨Nat.le_of_ble_eq_true rfl, Nat.le_of_ble_eq_true rfl⟩ dX5_machinesThatDiffer_38 ?_
        refine n_if_le (tgt := 50) hx hb dX5_machinesThatDiffer_41 (by decide) (Nat.lt_of_le_of_lt (dfc_le _ _ _ _ _) (by omega)) (fun c_41 => ?_) (fun c_41 => ?_)
        · refine lv_iinc (v := nI (i + 1)) (lv' := [(2, .int (nI (i + 1))), (0, .ref x0), (1, .int (mtd f g z i))]) hx hb dX5_machinesThatDiffer_50 hl (k := 2) rfl (nI_1 _) (by decide) rfl (fun ls hl => ?_)
          refine lv_goto (tgt := 4) hx hb dX5_machinesThatDiffer_53 (by decide) ?_
          have hl : lv_has ls 3 [(2, .int (nI (i + 1))), (0, .ref x0), (1, .int (mtd f g z (i + 1)))] := lv_rep hl (congrArg (fun z_ : Int32 => ([(2, .int (nI (i + 1))), (0, .ref x0), (1, .int z_)] : List (Nat × Value))) (show (mtd f g z i : Int32) = mtd f g z (i + 1) from by first | (rw [mtd, if_pos c_41]; done) | (rw [mtd, if_neg (by omega)])))
          exact ih4  (i + 1) (by omega) (by omega) _ (lv_sub hl [1, 2, 0] rfl)
        · refine lv_iload_n hx hb dX5_machinesThatDiffer_44 rfl (lv_at hl 1 rfl) ?_
          refine lv_iconst (v := nI 1) hx hb dX5_machinesThatDiffer_45 (by decide) ?_
          refine lv_iload_n hx hb dX5_machinesThatDiffer_46 rfl (lv_at hl 2 rfl) ?_
          refine lv_ishl hx hb dX5_machinesThatDiffer_47 ?_
          refine lv_ior hx hb dX5_machinesThatDiffer_48 ?_
          refine lv_istore_n (lv' := [(1, .int ((mtd f g z i) ||| ((nI 1) <<< ((nI i) &&& 31)))), (0, .ref x0), (2, .int (nI i))]) hx hb dX5_machinesThatDiffer_49 rfl hl (by decide) rfl (fun ls hl => ?_)
          refine lv_iinc (v := nI (i + 1)) (lv' := [(2, .int (nI (i + 1))), (1, .int ((mtd f g z i) ||| ((nI 1) <<< ((nI i) &&& 31)))), (0, .ref x0)]) hx hb dX5_machinesThatDiffer_50 hl (k := 2) rfl (nI_1 _) (by decide) rfl (fun ls hl => ?_)
          refine lv_goto (tgt := 4) hx hb dX5_machinesThatDiffer_53 (by decide) ?_
          have hl : lv_has ls 3 [(2, .int (nI (i + 1))), (1, .int (mtd f g z (i + 1))), (0, .ref x0)] := lv_rep hl (congrArg (fun z_ : Int32 => ([(2, .int (nI (i + 1))), (1, .int z_), (0, .ref x0)] : List (Nat × Value))) (show ((mtd f g z i) ||| ((nI 1) <<< ((nI i) &&& 31)) : Int32) = mtd f g z (i + 1) from by first | (rw [mtd, if_pos c_41]; done) | (rw [mtd, if_neg (by omega)])))
          exact ih4  (i + 1) (by omega) (by omega) _ (lv_sub hl [2, 1, 0] rfl)
  have hl : lv_has ls 3 [(2, .int (nI 0)), (1, .int (mtd f g z 0)), (0, .ref x0)] := lv_rep hl (congrArg (fun z_ : Int32 => ([(2, .int (nI 0)), (1, .int z_), (0, .ref x0)] : List (Nat × Value))) (show (nI 0 : Int32) = mtd f g z 0 from rfl))
  exact LP4 ((n - 0) + 1) 0 (Nat.zero_le _) (Nat.lt_succ_self _) _ (lv_sub hl [2, 1, 0] rfl)

set_option maxHeartbeats 4000000 in
set_option maxRecDepth 100000 in
theorem c_X5_numbersThatDiffer (l : Launch) (G : va_G) (cI cZ : ClassId) (x0 : Nat) (nw : Nat) (i0 : Nat) (i1 : Nat) (kp : Nat) (le : Nat) (bs : Nat) (us : Nat) (an : Nat) (sr_ : Nat) (ss : Nat) (n : Nat) (z : Nat) (op : Int32) (st : Int32) (ea : Int32) (ur : Nat) (ur1 : Nat) (ub : Nat) (ar_ : Nat) (ar1_ : Nat) (ab : Nat) (f : Nat → Int32) (g : Nat → Int32) (hn : 2 ≤ n) (hn9 : n ≤ 9) (hz1 : 1 ≤ z) (hz : z ≤ 12) : CR l G cI cZ yX5_numbersThatDiffer cX5_numbersThatDiffer 3 .int 4 91 [.ref x0] [(x0, .inr (5, [.ref nw, .ref i0, .ref i1, .int (nI kp), .ref le, .ref bs, .ref us, .ref an])), (nw, .inr (4, [.ref sr_, .ref ss, .int (nI n), .int (nI z), .int op, .int st, .int ea])), (us, .inr (2, [.ref ur, .ref ub])), (ur, .inr (3, [.ref ur1])), (ur1, .inl (cI, 108, .inl f)), (an, .inr (2, [.ref ar_, .ref ab])), (ar_, .inr (3, [.ref ar1_])), (ar1_, .inl (cI, 108, .inl g))] (nI (ntd f g z n)) := by
  refine CR.of (own := RX5) (by decide) rfl rfl (Nat.le_of_ble_eq_true rfl) ?_
  intro p e R s m args below meth c H Q X hR fin hP ls hl
  subst hR
  have hx := X.1
  have hb := X.2.1
  have hl : lv_has ls 3 [(0, .ref x0)] := hl
  refine lv_iconst (v := nI 0) hx hb dX5_numbersThatDiffer_0 (by decide) ?_
  refine lv_istore_n (lv' := [(1, .int (nI 0)), (0, .ref x0)]) hx hb dX5_numbersThatDiffer_1 rfl hl (by decide) rfl (fun ls hl => ?_)
  refine lv_iconst (v := nI 0) hx hb dX5_numbersThatDiffer_2 (by decide) ?_
  refine lv_istore_n (lv' := [(2, .int (nI 0)), (1, .int (nI 0)), (0, .ref x0)]) hx hb dX5_numbersThatDiffer_3 rfl hl (by decide) rfl (fun ls hl => ?_)
  have LP4 : ∀ (fu : Nat) (i : Nat), (i ≤ n) → (n - i) < fu → ∀ (ls : Array Slot), lv_has ls 3 [(0, .ref x0), (1, .int (nI (ntd f g z i))), (2, .int (nI i))] → W p l e ({ frames := 4, cells := 0, slots := 0, locals := 91 } : Room) s m args below meth c H [] 0 0 Q (F0 m 4 ls []) := by
    intro fu
    induction fu with
    | zero =>
      intro i hi hfu
      exact absurd hfu (Nat.not_lt_zero _)
    | succ fu ih4 =>
      intro i hi hfu  ls hl
      refine lv_iload_n hx hb dX5_numbersThatDiffer_4 rfl (lv_at hl 2 rfl) ?_
      refine lv_aload_n hx hb dX5_numbersThatDiffer_5 rfl (lv_at hl 0 rfl) ?_
      refine x_get (C := RX5) (T := TX5) (N := 8) (ci := 5) 0 inT_X5 rfl (by decide) lf_X5_10 rfl X hP 0 rfl rfl dX5_numbersThatDiffer_6 ?_
      refine x_getN (C := RX4) (T := TX4) (N := 7) (ci := 4) 2 inT_X4 rfl (by decide) lf_X5_54 rfl X hP 1 rfl rfl dX5_numbersThatDiffer_9 ?_
      refine n_icmp_ge (tgt := 50) hx hb dX5_numbersThatDiffer_12 (by decide) (by omega) (by omega) (fun c_12 => ?_) (fun c_12 => ?_)
      · refine lv_iload_n hx hb dX5_numbersThatDiffer_50 rfl (lv_at hl 1 rfl) ?_
        exact st_eq (show (nI (ntd f g z i) : Int32) = nI (ntd f g z n) from by rw [show i = n by omega]) (fin _ _ dX5_numbersThatDiffer_51)
      · refine lv_iload_n hx hb dX5_numbersThatDiffer_15 rfl (lv_at hl 1 rfl) ?_
        refine lv_aload_n hx hb dX5_numbersThatDiffer_16 rfl (lv_at hl 0 rfl) ?_
        refine x_get (C := RX5) (T := TX5) (N := 8) (ci := 5) 6 inT_X5 rfl (by decide) lf_X5_43 rfl X hP 0 rfl rfl dX5_numbersThatDiffer_17 ?_
        refine x_getN (C := RX2) (T := TX2) (N := 2) (ci := 2) 0 inT_X2 rfl (by decide) lf_X5_145 rfl X hP 2 rfl rfl dX5_numbersThatDiffer_20 ?_
        refine lv_iload_n hx hb dX5_numbersThatDiffer_23 rfl (lv_at hl 2 rfl) ?_
        refine lv_aload_n hx hb dX5_numbersThatDiffer_24 rfl (lv_at hl 0 rfl) ?_
        refine x_get (C := RX5) (T := TX5) (N := 8) (ci := 5) 7 inT_X5 rfl (by decide) lf_X5_47 rfl X hP 0 rfl rfl dX5_numbersThatDiffer_25 ?_
        refine x_getN (C := RX2) (T := TX2) (N := 2) (ci := 2) 0 inT_X2 rfl (by decide) lf_X5_145 rfl X hP 5 rfl rfl dX5_numbersThatDiffer_28 ?_
        refine lv_iload_n hx hb dX5_numbersThatDiffer_31 rfl (lv_at hl 2 rfl) ?_
        refine lv_aload_n hx hb dX5_numbersThatDiffer_32 rfl (lv_at hl 0 rfl) ?_
        refine x_get (C := RX5) (T := TX5) (N := 8) (ci := 5) 0 inT_X5 rfl (by decide) lf_X5_10 rfl X hP 0 rfl rfl dX5_numbersThatDiffer_33 ?_
        refine x_getN (C := RX4) (T := TX4) (N := 7) (ci := 4) 3 inT_X4 rfl (by decide) lf_X5_162 rfl X hP 1 rfl rfl dX5_numbersThatDiffer_36 ?_
        refine cR_V (As := [.int (nI i), .ref ar_, .int (nI i), .int (nI z)]) (rest := [.int (nI (ntd f g z i))]) X (c_X3_differing l G cI cZ ur ur1 ar_ ar1_ f g i i z (by first | assumption | omega) (by first | assumption | omega) (by first | assumption | omega)) lk_X5_165 (hP.sub (ws' := [(ur, .inr (3, [.ref ur1])), (ur1, .inl (cI, 108, .inl f)), (ar_, .inr (3, [.ref ar1_])), (ar1_, .inl (cI, 108, .inl g))]) [3, 4, 6, 7] rfl) rfl rfl hl.1 rfl rfl (Nat.le_of_ble_eq_true rfl) ⟨Nat.le_of_ble_eq_true rfl, Nat.le_of_ble_eq_true rfl⟩ ⟨Nat.le_of_ble_eq_true rfl, Nat.le_of_ble_eq_true rfl⟩ dX5_numbersThatDiffer_39 ?_
        refine n_add hx hb dX5_numbersThatDiffer_42  ?_
        refine lv_istore_n (lv' := [(1, .int (nI ((ntd f g z i) + (dfc f g i i z)))), (0, .ref x0), (2, .int (nI i))]) hx hb dX5_numbersThatDiffer_43 rfl hl (by decide) rfl (fun ls hl => ?_)
        refine lv_iinc (v := nI (i + 1)) (lv' := [(2, .int (nI (i + 1))), (1, .int (nI ((ntd f g z i) + (dfc f g i i z)))), (0, .ref x0)]) hx hb dX5_numbersThatDiffer_44 hl (k := 2) rfl (nI_1 _) (by decide) rfl (fun ls hl => ?_)
        refine lv_goto (tgt := 4) hx hb dX5_numbersThatDiffer_47 (by decide) ?_
        have hl : lv_has ls 3 [(2, .int (nI (i + 1))), (1, .int (nI (ntd f g z (i + 1)))), (0, .ref x0)] := lv_rep hl (congrArg (fun z_ : Int32 => ([(2, .int (nI (i + 1))), (1, .int z_), (0, .ref x0)] : List (Nat × Value))) (show (nI ((ntd f g z i) + (dfc f g i i z)) : Int32) = nI (ntd f g z (i + 1)) from rfl))
        exact ih4  (i + 1) (by omega) (by omega) _ (lv_sub hl [2, 1, 0] rfl)
  have hl : lv_has ls 3 [(2, .int (nI 0)), (1, .int (nI (ntd f g z 0))), (0, .ref x0)] := lv_rep hl (congrArg (fun z_ : Int32 => ([(2, .int (nI 0)), (1, .int z_), (0, .ref x0)] : List (Nat × Value))) (show (nI 0 : Int32) = nI (ntd f g z 0) from rfl))
  exact LP4 ((n - 0) + 1) 0 (Nat.zero_le _) (Nat.lt_succ_self _) _ (lv_sub hl [2, 1, 0] rfl)
end
section
/-! ===== pure words of the writes ===== -/
def fil (f : Nat → Int32) (v : Int32) (i : Nat) : Nat → Int32 := fun j => if j < i then v else f j
theorem fil_0 (f : Nat → Int32) (v : Int32) (j : Nat) : f j = fil f v 0 j := by simp [fil]
theorem fil_s (f : Nat → Int32) (v : Int32) (i j : Nat) : upd (fil f v i) i v j = fil f v (i + 1) j := by
  simp only [upd, fil]
  by_cases h : j = i
  · rw [if_pos h, if_pos (by omega)]
  · rw [if_neg h]
    by_cases h2 : j < i
    · rw [if_pos h2, if_pos (by omega)]
    · rw [if_neg h2, if_neg (by omega)]
theorem fil_e {f : Nat → Int32} {v : Int32} {i j : Nat} (h : j < i) : fil f v i j = v := by simp [fil, h]
theorem cpy_all {f g : Nat → Int32} {n j : Nat} (h : j < n) : va_cpy f g 0 0 n j = f j := by simp [va_cpy, h]
def nF (f : Nat → Nat) : Nat → Int32 := fun i => nI (f i)
def updN (f : Nat → Nat) (k x : Nat) : Nat → Nat := fun j => if j = k then x else f j
theorem upd_nF (f : Nat → Nat) (k x : Nat) : upd (nF f) k (nI x) = nF (updN f k x) := by
  funext j
  simp only [upd, nF, updN]
  split <;> rfl
theorem lt_app {L : List (List Nat)} {x : List Nat} {k w : Nat} (hk : k < L.length) : lt (L ++ [x]) k w = lt L k w := by
  simp [lt, List.getD_eq_getElem?_getD, List.getElem?_append_left hk]
theorem lt_last {L : List (List Nat)} {x : List Nat} {w : Nat} : lt (L ++ [x]) L.length w = x.getD w 0 := by
  simp [lt, List.getD_eq_getElem?_getD]
theorem LTc_send {tb : Nat → Int32} {L : List (List Nat)} (h : LTc tb L) (a b c d e f : Nat) :
    LTc (upd (upd (upd (upd (upd (upd tb (L.length * 6 + 0) (nI a)) (L.length * 6 + 1) (nI b)) (L.length * 6 + 2) (nI c)) (L.length * 6 + 3) (nI d)) (L.length * 6 + 4) (nI e)) (L.length * 6 + 5) (nI f)) (L ++ [[a, b, c, d, e, f]]) := by
  intro k hk w hw
  rw [List.length_append] at hk
  have hk : k < L.length + 1 := hk
  by_cases e : k < L.length
  · rw [lt_app e, ← h k e w hw]
    simp only [upd]
    rw [if_neg (by omega), if_neg (by omega), if_neg (by omega), if_neg (by omega), if_neg (by omega), if_neg (by omega)]
  · obtain rfl : k = L.length := by omega
    rw [lt_last]
    simp only [upd]
    match w, hw with
    | 0, _ => rw [if_neg (by omega), if_neg (by omega), if_neg (by omega), if_neg (by omega), if_neg (by omega), if_pos (by omega)]; rfl
    | 1, _ => rw [if_neg (by omega), if_neg (by omega), if_neg (by omega), if_neg (by omega), if_pos (by omega)]; rfl
    | 2, _ => rw [if_neg (by omega), if_neg (by omega), if_neg (by omega), if_pos (by omega)]; rfl
    | 3, _ => rw [if_neg (by omega), if_neg (by omega), if_pos (by omega)]; rfl
    | 4, _ => rw [if_neg (by omega), if_pos (by omega)]; rfl
    | 5, _ => rw [if_pos (by omega)]; rfl
    | n + 6, h => exact absurd h (by omega)
theorem LTc_0 (tb : Nat → Int32) : LTc tb [] := fun k hk => absurd hk (Nat.not_lt_zero k)
end
section
set_option maxHeartbeats 4000000 in
set_option maxRecDepth 100000 in
theorem c_J7_fill_53178 (l : Launch) (G : va_G) (cI cZ : ClassId) (a : Nat) (cnt : Nat) (f : Nat → Int32) (v : Int32) (hc : cnt < 2 ^ 31) : CM l G cI cZ yJ7_fill_53178 cJ7_fill_53178 4 none 0 0 0 0 [.ref a, .int v] [(a, .inl (cI, cnt, .inl f))] (fun ov_ wv_ => ov_ = none ∧ wv_ = [(a, .inl (cI, cnt, .inl (fun _ => v)))]) := by
  refine CM.of (own := RJ7) (by decide) rfl (Nat.le_of_ble_eq_true rfl) ?_
  intro p e R s m args below meth c Q A X hR hret hnm hA fin hd ls hl
  subst hR
  have hx := X.1
  have hb := X.2.1
  have hl : lv_has ls 4 [(0, .ref a), (1, .int v)] := hl
  refine lv_iconst (v := nI 0) hx hb dJ7_fill_53178_0 (by decide) ?_
  refine lv_istore_n (lv' := [(2, .int (nI 0)), (0, .ref a), (1, .int v)]) hx hb dJ7_fill_53178_1 rfl hl (by decide) rfl (fun ls hl => ?_)
  refine lv_aload_n hx hb dJ7_fill_53178_2 rfl (lv_at hl 1 rfl) ?_
  refine va_alen (v := nI cnt) hx hb X.2.2.2.2.2.2.1 hd.1 0 0 rfl rfl rfl dJ7_fill_53178_3 ?_
  refine lv_istore_n (lv' := [(3, .int (nI cnt)), (2, .int (nI 0)), (0, .ref a), (1, .int v)]) hx hb dJ7_fill_53178_4 rfl hl (by decide) rfl (fun ls hl => ?_)
  have LP5 : ∀ (fu : Nat) (i : Nat), (i ≤ cnt) → (cnt - i) < fu → ∀ (H : Heap) (locs : List Loc), Hd G A s.heap [(a, .inl (cI, cnt, .inl (fil f v i)))] H locs → ∀ (ls : Array Slot), lv_has ls 4 [(0, .ref a), (1, .int v), (2, .int (nI i)), (3, .int (nI cnt))] → W p l e ({ frames := 0, cells := 0, slots := 0, locals := 0 } : Room) s m args below meth c H locs 0 0 Q (F0 m 5 ls []) := by
    intro fu
    induction fu with
    | zero =>
      intro i hi hfu
      exact absurd hfu (Nat.not_lt_zero _)
    | succ fu ih5 =>
      intro i hi hfu H locs hd ls hl
      refine lv_iload_n hx hb dJ7_fill_53178_5 rfl (lv_at hl 2 rfl) ?_
      refine lv_iload_n hx hb dJ7_fill_53178_6 rfl (lv_at hl 3 rfl) ?_
      refine n_icmp_ge (tgt := 20) hx hb dJ7_fill_53178_7 (by decide) (by omega) (by omega) (fun c_7 => ?_) (fun c_7 => ?_)
      · have hd := hd.arr 0 rfl (fun _ => v) (fun j hj => fil_e (by omega))
        have hd : Hd G A s.heap [(a, .inl (cI, cnt, .inl (fun _ => v)))] H locs := hd
        exact (fin _ _ [(a, .inl (cI, cnt, .inl (fun _ => v)))] _ _ (hd.sub [0] rfl rfl)).1 rfl ⟨rfl, rfl⟩ dJ7_fill_53178_20
      · refine lv_aload_n hx hb dJ7_fill_53178_10 rfl (lv_at hl 0 rfl) ?_
        refine lv_iload_n hx hb dJ7_fill_53178_11 rfl (lv_at hl 2 rfl) ?_
        refine lv_iload_n hx hb dJ7_fill_53178_12 rfl (lv_at hl 1 rfl) ?_
        refine n_iast X hd 0 rfl (by omega) (hc) dJ7_fill_53178_13 (fun H locs hd => ?_)
        have hd : Hd G A s.heap [(a, .inl (cI, cnt, .inl (upd (fil f v i) i v)))] H locs := hd
        refine lv_iinc (v := nI (i + 1)) (lv' := [(2, .int (nI (i + 1))), (0, .ref a), (1, .int v), (3, .int (nI cnt))]) hx hb dJ7_fill_53178_14 hl (k := 2) rfl (nI_1 _) (by decide) rfl (fun ls hl => ?_)
        refine lv_goto (tgt := 5) hx hb dJ7_fill_53178_17 (by decide) ?_
        have hd := hd.arr 0 rfl (fil f v (i + 1)) (fun j _ => fil_s f v i j)
        have hd : Hd G A s.heap [(a, .inl (cI, cnt, .inl (fil f v (i + 1))))] H locs := hd
        exact ih5  (i + 1) (by omega) (by omega) _ _ (hd.sub [0] rfl rfl) _ (lv_sub hl [1, 2, 0, 3] rfl)
  have hd := hd.arr 0 rfl (fil f v 0) (fun j _ => fil_0 f v j)
  have hd : Hd G A s.heap [(a, .inl (cI, cnt, .inl (fil f v 0)))] s.heap [] := hd
  exact LP5 ((cnt - 0) + 1) 0 (Nat.zero_le _) (Nat.lt_succ_self _) _ _ (hd.sub [0] rfl rfl) _ (lv_sub hl [2, 3, 1, 0] rfl)

set_option maxHeartbeats 4000000 in
set_option maxRecDepth 100000 in
theorem c_X3_set (l : Launch) (G : va_G) (cI cZ : ClassId) (h0 : Nat) (h1 : Nat) (f : Nat → Int32) (a : Nat) (b : Nat) (v : Int32) (ha : a < 9) (hb1 : b < 12) : CM l G cI cZ yX3_set cX3_set 4 none 2 43 0 0 [.ref h0, .int (nI a), .int (nI b), .int v] [(h0, .inr (3, [.ref h1])), (h1, .inl (cI, 108, .inl f))] (fun ov_ wv_ => ov_ = none ∧ wv_ = [(h0, .inr (3, [.ref h1])), (h1, .inl (cI, 108, .inl (upd f (12 * a + b) v)))]) := by
  refine CM.of (own := RX3) (by decide) rfl (Nat.le_of_ble_eq_true rfl) ?_
  intro p e R s m args below meth c Q A X hR hret hnm hA fin hd ls hl
  subst hR
  have hx := X.1
  have hb := X.2.1
  have hl : lv_has ls 4 [(0, .ref h0), (1, .int (nI a)), (2, .int (nI b)), (3, .int v)] := hl
  refine lv_iload_n hx hb dX3_set_0 rfl (lv_at hl 1 rfl) ?_
  refine lv_iload_n hx hb dX3_set_1 rfl (lv_at hl 2 rfl) ?_
  refine cR_S (As := [.int (nI a), .int (nI b)]) (rest := []) X (c_X3_isInside l G cI cZ a b (by first | assumption | omega) (by first | assumption | omega)) lk_X3_15 (hd.1.sub (ws' := []) [] rfl) hl.1 rfl rfl (Nat.le_of_ble_eq_true rfl) ⟨Nat.le_of_ble_eq_true rfl, Nat.le_of_ble_eq_true rfl⟩ ⟨Nat.le_of_ble_eq_true rfl, Nat.le_of_ble_eq_true rfl⟩ dX3_set_2 ?_
  refine b_if_eq (tgt := 20) hx hb dX3_set_5 (by decide) (fun c_5 => ?_) (fun c_5 => ?_)
  · exact absurd ((rfl : true = true).symm.trans c_5) (by decide)
  · refine lv_aload_n hx hb dX3_set_8 rfl (lv_at hl 0 rfl) ?_
    refine x_get (C := RX3) (T := TX3) (N := 1) (ci := 3) 0 inT_X3 rfl (by decide) lf_X3_9 rfl X hd.1 0 rfl rfl dX3_set_9 ?_
    refine lv_iload_n hx hb dX3_set_12 rfl (lv_at hl 1 rfl) ?_
    refine lv_bipush (v := nI 12) hx hb dX3_set_13 (by decide) ?_
    refine n_mul hx hb dX3_set_15  ?_
    refine lv_iload_n hx hb dX3_set_16 rfl (lv_at hl 2 rfl) ?_
    refine n_add hx hb dX3_set_17  ?_
    refine lv_iload_n hx hb dX3_set_18 rfl (lv_at hl 3 rfl) ?_
    refine n_iast X hd 1 rfl (by omega) (by decide) dX3_set_19 (fun H locs hd => ?_)
    have hd : Hd G A s.heap [(h0, .inr (3, [.ref h1])), (h1, .inl (cI, 108, .inl (upd f ((a * 12) + b) v)))] H locs := hd
    exact (fin _ _ [(h0, .inr (3, [.ref h1])), (h1, .inl (cI, 108, .inl (upd f ((a * 12) + b) v)))] _ _ (hd.sub [0, 1] rfl rfl)).1 rfl ⟨rfl, by rw [Nat.mul_comm]⟩ dX3_set_20

set_option maxHeartbeats 4000000 in
set_option maxRecDepth 100000 in
theorem c_X3_clear (l : Launch) (G : va_G) (cI cZ : ClassId) (h0 : Nat) (h1 : Nat) (f : Nat → Int32) : CM l G cI cZ yX3_clear cX3_clear 1 none 1 23 0 0 [.ref h0] [(h0, .inr (3, [.ref h1])), (h1, .inl (cI, 108, .inl f))] (fun ov_ wv_ => ov_ = none ∧ wv_ = [(h0, .inr (3, [.ref h1])), (h1, .inl (cI, 108, .inl (fun _ => nI 0)))]) := by
  refine CM.of (own := RX3) (by decide) rfl (Nat.le_of_ble_eq_true rfl) ?_
  intro p e R s m args below meth c Q A X hR hret hnm hA fin hd ls hl
  subst hR
  have hx := X.1
  have hb := X.2.1
  have hl : lv_has ls 1 [(0, .ref h0)] := hl
  refine lv_aload_n hx hb dX3_clear_0 rfl (lv_at hl 0 rfl) ?_
  refine x_get (C := RX3) (T := TX3) (N := 1) (ci := 3) 0 inT_X3 rfl (by decide) lf_X3_9 rfl X hd.1 0 rfl rfl dX3_clear_1 ?_
  refine lv_iconst (v := nI 0) hx hb dX3_clear_4 (by decide) ?_
  refine cM_S (As := [.ref h1, .int (nI 0)]) (rest := []) (wr := [(h0, .inr (3, [.ref h1]))]) X (c_J7_fill_53178 l G cI cZ h1 108 f (nI 0) (by decide)) lk_X3_19 hd hA [1] [0] rfl rfl rfl rfl (by decide) hl.1 rfl rfl (Nat.le_of_ble_eq_true rfl) ⟨Nat.le_of_ble_eq_true rfl, Nat.le_of_ble_eq_true rfl⟩ ⟨Nat.le_of_ble_eq_true rfl, Nat.le_of_ble_eq_true rfl⟩ dX3_clear_5 (fun v w1 H locs hp hd => ?_)
  obtain ⟨rfl, rfl⟩ := hp
  have hd : Hd G A s.heap [(h0, .inr (3, [.ref h1])), (h1, .inl (cI, 108, .inl (fun _ => (nI 0))))] H locs := hd
  refine st_all (st' := []) rfl ?_
  exact (fin _ _ [(h0, .inr (3, [.ref h1])), (h1, .inl (cI, 108, .inl (fun _ => (nI 0))))] _ _ (hd.sub [0, 1] rfl rfl)).1 rfl ⟨rfl, by rfl⟩ dX3_clear_8

set_option maxHeartbeats 4000000 in
set_option maxRecDepth 100000 in
theorem c_X3_copyFrom (l : Launch) (G : va_G) (cI cZ : ClassId) (h0 : Nat) (h1 : Nat) (g0 : Nat) (g1 : Nat) (f : Nat → Int32) (g : Nat → Int32) : CM l G cI cZ yX3_copyFrom cX3_copyFrom 2 none 1 18 0 0 [.ref h0, .ref g0] [(h0, .inr (3, [.ref h1])), (h1, .inl (cI, 108, .inl f)), (g0, .inr (3, [.ref g1])), (g1, .inl (cI, 108, .inl g))] (fun ov_ wv_ => ov_ = none ∧ wv_ = [(h0, .inr (3, [.ref h1])), (h1, .inl (cI, 108, .inl g)), (g0, .inr (3, [.ref g1])), (g1, .inl (cI, 108, .inl g))]) := by
  refine CM.of (own := RX3) (by decide) rfl (Nat.le_of_ble_eq_true rfl) ?_
  intro p e R s m args below meth c Q A X hR hret hnm hA fin hd ls hl
  subst hR
  have hx := X.1
  have hb := X.2.1
  have hl : lv_has ls 2 [(0, .ref h0), (1, .ref g0)] := hl
  refine lv_aload_n hx hb dX3_copyFrom_0 rfl (lv_at hl 1 rfl) ?_
  refine x_get (C := RX3) (T := TX3) (N := 1) (ci := 3) 0 inT_X3 rfl (by decide) lf_X3_9 rfl X hd.1 2 rfl rfl dX3_copyFrom_1 ?_
  refine lv_iconst (v := nI 0) hx hb dX3_copyFrom_4 (by decide) ?_
  refine lv_aload_n hx hb dX3_copyFrom_5 rfl (lv_at hl 0 rfl) ?_
  refine x_get (C := RX3) (T := TX3) (N := 1) (ci := 3) 0 inT_X3 rfl (by decide) lf_X3_9 rfl X hd.1 0 rfl rfl dX3_copyFrom_6 ?_
  refine lv_iconst (v := nI 0) hx hb dX3_copyFrom_9 (by decide) ?_
  refine lv_bipush (v := nI 108) hx hb dX3_copyFrom_10 (by decide) ?_
  refine x_copy X hd 3 1 rfl rfl (by decide) (by decide) (by decide) (by decide) (by decide) lo_X3_25 w_acN w_acS w_sysI (by decide) (Nat.le_of_ble_eq_true rfl) (by rw [X.2.2.1]; exact hl.1.symm) dX3_copyFrom_12 (fun H locs hd => ?_)
  have hd : Hd G A s.heap [(h0, .inr (3, [.ref h1])), (h1, .inl (cI, 108, .inl (va_cpy g f 0 0 108))), (g0, .inr (3, [.ref g1])), (g1, .inl (cI, 108, .inl g))] H locs := hd
  have hd := hd.arr 1 rfl g (fun j hj => cpy_all hj)
  have hd : Hd G A s.heap [(h0, .inr (3, [.ref h1])), (h1, .inl (cI, 108, .inl g)), (g0, .inr (3, [.ref g1])), (g1, .inl (cI, 108, .inl g))] H locs := hd
  exact (fin _ _ [(h0, .inr (3, [.ref h1])), (h1, .inl (cI, 108, .inl g)), (g0, .inr (3, [.ref g1])), (g1, .inl (cI, 108, .inl g))] _ _ (hd.sub [0, 1, 2, 3] rfl rfl)).1 rfl ⟨rfl, rfl⟩ dX3_copyFrom_15

set_option maxHeartbeats 4000000 in
set_option maxRecDepth 100000 in
theorem c_X4_begin (l : Launch) (G : va_G) (cI cZ : ClassId) (h0 : Nat) (hr : Nat) (ra : Nat) (hs : Nat) (f : Nat → Int32) (g : Nat → Int32) (n : Nat) (z : Nat) (op : Int32) (st : Int32) (ea : Int32) (n2 : Nat) (z2 : Nat) : CM l G cI cZ yX4_begin cX4_begin 3 none 2 43 0 0 [.ref h0, .int (nI n2), .int (nI z2)] [(h0, .inr (4, [.ref hr, .ref hs, .int (nI n), .int (nI z), .int op, .int st, .int ea])), (hr, .inr (3, [.ref ra])), (ra, .inl (cI, 108, .inl f)), (hs, .inl (cI, 81, .inl g))] (fun ov_ wv_ => ov_ = none ∧ wv_ = [(h0, .inr (4, [.ref hr, .ref hs, .int (nI n2), .int (nI z2), .int op, .int st, .int ea])), (hr, .inr (3, [.ref ra])), (ra, .inl (cI, 108, .inl (fun _ => nI 0))), (hs, .inl (cI, 81, .inl (fun _ => nI 1)))]) := by
  refine CM.of (own := RX4) (by decide) rfl (Nat.le_of_ble_eq_true rfl) ?_
  intro p e R s m args below meth c Q A X hR hret hnm hA fin hd ls hl
  subst hR
  have hx := X.1
  have hb := X.2.1
  have hl : lv_has ls 3 [(0, .ref h0), (1, .int (nI n2)), (2, .int (nI z2))] := hl
  refine lv_aload_n hx hb dX4_begin_0 rfl (lv_at hl 0 rfl) ?_
  refine lv_iload_n hx hb dX4_begin_1 rfl (lv_at hl 1 rfl) ?_
  refine x_put (C := RX4) (T := TX4) (N := 7) (ci := 4) (ty := .int) 2 inT_X4 tyX4 tyX4_ok nmX4 rfl (by decide) lf_X4_22 rfl rfl (by decide +kernel) X hd 0 rfl rfl rfl (Nat.le_of_ble_eq_true rfl) dX4_begin_2 (fun H locs hd => ?_)
  have hd : Hd G A s.heap [(h0, .inr (4, [.ref hr, .ref hs, .int (nI n2), .int (nI z), .int op, .int st, .int ea])), (hr, .inr (3, [.ref ra])), (ra, .inl (cI, 108, .inl f)), (hs, .inl (cI, 81, .inl g))] H locs := hd
  refine lv_aload_n hx hb dX4_begin_5 rfl (lv_at hl 0 rfl) ?_
  refine lv_iload_n hx hb dX4_begin_6 rfl (lv_at hl 2 rfl) ?_
  refine x_put (C := RX4) (T := TX4) (N := 7) (ci := 4) (ty := .int) 3 inT_X4 tyX4 tyX4_ok nmX4 rfl (by decide) lf_X4_26 rfl rfl (by decide +kernel) X hd 0 rfl rfl rfl (Nat.le_of_ble_eq_true rfl) dX4_begin_7 (fun H locs hd => ?_)
  have hd : Hd G A s.heap [(h0, .inr (4, [.ref hr, .ref hs, .int (nI n2), .int (nI z2), .int op, .int st, .int ea])), (hr, .inr (3, [.ref ra])), (ra, .inl (cI, 108, .inl f)), (hs, .inl (cI, 81, .inl g))] H locs := hd
  refine lv_aload_n hx hb dX4_begin_10 rfl (lv_at hl 0 rfl) ?_
  refine x_get (C := RX4) (T := TX4) (N := 7) (ci := 4) 0 inT_X4 rfl (by decide) lf_X4_12 rfl X hd.1 0 rfl rfl dX4_begin_11 ?_
  refine cM_V (As := []) (rest := []) (wr := [(h0, .inr (4, [.ref hr, .ref hs, .int (nI n2), .int (nI z2), .int op, .int st, .int ea])), (hs, .inl (cI, 81, .inl g))]) X (c_X3_clear l G cI cZ hr ra f ) lk_X4_44 hd hA [1, 2] [0, 3] rfl rfl rfl rfl (by decide) rfl rfl hl.1 rfl rfl (Nat.le_of_ble_eq_true rfl) ⟨Nat.le_of_ble_eq_true rfl, Nat.le_of_ble_eq_true rfl⟩ ⟨Nat.le_of_ble_eq_true rfl, Nat.le_of_ble_eq_true rfl⟩ dX4_begin_14 (fun v w1 H locs hp hd => ?_)
  obtain ⟨rfl, rfl⟩ := hp
  have hd : Hd G A s.heap [(h0, .inr (4, [.ref hr, .ref hs, .int (nI n2), .int (nI z2), .int op, .int st, .int ea])), (hs, .inl (cI, 81, .inl g)), (hr, .inr (3, [.ref ra])), (ra, .inl (cI, 108, .inl (fun _ => nI 0)))] H locs := hd
  refine st_all (st' := []) rfl ?_
  refine lv_aload_n hx hb dX4_begin_17 rfl (lv_at hl 0 rfl) ?_
  refine x_get (C := RX4) (T := TX4) (N := 7) (ci := 4) 1 inT_X4 rfl (by decide) lf_X4_18 rfl X hd.1 0 rfl rfl dX4_begin_18 ?_
  refine lv_iconst (v := nI 1) hx hb dX4_begin_21 (by decide) ?_
  refine cM_S (As := [.ref hs, .int (nI 1)]) (rest := []) (wr := [(h0, .inr (4, [.ref hr, .ref hs, .int (nI n2), .int (nI z2), .int op, .int st, .int ea])), (hr, .inr (3, [.ref ra])), (ra, .inl (cI, 108, .inl (fun _ => nI 0)))]) X (c_J7_fill_53178 l G cI cZ hs 81 g (nI 1) (by decide)) lk_X4_38 hd hA [1] [0, 2, 3] rfl rfl rfl rfl (by decide) hl.1 rfl rfl (Nat.le_of_ble_eq_true rfl) ⟨Nat.le_of_ble_eq_true rfl, Nat.le_of_ble_eq_true rfl⟩ ⟨Nat.le_of_ble_eq_true rfl, Nat.le_of_ble_eq_true rfl⟩ dX4_begin_22 (fun v w1 H locs hp hd => ?_)
  obtain ⟨rfl, rfl⟩ := hp
  have hd : Hd G A s.heap [(h0, .inr (4, [.ref hr, .ref hs, .int (nI n2), .int (nI z2), .int op, .int st, .int ea])), (hr, .inr (3, [.ref ra])), (ra, .inl (cI, 108, .inl (fun _ => nI 0))), (hs, .inl (cI, 81, .inl (fun _ => (nI 1))))] H locs := hd
  refine st_all (st' := []) rfl ?_
  exact (fin _ _ [(h0, .inr (4, [.ref hr, .ref hs, .int (nI n2), .int (nI z2), .int op, .int st, .int ea])), (hr, .inr (3, [.ref ra])), (ra, .inl (cI, 108, .inl (fun _ => nI 0))), (hs, .inl (cI, 81, .inl (fun _ => (nI 1))))] _ _ (hd.sub [0, 1, 2, 3] rfl rfl)).1 rfl ⟨rfl, by rfl⟩ dX4_begin_25

set_option maxHeartbeats 4000000 in
set_option maxRecDepth 100000 in
theorem c_X4_copyFrom (l : Launch) (G : va_G) (cI cZ : ClassId) (h0 : Nat) (hr : Nat) (ra : Nat) (hs : Nat) (f : Nat → Int32) (g : Nat → Int32) (n : Nat) (z : Nat) (op : Int32) (st : Int32) (ea : Int32) (j0 : Nat) (jr : Nat) (ja : Nat) (js : Nat) (f2 : Nat → Int32) (g2 : Nat → Int32) (n2 : Nat) (z2 : Nat) (op2 : Int32) (st2 : Int32) (ea2 : Int32) : CM l G cI cZ yX4_copyFrom cX4_copyFrom 2 none 2 39 0 0 [.ref h0, .ref j0] [(h0, .inr (4, [.ref hr, .ref hs, .int (nI n), .int (nI z), .int op, .int st, .int ea])), (hr, .inr (3, [.ref ra])), (ra, .inl (cI, 108, .inl f)), (hs, .inl (cI, 81, .inl g)), (j0, .inr (4, [.ref jr, .ref js, .int (nI n2), .int (nI z2), .int op2, .int st2, .int ea2])), (jr, .inr (3, [.ref ja])), (ja, .inl (cI, 108, .inl f2)), (js, .inl (cI, 81, .inl g2))] (fun ov_ wv_ => ov_ = none ∧ wv_ = [(h0, .inr (4, [.ref hr, .ref hs, .int (nI n2), .int (nI z2), .int op2, .int st2, .int ea2])), (hr, .inr (3, [.ref ra])), (ra, .inl (cI, 108, .inl f2)), (hs, .inl (cI, 81, .inl g2)), (j0, .inr (4, [.ref jr, .ref js, .int (nI n2), .int (nI z2), .int op2, .int st2, .int ea2])), (jr, .inr (3, [.ref ja])), (ja, .inl (cI, 108, .inl f2)), (js, .inl (cI, 81, .inl g2))]) := by
  refine CM.of (own := RX4) (by decide) rfl (Nat.le_of_ble_eq_true rfl) ?_
  intro p e R s m args below meth c Q A X hR hret hnm hA fin hd ls hl
  subst hR
  have hx := X.1
  have hb := X.2.1
  have hl : lv_has ls 2 [(0, .ref h0), (1, .ref j0)] := hl
  refine lv_aload_n hx hb dX4_copyFrom_0 rfl (lv_at hl 0 rfl) ?_
  refine lv_aload_n hx hb dX4_copyFrom_1 rfl (lv_at hl 1 rfl) ?_
  refine x_get (C := RX4) (T := TX4) (N := 7) (ci := 4) 2 inT_X4 rfl (by decide) lf_X4_22 rfl X hd.1 4 rfl rfl dX4_copyFrom_2 ?_
  refine x_put (C := RX4) (T := TX4) (N := 7) (ci := 4) (ty := .int) 2 inT_X4 tyX4 tyX4_ok nmX4 rfl (by decide) lf_X4_22 rfl rfl (by decide +kernel) X hd 0 rfl rfl rfl (Nat.le_of_ble_eq_true rfl) dX4_copyFrom_5 (fun H locs hd => ?_)
  have hd : Hd G A s.heap [(h0, .inr (4, [.ref hr, .ref hs, .int (nI n2), .int (nI z), .int op, .int st, .int ea])), (hr, .inr (3, [.ref ra])), (ra, .inl (cI, 108, .inl f)), (hs, .inl (cI, 81, .inl g)), (j0, .inr (4, [.ref jr, .ref js, .int (nI n2), .int (nI z2), .int op2, .int st2, .int ea2])), (jr, .inr (3, [.ref ja])), (ja, .inl (cI, 108, .inl f2)), (js, .inl (cI, 81, .inl g2))] H locs := hd
  refine lv_aload_n hx hb dX4_copyFrom_8 rfl (lv_at hl 0 rfl) ?_
  refine lv_aload_n hx hb dX4_copyFrom_9 rfl (lv_at hl 1 rfl) ?_
  refine x_get (C := RX4) (T := TX4) (N := 7) (ci := 4) 3 inT_X4 rfl (by decide) lf_X4_26 rfl X hd.1 4 rfl rfl dX4_copyFrom_10 ?_
  refine x_put (C := RX4) (T := TX4) (N := 7) (ci := 4) (ty := .int) 3 inT_X4 tyX4 tyX4_ok nmX4 rfl (by decide) lf_X4_26 rfl rfl (by decide +kernel) X hd 0 rfl rfl rfl (Nat.le_of_ble_eq_true rfl) dX4_copyFrom_13 (fun H locs hd => ?_)
  have hd : Hd G A s.heap [(h0, .inr (4, [.ref hr, .ref hs, .int (nI n2), .int (nI z2), .int op, .int st, .int ea])), (hr, .inr (3, [.ref ra])), (ra, .inl (cI, 108, .inl f)), (hs, .inl (cI, 81, .inl g)), (j0, .inr (4, [.ref jr, .ref js, .int (nI n2), .int (nI z2), .int op2, .int st2, .int ea2])), (jr, .inr (3, [.ref ja])), (ja, .inl (cI, 108, .inl f2)), (js, .inl (cI, 81, .inl g2))] H locs := hd
  refine lv_aload_n hx hb dX4_copyFrom_16 rfl (lv_at hl 0 rfl) ?_
  refine lv_aload_n hx hb dX4_copyFrom_17 rfl (lv_at hl 1 rfl) ?_
  refine x_get (C := RX4) (T := TX4) (N := 7) (ci := 4) 4 inT_X4 rfl (by decide) lf_X4_29 rfl X hd.1 4 rfl rfl dX4_copyFrom_18 ?_
  refine x_put (C := RX4) (T := TX4) (N := 7) (ci := 4) (ty := .int) 4 inT_X4 tyX4 tyX4_ok nmX4 rfl (by decide) lf_X4_29 rfl rfl (by decide +kernel) X hd 0 rfl rfl rfl (Nat.le_of_ble_eq_true rfl) dX4_copyFrom_21 (fun H locs hd => ?_)
  have hd : Hd G A s.heap [(h0, .inr (4, [.ref hr, .ref hs, .int (nI n2), .int (nI z2), .int op2, .int st, .int ea])), (hr, .inr (3, [.ref ra])), (ra, .inl (cI, 108, .inl f)), (hs, .inl (cI, 81, .inl g)), (j0, .inr (4, [.ref jr, .ref js, .int (nI n2), .int (nI z2), .int op2, .int st2, .int ea2])), (jr, .inr (3, [.ref ja])), (ja, .inl (cI, 108, .inl f2)), (js, .inl (cI, 81, .inl g2))] H locs := hd
  refine lv_aload_n hx hb dX4_copyFrom_24 rfl (lv_at hl 0 rfl) ?_
  refine lv_aload_n hx hb dX4_copyFrom_25 rfl (lv_at hl 1 rfl) ?_
  refine x_get (C := RX4) (T := TX4) (N := 7) (ci := 4) 5 inT_X4 rfl (by decide) lf_X4_32 rfl X hd.1 4 rfl rfl dX4_copyFrom_26 ?_
  refine x_put (C := RX4) (T := TX4) (N := 7) (ci := 4) (ty := .int) 5 inT_X4 tyX4 tyX4_ok nmX4 rfl (by decide) lf_X4_32 rfl rfl (by decide +kernel) X hd 0 rfl rfl rfl (Nat.le_of_ble_eq_true rfl) dX4_copyFrom_29 (fun H locs hd => ?_)
  have hd : Hd G A s.heap [(h0, .inr (4, [.ref hr, .ref hs, .int (nI n2), .int (nI z2), .int op2, .int st2, .int ea])), (hr, .inr (3, [.ref ra])), (ra, .inl (cI, 108, .inl f)), (hs, .inl (cI, 81, .inl g)), (j0, .inr (4, [.ref jr, .ref js, .int (nI n2), .int (nI z2), .int op2, .int st2, .int ea2])), (jr, .inr (3, [.ref ja])), (ja, .inl (cI, 108, .inl f2)), (js, .inl (cI, 81, .inl g2))] H locs := hd
  refine lv_aload_n hx hb dX4_copyFrom_32 rfl (lv_at hl 0 rfl) ?_
  refine lv_aload_n hx hb dX4_copyFrom_33 rfl (lv_at hl 1 rfl) ?_
  refine x_get (C := RX4) (T := TX4) (N := 7) (ci := 4) 6 inT_X4 rfl (by decide) lf_X4_35 rfl X hd.1 4 rfl rfl dX4_copyFrom_34 ?_
  refine x_put (C := RX4) (T := TX4) (N := 7) (ci := 4) (ty := .int) 6 inT_X4 tyX4 tyX4_ok nmX4 rfl (by decide) lf_X4_35 rfl rfl (by decide +kernel) X hd 0 rfl rfl rfl (Nat.le_of_ble_eq_true rfl) dX4_copyFrom_37 (fun H locs hd => ?_)
  have hd : Hd G A s.heap [(h0, .inr (4, [.ref hr, .ref hs, .int (nI n2), .int (nI z2), .int op2, .int st2, .int ea2])), (hr, .inr (3, [.ref ra])), (ra, .inl (cI, 108, .inl f)), (hs, .inl (cI, 81, .inl g)), (j0, .inr (4, [.ref jr, .ref js, .int (nI n2), .int (nI z2), .int op2, .int st2, .int ea2])), (jr, .inr (3, [.ref ja])), (ja, .inl (cI, 108, .inl f2)), (js, .inl (cI, 81, .inl g2))] H locs := hd
  refine lv_aload_n hx hb dX4_copyFrom_40 rfl (lv_at hl 0 rfl) ?_
  refine x_get (C := RX4) (T := TX4) (N := 7) (ci := 4) 0 inT_X4 rfl (by decide) lf_X4_12 rfl X hd.1 0 rfl rfl dX4_copyFrom_41 ?_
  refine lv_aload_n hx hb dX4_copyFrom_44 rfl (lv_at hl 1 rfl) ?_
  refine x_get (C := RX4) (T := TX4) (N := 7) (ci := 4) 0 inT_X4 rfl (by decide) lf_X4_12 rfl X hd.1 4 rfl rfl dX4_copyFrom_45 ?_
  refine cM_V (As := [.ref jr]) (rest := []) (wr := [(h0, .inr (4, [.ref hr, .ref hs, .int (nI n2), .int (nI z2), .int op2, .int st2, .int ea2])), (hs, .inl (cI, 81, .inl g)), (j0, .inr (4, [.ref jr, .ref js, .int (nI n2), .int (nI z2), .int op2, .int st2, .int ea2])), (js, .inl (cI, 81, .inl g2))]) X (c_X3_copyFrom l G cI cZ hr ra jr ja f f2 ) lk_X4_47 hd hA [1, 2, 5, 6] [0, 3, 4, 7] rfl rfl rfl rfl (by decide) rfl rfl hl.1 rfl rfl (Nat.le_of_ble_eq_true rfl) ⟨Nat.le_of_ble_eq_true rfl, Nat.le_of_ble_eq_true rfl⟩ ⟨Nat.le_of_ble_eq_true rfl, Nat.le_of_ble_eq_true rfl⟩ dX4_copyFrom_48 (fun v w1 H locs hp hd => ?_)
  obtain ⟨rfl, rfl⟩ := hp
  have hd : Hd G A s.heap [(h0, .inr (4, [.ref hr, .ref hs, .int (nI n2), .int (nI z2), .int op2, .int st2, .int ea2])), (hs, .inl (cI, 81, .inl g)), (j0, .inr (4, [.ref jr, .ref js, .int (nI n2), .int (nI z2), .int op2, .int st2, .int ea2])), (js, .inl (cI, 81, .inl g2)), (hr, .inr (3, [.ref ra])), (ra, .inl (cI, 108, .inl f2)), (jr, .inr (3, [.ref ja])), (ja, .inl (cI, 108, .inl f2))] H locs := hd
  refine st_all (st' := []) rfl ?_
  refine lv_aload_n hx hb dX4_copyFrom_51 rfl (lv_at hl 1 rfl) ?_
  refine x_get (C := RX4) (T := TX4) (N := 7) (ci := 4) 1 inT_X4 rfl (by decide) lf_X4_18 rfl X hd.1 2 rfl rfl dX4_copyFrom_52 ?_
  refine lv_iconst (v := nI 0) hx hb dX4_copyFrom_55 (by decide) ?_
  refine lv_aload_n hx hb dX4_copyFrom_56 rfl (lv_at hl 0 rfl) ?_
  refine x_get (C := RX4) (T := TX4) (N := 7) (ci := 4) 1 inT_X4 rfl (by decide) lf_X4_18 rfl X hd.1 0 rfl rfl dX4_copyFrom_57 ?_
  refine lv_iconst (v := nI 0) hx hb dX4_copyFrom_60 (by decide) ?_
  refine lv_bipush (v := nI 81) hx hb dX4_copyFrom_61 (by decide) ?_
  refine x_copy X hd 3 1 rfl rfl (by decide) (by decide) (by decide) (by decide) (by decide) lo_X4_51 w_acN w_acS w_sysI (by decide) (Nat.le_of_ble_eq_true rfl) (by rw [X.2.2.1]; exact hl.1.symm) dX4_copyFrom_63 (fun H locs hd => ?_)
  have hd : Hd G A s.heap [(h0, .inr (4, [.ref hr, .ref hs, .int (nI n2), .int (nI z2), .int op2, .int st2, .int ea2])), (hs, .inl (cI, 81, .inl (va_cpy g2 g 0 0 81))), (j0, .inr (4, [.ref jr, .ref js, .int (nI n2), .int (nI z2), .int op2, .int st2, .int ea2])), (js, .inl (cI, 81, .inl g2)), (hr, .inr (3, [.ref ra])), (ra, .inl (cI, 108, .inl f2)), (jr, .inr (3, [.ref ja])), (ja, .inl (cI, 108, .inl f2))] H locs := hd
  have hd := hd.arr 1 rfl g2 (fun j hj => cpy_all hj)
  have hd : Hd G A s.heap [(h0, .inr (4, [.ref hr, .ref hs, .int (nI n2), .int (nI z2), .int op2, .int st2, .int ea2])), (hs, .inl (cI, 81, .inl g2)), (j0, .inr (4, [.ref jr, .ref js, .int (nI n2), .int (nI z2), .int op2, .int st2, .int ea2])), (js, .inl (cI, 81, .inl g2)), (hr, .inr (3, [.ref ra])), (ra, .inl (cI, 108, .inl f2)), (jr, .inr (3, [.ref ja])), (ja, .inl (cI, 108, .inl f2))] H locs := hd
  exact (fin _ _ [(h0, .inr (4, [.ref hr, .ref hs, .int (nI n2), .int (nI z2), .int op2, .int st2, .int ea2])), (hr, .inr (3, [.ref ra])), (ra, .inl (cI, 108, .inl f2)), (hs, .inl (cI, 81, .inl g2)), (j0, .inr (4, [.ref jr, .ref js, .int (nI n2), .int (nI z2), .int op2, .int st2, .int ea2])), (jr, .inr (3, [.ref ja])), (ja, .inl (cI, 108, .inl f2)), (js, .inl (cI, 81, .inl g2))] _ _ (hd.sub [0, 4, 5, 1, 2, 6, 7, 3] rfl rfl)).1 rfl ⟨rfl, rfl⟩ dX4_copyFrom_66

set_option maxHeartbeats 4000000 in
set_option maxRecDepth 100000 in
theorem c_X4_setSlowness (l : Launch) (G : va_G) (cI cZ : ClassId) (h0 : Nat) (hr : Nat) (hs : Nat) (g : Nat → Int32) (n : Nat) (z : Nat) (op : Int32) (st : Int32) (ea : Int32) (a : Nat) (b : Nat) (v : Int32) (ha : a < 9) (hb1 : b < 9) : CM l G cI cZ yX4_setSlowness cX4_setSlowness 4 none 2 43 0 0 [.ref h0, .int (nI a), .int (nI b), .int v] [(h0, .inr (4, [.ref hr, .ref hs, .int (nI n), .int (nI z), .int op, .int st, .int ea])), (hs, .inl (cI, 81, .inl g))] (fun ov_ wv_ => ov_ = none ∧ wv_ = [(h0, .inr (4, [.ref hr, .ref hs, .int (nI n), .int (nI z), .int op, .int st, .int ea])), (hs, .inl (cI, 81, .inl (upd (upd g (9 * a + b) v) (9 * b + a) v)))]) := by
  refine CM.of (own := RX4) (by decide) rfl (Nat.le_of_ble_eq_true rfl) ?_
  intro p e R s m args below meth c Q A X hR hret hnm hA fin hd ls hl
  subst hR
  have hx := X.1
  have hb := X.2.1
  have hl : lv_has ls 4 [(0, .ref h0), (1, .int (nI a)), (2, .int (nI b)), (3, .int v)] := hl
  refine lv_iload_n hx hb dX4_setSlowness_0 rfl (lv_at hl 1 rfl) ?_
  refine lv_iload_n hx hb dX4_setSlowness_1 rfl (lv_at hl 2 rfl) ?_
  refine cR_S (As := [.int (nI a), .int (nI b)]) (rest := []) X (c_X4_hasLine l G cI cZ a b (by first | assumption | omega) (by first | assumption | omega)) lk_X4_61 (hd.1.sub (ws' := []) [] rfl) hl.1 rfl rfl (Nat.le_of_ble_eq_true rfl) ⟨Nat.le_of_ble_eq_true rfl, Nat.le_of_ble_eq_true rfl⟩ ⟨Nat.le_of_ble_eq_true rfl, Nat.le_of_ble_eq_true rfl⟩ dX4_setSlowness_2 ?_
  refine b_if_eq (tgt := 32) hx hb dX4_setSlowness_5 (by decide) (fun c_5 => ?_) (fun c_5 => ?_)
  · exact absurd ((rfl : true = true).symm.trans c_5) (by decide)
  · refine lv_aload_n hx hb dX4_setSlowness_8 rfl (lv_at hl 0 rfl) ?_
    refine x_get (C := RX4) (T := TX4) (N := 7) (ci := 4) 1 inT_X4 rfl (by decide) lf_X4_18 rfl X hd.1 0 rfl rfl dX4_setSlowness_9 ?_
    refine lv_iload_n hx hb dX4_setSlowness_12 rfl (lv_at hl 1 rfl) ?_
    refine lv_bipush (v := nI 9) hx hb dX4_setSlowness_13 (by decide) ?_
    refine n_mul hx hb dX4_setSlowness_15  ?_
    refine lv_iload_n hx hb dX4_setSlowness_16 rfl (lv_at hl 2 rfl) ?_
    refine n_add hx hb dX4_setSlowness_17  ?_
    refine lv_iload_n hx hb dX4_setSlowness_18 rfl (lv_at hl 3 rfl) ?_
    refine n_iast X hd 1 rfl (by omega) (by decide) dX4_setSlowness_19 (fun H locs hd => ?_)
    have hd : Hd G A s.heap [(h0, .inr (4, [.ref hr, .ref hs, .int (nI n), .int (nI z), .int op, .int st, .int ea])), (hs, .inl (cI, 81, .inl (upd g ((a * 9) + b) v)))] H locs := hd
    refine lv_aload_n hx hb dX4_setSlowness_20 rfl (lv_at hl 0 rfl) ?_
    refine x_get (C := RX4) (T := TX4) (N := 7) (ci := 4) 1 inT_X4 rfl (by decide) lf_X4_18 rfl X hd.1 0 rfl rfl dX4_setSlowness_21 ?_
    refine lv_iload_n hx hb dX4_setSlowness_24 rfl (lv_at hl 2 rfl) ?_
    refine lv_bipush (v := nI 9) hx hb dX4_setSlowness_25 (by decide) ?_
    refine n_mul hx hb dX4_setSlowness_27  ?_
    refine lv_iload_n hx hb dX4_setSlowness_28 rfl (lv_at hl 1 rfl) ?_
    refine n_add hx hb dX4_setSlowness_29  ?_
    refine lv_iload_n hx hb dX4_setSlowness_30 rfl (lv_at hl 3 rfl) ?_
    refine n_iast X hd 1 rfl (by omega) (by decide) dX4_setSlowness_31 (fun H locs hd => ?_)
    have hd : Hd G A s.heap [(h0, .inr (4, [.ref hr, .ref hs, .int (nI n), .int (nI z), .int op, .int st, .int ea])), (hs, .inl (cI, 81, .inl (upd (upd g ((a * 9) + b) v) ((b * 9) + a) v)))] H locs := hd
    exact (fin _ _ [(h0, .inr (4, [.ref hr, .ref hs, .int (nI n), .int (nI z), .int op, .int st, .int ea])), (hs, .inl (cI, 81, .inl (upd (upd g ((a * 9) + b) v) ((b * 9) + a) v)))] _ _ (hd.sub [0, 1] rfl rfl)).1 rfl ⟨rfl, by rw [Nat.mul_comm a 9, Nat.mul_comm b 9]⟩ dX4_setSlowness_32

set_option maxHeartbeats 4000000 in
set_option maxRecDepth 100000 in
theorem c_X0_charge (l : Launch) (G : va_G) (cI cZ : ClassId) (h0 : Nat) (hr : Nat) (ha : Nat) (tm : Int32) (lr : Nat) (r : Nat → Int32) (g : Nat → Int32) (k : Nat) (v : Int32) (hk : k < 9) : CM l G cI cZ yX0_charge cX0_charge 3 none 1 22 0 0 [.ref h0, .int (nI k), .int v] [(h0, .inr (0, [.ref hr, .ref ha, .int tm, .int (nI lr)])), (hr, .inl (cI, 9, .inl r)), (ha, .inl (cI, 9, .inl g))] (fun ov_ wv_ => ov_ = none ∧ wv_ = [(h0, .inr (0, [.ref hr, .ref ha, .int tm, .int (nI lr)])), (hr, .inl (cI, 9, .inl (upd r k (r k + v)))), (ha, .inl (cI, 9, .inl (upd g k (g k + v))))]) := by
  refine CM.of (own := RX0) (by decide) rfl (Nat.le_of_ble_eq_true rfl) ?_
  intro p e R s m args below meth c Q A X hR hret hnm hA fin hd ls hl
  subst hR
  have hx := X.1
  have hb := X.2.1
  have hl : lv_has ls 3 [(0, .ref h0), (1, .int (nI k)), (2, .int v)] := hl
  refine lv_iload_n hx hb dX0_charge_0 rfl (lv_at hl 1 rfl) ?_
  refine lv_iconst (v := nI 0) hx hb dX0_charge_1 (by decide) ?_
  refine lv_bipush (v := nI 8) hx hb dX0_charge_2 (by decide) ?_
  refine cR_SN (As := [.int (nI k), .int (nI 0), .int (nI 8)]) (rest := []) X (c_X5_isWithin l G cI cZ (nI k) (nI 0) (nI 8) ) lk_X0_57 (hd.1.sub (ws' := []) [] rfl) hl.1 rfl rfl (Nat.le_of_ble_eq_true rfl) ⟨Nat.le_of_ble_eq_true rfl, Nat.le_of_ble_eq_true rfl⟩ ⟨Nat.le_of_ble_eq_true rfl, Nat.le_of_ble_eq_true rfl⟩ dX0_charge_4 ?_
  refine st_eq (show (b2i (inB (nI k) (nI 0) (nI 8)) : Int32) = b2i true from congrArg b2i (inB_tt (by omega) (by omega) (by omega))) ?_
  refine b_if_eq (tgt := 30) hx hb dX0_charge_7 (by decide) (fun c_7 => ?_) (fun c_7 => ?_)
  · exact absurd ((rfl : true = true).symm.trans c_7) (by decide)
  · refine lv_aload_n hx hb dX0_charge_10 rfl (lv_at hl 0 rfl) ?_
    refine x_get (C := RX0) (T := TX0) (N := 4) (ci := 0) 0 inT_X0 rfl (by decide) lf_X0_9 rfl X hd.1 0 rfl rfl dX0_charge_11 ?_
    refine lv_iload_n hx hb dX0_charge_14 rfl (lv_at hl 1 rfl) ?_
    refine lv_dup2_11 hx hb dX0_charge_15 rfl rfl ?_
    refine n_iald X hd.1 1 rfl (by omega) (by decide) dX0_charge_16 ?_
    refine lv_iload_n hx hb dX0_charge_17 rfl (lv_at hl 2 rfl) ?_
    refine lv_iadd hx hb dX0_charge_18 ?_
    refine n_iast X hd 1 rfl (by omega) (by decide) dX0_charge_19 (fun H locs hd => ?_)
    have hd : Hd G A s.heap [(h0, .inr (0, [.ref hr, .ref ha, .int tm, .int (nI lr)])), (hr, .inl (cI, 9, .inl (upd r k ((r k) + v)))), (ha, .inl (cI, 9, .inl g))] H locs := hd
    refine lv_aload_n hx hb dX0_charge_20 rfl (lv_at hl 0 rfl) ?_
    refine x_get (C := RX0) (T := TX0) (N := 4) (ci := 0) 1 inT_X0 rfl (by decide) lf_X0_15 rfl X hd.1 0 rfl rfl dX0_charge_21 ?_
    refine lv_iload_n hx hb dX0_charge_24 rfl (lv_at hl 1 rfl) ?_
    refine lv_dup2_11 hx hb dX0_charge_25 rfl rfl ?_
    refine n_iald X hd.1 2 rfl (by omega) (by decide) dX0_charge_26 ?_
    refine lv_iload_n hx hb dX0_charge_27 rfl (lv_at hl 2 rfl) ?_
    refine lv_iadd hx hb dX0_charge_28 ?_
    refine n_iast X hd 2 rfl (by omega) (by decide) dX0_charge_29 (fun H locs hd => ?_)
    have hd : Hd G A s.heap [(h0, .inr (0, [.ref hr, .ref ha, .int tm, .int (nI lr)])), (hr, .inl (cI, 9, .inl (upd r k ((r k) + v)))), (ha, .inl (cI, 9, .inl (upd g k ((g k) + v))))] H locs := hd
    exact (fin _ _ [(h0, .inr (0, [.ref hr, .ref ha, .int tm, .int (nI lr)])), (hr, .inl (cI, 9, .inl (upd r k ((r k) + v)))), (ha, .inl (cI, 9, .inl (upd g k ((g k) + v))))] _ _ (hd.sub [0, 1, 2] rfl rfl)).1 rfl ⟨rfl, by rfl⟩ dX0_charge_30

set_option maxHeartbeats 4000000 in
set_option maxRecDepth 100000 in
theorem c_X3_init (l : Launch) (G : va_G) (cI cZ : ClassId) (h0 : Nat) : CM l G cI cZ yX3_init cX3_init 1 none 1 12 1 108 [.ref h0] [(h0, .inr (3, [.null]))] (fun ov_ wv_ => ∃ h1 : Nat, ov_ = none ∧ wv_ = [(h0, .inr (3, [.ref h1])), (h1, .inl (cI, 108, .inl (fun _ => 0)))]) := by
  refine CM.of (own := RX3) (by decide) rfl (Nat.le_of_ble_eq_true rfl) ?_
  intro p e R s m args below meth c Q A X hR hret hnm hA fin hd ls hl
  subst hR
  have hx := X.1
  have hb := X.2.1
  have hl : lv_has ls 1 [(0, .ref h0)] := hl
  refine lv_aload_n hx hb dX3_init_0 rfl (lv_at hl 0 rfl) ?_
  refine W.objInit hx hb X.2.2.2.1 (X.2.2.2.2.1 _ lo_X3_3) (X.2.2.2.2.1 _ w_objI) (X.2.2.2.2.1 _ w_objC) rfl (by rw [X.2.2.1]; exact hl.1) rfl dX3_init_1 (by decide) (Nat.le_of_ble_eq_true rfl) ?_
  refine W.eq (g2 := F0 m 4 ls []) rfl ?_
  refine lv_aload_n hx hb dX3_init_4 rfl (lv_at hl 0 rfl) ?_
  refine lv_bipush (v := nI 108) hx hb dX3_init_5 (by decide) ?_
  refine x_newaI X hd hA (N := 108) (by decide) (by decide) (by decide) (by decide) dX3_init_7 w_arrI (fun q_1 H locs hd => ?_)
  have hd : Hd G A s.heap [(h0, .inr (3, [.null])), (q_1, .inl (cI, 108, .inl (fun _ => 0)))] H locs := hd
  refine W.widen (k := 1) (n := 108) (by decide) (by decide) ?_
  refine x_putF (C := RX3) (T := TX3) (N := 1) (ci := 3) (ty := (.array .int)) 0 inT_X3 tyX3 tyX3_ok nmX3 rfl (by decide) lf_X3_9 rfl rfl (by decide +kernel) rfl hnm X hd 0 rfl rfl rfl (Nat.le_of_ble_eq_true rfl) dX3_init_9 (fun H locs hd => ?_)
  have hd : Hd G A s.heap [(h0, .inr (3, [.ref q_1])), (q_1, .inl (cI, 108, .inl (fun _ => 0)))] H locs := hd
  refine W.widen (k := 1) (n := 108) (by decide) (by decide) ?_
  exact (fin _ _ [(h0, .inr (3, [.ref q_1])), (q_1, .inl (cI, 108, .inl (fun _ => 0)))] _ _ (hd.sub [0, 1] rfl rfl)).1 rfl ⟨q_1, rfl, rfl⟩ dX3_init_12

set_option maxHeartbeats 4000000 in
set_option maxRecDepth 100000 in
theorem c_X4_init (l : Launch) (G : va_G) (cI cZ : ClassId) (h0 : Nat) : CM l G cI cZ yX4_init cX4_init 1 none 2 32 3 190 [.ref h0] [(h0, .inr (4, [.null, .null, .int (nI 0), .int (nI 0), .int (nI 0), .int (nI 0), .int (nI 0)]))] (fun ov_ wv_ => ∃ hr : Nat, ∃ ra : Nat, ∃ hs : Nat, ov_ = none ∧ wv_ = [(h0, .inr (4, [.ref hr, .ref hs, .int (nI 4), .int (nI 4), .int (nI 0), .int (nI 5), .int (nI 1)])), (hr, .inr (3, [.ref ra])), (ra, .inl (cI, 108, .inl (fun _ => 0))), (hs, .inl (cI, 81, .inl (fun _ => nI 1)))]) := by
  refine CM.of (own := RX4) (by decide) rfl (Nat.le_of_ble_eq_true rfl) ?_
  intro p e R s m args below meth c Q A X hR hret hnm hA fin hd ls hl
  subst hR
  have hx := X.1
  have hb := X.2.1
  have hl : lv_has ls 1 [(0, .ref h0)] := hl
  refine lv_aload_n hx hb dX4_init_0 rfl (lv_at hl 0 rfl) ?_
  refine W.objInit hx hb X.2.2.2.1 (X.2.2.2.2.1 _ lo_X4_3) (X.2.2.2.2.1 _ w_objI) (X.2.2.2.2.1 _ w_objC) rfl (by rw [X.2.2.1]; exact hl.1) rfl dX4_init_1 (by decide) (Nat.le_of_ble_eq_true rfl) ?_
  refine W.eq (g2 := F0 m 4 ls []) rfl ?_
  refine lv_aload_n hx hb dX4_init_4 rfl (lv_at hl 0 rfl) ?_
  refine x_new (C := RX3) (T := TX3) (N := 1) (ci := 3) (fs := [.null]) inT_X3 tyX3 tyX3_ok lc_X4_9 w_inst_X3 w_ini_X3 rfl (fun j hj => by match j, hj with | 0, _ => rfl | n + 1, h => exact absurd h (by omega)) X hd hA (by decide) (by decide) dX4_init_5 (fun q_1 H hd => ?_)
  have hd : Hd G A s.heap [(h0, .inr (4, [.null, .null, .int (nI 0), .int (nI 0), .int (nI 0), .int (nI 0), .int (nI 0)])), (q_1, .inr (3, [.null]))] H [] := hd
  refine W.widen (k := 1) (n := 1) (by decide) (by decide) ?_
  refine lv_dup hx hb dX4_init_8 rfl ?_
  refine cM_IN (As := []) (rest := [.ref q_1, .ref h0]) (wr := [(h0, .inr (4, [.null, .null, .int (nI 0), .int (nI 0), .int (nI 0), .int (nI 0), .int (nI 0)]))]) X (c_X3_init l G cI cZ q_1 ) lk_X4_11 hd hA [1] [0] rfl rfl rfl rfl (by decide) hl.1 rfl rfl (Nat.le_of_ble_eq_true rfl) ⟨Nat.le_of_ble_eq_true rfl, Nat.le_of_ble_eq_true rfl⟩ ⟨Nat.le_of_ble_eq_true rfl, Nat.le_of_ble_eq_true rfl⟩ dX4_init_9 (fun v w1 H locs hp hd => ?_)
  obtain ⟨qra, rfl, rfl⟩ := hp
  have hd : Hd G A s.heap [(h0, .inr (4, [.null, .null, .int (nI 0), .int (nI 0), .int (nI 0), .int (nI 0), .int (nI 0)])), (q_1, .inr (3, [.ref qra])), (qra, .inl (cI, 108, .inl (fun _ => 0)))] H locs := hd
  refine st_all (st' := [.ref q_1, .ref h0]) rfl ?_
  refine W.widen (k := 2) (n := 109) (by decide) (by decide) ?_
  refine x_putF (C := RX4) (T := TX4) (N := 7) (ci := 4) (ty := (.object "SumsForAll$Rows")) 0 inT_X4 tyX4 tyX4_ok nmX4 rfl (by decide) lf_X4_12 rfl rfl (by decide +kernel) rfl hnm X hd 0 rfl rfl rfl (Nat.le_of_ble_eq_true rfl) dX4_init_12 (fun H locs hd => ?_)
  have hd : Hd G A s.heap [(h0, .inr (4, [.ref q_1, .null, .int (nI 0), .int (nI 0), .int (nI 0), .int (nI 0), .int (nI 0)])), (q_1, .inr (3, [.ref qra])), (qra, .inl (cI, 108, .inl (fun _ => 0)))] H locs := hd
  refine lv_aload_n hx hb dX4_init_15 rfl (lv_at hl 0 rfl) ?_
  refine lv_bipush (v := nI 81) hx hb dX4_init_16 (by decide) ?_
  refine x_newaI X hd hA (N := 81) (by decide) (by decide) (by decide) (by decide) dX4_init_18 w_arrI (fun q_2 H locs hd => ?_)
  have hd : Hd G A s.heap [(h0, .inr (4, [.ref q_1, .null, .int (nI 0), .int (nI 0), .int (nI 0), .int (nI 0), .int (nI 0)])), (q_1, .inr (3, [.ref qra])), (qra, .inl (cI, 108, .inl (fun _ => 0))), (q_2, .inl (cI, 81, .inl (fun _ => 0)))] H locs := hd
  refine W.widen (k := 3) (n := 190) (by decide) (by decide) ?_
  refine x_putF (C := RX4) (T := TX4) (N := 7) (ci := 4) (ty := (.array .int)) 1 inT_X4 tyX4 tyX4_ok nmX4 rfl (by decide) lf_X4_18 rfl rfl (by decide +kernel) rfl hnm X hd 0 rfl rfl rfl (Nat.le_of_ble_eq_true rfl) dX4_init_20 (fun H locs hd => ?_)
  have hd : Hd G A s.heap [(h0, .inr (4, [.ref q_1, .ref q_2, .int (nI 0), .int (nI 0), .int (nI 0), .int (nI 0), .int (nI 0)])), (q_1, .inr (3, [.ref qra])), (qra, .inl (cI, 108, .inl (fun _ => 0))), (q_2, .inl (cI, 81, .inl (fun _ => 0)))] H locs := hd
  refine lv_aload_n hx hb dX4_init_23 rfl (lv_at hl 0 rfl) ?_
  refine lv_iconst (v := nI 4) hx hb dX4_init_24 (by decide) ?_
  refine x_put (C := RX4) (T := TX4) (N := 7) (ci := 4) (ty := .int) 2 inT_X4 tyX4 tyX4_ok nmX4 rfl (by decide) lf_X4_22 rfl rfl (by decide +kernel) X hd 0 rfl rfl rfl (Nat.le_of_ble_eq_true rfl) dX4_init_25 (fun H locs hd => ?_)
  have hd : Hd G A s.heap [(h0, .inr (4, [.ref q_1, .ref q_2, .int (nI 4), .int (nI 0), .int (nI 0), .int (nI 0), .int (nI 0)])), (q_1, .inr (3, [.ref qra])), (qra, .inl (cI, 108, .inl (fun _ => 0))), (q_2, .inl (cI, 81, .inl (fun _ => 0)))] H locs := hd
  refine lv_aload_n hx hb dX4_init_28 rfl (lv_at hl 0 rfl) ?_
  refine lv_iconst (v := nI 4) hx hb dX4_init_29 (by decide) ?_
  refine x_put (C := RX4) (T := TX4) (N := 7) (ci := 4) (ty := .int) 3 inT_X4 tyX4 tyX4_ok nmX4 rfl (by decide) lf_X4_26 rfl rfl (by decide +kernel) X hd 0 rfl rfl rfl (Nat.le_of_ble_eq_true rfl) dX4_init_30 (fun H locs hd => ?_)
  have hd : Hd G A s.heap [(h0, .inr (4, [.ref q_1, .ref q_2, .int (nI 4), .int (nI 4), .int (nI 0), .int (nI 0), .int (nI 0)])), (q_1, .inr (3, [.ref qra])), (qra, .inl (cI, 108, .inl (fun _ => 0))), (q_2, .inl (cI, 81, .inl (fun _ => 0)))] H locs := hd
  refine lv_aload_n hx hb dX4_init_33 rfl (lv_at hl 0 rfl) ?_
  refine lv_iconst (v := nI 0) hx hb dX4_init_34 (by decide) ?_
  refine x_put (C := RX4) (T := TX4) (N := 7) (ci := 4) (ty := .int) 4 inT_X4 tyX4 tyX4_ok nmX4 rfl (by decide) lf_X4_29 rfl rfl (by decide +kernel) X hd 0 rfl rfl rfl (Nat.le_of_ble_eq_true rfl) dX4_init_35 (fun H locs hd => ?_)
  have hd : Hd G A s.heap [(h0, .inr (4, [.ref q_1, .ref q_2, .int (nI 4), .int (nI 4), .int (nI 0), .int (nI 0), .int (nI 0)])), (q_1, .inr (3, [.ref qra])), (qra, .inl (cI, 108, .inl (fun _ => 0))), (q_2, .inl (cI, 81, .inl (fun _ => 0)))] H locs := hd
  refine lv_aload_n hx hb dX4_init_38 rfl (lv_at hl 0 rfl) ?_
  refine lv_iconst (v := nI 5) hx hb dX4_init_39 (by decide) ?_
  refine x_put (C := RX4) (T := TX4) (N := 7) (ci := 4) (ty := .int) 5 inT_X4 tyX4 tyX4_ok nmX4 rfl (by decide) lf_X4_32 rfl rfl (by decide +kernel) X hd 0 rfl rfl rfl (Nat.le_of_ble_eq_true rfl) dX4_init_40 (fun H locs hd => ?_)
  have hd : Hd G A s.heap [(h0, .inr (4, [.ref q_1, .ref q_2, .int (nI 4), .int (nI 4), .int (nI 0), .int (nI 5), .int (nI 0)])), (q_1, .inr (3, [.ref qra])), (qra, .inl (cI, 108, .inl (fun _ => 0))), (q_2, .inl (cI, 81, .inl (fun _ => 0)))] H locs := hd
  refine lv_aload_n hx hb dX4_init_43 rfl (lv_at hl 0 rfl) ?_
  refine lv_iconst (v := nI 1) hx hb dX4_init_44 (by decide) ?_
  refine x_put (C := RX4) (T := TX4) (N := 7) (ci := 4) (ty := .int) 6 inT_X4 tyX4 tyX4_ok nmX4 rfl (by decide) lf_X4_35 rfl rfl (by decide +kernel) X hd 0 rfl rfl rfl (Nat.le_of_ble_eq_true rfl) dX4_init_45 (fun H locs hd => ?_)
  have hd : Hd G A s.heap [(h0, .inr (4, [.ref q_1, .ref q_2, .int (nI 4), .int (nI 4), .int (nI 0), .int (nI 5), .int (nI 1)])), (q_1, .inr (3, [.ref qra])), (qra, .inl (cI, 108, .inl (fun _ => 0))), (q_2, .inl (cI, 81, .inl (fun _ => 0)))] H locs := hd
  refine lv_aload_n hx hb dX4_init_48 rfl (lv_at hl 0 rfl) ?_
  refine x_get (C := RX4) (T := TX4) (N := 7) (ci := 4) 1 inT_X4 rfl (by decide) lf_X4_18 rfl X hd.1 0 rfl rfl dX4_init_49 ?_
  refine lv_iconst (v := nI 1) hx hb dX4_init_52 (by decide) ?_
  refine cM_S (As := [.ref q_2, .int (nI 1)]) (rest := []) (wr := [(h0, .inr (4, [.ref q_1, .ref q_2, .int (nI 4), .int (nI 4), .int (nI 0), .int (nI 5), .int (nI 1)])), (q_1, .inr (3, [.ref qra])), (qra, .inl (cI, 108, .inl (fun _ => 0)))]) X (c_J7_fill_53178 l G cI cZ q_2 81 (fun _ => 0) (nI 1) (by decide)) lk_X4_38 hd hA [3] [0, 1, 2] rfl rfl rfl rfl (by decide) hl.1 rfl rfl (Nat.le_of_ble_eq_true rfl) ⟨Nat.le_of_ble_eq_true rfl, Nat.le_of_ble_eq_true rfl⟩ ⟨Nat.le_of_ble_eq_true rfl, Nat.le_of_ble_eq_true rfl⟩ dX4_init_53 (fun v w1 H locs hp hd => ?_)
  obtain ⟨rfl, rfl⟩ := hp
  have hd : Hd G A s.heap [(h0, .inr (4, [.ref q_1, .ref q_2, .int (nI 4), .int (nI 4), .int (nI 0), .int (nI 5), .int (nI 1)])), (q_1, .inr (3, [.ref qra])), (qra, .inl (cI, 108, .inl (fun _ => 0))), (q_2, .inl (cI, 81, .inl (fun _ => (nI 1))))] H locs := hd
  refine st_all (st' := []) rfl ?_
  refine W.widen (k := 3) (n := 190) (by decide) (by decide) ?_
  exact (fin _ _ [(h0, .inr (4, [.ref q_1, .ref q_2, .int (nI 4), .int (nI 4), .int (nI 0), .int (nI 5), .int (nI 1)])), (q_1, .inr (3, [.ref qra])), (qra, .inl (cI, 108, .inl (fun _ => 0))), (q_2, .inl (cI, 81, .inl (fun _ => (nI 1))))] _ _ (hd.sub [0, 1, 2, 3] rfl rfl)).1 rfl ⟨q_1, qra, q_2, rfl, by rfl⟩ dX4_init_56

set_option maxHeartbeats 4000000 in
set_option maxRecDepth 100000 in
theorem c_X2_init (l : Launch) (G : va_G) (cI cZ : ClassId) (h0 : Nat) : CM l G cI cZ yX2_init cX2_init 1 none 2 32 4 218 [.ref h0] [(h0, .inr (2, [.null, .null]))] (fun ov_ wv_ => ∃ hr : Nat, ∃ ra : Nat, ∃ hs : Nat, ∃ sa_ : Nat, ov_ = none ∧ wv_ = [(h0, .inr (2, [.ref hr, .ref hs])), (hr, .inr (3, [.ref ra])), (ra, .inl (cI, 108, .inl (fun _ => 0))), (hs, .inr (3, [.ref sa_])), (sa_, .inl (cI, 108, .inl (fun _ => 0)))]) := by
  refine CM.of (own := RX2) (by decide) rfl (Nat.le_of_ble_eq_true rfl) ?_
  intro p e R s m args below meth c Q A X hR hret hnm hA fin hd ls hl
  subst hR
  have hx := X.1
  have hb := X.2.1
  have hl : lv_has ls 1 [(0, .ref h0)] := hl
  refine lv_aload_n hx hb dX2_init_0 rfl (lv_at hl 0 rfl) ?_
  refine W.objInit hx hb X.2.2.2.1 (X.2.2.2.2.1 _ lo_X2_3) (X.2.2.2.2.1 _ w_objI) (X.2.2.2.2.1 _ w_objC) rfl (by rw [X.2.2.1]; exact hl.1) rfl dX2_init_1 (by decide) (Nat.le_of_ble_eq_true rfl) ?_
  refine W.eq (g2 := F0 m 4 ls []) rfl ?_
  refine lv_aload_n hx hb dX2_init_4 rfl (lv_at hl 0 rfl) ?_
  refine x_new (C := RX3) (T := TX3) (N := 1) (ci := 3) (fs := [.null]) inT_X3 tyX3 tyX3_ok lc_X2_9 w_inst_X3 w_ini_X3 rfl (fun j hj => by match j, hj with | 0, _ => rfl | n + 1, h => exact absurd h (by omega)) X hd hA (by decide) (by decide) dX2_init_5 (fun q_1 H hd => ?_)
  have hd : Hd G A s.heap [(h0, .inr (2, [.null, .null])), (q_1, .inr (3, [.null]))] H [] := hd
  refine W.widen (k := 1) (n := 1) (by decide) (by decide) ?_
  refine lv_dup hx hb dX2_init_8 rfl ?_
  refine cM_IN (As := []) (rest := [.ref q_1, .ref h0]) (wr := [(h0, .inr (2, [.null, .null]))]) X (c_X3_init l G cI cZ q_1 ) lk_X2_11 hd hA [1] [0] rfl rfl rfl rfl (by decide) hl.1 rfl rfl (Nat.le_of_ble_eq_true rfl) ⟨Nat.le_of_ble_eq_true rfl, Nat.le_of_ble_eq_true rfl⟩ ⟨Nat.le_of_ble_eq_true rfl, Nat.le_of_ble_eq_true rfl⟩ dX2_init_9 (fun v w1 H locs hp hd => ?_)
  obtain ⟨qra, rfl, rfl⟩ := hp
  have hd : Hd G A s.heap [(h0, .inr (2, [.null, .null])), (q_1, .inr (3, [.ref qra])), (qra, .inl (cI, 108, .inl (fun _ => 0)))] H locs := hd
  refine st_all (st' := [.ref q_1, .ref h0]) rfl ?_
  refine W.widen (k := 2) (n := 109) (by decide) (by decide) ?_
  refine x_putF (C := RX2) (T := TX2) (N := 2) (ci := 2) (ty := (.object "SumsForAll$Rows")) 0 inT_X2 tyX2 tyX2_ok nmX2 rfl (by decide) lf_X2_12 rfl rfl (by decide +kernel) rfl hnm X hd 0 rfl rfl rfl (Nat.le_of_ble_eq_true rfl) dX2_init_12 (fun H locs hd => ?_)
  have hd : Hd G A s.heap [(h0, .inr (2, [.ref q_1, .null])), (q_1, .inr (3, [.ref qra])), (qra, .inl (cI, 108, .inl (fun _ => 0)))] H locs := hd
  refine lv_aload_n hx hb dX2_init_15 rfl (lv_at hl 0 rfl) ?_
  refine x_new (C := RX3) (T := TX3) (N := 1) (ci := 3) (fs := [.null]) inT_X3 tyX3 tyX3_ok lc_X2_9 w_inst_X3 w_ini_X3 rfl (fun j hj => by match j, hj with | 0, _ => rfl | n + 1, h => exact absurd h (by omega)) X hd hA (by decide) (by decide) dX2_init_16 (fun q_2 H hd => ?_)
  have hd : Hd G A s.heap [(h0, .inr (2, [.ref q_1, .null])), (q_1, .inr (3, [.ref qra])), (qra, .inl (cI, 108, .inl (fun _ => 0))), (q_2, .inr (3, [.null]))] H locs := hd
  refine W.widen (k := 3) (n := 110) (by decide) (by decide) ?_
  refine lv_dup hx hb dX2_init_19 rfl ?_
  refine cM_IN (As := []) (rest := [.ref q_2, .ref h0]) (wr := [(h0, .inr (2, [.ref q_1, .null])), (q_1, .inr (3, [.ref qra])), (qra, .inl (cI, 108, .inl (fun _ => 0)))]) X (c_X3_init l G cI cZ q_2 ) lk_X2_11 hd hA [3] [0, 1, 2] rfl rfl rfl rfl (by decide) hl.1 rfl rfl (Nat.le_of_ble_eq_true rfl) ⟨Nat.le_of_ble_eq_true rfl, Nat.le_of_ble_eq_true rfl⟩ ⟨Nat.le_of_ble_eq_true rfl, Nat.le_of_ble_eq_true rfl⟩ dX2_init_20 (fun v w1 H locs hp hd => ?_)
  obtain ⟨qsa, rfl, rfl⟩ := hp
  have hd : Hd G A s.heap [(h0, .inr (2, [.ref q_1, .null])), (q_1, .inr (3, [.ref qra])), (qra, .inl (cI, 108, .inl (fun _ => 0))), (q_2, .inr (3, [.ref qsa])), (qsa, .inl (cI, 108, .inl (fun _ => 0)))] H locs := hd
  refine st_all (st' := [.ref q_2, .ref h0]) rfl ?_
  refine W.widen (k := 4) (n := 218) (by decide) (by decide) ?_
  refine x_putF (C := RX2) (T := TX2) (N := 2) (ci := 2) (ty := (.object "SumsForAll$Rows")) 1 inT_X2 tyX2 tyX2_ok nmX2 rfl (by decide) lf_X2_18 rfl rfl (by decide +kernel) rfl hnm X hd 0 rfl rfl rfl (Nat.le_of_ble_eq_true rfl) dX2_init_23 (fun H locs hd => ?_)
  have hd : Hd G A s.heap [(h0, .inr (2, [.ref q_1, .ref q_2])), (q_1, .inr (3, [.ref qra])), (qra, .inl (cI, 108, .inl (fun _ => 0))), (q_2, .inr (3, [.ref qsa])), (qsa, .inl (cI, 108, .inl (fun _ => 0)))] H locs := hd
  refine W.widen (k := 4) (n := 218) (by decide) (by decide) ?_
  exact (fin _ _ [(h0, .inr (2, [.ref q_1, .ref q_2])), (q_1, .inr (3, [.ref qra])), (qra, .inl (cI, 108, .inl (fun _ => 0))), (q_2, .inr (3, [.ref qsa])), (qsa, .inl (cI, 108, .inl (fun _ => 0)))] _ _ (hd.sub [0, 1, 2, 3, 4] rfl rfl)).1 rfl ⟨q_1, qra, q_2, qsa, rfl, rfl⟩ dX2_init_26

set_option maxHeartbeats 4000000 in
set_option maxRecDepth 100000 in
theorem c_X1_init (l : Launch) (G : va_G) (cI cZ : ClassId) (h0 : Nat) : CM l G cI cZ yX1_init cX1_init 1 none 1 12 3 882 [.ref h0] [(h0, .inr (1, [.null, .int (nI 0), .int (nI 0), .int (nI 0), .int (nI 0), .null, .null]))] (fun ov_ wv_ => ∃ ht : Nat, ∃ qa : Nat, ∃ qb : Nat, ov_ = none ∧ wv_ = [(h0, .inr (1, [.ref ht, .int (nI 0), .int (nI 0), .int (nI 0), .int (nI 0), .ref qa, .ref qb])), (ht, .inl (cI, 864, .inl (fun _ => 0))), (qa, .inl (cI, 9, .inl (fun _ => 0))), (qb, .inl (cI, 9, .inl (fun _ => 0)))]) := by
  refine CM.of (own := RX1) (by decide) rfl (Nat.le_of_ble_eq_true rfl) ?_
  intro p e R s m args below meth c Q A X hR hret hnm hA fin hd ls hl
  subst hR
  have hx := X.1
  have hb := X.2.1
  have hl : lv_has ls 1 [(0, .ref h0)] := hl
  refine lv_aload_n hx hb dX1_init_0 rfl (lv_at hl 0 rfl) ?_
  refine W.objInit hx hb X.2.2.2.1 (X.2.2.2.2.1 _ lo_X1_3) (X.2.2.2.2.1 _ w_objI) (X.2.2.2.2.1 _ w_objC) rfl (by rw [X.2.2.1]; exact hl.1) rfl dX1_init_1 (by decide) (Nat.le_of_ble_eq_true rfl) ?_
  refine W.eq (g2 := F0 m 4 ls []) rfl ?_
  refine lv_aload_n hx hb dX1_init_4 rfl (lv_at hl 0 rfl) ?_
  refine lv_sipush (v := nI 864) hx hb dX1_init_5 (by decide) ?_
  refine x_newaI X hd hA (N := 864) (by decide) (by decide) (by decide) (by decide) dX1_init_8 w_arrI (fun q_1 H locs hd => ?_)
  have hd : Hd G A s.heap [(h0, .inr (1, [.null, .int (nI 0), .int (nI 0), .int (nI 0), .int (nI 0), .null, .null])), (q_1, .inl (cI, 864, .inl (fun _ => 0)))] H locs := hd
  refine W.widen (k := 1) (n := 864) (by decide) (by decide) ?_
  refine x_putF (C := RX1) (T := TX1) (N := 7) (ci := 1) (ty := (.array .int)) 0 inT_X1 tyX1 tyX1_ok nmX1 rfl (by decide) lf_X1_9 rfl rfl (by decide +kernel) rfl hnm X hd 0 rfl rfl rfl (Nat.le_of_ble_eq_true rfl) dX1_init_10 (fun H locs hd => ?_)
  have hd : Hd G A s.heap [(h0, .inr (1, [.ref q_1, .int (nI 0), .int (nI 0), .int (nI 0), .int (nI 0), .null, .null])), (q_1, .inl (cI, 864, .inl (fun _ => 0)))] H locs := hd
  refine lv_aload_n hx hb dX1_init_13 rfl (lv_at hl 0 rfl) ?_
  refine lv_iconst (v := nI 0) hx hb dX1_init_14 (by decide) ?_
  refine x_put (C := RX1) (T := TX1) (N := 7) (ci := 1) (ty := .int) 1 inT_X1 tyX1 tyX1_ok nmX1 rfl (by decide) lf_X1_15 rfl rfl (by decide +kernel) X hd 0 rfl rfl rfl (Nat.le_of_ble_eq_true rfl) dX1_init_15 (fun H locs hd => ?_)
  have hd : Hd G A s.heap [(h0, .inr (1, [.ref q_1, .int (nI 0), .int (nI 0), .int (nI 0), .int (nI 0), .null, .null])), (q_1, .inl (cI, 864, .inl (fun _ => 0)))] H locs := hd
  refine lv_aload_n hx hb dX1_init_18 rfl (lv_at hl 0 rfl) ?_
  refine lv_iconst (v := nI 0) hx hb dX1_init_19 (by decide) ?_
  refine x_put (C := RX1) (T := TX1) (N := 7) (ci := 1) (ty := .int) 2 inT_X1 tyX1 tyX1_ok nmX1 rfl (by decide) lf_X1_19 rfl rfl (by decide +kernel) X hd 0 rfl rfl rfl (Nat.le_of_ble_eq_true rfl) dX1_init_20 (fun H locs hd => ?_)
  have hd : Hd G A s.heap [(h0, .inr (1, [.ref q_1, .int (nI 0), .int (nI 0), .int (nI 0), .int (nI 0), .null, .null])), (q_1, .inl (cI, 864, .inl (fun _ => 0)))] H locs := hd
  refine lv_aload_n hx hb dX1_init_23 rfl (lv_at hl 0 rfl) ?_
  refine lv_iconst (v := nI 0) hx hb dX1_init_24 (by decide) ?_
  refine x_put (C := RX1) (T := TX1) (N := 7) (ci := 1) (ty := .int) 3 inT_X1 tyX1 tyX1_ok nmX1 rfl (by decide) lf_X1_22 rfl rfl (by decide +kernel) X hd 0 rfl rfl rfl (Nat.le_of_ble_eq_true rfl) dX1_init_25 (fun H locs hd => ?_)
  have hd : Hd G A s.heap [(h0, .inr (1, [.ref q_1, .int (nI 0), .int (nI 0), .int (nI 0), .int (nI 0), .null, .null])), (q_1, .inl (cI, 864, .inl (fun _ => 0)))] H locs := hd
  refine lv_aload_n hx hb dX1_init_28 rfl (lv_at hl 0 rfl) ?_
  refine lv_iconst (v := nI 0) hx hb dX1_init_29 (by decide) ?_
  refine x_put (C := RX1) (T := TX1) (N := 7) (ci := 1) (ty := .int) 4 inT_X1 tyX1 tyX1_ok nmX1 rfl (by decide) lf_X1_25 rfl rfl (by decide +kernel) X hd 0 rfl rfl rfl (Nat.le_of_ble_eq_true rfl) dX1_init_30 (fun H locs hd => ?_)
  have hd : Hd G A s.heap [(h0, .inr (1, [.ref q_1, .int (nI 0), .int (nI 0), .int (nI 0), .int (nI 0), .null, .null])), (q_1, .inl (cI, 864, .inl (fun _ => 0)))] H locs := hd
  refine lv_aload_n hx hb dX1_init_33 rfl (lv_at hl 0 rfl) ?_
  refine lv_bipush (v := nI 9) hx hb dX1_init_34 (by decide) ?_
  refine x_newaI X hd hA (N := 9) (by decide) (by decide) (by decide) (by decide) dX1_init_36 w_arrI (fun q_2 H locs hd => ?_)
  have hd : Hd G A s.heap [(h0, .inr (1, [.ref q_1, .int (nI 0), .int (nI 0), .int (nI 0), .int (nI 0), .null, .null])), (q_1, .inl (cI, 864, .inl (fun _ => 0))), (q_2, .inl (cI, 9, .inl (fun _ => 0)))] H locs := hd
  refine W.widen (k := 2) (n := 873) (by decide) (by decide) ?_
  refine x_putF (C := RX1) (T := TX1) (N := 7) (ci := 1) (ty := (.array .int)) 5 inT_X1 tyX1 tyX1_ok nmX1 rfl (by decide) lf_X1_28 rfl rfl (by decide +kernel) rfl hnm X hd 0 rfl rfl rfl (Nat.le_of_ble_eq_true rfl) dX1_init_38 (fun H locs hd => ?_)
  have hd : Hd G A s.heap [(h0, .inr (1, [.ref q_1, .int (nI 0), .int (nI 0), .int (nI 0), .int (nI 0), .ref q_2, .null])), (q_1, .inl (cI, 864, .inl (fun _ => 0))), (q_2, .inl (cI, 9, .inl (fun _ => 0)))] H locs := hd
  refine lv_aload_n hx hb dX1_init_41 rfl (lv_at hl 0 rfl) ?_
  refine lv_bipush (v := nI 9) hx hb dX1_init_42 (by decide) ?_
  refine x_newaI X hd hA (N := 9) (by decide) (by decide) (by decide) (by decide) dX1_init_44 w_arrI (fun q_3 H locs hd => ?_)
  have hd : Hd G A s.heap [(h0, .inr (1, [.ref q_1, .int (nI 0), .int (nI 0), .int (nI 0), .int (nI 0), .ref q_2, .null])), (q_1, .inl (cI, 864, .inl (fun _ => 0))), (q_2, .inl (cI, 9, .inl (fun _ => 0))), (q_3, .inl (cI, 9, .inl (fun _ => 0)))] H locs := hd
  refine W.widen (k := 3) (n := 882) (by decide) (by decide) ?_
  refine x_putF (C := RX1) (T := TX1) (N := 7) (ci := 1) (ty := (.array .int)) 6 inT_X1 tyX1 tyX1_ok nmX1 rfl (by decide) lf_X1_31 rfl rfl (by decide +kernel) rfl hnm X hd 0 rfl rfl rfl (Nat.le_of_ble_eq_true rfl) dX1_init_46 (fun H locs hd => ?_)
  have hd : Hd G A s.heap [(h0, .inr (1, [.ref q_1, .int (nI 0), .int (nI 0), .int (nI 0), .int (nI 0), .ref q_2, .ref q_3])), (q_1, .inl (cI, 864, .inl (fun _ => 0))), (q_2, .inl (cI, 9, .inl (fun _ => 0))), (q_3, .inl (cI, 9, .inl (fun _ => 0)))] H locs := hd
  refine W.widen (k := 3) (n := 882) (by decide) (by decide) ?_
  exact (fin _ _ [(h0, .inr (1, [.ref q_1, .int (nI 0), .int (nI 0), .int (nI 0), .int (nI 0), .ref q_2, .ref q_3])), (q_1, .inl (cI, 864, .inl (fun _ => 0))), (q_2, .inl (cI, 9, .inl (fun _ => 0))), (q_3, .inl (cI, 9, .inl (fun _ => 0)))] _ _ (hd.sub [0, 1, 2, 3] rfl rfl)).1 rfl ⟨q_1, q_2, q_3, rfl, rfl⟩ dX1_init_49

set_option maxHeartbeats 4000000 in
set_option maxRecDepth 100000 in
theorem c_X0_init (l : Launch) (G : va_G) (cI cZ : ClassId) (h0 : Nat) : CM l G cI cZ yX0_init cX0_init 1 none 1 12 2 18 [.ref h0] [(h0, .inr (0, [.null, .null, .int (nI 0), .int (nI 0)]))] (fun ov_ wv_ => ∃ hr : Nat, ∃ ha : Nat, ov_ = none ∧ wv_ = [(h0, .inr (0, [.ref hr, .ref ha, .int (nI 0), .int (nI 0)])), (hr, .inl (cI, 9, .inl (fun _ => 0))), (ha, .inl (cI, 9, .inl (fun _ => 0)))]) := by
  refine CM.of (own := RX0) (by decide) rfl (Nat.le_of_ble_eq_true rfl) ?_
  intro p e R s m args below meth c Q A X hR hret hnm hA fin hd ls hl
  subst hR
  have hx := X.1
  have hb := X.2.1
  have hl : lv_has ls 1 [(0, .ref h0)] := hl
  refine lv_aload_n hx hb dX0_init_0 rfl (lv_at hl 0 rfl) ?_
  refine W.objInit hx hb X.2.2.2.1 (X.2.2.2.2.1 _ lo_X0_3) (X.2.2.2.2.1 _ w_objI) (X.2.2.2.2.1 _ w_objC) rfl (by rw [X.2.2.1]; exact hl.1) rfl dX0_init_1 (by decide) (Nat.le_of_ble_eq_true rfl) ?_
  refine W.eq (g2 := F0 m 4 ls []) rfl ?_
  refine lv_aload_n hx hb dX0_init_4 rfl (lv_at hl 0 rfl) ?_
  refine lv_bipush (v := nI 9) hx hb dX0_init_5 (by decide) ?_
  refine x_newaI X hd hA (N := 9) (by decide) (by decide) (by decide) (by decide) dX0_init_7 w_arrI (fun q_1 H locs hd => ?_)
  have hd : Hd G A s.heap [(h0, .inr (0, [.null, .null, .int (nI 0), .int (nI 0)])), (q_1, .inl (cI, 9, .inl (fun _ => 0)))] H locs := hd
  refine W.widen (k := 1) (n := 9) (by decide) (by decide) ?_
  refine x_putF (C := RX0) (T := TX0) (N := 4) (ci := 0) (ty := (.array .int)) 0 inT_X0 tyX0 tyX0_ok nmX0 rfl (by decide) lf_X0_9 rfl rfl (by decide +kernel) rfl hnm X hd 0 rfl rfl rfl (Nat.le_of_ble_eq_true rfl) dX0_init_9 (fun H locs hd => ?_)
  have hd : Hd G A s.heap [(h0, .inr (0, [.ref q_1, .null, .int (nI 0), .int (nI 0)])), (q_1, .inl (cI, 9, .inl (fun _ => 0)))] H locs := hd
  refine lv_aload_n hx hb dX0_init_12 rfl (lv_at hl 0 rfl) ?_
  refine lv_bipush (v := nI 9) hx hb dX0_init_13 (by decide) ?_
  refine x_newaI X hd hA (N := 9) (by decide) (by decide) (by decide) (by decide) dX0_init_15 w_arrI (fun q_2 H locs hd => ?_)
  have hd : Hd G A s.heap [(h0, .inr (0, [.ref q_1, .null, .int (nI 0), .int (nI 0)])), (q_1, .inl (cI, 9, .inl (fun _ => 0))), (q_2, .inl (cI, 9, .inl (fun _ => 0)))] H locs := hd
  refine W.widen (k := 2) (n := 18) (by decide) (by decide) ?_
  refine x_putF (C := RX0) (T := TX0) (N := 4) (ci := 0) (ty := (.array .int)) 1 inT_X0 tyX0 tyX0_ok nmX0 rfl (by decide) lf_X0_15 rfl rfl (by decide +kernel) rfl hnm X hd 0 rfl rfl rfl (Nat.le_of_ble_eq_true rfl) dX0_init_17 (fun H locs hd => ?_)
  have hd : Hd G A s.heap [(h0, .inr (0, [.ref q_1, .ref q_2, .int (nI 0), .int (nI 0)])), (q_1, .inl (cI, 9, .inl (fun _ => 0))), (q_2, .inl (cI, 9, .inl (fun _ => 0)))] H locs := hd
  refine lv_aload_n hx hb dX0_init_20 rfl (lv_at hl 0 rfl) ?_
  refine lv_iconst (v := nI 0) hx hb dX0_init_21 (by decide) ?_
  refine x_put (C := RX0) (T := TX0) (N := 4) (ci := 0) (ty := .int) 2 inT_X0 tyX0 tyX0_ok nmX0 rfl (by decide) lf_X0_18 rfl rfl (by decide +kernel) X hd 0 rfl rfl rfl (Nat.le_of_ble_eq_true rfl) dX0_init_22 (fun H locs hd => ?_)
  have hd : Hd G A s.heap [(h0, .inr (0, [.ref q_1, .ref q_2, .int (nI 0), .int (nI 0)])), (q_1, .inl (cI, 9, .inl (fun _ => 0))), (q_2, .inl (cI, 9, .inl (fun _ => 0)))] H locs := hd
  refine lv_aload_n hx hb dX0_init_25 rfl (lv_at hl 0 rfl) ?_
  refine lv_iconst (v := nI 0) hx hb dX0_init_26 (by decide) ?_
  refine x_put (C := RX0) (T := TX0) (N := 4) (ci := 0) (ty := .int) 3 inT_X0 tyX0 tyX0_ok nmX0 rfl (by decide) lf_X0_22 rfl rfl (by decide +kernel) X hd 0 rfl rfl rfl (Nat.le_of_ble_eq_true rfl) dX0_init_27 (fun H locs hd => ?_)
  have hd : Hd G A s.heap [(h0, .inr (0, [.ref q_1, .ref q_2, .int (nI 0), .int (nI 0)])), (q_1, .inl (cI, 9, .inl (fun _ => 0))), (q_2, .inl (cI, 9, .inl (fun _ => 0)))] H locs := hd
  refine W.widen (k := 2) (n := 18) (by decide) (by decide) ?_
  exact (fin _ _ [(h0, .inr (0, [.ref q_1, .ref q_2, .int (nI 0), .int (nI 0)])), (q_1, .inl (cI, 9, .inl (fun _ => 0))), (q_2, .inl (cI, 9, .inl (fun _ => 0)))] _ _ (hd.sub [0, 1, 2] rfl rfl)).1 rfl ⟨q_1, q_2, rfl, rfl⟩ dX0_init_30
end
section
/-! ===== the letters of the ways ===== -/
def bld (B : List (List Nat)) (f : Nat → List Nat) : Nat → List (List Nat)
  | 0 => B
  | k + 1 => bld B f k ++ [f k]
theorem bld_len (B : List (List Nat)) (f : Nat → List Nat) : ∀ k, (bld B f k).length = B.length + k
  | 0 => rfl
  | k + 1 => by rw [bld, List.length_append, bld_len B f k]; rfl
def bld2 (B : List (List Nat)) (F : Nat → Nat → List Nat) (n : Nat) : Nat → List (List Nat)
  | 0 => B
  | r + 1 => bld (bld2 B F n r) (F r) n
theorem bld2_len (B : List (List Nat)) (F : Nat → Nat → List Nat) (n : Nat) : ∀ r, (bld2 B F n r).length = B.length + r * n
  | 0 => by rw [bld2, Nat.zero_mul]; rfl
  | r + 1 => by rw [bld2, bld_len, bld2_len B F n r, Nat.succ_mul, Nat.add_assoc]
def eF1 (z k : Nat) : List Nat := [0, k + 1, 0, 0, z, 0]
def eF2 (z k : Nat) : List Nat := [1, 0, k + 1, 0, z, 2]
def LEach (n z : Nat) : List (List Nat) := bld (bld [] (eF1 z) (n - 1)) (eF2 z) (n - 1)
def pF (n z rd m q kd : Nat) : List Nat := [rd, m, (m + 1 + n - 0) % n, z * q / n, z * (q + 1) / n - z * q / n, kd]
def gF1 (n z r m : Nat) : List Nat := pF n z r m ((m + n - r) % n) 1
def gF2 (n z r m : Nat) : List Nat := pF n z (n - 1 + r) m ((m + 1 + n - r) % n) 2
def LRing (n z : Nat) : List (List Nat) := bld2 (bld2 [] (gF1 n z) n (n - 1)) (gF2 n z) n (n - 1)
/-- the tree -/
def tcn (n v : Nat) : Nat := min n (2 ^ (v + 1) - 1) - (2 ^ v - 1)
def tF1 (z rd v j : Nat) : List Nat := [rd, 2 ^ v - 1 + j, (2 ^ v - 1 + j - 1) / 2, 0, z, 0]
def tF2 (z rd v j : Nat) : List Nat := [rd, (2 ^ v - 1 + j - 1) / 2, 2 ^ v - 1 + j, 0, z, 2]
def tU (n z : Nat) : Nat → List (List Nat)
  | 0 => []
  | i + 1 => bld (tU n z i) (tF1 z i (dpl n - i)) (tcn n (dpl n - i))
def tD (n z : Nat) : Nat → List (List Nat)
  | 0 => tU n z (dpl n)
  | i + 1 => bld (tD n z i) (tF2 z (dpl n + i) (i + 1)) (tcn n (i + 1))
def LTree (n z : Nat) : List (List Nat) := tD n z (dpl n)
/-- the halves -/
def nlo (lo sp : Nat → Nat) (d m : Nat) : Nat := if m &&& d = 0 then lo m else lo m + sp m / 2
def nsp (sp : Nat → Nat) (d m : Nat) : Nat := if m &&& d = 0 then sp m / 2 else sp m - sp m / 2
def hF (rd : Nat) (lo sp : Nat → Nat) (d m : Nat) : List Nat := if m &&& d = 0 then [rd, m, m ^^^ d, lo m + sp m / 2, sp m - sp m / 2, 1] else [rd, m, m ^^^ d, lo m, sp m / 2, 0]
def dlo (lo : Nat → Nat) (d m : Nat) : Nat := lo (m - (m &&& d))
def dsp (sp : Nat → Nat) (d m : Nat) : Nat := sp m + sp (m ^^^ d)
def dF (rd : Nat) (lo sp : Nat → Nat) (d m : Nat) : List Nat := [rd, m, m ^^^ d, lo m, sp m, 2]
def lg2 (P : Nat) : Nat := if P = 8 then 3 else if P = 4 then 2 else 1
def hlo (P z : Nat) : Nat → (Nat → Nat) × (Nat → Nat)
  | 0 => (fun _ => 0, fun _ => z)
  | i + 1 => (nlo (hlo P z i).1 (hlo P z i).2 (P / 2 ^ (i + 1)), nsp (hlo P z i).2 (P / 2 ^ (i + 1)))
def hup (P z : Nat) : Nat → (Nat → Nat) × (Nat → Nat)
  | 0 => hlo P z (lg2 P)
  | i + 1 => (dlo (hup P z i).1 (2 ^ i), dsp (hup P z i).2 (2 ^ i))
def rd0 (n : Nat) : Nat := if gp2 n < n then 1 else 0
def xF1 (P z j : Nat) : List Nat := [0, P + j, j, 0, z, 0]
def xF2 (rd P z j : Nat) : List Nat := [rd, j, j + P, 0, z, 2]
def hA0 (n z : Nat) : List (List Nat) := bld [] (xF1 (gp2 n) z) (n - gp2 n)
def hA1 (n z : Nat) : Nat → List (List Nat)
  | 0 => hA0 n z
  | i + 1 => bld (hA1 n z i) (hF (rd0 n + i) (hlo (gp2 n) z i).1 (hlo (gp2 n) z i).2 (gp2 n / 2 ^ (i + 1))) (gp2 n)
def hA2 (n z : Nat) : Nat → List (List Nat)
  | 0 => hA1 n z (lg2 (gp2 n))
  | i + 1 => bld (hA2 n z i) (dF (rd0 n + lg2 (gp2 n) + i) (hup (gp2 n) z i).1 (hup (gp2 n) z i).2 (2 ^ i)) (gp2 n)
def LHalf (n z : Nat) : List (List Nat) := bld (hA2 n z (lg2 (gp2 n))) (xF2 (rd0 n + lg2 (gp2 n) + lg2 (gp2 n)) (gp2 n) z) (n - gp2 n)
def lLs (w n z : Nat) : List (List Nat) := if w = 0 then LRing n z else if w = 1 then LHalf n z else if w = 2 then LTree n z else LEach n z
def lRd (w n : Nat) : Nat := if w = 0 then n - 1 + (n - 1) else if w = 1 then rd0 n + lg2 (gp2 n) + lg2 (gp2 n) + rd0 n else if w = 2 then dpl n + dpl n else 2
/-- steps through a row -/
def stp (f g : Nat → Nat) (i : Nat) : Nat → Nat := fun m => if m < i then f m else g m
theorem stp_at (f g : Nat → Nat) (i : Nat) : stp f g i i = g i := by simp [stp]
theorem stp_0 (f g : Nat → Nat) (m : Nat) : g m = stp f g 0 m := by simp [stp]
theorem stp_upd {f g sf : Nat → Nat} {P i x : Nat} (h : ∀ m, m < P → sf m = stp f g i m) (hx : f i = x) : ∀ m, m < P → updN sf i x m = stp f g (i + 1) m := by
  intro m hm
  simp only [updN, stp]
  by_cases e : m = i
  · subst e; rw [if_pos rfl, if_pos (by omega), hx]
  · rw [if_neg e, h m hm]
    simp only [stp]
    by_cases q : m < i
    · rw [if_pos q, if_pos (by omega)]
    · rw [if_neg q, if_neg (by omega)]
theorem stp_same {f g sf : Nat → Nat} {P i : Nat} (h : ∀ m, m < P → sf m = stp f g i m) (hx : f i = g i) : ∀ m, m < P → sf m = stp f g (i + 1) m := by
  intro m hm
  rw [h m hm]
  simp only [stp]
  by_cases e : m = i
  · subst e; rw [if_neg (by omega), if_pos (by omega), hx]
  · by_cases q : m < i
    · rw [if_pos q, if_pos (by omega)]
    · rw [if_neg q, if_neg (by omega)]
theorem stp_e {f g sf : Nat → Nat} {P i : Nat} (h : ∀ m, m < P → sf m = stp f g i m) (hi : P ≤ i) : ∀ m, m < P → sf m = f m := by
  intro m hm
  rw [h m hm]
  simp only [stp]
  rw [if_pos (by omega)]
def dd (d : Nat) : Prop := d = 1 ∨ d = 2 ∨ d = 4
theorem xa1' : ∀ m, m < 9 → ∀ d, d < 5 → ((d = 1 ∨ d = 2 ∨ d = 4) ∧ m &&& d = 0) → m + d = m ^^^ d := by decide +kernel
theorem xa2' : ∀ m, m < 9 → ∀ d, d < 5 → ((d = 1 ∨ d = 2 ∨ d = 4) ∧ ¬ m &&& d = 0) → d ≤ m ∧ m - d = m ^^^ d ∧ m &&& d = d := by decide +kernel
theorem xa1 {m d : Nat} (hm : m < 9) (hd : dd d) (h : m &&& d = 0) : m + d = m ^^^ d := xa1' m hm d (by rcases hd with rfl | rfl | rfl <;> decide) ⟨hd, h⟩
theorem xa2 {m d : Nat} (hm : m < 9) (hd : dd d) (h : ¬ m &&& d = 0) : d ≤ m ∧ m - d = m ^^^ d ∧ m &&& d = d := xa2' m hm d (by rcases hd with rfl | rfl | rfl <;> decide) ⟨hd, h⟩
theorem dd_le {d : Nat} (h : dd d) : 1 ≤ d ∧ d ≤ 4 := by rcases h with rfl | rfl | rfl <;> decide
/-- the pairs of a doubling that are done -/
def prd (d i j : Nat) : Bool := if j &&& d = 0 then decide (j < i) else decide (j - d < i)
theorem prd1B : ((List.range 9).all fun i => (List.range 9).all fun j => ([1, 2, 4] : List Nat).all fun d => (i &&& d == 0) || (prd d (i + 1) j == prd d i j)) = true := by decide +kernel
theorem prd2B : ((List.range 9).all fun i => (List.range 9).all fun j => ([1, 2, 4] : List Nat).all fun d => !(i &&& d == 0) || (j == i || (j == i + d || (prd d (i + 1) j == prd d i j)))) = true := by decide +kernel
theorem dd_mem {d : Nat} (h : dd d) : d ∈ ([1, 2, 4] : List Nat) := by rcases h with rfl | rfl | rfl <;> decide
theorem prd1 {i j d : Nat} (hi : i < 9) (hj : j < 9) (hd : dd d) (h : ¬ i &&& d = 0) : prd d (i + 1) j = prd d i j := by
  have := List.all_eq_true.mp (List.all_eq_true.mp (List.all_eq_true.mp prd1B i (List.mem_range.mpr hi)) j (List.mem_range.mpr hj)) d (dd_mem hd)
  simpa [h] using this
theorem prd2 {i j d : Nat} (hi : i < 9) (hj : j < 9) (hd : dd d) (h : i &&& d = 0) (h1 : j ≠ i) (h2 : j ≠ i + d) : prd d (i + 1) j = prd d i j := by
  have := List.all_eq_true.mp (List.all_eq_true.mp (List.all_eq_true.mp prd2B i (List.mem_range.mpr hi)) j (List.mem_range.mpr hj)) d (dd_mem hd)
  simpa [h, h1, h2] using this
theorem prd3' : ∀ i, i < 9 → ∀ d, d < 5 → ((d = 1 ∨ d = 2 ∨ d = 4) ∧ i &&& d = 0) → (¬ (i + d) &&& d = 0 ∧ (i + d) - ((i + d) &&& d) = i ∧ (i + d) ^^^ d = i) := by decide +kernel
theorem dpl_le (n : Nat) : dpl n ≤ 3 := by unfold dpl; split; omega; split; omega; split <;> omega
theorem p2ge {v : Nat} (h : 1 ≤ v) : 2 ≤ 2 ^ v := by
  have := Nat.pow_le_pow_right (n := 2) (by decide) h
  simpa using this
theorem tcn_le (n v : Nat) : tcn n v ≤ n := by unfold tcn; omega
theorem tU_len {n z : Nat} (h : n ≤ 9) : ∀ i, (tU n z i).length ≤ i * 9
  | 0 => Nat.zero_le _
  | i + 1 => by
    have h1 := tU_len (z := z) h i
    have h2 := tcn_le n (dpl n - i)
    rw [tU, bld_len, Nat.succ_mul]
    omega
theorem tD_len {n z : Nat} (h : n ≤ 9) : ∀ i, (tD n z i).length ≤ (3 + i) * 9
  | 0 => by
    have h1 := tU_len (z := z) h (dpl n)
    have h2 := dpl_le n
    rw [tD]; omega
  | i + 1 => by
    have h1 := tD_len (z := z) h i
    have h2 := tcn_le n (i + 1)
    rw [tD, bld_len]
    omega
theorem gp2_or (n : Nat) : gp2 n = 2 ∨ gp2 n = 4 ∨ gp2 n = 8 := by unfold gp2; split; omega; split <;> omega
theorem gp2_le {n : Nat} (h : 2 ≤ n) : gp2 n ≤ n := by unfold gp2; split; omega; split <;> omega
theorem lg2_le (P : Nat) : lg2 P ≤ 3 := by unfold lg2; split; omega; split <;> omega
theorem hdx : (([2, 4, 8] : List Nat).all fun P => (List.range 4).all fun i => !(decide (i ≤ lg2 P)) || ((decide (P / 2 ^ (i + 1) < 1) && decide (i = lg2 P)) || (decide (1 ≤ P / 2 ^ (i + 1)) && (decide (i < lg2 P) && (decide (P / 2 ^ (i + 1) = 1) || (decide (P / 2 ^ (i + 1) = 2) || decide (P / 2 ^ (i + 1) = 4))))))) = true := by decide +kernel
theorem upx : (([2, 4, 8] : List Nat).all fun P => (List.range 4).all fun i => !(decide (i ≤ lg2 P)) || ((decide (P ≤ 2 ^ i) && decide (i = lg2 P)) || (decide (2 ^ i < P) && (decide (i < lg2 P) && (decide (2 ^ i = 1) || (decide (2 ^ i = 2) || decide (2 ^ i = 4))))))) = true := by decide +kernel
theorem pmem {P : Nat} (h : P = 2 ∨ P = 4 ∨ P = 8) : P ∈ ([2, 4, 8] : List Nat) := by rcases h with rfl | rfl | rfl <;> decide
theorem hd_two {P i : Nat} (hP : P = 2 ∨ P = 4 ∨ P = 8) (hi : i ≤ lg2 P) : (P / 2 ^ (i + 1) < 1 ∧ i = lg2 P) ∨ (1 ≤ P / 2 ^ (i + 1) ∧ i < lg2 P ∧ dd (P / 2 ^ (i + 1))) := by
  have := List.all_eq_true.mp (List.all_eq_true.mp hdx P (pmem hP)) i (List.mem_range.mpr (Nat.lt_of_le_of_lt hi (Nat.lt_succ_of_le (lg2_le P))))
  simp only [hi, decide_true, Bool.not_true, Bool.false_or, Bool.or_eq_true, Bool.and_eq_true, decide_eq_true_eq] at this
  exact this
theorem up_two {P i : Nat} (hP : P = 2 ∨ P = 4 ∨ P = 8) (hi : i ≤ lg2 P) : (P ≤ 2 ^ i ∧ i = lg2 P) ∨ (2 ^ i < P ∧ i < lg2 P ∧ dd (2 ^ i)) := by
  have := List.all_eq_true.mp (List.all_eq_true.mp upx P (pmem hP)) i (List.mem_range.mpr (Nat.lt_of_le_of_lt hi (Nat.lt_succ_of_le (lg2_le P))))
  simp only [hi, decide_true, Bool.not_true, Bool.false_or, Bool.or_eq_true, Bool.and_eq_true, decide_eq_true_eq] at this
  exact this
theorem hd_ex {P i : Nat} (hP : P = 2 ∨ P = 4 ∨ P = 8) (hi : i ≤ lg2 P) (h : P / 2 ^ (i + 1) < 1) : i = lg2 P := by
  rcases hd_two hP hi with q | q
  · exact q.2
  · omega
theorem hd_in {P i : Nat} (hP : P = 2 ∨ P = 4 ∨ P = 8) (hi : i ≤ lg2 P) (h : 1 ≤ P / 2 ^ (i + 1)) : i < lg2 P ∧ dd (P / 2 ^ (i + 1)) := by
  rcases hd_two hP hi with q | q
  · omega
  · exact q.2
theorem up_ex {P i : Nat} (hP : P = 2 ∨ P = 4 ∨ P = 8) (hi : i ≤ lg2 P) (h : P ≤ 2 ^ i) : i = lg2 P := by
  rcases up_two hP hi with q | q
  · exact q.2
  · omega
theorem up_in {P i : Nat} (hP : P = 2 ∨ P = 4 ∨ P = 8) (hi : i ≤ lg2 P) (h : 2 ^ i < P) : i < lg2 P ∧ dd (2 ^ i) := by
  rcases up_two hP hi with q | q
  · omega
  · exact q.2
theorem nsp_le (sp : Nat → Nat) (d m : Nat) : nsp sp d m ≤ sp m := by unfold nsp; split <;> omega
theorem hlo_le (P z : Nat) : ∀ i m, (hlo P z i).2 m ≤ z
  | 0, _ => Nat.le_refl _
  | i + 1, m => Nat.le_trans (nsp_le _ _ m) (hlo_le P z i m)
theorem hA1_len (n z : Nat) : ∀ i, (hA1 n z i).length = (n - gp2 n) + i * gp2 n
  | 0 => by rw [hA1, hA0, bld_len, Nat.zero_mul]; show 0 + _ = _; omega
  | i + 1 => by rw [hA1, bld_len, hA1_len n z i, Nat.succ_mul, Nat.add_assoc]
theorem hA2_len (n z : Nat) : ∀ i, (hA2 n z i).length = (n - gp2 n) + (lg2 (gp2 n) + i) * gp2 n
  | 0 => by rw [hA2, hA1_len]; rfl
  | i + 1 => by rw [hA2, bld_len, hA2_len n z i, ← Nat.add_assoc (lg2 (gp2 n)), Nat.succ_mul, Nat.add_assoc]
/-- rows in the middle of a doubling -/
def dmid (f g : Nat → Nat) (d i : Nat) : Nat → Nat := fun j => if prd d i j then f j else g j
theorem prd3 {i d : Nat} (hi : i < 9) (hd : dd d) (h : i &&& d = 0) : ¬ (i + d) &&& d = 0 ∧ (i + d) - ((i + d) &&& d) = i ∧ (i + d) ^^^ d = i := prd3' i hi d (by rcases hd with rfl | rfl | rfl <;> decide) ⟨hd, h⟩
theorem dmid_0 (f g : Nat → Nat) (d j : Nat) : g j = dmid f g d 0 j := by
  have : prd d 0 j = false := by unfold prd; split <;> simp
  simp [dmid, this]
theorem dmid_skip {f g sf : Nat → Nat} {P d i : Nat} (hP : P ≤ 8) (hi : i < 9) (hd : dd d) (h0 : ¬ i &&& d = 0) (h : ∀ m, m < P → sf m = dmid f g d i m) : ∀ m, m < P → sf m = dmid f g d (i + 1) m := by
  intro m hm
  rw [h m hm]
  simp only [dmid]
  rw [prd1 hi (by omega) hd h0]
theorem prd_at {i d : Nat} (hi : i < 9) (hd : dd d) (h0 : i &&& d = 0) : prd d i i = false ∧ prd d i (i + d) = false ∧ prd d (i + 1) i = true ∧ prd d (i + 1) (i + d) = true := by
  have h3 := (prd3 hi hd h0).1
  unfold prd
  rw [if_pos h0, if_pos h0, if_neg h3, if_neg h3]
  simp
/-- one pair of a doubling: the length row -/
theorem dmid_len {sp sf : Nat → Nat} {P d i : Nat} (hP : P ≤ 8) (hi : i + d < P) (hd : dd d) (h0 : i &&& d = 0) (h : ∀ m, m < P → sf m = dmid (dsp sp d) sp d i m) : ∀ m, m < P → updN (updN sf i (sf i + sf (i + d))) (i + d) (updN sf i (sf i + sf (i + d)) i) m = dmid (dsp sp d) sp d (i + 1) m := by
  intro m hm
  have hd1 := dd_le hd
  obtain ⟨a1, a2, a3, a4⟩ := prd_at (show i < 9 by omega) hd h0
  obtain ⟨b1, b2, b3⟩ := prd3 (show i < 9 by omega) hd h0
  have e1 : sf i = sp i := by rw [h i (by omega)]; simp [dmid, a1]
  have e2 : sf (i + d) = sp (i + d) := by rw [h (i + d) hi]; simp [dmid, a2]
  have ex := xa1 (show i < 9 by omega) hd h0
  simp only [updN, dmid]
  by_cases q : m = i + d
  · subst q
    rw [if_pos rfl, if_pos trivial, if_pos a4, dsp, b3, e1, e2]
    omega
  · rw [if_neg q]
    by_cases q2 : m = i
    · subst q2
      rw [if_pos rfl, if_pos a3, dsp, ← ex, e1, e2]
    · rw [if_neg q2, h m hm, prd2 (show i < 9 by omega) (show m < 9 by omega) hd h0 q2 q]
      rfl
theorem dmid_lo {lo sf : Nat → Nat} {P d i : Nat} (hP : P ≤ 8) (hi : i + d < P) (hd : dd d) (h0 : i &&& d = 0) (h : ∀ m, m < P → sf m = dmid (dlo lo d) lo d i m) : ∀ m, m < P → updN sf (i + d) (sf i) m = dmid (dlo lo d) lo d (i + 1) m := by
  intro m hm
  have hd1 := dd_le hd
  obtain ⟨a1, a2, a3, a4⟩ := prd_at (show i < 9 by omega) hd h0
  obtain ⟨b1, b2, b3⟩ := prd3 (show i < 9 by omega) hd h0
  have e1 : sf i = lo i := by rw [h i (by omega)]; simp [dmid, a1]
  simp only [updN, dmid]
  by_cases q : m = i + d
  · subst q
    rw [if_pos rfl, if_pos a4, dlo, b2, e1]
  · rw [if_neg q]
    by_cases q2 : m = i
    · subst q2
      rw [if_pos a3, dlo, h0, e1]
      rfl
    · rw [h m hm, prd2 (show i < 9 by omega) (show m < 9 by omega) hd h0 q2 q]
      rfl
theorem prd_end : (([2, 4, 8] : List Nat).all fun P => ([1, 2, 4] : List Nat).all fun d => (List.range 9).all fun i => (List.range 8).all fun j => !(decide (P ≤ i + d)) || (!(decide (j < P)) || (!(decide (d < P)) || prd d i j))) = true := by decide +kernel
theorem dmid_e {f g sf : Nat → Nat} {P d i : Nat} (hP : P = 2 ∨ P = 4 ∨ P = 8) (hdP : d < P) (hi9 : i < 9) (hi : P ≤ i + d) (hd : dd d) (h : ∀ m, m < P → sf m = dmid f g d i m) : ∀ m, m < P → sf m = f m := by
  intro m hm
  have h8 : P ≤ 8 := by omega
  have := List.all_eq_true.mp (List.all_eq_true.mp (List.all_eq_true.mp (List.all_eq_true.mp prd_end P (pmem hP)) d (dd_mem hd)) i (List.mem_range.mpr hi9)) m (List.mem_range.mpr (by omega))
  have e : prd d i m = true := by simpa [hi, hm, hdP] using this
  rw [h m hm]
  simp [dmid, e]
end
section
set_option maxHeartbeats 4000000 in
set_option maxRecDepth 100000 in
theorem c_X1_send (l : Launch) (G : va_G) (cI cZ : ClassId) (h0 : Nat) (ht : Nat) (qa : Nat) (qb : Nat) (rd : Nat) (ln : Nat) (lz : Nat) (L : List (List Nat)) (tb : Nat → Int32) (s_ : Nat) (r_ : Nat) (f_ : Nat) (l_ : Nat) (k_ : Nat) (htb : LTc tb L) (hL : L.length < 144) : CM l G cI cZ yX1_send cX1_send 7 none 0 0 0 0 [.ref h0, .int (nI s_), .int (nI r_), .int (nI f_), .int (nI l_), .int (nI k_)] [(h0, .inr (1, [.ref ht, .int (nI L.length), .int (nI rd), .int (nI ln), .int (nI lz), .ref qa, .ref qb])), (ht, .inl (cI, 864, .inl tb))] (fun ov_ wv_ => ∃ tb2 : Nat → Int32, ov_ = none ∧ wv_ = [(h0, .inr (1, [.ref ht, .int (nI ((L ++ [[rd, s_, r_, f_, l_, k_]]).length)), .int (nI rd), .int (nI ln), .int (nI lz), .ref qa, .ref qb])), (ht, .inl (cI, 864, .inl tb2))] ∧ (LTc tb2 (L ++ [[rd, s_, r_, f_, l_, k_]]))) := by
  refine CM.of (own := RX1) (by decide) rfl (Nat.le_of_ble_eq_true rfl) ?_
  intro p e R s m args below meth c Q A X hR hret hnm hA fin hd ls hl
  subst hR
  have hx := X.1
  have hb := X.2.1
  have hl : lv_has ls 7 [(0, .ref h0), (1, .int (nI s_)), (2, .int (nI r_)), (3, .int (nI f_)), (4, .int (nI l_)), (5, .int (nI k_))] := hl
  refine lv_aload_n hx hb dX1_send_0 rfl (lv_at hl 0 rfl) ?_
  refine x_get (C := RX1) (T := TX1) (N := 7) (ci := 1) 1 inT_X1 rfl (by decide) lf_X1_15 rfl X hd.1 0 rfl rfl dX1_send_1 ?_
  refine lv_sipush (v := nI 144) hx hb dX1_send_4 (by decide) ?_
  refine n_icmp_lt (tgt := 11) hx hb dX1_send_7 (by decide) (by omega) (by omega) (fun c_7 => ?_) (fun c_7 => ?_)
  · refine lv_aload_n hx hb dX1_send_11 rfl (lv_at hl 0 rfl) ?_
    refine x_get (C := RX1) (T := TX1) (N := 7) (ci := 1) 1 inT_X1 rfl (by decide) lf_X1_15 rfl X hd.1 0 rfl rfl dX1_send_12 ?_
    refine lv_bipush (v := nI 6) hx hb dX1_send_15 (by decide) ?_
    refine n_mul hx hb dX1_send_17  ?_
    refine lv_istore (lv' := [(6, .int (nI (L.length * 6))), (0, .ref h0), (1, .int (nI s_)), (2, .int (nI r_)), (3, .int (nI f_)), (4, .int (nI l_)), (5, .int (nI k_))]) hx hb dX1_send_18 hl (by decide) rfl (fun ls hl => ?_)
    refine lv_aload_n hx hb dX1_send_20 rfl (lv_at hl 1 rfl) ?_
    refine x_get (C := RX1) (T := TX1) (N := 7) (ci := 1) 0 inT_X1 rfl (by decide) lf_X1_9 rfl X hd.1 0 rfl rfl dX1_send_21 ?_
    refine lv_iload hx hb dX1_send_24 (lv_at hl 0 rfl) ?_
    refine lv_iconst (v := nI 0) hx hb dX1_send_26 (by decide) ?_
    refine n_add hx hb dX1_send_27  ?_
    refine lv_aload_n hx hb dX1_send_28 rfl (lv_at hl 1 rfl) ?_
    refine x_get (C := RX1) (T := TX1) (N := 7) (ci := 1) 2 inT_X1 rfl (by decide) lf_X1_19 rfl X hd.1 0 rfl rfl dX1_send_29 ?_
    refine n_iast X hd 1 rfl (by omega) (by decide) dX1_send_32 (fun H locs hd => ?_)
    have hd : Hd G A s.heap [(h0, .inr (1, [.ref ht, .int (nI L.length), .int (nI rd), .int (nI ln), .int (nI lz), .ref qa, .ref qb])), (ht, .inl (cI, 864, .inl (upd tb ((L.length * 6) + 0) (nI rd))))] H locs := hd
    refine lv_aload_n hx hb dX1_send_33 rfl (lv_at hl 1 rfl) ?_
    refine x_get (C := RX1) (T := TX1) (N := 7) (ci := 1) 0 inT_X1 rfl (by decide) lf_X1_9 rfl X hd.1 0 rfl rfl dX1_send_34 ?_
    refine lv_iload hx hb dX1_send_37 (lv_at hl 0 rfl) ?_
    refine lv_iconst (v := nI 1) hx hb dX1_send_39 (by decide) ?_
    refine n_add hx hb dX1_send_40  ?_
    refine lv_iload_n hx hb dX1_send_41 rfl (lv_at hl 2 rfl) ?_
    refine n_iast X hd 1 rfl (by omega) (by decide) dX1_send_42 (fun H locs hd => ?_)
    have hd : Hd G A s.heap [(h0, .inr (1, [.ref ht, .int (nI L.length), .int (nI rd), .int (nI ln), .int (nI lz), .ref qa, .ref qb])), (ht, .inl (cI, 864, .inl (upd (upd tb ((L.length * 6) + 0) (nI rd)) ((L.length * 6) + 1) (nI s_))))] H locs := hd
    refine lv_aload_n hx hb dX1_send_43 rfl (lv_at hl 1 rfl) ?_
    refine x_get (C := RX1) (T := TX1) (N := 7) (ci := 1) 0 inT_X1 rfl (by decide) lf_X1_9 rfl X hd.1 0 rfl rfl dX1_send_44 ?_
    refine lv_iload hx hb dX1_send_47 (lv_at hl 0 rfl) ?_
    refine lv_iconst (v := nI 2) hx hb dX1_send_49 (by decide) ?_
    refine n_add hx hb dX1_send_50  ?_
    refine lv_iload_n hx hb dX1_send_51 rfl (lv_at hl 3 rfl) ?_
    refine n_iast X hd 1 rfl (by omega) (by decide) dX1_send_52 (fun H locs hd => ?_)
    have hd : Hd G A s.heap [(h0, .inr (1, [.ref ht, .int (nI L.length), .int (nI rd), .int (nI ln), .int (nI lz), .ref qa, .ref qb])), (ht, .inl (cI, 864, .inl (upd (upd (upd tb ((L.length * 6) + 0) (nI rd)) ((L.length * 6) + 1) (nI s_)) ((L.length * 6) + 2) (nI r_))))] H locs := hd
    refine lv_aload_n hx hb dX1_send_53 rfl (lv_at hl 1 rfl) ?_
    refine x_get (C := RX1) (T := TX1) (N := 7) (ci := 1) 0 inT_X1 rfl (by decide) lf_X1_9 rfl X hd.1 0 rfl rfl dX1_send_54 ?_
    refine lv_iload hx hb dX1_send_57 (lv_at hl 0 rfl) ?_
    refine lv_iconst (v := nI 3) hx hb dX1_send_59 (by decide) ?_
    refine n_add hx hb dX1_send_60  ?_
    refine lv_iload_n hx hb dX1_send_61 rfl (lv_at hl 4 rfl) ?_
    refine n_iast X hd 1 rfl (by omega) (by decide) dX1_send_62 (fun H locs hd => ?_)
    have hd : Hd G A s.heap [(h0, .inr (1, [.ref ht, .int (nI L.length), .int (nI rd), .int (nI ln), .int (nI lz), .ref qa, .ref qb])), (ht, .inl (cI, 864, .inl (upd (upd (upd (upd tb ((L.length * 6) + 0) (nI rd)) ((L.length * 6) + 1) (nI s_)) ((L.length * 6) + 2) (nI r_)) ((L.length * 6) + 3) (nI f_))))] H locs := hd
    refine lv_aload_n hx hb dX1_send_63 rfl (lv_at hl 1 rfl) ?_
    refine x_get (C := RX1) (T := TX1) (N := 7) (ci := 1) 0 inT_X1 rfl (by decide) lf_X1_9 rfl X hd.1 0 rfl rfl dX1_send_64 ?_
    refine lv_iload hx hb dX1_send_67 (lv_at hl 0 rfl) ?_
    refine lv_iconst (v := nI 4) hx hb dX1_send_69 (by decide) ?_
    refine n_add hx hb dX1_send_70  ?_
    refine lv_iload hx hb dX1_send_71 (lv_at hl 5 rfl) ?_
    refine n_iast X hd 1 rfl (by omega) (by decide) dX1_send_73 (fun H locs hd => ?_)
    have hd : Hd G A s.heap [(h0, .inr (1, [.ref ht, .int (nI L.length), .int (nI rd), .int (nI ln), .int (nI lz), .ref qa, .ref qb])), (ht, .inl (cI, 864, .inl (upd (upd (upd (upd (upd tb ((L.length * 6) + 0) (nI rd)) ((L.length * 6) + 1) (nI s_)) ((L.length * 6) + 2) (nI r_)) ((L.length * 6) + 3) (nI f_)) ((L.length * 6) + 4) (nI l_))))] H locs := hd
    refine lv_aload_n hx hb dX1_send_74 rfl (lv_at hl 1 rfl) ?_
    refine x_get (C := RX1) (T := TX1) (N := 7) (ci := 1) 0 inT_X1 rfl (by decide) lf_X1_9 rfl X hd.1 0 rfl rfl dX1_send_75 ?_
    refine lv_iload hx hb dX1_send_78 (lv_at hl 0 rfl) ?_
    refine lv_iconst (v := nI 5) hx hb dX1_send_80 (by decide) ?_
    refine n_add hx hb dX1_send_81  ?_
    refine lv_iload hx hb dX1_send_82 (lv_at hl 6 rfl) ?_
    refine n_iast X hd 1 rfl (by omega) (by decide) dX1_send_84 (fun H locs hd => ?_)
    have hd : Hd G A s.heap [(h0, .inr (1, [.ref ht, .int (nI L.length), .int (nI rd), .int (nI ln), .int (nI lz), .ref qa, .ref qb])), (ht, .inl (cI, 864, .inl (upd (upd (upd (upd (upd (upd tb ((L.length * 6) + 0) (nI rd)) ((L.length * 6) + 1) (nI s_)) ((L.length * 6) + 2) (nI r_)) ((L.length * 6) + 3) (nI f_)) ((L.length * 6) + 4) (nI l_)) ((L.length * 6) + 5) (nI k_))))] H locs := hd
    refine lv_aload_n hx hb dX1_send_85 rfl (lv_at hl 1 rfl) ?_
    refine lv_dup hx hb dX1_send_86 rfl ?_
    refine x_get (C := RX1) (T := TX1) (N := 7) (ci := 1) 1 inT_X1 rfl (by decide) lf_X1_15 rfl X hd.1 0 rfl rfl dX1_send_87 ?_
    refine lv_iconst (v := nI 1) hx hb dX1_send_90 (by decide) ?_
    refine n_add hx hb dX1_send_91  ?_
    refine x_put (C := RX1) (T := TX1) (N := 7) (ci := 1) (ty := .int) 1 inT_X1 tyX1 tyX1_ok nmX1 rfl (by decide) lf_X1_15 rfl rfl (by decide +kernel) X hd 0 rfl rfl rfl (Nat.le_of_ble_eq_true rfl) dX1_send_92 (fun H locs hd => ?_)
    have hd : Hd G A s.heap [(h0, .inr (1, [.ref ht, .int (nI (L.length + 1)), .int (nI rd), .int (nI ln), .int (nI lz), .ref qa, .ref qb])), (ht, .inl (cI, 864, .inl (upd (upd (upd (upd (upd (upd tb ((L.length * 6) + 0) (nI rd)) ((L.length * 6) + 1) (nI s_)) ((L.length * 6) + 2) (nI r_)) ((L.length * 6) + 3) (nI f_)) ((L.length * 6) + 4) (nI l_)) ((L.length * 6) + 5) (nI k_))))] H locs := hd
    exact (fin _ _ [(h0, .inr (1, [.ref ht, .int (nI (L.length + 1)), .int (nI rd), .int (nI ln), .int (nI lz), .ref qa, .ref qb])), (ht, .inl (cI, 864, .inl (upd (upd (upd (upd (upd (upd tb ((L.length * 6) + 0) (nI rd)) ((L.length * 6) + 1) (nI s_)) ((L.length * 6) + 2) (nI r_)) ((L.length * 6) + 3) (nI f_)) ((L.length * 6) + 4) (nI l_)) ((L.length * 6) + 5) (nI k_))))] _ _ (hd.sub [0, 1] rfl rfl)).1 rfl ⟨(upd (upd (upd (upd (upd (upd tb ((L.length * 6) + 0) (nI rd)) ((L.length * 6) + 1) (nI s_)) ((L.length * 6) + 2) (nI r_)) ((L.length * 6) + 3) (nI f_)) ((L.length * 6) + 4) (nI l_)) ((L.length * 6) + 5) (nI k_)), rfl, by rw [List.length_append]; rfl, LTc_send htb _ _ _ _ _ _⟩ dX1_send_95
  · exfalso; omega

set_option maxHeartbeats 4000000 in
set_option maxRecDepth 100000 in
theorem c_X1_endRound (l : Launch) (G : va_G) (cI cZ : ClassId) (h0 : Nat) (ht : Nat) (qa : Nat) (qb : Nat) (rd : Nat) (ln : Nat) (lz : Nat) (wr_ : Nat) : CM l G cI cZ yX1_endRound cX1_endRound 1 none 0 0 0 0 [.ref h0] [(h0, .inr (1, [.ref ht, .int (nI wr_), .int (nI rd), .int (nI ln), .int (nI lz), .ref qa, .ref qb]))] (fun ov_ wv_ => ov_ = none ∧ wv_ = [(h0, .inr (1, [.ref ht, .int (nI wr_), .int (nI (rd + 1)), .int (nI ln), .int (nI lz), .ref qa, .ref qb]))]) := by
  refine CM.of (own := RX1) (by decide) rfl (Nat.le_of_ble_eq_true rfl) ?_
  intro p e R s m args below meth c Q A X hR hret hnm hA fin hd ls hl
  subst hR
  have hx := X.1
  have hb := X.2.1
  have hl : lv_has ls 1 [(0, .ref h0)] := hl
  refine lv_aload_n hx hb dX1_endRound_0 rfl (lv_at hl 0 rfl) ?_
  refine lv_dup hx hb dX1_endRound_1 rfl ?_
  refine x_get (C := RX1) (T := TX1) (N := 7) (ci := 1) 2 inT_X1 rfl (by decide) lf_X1_19 rfl X hd.1 0 rfl rfl dX1_endRound_2 ?_
  refine lv_iconst (v := nI 1) hx hb dX1_endRound_5 (by decide) ?_
  refine n_add hx hb dX1_endRound_6  ?_
  refine x_put (C := RX1) (T := TX1) (N := 7) (ci := 1) (ty := .int) 2 inT_X1 tyX1 tyX1_ok nmX1 rfl (by decide) lf_X1_19 rfl rfl (by decide +kernel) X hd 0 rfl rfl rfl (Nat.le_of_ble_eq_true rfl) dX1_endRound_7 (fun H locs hd => ?_)
  have hd : Hd G A s.heap [(h0, .inr (1, [.ref ht, .int (nI wr_), .int (nI (rd + 1)), .int (nI ln), .int (nI lz), .ref qa, .ref qb]))] H locs := hd
  exact (fin _ _ [(h0, .inr (1, [.ref ht, .int (nI wr_), .int (nI (rd + 1)), .int (nI ln), .int (nI lz), .ref qa, .ref qb]))] _ _ (hd.sub [0] rfl rfl)).1 rfl ⟨rfl, rfl⟩ dX1_endRound_10

set_option maxHeartbeats 4000000 in
set_option maxRecDepth 100000 in
theorem c_X1_sendWhole (l : Launch) (G : va_G) (cI cZ : ClassId) (h0 : Nat) (ht : Nat) (qa : Nat) (qb : Nat) (rd : Nat) (ln : Nat) (lz : Nat) (L : List (List Nat)) (tb : Nat → Int32) (s_ : Nat) (r_ : Nat) (k_ : Nat) (htb : LTc tb L) (hL : L.length < 144) : CM l G cI cZ yX1_sendWhole cX1_sendWhole 4 none 1 26 0 0 [.ref h0, .int (nI s_), .int (nI r_), .int (nI k_)] [(h0, .inr (1, [.ref ht, .int (nI L.length), .int (nI rd), .int (nI ln), .int (nI lz), .ref qa, .ref qb])), (ht, .inl (cI, 864, .inl tb))] (fun ov_ wv_ => ∃ tb2 : Nat → Int32, ov_ = none ∧ wv_ = [(h0, .inr (1, [.ref ht, .int (nI ((L ++ [[rd, s_, r_, 0, lz, k_]]).length)), .int (nI rd), .int (nI ln), .int (nI lz), .ref qa, .ref qb])), (ht, .inl (cI, 864, .inl tb2))] ∧ (LTc tb2 (L ++ [[rd, s_, r_, 0, lz, k_]]))) := by
  refine CM.of (own := RX1) (by decide) rfl (Nat.le_of_ble_eq_true rfl) ?_
  intro p e R s m args below meth c Q A X hR hret hnm hA fin hd ls hl
  subst hR
  have hx := X.1
  have hb := X.2.1
  have hl : lv_has ls 4 [(0, .ref h0), (1, .int (nI s_)), (2, .int (nI r_)), (3, .int (nI k_))] := hl
  refine lv_aload_n hx hb dX1_sendWhole_0 rfl (lv_at hl 0 rfl) ?_
  refine lv_iload_n hx hb dX1_sendWhole_1 rfl (lv_at hl 1 rfl) ?_
  refine lv_iload_n hx hb dX1_sendWhole_2 rfl (lv_at hl 2 rfl) ?_
  refine lv_iconst (v := nI 0) hx hb dX1_sendWhole_3 (by decide) ?_
  refine lv_aload_n hx hb dX1_sendWhole_4 rfl (lv_at hl 0 rfl) ?_
  refine x_get (C := RX1) (T := TX1) (N := 7) (ci := 1) 4 inT_X1 rfl (by decide) lf_X1_25 rfl X hd.1 0 rfl rfl dX1_sendWhole_5 ?_
  refine lv_iload_n hx hb dX1_sendWhole_8 rfl (lv_at hl 3 rfl) ?_
  refine cM_V (As := [.int (nI s_), .int (nI r_), .int (nI 0), .int (nI lz), .int (nI k_)]) (rest := []) (wr := []) X (c_X1_send l G cI cZ h0 ht qa qb rd ln lz L tb s_ r_ 0 lz k_ (by first | assumption | omega) (by first | assumption | omega)) lk_X1_63 hd hA [0, 1] [] rfl rfl rfl rfl (by decide) rfl rfl hl.1 rfl rfl (Nat.le_of_ble_eq_true rfl) ⟨Nat.le_of_ble_eq_true rfl, Nat.le_of_ble_eq_true rfl⟩ ⟨Nat.le_of_ble_eq_true rfl, Nat.le_of_ble_eq_true rfl⟩ dX1_sendWhole_9 (fun v w1 H locs hp hd => ?_)
  obtain ⟨tb9, rfl, rfl, hT9⟩ := hp
  have hd : Hd G A s.heap [(h0, .inr (1, [.ref ht, .int (nI ((L ++ [[rd, s_, r_, 0, lz, k_]]).length)), .int (nI rd), .int (nI ln), .int (nI lz), .ref qa, .ref qb])), (ht, .inl (cI, 864, .inl tb9))] H locs := hd
  refine st_all (st' := []) rfl ?_
  exact (fin _ _ [(h0, .inr (1, [.ref ht, .int (nI ((L ++ [[rd, s_, r_, 0, lz, k_]]).length)), .int (nI rd), .int (nI ln), .int (nI lz), .ref qa, .ref qb])), (ht, .inl (cI, 864, .inl tb9))] _ _ (hd.sub [0, 1] rfl rfl)).1 rfl ⟨tb9, rfl, rfl, hT9⟩ dX1_sendWhole_12

set_option maxHeartbeats 4000000 in
set_option maxRecDepth 100000 in
theorem c_X1_sendPart (l : Launch) (G : va_G) (cI cZ : ClassId) (h0 : Nat) (ht : Nat) (qa : Nat) (qb : Nat) (rd : Nat) (ln : Nat) (lz : Nat) (L : List (List Nat)) (tb : Nat → Int32) (m_ : Nat) (q_ : Nat) (k_ : Nat) (htb : LTc tb L) (hL : L.length < 144) (hn : 1 ≤ ln) (hn9 : ln ≤ 9) (hz : lz ≤ 99) (hm : m_ < ln) (hq : q_ < ln) : CM l G cI cZ yX1_sendPart cX1_sendPart 5 none 1 26 0 0 [.ref h0, .int (nI m_), .int (nI q_), .int (nI k_)] [(h0, .inr (1, [.ref ht, .int (nI L.length), .int (nI rd), .int (nI ln), .int (nI lz), .ref qa, .ref qb])), (ht, .inl (cI, 864, .inl tb))] (fun ov_ wv_ => ∃ tb2 : Nat → Int32, ov_ = none ∧ wv_ = [(h0, .inr (1, [.ref ht, .int (nI ((L ++ [pF ln lz rd m_ q_ k_]).length)), .int (nI rd), .int (nI ln), .int (nI lz), .ref qa, .ref qb])), (ht, .inl (cI, 864, .inl tb2))] ∧ (LTc tb2 (L ++ [pF ln lz rd m_ q_ k_]))) := by
  refine CM.of (own := RX1) (by decide) rfl (Nat.le_of_ble_eq_true rfl) ?_
  intro p e R s m args below meth c Q A X hR hret hnm hA fin hd ls hl
  subst hR
  have hx := X.1
  have hb := X.2.1
  have hl : lv_has ls 5 [(0, .ref h0), (1, .int (nI m_)), (2, .int (nI q_)), (3, .int (nI k_))] := hl
  refine lv_aload_n hx hb dX1_sendPart_0 rfl (lv_at hl 0 rfl) ?_
  refine lv_iload_n hx hb dX1_sendPart_1 rfl (lv_at hl 2 rfl) ?_
  refine cR_V (As := [.int (nI q_)]) (rest := []) X (c_X1_partStart l G cI cZ h0 ht qa qb rd ln lz L q_ (by first | assumption | omega) (by first | assumption | omega) (by first | assumption | omega) (by first | assumption | omega)) lk_X1_78 (hd.1.sub (ws' := [(h0, .inr (1, [.ref ht, .int (nI L.length), .int (nI rd), .int (nI ln), .int (nI lz), .ref qa, .ref qb]))]) [0] rfl) rfl rfl hl.1 rfl rfl (Nat.le_of_ble_eq_true rfl) ⟨Nat.le_of_ble_eq_true rfl, Nat.le_of_ble_eq_true rfl⟩ ⟨Nat.le_of_ble_eq_true rfl, Nat.le_of_ble_eq_true rfl⟩ dX1_sendPart_2 ?_
  refine lv_istore (lv' := [(4, .int (nI (lz * q_ / ln))), (0, .ref h0), (1, .int (nI m_)), (2, .int (nI q_)), (3, .int (nI k_))]) hx hb dX1_sendPart_5 hl (by decide) rfl (fun ls hl => ?_)
  refine lv_aload_n hx hb dX1_sendPart_7 rfl (lv_at hl 1 rfl) ?_
  refine lv_iload_n hx hb dX1_sendPart_8 rfl (lv_at hl 2 rfl) ?_
  refine lv_aload_n hx hb dX1_sendPart_9 rfl (lv_at hl 1 rfl) ?_
  refine lv_iload_n hx hb dX1_sendPart_10 rfl (lv_at hl 2 rfl) ?_
  refine lv_iconst (v := nI 1) hx hb dX1_sendPart_11 (by decide) ?_
  refine n_add hx hb dX1_sendPart_12  ?_
  refine st_eq (show (nI (m_ + 1) : Int32) = nI (m_ + 1) - nI 0 from by rw [pk_sub (Nat.zero_le _)]; rfl) ?_
  refine cR_V (As := [.int (nI (m_ + 1) - nI 0)]) (rest := [.int (nI m_), .ref h0]) X (c_X1_aroundTheRing l G cI cZ h0 ht qa qb rd ln lz L (m_ + 1) 0 (by first | assumption | omega) (by first | assumption | omega) (by first | assumption | omega)) lk_X1_67 (hd.1.sub (ws' := [(h0, .inr (1, [.ref ht, .int (nI L.length), .int (nI rd), .int (nI ln), .int (nI lz), .ref qa, .ref qb]))]) [0] rfl) rfl rfl hl.1 rfl rfl (Nat.le_of_ble_eq_true rfl) ⟨Nat.le_of_ble_eq_true rfl, Nat.le_of_ble_eq_true rfl⟩ ⟨Nat.le_of_ble_eq_true rfl, Nat.le_of_ble_eq_true rfl⟩ dX1_sendPart_13 ?_
  refine lv_iload hx hb dX1_sendPart_16 (lv_at hl 0 rfl) ?_
  refine lv_aload_n hx hb dX1_sendPart_18 rfl (lv_at hl 1 rfl) ?_
  refine lv_iload_n hx hb dX1_sendPart_19 rfl (lv_at hl 3 rfl) ?_
  refine lv_iconst (v := nI 1) hx hb dX1_sendPart_20 (by decide) ?_
  refine n_add hx hb dX1_sendPart_21  ?_
  refine cR_V (As := [.int (nI (q_ + 1))]) (rest := [.int (nI (lz * q_ / ln)), .int (nI (((m_ + 1) + ln - 0) % ln)), .int (nI m_), .ref h0]) X (c_X1_partStart l G cI cZ h0 ht qa qb rd ln lz L (q_ + 1) (by first | assumption | omega) (by first | assumption | omega) (by first | assumption | omega) (by first | assumption | omega)) lk_X1_78 (hd.1.sub (ws' := [(h0, .inr (1, [.ref ht, .int (nI L.length), .int (nI rd), .int (nI ln), .int (nI lz), .ref qa, .ref qb]))]) [0] rfl) rfl rfl hl.1 rfl rfl (Nat.le_of_ble_eq_true rfl) ⟨Nat.le_of_ble_eq_true rfl, Nat.le_of_ble_eq_true rfl⟩ ⟨Nat.le_of_ble_eq_true rfl, Nat.le_of_ble_eq_true rfl⟩ dX1_sendPart_22 ?_
  refine lv_iload hx hb dX1_sendPart_25 (lv_at hl 0 rfl) ?_
  refine n_sub hx hb dX1_sendPart_27 (Nat.div_le_div_right (Nat.mul_le_mul_left _ (Nat.le_succ _))) ?_
  refine lv_iload_n hx hb dX1_sendPart_28 rfl (lv_at hl 4 rfl) ?_
  refine cM_V (As := [.int (nI m_), .int (nI (((m_ + 1) + ln - 0) % ln)), .int (nI (lz * q_ / ln)), .int (nI ((lz * (q_ + 1) / ln) - (lz * q_ / ln))), .int (nI k_)]) (rest := []) (wr := []) X (c_X1_send l G cI cZ h0 ht qa qb rd ln lz L tb m_ (((m_ + 1) + ln - 0) % ln) (lz * q_ / ln) ((lz * (q_ + 1) / ln) - (lz * q_ / ln)) k_ (by first | assumption | omega) (by first | assumption | omega)) lk_X1_63 hd hA [0, 1] [] rfl rfl rfl rfl (by decide) rfl rfl hl.1 rfl rfl (Nat.le_of_ble_eq_true rfl) ⟨Nat.le_of_ble_eq_true rfl, Nat.le_of_ble_eq_true rfl⟩ ⟨Nat.le_of_ble_eq_true rfl, Nat.le_of_ble_eq_true rfl⟩ dX1_sendPart_29 (fun v w1 H locs hp hd => ?_)
  obtain ⟨tb9, rfl, rfl, hT9⟩ := hp
  have hd : Hd G A s.heap [(h0, .inr (1, [.ref ht, .int (nI ((L ++ [[rd, m_, (((m_ + 1) + ln - 0) % ln), (lz * q_ / ln), ((lz * (q_ + 1) / ln) - (lz * q_ / ln)), k_]]).length)), .int (nI rd), .int (nI ln), .int (nI lz), .ref qa, .ref qb])), (ht, .inl (cI, 864, .inl tb9))] H locs := hd
  refine st_all (st' := []) rfl ?_
  exact (fin _ _ [(h0, .inr (1, [.ref ht, .int (nI ((L ++ [[rd, m_, (((m_ + 1) + ln - 0) % ln), (lz * q_ / ln), ((lz * (q_ + 1) / ln) - (lz * q_ / ln)), k_]]).length)), .int (nI rd), .int (nI ln), .int (nI lz), .ref qa, .ref qb])), (ht, .inl (cI, 864, .inl tb9))] _ _ (hd.sub [0, 1] rfl rfl)).1 rfl ⟨tb9, rfl, by rfl, hT9⟩ dX1_sendPart_32

set_option maxHeartbeats 4000000 in
set_option maxRecDepth 100000 in
theorem c_X1_writeEach (l : Launch) (G : va_G) (cI cZ : ClassId) (h0 : Nat) (ht : Nat) (qa : Nat) (qb : Nat) (ln : Nat) (lz : Nat) (tb0 : Nat → Int32) (hn : 2 ≤ ln) (hn9 : ln ≤ 9) (hz : lz ≤ 99) : CM l G cI cZ yX1_writeEach cX1_writeEach 2 none 2 49 0 0 [.ref h0] [(h0, .inr (1, [.ref ht, .int (nI 0), .int (nI 0), .int (nI ln), .int (nI lz), .ref qa, .ref qb])), (ht, .inl (cI, 864, .inl tb0))] (fun ov_ wv_ => ∃ tb2 : Nat → Int32, ov_ = none ∧ wv_ = [(h0, .inr (1, [.ref ht, .int (nI ((LEach ln lz).length)), .int (nI 2), .int (nI ln), .int (nI lz), .ref qa, .ref qb])), (ht, .inl (cI, 864, .inl tb2))] ∧ (LTc tb2 (LEach ln lz))) := by
  refine CM.of (own := RX1) (by decide) rfl (Nat.le_of_ble_eq_true rfl) ?_
  intro p e R s m args below meth c Q A X hR hret hnm hA fin hd ls hl
  subst hR
  have hx := X.1
  have hb := X.2.1
  have hl : lv_has ls 2 [(0, .ref h0)] := hl
  refine lv_iconst (v := nI 1) hx hb dX1_writeEach_0 (by decide) ?_
  refine lv_istore_n (lv' := [(1, .int (nI 1)), (0, .ref h0)]) hx hb dX1_writeEach_1 rfl hl (by decide) rfl (fun ls hl => ?_)
  have LP2 : ∀ (fu : Nat) (i : Nat) (tb : Nat → Int32), (i + 1 ≤ ln) → (LTc tb (bld [] (eF1 lz) i)) → (ln - i) < fu → ∀ (H : Heap) (locs : List Loc), Hd G A s.heap [(h0, .inr (1, [.ref ht, .int (nI ((bld [] (eF1 lz) i).length)), .int (nI 0), .int (nI ln), .int (nI lz), .ref qa, .ref qb])), (ht, .inl (cI, 864, .inl tb))] H locs → ∀ (ls : Array Slot), lv_has ls 2 [(0, .ref h0), (1, .int (nI (i + 1)))] → W p l e ({ frames := 2, cells := 0, slots := 0, locals := 49 } : Room) s m args below meth c H locs 0 0 Q (F0 m 2 ls []) := by
    intro fu
    induction fu with
    | zero =>
      intro i tb hi htb hfu
      exact absurd hfu (Nat.not_lt_zero _)
    | succ fu ih2 =>
      intro i tb hi htb hfu H locs hd ls hl
      refine lv_iload_n hx hb dX1_writeEach_2 rfl (lv_at hl 1 rfl) ?_
      refine lv_aload_n hx hb dX1_writeEach_3 rfl (lv_at hl 0 rfl) ?_
      refine x_get (C := RX1) (T := TX1) (N := 7) (ci := 1) 3 inT_X1 rfl (by decide) lf_X1_22 rfl X hd.1 0 rfl rfl dX1_writeEach_4 ?_
      refine n_icmp_ge (tgt := 23) hx hb dX1_writeEach_7 (by decide) (by omega) (by omega) (fun c_7 => ?_) (fun c_7 => ?_)
      · refine lv_aload_n hx hb dX1_writeEach_23 rfl (lv_at hl 0 rfl) ?_
        refine cM_V (As := []) (rest := []) (wr := [(ht, .inl (cI, 864, .inl tb))]) X (c_X1_endRound l G cI cZ h0 ht qa qb 0 ln lz ((bld [] (eF1 lz) i).length) ) lk_X1_75 hd hA [0] [1] rfl rfl rfl rfl (by decide) rfl rfl hl.1 rfl rfl (Nat.le_of_ble_eq_true rfl) ⟨Nat.le_of_ble_eq_true rfl, Nat.le_of_ble_eq_true rfl⟩ ⟨Nat.le_of_ble_eq_true rfl, Nat.le_of_ble_eq_true rfl⟩ dX1_writeEach_24 (fun v w1 H locs hp hd => ?_)
        obtain ⟨rfl, rfl⟩ := hp
        have hd : Hd G A s.heap [(ht, .inl (cI, 864, .inl tb)), (h0, .inr (1, [.ref ht, .int (nI ((bld [] (eF1 lz) i).length)), .int (nI (0 + 1)), .int (nI ln), .int (nI lz), .ref qa, .ref qb]))] H locs := hd
        refine st_all (st' := []) rfl ?_
        refine lv_iconst (v := nI 1) hx hb dX1_writeEach_27 (by decide) ?_
        refine lv_istore_n (lv' := [(1, .int (nI 1)), (0, .ref h0)]) hx hb dX1_writeEach_28 rfl hl (by decide) rfl (fun ls hl => ?_)
        have LP29 : ∀ (fu : Nat) (i : Nat) (tb : Nat → Int32), (i + 1 ≤ ln) → (LTc tb (bld (bld [] (eF1 lz) (ln - 1)) (eF2 lz) i)) → (ln - i) < fu → ∀ (H : Heap) (locs : List Loc), Hd G A s.heap [(ht, .inl (cI, 864, .inl tb)), (h0, .inr (1, [.ref ht, .int (nI ((bld (bld [] (eF1 lz) (ln - 1)) (eF2 lz) i).length)), .int (nI (0 + 1)), .int (nI ln), .int (nI lz), .ref qa, .ref qb]))] H locs → ∀ (ls : Array Slot), lv_has ls 2 [(0, .ref h0), (1, .int (nI (i + 1)))] → W p l e ({ frames := 2, cells := 0, slots := 0, locals := 49 } : Room) s m args below meth c H locs 0 0 Q (F0 m 29 ls []) := by
          intro fu
          induction fu with
          | zero =>
            intro i tb hi htb hfu
            exact absurd hfu (Nat.not_lt_zero _)
          | succ fu ih29 =>
            intro i tb hi htb hfu H locs hd ls hl
            refine lv_iload_n hx hb dX1_writeEach_29 rfl (lv_at hl 1 rfl) ?_
            refine lv_aload_n hx hb dX1_writeEach_30 rfl (lv_at hl 0 rfl) ?_
            refine x_get (C := RX1) (T := TX1) (N := 7) (ci := 1) 3 inT_X1 rfl (by decide) lf_X1_22 rfl X hd.1 1 rfl rfl dX1_writeEach_31 ?_
            refine n_icmp_ge (tgt := 50) hx hb dX1_writeEach_34 (by decide) (by omega) (by omega) (fun c_34 => ?_) (fun c_34 => ?_)
            · refine lv_aload_n hx hb dX1_writeEach_50 rfl (lv_at hl 0 rfl) ?_
              refine cM_V (As := []) (rest := []) (wr := [(ht, .inl (cI, 864, .inl tb))]) X (c_X1_endRound l G cI cZ h0 ht qa qb (0 + 1) ln lz ((bld (bld [] (eF1 lz) (ln - 1)) (eF2 lz) i).length) ) lk_X1_75 hd hA [1] [0] rfl rfl rfl rfl (by decide) rfl rfl hl.1 rfl rfl (Nat.le_of_ble_eq_true rfl) ⟨Nat.le_of_ble_eq_true rfl, Nat.le_of_ble_eq_true rfl⟩ ⟨Nat.le_of_ble_eq_true rfl, Nat.le_of_ble_eq_true rfl⟩ dX1_writeEach_51 (fun v w1 H locs hp hd => ?_)
              obtain ⟨rfl, rfl⟩ := hp
              have hd : Hd G A s.heap [(ht, .inl (cI, 864, .inl tb)), (h0, .inr (1, [.ref ht, .int (nI ((bld (bld [] (eF1 lz) (ln - 1)) (eF2 lz) i).length)), .int (nI ((0 + 1) + 1)), .int (nI ln), .int (nI lz), .ref qa, .ref qb]))] H locs := hd
              refine st_all (st' := []) rfl ?_
              exact (fin _ _ [(h0, .inr (1, [.ref ht, .int (nI ((bld (bld [] (eF1 lz) (ln - 1)) (eF2 lz) i).length)), .int (nI ((0 + 1) + 1)), .int (nI ln), .int (nI lz), .ref qa, .ref qb])), (ht, .inl (cI, 864, .inl tb))] _ _ (hd.sub [1, 0] rfl rfl)).1 rfl ⟨tb, rfl, by rw [LEach, show ln - 1 = i by omega], (by rw [LEach, show ln - 1 = i by omega] ; rw [show ln - 1 = i by omega] at htb; exact htb)⟩ dX1_writeEach_54
            · refine lv_aload_n hx hb dX1_writeEach_37 rfl (lv_at hl 0 rfl) ?_
              refine lv_iconst (v := nI 0) hx hb dX1_writeEach_38 (by decide) ?_
              refine lv_iload_n hx hb dX1_writeEach_39 rfl (lv_at hl 1 rfl) ?_
              refine lv_iconst (v := nI 2) hx hb dX1_writeEach_40 (by decide) ?_
              refine cM_V (As := [.int (nI 0), .int (nI (i + 1)), .int (nI 2)]) (rest := []) (wr := []) X (c_X1_sendWhole l G cI cZ h0 ht qa qb (0 + 1) ln lz (bld (bld [] (eF1 lz) (ln - 1)) (eF2 lz) i) tb 0 (i + 1) 2 (by first | assumption | omega) (by rw [bld_len, bld_len]; show 0 + (ln - 1) + i < 144; omega)) lk_X1_85 hd hA [1, 0] [] rfl rfl rfl rfl (by decide) rfl rfl hl.1 rfl rfl (Nat.le_of_ble_eq_true rfl) ⟨Nat.le_of_ble_eq_true rfl, Nat.le_of_ble_eq_true rfl⟩ ⟨Nat.le_of_ble_eq_true rfl, Nat.le_of_ble_eq_true rfl⟩ dX1_writeEach_41 (fun v w1 H locs hp hd => ?_)
              obtain ⟨tb41, rfl, rfl, hT41⟩ := hp
              have hd : Hd G A s.heap [(h0, .inr (1, [.ref ht, .int (nI (((bld (bld [] (eF1 lz) (ln - 1)) (eF2 lz) i) ++ [[(0 + 1), 0, (i + 1), 0, lz, 2]]).length)), .int (nI (0 + 1)), .int (nI ln), .int (nI lz), .ref qa, .ref qb])), (ht, .inl (cI, 864, .inl tb41))] H locs := hd
              refine st_all (st' := []) rfl ?_
              rw [show ((bld (bld [] (eF1 lz) (ln - 1)) (eF2 lz) i) ++ [[(0 + 1), 0, (i + 1), 0, lz, 2]]) = bld (bld [] (eF1 lz) (ln - 1)) (eF2 lz) (i + 1) from rfl] at hd hT41
              have hd : Hd G A s.heap [(h0, .inr (1, [.ref ht, .int (nI ((bld (bld [] (eF1 lz) (ln - 1)) (eF2 lz) (i + 1)).length)), .int (nI (0 + 1)), .int (nI ln), .int (nI lz), .ref qa, .ref qb])), (ht, .inl (cI, 864, .inl tb41))] H locs := hd
              refine lv_iinc (v := nI (i + 1 + 1)) (lv' := [(1, .int (nI (i + 1 + 1))), (0, .ref h0)]) hx hb dX1_writeEach_44 hl (k := 1) rfl (nI_1 _) (by decide) rfl (fun ls hl => ?_)
              refine lv_goto (tgt := 29) hx hb dX1_writeEach_47 (by decide) ?_
              have hl : lv_has ls 2 [(1, .int (nI ((i + 1) + 1))), (0, .ref h0)] := lv_rep hl (congrArg (fun z_ : Int32 => ([(1, .int z_), (0, .ref h0)] : List (Nat × Value))) (show (nI (i + 1 + 1) : Int32) = nI ((i + 1) + 1) from rfl))
              exact ih29  (i + 1) tb41 (by omega) hT41 (by omega) _ _ (hd.sub [1, 0] rfl rfl) _ (lv_sub hl [1, 0] rfl)
        have hl : lv_has ls 2 [(1, .int (nI (0 + 1))), (0, .ref h0)] := lv_rep hl (congrArg (fun z_ : Int32 => ([(1, .int z_), (0, .ref h0)] : List (Nat × Value))) (show (nI 1 : Int32) = nI (0 + 1) from rfl))
        have hd : Hd G A s.heap [(ht, .inl (cI, 864, .inl tb)), (h0, .inr (1, [.ref ht, .int (nI ((bld (bld [] (eF1 lz) (ln - 1)) (eF2 lz) 0).length)), .int (nI (0 + 1)), .int (nI ln), .int (nI lz), .ref qa, .ref qb]))] H locs := hd.cong (congrArg (fun z_ : Int32 => ([(ht, .inl (cI, 864, .inl tb)), (h0, .inr (1, [.ref ht, .int z_, .int (nI (0 + 1)), .int (nI ln), .int (nI lz), .ref qa, .ref qb]))] : va_W)) (show (nI ((bld [] (eF1 lz) i).length) : Int32) = nI ((bld (bld [] (eF1 lz) (ln - 1)) (eF2 lz) 0).length) from by rw [show ln - 1 = i by omega]; rfl))
        exact LP29 ((ln - 0) + 1) 0 tb (by omega) (by rw [show ln - 1 = i by omega]; exact htb) (Nat.lt_succ_self _) _ _ (hd.sub [0, 1] rfl rfl) _ (lv_sub hl [1, 0] rfl)
      · refine lv_aload_n hx hb dX1_writeEach_10 rfl (lv_at hl 0 rfl) ?_
        refine lv_iload_n hx hb dX1_writeEach_11 rfl (lv_at hl 1 rfl) ?_
        refine lv_iconst (v := nI 0) hx hb dX1_writeEach_12 (by decide) ?_
        refine lv_iconst (v := nI 0) hx hb dX1_writeEach_13 (by decide) ?_
        refine cM_V (As := [.int (nI (i + 1)), .int (nI 0), .int (nI 0)]) (rest := []) (wr := []) X (c_X1_sendWhole l G cI cZ h0 ht qa qb 0 ln lz (bld [] (eF1 lz) i) tb (i + 1) 0 0 (by first | assumption | omega) (by rw [bld_len]; show 0 + i < 144; omega)) lk_X1_85 hd hA [0, 1] [] rfl rfl rfl rfl (by decide) rfl rfl hl.1 rfl rfl (Nat.le_of_ble_eq_true rfl) ⟨Nat.le_of_ble_eq_true rfl, Nat.le_of_ble_eq_true rfl⟩ ⟨Nat.le_of_ble_eq_true rfl, Nat.le_of_ble_eq_true rfl⟩ dX1_writeEach_14 (fun v w1 H locs hp hd => ?_)
        obtain ⟨tb14, rfl, rfl, hT14⟩ := hp
        have hd : Hd G A s.heap [(h0, .inr (1, [.ref ht, .int (nI (((bld [] (eF1 lz) i) ++ [[0, (i + 1), 0, 0, lz, 0]]).length)), .int (nI 0), .int (nI ln), .int (nI lz), .ref qa, .ref qb])), (ht, .inl (cI, 864, .inl tb14))] H locs := hd
        refine st_all (st' := []) rfl ?_
        rw [show ((bld [] (eF1 lz) i) ++ [[0, (i + 1), 0, 0, lz, 0]]) = bld [] (eF1 lz) (i + 1) from rfl] at hd hT14
        have hd : Hd G A s.heap [(h0, .inr (1, [.ref ht, .int (nI ((bld [] (eF1 lz) (i + 1)).length)), .int (nI 0), .int (nI ln), .int (nI lz), .ref qa, .ref qb])), (ht, .inl (cI, 864, .inl tb14))] H locs := hd
        refine lv_iinc (v := nI (i + 1 + 1)) (lv' := [(1, .int (nI (i + 1 + 1))), (0, .ref h0)]) hx hb dX1_writeEach_17 hl (k := 1) rfl (nI_1 _) (by decide) rfl (fun ls hl => ?_)
        refine lv_goto (tgt := 2) hx hb dX1_writeEach_20 (by decide) ?_
        have hl : lv_has ls 2 [(1, .int (nI ((i + 1) + 1))), (0, .ref h0)] := lv_rep hl (congrArg (fun z_ : Int32 => ([(1, .int z_), (0, .ref h0)] : List (Nat × Value))) (show (nI (i + 1 + 1) : Int32) = nI ((i + 1) + 1) from rfl))
        exact ih2  (i + 1) tb14 (by omega) hT14 (by omega) _ _ (hd.sub [0, 1] rfl rfl) _ (lv_sub hl [1, 0] rfl)
  have hl : lv_has ls 2 [(1, .int (nI (0 + 1))), (0, .ref h0)] := lv_rep hl (congrArg (fun z_ : Int32 => ([(1, .int z_), (0, .ref h0)] : List (Nat × Value))) (show (nI 1 : Int32) = nI (0 + 1) from rfl))
  have hd : Hd G A s.heap [(h0, .inr (1, [.ref ht, .int (nI ((bld [] (eF1 lz) 0).length)), .int (nI 0), .int (nI ln), .int (nI lz), .ref qa, .ref qb])), (ht, .inl (cI, 864, .inl tb0))] s.heap [] := hd.cong (congrArg (fun z_ : Int32 => ([(h0, .inr (1, [.ref ht, .int z_, .int (nI 0), .int (nI ln), .int (nI lz), .ref qa, .ref qb])), (ht, .inl (cI, 864, .inl tb0))] : va_W)) (show (nI 0 : Int32) = nI ((bld [] (eF1 lz) 0).length) from rfl))
  exact LP2 ((ln - 0) + 1) 0 tb0 (by omega) (LTc_0 _) (Nat.lt_succ_self _) _ _ (hd.sub [0, 1] rfl rfl) _ (lv_sub hl [1, 0] rfl)

set_option maxHeartbeats 4000000 in
set_option maxRecDepth 100000 in
theorem c_X1_writeRing (l : Launch) (G : va_G) (cI cZ : ClassId) (h0 : Nat) (ht : Nat) (qa : Nat) (qb : Nat) (ln : Nat) (lz : Nat) (tb0 : Nat → Int32) (hn : 2 ≤ ln) (hn9 : ln ≤ 9) (hz : lz ≤ 99) : CM l G cI cZ yX1_writeRing cX1_writeRing 3 none 2 50 0 0 [.ref h0] [(h0, .inr (1, [.ref ht, .int (nI 0), .int (nI 0), .int (nI ln), .int (nI lz), .ref qa, .ref qb])), (ht, .inl (cI, 864, .inl tb0))] (fun ov_ wv_ => ∃ tb2 : Nat → Int32, ov_ = none ∧ wv_ = [(h0, .inr (1, [.ref ht, .int (nI ((LRing ln lz).length)), .int (nI (ln - 1 + (ln - 1))), .int (nI ln), .int (nI lz), .ref qa, .ref qb])), (ht, .inl (cI, 864, .inl tb2))] ∧ (LTc tb2 (LRing ln lz))) := by
  refine CM.of (own := RX1) (by decide) rfl (Nat.le_of_ble_eq_true rfl) ?_
  intro p e R s m args below meth c Q A X hR hret hnm hA fin hd ls hl
  subst hR
  have hx := X.1
  have hb := X.2.1
  have hl : lv_has ls 3 [(0, .ref h0)] := hl
  refine lv_iconst (v := nI 0) hx hb dX1_writeRing_0 (by decide) ?_
  refine lv_istore_n (lv' := [(1, .int (nI 0)), (0, .ref h0)]) hx hb dX1_writeRing_1 rfl hl (by decide) rfl (fun ls hl => ?_)
  have LP2 : ∀ (fu : Nat) (r : Nat) (tb : Nat → Int32), (r ≤ ln - 1) → (LTc tb (bld2 [] (gF1 ln lz) ln r)) → (ln - r) < fu → ∀ (H : Heap) (locs : List Loc), Hd G A s.heap [(h0, .inr (1, [.ref ht, .int (nI ((bld2 [] (gF1 ln lz) ln r).length)), .int (nI r), .int (nI ln), .int (nI lz), .ref qa, .ref qb])), (ht, .inl (cI, 864, .inl tb))] H locs → ∀ (ls : Array Slot), lv_has ls 3 [(0, .ref h0), (1, .int (nI r))] → W p l e ({ frames := 2, cells := 0, slots := 0, locals := 50 } : Room) s m args below meth c H locs 0 0 Q (F0 m 2 ls []) := by
    intro fu
    induction fu with
    | zero =>
      intro r tb hr htb hfu
      exact absurd hfu (Nat.not_lt_zero _)
    | succ fu ih2 =>
      intro r tb hr htb hfu H locs hd ls hl
      refine lv_iload_n hx hb dX1_writeRing_2 rfl (lv_at hl 1 rfl) ?_
      refine lv_aload_n hx hb dX1_writeRing_3 rfl (lv_at hl 0 rfl) ?_
      refine x_get (C := RX1) (T := TX1) (N := 7) (ci := 1) 3 inT_X1 rfl (by decide) lf_X1_22 rfl X hd.1 0 rfl rfl dX1_writeRing_4 ?_
      refine lv_iconst (v := nI 1) hx hb dX1_writeRing_7 (by decide) ?_
      refine n_sub hx hb dX1_writeRing_8 (by omega) ?_
      refine n_icmp_ge (tgt := 51) hx hb dX1_writeRing_9 (by decide) (by omega) (by omega) (fun c_9 => ?_) (fun c_9 => ?_)
      · refine lv_iconst (v := nI 0) hx hb dX1_writeRing_51 (by decide) ?_
        refine lv_istore_n (lv' := [(1, .int (nI 0)), (0, .ref h0)]) hx hb dX1_writeRing_52 rfl hl (by decide) rfl (fun ls hl => ?_)
        have LP53 : ∀ (fu : Nat) (r : Nat) (tb : Nat → Int32), (r ≤ ln - 1) → (LTc tb (bld2 (bld2 [] (gF1 ln lz) ln (ln - 1)) (gF2 ln lz) ln r)) → (ln - r) < fu → ∀ (H : Heap) (locs : List Loc), Hd G A s.heap [(h0, .inr (1, [.ref ht, .int (nI ((bld2 (bld2 [] (gF1 ln lz) ln (ln - 1)) (gF2 ln lz) ln r).length)), .int (nI (ln - 1 + r)), .int (nI ln), .int (nI lz), .ref qa, .ref qb])), (ht, .inl (cI, 864, .inl tb))] H locs → ∀ (ls : Array Slot), lv_has ls 3 [(0, .ref h0), (1, .int (nI r))] → W p l e ({ frames := 2, cells := 0, slots := 0, locals := 50 } : Room) s m args below meth c H locs 0 0 Q (F0 m 53 ls []) := by
          intro fu
          induction fu with
          | zero =>
            intro r tb hr htb hfu
            exact absurd hfu (Nat.not_lt_zero _)
          | succ fu ih53 =>
            intro r tb hr htb hfu H locs hd ls hl
            refine lv_iload_n hx hb dX1_writeRing_53 rfl (lv_at hl 1 rfl) ?_
            refine lv_aload_n hx hb dX1_writeRing_54 rfl (lv_at hl 0 rfl) ?_
            refine x_get (C := RX1) (T := TX1) (N := 7) (ci := 1) 3 inT_X1 rfl (by decide) lf_X1_22 rfl X hd.1 0 rfl rfl dX1_writeRing_55 ?_
            refine lv_iconst (v := nI 1) hx hb dX1_writeRing_58 (by decide) ?_
            refine n_sub hx hb dX1_writeRing_59 (by omega) ?_
            refine n_icmp_ge (tgt := 104) hx hb dX1_writeRing_60 (by decide) (by omega) (by omega) (fun c_60 => ?_) (fun c_60 => ?_)
            · exact (fin _ _ [(h0, .inr (1, [.ref ht, .int (nI ((bld2 (bld2 [] (gF1 ln lz) ln (ln - 1)) (gF2 ln lz) ln r).length)), .int (nI (ln - 1 + r)), .int (nI ln), .int (nI lz), .ref qa, .ref qb])), (ht, .inl (cI, 864, .inl tb))] _ _ (hd.sub [0, 1] rfl rfl)).1 rfl ⟨tb, rfl, by rw [LRing, show r = ln - 1 by omega], (by rw [LRing]; rw [show r = ln - 1 by omega] at htb; exact htb)⟩ dX1_writeRing_104
            · refine lv_iconst (v := nI 0) hx hb dX1_writeRing_63 (by decide) ?_
              refine lv_istore_n (lv' := [(2, .int (nI 0)), (0, .ref h0), (1, .int (nI r))]) hx hb dX1_writeRing_64 rfl hl (by decide) rfl (fun ls hl => ?_)
              have LP65 : ∀ (fu : Nat) (i : Nat) (tb : Nat → Int32), (i ≤ ln) → (LTc tb (bld (bld2 (bld2 [] (gF1 ln lz) ln (ln - 1)) (gF2 ln lz) ln r) (gF2 ln lz r) i)) → (ln - i) < fu → ∀ (H : Heap) (locs : List Loc), Hd G A s.heap [(h0, .inr (1, [.ref ht, .int (nI ((bld (bld2 (bld2 [] (gF1 ln lz) ln (ln - 1)) (gF2 ln lz) ln r) (gF2 ln lz r) i).length)), .int (nI (ln - 1 + r)), .int (nI ln), .int (nI lz), .ref qa, .ref qb])), (ht, .inl (cI, 864, .inl tb))] H locs → ∀ (ls : Array Slot), lv_has ls 3 [(0, .ref h0), (1, .int (nI r)), (2, .int (nI i))] → W p l e ({ frames := 2, cells := 0, slots := 0, locals := 50 } : Room) s m args below meth c H locs 0 0 Q (F0 m 65 ls []) := by
                intro fu
                induction fu with
                | zero =>
                  intro i tb hi htb hfu
                  exact absurd hfu (Nat.not_lt_zero _)
                | succ fu ih65 =>
                  intro i tb hi htb hfu H locs hd ls hl
                  refine lv_iload_n hx hb dX1_writeRing_65 rfl (lv_at hl 2 rfl) ?_
                  refine lv_aload_n hx hb dX1_writeRing_66 rfl (lv_at hl 0 rfl) ?_
                  refine x_get (C := RX1) (T := TX1) (N := 7) (ci := 1) 3 inT_X1 rfl (by decide) lf_X1_22 rfl X hd.1 0 rfl rfl dX1_writeRing_67 ?_
                  refine n_icmp_ge (tgt := 94) hx hb dX1_writeRing_70 (by decide) (by omega) (by omega) (fun c_70 => ?_) (fun c_70 => ?_)
                  · rw [show (bld (bld2 (bld2 [] (gF1 ln lz) ln (ln - 1)) (gF2 ln lz) ln r) (gF2 ln lz r) i) = bld2 (bld2 [] (gF1 ln lz) ln (ln - 1)) (gF2 ln lz) ln (r + 1) from by rw [show i = ln by omega]; rfl] at hd htb
                    have hd : Hd G A s.heap [(h0, .inr (1, [.ref ht, .int (nI ((bld2 (bld2 [] (gF1 ln lz) ln (ln - 1)) (gF2 ln lz) ln (r + 1)).length)), .int (nI (ln - 1 + r)), .int (nI ln), .int (nI lz), .ref qa, .ref qb])), (ht, .inl (cI, 864, .inl tb))] H locs := hd
                    refine lv_aload_n hx hb dX1_writeRing_94 rfl (lv_at hl 0 rfl) ?_
                    refine cM_V (As := []) (rest := []) (wr := [(ht, .inl (cI, 864, .inl tb))]) X (c_X1_endRound l G cI cZ h0 ht qa qb (ln - 1 + r) ln lz ((bld2 (bld2 [] (gF1 ln lz) ln (ln - 1)) (gF2 ln lz) ln (r + 1)).length) ) lk_X1_75 hd hA [0] [1] rfl rfl rfl rfl (by decide) rfl rfl hl.1 rfl rfl (Nat.le_of_ble_eq_true rfl) ⟨Nat.le_of_ble_eq_true rfl, Nat.le_of_ble_eq_true rfl⟩ ⟨Nat.le_of_ble_eq_true rfl, Nat.le_of_ble_eq_true rfl⟩ dX1_writeRing_95 (fun v w1 H locs hp hd => ?_)
                    obtain ⟨rfl, rfl⟩ := hp
                    have hd : Hd G A s.heap [(ht, .inl (cI, 864, .inl tb)), (h0, .inr (1, [.ref ht, .int (nI ((bld2 (bld2 [] (gF1 ln lz) ln (ln - 1)) (gF2 ln lz) ln (r + 1)).length)), .int (nI ((ln - 1 + r) + 1)), .int (nI ln), .int (nI lz), .ref qa, .ref qb]))] H locs := hd
                    refine st_all (st' := []) rfl ?_
                    refine lv_iinc (v := nI (r + 1)) (lv' := [(1, .int (nI (r + 1))), (0, .ref h0), (2, .int (nI i))]) hx hb dX1_writeRing_98 hl (k := 1) rfl (nI_1 _) (by decide) rfl (fun ls hl => ?_)
                    refine lv_goto (tgt := 53) hx hb dX1_writeRing_101 (by decide) ?_
                    have hd : Hd G A s.heap [(ht, .inl (cI, 864, .inl tb)), (h0, .inr (1, [.ref ht, .int (nI ((bld2 (bld2 [] (gF1 ln lz) ln (ln - 1)) (gF2 ln lz) ln (r + 1)).length)), .int (nI (ln - 1 + (r + 1))), .int (nI ln), .int (nI lz), .ref qa, .ref qb]))] H locs := hd.cong (congrArg (fun z_ : Int32 => ([(ht, .inl (cI, 864, .inl tb)), (h0, .inr (1, [.ref ht, .int (nI ((bld2 (bld2 [] (gF1 ln lz) ln (ln - 1)) (gF2 ln lz) ln (r + 1)).length)), .int z_, .int (nI ln), .int (nI lz), .ref qa, .ref qb]))] : va_W)) (show (nI ((ln - 1 + r) + 1) : Int32) = nI (ln - 1 + (r + 1)) from by first | rfl | (congr 1; omega)))
                    exact ih53  (r + 1) tb (by omega) htb (by omega) _ _ (hd.sub [1, 0] rfl rfl) _ (lv_sub hl [1, 0] rfl)
                  · refine lv_aload_n hx hb dX1_writeRing_73 rfl (lv_at hl 0 rfl) ?_
                    refine lv_iload_n hx hb dX1_writeRing_74 rfl (lv_at hl 2 rfl) ?_
                    refine lv_aload_n hx hb dX1_writeRing_75 rfl (lv_at hl 0 rfl) ?_
                    refine lv_iload_n hx hb dX1_writeRing_76 rfl (lv_at hl 2 rfl) ?_
                    refine lv_iconst (v := nI 1) hx hb dX1_writeRing_77 (by decide) ?_
                    refine n_add hx hb dX1_writeRing_78  ?_
                    refine lv_iload_n hx hb dX1_writeRing_79 rfl (lv_at hl 1 rfl) ?_
                    refine lv_isub hx hb dX1_writeRing_80 ?_
-- NOTE pc 81: arg .int ((nI (i + 1)) - (nI r)) for .int (nI (i + 1) - nI r)
                    refine cR_V (As := [.int ((nI (i + 1)) - (nI r))]) (rest := [.int (nI i), .ref h0]) X (c_X1_aroundTheRing l G cI cZ h0 ht qa qb (ln - 1 + r) ln lz (bld (bld2 (bld2 [] (gF1 ln lz) ln (ln - 1)) (gF2 ln lz) ln r) (gF2 ln lz r) i) (i + 1) r (by first | assumption | omega) (by first | assumption | omega) (by first | assumption | omega)) lk_X1_67 (hd.1.sub (ws' := [(h0, .inr (1, [.ref ht, .int (nI ((bld (bld2 (bld2 [] (gF1 ln lz) ln (ln - 1)) (gF2 ln lz) ln r) (gF2 ln lz r) i).length)), .int (nI (ln - 1 + r)), .int (nI ln), .int (nI lz), .ref qa, .ref qb]))]) [0] rfl) rfl rfl hl.1 rfl rfl (Nat.le_of_ble_eq_true rfl) ⟨Nat.le_of_ble_eq_true rfl, Nat.le_of_ble_eq_true rfl⟩ ⟨Nat.le_of_ble_eq_true rfl, Nat.le_of_ble_eq_true rfl⟩ dX1_writeRing_81 ?_
                    refine lv_iconst (v := nI 2) hx hb dX1_writeRing_84 (by decide) ?_
                    refine cM_V (As := [.int (nI i), .int (nI (((i + 1) + ln - r) % ln)), .int (nI 2)]) (rest := []) (wr := []) X (c_X1_sendPart l G cI cZ h0 ht qa qb (ln - 1 + r) ln lz (bld (bld2 (bld2 [] (gF1 ln lz) ln (ln - 1)) (gF2 ln lz) ln r) (gF2 ln lz r) i) tb i (((i + 1) + ln - r) % ln) 2 (by first | assumption | omega) (by rw [bld_len, bld2_len, bld2_len]; show 0 + (ln - 1) * ln + r * ln + i < 144; have := Nat.mul_le_mul (show r ≤ 7 by omega) hn9; have := Nat.mul_le_mul (show ln - 1 ≤ 8 by omega) hn9; omega) (by first | assumption | omega) (by first | assumption | omega) (by first | assumption | omega) (by first | assumption | omega) (Nat.mod_lt _ (by omega))) lk_X1_71 hd hA [0, 1] [] rfl rfl rfl rfl (by decide) rfl rfl hl.1 rfl rfl (Nat.le_of_ble_eq_true rfl) ⟨Nat.le_of_ble_eq_true rfl, Nat.le_of_ble_eq_true rfl⟩ ⟨Nat.le_of_ble_eq_true rfl, Nat.le_of_ble_eq_true rfl⟩ dX1_writeRing_85 (fun v w1 H locs hp hd => ?_)
                    obtain ⟨tb85, rfl, rfl, hT85⟩ := hp
                    have hd : Hd G A s.heap [(h0, .inr (1, [.ref ht, .int (nI (((bld (bld2 (bld2 [] (gF1 ln lz) ln (ln - 1)) (gF2 ln lz) ln r) (gF2 ln lz r) i) ++ [pF ln lz (ln - 1 + r) i (((i + 1) + ln - r) % ln) 2]).length)), .int (nI (ln - 1 + r)), .int (nI ln), .int (nI lz), .ref qa, .ref qb])), (ht, .inl (cI, 864, .inl tb85))] H locs := hd
                    refine st_all (st' := []) rfl ?_
                    rw [show ((bld (bld2 (bld2 [] (gF1 ln lz) ln (ln - 1)) (gF2 ln lz) ln r) (gF2 ln lz r) i) ++ [pF ln lz (ln - 1 + r) i (((i + 1) + ln - r) % ln) 2]) = bld (bld2 (bld2 [] (gF1 ln lz) ln (ln - 1)) (gF2 ln lz) ln r) (gF2 ln lz r) (i + 1) from rfl] at hd hT85
                    have hd : Hd G A s.heap [(h0, .inr (1, [.ref ht, .int (nI ((bld (bld2 (bld2 [] (gF1 ln lz) ln (ln - 1)) (gF2 ln lz) ln r) (gF2 ln lz r) (i + 1)).length)), .int (nI (ln - 1 + r)), .int (nI ln), .int (nI lz), .ref qa, .ref qb])), (ht, .inl (cI, 864, .inl tb85))] H locs := hd
                    refine lv_iinc (v := nI (i + 1)) (lv' := [(2, .int (nI (i + 1))), (0, .ref h0), (1, .int (nI r))]) hx hb dX1_writeRing_88 hl (k := 2) rfl (nI_1 _) (by decide) rfl (fun ls hl => ?_)
                    refine lv_goto (tgt := 65) hx hb dX1_writeRing_91 (by decide) ?_
                    exact ih65  (i + 1) tb85 (by omega) hT85 (by omega) _ _ (hd.sub [0, 1] rfl rfl) _ (lv_sub hl [1, 2, 0] rfl)
              have hd : Hd G A s.heap [(h0, .inr (1, [.ref ht, .int (nI ((bld (bld2 (bld2 [] (gF1 ln lz) ln (ln - 1)) (gF2 ln lz) ln r) (gF2 ln lz r) 0).length)), .int (nI (ln - 1 + r)), .int (nI ln), .int (nI lz), .ref qa, .ref qb])), (ht, .inl (cI, 864, .inl tb))] H locs := hd.cong (congrArg (fun z_ : Int32 => ([(h0, .inr (1, [.ref ht, .int z_, .int (nI (ln - 1 + r)), .int (nI ln), .int (nI lz), .ref qa, .ref qb])), (ht, .inl (cI, 864, .inl tb))] : va_W)) (show (nI ((bld2 (bld2 [] (gF1 ln lz) ln (ln - 1)) (gF2 ln lz) ln r).length) : Int32) = nI ((bld (bld2 (bld2 [] (gF1 ln lz) ln (ln - 1)) (gF2 ln lz) ln r) (gF2 ln lz r) 0).length) from rfl))
              exact LP65 ((ln - 0) + 1) 0 tb (by omega) htb (Nat.lt_succ_self _) _ _ (hd.sub [0, 1] rfl rfl) _ (lv_sub hl [1, 2, 0] rfl)
        have hd : Hd G A s.heap [(h0, .inr (1, [.ref ht, .int (nI ((bld2 (bld2 [] (gF1 ln lz) ln (ln - 1)) (gF2 ln lz) ln 0).length)), .int (nI r), .int (nI ln), .int (nI lz), .ref qa, .ref qb])), (ht, .inl (cI, 864, .inl tb))] H locs := hd.cong (congrArg (fun z_ : Int32 => ([(h0, .inr (1, [.ref ht, .int z_, .int (nI r), .int (nI ln), .int (nI lz), .ref qa, .ref qb])), (ht, .inl (cI, 864, .inl tb))] : va_W)) (show (nI ((bld2 [] (gF1 ln lz) ln r).length) : Int32) = nI ((bld2 (bld2 [] (gF1 ln lz) ln (ln - 1)) (gF2 ln lz) ln 0).length) from by rw [show ln - 1 = r by omega]; rfl))
        have hd : Hd G A s.heap [(h0, .inr (1, [.ref ht, .int (nI ((bld2 (bld2 [] (gF1 ln lz) ln (ln - 1)) (gF2 ln lz) ln 0).length)), .int (nI (ln - 1 + 0)), .int (nI ln), .int (nI lz), .ref qa, .ref qb])), (ht, .inl (cI, 864, .inl tb))] H locs := hd.cong (congrArg (fun z_ : Int32 => ([(h0, .inr (1, [.ref ht, .int (nI ((bld2 (bld2 [] (gF1 ln lz) ln (ln - 1)) (gF2 ln lz) ln 0).length)), .int z_, .int (nI ln), .int (nI lz), .ref qa, .ref qb])), (ht, .inl (cI, 864, .inl tb))] : va_W)) (show (nI r : Int32) = nI (ln - 1 + 0) from by rw [show ln - 1 = r by omega]; try rfl))
        exact LP53 ((ln - 0) + 1) 0 tb (by omega) (by rw [show ln - 1 = r by omega]; exact htb) (Nat.lt_succ_self _) _ _ (hd.sub [0, 1] rfl rfl) _ (lv_sub hl [1, 0] rfl)
      · refine lv_iconst (v := nI 0) hx hb dX1_writeRing_12 (by decide) ?_
        refine lv_istore_n (lv' := [(2, .int (nI 0)), (0, .ref h0), (1, .int (nI r))]) hx hb dX1_writeRing_13 rfl hl (by decide) rfl (fun ls hl => ?_)
        have LP14 : ∀ (fu : Nat) (i : Nat) (tb : Nat → Int32), (i ≤ ln) → (LTc tb (bld (bld2 [] (gF1 ln lz) ln r) (gF1 ln lz r) i)) → (ln - i) < fu → ∀ (H : Heap) (locs : List Loc), Hd G A s.heap [(h0, .inr (1, [.ref ht, .int (nI ((bld (bld2 [] (gF1 ln lz) ln r) (gF1 ln lz r) i).length)), .int (nI r), .int (nI ln), .int (nI lz), .ref qa, .ref qb])), (ht, .inl (cI, 864, .inl tb))] H locs → ∀ (ls : Array Slot), lv_has ls 3 [(0, .ref h0), (1, .int (nI r)), (2, .int (nI i))] → W p l e ({ frames := 2, cells := 0, slots := 0, locals := 50 } : Room) s m args below meth c H locs 0 0 Q (F0 m 14 ls []) := by
          intro fu
          induction fu with
          | zero =>
            intro i tb hi htb hfu
            exact absurd hfu (Nat.not_lt_zero _)
          | succ fu ih14 =>
            intro i tb hi htb hfu H locs hd ls hl
            refine lv_iload_n hx hb dX1_writeRing_14 rfl (lv_at hl 2 rfl) ?_
            refine lv_aload_n hx hb dX1_writeRing_15 rfl (lv_at hl 0 rfl) ?_
            refine x_get (C := RX1) (T := TX1) (N := 7) (ci := 1) 3 inT_X1 rfl (by decide) lf_X1_22 rfl X hd.1 0 rfl rfl dX1_writeRing_16 ?_
            refine n_icmp_ge (tgt := 41) hx hb dX1_writeRing_19 (by decide) (by omega) (by omega) (fun c_19 => ?_) (fun c_19 => ?_)
            · rw [show (bld (bld2 [] (gF1 ln lz) ln r) (gF1 ln lz r) i) = bld2 [] (gF1 ln lz) ln (r + 1) from by rw [show i = ln by omega]; rfl] at hd htb
              have hd : Hd G A s.heap [(h0, .inr (1, [.ref ht, .int (nI ((bld2 [] (gF1 ln lz) ln (r + 1)).length)), .int (nI r), .int (nI ln), .int (nI lz), .ref qa, .ref qb])), (ht, .inl (cI, 864, .inl tb))] H locs := hd
              refine lv_aload_n hx hb dX1_writeRing_41 rfl (lv_at hl 0 rfl) ?_
              refine cM_V (As := []) (rest := []) (wr := [(ht, .inl (cI, 864, .inl tb))]) X (c_X1_endRound l G cI cZ h0 ht qa qb r ln lz ((bld2 [] (gF1 ln lz) ln (r + 1)).length) ) lk_X1_75 hd hA [0] [1] rfl rfl rfl rfl (by decide) rfl rfl hl.1 rfl rfl (Nat.le_of_ble_eq_true rfl) ⟨Nat.le_of_ble_eq_true rfl, Nat.le_of_ble_eq_true rfl⟩ ⟨Nat.le_of_ble_eq_true rfl, Nat.le_of_ble_eq_true rfl⟩ dX1_writeRing_42 (fun v w1 H locs hp hd => ?_)
              obtain ⟨rfl, rfl⟩ := hp
              have hd : Hd G A s.heap [(ht, .inl (cI, 864, .inl tb)), (h0, .inr (1, [.ref ht, .int (nI ((bld2 [] (gF1 ln lz) ln (r + 1)).length)), .int (nI (r + 1)), .int (nI ln), .int (nI lz), .ref qa, .ref qb]))] H locs := hd
              refine st_all (st' := []) rfl ?_
              refine lv_iinc (v := nI (r + 1)) (lv' := [(1, .int (nI (r + 1))), (0, .ref h0), (2, .int (nI i))]) hx hb dX1_writeRing_45 hl (k := 1) rfl (nI_1 _) (by decide) rfl (fun ls hl => ?_)
              refine lv_goto (tgt := 2) hx hb dX1_writeRing_48 (by decide) ?_
              exact ih2  (r + 1) tb (by omega) htb (by omega) _ _ (hd.sub [1, 0] rfl rfl) _ (lv_sub hl [1, 0] rfl)
            · refine lv_aload_n hx hb dX1_writeRing_22 rfl (lv_at hl 0 rfl) ?_
              refine lv_iload_n hx hb dX1_writeRing_23 rfl (lv_at hl 2 rfl) ?_
              refine lv_aload_n hx hb dX1_writeRing_24 rfl (lv_at hl 0 rfl) ?_
              refine lv_iload_n hx hb dX1_writeRing_25 rfl (lv_at hl 2 rfl) ?_
              refine lv_iload_n hx hb dX1_writeRing_26 rfl (lv_at hl 1 rfl) ?_
              refine lv_isub hx hb dX1_writeRing_27 ?_
-- NOTE pc 28: arg .int ((nI i) - (nI r)) for .int (nI i - nI r)
              refine cR_V (As := [.int ((nI i) - (nI r))]) (rest := [.int (nI i), .ref h0]) X (c_X1_aroundTheRing l G cI cZ h0 ht qa qb r ln lz (bld (bld2 [] (gF1 ln lz) ln r) (gF1 ln lz r) i) i r (by first | assumption | omega) (by first | assumption | omega) (by first | assumption | omega)) lk_X1_67 (hd.1.sub (ws' := [(h0, .inr (1, [.ref ht, .int (nI ((bld (bld2 [] (gF1 ln lz) ln r) (gF1 ln lz r) i).length)), .int (nI r), .int (nI ln), .int (nI lz), .ref qa, .ref qb]))]) [0] rfl) rfl rfl hl.1 rfl rfl (Nat.le_of_ble_eq_true rfl) ⟨Nat.le_of_ble_eq_true rfl, Nat.le_of_ble_eq_true rfl⟩ ⟨Nat.le_of_ble_eq_true rfl, Nat.le_of_ble_eq_true rfl⟩ dX1_writeRing_28 ?_
              refine lv_iconst (v := nI 1) hx hb dX1_writeRing_31 (by decide) ?_
              refine cM_V (As := [.int (nI i), .int (nI ((i + ln - r) % ln)), .int (nI 1)]) (rest := []) (wr := []) X (c_X1_sendPart l G cI cZ h0 ht qa qb r ln lz (bld (bld2 [] (gF1 ln lz) ln r) (gF1 ln lz r) i) tb i ((i + ln - r) % ln) 1 (by first | assumption | omega) (by rw [bld_len, bld2_len]; show 0 + r * ln + i < 144; have := Nat.mul_le_mul (show r ≤ 7 by omega) hn9; omega) (by first | assumption | omega) (by first | assumption | omega) (by first | assumption | omega) (by first | assumption | omega) (Nat.mod_lt _ (by omega))) lk_X1_71 hd hA [0, 1] [] rfl rfl rfl rfl (by decide) rfl rfl hl.1 rfl rfl (Nat.le_of_ble_eq_true rfl) ⟨Nat.le_of_ble_eq_true rfl, Nat.le_of_ble_eq_true rfl⟩ ⟨Nat.le_of_ble_eq_true rfl, Nat.le_of_ble_eq_true rfl⟩ dX1_writeRing_32 (fun v w1 H locs hp hd => ?_)
              obtain ⟨tb32, rfl, rfl, hT32⟩ := hp
              have hd : Hd G A s.heap [(h0, .inr (1, [.ref ht, .int (nI (((bld (bld2 [] (gF1 ln lz) ln r) (gF1 ln lz r) i) ++ [pF ln lz r i ((i + ln - r) % ln) 1]).length)), .int (nI r), .int (nI ln), .int (nI lz), .ref qa, .ref qb])), (ht, .inl (cI, 864, .inl tb32))] H locs := hd
              refine st_all (st' := []) rfl ?_
              rw [show ((bld (bld2 [] (gF1 ln lz) ln r) (gF1 ln lz r) i) ++ [pF ln lz r i ((i + ln - r) % ln) 1]) = bld (bld2 [] (gF1 ln lz) ln r) (gF1 ln lz r) (i + 1) from rfl] at hd hT32
              have hd : Hd G A s.heap [(h0, .inr (1, [.ref ht, .int (nI ((bld (bld2 [] (gF1 ln lz) ln r) (gF1 ln lz r) (i + 1)).length)), .int (nI r), .int (nI ln), .int (nI lz), .ref qa, .ref qb])), (ht, .inl (cI, 864, .inl tb32))] H locs := hd
              refine lv_iinc (v := nI (i + 1)) (lv' := [(2, .int (nI (i + 1))), (0, .ref h0), (1, .int (nI r))]) hx hb dX1_writeRing_35 hl (k := 2) rfl (nI_1 _) (by decide) rfl (fun ls hl => ?_)
              refine lv_goto (tgt := 14) hx hb dX1_writeRing_38 (by decide) ?_
              exact ih14  (i + 1) tb32 (by omega) hT32 (by omega) _ _ (hd.sub [0, 1] rfl rfl) _ (lv_sub hl [1, 2, 0] rfl)
        have hd : Hd G A s.heap [(h0, .inr (1, [.ref ht, .int (nI ((bld (bld2 [] (gF1 ln lz) ln r) (gF1 ln lz r) 0).length)), .int (nI r), .int (nI ln), .int (nI lz), .ref qa, .ref qb])), (ht, .inl (cI, 864, .inl tb))] H locs := hd.cong (congrArg (fun z_ : Int32 => ([(h0, .inr (1, [.ref ht, .int z_, .int (nI r), .int (nI ln), .int (nI lz), .ref qa, .ref qb])), (ht, .inl (cI, 864, .inl tb))] : va_W)) (show (nI ((bld2 [] (gF1 ln lz) ln r).length) : Int32) = nI ((bld (bld2 [] (gF1 ln lz) ln r) (gF1 ln lz r) 0).length) from rfl))
        exact LP14 ((ln - 0) + 1) 0 tb (by omega) htb (Nat.lt_succ_self _) _ _ (hd.sub [0, 1] rfl rfl) _ (lv_sub hl [1, 2, 0] rfl)
  have hd : Hd G A s.heap [(h0, .inr (1, [.ref ht, .int (nI ((bld2 [] (gF1 ln lz) ln 0).length)), .int (nI 0), .int (nI ln), .int (nI lz), .ref qa, .ref qb])), (ht, .inl (cI, 864, .inl tb0))] s.heap [] := hd.cong (congrArg (fun z_ : Int32 => ([(h0, .inr (1, [.ref ht, .int z_, .int (nI 0), .int (nI ln), .int (nI lz), .ref qa, .ref qb])), (ht, .inl (cI, 864, .inl tb0))] : va_W)) (show (nI 0 : Int32) = nI ((bld2 [] (gF1 ln lz) ln 0).length) from rfl))
  exact LP2 ((ln - 0) + 1) 0 tb0 (by omega) (LTc_0 _) (Nat.lt_succ_self _) _ _ (hd.sub [0, 1] rfl rfl) _ (lv_sub hl [1, 0] rfl)
end
section
set_option maxHeartbeats 4000000 in
set_option maxRecDepth 100000 in
theorem c_X1_writeTree (l : Launch) (G : va_G) (cI cZ : ClassId) (h0 : Nat) (ht : Nat) (qa : Nat) (qb : Nat) (ln : Nat) (lz : Nat) (tb0 : Nat → Int32) (hn : 2 ≤ ln) (hn9 : ln ≤ 9) (hz : lz ≤ 99) : CM l G cI cZ yX1_writeTree cX1_writeTree 4 none 2 49 0 0 [.ref h0] [(h0, .inr (1, [.ref ht, .int (nI 0), .int (nI 0), .int (nI ln), .int (nI lz), .ref qa, .ref qb])), (ht, .inl (cI, 864, .inl tb0))] (fun ov_ wv_ => ∃ tb2 : Nat → Int32, ov_ = none ∧ wv_ = [(h0, .inr (1, [.ref ht, .int (nI ((LTree ln lz).length)), .int (nI (dpl ln + dpl ln)), .int (nI ln), .int (nI lz), .ref qa, .ref qb])), (ht, .inl (cI, 864, .inl tb2))] ∧ (LTc tb2 (LTree ln lz))) := by
  have hD := dpl_le ln
  refine CM.of (own := RX1) (by decide) rfl (Nat.le_of_ble_eq_true rfl) ?_
  intro p e R s m args below meth c Q A X hR hret hnm hA fin hd ls hl
  subst hR
  have hx := X.1
  have hb := X.2.1
  have hl : lv_has ls 4 [(0, .ref h0)] := hl
  refine lv_aload_n hx hb dX1_writeTree_0 rfl (lv_at hl 0 rfl) ?_
-- NOTE pc 1: cell (h0, .inr (1, [.ref ht, .int (nI 0), .int (nI 0), .int (nI ln), .int (nI lz), .ref qa, .ref qb])) for (h0, .inr (1, [.ref ht, .int (nI (([] : List (List Nat)).length)), .int (nI 0), .int (nI ln), .int (nI lz), .ref qa, .ref qb]))
  refine cR_V (As := []) (rest := []) X (c_X1_deepestLevel l G cI cZ h0 ht qa qb 0 ln lz ([] : List (List Nat)) (by first | assumption | omega)) lk_X1_101 (hd.1.sub (ws' := [(h0, .inr (1, [.ref ht, .int (nI 0), .int (nI 0), .int (nI ln), .int (nI lz), .ref qa, .ref qb]))]) [0] rfl) rfl rfl hl.1 rfl rfl (Nat.le_of_ble_eq_true rfl) ⟨Nat.le_of_ble_eq_true rfl, Nat.le_of_ble_eq_true rfl⟩ ⟨Nat.le_of_ble_eq_true rfl, Nat.le_of_ble_eq_true rfl⟩ dX1_writeTree_1 ?_
  refine lv_istore_n (lv' := [(1, .int (nI (dpl ln))), (0, .ref h0)]) hx hb dX1_writeTree_4 rfl hl (by decide) rfl (fun ls hl => ?_)
  refine lv_iload_n hx hb dX1_writeTree_5 rfl (lv_at hl 0 rfl) ?_
  refine lv_istore_n (lv' := [(2, .int (nI (dpl ln))), (1, .int (nI (dpl ln))), (0, .ref h0)]) hx hb dX1_writeTree_6 rfl hl (by decide) rfl (fun ls hl => ?_)
  have LP7 : ∀ (fu : Nat) (i : Nat) (tb : Nat → Int32), (i ≤ dpl ln) → (LTc tb (tU ln lz i)) → (dpl ln - i) < fu → ∀ (H : Heap) (locs : List Loc), Hd G A s.heap [(h0, .inr (1, [.ref ht, .int (nI ((tU ln lz i).length)), .int (nI i), .int (nI ln), .int (nI lz), .ref qa, .ref qb])), (ht, .inl (cI, 864, .inl tb))] H locs → ∀ (ls : Array Slot), lv_has ls 4 [(0, .ref h0), (1, .int (nI (dpl ln))), (2, .int (nI (dpl ln - i)))] → W p l e ({ frames := 2, cells := 0, slots := 0, locals := 49 } : Room) s m args below meth c H locs 0 0 Q (F0 m 7 ls []) := by
    intro fu
    induction fu with
    | zero =>
      intro i tb hi htb hfu
      exact absurd hfu (Nat.not_lt_zero _)
    | succ fu ih7 =>
      intro i tb hi htb hfu H locs hd ls hl
      refine lv_iload_n hx hb dX1_writeTree_7 rfl (lv_at hl 2 rfl) ?_
      refine lv_iconst (v := nI 1) hx hb dX1_writeTree_8 (by decide) ?_
      refine n_icmp_lt (tgt := 61) hx hb dX1_writeTree_9 (by decide) (by omega) (by omega) (fun c_9 => ?_) (fun c_9 => ?_)
      · refine lv_iconst (v := nI 1) hx hb dX1_writeTree_61 (by decide) ?_
        refine lv_istore_n (lv' := [(2, .int (nI 1)), (0, .ref h0), (1, .int (nI (dpl ln)))]) hx hb dX1_writeTree_62 rfl hl (by decide) rfl (fun ls hl => ?_)
        have LP63 : ∀ (fu : Nat) (i : Nat) (tb : Nat → Int32), (i ≤ dpl ln) → (LTc tb (tD ln lz i)) → (dpl ln - i) < fu → ∀ (H : Heap) (locs : List Loc), Hd G A s.heap [(h0, .inr (1, [.ref ht, .int (nI ((tD ln lz i).length)), .int (nI (dpl ln + i)), .int (nI ln), .int (nI lz), .ref qa, .ref qb])), (ht, .inl (cI, 864, .inl tb))] H locs → ∀ (ls : Array Slot), lv_has ls 4 [(0, .ref h0), (1, .int (nI (dpl ln))), (2, .int (nI (i + 1)))] → W p l e ({ frames := 2, cells := 0, slots := 0, locals := 49 } : Room) s m args below meth c H locs 0 0 Q (F0 m 63 ls []) := by
          intro fu
          induction fu with
          | zero =>
            intro i tb hi htb hfu
            exact absurd hfu (Nat.not_lt_zero _)
          | succ fu ih63 =>
            intro i tb hi htb hfu H locs hd ls hl
            refine lv_iload_n hx hb dX1_writeTree_63 rfl (lv_at hl 2 rfl) ?_
            refine lv_iload_n hx hb dX1_writeTree_64 rfl (lv_at hl 1 rfl) ?_
            refine n_icmp_gt (tgt := 117) hx hb dX1_writeTree_65 (by decide) (by omega) (by omega) (fun c_65 => ?_) (fun c_65 => ?_)
            · exact (fin _ _ [(h0, .inr (1, [.ref ht, .int (nI ((tD ln lz i).length)), .int (nI (dpl ln + i)), .int (nI ln), .int (nI lz), .ref qa, .ref qb])), (ht, .inl (cI, 864, .inl tb))] _ _ (hd.sub [0, 1] rfl rfl)).1 rfl ⟨tb, rfl, by rw [LTree, show i = dpl ln by omega], (by rw [LTree]; rw [show i = dpl ln by omega] at htb; exact htb)⟩ dX1_writeTree_117
            · have hp := p2ge (show 1 ≤ i + 1 by omega)
              have hp2 : 2 ^ (i + 1 + 1) = 2 * 2 ^ (i + 1) := by rw [Nat.pow_succ, Nat.mul_comm]
              have hp3 : 2 ^ (i + 1) ≤ 8 := Nat.pow_le_pow_right (n := 2) (j := 3) (by decide) (by omega)
              have htc : tcn ln (i + 1) = min ln (2 ^ (i + 1 + 1) - 1) - (2 ^ (i + 1) - 1) := rfl
              refine lv_iload_n hx hb dX1_writeTree_68 rfl (lv_at hl 2 rfl) ?_
              refine cR_S (As := [.int (nI (i + 1))]) (rest := []) X (c_X1_firstOnLevel l G cI cZ (i + 1) (by first | assumption | omega)) lk_X1_104 (hd.1.sub (ws' := []) [] rfl) hl.1 rfl rfl (Nat.le_of_ble_eq_true rfl) ⟨Nat.le_of_ble_eq_true rfl, Nat.le_of_ble_eq_true rfl⟩ ⟨Nat.le_of_ble_eq_true rfl, Nat.le_of_ble_eq_true rfl⟩ dX1_writeTree_69 ?_
              refine lv_istore_n (lv' := [(3, .int (nI (2 ^ (i + 1) - 1))), (0, .ref h0), (1, .int (nI (dpl ln))), (2, .int (nI (i + 1)))]) hx hb dX1_writeTree_72 rfl hl (by decide) rfl (fun ls hl => ?_)
              have LP73 : ∀ (fu : Nat) (j : Nat) (tb : Nat → Int32), (j ≤ tcn ln (i + 1)) → (LTc tb (bld (tD ln lz i) (tF2 lz (dpl ln + i) (i + 1)) j)) → (tcn ln (i + 1) - j) < fu → ∀ (H : Heap) (locs : List Loc), Hd G A s.heap [(h0, .inr (1, [.ref ht, .int (nI ((bld (tD ln lz i) (tF2 lz (dpl ln + i) (i + 1)) j).length)), .int (nI (dpl ln + i)), .int (nI ln), .int (nI lz), .ref qa, .ref qb])), (ht, .inl (cI, 864, .inl tb))] H locs → ∀ (ls : Array Slot), lv_has ls 4 [(0, .ref h0), (1, .int (nI (dpl ln))), (2, .int (nI (i + 1))), (3, .int (nI (2 ^ (i + 1) - 1 + j)))] → W p l e ({ frames := 2, cells := 0, slots := 0, locals := 49 } : Room) s m args below meth c H locs 0 0 Q (F0 m 73 ls []) := by
                intro fu
                induction fu with
                | zero =>
                  intro j tb hj htb hfu
                  exact absurd hfu (Nat.not_lt_zero _)
                | succ fu ih73 =>
                  intro j tb hj htb hfu H locs hd ls hl
                  refine lv_iload_n hx hb dX1_writeTree_73 rfl (lv_at hl 3 rfl) ?_
                  refine lv_aload_n hx hb dX1_writeTree_74 rfl (lv_at hl 0 rfl) ?_
                  refine x_get (C := RX1) (T := TX1) (N := 7) (ci := 1) 3 inT_X1 rfl (by decide) lf_X1_22 rfl X hd.1 0 rfl rfl dX1_writeTree_75 ?_
                  refine n_icmp_ge (tgt := 107) hx hb dX1_writeTree_78 (by decide) (by omega) (by omega) (fun c_78 => ?_) (fun c_78 => ?_)
                  · rw [show (bld (tD ln lz i) (tF2 lz (dpl ln + i) (i + 1)) j) = tD ln lz (i + 1) from by rw [show j = tcn ln (i + 1) by omega]; rfl] at hd htb
                    have hd : Hd G A s.heap [(h0, .inr (1, [.ref ht, .int (nI ((tD ln lz (i + 1)).length)), .int (nI (dpl ln + i)), .int (nI ln), .int (nI lz), .ref qa, .ref qb])), (ht, .inl (cI, 864, .inl tb))] H locs := hd
                    refine lv_aload_n hx hb dX1_writeTree_107 rfl (lv_at hl 0 rfl) ?_
                    refine cM_V (As := []) (rest := []) (wr := [(ht, .inl (cI, 864, .inl tb))]) X (c_X1_endRound l G cI cZ h0 ht qa qb (dpl ln + i) ln lz ((tD ln lz (i + 1)).length) ) lk_X1_75 hd hA [0] [1] rfl rfl rfl rfl (by decide) rfl rfl hl.1 rfl rfl (Nat.le_of_ble_eq_true rfl) ⟨Nat.le_of_ble_eq_true rfl, Nat.le_of_ble_eq_true rfl⟩ ⟨Nat.le_of_ble_eq_true rfl, Nat.le_of_ble_eq_true rfl⟩ dX1_writeTree_108 (fun v w1 H locs hp hd => ?_)
                    obtain ⟨rfl, rfl⟩ := hp
                    have hd : Hd G A s.heap [(ht, .inl (cI, 864, .inl tb)), (h0, .inr (1, [.ref ht, .int (nI ((tD ln lz (i + 1)).length)), .int (nI ((dpl ln + i) + 1)), .int (nI ln), .int (nI lz), .ref qa, .ref qb]))] H locs := hd
                    refine st_all (st' := []) rfl ?_
                    refine lv_iinc (v := nI (i + 1 + 1)) (lv' := [(2, .int (nI (i + 1 + 1))), (0, .ref h0), (1, .int (nI (dpl ln))), (3, .int (nI (2 ^ (i + 1) - 1 + j)))]) hx hb dX1_writeTree_111 hl (k := 2) rfl (nI_1 _) (by decide) rfl (fun ls hl => ?_)
                    refine lv_goto (tgt := 63) hx hb dX1_writeTree_114 (by decide) ?_
                    have hl : lv_has ls 4 [(2, .int (nI ((i + 1) + 1))), (0, .ref h0), (1, .int (nI (dpl ln))), (3, .int (nI (2 ^ (i + 1) - 1 + j)))] := lv_rep hl (congrArg (fun z_ : Int32 => ([(2, .int z_), (0, .ref h0), (1, .int (nI (dpl ln))), (3, .int (nI (2 ^ (i + 1) - 1 + j)))] : List (Nat × Value))) (show (nI (i + 1 + 1) : Int32) = nI ((i + 1) + 1) from rfl))
                    have hd : Hd G A s.heap [(ht, .inl (cI, 864, .inl tb)), (h0, .inr (1, [.ref ht, .int (nI ((tD ln lz (i + 1)).length)), .int (nI (dpl ln + (i + 1))), .int (nI ln), .int (nI lz), .ref qa, .ref qb]))] H locs := hd.cong (congrArg (fun z_ : Int32 => ([(ht, .inl (cI, 864, .inl tb)), (h0, .inr (1, [.ref ht, .int (nI ((tD ln lz (i + 1)).length)), .int z_, .int (nI ln), .int (nI lz), .ref qa, .ref qb]))] : va_W)) (show (nI ((dpl ln + i) + 1) : Int32) = nI (dpl ln + (i + 1)) from by first | rfl | (congr 1; omega)))
                    exact ih63  (i + 1) tb (by omega) htb (by omega) _ _ (hd.sub [1, 0] rfl rfl) _ (lv_sub hl [1, 2, 0] rfl)
                  · refine lv_iload_n hx hb dX1_writeTree_81 rfl (lv_at hl 3 rfl) ?_
                    refine lv_iload_n hx hb dX1_writeTree_82 rfl (lv_at hl 2 rfl) ?_
                    refine lv_iconst (v := nI 1) hx hb dX1_writeTree_83 (by decide) ?_
                    refine n_add hx hb dX1_writeTree_84  ?_
                    refine cR_S (As := [.int (nI ((i + 1) + 1))]) (rest := [.int (nI (2 ^ (i + 1) - 1 + j))]) X (c_X1_firstOnLevel l G cI cZ ((i + 1) + 1) (by first | assumption | omega)) lk_X1_104 (hd.1.sub (ws' := []) [] rfl) hl.1 rfl rfl (Nat.le_of_ble_eq_true rfl) ⟨Nat.le_of_ble_eq_true rfl, Nat.le_of_ble_eq_true rfl⟩ ⟨Nat.le_of_ble_eq_true rfl, Nat.le_of_ble_eq_true rfl⟩ dX1_writeTree_85 ?_
                    refine n_icmp_ge (tgt := 107) hx hb dX1_writeTree_88 (by decide) (by omega) (by omega) (fun c_88 => ?_) (fun c_88 => ?_)
                    · rw [show (bld (tD ln lz i) (tF2 lz (dpl ln + i) (i + 1)) j) = tD ln lz (i + 1) from by rw [show j = tcn ln (i + 1) by omega]; rfl] at hd htb
                      have hd : Hd G A s.heap [(h0, .inr (1, [.ref ht, .int (nI ((tD ln lz (i + 1)).length)), .int (nI (dpl ln + i)), .int (nI ln), .int (nI lz), .ref qa, .ref qb])), (ht, .inl (cI, 864, .inl tb))] H locs := hd
                      refine lv_aload_n hx hb dX1_writeTree_107 rfl (lv_at hl 0 rfl) ?_
                      refine cM_V (As := []) (rest := []) (wr := [(ht, .inl (cI, 864, .inl tb))]) X (c_X1_endRound l G cI cZ h0 ht qa qb (dpl ln + i) ln lz ((tD ln lz (i + 1)).length) ) lk_X1_75 hd hA [0] [1] rfl rfl rfl rfl (by decide) rfl rfl hl.1 rfl rfl (Nat.le_of_ble_eq_true rfl) ⟨Nat.le_of_ble_eq_true rfl, Nat.le_of_ble_eq_true rfl⟩ ⟨Nat.le_of_ble_eq_true rfl, Nat.le_of_ble_eq_true rfl⟩ dX1_writeTree_108 (fun v w1 H locs hp hd => ?_)
                      obtain ⟨rfl, rfl⟩ := hp
                      have hd : Hd G A s.heap [(ht, .inl (cI, 864, .inl tb)), (h0, .inr (1, [.ref ht, .int (nI ((tD ln lz (i + 1)).length)), .int (nI ((dpl ln + i) + 1)), .int (nI ln), .int (nI lz), .ref qa, .ref qb]))] H locs := hd
                      refine st_all (st' := []) rfl ?_
                      refine lv_iinc (v := nI (i + 1 + 1)) (lv' := [(2, .int (nI (i + 1 + 1))), (0, .ref h0), (1, .int (nI (dpl ln))), (3, .int (nI (2 ^ (i + 1) - 1 + j)))]) hx hb dX1_writeTree_111 hl (k := 2) rfl (nI_1 _) (by decide) rfl (fun ls hl => ?_)
                      refine lv_goto (tgt := 63) hx hb dX1_writeTree_114 (by decide) ?_
                      have hl : lv_has ls 4 [(2, .int (nI ((i + 1) + 1))), (0, .ref h0), (1, .int (nI (dpl ln))), (3, .int (nI (2 ^ (i + 1) - 1 + j)))] := lv_rep hl (congrArg (fun z_ : Int32 => ([(2, .int z_), (0, .ref h0), (1, .int (nI (dpl ln))), (3, .int (nI (2 ^ (i + 1) - 1 + j)))] : List (Nat × Value))) (show (nI (i + 1 + 1) : Int32) = nI ((i + 1) + 1) from rfl))
                      have hd : Hd G A s.heap [(ht, .inl (cI, 864, .inl tb)), (h0, .inr (1, [.ref ht, .int (nI ((tD ln lz (i + 1)).length)), .int (nI (dpl ln + (i + 1))), .int (nI ln), .int (nI lz), .ref qa, .ref qb]))] H locs := hd.cong (congrArg (fun z_ : Int32 => ([(ht, .inl (cI, 864, .inl tb)), (h0, .inr (1, [.ref ht, .int (nI ((tD ln lz (i + 1)).length)), .int z_, .int (nI ln), .int (nI lz), .ref qa, .ref qb]))] : va_W)) (show (nI ((dpl ln + i) + 1) : Int32) = nI (dpl ln + (i + 1)) from by first | rfl | (congr 1; omega)))
                      exact ih63  (i + 1) tb (by omega) htb (by omega) _ _ (hd.sub [1, 0] rfl rfl) _ (lv_sub hl [1, 2, 0] rfl)
                    · refine lv_aload_n hx hb dX1_writeTree_91 rfl (lv_at hl 0 rfl) ?_
                      refine lv_iload_n hx hb dX1_writeTree_92 rfl (lv_at hl 3 rfl) ?_
                      refine cR_S (As := [.int (nI (2 ^ (i + 1) - 1 + j))]) (rest := [.ref h0]) X (c_X1_upper l G cI cZ (2 ^ (i + 1) - 1 + j) (by first | assumption | omega) (by first | assumption | omega)) lk_X1_107 (hd.1.sub (ws' := []) [] rfl) hl.1 rfl rfl (Nat.le_of_ble_eq_true rfl) ⟨Nat.le_of_ble_eq_true rfl, Nat.le_of_ble_eq_true rfl⟩ ⟨Nat.le_of_ble_eq_true rfl, Nat.le_of_ble_eq_true rfl⟩ dX1_writeTree_93 ?_
                      refine lv_iload_n hx hb dX1_writeTree_96 rfl (lv_at hl 3 rfl) ?_
                      refine lv_iconst (v := nI 2) hx hb dX1_writeTree_97 (by decide) ?_
                      refine cM_V (As := [.int (nI (((2 ^ (i + 1) - 1 + j) - 1) / 2)), .int (nI (2 ^ (i + 1) - 1 + j)), .int (nI 2)]) (rest := []) (wr := []) X (c_X1_sendWhole l G cI cZ h0 ht qa qb (dpl ln + i) ln lz (bld (tD ln lz i) (tF2 lz (dpl ln + i) (i + 1)) j) tb (((2 ^ (i + 1) - 1 + j) - 1) / 2) (2 ^ (i + 1) - 1 + j) 2 (by first | assumption | omega) (by rw [bld_len]; have := tD_len (z := lz) hn9 i; omega)) lk_X1_85 hd hA [0, 1] [] rfl rfl rfl rfl (by decide) rfl rfl hl.1 rfl rfl (Nat.le_of_ble_eq_true rfl) ⟨Nat.le_of_ble_eq_true rfl, Nat.le_of_ble_eq_true rfl⟩ ⟨Nat.le_of_ble_eq_true rfl, Nat.le_of_ble_eq_true rfl⟩ dX1_writeTree_98 (fun v w1 H locs hp hd => ?_)
                      obtain ⟨tb98, rfl, rfl, hT98⟩ := hp
                      have hd : Hd G A s.heap [(h0, .inr (1, [.ref ht, .int (nI (((bld (tD ln lz i) (tF2 lz (dpl ln + i) (i + 1)) j) ++ [[(dpl ln + i), (((2 ^ (i + 1) - 1 + j) - 1) / 2), (2 ^ (i + 1) - 1 + j), 0, lz, 2]]).length)), .int (nI (dpl ln + i)), .int (nI ln), .int (nI lz), .ref qa, .ref qb])), (ht, .inl (cI, 864, .inl tb98))] H locs := hd
                      refine st_all (st' := []) rfl ?_
                      rw [show ((bld (tD ln lz i) (tF2 lz (dpl ln + i) (i + 1)) j) ++ [[(dpl ln + i), (((2 ^ (i + 1) - 1 + j) - 1) / 2), (2 ^ (i + 1) - 1 + j), 0, lz, 2]]) = bld (tD ln lz i) (tF2 lz (dpl ln + i) (i + 1)) (j + 1) from rfl] at hd hT98
                      have hd : Hd G A s.heap [(h0, .inr (1, [.ref ht, .int (nI ((bld (tD ln lz i) (tF2 lz (dpl ln + i) (i + 1)) (j + 1)).length)), .int (nI (dpl ln + i)), .int (nI ln), .int (nI lz), .ref qa, .ref qb])), (ht, .inl (cI, 864, .inl tb98))] H locs := hd
                      refine lv_iinc (v := nI ((2 ^ (i + 1) - 1 + j) + 1)) (lv' := [(3, .int (nI ((2 ^ (i + 1) - 1 + j) + 1))), (0, .ref h0), (1, .int (nI (dpl ln))), (2, .int (nI (i + 1)))]) hx hb dX1_writeTree_101 hl (k := 3) rfl (nI_1 _) (by decide) rfl (fun ls hl => ?_)
                      refine lv_goto (tgt := 73) hx hb dX1_writeTree_104 (by decide) ?_
                      have hl : lv_has ls 4 [(3, .int (nI (2 ^ (i + 1) - 1 + (j + 1)))), (0, .ref h0), (1, .int (nI (dpl ln))), (2, .int (nI (i + 1)))] := lv_rep hl (congrArg (fun z_ : Int32 => ([(3, .int z_), (0, .ref h0), (1, .int (nI (dpl ln))), (2, .int (nI (i + 1)))] : List (Nat × Value))) (show (nI ((2 ^ (i + 1) - 1 + j) + 1) : Int32) = nI (2 ^ (i + 1) - 1 + (j + 1)) from by first | rfl | (congr 1; omega)))
                      exact ih73  (j + 1) tb98 (by omega) hT98 (by omega) _ _ (hd.sub [0, 1] rfl rfl) _ (lv_sub hl [1, 2, 3, 0] rfl)
              have hl : lv_has ls 4 [(3, .int (nI (2 ^ (i + 1) - 1 + 0))), (0, .ref h0), (1, .int (nI (dpl ln))), (2, .int (nI (i + 1)))] := lv_rep hl (congrArg (fun z_ : Int32 => ([(3, .int z_), (0, .ref h0), (1, .int (nI (dpl ln))), (2, .int (nI (i + 1)))] : List (Nat × Value))) (show (nI (2 ^ (i + 1) - 1) : Int32) = nI (2 ^ (i + 1) - 1 + 0) from rfl))
              have hd : Hd G A s.heap [(h0, .inr (1, [.ref ht, .int (nI ((bld (tD ln lz i) (tF2 lz (dpl ln + i) (i + 1)) 0).length)), .int (nI (dpl ln + i)), .int (nI ln), .int (nI lz), .ref qa, .ref qb])), (ht, .inl (cI, 864, .inl tb))] H locs := hd.cong (congrArg (fun z_ : Int32 => ([(h0, .inr (1, [.ref ht, .int z_, .int (nI (dpl ln + i)), .int (nI ln), .int (nI lz), .ref qa, .ref qb])), (ht, .inl (cI, 864, .inl tb))] : va_W)) (show (nI ((tD ln lz i).length) : Int32) = nI ((bld (tD ln lz i) (tF2 lz (dpl ln + i) (i + 1)) 0).length) from rfl))
              exact LP73 ((tcn ln (i + 1) - 0) + 1) 0 tb (Nat.zero_le _) htb (Nat.lt_succ_self _) _ _ (hd.sub [0, 1] rfl rfl) _ (lv_sub hl [1, 2, 3, 0] rfl)
        have hl : lv_has ls 4 [(2, .int (nI (0 + 1))), (0, .ref h0), (1, .int (nI (dpl ln)))] := lv_rep hl (congrArg (fun z_ : Int32 => ([(2, .int z_), (0, .ref h0), (1, .int (nI (dpl ln)))] : List (Nat × Value))) (show (nI 1 : Int32) = nI (0 + 1) from rfl))
        have hd : Hd G A s.heap [(h0, .inr (1, [.ref ht, .int (nI ((tD ln lz 0).length)), .int (nI i), .int (nI ln), .int (nI lz), .ref qa, .ref qb])), (ht, .inl (cI, 864, .inl tb))] H locs := hd.cong (congrArg (fun z_ : Int32 => ([(h0, .inr (1, [.ref ht, .int z_, .int (nI i), .int (nI ln), .int (nI lz), .ref qa, .ref qb])), (ht, .inl (cI, 864, .inl tb))] : va_W)) (show (nI ((tU ln lz i).length) : Int32) = nI ((tD ln lz 0).length) from by rw [tD, show dpl ln = i by omega]))
        have hd : Hd G A s.heap [(h0, .inr (1, [.ref ht, .int (nI ((tD ln lz 0).length)), .int (nI (dpl ln + 0)), .int (nI ln), .int (nI lz), .ref qa, .ref qb])), (ht, .inl (cI, 864, .inl tb))] H locs := hd.cong (congrArg (fun z_ : Int32 => ([(h0, .inr (1, [.ref ht, .int (nI ((tD ln lz 0).length)), .int z_, .int (nI ln), .int (nI lz), .ref qa, .ref qb])), (ht, .inl (cI, 864, .inl tb))] : va_W)) (show (nI i : Int32) = nI (dpl ln + 0) from by rw [show dpl ln = i by omega]; rfl))
        exact LP63 ((dpl ln - 0) + 1) 0 tb (by omega) (by rw [tD, show dpl ln = i by omega]; exact htb) (Nat.lt_succ_self _) _ _ (hd.sub [0, 1] rfl rfl) _ (lv_sub hl [1, 2, 0] rfl)
      · have hp := p2ge c_9
        have hp2 : 2 ^ (dpl ln - i + 1) = 2 * 2 ^ (dpl ln - i) := by rw [Nat.pow_succ, Nat.mul_comm]
        have hp3 : 2 ^ (dpl ln - i) ≤ 8 := Nat.pow_le_pow_right (n := 2) (j := 3) (by decide) (by omega)
        have htc : tcn ln (dpl ln - i) = min ln (2 ^ (dpl ln - i + 1) - 1) - (2 ^ (dpl ln - i) - 1) := rfl
        refine lv_iload_n hx hb dX1_writeTree_12 rfl (lv_at hl 2 rfl) ?_
        refine cR_S (As := [.int (nI (dpl ln - i))]) (rest := []) X (c_X1_firstOnLevel l G cI cZ (dpl ln - i) (by first | assumption | omega)) lk_X1_104 (hd.1.sub (ws' := []) [] rfl) hl.1 rfl rfl (Nat.le_of_ble_eq_true rfl) ⟨Nat.le_of_ble_eq_true rfl, Nat.le_of_ble_eq_true rfl⟩ ⟨Nat.le_of_ble_eq_true rfl, Nat.le_of_ble_eq_true rfl⟩ dX1_writeTree_13 ?_
        refine lv_istore_n (lv' := [(3, .int (nI (2 ^ (dpl ln - i) - 1))), (0, .ref h0), (1, .int (nI (dpl ln))), (2, .int (nI (dpl ln - i)))]) hx hb dX1_writeTree_16 rfl hl (by decide) rfl (fun ls hl => ?_)
        have LP17 : ∀ (fu : Nat) (j : Nat) (tb : Nat → Int32), (j ≤ tcn ln (dpl ln - i)) → (LTc tb (bld (tU ln lz i) (tF1 lz i (dpl ln - i)) j)) → (tcn ln (dpl ln - i) - j) < fu → ∀ (H : Heap) (locs : List Loc), Hd G A s.heap [(h0, .inr (1, [.ref ht, .int (nI ((bld (tU ln lz i) (tF1 lz i (dpl ln - i)) j).length)), .int (nI i), .int (nI ln), .int (nI lz), .ref qa, .ref qb])), (ht, .inl (cI, 864, .inl tb))] H locs → ∀ (ls : Array Slot), lv_has ls 4 [(0, .ref h0), (1, .int (nI (dpl ln))), (2, .int (nI (dpl ln - i))), (3, .int (nI (2 ^ (dpl ln - i) - 1 + j)))] → W p l e ({ frames := 2, cells := 0, slots := 0, locals := 49 } : Room) s m args below meth c H locs 0 0 Q (F0 m 17 ls []) := by
          intro fu
          induction fu with
          | zero =>
            intro j tb hj htb hfu
            exact absurd hfu (Nat.not_lt_zero _)
          | succ fu ih17 =>
            intro j tb hj htb hfu H locs hd ls hl
            refine lv_iload_n hx hb dX1_writeTree_17 rfl (lv_at hl 3 rfl) ?_
            refine lv_aload_n hx hb dX1_writeTree_18 rfl (lv_at hl 0 rfl) ?_
            refine x_get (C := RX1) (T := TX1) (N := 7) (ci := 1) 3 inT_X1 rfl (by decide) lf_X1_22 rfl X hd.1 0 rfl rfl dX1_writeTree_19 ?_
            refine n_icmp_ge (tgt := 51) hx hb dX1_writeTree_22 (by decide) (by omega) (by omega) (fun c_22 => ?_) (fun c_22 => ?_)
            · rw [show (bld (tU ln lz i) (tF1 lz i (dpl ln - i)) j) = tU ln lz (i + 1) from by rw [show j = tcn ln (dpl ln - i) by omega]; rfl] at hd htb
              have hd : Hd G A s.heap [(h0, .inr (1, [.ref ht, .int (nI ((tU ln lz (i + 1)).length)), .int (nI i), .int (nI ln), .int (nI lz), .ref qa, .ref qb])), (ht, .inl (cI, 864, .inl tb))] H locs := hd
              refine lv_aload_n hx hb dX1_writeTree_51 rfl (lv_at hl 0 rfl) ?_
              refine cM_V (As := []) (rest := []) (wr := [(ht, .inl (cI, 864, .inl tb))]) X (c_X1_endRound l G cI cZ h0 ht qa qb i ln lz ((tU ln lz (i + 1)).length) ) lk_X1_75 hd hA [0] [1] rfl rfl rfl rfl (by decide) rfl rfl hl.1 rfl rfl (Nat.le_of_ble_eq_true rfl) ⟨Nat.le_of_ble_eq_true rfl, Nat.le_of_ble_eq_true rfl⟩ ⟨Nat.le_of_ble_eq_true rfl, Nat.le_of_ble_eq_true rfl⟩ dX1_writeTree_52 (fun v w1 H locs hp hd => ?_)
              obtain ⟨rfl, rfl⟩ := hp
              have hd : Hd G A s.heap [(ht, .inl (cI, 864, .inl tb)), (h0, .inr (1, [.ref ht, .int (nI ((tU ln lz (i + 1)).length)), .int (nI (i + 1)), .int (nI ln), .int (nI lz), .ref qa, .ref qb]))] H locs := hd
              refine st_all (st' := []) rfl ?_
              refine lv_iinc (v := (nI (dpl ln - i)) + (-1)) (lv' := [(2, .int ((nI (dpl ln - i)) + (-1))), (0, .ref h0), (1, .int (nI (dpl ln))), (3, .int (nI (2 ^ (dpl ln - i) - 1 + j)))]) hx hb dX1_writeTree_55 hl (k := 2) rfl (rfl) (by decide) rfl (fun ls hl => ?_)
              refine lv_goto (tgt := 7) hx hb dX1_writeTree_58 (by decide) ?_
              have hl : lv_has ls 4 [(2, .int (nI (dpl ln - (i + 1)))), (0, .ref h0), (1, .int (nI (dpl ln))), (3, .int (nI (2 ^ (dpl ln - i) - 1 + j)))] := lv_rep hl (congrArg (fun z_ : Int32 => ([(2, .int z_), (0, .ref h0), (1, .int (nI (dpl ln))), (3, .int (nI (2 ^ (dpl ln - i) - 1 + j)))] : List (Nat × Value))) (show ((nI (dpl ln - i)) + (-1) : Int32) = nI (dpl ln - (i + 1)) from by rw [sb_m1 (by omega)]; rfl))
              exact ih7  (i + 1) tb (by omega) htb (by omega) _ _ (hd.sub [1, 0] rfl rfl) _ (lv_sub hl [1, 2, 0] rfl)
            · refine lv_iload_n hx hb dX1_writeTree_25 rfl (lv_at hl 3 rfl) ?_
              refine lv_iload_n hx hb dX1_writeTree_26 rfl (lv_at hl 2 rfl) ?_
              refine lv_iconst (v := nI 1) hx hb dX1_writeTree_27 (by decide) ?_
              refine n_add hx hb dX1_writeTree_28  ?_
              refine cR_S (As := [.int (nI ((dpl ln - i) + 1))]) (rest := [.int (nI (2 ^ (dpl ln - i) - 1 + j))]) X (c_X1_firstOnLevel l G cI cZ ((dpl ln - i) + 1) (by first | assumption | omega)) lk_X1_104 (hd.1.sub (ws' := []) [] rfl) hl.1 rfl rfl (Nat.le_of_ble_eq_true rfl) ⟨Nat.le_of_ble_eq_true rfl, Nat.le_of_ble_eq_true rfl⟩ ⟨Nat.le_of_ble_eq_true rfl, Nat.le_of_ble_eq_true rfl⟩ dX1_writeTree_29 ?_
              refine n_icmp_ge (tgt := 51) hx hb dX1_writeTree_32 (by decide) (by omega) (by omega) (fun c_32 => ?_) (fun c_32 => ?_)
              · rw [show (bld (tU ln lz i) (tF1 lz i (dpl ln - i)) j) = tU ln lz (i + 1) from by rw [show j = tcn ln (dpl ln - i) by omega]; rfl] at hd htb
                have hd : Hd G A s.heap [(h0, .inr (1, [.ref ht, .int (nI ((tU ln lz (i + 1)).length)), .int (nI i), .int (nI ln), .int (nI lz), .ref qa, .ref qb])), (ht, .inl (cI, 864, .inl tb))] H locs := hd
                refine lv_aload_n hx hb dX1_writeTree_51 rfl (lv_at hl 0 rfl) ?_
                refine cM_V (As := []) (rest := []) (wr := [(ht, .inl (cI, 864, .inl tb))]) X (c_X1_endRound l G cI cZ h0 ht qa qb i ln lz ((tU ln lz (i + 1)).length) ) lk_X1_75 hd hA [0] [1] rfl rfl rfl rfl (by decide) rfl rfl hl.1 rfl rfl (Nat.le_of_ble_eq_true rfl) ⟨Nat.le_of_ble_eq_true rfl, Nat.le_of_ble_eq_true rfl⟩ ⟨Nat.le_of_ble_eq_true rfl, Nat.le_of_ble_eq_true rfl⟩ dX1_writeTree_52 (fun v w1 H locs hp hd => ?_)
                obtain ⟨rfl, rfl⟩ := hp
                have hd : Hd G A s.heap [(ht, .inl (cI, 864, .inl tb)), (h0, .inr (1, [.ref ht, .int (nI ((tU ln lz (i + 1)).length)), .int (nI (i + 1)), .int (nI ln), .int (nI lz), .ref qa, .ref qb]))] H locs := hd
                refine st_all (st' := []) rfl ?_
                refine lv_iinc (v := (nI (dpl ln - i)) + (-1)) (lv' := [(2, .int ((nI (dpl ln - i)) + (-1))), (0, .ref h0), (1, .int (nI (dpl ln))), (3, .int (nI (2 ^ (dpl ln - i) - 1 + j)))]) hx hb dX1_writeTree_55 hl (k := 2) rfl (rfl) (by decide) rfl (fun ls hl => ?_)
                refine lv_goto (tgt := 7) hx hb dX1_writeTree_58 (by decide) ?_
                have hl : lv_has ls 4 [(2, .int (nI (dpl ln - (i + 1)))), (0, .ref h0), (1, .int (nI (dpl ln))), (3, .int (nI (2 ^ (dpl ln - i) - 1 + j)))] := lv_rep hl (congrArg (fun z_ : Int32 => ([(2, .int z_), (0, .ref h0), (1, .int (nI (dpl ln))), (3, .int (nI (2 ^ (dpl ln - i) - 1 + j)))] : List (Nat × Value))) (show ((nI (dpl ln - i)) + (-1) : Int32) = nI (dpl ln - (i + 1)) from by rw [sb_m1 (by omega)]; rfl))
                exact ih7  (i + 1) tb (by omega) htb (by omega) _ _ (hd.sub [1, 0] rfl rfl) _ (lv_sub hl [1, 2, 0] rfl)
              · refine lv_aload_n hx hb dX1_writeTree_35 rfl (lv_at hl 0 rfl) ?_
                refine lv_iload_n hx hb dX1_writeTree_36 rfl (lv_at hl 3 rfl) ?_
                refine lv_iload_n hx hb dX1_writeTree_37 rfl (lv_at hl 3 rfl) ?_
                refine cR_S (As := [.int (nI (2 ^ (dpl ln - i) - 1 + j))]) (rest := [.int (nI (2 ^ (dpl ln - i) - 1 + j)), .ref h0]) X (c_X1_upper l G cI cZ (2 ^ (dpl ln - i) - 1 + j) (by first | assumption | omega) (by first | assumption | omega)) lk_X1_107 (hd.1.sub (ws' := []) [] rfl) hl.1 rfl rfl (Nat.le_of_ble_eq_true rfl) ⟨Nat.le_of_ble_eq_true rfl, Nat.le_of_ble_eq_true rfl⟩ ⟨Nat.le_of_ble_eq_true rfl, Nat.le_of_ble_eq_true rfl⟩ dX1_writeTree_38 ?_
                refine lv_iconst (v := nI 0) hx hb dX1_writeTree_41 (by decide) ?_
                refine cM_V (As := [.int (nI (2 ^ (dpl ln - i) - 1 + j)), .int (nI (((2 ^ (dpl ln - i) - 1 + j) - 1) / 2)), .int (nI 0)]) (rest := []) (wr := []) X (c_X1_sendWhole l G cI cZ h0 ht qa qb i ln lz (bld (tU ln lz i) (tF1 lz i (dpl ln - i)) j) tb (2 ^ (dpl ln - i) - 1 + j) (((2 ^ (dpl ln - i) - 1 + j) - 1) / 2) 0 (by first | assumption | omega) (by rw [bld_len]; have := tU_len (z := lz) hn9 i; omega)) lk_X1_85 hd hA [0, 1] [] rfl rfl rfl rfl (by decide) rfl rfl hl.1 rfl rfl (Nat.le_of_ble_eq_true rfl) ⟨Nat.le_of_ble_eq_true rfl, Nat.le_of_ble_eq_true rfl⟩ ⟨Nat.le_of_ble_eq_true rfl, Nat.le_of_ble_eq_true rfl⟩ dX1_writeTree_42 (fun v w1 H locs hp hd => ?_)
                obtain ⟨tb42, rfl, rfl, hT42⟩ := hp
                have hd : Hd G A s.heap [(h0, .inr (1, [.ref ht, .int (nI (((bld (tU ln lz i) (tF1 lz i (dpl ln - i)) j) ++ [[i, (2 ^ (dpl ln - i) - 1 + j), (((2 ^ (dpl ln - i) - 1 + j) - 1) / 2), 0, lz, 0]]).length)), .int (nI i), .int (nI ln), .int (nI lz), .ref qa, .ref qb])), (ht, .inl (cI, 864, .inl tb42))] H locs := hd
                refine st_all (st' := []) rfl ?_
                rw [show ((bld (tU ln lz i) (tF1 lz i (dpl ln - i)) j) ++ [[i, (2 ^ (dpl ln - i) - 1 + j), (((2 ^ (dpl ln - i) - 1 + j) - 1) / 2), 0, lz, 0]]) = bld (tU ln lz i) (tF1 lz i (dpl ln - i)) (j + 1) from rfl] at hd hT42
                have hd : Hd G A s.heap [(h0, .inr (1, [.ref ht, .int (nI ((bld (tU ln lz i) (tF1 lz i (dpl ln - i)) (j + 1)).length)), .int (nI i), .int (nI ln), .int (nI lz), .ref qa, .ref qb])), (ht, .inl (cI, 864, .inl tb42))] H locs := hd
                refine lv_iinc (v := nI ((2 ^ (dpl ln - i) - 1 + j) + 1)) (lv' := [(3, .int (nI ((2 ^ (dpl ln - i) - 1 + j) + 1))), (0, .ref h0), (1, .int (nI (dpl ln))), (2, .int (nI (dpl ln - i)))]) hx hb dX1_writeTree_45 hl (k := 3) rfl (nI_1 _) (by decide) rfl (fun ls hl => ?_)
                refine lv_goto (tgt := 17) hx hb dX1_writeTree_48 (by decide) ?_
                have hl : lv_has ls 4 [(3, .int (nI (2 ^ (dpl ln - i) - 1 + (j + 1)))), (0, .ref h0), (1, .int (nI (dpl ln))), (2, .int (nI (dpl ln - i)))] := lv_rep hl (congrArg (fun z_ : Int32 => ([(3, .int z_), (0, .ref h0), (1, .int (nI (dpl ln))), (2, .int (nI (dpl ln - i)))] : List (Nat × Value))) (show (nI ((2 ^ (dpl ln - i) - 1 + j) + 1) : Int32) = nI (2 ^ (dpl ln - i) - 1 + (j + 1)) from by first | rfl | (congr 1; omega)))
                exact ih17  (j + 1) tb42 (by omega) hT42 (by omega) _ _ (hd.sub [0, 1] rfl rfl) _ (lv_sub hl [1, 2, 3, 0] rfl)
        have hl : lv_has ls 4 [(3, .int (nI (2 ^ (dpl ln - i) - 1 + 0))), (0, .ref h0), (1, .int (nI (dpl ln))), (2, .int (nI (dpl ln - i)))] := lv_rep hl (congrArg (fun z_ : Int32 => ([(3, .int z_), (0, .ref h0), (1, .int (nI (dpl ln))), (2, .int (nI (dpl ln - i)))] : List (Nat × Value))) (show (nI (2 ^ (dpl ln - i) - 1) : Int32) = nI (2 ^ (dpl ln - i) - 1 + 0) from rfl))
        have hd : Hd G A s.heap [(h0, .inr (1, [.ref ht, .int (nI ((bld (tU ln lz i) (tF1 lz i (dpl ln - i)) 0).length)), .int (nI i), .int (nI ln), .int (nI lz), .ref qa, .ref qb])), (ht, .inl (cI, 864, .inl tb))] H locs := hd.cong (congrArg (fun z_ : Int32 => ([(h0, .inr (1, [.ref ht, .int z_, .int (nI i), .int (nI ln), .int (nI lz), .ref qa, .ref qb])), (ht, .inl (cI, 864, .inl tb))] : va_W)) (show (nI ((tU ln lz i).length) : Int32) = nI ((bld (tU ln lz i) (tF1 lz i (dpl ln - i)) 0).length) from rfl))
        exact LP17 ((tcn ln (dpl ln - i) - 0) + 1) 0 tb (Nat.zero_le _) htb (Nat.lt_succ_self _) _ _ (hd.sub [0, 1] rfl rfl) _ (lv_sub hl [1, 2, 3, 0] rfl)
  have hl : lv_has ls 4 [(2, .int (nI (dpl ln - 0))), (1, .int (nI (dpl ln))), (0, .ref h0)] := lv_rep hl (congrArg (fun z_ : Int32 => ([(2, .int z_), (1, .int (nI (dpl ln))), (0, .ref h0)] : List (Nat × Value))) (show (nI (dpl ln) : Int32) = nI (dpl ln - 0) from rfl))
  have hd : Hd G A s.heap [(h0, .inr (1, [.ref ht, .int (nI ((tU ln lz 0).length)), .int (nI 0), .int (nI ln), .int (nI lz), .ref qa, .ref qb])), (ht, .inl (cI, 864, .inl tb0))] s.heap [] := hd.cong (congrArg (fun z_ : Int32 => ([(h0, .inr (1, [.ref ht, .int z_, .int (nI 0), .int (nI ln), .int (nI lz), .ref qa, .ref qb])), (ht, .inl (cI, 864, .inl tb0))] : va_W)) (show (nI 0 : Int32) = nI ((tU ln lz 0).length) from rfl))
  exact LP7 ((dpl ln - 0) + 1) 0 tb0 (by omega) (LTc_0 _) (Nat.lt_succ_self _) _ _ (hd.sub [0, 1] rfl rfl) _ (lv_sub hl [2, 1, 0] rfl)

set_option maxHeartbeats 4000000 in
set_option maxRecDepth 100000 in
theorem c_X1_writeHalving (l : Launch) (G : va_G) (cI cZ : ClassId) (h0 : Nat) (ht : Nat) (qa : Nat) (qb : Nat) (rd : Nat) (ln : Nat) (lz : Nat) (L : List (List Nat)) (tb : Nat → Int32) (sf : Nat → Nat) (sl_ : Nat → Nat) (lo : Nat → Nat) (sp : Nat → Nat) (P : Nat) (d : Nat) (htb : LTc tb L) (hLen : L.length + P ≤ 144) (hP8 : P ≤ 8) (hdd : dd d) (hspb : ∀ m, sp m ≤ 99) (hsf : ∀ m, m < P → sf m = lo m) (hsl : ∀ m, m < P → sl_ m = sp m) : CM l G cI cZ yX1_writeHalving cX1_writeHalving 7 none 1 26 0 0 [.ref h0, .int (nI P), .int (nI d)] [(h0, .inr (1, [.ref ht, .int (nI L.length), .int (nI rd), .int (nI ln), .int (nI lz), .ref qa, .ref qb])), (ht, .inl (cI, 864, .inl tb)), (qa, .inl (cI, 9, .inl (nF sf))), (qb, .inl (cI, 9, .inl (nF sl_)))] (fun ov_ wv_ => ∃ tb2 : Nat → Int32, ∃ sf2 : Nat → Nat, ∃ sl2 : Nat → Nat, ov_ = none ∧ wv_ = [(h0, .inr (1, [.ref ht, .int (nI ((bld L (hF rd lo sp d) P).length)), .int (nI (rd + 1)), .int (nI ln), .int (nI lz), .ref qa, .ref qb])), (ht, .inl (cI, 864, .inl tb2)), (qa, .inl (cI, 9, .inl (nF sf2))), (qb, .inl (cI, 9, .inl (nF sl2)))] ∧ (LTc tb2 (bld L (hF rd lo sp d) P)) ∧ (∀ m, m < P → sf2 m = nlo lo sp d m) ∧ (∀ m, m < P → sl2 m = nsp sp d m)) := by
  refine CM.of (own := RX1) (by decide) rfl (Nat.le_of_ble_eq_true rfl) ?_
  intro p e R s m args below meth c Q A X hR hret hnm hA fin hd ls hl
  subst hR
  have hx := X.1
  have hb := X.2.1
  have hl : lv_has ls 7 [(0, .ref h0), (1, .int (nI P)), (2, .int (nI d))] := hl
  refine lv_iconst (v := nI 0) hx hb dX1_writeHalving_0 (by decide) ?_
  refine lv_istore_n (lv' := [(3, .int (nI 0)), (0, .ref h0), (1, .int (nI P)), (2, .int (nI d))]) hx hb dX1_writeHalving_1 rfl hl (by decide) rfl (fun ls hl => ?_)
  have LP2 : ∀ (fu : Nat) (i : Nat) (tb : Nat → Int32) (sf : Nat → Nat) (sl_ : Nat → Nat), (i ≤ P) → (LTc tb (bld L (hF rd lo sp d) i)) → (∀ m, m < P → sf m = stp (nlo lo sp d) lo i m) → (∀ m, m < P → sl_ m = stp (nsp sp d) sp i m) → (P - i) < fu → ∀ (H : Heap) (locs : List Loc), Hd G A s.heap [(h0, .inr (1, [.ref ht, .int (nI ((bld L (hF rd lo sp d) i).length)), .int (nI rd), .int (nI ln), .int (nI lz), .ref qa, .ref qb])), (ht, .inl (cI, 864, .inl tb)), (qa, .inl (cI, 9, .inl (nF sf))), (qb, .inl (cI, 9, .inl (nF sl_)))] H locs → ∀ (ls : Array Slot), lv_has ls 7 [(0, .ref h0), (1, .int (nI P)), (2, .int (nI d)), (3, .int (nI i))] → W p l e ({ frames := 1, cells := 0, slots := 0, locals := 26 } : Room) s m args below meth c H locs 0 0 Q (F0 m 2 ls []) := by
    intro fu
    induction fu with
    | zero =>
      intro i tb sf sl_ hi htb h2 h3 hfu
      exact absurd hfu (Nat.not_lt_zero _)
    | succ fu ih2 =>
      intro i tb sf sl_ hi htb h2 h3 hfu H locs hd ls hl
      refine lv_iload_n hx hb dX1_writeHalving_2 rfl (lv_at hl 3 rfl) ?_
      refine lv_iload_n hx hb dX1_writeHalving_3 rfl (lv_at hl 1 rfl) ?_
      refine n_icmp_ge (tgt := 113) hx hb dX1_writeHalving_4 (by decide) (by omega) (by omega) (fun c_4 => ?_) (fun c_4 => ?_)
      · rw [show (bld L (hF rd lo sp d) i) = bld L (hF rd lo sp d) P from by rw [show i = P by omega]] at hd htb
        have hd : Hd G A s.heap [(h0, .inr (1, [.ref ht, .int (nI ((bld L (hF rd lo sp d) P).length)), .int (nI rd), .int (nI ln), .int (nI lz), .ref qa, .ref qb])), (ht, .inl (cI, 864, .inl tb)), (qa, .inl (cI, 9, .inl (nF sf))), (qb, .inl (cI, 9, .inl (nF sl_)))] H locs := hd
        refine lv_aload_n hx hb dX1_writeHalving_113 rfl (lv_at hl 0 rfl) ?_
        refine cM_V (As := []) (rest := []) (wr := [(ht, .inl (cI, 864, .inl tb)), (qa, .inl (cI, 9, .inl (nF sf))), (qb, .inl (cI, 9, .inl (nF sl_)))]) X (c_X1_endRound l G cI cZ h0 ht qa qb rd ln lz ((bld L (hF rd lo sp d) P).length) ) lk_X1_75 hd hA [0] [1, 2, 3] rfl rfl rfl rfl (by decide) rfl rfl hl.1 rfl rfl (Nat.le_of_ble_eq_true rfl) ⟨Nat.le_of_ble_eq_true rfl, Nat.le_of_ble_eq_true rfl⟩ ⟨Nat.le_of_ble_eq_true rfl, Nat.le_of_ble_eq_true rfl⟩ dX1_writeHalving_114 (fun v w1 H locs hp hd => ?_)
        obtain ⟨rfl, rfl⟩ := hp
        have hd : Hd G A s.heap [(ht, .inl (cI, 864, .inl tb)), (qa, .inl (cI, 9, .inl (nF sf))), (qb, .inl (cI, 9, .inl (nF sl_))), (h0, .inr (1, [.ref ht, .int (nI ((bld L (hF rd lo sp d) P).length)), .int (nI (rd + 1)), .int (nI ln), .int (nI lz), .ref qa, .ref qb]))] H locs := hd
        refine st_all (st' := []) rfl ?_
        exact (fin _ _ [(h0, .inr (1, [.ref ht, .int (nI ((bld L (hF rd lo sp d) P).length)), .int (nI (rd + 1)), .int (nI ln), .int (nI lz), .ref qa, .ref qb])), (ht, .inl (cI, 864, .inl tb)), (qa, .inl (cI, 9, .inl (nF sf))), (qb, .inl (cI, 9, .inl (nF sl_)))] _ _ (hd.sub [3, 0, 1, 2] rfl rfl)).1 rfl ⟨tb, sf, sl_, rfl, rfl, htb, stp_e h2 (by omega), stp_e h3 (by omega)⟩ dX1_writeHalving_117
      · refine lv_iload_n hx hb dX1_writeHalving_7 rfl (lv_at hl 3 rfl) ?_
        refine lv_bipush (v := nI 9) hx hb dX1_writeHalving_8 (by decide) ?_
        refine n_icmp_ge (tgt := 113) hx hb dX1_writeHalving_10 (by decide) (by omega) (by omega) (fun c_10 => ?_) (fun c_10 => ?_)
        · exfalso; omega
        · refine lv_aload_n hx hb dX1_writeHalving_13 rfl (lv_at hl 0 rfl) ?_
          refine x_get (C := RX1) (T := TX1) (N := 7) (ci := 1) 5 inT_X1 rfl (by decide) lf_X1_28 rfl X hd.1 0 rfl rfl dX1_writeHalving_14 ?_
          refine lv_iload_n hx hb dX1_writeHalving_17 rfl (lv_at hl 3 rfl) ?_
          refine n_iald X hd.1 2 rfl (by omega) (by decide) dX1_writeHalving_18 ?_
          refine st_eq (show (nF sf) i = nI (sf i) from rfl) ?_
          refine st_eq (show (nI (sf i) : Int32) = nI (lo i) from by rw [h2 i (by omega), stp_at]) ?_
          refine lv_istore (lv' := [(4, .int (nI (lo i))), (0, .ref h0), (1, .int (nI P)), (2, .int (nI d)), (3, .int (nI i))]) hx hb dX1_writeHalving_19 hl (by decide) rfl (fun ls hl => ?_)
          refine lv_aload_n hx hb dX1_writeHalving_21 rfl (lv_at hl 1 rfl) ?_
          refine x_get (C := RX1) (T := TX1) (N := 7) (ci := 1) 6 inT_X1 rfl (by decide) lf_X1_31 rfl X hd.1 0 rfl rfl dX1_writeHalving_22 ?_
          refine lv_iload_n hx hb dX1_writeHalving_25 rfl (lv_at hl 4 rfl) ?_
          refine n_iald X hd.1 3 rfl (by omega) (by decide) dX1_writeHalving_26 ?_
          refine st_eq (show (nF sl_) i = nI (sl_ i) from rfl) ?_
          refine st_eq (show (nI (sl_ i) : Int32) = nI (sp i) from by rw [h3 i (by omega), stp_at]) ?_
          refine lv_iconst (v := nI 2) hx hb dX1_writeHalving_27 (by decide) ?_
          refine n_div hx hb dX1_writeHalving_28 (by have := hspb i; omega) (by omega) (by omega) ?_
          refine lv_istore (lv' := [(5, .int (nI ((sp i) / 2))), (4, .int (nI (lo i))), (0, .ref h0), (1, .int (nI P)), (2, .int (nI d)), (3, .int (nI i))]) hx hb dX1_writeHalving_29 hl (by decide) rfl (fun ls hl => ?_)
          refine lv_aload_n hx hb dX1_writeHalving_31 rfl (lv_at hl 2 rfl) ?_
          refine x_get (C := RX1) (T := TX1) (N := 7) (ci := 1) 6 inT_X1 rfl (by decide) lf_X1_31 rfl X hd.1 0 rfl rfl dX1_writeHalving_32 ?_
          refine lv_iload_n hx hb dX1_writeHalving_35 rfl (lv_at hl 5 rfl) ?_
          refine n_iald X hd.1 3 rfl (by omega) (by decide) dX1_writeHalving_36 ?_
          refine st_eq (show (nF sl_) i = nI (sl_ i) from rfl) ?_
          refine st_eq (show (nI (sl_ i) : Int32) = nI (sp i) from by rw [h3 i (by omega), stp_at]) ?_
          refine lv_iload hx hb dX1_writeHalving_37 (lv_at hl 0 rfl) ?_
          refine n_sub hx hb dX1_writeHalving_39 (Nat.div_le_self _ _) ?_
          refine lv_istore (lv' := [(6, .int (nI ((sp i) - ((sp i) / 2)))), (5, .int (nI ((sp i) / 2))), (4, .int (nI (lo i))), (0, .ref h0), (1, .int (nI P)), (2, .int (nI d)), (3, .int (nI i))]) hx hb dX1_writeHalving_40 hl (by decide) rfl (fun ls hl => ?_)
          refine lv_iload_n hx hb dX1_writeHalving_42 rfl (lv_at hl 6 rfl) ?_
          refine lv_iload_n hx hb dX1_writeHalving_43 rfl (lv_at hl 5 rfl) ?_
          refine n_and hx hb dX1_writeHalving_44  ?_
          refine n_if_ne (tgt := 75) hx hb dX1_writeHalving_45 (by decide) (Nat.lt_of_le_of_lt Nat.and_le_left (by omega)) (fun c_45 => ?_) (fun c_45 => ?_)
          · refine lv_aload_n hx hb dX1_writeHalving_75 rfl (lv_at hl 3 rfl) ?_
            refine lv_iload_n hx hb dX1_writeHalving_76 rfl (lv_at hl 6 rfl) ?_
            refine lv_iload_n hx hb dX1_writeHalving_77 rfl (lv_at hl 6 rfl) ?_
            refine lv_iload_n hx hb dX1_writeHalving_78 rfl (lv_at hl 5 rfl) ?_
            refine n_sub hx hb dX1_writeHalving_79 ((xa2 (by omega) hdd c_45).1) ?_
            refine st_eq (show (nI (i - d) : Int32) = nI (i ^^^ d) from congrArg nI (xa2 (by omega) hdd c_45).2.1) ?_
            refine lv_iload hx hb dX1_writeHalving_80 (lv_at hl 2 rfl) ?_
            refine lv_iload hx hb dX1_writeHalving_82 (lv_at hl 1 rfl) ?_
            refine lv_iconst (v := nI 0) hx hb dX1_writeHalving_84 (by decide) ?_
            refine cM_V (As := [.int (nI i), .int (nI (i ^^^ d)), .int (nI (lo i)), .int (nI ((sp i) / 2)), .int (nI 0)]) (rest := []) (wr := [(qa, .inl (cI, 9, .inl (nF sf))), (qb, .inl (cI, 9, .inl (nF sl_)))]) X (c_X1_send l G cI cZ h0 ht qa qb rd ln lz (bld L (hF rd lo sp d) i) tb i (i ^^^ d) (lo i) ((sp i) / 2) 0 (by first | assumption | omega) (by rw [bld_len]; omega)) lk_X1_63 hd hA [0, 1] [2, 3] rfl rfl rfl rfl (by decide) rfl rfl hl.1 rfl rfl (Nat.le_of_ble_eq_true rfl) ⟨Nat.le_of_ble_eq_true rfl, Nat.le_of_ble_eq_true rfl⟩ ⟨Nat.le_of_ble_eq_true rfl, Nat.le_of_ble_eq_true rfl⟩ dX1_writeHalving_85 (fun v w1 H locs hp hd => ?_)
            obtain ⟨tb85, rfl, rfl, hT⟩ := hp
            have hd : Hd G A s.heap [(qa, .inl (cI, 9, .inl (nF sf))), (qb, .inl (cI, 9, .inl (nF sl_))), (h0, .inr (1, [.ref ht, .int (nI (((bld L (hF rd lo sp d) i) ++ [[rd, i, (i ^^^ d), (lo i), ((sp i) / 2), 0]]).length)), .int (nI rd), .int (nI ln), .int (nI lz), .ref qa, .ref qb])), (ht, .inl (cI, 864, .inl tb85))] H locs := hd
            refine st_all (st' := []) rfl ?_
            rw [show ((bld L (hF rd lo sp d) i) ++ [[rd, i, (i ^^^ d), (lo i), ((sp i) / 2), 0]]) = bld L (hF rd lo sp d) (i + 1) from by rw [bld, hF, if_neg c_45]] at hd hT
            have hd : Hd G A s.heap [(qa, .inl (cI, 9, .inl (nF sf))), (qb, .inl (cI, 9, .inl (nF sl_))), (h0, .inr (1, [.ref ht, .int (nI ((bld L (hF rd lo sp d) (i + 1)).length)), .int (nI rd), .int (nI ln), .int (nI lz), .ref qa, .ref qb])), (ht, .inl (cI, 864, .inl tb85))] H locs := hd
            refine lv_aload_n hx hb dX1_writeHalving_88 rfl (lv_at hl 3 rfl) ?_
            refine x_get (C := RX1) (T := TX1) (N := 7) (ci := 1) 5 inT_X1 rfl (by decide) lf_X1_28 rfl X hd.1 2 rfl rfl dX1_writeHalving_89 ?_
            refine lv_iload_n hx hb dX1_writeHalving_92 rfl (lv_at hl 6 rfl) ?_
            refine lv_iload hx hb dX1_writeHalving_93 (lv_at hl 2 rfl) ?_
            refine lv_iload hx hb dX1_writeHalving_95 (lv_at hl 1 rfl) ?_
            refine n_add hx hb dX1_writeHalving_97  ?_
            refine n_iast X hd 0 rfl (by omega) (by decide) dX1_writeHalving_98 (fun H locs hd => ?_)
            rw [upd_nF] at hd
            have hd : Hd G A s.heap [(qa, .inl (cI, 9, .inl (nF (updN sf i ((lo i) + ((sp i) / 2)))))), (qb, .inl (cI, 9, .inl (nF sl_))), (h0, .inr (1, [.ref ht, .int (nI ((bld L (hF rd lo sp d) (i + 1)).length)), .int (nI rd), .int (nI ln), .int (nI lz), .ref qa, .ref qb])), (ht, .inl (cI, 864, .inl tb85))] H locs := hd
            refine lv_aload_n hx hb dX1_writeHalving_99 rfl (lv_at hl 3 rfl) ?_
            refine x_get (C := RX1) (T := TX1) (N := 7) (ci := 1) 6 inT_X1 rfl (by decide) lf_X1_31 rfl X hd.1 2 rfl rfl dX1_writeHalving_100 ?_
            refine lv_iload_n hx hb dX1_writeHalving_103 rfl (lv_at hl 6 rfl) ?_
            refine lv_iload hx hb dX1_writeHalving_104 (lv_at hl 0 rfl) ?_
            refine n_iast X hd 1 rfl (by omega) (by decide) dX1_writeHalving_106 (fun H locs hd => ?_)
            rw [upd_nF] at hd
            have hd : Hd G A s.heap [(qa, .inl (cI, 9, .inl (nF (updN sf i ((lo i) + ((sp i) / 2)))))), (qb, .inl (cI, 9, .inl (nF (updN sl_ i ((sp i) - ((sp i) / 2)))))), (h0, .inr (1, [.ref ht, .int (nI ((bld L (hF rd lo sp d) (i + 1)).length)), .int (nI rd), .int (nI ln), .int (nI lz), .ref qa, .ref qb])), (ht, .inl (cI, 864, .inl tb85))] H locs := hd
            refine lv_iinc (v := nI (i + 1)) (lv' := [(3, .int (nI (i + 1))), (6, .int (nI ((sp i) - ((sp i) / 2)))), (5, .int (nI ((sp i) / 2))), (4, .int (nI (lo i))), (0, .ref h0), (1, .int (nI P)), (2, .int (nI d))]) hx hb dX1_writeHalving_107 hl (k := 6) rfl (nI_1 _) (by decide) rfl (fun ls hl => ?_)
            refine lv_goto (tgt := 2) hx hb dX1_writeHalving_110 (by decide) ?_
            exact ih2  (i + 1) tb85 (updN sf i ((lo i) + ((sp i) / 2))) (updN sl_ i ((sp i) - ((sp i) / 2))) (by omega) hT (stp_upd h2 (by simp [nlo, c_45])) (stp_upd h3 (by simp [nsp, c_45])) (by omega) _ _ (hd.sub [2, 3, 0, 1] rfl rfl) _ (lv_sub hl [4, 5, 6, 0] rfl)
          · refine lv_aload_n hx hb dX1_writeHalving_48 rfl (lv_at hl 3 rfl) ?_
            refine lv_iload_n hx hb dX1_writeHalving_49 rfl (lv_at hl 6 rfl) ?_
            refine lv_iload_n hx hb dX1_writeHalving_50 rfl (lv_at hl 6 rfl) ?_
            refine lv_iload_n hx hb dX1_writeHalving_51 rfl (lv_at hl 5 rfl) ?_
            refine n_add hx hb dX1_writeHalving_52  ?_
            refine st_eq (show (nI (i + d) : Int32) = nI (i ^^^ d) from congrArg nI (xa1 (by omega) hdd c_45)) ?_
            refine lv_iload hx hb dX1_writeHalving_53 (lv_at hl 2 rfl) ?_
            refine lv_iload hx hb dX1_writeHalving_55 (lv_at hl 1 rfl) ?_
            refine n_add hx hb dX1_writeHalving_57  ?_
            refine lv_iload hx hb dX1_writeHalving_58 (lv_at hl 0 rfl) ?_
            refine lv_iconst (v := nI 1) hx hb dX1_writeHalving_60 (by decide) ?_
            refine cM_V (As := [.int (nI i), .int (nI (i ^^^ d)), .int (nI ((lo i) + ((sp i) / 2))), .int (nI ((sp i) - ((sp i) / 2))), .int (nI 1)]) (rest := []) (wr := [(qa, .inl (cI, 9, .inl (nF sf))), (qb, .inl (cI, 9, .inl (nF sl_)))]) X (c_X1_send l G cI cZ h0 ht qa qb rd ln lz (bld L (hF rd lo sp d) i) tb i (i ^^^ d) ((lo i) + ((sp i) / 2)) ((sp i) - ((sp i) / 2)) 1 (by first | assumption | omega) (by rw [bld_len]; omega)) lk_X1_63 hd hA [0, 1] [2, 3] rfl rfl rfl rfl (by decide) rfl rfl hl.1 rfl rfl (Nat.le_of_ble_eq_true rfl) ⟨Nat.le_of_ble_eq_true rfl, Nat.le_of_ble_eq_true rfl⟩ ⟨Nat.le_of_ble_eq_true rfl, Nat.le_of_ble_eq_true rfl⟩ dX1_writeHalving_61 (fun v w1 H locs hp hd => ?_)
            obtain ⟨tb61, rfl, rfl, hT⟩ := hp
            have hd : Hd G A s.heap [(qa, .inl (cI, 9, .inl (nF sf))), (qb, .inl (cI, 9, .inl (nF sl_))), (h0, .inr (1, [.ref ht, .int (nI (((bld L (hF rd lo sp d) i) ++ [[rd, i, (i ^^^ d), ((lo i) + ((sp i) / 2)), ((sp i) - ((sp i) / 2)), 1]]).length)), .int (nI rd), .int (nI ln), .int (nI lz), .ref qa, .ref qb])), (ht, .inl (cI, 864, .inl tb61))] H locs := hd
            refine st_all (st' := []) rfl ?_
            rw [show ((bld L (hF rd lo sp d) i) ++ [[rd, i, (i ^^^ d), ((lo i) + ((sp i) / 2)), ((sp i) - ((sp i) / 2)), 1]]) = bld L (hF rd lo sp d) (i + 1) from by rw [bld, hF, if_pos c_45]] at hd hT
            have hd : Hd G A s.heap [(qa, .inl (cI, 9, .inl (nF sf))), (qb, .inl (cI, 9, .inl (nF sl_))), (h0, .inr (1, [.ref ht, .int (nI ((bld L (hF rd lo sp d) (i + 1)).length)), .int (nI rd), .int (nI ln), .int (nI lz), .ref qa, .ref qb])), (ht, .inl (cI, 864, .inl tb61))] H locs := hd
            refine lv_aload_n hx hb dX1_writeHalving_64 rfl (lv_at hl 3 rfl) ?_
            refine x_get (C := RX1) (T := TX1) (N := 7) (ci := 1) 6 inT_X1 rfl (by decide) lf_X1_31 rfl X hd.1 2 rfl rfl dX1_writeHalving_65 ?_
            refine lv_iload_n hx hb dX1_writeHalving_68 rfl (lv_at hl 6 rfl) ?_
            refine lv_iload hx hb dX1_writeHalving_69 (lv_at hl 1 rfl) ?_
            refine n_iast X hd 1 rfl (by omega) (by decide) dX1_writeHalving_71 (fun H locs hd => ?_)
            rw [upd_nF] at hd
            have hd : Hd G A s.heap [(qa, .inl (cI, 9, .inl (nF sf))), (qb, .inl (cI, 9, .inl (nF (updN sl_ i ((sp i) / 2))))), (h0, .inr (1, [.ref ht, .int (nI ((bld L (hF rd lo sp d) (i + 1)).length)), .int (nI rd), .int (nI ln), .int (nI lz), .ref qa, .ref qb])), (ht, .inl (cI, 864, .inl tb61))] H locs := hd
            refine lv_goto (tgt := 107) hx hb dX1_writeHalving_72 (by decide) ?_
            refine lv_iinc (v := nI (i + 1)) (lv' := [(3, .int (nI (i + 1))), (6, .int (nI ((sp i) - ((sp i) / 2)))), (5, .int (nI ((sp i) / 2))), (4, .int (nI (lo i))), (0, .ref h0), (1, .int (nI P)), (2, .int (nI d))]) hx hb dX1_writeHalving_107 hl (k := 6) rfl (nI_1 _) (by decide) rfl (fun ls hl => ?_)
            refine lv_goto (tgt := 2) hx hb dX1_writeHalving_110 (by decide) ?_
            exact ih2  (i + 1) tb61 sf (updN sl_ i ((sp i) / 2)) (by omega) hT (stp_same h2 (by simp [nlo, c_45])) (stp_upd h3 (by simp [nsp, c_45])) (by omega) _ _ (hd.sub [2, 3, 0, 1] rfl rfl) _ (lv_sub hl [4, 5, 6, 0] rfl)
  have hd : Hd G A s.heap [(h0, .inr (1, [.ref ht, .int (nI ((bld L (hF rd lo sp d) 0).length)), .int (nI rd), .int (nI ln), .int (nI lz), .ref qa, .ref qb])), (ht, .inl (cI, 864, .inl tb)), (qa, .inl (cI, 9, .inl (nF sf))), (qb, .inl (cI, 9, .inl (nF sl_)))] s.heap [] := hd.cong (congrArg (fun z_ : Int32 => ([(h0, .inr (1, [.ref ht, .int z_, .int (nI rd), .int (nI ln), .int (nI lz), .ref qa, .ref qb])), (ht, .inl (cI, 864, .inl tb)), (qa, .inl (cI, 9, .inl (nF sf))), (qb, .inl (cI, 9, .inl (nF sl_)))] : va_W)) (show (nI L.length : Int32) = nI ((bld L (hF rd lo sp d) 0).length) from rfl))
  exact LP2 ((P - 0) + 1) 0 tb sf sl_ (Nat.zero_le _) htb (fun m hm => (hsf m hm).trans (stp_0 _ _ m)) (fun m hm => (hsl m hm).trans (stp_0 _ _ m)) (Nat.lt_succ_self _) _ _ (hd.sub [0, 1, 2, 3] rfl rfl) _ (lv_sub hl [1, 2, 3, 0] rfl)

set_option maxHeartbeats 4000000 in
set_option maxRecDepth 100000 in
theorem c_X1_writeDoubling (l : Launch) (G : va_G) (cI cZ : ClassId) (h0 : Nat) (ht : Nat) (qa : Nat) (qb : Nat) (rd : Nat) (ln : Nat) (lz : Nat) (L : List (List Nat)) (tb : Nat → Int32) (sf : Nat → Nat) (sl_ : Nat → Nat) (lo : Nat → Nat) (sp : Nat → Nat) (P : Nat) (d : Nat) (htb : LTc tb L) (hLen : L.length + P ≤ 144) (hP : P = 2 ∨ P = 4 ∨ P = 8) (hdd : dd d) (hdP : d < P) (hsf : ∀ m, m < P → sf m = lo m) (hsl : ∀ m, m < P → sl_ m = sp m) : CM l G cI cZ yX1_writeDoubling cX1_writeDoubling 4 none 1 26 0 0 [.ref h0, .int (nI P), .int (nI d)] [(h0, .inr (1, [.ref ht, .int (nI L.length), .int (nI rd), .int (nI ln), .int (nI lz), .ref qa, .ref qb])), (ht, .inl (cI, 864, .inl tb)), (qa, .inl (cI, 9, .inl (nF sf))), (qb, .inl (cI, 9, .inl (nF sl_)))] (fun ov_ wv_ => ∃ tb2 : Nat → Int32, ∃ sf2 : Nat → Nat, ∃ sl2 : Nat → Nat, ov_ = none ∧ wv_ = [(h0, .inr (1, [.ref ht, .int (nI ((bld L (dF rd lo sp d) P).length)), .int (nI (rd + 1)), .int (nI ln), .int (nI lz), .ref qa, .ref qb])), (ht, .inl (cI, 864, .inl tb2)), (qa, .inl (cI, 9, .inl (nF sf2))), (qb, .inl (cI, 9, .inl (nF sl2)))] ∧ (LTc tb2 (bld L (dF rd lo sp d) P)) ∧ (∀ m, m < P → sf2 m = dlo lo d m) ∧ (∀ m, m < P → sl2 m = dsp sp d m)) := by
  have hd4 := dd_le hdd
  refine CM.of (own := RX1) (by decide) rfl (Nat.le_of_ble_eq_true rfl) ?_
  intro p e R s m args below meth c Q A X hR hret hnm hA fin hd ls hl
  subst hR
  have hx := X.1
  have hb := X.2.1
  have hl : lv_has ls 4 [(0, .ref h0), (1, .int (nI P)), (2, .int (nI d))] := hl
  refine lv_iconst (v := nI 0) hx hb dX1_writeDoubling_0 (by decide) ?_
  refine lv_istore_n (lv' := [(3, .int (nI 0)), (0, .ref h0), (1, .int (nI P)), (2, .int (nI d))]) hx hb dX1_writeDoubling_1 rfl hl (by decide) rfl (fun ls hl => ?_)
  have LP2 : ∀ (fu : Nat) (i : Nat) (tb : Nat → Int32), (i ≤ P) → (LTc tb (bld L (dF rd lo sp d) i)) → (P - i) < fu → ∀ (H : Heap) (locs : List Loc), Hd G A s.heap [(h0, .inr (1, [.ref ht, .int (nI ((bld L (dF rd lo sp d) i).length)), .int (nI rd), .int (nI ln), .int (nI lz), .ref qa, .ref qb])), (ht, .inl (cI, 864, .inl tb)), (qa, .inl (cI, 9, .inl (nF sf))), (qb, .inl (cI, 9, .inl (nF sl_)))] H locs → ∀ (ls : Array Slot), lv_has ls 4 [(0, .ref h0), (1, .int (nI P)), (2, .int (nI d)), (3, .int (nI i))] → W p l e ({ frames := 1, cells := 0, slots := 0, locals := 26 } : Room) s m args below meth c H locs 0 0 Q (F0 m 2 ls []) := by
    intro fu
    induction fu with
    | zero =>
      intro i tb hi htb hfu
      exact absurd hfu (Nat.not_lt_zero _)
    | succ fu ih2 =>
      intro i tb hi htb hfu H locs hd ls hl
      refine lv_iload_n hx hb dX1_writeDoubling_2 rfl (lv_at hl 3 rfl) ?_
      refine lv_iload_n hx hb dX1_writeDoubling_3 rfl (lv_at hl 1 rfl) ?_
      refine n_icmp_ge (tgt := 40) hx hb dX1_writeDoubling_4 (by decide) (by omega) (by omega) (fun c_4 => ?_) (fun c_4 => ?_)
      · rw [show (bld L (dF rd lo sp d) i) = bld L (dF rd lo sp d) P from by rw [show i = P by omega]] at hd htb
        have hd : Hd G A s.heap [(h0, .inr (1, [.ref ht, .int (nI ((bld L (dF rd lo sp d) P).length)), .int (nI rd), .int (nI ln), .int (nI lz), .ref qa, .ref qb])), (ht, .inl (cI, 864, .inl tb)), (qa, .inl (cI, 9, .inl (nF sf))), (qb, .inl (cI, 9, .inl (nF sl_)))] H locs := hd
        refine lv_iconst (v := nI 0) hx hb dX1_writeDoubling_40 (by decide) ?_
        refine lv_istore_n (lv' := [(3, .int (nI 0)), (0, .ref h0), (1, .int (nI P)), (2, .int (nI d))]) hx hb dX1_writeDoubling_41 rfl hl (by decide) rfl (fun ls hl => ?_)
        have LP42 : ∀ (fu : Nat) (i : Nat) (sf : Nat → Nat) (sl_ : Nat → Nat), (i ≤ 8) → (∀ m, m < P → sf m = dmid (dlo lo d) lo d i m) → (∀ m, m < P → sl_ m = dmid (dsp sp d) sp d i m) → (8 - i) < fu → ∀ (H : Heap) (locs : List Loc), Hd G A s.heap [(h0, .inr (1, [.ref ht, .int (nI ((bld L (dF rd lo sp d) P).length)), .int (nI rd), .int (nI ln), .int (nI lz), .ref qa, .ref qb])), (ht, .inl (cI, 864, .inl tb)), (qa, .inl (cI, 9, .inl (nF sf))), (qb, .inl (cI, 9, .inl (nF sl_)))] H locs → ∀ (ls : Array Slot), lv_has ls 4 [(0, .ref h0), (1, .int (nI P)), (2, .int (nI d)), (3, .int (nI i))] → W p l e ({ frames := 1, cells := 0, slots := 0, locals := 26 } : Room) s m args below meth c H locs 0 0 Q (F0 m 42 ls []) := by
          intro fu
          induction fu with
          | zero =>
            intro i sf sl_ hi h2 h3 hfu
            exact absurd hfu (Nat.not_lt_zero _)
          | succ fu ih42 =>
            intro i sf sl_ hi h2 h3 hfu H locs hd ls hl
            refine lv_iload_n hx hb dX1_writeDoubling_42 rfl (lv_at hl 3 rfl) ?_
            refine lv_iload_n hx hb dX1_writeDoubling_43 rfl (lv_at hl 2 rfl) ?_
            refine n_add hx hb dX1_writeDoubling_44  ?_
            refine lv_iload_n hx hb dX1_writeDoubling_45 rfl (lv_at hl 1 rfl) ?_
            refine n_icmp_ge (tgt := 114) hx hb dX1_writeDoubling_46 (by decide) (by omega) (by omega) (fun c_46 => ?_) (fun c_46 => ?_)
            · refine lv_aload_n hx hb dX1_writeDoubling_114 rfl (lv_at hl 0 rfl) ?_
              refine cM_V (As := []) (rest := []) (wr := [(ht, .inl (cI, 864, .inl tb)), (qa, .inl (cI, 9, .inl (nF sf))), (qb, .inl (cI, 9, .inl (nF sl_)))]) X (c_X1_endRound l G cI cZ h0 ht qa qb rd ln lz ((bld L (dF rd lo sp d) P).length) ) lk_X1_75 hd hA [0] [1, 2, 3] rfl rfl rfl rfl (by decide) rfl rfl hl.1 rfl rfl (Nat.le_of_ble_eq_true rfl) ⟨Nat.le_of_ble_eq_true rfl, Nat.le_of_ble_eq_true rfl⟩ ⟨Nat.le_of_ble_eq_true rfl, Nat.le_of_ble_eq_true rfl⟩ dX1_writeDoubling_115 (fun v w1 H locs hp hd => ?_)
              obtain ⟨rfl, rfl⟩ := hp
              have hd : Hd G A s.heap [(ht, .inl (cI, 864, .inl tb)), (qa, .inl (cI, 9, .inl (nF sf))), (qb, .inl (cI, 9, .inl (nF sl_))), (h0, .inr (1, [.ref ht, .int (nI ((bld L (dF rd lo sp d) P).length)), .int (nI (rd + 1)), .int (nI ln), .int (nI lz), .ref qa, .ref qb]))] H locs := hd
              refine st_all (st' := []) rfl ?_
              exact (fin _ _ [(h0, .inr (1, [.ref ht, .int (nI ((bld L (dF rd lo sp d) P).length)), .int (nI (rd + 1)), .int (nI ln), .int (nI lz), .ref qa, .ref qb])), (ht, .inl (cI, 864, .inl tb)), (qa, .inl (cI, 9, .inl (nF sf))), (qb, .inl (cI, 9, .inl (nF sl_)))] _ _ (hd.sub [3, 0, 1, 2] rfl rfl)).1 rfl ⟨tb, sf, sl_, rfl, rfl, htb, dmid_e hP hdP (by omega) (by omega) hdd h2, dmid_e hP hdP (by omega) (by omega) hdd h3⟩ dX1_writeDoubling_118
            · refine lv_iload_n hx hb dX1_writeDoubling_49 rfl (lv_at hl 3 rfl) ?_
              refine lv_iload_n hx hb dX1_writeDoubling_50 rfl (lv_at hl 2 rfl) ?_
              refine n_add hx hb dX1_writeDoubling_51  ?_
              refine lv_bipush (v := nI 9) hx hb dX1_writeDoubling_52 (by decide) ?_
              refine n_icmp_ge (tgt := 114) hx hb dX1_writeDoubling_54 (by decide) (by omega) (by omega) (fun c_54 => ?_) (fun c_54 => ?_)
              · exfalso; omega
              · refine lv_iload_n hx hb dX1_writeDoubling_57 rfl (lv_at hl 3 rfl) ?_
                refine lv_iload_n hx hb dX1_writeDoubling_58 rfl (lv_at hl 2 rfl) ?_
                refine n_and hx hb dX1_writeDoubling_59  ?_
                refine n_if_ne (tgt := 108) hx hb dX1_writeDoubling_60 (by decide) (Nat.lt_of_le_of_lt Nat.and_le_left (by omega)) (fun c_60 => ?_) (fun c_60 => ?_)
                · refine lv_iinc (v := nI (i + 1)) (lv' := [(3, .int (nI (i + 1))), (0, .ref h0), (1, .int (nI P)), (2, .int (nI d))]) hx hb dX1_writeDoubling_108 hl (k := 3) rfl (nI_1 _) (by decide) rfl (fun ls hl => ?_)
                  refine lv_goto (tgt := 42) hx hb dX1_writeDoubling_111 (by decide) ?_
                  exact ih42  (i + 1) sf sl_ (by omega) (dmid_skip (by omega) (by omega) hdd c_60 h2) (dmid_skip (by omega) (by omega) hdd c_60 h3) (by omega) _ _ (hd.sub [0, 1, 2, 3] rfl rfl) _ (lv_sub hl [1, 2, 3, 0] rfl)
                · refine lv_aload_n hx hb dX1_writeDoubling_63 rfl (lv_at hl 0 rfl) ?_
                  refine x_get (C := RX1) (T := TX1) (N := 7) (ci := 1) 6 inT_X1 rfl (by decide) lf_X1_31 rfl X hd.1 0 rfl rfl dX1_writeDoubling_64 ?_
                  refine lv_iload_n hx hb dX1_writeDoubling_67 rfl (lv_at hl 3 rfl) ?_
                  refine lv_dup2_11 hx hb dX1_writeDoubling_68 rfl rfl ?_
                  refine n_iald X hd.1 3 rfl (by omega) (by decide) dX1_writeDoubling_69 ?_
                  refine st_eq (show (nF sl_) i = nI (sl_ i) from rfl) ?_
                  refine lv_aload_n hx hb dX1_writeDoubling_70 rfl (lv_at hl 0 rfl) ?_
                  refine x_get (C := RX1) (T := TX1) (N := 7) (ci := 1) 6 inT_X1 rfl (by decide) lf_X1_31 rfl X hd.1 0 rfl rfl dX1_writeDoubling_71 ?_
                  refine lv_iload_n hx hb dX1_writeDoubling_74 rfl (lv_at hl 3 rfl) ?_
                  refine lv_iload_n hx hb dX1_writeDoubling_75 rfl (lv_at hl 2 rfl) ?_
                  refine n_add hx hb dX1_writeDoubling_76  ?_
                  refine n_iald X hd.1 3 rfl (by omega) (by decide) dX1_writeDoubling_77 ?_
                  refine st_eq (show (nF sl_) (i + d) = nI (sl_ (i + d)) from rfl) ?_
                  refine n_add hx hb dX1_writeDoubling_78  ?_
                  refine n_iast X hd 3 rfl (by omega) (by decide) dX1_writeDoubling_79 (fun H locs hd => ?_)
                  rw [upd_nF] at hd
                  have hd : Hd G A s.heap [(h0, .inr (1, [.ref ht, .int (nI ((bld L (dF rd lo sp d) P).length)), .int (nI rd), .int (nI ln), .int (nI lz), .ref qa, .ref qb])), (ht, .inl (cI, 864, .inl tb)), (qa, .inl (cI, 9, .inl (nF sf))), (qb, .inl (cI, 9, .inl (nF (updN sl_ i ((sl_ i) + (sl_ (i + d)))))))] H locs := hd
                  refine lv_aload_n hx hb dX1_writeDoubling_80 rfl (lv_at hl 0 rfl) ?_
                  refine x_get (C := RX1) (T := TX1) (N := 7) (ci := 1) 5 inT_X1 rfl (by decide) lf_X1_28 rfl X hd.1 0 rfl rfl dX1_writeDoubling_81 ?_
                  refine lv_iload_n hx hb dX1_writeDoubling_84 rfl (lv_at hl 3 rfl) ?_
                  refine lv_iload_n hx hb dX1_writeDoubling_85 rfl (lv_at hl 2 rfl) ?_
                  refine n_add hx hb dX1_writeDoubling_86  ?_
                  refine lv_aload_n hx hb dX1_writeDoubling_87 rfl (lv_at hl 0 rfl) ?_
                  refine x_get (C := RX1) (T := TX1) (N := 7) (ci := 1) 5 inT_X1 rfl (by decide) lf_X1_28 rfl X hd.1 0 rfl rfl dX1_writeDoubling_88 ?_
                  refine lv_iload_n hx hb dX1_writeDoubling_91 rfl (lv_at hl 3 rfl) ?_
                  refine n_iald X hd.1 2 rfl (by omega) (by decide) dX1_writeDoubling_92 ?_
                  refine st_eq (show (nF sf) i = nI (sf i) from rfl) ?_
                  refine n_iast X hd 2 rfl (by omega) (by decide) dX1_writeDoubling_93 (fun H locs hd => ?_)
                  rw [upd_nF] at hd
                  have hd : Hd G A s.heap [(h0, .inr (1, [.ref ht, .int (nI ((bld L (dF rd lo sp d) P).length)), .int (nI rd), .int (nI ln), .int (nI lz), .ref qa, .ref qb])), (ht, .inl (cI, 864, .inl tb)), (qa, .inl (cI, 9, .inl (nF (updN sf (i + d) (sf i))))), (qb, .inl (cI, 9, .inl (nF (updN sl_ i ((sl_ i) + (sl_ (i + d)))))))] H locs := hd
                  refine lv_aload_n hx hb dX1_writeDoubling_94 rfl (lv_at hl 0 rfl) ?_
                  refine x_get (C := RX1) (T := TX1) (N := 7) (ci := 1) 6 inT_X1 rfl (by decide) lf_X1_31 rfl X hd.1 0 rfl rfl dX1_writeDoubling_95 ?_
                  refine lv_iload_n hx hb dX1_writeDoubling_98 rfl (lv_at hl 3 rfl) ?_
                  refine lv_iload_n hx hb dX1_writeDoubling_99 rfl (lv_at hl 2 rfl) ?_
                  refine n_add hx hb dX1_writeDoubling_100  ?_
                  refine lv_aload_n hx hb dX1_writeDoubling_101 rfl (lv_at hl 0 rfl) ?_
                  refine x_get (C := RX1) (T := TX1) (N := 7) (ci := 1) 6 inT_X1 rfl (by decide) lf_X1_31 rfl X hd.1 0 rfl rfl dX1_writeDoubling_102 ?_
                  refine lv_iload_n hx hb dX1_writeDoubling_105 rfl (lv_at hl 3 rfl) ?_
                  refine n_iald X hd.1 3 rfl (by omega) (by decide) dX1_writeDoubling_106 ?_
                  refine st_eq (show (nF (updN sl_ i ((sl_ i) + (sl_ (i + d))))) i = nI ((updN sl_ i ((sl_ i) + (sl_ (i + d)))) i) from rfl) ?_
                  refine n_iast X hd 3 rfl (by omega) (by decide) dX1_writeDoubling_107 (fun H locs hd => ?_)
                  rw [upd_nF] at hd
                  have hd : Hd G A s.heap [(h0, .inr (1, [.ref ht, .int (nI ((bld L (dF rd lo sp d) P).length)), .int (nI rd), .int (nI ln), .int (nI lz), .ref qa, .ref qb])), (ht, .inl (cI, 864, .inl tb)), (qa, .inl (cI, 9, .inl (nF (updN sf (i + d) (sf i))))), (qb, .inl (cI, 9, .inl (nF (updN (updN sl_ i ((sl_ i) + (sl_ (i + d)))) (i + d) ((updN sl_ i ((sl_ i) + (sl_ (i + d)))) i)))))] H locs := hd
                  refine lv_iinc (v := nI (i + 1)) (lv' := [(3, .int (nI (i + 1))), (0, .ref h0), (1, .int (nI P)), (2, .int (nI d))]) hx hb dX1_writeDoubling_108 hl (k := 3) rfl (nI_1 _) (by decide) rfl (fun ls hl => ?_)
                  refine lv_goto (tgt := 42) hx hb dX1_writeDoubling_111 (by decide) ?_
                  exact ih42  (i + 1) (updN sf (i + d) (sf i)) (updN (updN sl_ i ((sl_ i) + (sl_ (i + d)))) (i + d) ((updN sl_ i ((sl_ i) + (sl_ (i + d)))) i)) (by omega) (dmid_lo (by omega) (by omega) hdd c_60 h2) (dmid_len (by omega) (by omega) hdd c_60 h3) (by omega) _ _ (hd.sub [0, 1, 2, 3] rfl rfl) _ (lv_sub hl [1, 2, 3, 0] rfl)
        exact LP42 ((8 - 0) + 1) 0 sf sl_ (Nat.zero_le _) (fun m hm => (hsf m hm).trans (dmid_0 _ _ _ m)) (fun m hm => (hsl m hm).trans (dmid_0 _ _ _ m)) (Nat.lt_succ_self _) _ _ (hd.sub [0, 1, 2, 3] rfl rfl) _ (lv_sub hl [1, 2, 3, 0] rfl)
      · refine lv_iload_n hx hb dX1_writeDoubling_7 rfl (lv_at hl 3 rfl) ?_
        refine lv_bipush (v := nI 9) hx hb dX1_writeDoubling_8 (by decide) ?_
        refine n_icmp_ge (tgt := 40) hx hb dX1_writeDoubling_10 (by decide) (by omega) (by omega) (fun c_10 => ?_) (fun c_10 => ?_)
        · exfalso; omega
        · refine lv_aload_n hx hb dX1_writeDoubling_13 rfl (lv_at hl 0 rfl) ?_
          refine lv_iload_n hx hb dX1_writeDoubling_14 rfl (lv_at hl 3 rfl) ?_
          refine lv_iload_n hx hb dX1_writeDoubling_15 rfl (lv_at hl 3 rfl) ?_
          refine lv_iload_n hx hb dX1_writeDoubling_16 rfl (lv_at hl 2 rfl) ?_
          refine n_xor hx hb dX1_writeDoubling_17  ?_
          refine lv_aload_n hx hb dX1_writeDoubling_18 rfl (lv_at hl 0 rfl) ?_
          refine x_get (C := RX1) (T := TX1) (N := 7) (ci := 1) 5 inT_X1 rfl (by decide) lf_X1_28 rfl X hd.1 0 rfl rfl dX1_writeDoubling_19 ?_
          refine lv_iload_n hx hb dX1_writeDoubling_22 rfl (lv_at hl 3 rfl) ?_
          refine n_iald X hd.1 2 rfl (by omega) (by decide) dX1_writeDoubling_23 ?_
          refine st_eq (show (nF sf) i = nI (sf i) from rfl) ?_
          refine st_eq (show (nI (sf i) : Int32) = nI (lo i) from by rw [hsf i (by omega)]) ?_
          refine lv_aload_n hx hb dX1_writeDoubling_24 rfl (lv_at hl 0 rfl) ?_
          refine x_get (C := RX1) (T := TX1) (N := 7) (ci := 1) 6 inT_X1 rfl (by decide) lf_X1_31 rfl X hd.1 0 rfl rfl dX1_writeDoubling_25 ?_
          refine lv_iload_n hx hb dX1_writeDoubling_28 rfl (lv_at hl 3 rfl) ?_
          refine n_iald X hd.1 3 rfl (by omega) (by decide) dX1_writeDoubling_29 ?_
          refine st_eq (show (nF sl_) i = nI (sl_ i) from rfl) ?_
          refine st_eq (show (nI (sl_ i) : Int32) = nI (sp i) from by rw [hsl i (by omega)]) ?_
          refine lv_iconst (v := nI 2) hx hb dX1_writeDoubling_30 (by decide) ?_
          refine cM_V (As := [.int (nI i), .int (nI (i ^^^ d)), .int (nI (lo i)), .int (nI (sp i)), .int (nI 2)]) (rest := []) (wr := [(qa, .inl (cI, 9, .inl (nF sf))), (qb, .inl (cI, 9, .inl (nF sl_)))]) X (c_X1_send l G cI cZ h0 ht qa qb rd ln lz (bld L (dF rd lo sp d) i) tb i (i ^^^ d) (lo i) (sp i) 2 (by first | assumption | omega) (by rw [bld_len]; omega)) lk_X1_63 hd hA [0, 1] [2, 3] rfl rfl rfl rfl (by decide) rfl rfl hl.1 rfl rfl (Nat.le_of_ble_eq_true rfl) ⟨Nat.le_of_ble_eq_true rfl, Nat.le_of_ble_eq_true rfl⟩ ⟨Nat.le_of_ble_eq_true rfl, Nat.le_of_ble_eq_true rfl⟩ dX1_writeDoubling_31 (fun v w1 H locs hp hd => ?_)
          obtain ⟨tb31, rfl, rfl, hT⟩ := hp
          have hd : Hd G A s.heap [(qa, .inl (cI, 9, .inl (nF sf))), (qb, .inl (cI, 9, .inl (nF sl_))), (h0, .inr (1, [.ref ht, .int (nI (((bld L (dF rd lo sp d) i) ++ [[rd, i, (i ^^^ d), (lo i), (sp i), 2]]).length)), .int (nI rd), .int (nI ln), .int (nI lz), .ref qa, .ref qb])), (ht, .inl (cI, 864, .inl tb31))] H locs := hd
          refine st_all (st' := []) rfl ?_
          rw [show ((bld L (dF rd lo sp d) i) ++ [[rd, i, (i ^^^ d), (lo i), (sp i), 2]]) = bld L (dF rd lo sp d) (i + 1) from rfl] at hd hT
          have hd : Hd G A s.heap [(qa, .inl (cI, 9, .inl (nF sf))), (qb, .inl (cI, 9, .inl (nF sl_))), (h0, .inr (1, [.ref ht, .int (nI ((bld L (dF rd lo sp d) (i + 1)).length)), .int (nI rd), .int (nI ln), .int (nI lz), .ref qa, .ref qb])), (ht, .inl (cI, 864, .inl tb31))] H locs := hd
          refine lv_iinc (v := nI (i + 1)) (lv' := [(3, .int (nI (i + 1))), (0, .ref h0), (1, .int (nI P)), (2, .int (nI d))]) hx hb dX1_writeDoubling_34 hl (k := 3) rfl (nI_1 _) (by decide) rfl (fun ls hl => ?_)
          refine lv_goto (tgt := 2) hx hb dX1_writeDoubling_37 (by decide) ?_
          exact ih2  (i + 1) tb31 (by omega) hT (by omega) _ _ (hd.sub [2, 3, 0, 1] rfl rfl) _ (lv_sub hl [1, 2, 3, 0] rfl)
  have hd : Hd G A s.heap [(h0, .inr (1, [.ref ht, .int (nI ((bld L (dF rd lo sp d) 0).length)), .int (nI rd), .int (nI ln), .int (nI lz), .ref qa, .ref qb])), (ht, .inl (cI, 864, .inl tb)), (qa, .inl (cI, 9, .inl (nF sf))), (qb, .inl (cI, 9, .inl (nF sl_)))] s.heap [] := hd.cong (congrArg (fun z_ : Int32 => ([(h0, .inr (1, [.ref ht, .int z_, .int (nI rd), .int (nI ln), .int (nI lz), .ref qa, .ref qb])), (ht, .inl (cI, 864, .inl tb)), (qa, .inl (cI, 9, .inl (nF sf))), (qb, .inl (cI, 9, .inl (nF sl_)))] : va_W)) (show (nI L.length : Int32) = nI ((bld L (dF rd lo sp d) 0).length) from rfl))
  exact LP2 ((P - 0) + 1) 0 tb (Nat.zero_le _) htb (Nat.lt_succ_self _) _ _ (hd.sub [0, 1, 2, 3] rfl rfl) _ (lv_sub hl [1, 2, 3, 0] rfl)
end
section
set_option maxHeartbeats 4000000 in
set_option maxRecDepth 100000 in
theorem c_X1_writeHalves (l : Launch) (G : va_G) (cI cZ : ClassId) (h0 : Nat) (ht : Nat) (qa : Nat) (qb : Nat) (ln : Nat) (lz : Nat) (tb0 : Nat → Int32) (sa0 : Nat → Int32) (sb0 : Nat → Int32) (hn : 2 ≤ ln) (hn9 : ln ≤ 9) (hz : lz ≤ 99) : CM l G cI cZ yX1_writeHalves cX1_writeHalves 3 none 2 52 0 0 [.ref h0] [(h0, .inr (1, [.ref ht, .int (nI 0), .int (nI 0), .int (nI ln), .int (nI lz), .ref qa, .ref qb])), (ht, .inl (cI, 864, .inl tb0)), (qa, .inl (cI, 9, .inl sa0)), (qb, .inl (cI, 9, .inl sb0))] (fun ov_ wv_ => ∃ tb2 : Nat → Int32, ∃ sa2 : Nat → Int32, ∃ sb2 : Nat → Int32, ov_ = none ∧ wv_ = [(h0, .inr (1, [.ref ht, .int (nI ((LHalf ln lz).length)), .int (nI (rd0 ln + lg2 (gp2 ln) + lg2 (gp2 ln) + rd0 ln)), .int (nI ln), .int (nI lz), .ref qa, .ref qb])), (ht, .inl (cI, 864, .inl tb2)), (qa, .inl (cI, 9, .inl sa2)), (qb, .inl (cI, 9, .inl sb2))] ∧ (LTc tb2 (LHalf ln lz))) := by
  have hP := gp2_or ln
  have hPl := gp2_le hn
  have hK3 := lg2_le (gp2 ln)
  have hP8 : gp2 ln ≤ 8 := by omega
  refine CM.of (own := RX1) (by decide) rfl (Nat.le_of_ble_eq_true rfl) ?_
  intro p e R s m args below meth c Q A X hR hret hnm hA fin hd ls hl
  subst hR
  have hx := X.1
  have hb := X.2.1
  have hl : lv_has ls 3 [(0, .ref h0)] := hl
  refine lv_aload_n hx hb dX1_writeHalves_0 rfl (lv_at hl 0 rfl) ?_
-- NOTE pc 1: cell (h0, .inr (1, [.ref ht, .int (nI 0), .int (nI 0), .int (nI ln), .int (nI lz), .ref qa, .ref qb])) for (h0, .inr (1, [.ref ht, .int (nI (([] : List (List Nat)).length)), .int (nI 0), .int (nI ln), .int (nI lz), .ref qa, .ref qb]))
  refine cR_V (As := []) (rest := []) X (c_X1_greatestPowerOfTwo l G cI cZ h0 ht qa qb 0 ln lz ([] : List (List Nat)) (by first | assumption | omega) (by first | assumption | omega)) lk_X1_81 (hd.1.sub (ws' := [(h0, .inr (1, [.ref ht, .int (nI 0), .int (nI 0), .int (nI ln), .int (nI lz), .ref qa, .ref qb]))]) [0] rfl) rfl rfl hl.1 rfl rfl (Nat.le_of_ble_eq_true rfl) ⟨Nat.le_of_ble_eq_true rfl, Nat.le_of_ble_eq_true rfl⟩ ⟨Nat.le_of_ble_eq_true rfl, Nat.le_of_ble_eq_true rfl⟩ dX1_writeHalves_1 ?_
  refine lv_istore_n (lv' := [(1, .int (nI (gp2 ln))), (0, .ref h0)]) hx hb dX1_writeHalves_4 rfl hl (by decide) rfl (fun ls hl => ?_)
  have J42 : ∀ (tb : Nat → Int32), (LTc tb (hA0 ln lz)) → ∀ (H : Heap) (locs : List Loc), Hd G A s.heap [(h0, .inr (1, [.ref ht, .int (nI ((hA0 ln lz).length)), .int (nI (rd0 ln)), .int (nI ln), .int (nI lz), .ref qa, .ref qb])), (ht, .inl (cI, 864, .inl tb)), (qa, .inl (cI, 9, .inl sa0)), (qb, .inl (cI, 9, .inl sb0))] H locs → ∀ (ls : Array Slot), lv_has ls 3 [(0, .ref h0), (1, .int (nI (gp2 ln)))] → W p l e ({ frames := 2, cells := 0, slots := 0, locals := 52 } : Room) s m args below meth c H locs 0 0 Q (F0 m 42 ls []) := by
    intro tb htb H locs hd ls hl
    refine lv_aload_n hx hb dX1_writeHalves_42 rfl (lv_at hl 0 rfl) ?_
    refine x_get (C := RX1) (T := TX1) (N := 7) (ci := 1) 5 inT_X1 rfl (by decide) lf_X1_28 rfl X hd.1 0 rfl rfl dX1_writeHalves_43 ?_
    refine lv_iconst (v := nI 0) hx hb dX1_writeHalves_46 (by decide) ?_
    refine cM_S (As := [.ref qa, .int (nI 0)]) (rest := []) (wr := [(h0, .inr (1, [.ref ht, .int (nI ((hA0 ln lz).length)), .int (nI (rd0 ln)), .int (nI ln), .int (nI lz), .ref qa, .ref qb])), (ht, .inl (cI, 864, .inl tb)), (qb, .inl (cI, 9, .inl sb0))]) X (c_J7_fill_53178 l G cI cZ qa 9 sa0 (nI 0) (by decide)) lk_X1_88 hd hA [2] [0, 1, 3] rfl rfl rfl rfl (by decide) hl.1 rfl rfl (Nat.le_of_ble_eq_true rfl) ⟨Nat.le_of_ble_eq_true rfl, Nat.le_of_ble_eq_true rfl⟩ ⟨Nat.le_of_ble_eq_true rfl, Nat.le_of_ble_eq_true rfl⟩ dX1_writeHalves_47 (fun v w1 H locs hp hd => ?_)
    obtain ⟨rfl, rfl⟩ := hp
    have hd : Hd G A s.heap [(h0, .inr (1, [.ref ht, .int (nI ((hA0 ln lz).length)), .int (nI (rd0 ln)), .int (nI ln), .int (nI lz), .ref qa, .ref qb])), (ht, .inl (cI, 864, .inl tb)), (qb, .inl (cI, 9, .inl sb0)), (qa, .inl (cI, 9, .inl (fun _ => (nI 0))))] H locs := hd
    refine st_all (st' := []) rfl ?_
    have hd := hd.arr 3 rfl (nF (fun _ => 0)) (fun _ _ => rfl)
    have hd : Hd G A s.heap [(h0, .inr (1, [.ref ht, .int (nI ((hA0 ln lz).length)), .int (nI (rd0 ln)), .int (nI ln), .int (nI lz), .ref qa, .ref qb])), (ht, .inl (cI, 864, .inl tb)), (qb, .inl (cI, 9, .inl sb0)), (qa, .inl (cI, 9, .inl (nF (fun _ => 0))))] H locs := hd
    refine lv_aload_n hx hb dX1_writeHalves_50 rfl (lv_at hl 0 rfl) ?_
    refine x_get (C := RX1) (T := TX1) (N := 7) (ci := 1) 6 inT_X1 rfl (by decide) lf_X1_31 rfl X hd.1 0 rfl rfl dX1_writeHalves_51 ?_
    refine lv_aload_n hx hb dX1_writeHalves_54 rfl (lv_at hl 0 rfl) ?_
    refine x_get (C := RX1) (T := TX1) (N := 7) (ci := 1) 4 inT_X1 rfl (by decide) lf_X1_25 rfl X hd.1 0 rfl rfl dX1_writeHalves_55 ?_
    refine cM_S (As := [.ref qb, .int (nI lz)]) (rest := []) (wr := [(h0, .inr (1, [.ref ht, .int (nI ((hA0 ln lz).length)), .int (nI (rd0 ln)), .int (nI ln), .int (nI lz), .ref qa, .ref qb])), (ht, .inl (cI, 864, .inl tb)), (qa, .inl (cI, 9, .inl (nF (fun _ => 0))))]) X (c_J7_fill_53178 l G cI cZ qb 9 sb0 (nI lz) (by decide)) lk_X1_88 hd hA [2] [0, 1, 3] rfl rfl rfl rfl (by decide) hl.1 rfl rfl (Nat.le_of_ble_eq_true rfl) ⟨Nat.le_of_ble_eq_true rfl, Nat.le_of_ble_eq_true rfl⟩ ⟨Nat.le_of_ble_eq_true rfl, Nat.le_of_ble_eq_true rfl⟩ dX1_writeHalves_58 (fun v w1 H locs hp hd => ?_)
    obtain ⟨rfl, rfl⟩ := hp
    have hd : Hd G A s.heap [(h0, .inr (1, [.ref ht, .int (nI ((hA0 ln lz).length)), .int (nI (rd0 ln)), .int (nI ln), .int (nI lz), .ref qa, .ref qb])), (ht, .inl (cI, 864, .inl tb)), (qa, .inl (cI, 9, .inl (nF (fun _ => 0)))), (qb, .inl (cI, 9, .inl (fun _ => (nI lz))))] H locs := hd
    refine st_all (st' := []) rfl ?_
    have hd := hd.arr 3 rfl (nF (fun _ => lz)) (fun _ _ => rfl)
    have hd : Hd G A s.heap [(h0, .inr (1, [.ref ht, .int (nI ((hA0 ln lz).length)), .int (nI (rd0 ln)), .int (nI ln), .int (nI lz), .ref qa, .ref qb])), (ht, .inl (cI, 864, .inl tb)), (qa, .inl (cI, 9, .inl (nF (fun _ => 0)))), (qb, .inl (cI, 9, .inl (nF (fun _ => lz))))] H locs := hd
    refine lv_iload_n hx hb dX1_writeHalves_61 rfl (lv_at hl 1 rfl) ?_
    refine lv_iconst (v := nI 2) hx hb dX1_writeHalves_62 (by decide) ?_
    refine n_div hx hb dX1_writeHalves_63 (by omega) (by omega) (by omega) ?_
    refine lv_istore_n (lv' := [(2, .int (nI ((gp2 ln) / 2))), (0, .ref h0), (1, .int (nI (gp2 ln)))]) hx hb dX1_writeHalves_64 rfl hl (by decide) rfl (fun ls hl => ?_)
    have LP65 : ∀ (fu : Nat) (i : Nat) (tb : Nat → Int32) (sf : Nat → Nat) (sl_ : Nat → Nat), (i ≤ lg2 (gp2 ln)) → (LTc tb (hA1 ln lz i)) → (∀ m, m < gp2 ln → sf m = (hlo (gp2 ln) lz i).1 m) → (∀ m, m < gp2 ln → sl_ m = (hlo (gp2 ln) lz i).2 m) → (lg2 (gp2 ln) - i) < fu → ∀ (H : Heap) (locs : List Loc), Hd G A s.heap [(h0, .inr (1, [.ref ht, .int (nI ((hA1 ln lz i).length)), .int (nI (rd0 ln + i)), .int (nI ln), .int (nI lz), .ref qa, .ref qb])), (ht, .inl (cI, 864, .inl tb)), (qa, .inl (cI, 9, .inl (nF sf))), (qb, .inl (cI, 9, .inl (nF sl_)))] H locs → ∀ (ls : Array Slot), lv_has ls 3 [(0, .ref h0), (1, .int (nI (gp2 ln))), (2, .int (nI (gp2 ln / 2 ^ (i + 1))))] → W p l e ({ frames := 2, cells := 0, slots := 0, locals := 52 } : Room) s m args below meth c H locs 0 0 Q (F0 m 65 ls []) := by
      intro fu
      induction fu with
      | zero =>
        intro i tb sf sl_ hi htb hsf hsl hfu
        exact absurd hfu (Nat.not_lt_zero _)
      | succ fu ih65 =>
        intro i tb sf sl_ hi htb hsf hsl hfu H locs hd ls hl
        refine lv_iload_n hx hb dX1_writeHalves_65 rfl (lv_at hl 2 rfl) ?_
        refine lv_iconst (v := nI 1) hx hb dX1_writeHalves_66 (by decide) ?_
        refine n_icmp_lt (tgt := 83) hx hb dX1_writeHalves_67 (by decide) (Nat.lt_of_le_of_lt (Nat.div_le_self _ _) (by omega)) (by omega) (fun c_67 => ?_) (fun c_67 => ?_)
        · refine lv_iconst (v := nI 1) hx hb dX1_writeHalves_83 (by decide) ?_
          refine lv_istore_n (lv' := [(2, .int (nI 1)), (0, .ref h0), (1, .int (nI (gp2 ln)))]) hx hb dX1_writeHalves_84 rfl hl (by decide) rfl (fun ls hl => ?_)
          have LP85 : ∀ (fu : Nat) (i : Nat) (tb : Nat → Int32) (sf : Nat → Nat) (sl_ : Nat → Nat), (i ≤ lg2 (gp2 ln)) → (LTc tb (hA2 ln lz i)) → (∀ m, m < gp2 ln → sf m = (hup (gp2 ln) lz i).1 m) → (∀ m, m < gp2 ln → sl_ m = (hup (gp2 ln) lz i).2 m) → (lg2 (gp2 ln) - i) < fu → ∀ (H : Heap) (locs : List Loc), Hd G A s.heap [(h0, .inr (1, [.ref ht, .int (nI ((hA2 ln lz i).length)), .int (nI (rd0 ln + lg2 (gp2 ln) + i)), .int (nI ln), .int (nI lz), .ref qa, .ref qb])), (ht, .inl (cI, 864, .inl tb)), (qa, .inl (cI, 9, .inl (nF sf))), (qb, .inl (cI, 9, .inl (nF sl_)))] H locs → ∀ (ls : Array Slot), lv_has ls 3 [(0, .ref h0), (1, .int (nI (gp2 ln))), (2, .int (nI (2 ^ i)))] → W p l e ({ frames := 2, cells := 0, slots := 0, locals := 52 } : Room) s m args below meth c H locs 0 0 Q (F0 m 85 ls []) := by
            intro fu
            induction fu with
            | zero =>
              intro i tb sf sl_ hi htb hsf hsl hfu
              exact absurd hfu (Nat.not_lt_zero _)
            | succ fu ih85 =>
              intro i tb sf sl_ hi htb hsf hsl hfu H locs hd ls hl
              refine lv_iload_n hx hb dX1_writeHalves_85 rfl (lv_at hl 2 rfl) ?_
              refine lv_iload_n hx hb dX1_writeHalves_86 rfl (lv_at hl 1 rfl) ?_
              refine n_icmp_ge (tgt := 103) hx hb dX1_writeHalves_87 (by decide) (Nat.pow_lt_pow_right (by decide) (by omega)) (by omega) (fun c_87 => ?_) (fun c_87 => ?_)
              · rw [show (hA2 ln lz i) = hA2 ln lz (lg2 (gp2 ln)) from by rw [up_ex hP hi c_87]] at hd htb
                have hd : Hd G A s.heap [(h0, .inr (1, [.ref ht, .int (nI ((hA2 ln lz (lg2 (gp2 ln))).length)), .int (nI (rd0 ln + lg2 (gp2 ln) + i)), .int (nI ln), .int (nI lz), .ref qa, .ref qb])), (ht, .inl (cI, 864, .inl tb)), (qa, .inl (cI, 9, .inl (nF sf))), (qb, .inl (cI, 9, .inl (nF sl_)))] H locs := hd
                have hd : Hd G A s.heap [(h0, .inr (1, [.ref ht, .int (nI ((hA2 ln lz (lg2 (gp2 ln))).length)), .int (nI (rd0 ln + lg2 (gp2 ln) + lg2 (gp2 ln))), .int (nI ln), .int (nI lz), .ref qa, .ref qb])), (ht, .inl (cI, 864, .inl tb)), (qa, .inl (cI, 9, .inl (nF sf))), (qb, .inl (cI, 9, .inl (nF sl_)))] H locs := hd.cong (congrArg (fun z_ : Int32 => ([(h0, .inr (1, [.ref ht, .int (nI ((hA2 ln lz (lg2 (gp2 ln))).length)), .int z_, .int (nI ln), .int (nI lz), .ref qa, .ref qb])), (ht, .inl (cI, 864, .inl tb)), (qa, .inl (cI, 9, .inl (nF sf))), (qb, .inl (cI, 9, .inl (nF sl_)))] : va_W)) (show (nI (rd0 ln + lg2 (gp2 ln) + i) : Int32) = nI (rd0 ln + lg2 (gp2 ln) + lg2 (gp2 ln)) from by rw [up_ex hP hi c_87]))
                refine lv_aload_n hx hb dX1_writeHalves_103 rfl (lv_at hl 0 rfl) ?_
                refine x_get (C := RX1) (T := TX1) (N := 7) (ci := 1) 3 inT_X1 rfl (by decide) lf_X1_22 rfl X hd.1 0 rfl rfl dX1_writeHalves_104 ?_
                refine lv_iload_n hx hb dX1_writeHalves_107 rfl (lv_at hl 1 rfl) ?_
                refine n_icmp_le (tgt := 142) hx hb dX1_writeHalves_108 (by decide) (by omega) (by omega) (fun c_108 => ?_) (fun c_108 => ?_)
                · exact (fin _ _ [(h0, .inr (1, [.ref ht, .int (nI ((hA2 ln lz (lg2 (gp2 ln))).length)), .int (nI (rd0 ln + lg2 (gp2 ln) + lg2 (gp2 ln))), .int (nI ln), .int (nI lz), .ref qa, .ref qb])), (ht, .inl (cI, 864, .inl tb)), (qa, .inl (cI, 9, .inl (nF sf))), (qb, .inl (cI, 9, .inl (nF sl_)))] _ _ (hd.sub [0, 1, 2, 3] rfl rfl)).1 rfl ⟨tb, (nF sf), (nF sl_), rfl, by have e0 : rd0 ln = 0 := if_neg (by omega); rw [LHalf, show ln - gp2 ln = 0 by omega, e0]; rfl, (by rw [LHalf, show ln - gp2 ln = 0 by omega]; exact htb)⟩ dX1_writeHalves_142
                · refine lv_iconst (v := nI 0) hx hb dX1_writeHalves_111 (by decide) ?_
                  refine lv_istore_n (lv' := [(2, .int (nI 0)), (0, .ref h0), (1, .int (nI (gp2 ln)))]) hx hb dX1_writeHalves_112 rfl hl (by decide) rfl (fun ls hl => ?_)
                  have LP113 : ∀ (fu : Nat) (i : Nat) (tb : Nat → Int32), (i ≤ ln - gp2 ln) → (LTc tb (bld (hA2 ln lz (lg2 (gp2 ln))) (xF2 (rd0 ln + lg2 (gp2 ln) + lg2 (gp2 ln)) (gp2 ln) lz) i)) → (ln - i) < fu → ∀ (H : Heap) (locs : List Loc), Hd G A s.heap [(h0, .inr (1, [.ref ht, .int (nI ((bld (hA2 ln lz (lg2 (gp2 ln))) (xF2 (rd0 ln + lg2 (gp2 ln) + lg2 (gp2 ln)) (gp2 ln) lz) i).length)), .int (nI (rd0 ln + lg2 (gp2 ln) + lg2 (gp2 ln))), .int (nI ln), .int (nI lz), .ref qa, .ref qb])), (ht, .inl (cI, 864, .inl tb)), (qa, .inl (cI, 9, .inl (nF sf))), (qb, .inl (cI, 9, .inl (nF sl_)))] H locs → ∀ (ls : Array Slot), lv_has ls 3 [(0, .ref h0), (1, .int (nI (gp2 ln))), (2, .int (nI i))] → W p l e ({ frames := 2, cells := 0, slots := 0, locals := 52 } : Room) s m args below meth c H locs 0 0 Q (F0 m 113 ls []) := by
                    intro fu
                    induction fu with
                    | zero =>
                      intro i tb hi htb hfu
                      exact absurd hfu (Nat.not_lt_zero _)
                    | succ fu ih113 =>
                      intro i tb hi htb hfu H locs hd ls hl
                      refine lv_iload_n hx hb dX1_writeHalves_113 rfl (lv_at hl 2 rfl) ?_
                      refine lv_aload_n hx hb dX1_writeHalves_114 rfl (lv_at hl 0 rfl) ?_
                      refine x_get (C := RX1) (T := TX1) (N := 7) (ci := 1) 3 inT_X1 rfl (by decide) lf_X1_22 rfl X hd.1 0 rfl rfl dX1_writeHalves_115 ?_
                      refine lv_iload_n hx hb dX1_writeHalves_118 rfl (lv_at hl 1 rfl) ?_
                      refine n_sub hx hb dX1_writeHalves_119 (by omega) ?_
                      refine n_icmp_ge (tgt := 138) hx hb dX1_writeHalves_120 (by decide) (by omega) (by omega) (fun c_120 => ?_) (fun c_120 => ?_)
                      · refine lv_aload_n hx hb dX1_writeHalves_138 rfl (lv_at hl 0 rfl) ?_
                        refine cM_V (As := []) (rest := []) (wr := [(ht, .inl (cI, 864, .inl tb)), (qa, .inl (cI, 9, .inl (nF sf))), (qb, .inl (cI, 9, .inl (nF sl_)))]) X (c_X1_endRound l G cI cZ h0 ht qa qb (rd0 ln + lg2 (gp2 ln) + lg2 (gp2 ln)) ln lz ((bld (hA2 ln lz (lg2 (gp2 ln))) (xF2 (rd0 ln + lg2 (gp2 ln) + lg2 (gp2 ln)) (gp2 ln) lz) i).length) ) lk_X1_75 hd hA [0] [1, 2, 3] rfl rfl rfl rfl (by decide) rfl rfl hl.1 rfl rfl (Nat.le_of_ble_eq_true rfl) ⟨Nat.le_of_ble_eq_true rfl, Nat.le_of_ble_eq_true rfl⟩ ⟨Nat.le_of_ble_eq_true rfl, Nat.le_of_ble_eq_true rfl⟩ dX1_writeHalves_139 (fun v w1 H locs hp hd => ?_)
                        obtain ⟨rfl, rfl⟩ := hp
                        have hd : Hd G A s.heap [(ht, .inl (cI, 864, .inl tb)), (qa, .inl (cI, 9, .inl (nF sf))), (qb, .inl (cI, 9, .inl (nF sl_))), (h0, .inr (1, [.ref ht, .int (nI ((bld (hA2 ln lz (lg2 (gp2 ln))) (xF2 (rd0 ln + lg2 (gp2 ln) + lg2 (gp2 ln)) (gp2 ln) lz) i).length)), .int (nI ((rd0 ln + lg2 (gp2 ln) + lg2 (gp2 ln)) + 1)), .int (nI ln), .int (nI lz), .ref qa, .ref qb]))] H locs := hd
                        refine st_all (st' := []) rfl ?_
                        exact (fin _ _ [(h0, .inr (1, [.ref ht, .int (nI ((bld (hA2 ln lz (lg2 (gp2 ln))) (xF2 (rd0 ln + lg2 (gp2 ln) + lg2 (gp2 ln)) (gp2 ln) lz) i).length)), .int (nI ((rd0 ln + lg2 (gp2 ln) + lg2 (gp2 ln)) + 1)), .int (nI ln), .int (nI lz), .ref qa, .ref qb])), (ht, .inl (cI, 864, .inl tb)), (qa, .inl (cI, 9, .inl (nF sf))), (qb, .inl (cI, 9, .inl (nF sl_)))] _ _ (hd.sub [3, 0, 1, 2] rfl rfl)).1 rfl ⟨tb, (nF sf), (nF sl_), rfl, by have e0 : rd0 ln = 1 := if_pos c_108; rw [LHalf, show ln - gp2 ln = i by omega, e0], (by rw [LHalf, show ln - gp2 ln = i by omega]; exact htb)⟩ dX1_writeHalves_142
                      · refine lv_aload_n hx hb dX1_writeHalves_123 rfl (lv_at hl 0 rfl) ?_
                        refine lv_iload_n hx hb dX1_writeHalves_124 rfl (lv_at hl 2 rfl) ?_
                        refine lv_iload_n hx hb dX1_writeHalves_125 rfl (lv_at hl 2 rfl) ?_
                        refine lv_iload_n hx hb dX1_writeHalves_126 rfl (lv_at hl 1 rfl) ?_
                        refine n_add hx hb dX1_writeHalves_127  ?_
                        refine lv_iconst (v := nI 2) hx hb dX1_writeHalves_128 (by decide) ?_
                        refine cM_V (As := [.int (nI i), .int (nI (i + (gp2 ln))), .int (nI 2)]) (rest := []) (wr := [(qa, .inl (cI, 9, .inl (nF sf))), (qb, .inl (cI, 9, .inl (nF sl_)))]) X (c_X1_sendWhole l G cI cZ h0 ht qa qb (rd0 ln + lg2 (gp2 ln) + lg2 (gp2 ln)) ln lz (bld (hA2 ln lz (lg2 (gp2 ln))) (xF2 (rd0 ln + lg2 (gp2 ln) + lg2 (gp2 ln)) (gp2 ln) lz) i) tb i (i + (gp2 ln)) 2 (by first | assumption | omega) (by rw [bld_len, hA2_len]; have := Nat.mul_le_mul (show lg2 (gp2 ln) + lg2 (gp2 ln) ≤ 6 by omega) hP8; omega)) lk_X1_85 hd hA [0, 1] [2, 3] rfl rfl rfl rfl (by decide) rfl rfl hl.1 rfl rfl (Nat.le_of_ble_eq_true rfl) ⟨Nat.le_of_ble_eq_true rfl, Nat.le_of_ble_eq_true rfl⟩ ⟨Nat.le_of_ble_eq_true rfl, Nat.le_of_ble_eq_true rfl⟩ dX1_writeHalves_129 (fun v w1 H locs hp hd => ?_)
                        obtain ⟨tb129, rfl, rfl, hT⟩ := hp
                        have hd : Hd G A s.heap [(qa, .inl (cI, 9, .inl (nF sf))), (qb, .inl (cI, 9, .inl (nF sl_))), (h0, .inr (1, [.ref ht, .int (nI (((bld (hA2 ln lz (lg2 (gp2 ln))) (xF2 (rd0 ln + lg2 (gp2 ln) + lg2 (gp2 ln)) (gp2 ln) lz) i) ++ [[(rd0 ln + lg2 (gp2 ln) + lg2 (gp2 ln)), i, (i + (gp2 ln)), 0, lz, 2]]).length)), .int (nI (rd0 ln + lg2 (gp2 ln) + lg2 (gp2 ln))), .int (nI ln), .int (nI lz), .ref qa, .ref qb])), (ht, .inl (cI, 864, .inl tb129))] H locs := hd
                        refine st_all (st' := []) rfl ?_
                        rw [show ((bld (hA2 ln lz (lg2 (gp2 ln))) (xF2 (rd0 ln + lg2 (gp2 ln) + lg2 (gp2 ln)) (gp2 ln) lz) i) ++ [[(rd0 ln + lg2 (gp2 ln) + lg2 (gp2 ln)), i, (i + (gp2 ln)), 0, lz, 2]]) = bld (hA2 ln lz (lg2 (gp2 ln))) (xF2 (rd0 ln + lg2 (gp2 ln) + lg2 (gp2 ln)) (gp2 ln) lz) (i + 1) from rfl] at hd hT
                        have hd : Hd G A s.heap [(qa, .inl (cI, 9, .inl (nF sf))), (qb, .inl (cI, 9, .inl (nF sl_))), (h0, .inr (1, [.ref ht, .int (nI ((bld (hA2 ln lz (lg2 (gp2 ln))) (xF2 (rd0 ln + lg2 (gp2 ln) + lg2 (gp2 ln)) (gp2 ln) lz) (i + 1)).length)), .int (nI (rd0 ln + lg2 (gp2 ln) + lg2 (gp2 ln))), .int (nI ln), .int (nI lz), .ref qa, .ref qb])), (ht, .inl (cI, 864, .inl tb129))] H locs := hd
                        refine lv_iinc (v := nI (i + 1)) (lv' := [(2, .int (nI (i + 1))), (0, .ref h0), (1, .int (nI (gp2 ln)))]) hx hb dX1_writeHalves_132 hl (k := 2) rfl (nI_1 _) (by decide) rfl (fun ls hl => ?_)
                        refine lv_goto (tgt := 113) hx hb dX1_writeHalves_135 (by decide) ?_
                        exact ih113  (i + 1) tb129 (by omega) hT (by omega) _ _ (hd.sub [2, 3, 0, 1] rfl rfl) _ (lv_sub hl [1, 2, 0] rfl)
                  have hd : Hd G A s.heap [(h0, .inr (1, [.ref ht, .int (nI ((bld (hA2 ln lz (lg2 (gp2 ln))) (xF2 (rd0 ln + lg2 (gp2 ln) + lg2 (gp2 ln)) (gp2 ln) lz) 0).length)), .int (nI (rd0 ln + lg2 (gp2 ln) + lg2 (gp2 ln))), .int (nI ln), .int (nI lz), .ref qa, .ref qb])), (ht, .inl (cI, 864, .inl tb)), (qa, .inl (cI, 9, .inl (nF sf))), (qb, .inl (cI, 9, .inl (nF sl_)))] H locs := hd.cong (congrArg (fun z_ : Int32 => ([(h0, .inr (1, [.ref ht, .int z_, .int (nI (rd0 ln + lg2 (gp2 ln) + lg2 (gp2 ln))), .int (nI ln), .int (nI lz), .ref qa, .ref qb])), (ht, .inl (cI, 864, .inl tb)), (qa, .inl (cI, 9, .inl (nF sf))), (qb, .inl (cI, 9, .inl (nF sl_)))] : va_W)) (show (nI ((hA2 ln lz (lg2 (gp2 ln))).length) : Int32) = nI ((bld (hA2 ln lz (lg2 (gp2 ln))) (xF2 (rd0 ln + lg2 (gp2 ln) + lg2 (gp2 ln)) (gp2 ln) lz) 0).length) from rfl))
                  exact LP113 ((ln - 0) + 1) 0 tb (Nat.zero_le _) htb (Nat.lt_succ_self _) _ _ (hd.sub [0, 1, 2, 3] rfl rfl) _ (lv_sub hl [1, 2, 0] rfl)
              · refine lv_aload_n hx hb dX1_writeHalves_90 rfl (lv_at hl 0 rfl) ?_
                refine lv_iload_n hx hb dX1_writeHalves_91 rfl (lv_at hl 1 rfl) ?_
                refine lv_iload_n hx hb dX1_writeHalves_92 rfl (lv_at hl 2 rfl) ?_
                refine cM_V (As := [.int (nI (gp2 ln)), .int (nI (2 ^ i))]) (rest := []) (wr := []) X (c_X1_writeDoubling l G cI cZ h0 ht qa qb (rd0 ln + lg2 (gp2 ln) + i) ln lz (hA2 ln lz i) tb sf sl_ ((hup (gp2 ln) lz i).1) ((hup (gp2 ln) lz i).2) (gp2 ln) (2 ^ i) (by first | assumption | omega) (by rw [hA2_len]; have := Nat.mul_le_mul (show lg2 (gp2 ln) + i ≤ 6 by omega) hP8; omega) (by first | assumption | omega) (up_in hP hi c_87).2 (by first | assumption | omega) (by first | assumption | omega) (by first | assumption | omega)) lk_X1_98 hd hA [0, 1, 2, 3] [] rfl rfl rfl rfl (by decide) rfl rfl hl.1 rfl rfl (Nat.le_of_ble_eq_true rfl) ⟨Nat.le_of_ble_eq_true rfl, Nat.le_of_ble_eq_true rfl⟩ ⟨Nat.le_of_ble_eq_true rfl, Nat.le_of_ble_eq_true rfl⟩ dX1_writeHalves_93 (fun v w1 H locs hp hd => ?_)
                obtain ⟨tb93, sf93, sl93, rfl, rfl, hT, hS1, hS2⟩ := hp
                have hd : Hd G A s.heap [(h0, .inr (1, [.ref ht, .int (nI ((bld (hA2 ln lz i) (dF (rd0 ln + lg2 (gp2 ln) + i) ((hup (gp2 ln) lz i).1) ((hup (gp2 ln) lz i).2) (2 ^ i)) (gp2 ln)).length)), .int (nI ((rd0 ln + lg2 (gp2 ln) + i) + 1)), .int (nI ln), .int (nI lz), .ref qa, .ref qb])), (ht, .inl (cI, 864, .inl tb93)), (qa, .inl (cI, 9, .inl (nF sf93))), (qb, .inl (cI, 9, .inl (nF sl93)))] H locs := hd
                refine st_all (st' := []) rfl ?_
                refine lv_iload_n hx hb dX1_writeHalves_96 rfl (lv_at hl 2 rfl) ?_
                refine lv_iconst (v := nI 2) hx hb dX1_writeHalves_97 (by decide) ?_
                refine n_mul hx hb dX1_writeHalves_98  ?_
                refine lv_istore_n (lv' := [(2, .int (nI ((2 ^ i) * 2))), (0, .ref h0), (1, .int (nI (gp2 ln)))]) hx hb dX1_writeHalves_99 rfl hl (by decide) rfl (fun ls hl => ?_)
                refine lv_goto (tgt := 85) hx hb dX1_writeHalves_100 (by decide) ?_
                have hl : lv_has ls 3 [(2, .int (nI (2 ^ (i + 1)))), (0, .ref h0), (1, .int (nI (gp2 ln)))] := lv_rep hl (congrArg (fun z_ : Int32 => ([(2, .int z_), (0, .ref h0), (1, .int (nI (gp2 ln)))] : List (Nat × Value))) (show (nI ((2 ^ i) * 2) : Int32) = nI (2 ^ (i + 1)) from rfl))
                have hd : Hd G A s.heap [(h0, .inr (1, [.ref ht, .int (nI ((hA2 ln lz (i + 1)).length)), .int (nI ((rd0 ln + lg2 (gp2 ln) + i) + 1)), .int (nI ln), .int (nI lz), .ref qa, .ref qb])), (ht, .inl (cI, 864, .inl tb93)), (qa, .inl (cI, 9, .inl (nF sf93))), (qb, .inl (cI, 9, .inl (nF sl93)))] H locs := hd.cong (congrArg (fun z_ : Int32 => ([(h0, .inr (1, [.ref ht, .int z_, .int (nI ((rd0 ln + lg2 (gp2 ln) + i) + 1)), .int (nI ln), .int (nI lz), .ref qa, .ref qb])), (ht, .inl (cI, 864, .inl tb93)), (qa, .inl (cI, 9, .inl (nF sf93))), (qb, .inl (cI, 9, .inl (nF sl93)))] : va_W)) (show (nI ((bld (hA2 ln lz i) (dF (rd0 ln + lg2 (gp2 ln) + i) ((hup (gp2 ln) lz i).1) ((hup (gp2 ln) lz i).2) (2 ^ i)) (gp2 ln)).length) : Int32) = nI ((hA2 ln lz (i + 1)).length) from rfl))
                have hd : Hd G A s.heap [(h0, .inr (1, [.ref ht, .int (nI ((hA2 ln lz (i + 1)).length)), .int (nI (rd0 ln + lg2 (gp2 ln) + (i + 1))), .int (nI ln), .int (nI lz), .ref qa, .ref qb])), (ht, .inl (cI, 864, .inl tb93)), (qa, .inl (cI, 9, .inl (nF sf93))), (qb, .inl (cI, 9, .inl (nF sl93)))] H locs := hd.cong (congrArg (fun z_ : Int32 => ([(h0, .inr (1, [.ref ht, .int (nI ((hA2 ln lz (i + 1)).length)), .int z_, .int (nI ln), .int (nI lz), .ref qa, .ref qb])), (ht, .inl (cI, 864, .inl tb93)), (qa, .inl (cI, 9, .inl (nF sf93))), (qb, .inl (cI, 9, .inl (nF sl93)))] : va_W)) (show (nI ((rd0 ln + lg2 (gp2 ln) + i) + 1) : Int32) = nI (rd0 ln + lg2 (gp2 ln) + (i + 1)) from by first | rfl | (congr 1; omega)))
                exact ih85  (i + 1) tb93 sf93 sl93 (up_in hP hi c_87).1 hT hS1 hS2 (by have := (up_in hP hi c_87).1; omega) _ _ (hd.sub [0, 1, 2, 3] rfl rfl) _ (lv_sub hl [1, 2, 0] rfl)
          have hl : lv_has ls 3 [(2, .int (nI (2 ^ 0))), (0, .ref h0), (1, .int (nI (gp2 ln)))] := lv_rep hl (congrArg (fun z_ : Int32 => ([(2, .int z_), (0, .ref h0), (1, .int (nI (gp2 ln)))] : List (Nat × Value))) (show (nI 1 : Int32) = nI (2 ^ 0) from rfl))
          have hd : Hd G A s.heap [(h0, .inr (1, [.ref ht, .int (nI ((hA2 ln lz 0).length)), .int (nI (rd0 ln + i)), .int (nI ln), .int (nI lz), .ref qa, .ref qb])), (ht, .inl (cI, 864, .inl tb)), (qa, .inl (cI, 9, .inl (nF sf))), (qb, .inl (cI, 9, .inl (nF sl_)))] H locs := hd.cong (congrArg (fun z_ : Int32 => ([(h0, .inr (1, [.ref ht, .int z_, .int (nI (rd0 ln + i)), .int (nI ln), .int (nI lz), .ref qa, .ref qb])), (ht, .inl (cI, 864, .inl tb)), (qa, .inl (cI, 9, .inl (nF sf))), (qb, .inl (cI, 9, .inl (nF sl_)))] : va_W)) (show (nI ((hA1 ln lz i).length) : Int32) = nI ((hA2 ln lz 0).length) from by rw [hA2, ← hd_ex hP hi c_67]))
          have hd : Hd G A s.heap [(h0, .inr (1, [.ref ht, .int (nI ((hA2 ln lz 0).length)), .int (nI (rd0 ln + lg2 (gp2 ln) + 0)), .int (nI ln), .int (nI lz), .ref qa, .ref qb])), (ht, .inl (cI, 864, .inl tb)), (qa, .inl (cI, 9, .inl (nF sf))), (qb, .inl (cI, 9, .inl (nF sl_)))] H locs := hd.cong (congrArg (fun z_ : Int32 => ([(h0, .inr (1, [.ref ht, .int (nI ((hA2 ln lz 0).length)), .int z_, .int (nI ln), .int (nI lz), .ref qa, .ref qb])), (ht, .inl (cI, 864, .inl tb)), (qa, .inl (cI, 9, .inl (nF sf))), (qb, .inl (cI, 9, .inl (nF sl_)))] : va_W)) (show (nI (rd0 ln + i) : Int32) = nI (rd0 ln + lg2 (gp2 ln) + 0) from by rw [← hd_ex hP hi c_67]; rfl))
          exact LP85 ((lg2 (gp2 ln) - 0) + 1) 0 tb sf sl_ (Nat.zero_le _) (by rw [hA2, ← hd_ex hP hi c_67]; exact htb) (by intro m hm; rw [hup, ← hd_ex hP hi c_67]; exact hsf m hm) (by intro m hm; rw [hup, ← hd_ex hP hi c_67]; exact hsl m hm) (Nat.lt_succ_self _) _ _ (hd.sub [0, 1, 2, 3] rfl rfl) _ (lv_sub hl [1, 2, 0] rfl)
        · refine lv_aload_n hx hb dX1_writeHalves_70 rfl (lv_at hl 0 rfl) ?_
          refine lv_iload_n hx hb dX1_writeHalves_71 rfl (lv_at hl 1 rfl) ?_
          refine lv_iload_n hx hb dX1_writeHalves_72 rfl (lv_at hl 2 rfl) ?_
          refine cM_V (As := [.int (nI (gp2 ln)), .int (nI (gp2 ln / 2 ^ (i + 1)))]) (rest := []) (wr := []) X (c_X1_writeHalving l G cI cZ h0 ht qa qb (rd0 ln + i) ln lz (hA1 ln lz i) tb sf sl_ ((hlo (gp2 ln) lz i).1) ((hlo (gp2 ln) lz i).2) (gp2 ln) (gp2 ln / 2 ^ (i + 1)) (by first | assumption | omega) (by rw [hA1_len]; have := Nat.mul_le_mul (show i ≤ 3 by omega) hP8; omega) (by first | assumption | omega) (hd_in hP hi c_67).2 (fun m => Nat.le_trans (hlo_le _ _ _ m) hz) (by first | assumption | omega) (by first | assumption | omega)) lk_X1_94 hd hA [0, 1, 2, 3] [] rfl rfl rfl rfl (by decide) rfl rfl hl.1 rfl rfl (Nat.le_of_ble_eq_true rfl) ⟨Nat.le_of_ble_eq_true rfl, Nat.le_of_ble_eq_true rfl⟩ ⟨Nat.le_of_ble_eq_true rfl, Nat.le_of_ble_eq_true rfl⟩ dX1_writeHalves_73 (fun v w1 H locs hp hd => ?_)
          obtain ⟨tb73, sf73, sl73, rfl, rfl, hT, hS1, hS2⟩ := hp
          have hd : Hd G A s.heap [(h0, .inr (1, [.ref ht, .int (nI ((bld (hA1 ln lz i) (hF (rd0 ln + i) ((hlo (gp2 ln) lz i).1) ((hlo (gp2 ln) lz i).2) (gp2 ln / 2 ^ (i + 1))) (gp2 ln)).length)), .int (nI ((rd0 ln + i) + 1)), .int (nI ln), .int (nI lz), .ref qa, .ref qb])), (ht, .inl (cI, 864, .inl tb73)), (qa, .inl (cI, 9, .inl (nF sf73))), (qb, .inl (cI, 9, .inl (nF sl73)))] H locs := hd
          refine st_all (st' := []) rfl ?_
          refine lv_iload_n hx hb dX1_writeHalves_76 rfl (lv_at hl 2 rfl) ?_
          refine lv_iconst (v := nI 2) hx hb dX1_writeHalves_77 (by decide) ?_
          refine n_div hx hb dX1_writeHalves_78 (Nat.lt_of_le_of_lt (Nat.div_le_self _ _) (by omega)) (by omega) (by omega) ?_
          refine lv_istore_n (lv' := [(2, .int (nI ((gp2 ln / 2 ^ (i + 1)) / 2))), (0, .ref h0), (1, .int (nI (gp2 ln)))]) hx hb dX1_writeHalves_79 rfl hl (by decide) rfl (fun ls hl => ?_)
          refine lv_goto (tgt := 65) hx hb dX1_writeHalves_80 (by decide) ?_
          have hl : lv_has ls 3 [(2, .int (nI (gp2 ln / 2 ^ ((i + 1) + 1)))), (0, .ref h0), (1, .int (nI (gp2 ln)))] := lv_rep hl (congrArg (fun z_ : Int32 => ([(2, .int z_), (0, .ref h0), (1, .int (nI (gp2 ln)))] : List (Nat × Value))) (show (nI ((gp2 ln / 2 ^ (i + 1)) / 2) : Int32) = nI (gp2 ln / 2 ^ ((i + 1) + 1)) from by rw [Nat.div_div_eq_div_mul, ← Nat.pow_succ]))
          have hd : Hd G A s.heap [(h0, .inr (1, [.ref ht, .int (nI ((hA1 ln lz (i + 1)).length)), .int (nI ((rd0 ln + i) + 1)), .int (nI ln), .int (nI lz), .ref qa, .ref qb])), (ht, .inl (cI, 864, .inl tb73)), (qa, .inl (cI, 9, .inl (nF sf73))), (qb, .inl (cI, 9, .inl (nF sl73)))] H locs := hd.cong (congrArg (fun z_ : Int32 => ([(h0, .inr (1, [.ref ht, .int z_, .int (nI ((rd0 ln + i) + 1)), .int (nI ln), .int (nI lz), .ref qa, .ref qb])), (ht, .inl (cI, 864, .inl tb73)), (qa, .inl (cI, 9, .inl (nF sf73))), (qb, .inl (cI, 9, .inl (nF sl73)))] : va_W)) (show (nI ((bld (hA1 ln lz i) (hF (rd0 ln + i) ((hlo (gp2 ln) lz i).1) ((hlo (gp2 ln) lz i).2) (gp2 ln / 2 ^ (i + 1))) (gp2 ln)).length) : Int32) = nI ((hA1 ln lz (i + 1)).length) from rfl))
          have hd : Hd G A s.heap [(h0, .inr (1, [.ref ht, .int (nI ((hA1 ln lz (i + 1)).length)), .int (nI (rd0 ln + (i + 1))), .int (nI ln), .int (nI lz), .ref qa, .ref qb])), (ht, .inl (cI, 864, .inl tb73)), (qa, .inl (cI, 9, .inl (nF sf73))), (qb, .inl (cI, 9, .inl (nF sl73)))] H locs := hd.cong (congrArg (fun z_ : Int32 => ([(h0, .inr (1, [.ref ht, .int (nI ((hA1 ln lz (i + 1)).length)), .int z_, .int (nI ln), .int (nI lz), .ref qa, .ref qb])), (ht, .inl (cI, 864, .inl tb73)), (qa, .inl (cI, 9, .inl (nF sf73))), (qb, .inl (cI, 9, .inl (nF sl73)))] : va_W)) (show (nI ((rd0 ln + i) + 1) : Int32) = nI (rd0 ln + (i + 1)) from by first | rfl | (congr 1; omega)))
          exact ih65  (i + 1) tb73 sf73 sl73 (hd_in hP hi c_67).1 hT hS1 hS2 (by have := (hd_in hP hi c_67).1; omega) _ _ (hd.sub [0, 1, 2, 3] rfl rfl) _ (lv_sub hl [1, 2, 0] rfl)
    have hl : lv_has ls 3 [(2, .int (nI (gp2 ln / 2 ^ (0 + 1)))), (0, .ref h0), (1, .int (nI (gp2 ln)))] := lv_rep hl (congrArg (fun z_ : Int32 => ([(2, .int z_), (0, .ref h0), (1, .int (nI (gp2 ln)))] : List (Nat × Value))) (show (nI ((gp2 ln) / 2) : Int32) = nI (gp2 ln / 2 ^ (0 + 1)) from rfl))
    have hd : Hd G A s.heap [(h0, .inr (1, [.ref ht, .int (nI ((hA1 ln lz 0).length)), .int (nI (rd0 ln)), .int (nI ln), .int (nI lz), .ref qa, .ref qb])), (ht, .inl (cI, 864, .inl tb)), (qa, .inl (cI, 9, .inl (nF (fun _ => 0)))), (qb, .inl (cI, 9, .inl (nF (fun _ => lz))))] H locs := hd.cong (congrArg (fun z_ : Int32 => ([(h0, .inr (1, [.ref ht, .int z_, .int (nI (rd0 ln)), .int (nI ln), .int (nI lz), .ref qa, .ref qb])), (ht, .inl (cI, 864, .inl tb)), (qa, .inl (cI, 9, .inl (nF (fun _ => 0)))), (qb, .inl (cI, 9, .inl (nF (fun _ => lz))))] : va_W)) (show (nI ((hA0 ln lz).length) : Int32) = nI ((hA1 ln lz 0).length) from rfl))
    have hd : Hd G A s.heap [(h0, .inr (1, [.ref ht, .int (nI ((hA1 ln lz 0).length)), .int (nI (rd0 ln + 0)), .int (nI ln), .int (nI lz), .ref qa, .ref qb])), (ht, .inl (cI, 864, .inl tb)), (qa, .inl (cI, 9, .inl (nF (fun _ => 0)))), (qb, .inl (cI, 9, .inl (nF (fun _ => lz))))] H locs := hd.cong (congrArg (fun z_ : Int32 => ([(h0, .inr (1, [.ref ht, .int (nI ((hA1 ln lz 0).length)), .int z_, .int (nI ln), .int (nI lz), .ref qa, .ref qb])), (ht, .inl (cI, 864, .inl tb)), (qa, .inl (cI, 9, .inl (nF (fun _ => 0)))), (qb, .inl (cI, 9, .inl (nF (fun _ => lz))))] : va_W)) (show (nI (rd0 ln) : Int32) = nI (rd0 ln + 0) from rfl))
    exact LP65 ((lg2 (gp2 ln) - 0) + 1) 0 tb (fun _ => 0) (fun _ => lz) (Nat.zero_le _) htb (fun _ _ => rfl) (fun _ _ => rfl) (Nat.lt_succ_self _) _ _ (hd.sub [0, 1, 2, 3] rfl rfl) _ (lv_sub hl [1, 2, 0] rfl)
  refine lv_aload_n hx hb dX1_writeHalves_5 rfl (lv_at hl 1 rfl) ?_
  refine x_get (C := RX1) (T := TX1) (N := 7) (ci := 1) 3 inT_X1 rfl (by decide) lf_X1_22 rfl X hd.1 0 rfl rfl dX1_writeHalves_6 ?_
  refine lv_iload_n hx hb dX1_writeHalves_9 rfl (lv_at hl 0 rfl) ?_
  refine n_icmp_le (tgt := 42) hx hb dX1_writeHalves_10 (by decide) (by omega) (by omega) (fun c_10 => ?_) (fun c_10 => ?_)
  · have hd : Hd G A s.heap [(h0, .inr (1, [.ref ht, .int (nI ((hA0 ln lz).length)), .int (nI 0), .int (nI ln), .int (nI lz), .ref qa, .ref qb])), (ht, .inl (cI, 864, .inl tb0)), (qa, .inl (cI, 9, .inl sa0)), (qb, .inl (cI, 9, .inl sb0))] s.heap [] := hd.cong (congrArg (fun z_ : Int32 => ([(h0, .inr (1, [.ref ht, .int z_, .int (nI 0), .int (nI ln), .int (nI lz), .ref qa, .ref qb])), (ht, .inl (cI, 864, .inl tb0)), (qa, .inl (cI, 9, .inl sa0)), (qb, .inl (cI, 9, .inl sb0))] : va_W)) (show (nI 0 : Int32) = nI ((hA0 ln lz).length) from by rw [hA0, show ln - gp2 ln = 0 by omega]; rfl))
    have hd : Hd G A s.heap [(h0, .inr (1, [.ref ht, .int (nI ((hA0 ln lz).length)), .int (nI (rd0 ln)), .int (nI ln), .int (nI lz), .ref qa, .ref qb])), (ht, .inl (cI, 864, .inl tb0)), (qa, .inl (cI, 9, .inl sa0)), (qb, .inl (cI, 9, .inl sb0))] s.heap [] := hd.cong (congrArg (fun z_ : Int32 => ([(h0, .inr (1, [.ref ht, .int (nI ((hA0 ln lz).length)), .int z_, .int (nI ln), .int (nI lz), .ref qa, .ref qb])), (ht, .inl (cI, 864, .inl tb0)), (qa, .inl (cI, 9, .inl sa0)), (qb, .inl (cI, 9, .inl sb0))] : va_W)) (show (nI 0 : Int32) = nI (rd0 ln) from by rw [rd0, if_neg (by omega)]))
    exact J42  tb0 (by rw [hA0, show ln - gp2 ln = 0 by omega]; exact LTc_0 _)  _ _ (hd.sub [0, 1, 2, 3] rfl rfl) _ (lv_sub hl [1, 0] rfl)
  · refine lv_iload_n hx hb dX1_writeHalves_13 rfl (lv_at hl 0 rfl) ?_
    refine lv_istore_n (lv' := [(2, .int (nI (gp2 ln))), (1, .int (nI (gp2 ln))), (0, .ref h0)]) hx hb dX1_writeHalves_14 rfl hl (by decide) rfl (fun ls hl => ?_)
    have LP15 : ∀ (fu : Nat) (i : Nat) (tb : Nat → Int32), (i ≤ ln - gp2 ln) → (LTc tb (bld [] (xF1 (gp2 ln) lz) i)) → (ln - i) < fu → ∀ (H : Heap) (locs : List Loc), Hd G A s.heap [(h0, .inr (1, [.ref ht, .int (nI ((bld [] (xF1 (gp2 ln) lz) i).length)), .int (nI 0), .int (nI ln), .int (nI lz), .ref qa, .ref qb])), (ht, .inl (cI, 864, .inl tb)), (qa, .inl (cI, 9, .inl sa0)), (qb, .inl (cI, 9, .inl sb0))] H locs → ∀ (ls : Array Slot), lv_has ls 3 [(0, .ref h0), (1, .int (nI (gp2 ln))), (2, .int (nI (gp2 ln + i)))] → W p l e ({ frames := 2, cells := 0, slots := 0, locals := 52 } : Room) s m args below meth c H locs 0 0 Q (F0 m 15 ls []) := by
      intro fu
      induction fu with
      | zero =>
        intro i tb hi htb hfu
        exact absurd hfu (Nat.not_lt_zero _)
      | succ fu ih15 =>
        intro i tb hi htb hfu H locs hd ls hl
        refine lv_iload_n hx hb dX1_writeHalves_15 rfl (lv_at hl 2 rfl) ?_
        refine lv_aload_n hx hb dX1_writeHalves_16 rfl (lv_at hl 0 rfl) ?_
        refine x_get (C := RX1) (T := TX1) (N := 7) (ci := 1) 3 inT_X1 rfl (by decide) lf_X1_22 rfl X hd.1 0 rfl rfl dX1_writeHalves_17 ?_
        refine n_icmp_ge (tgt := 38) hx hb dX1_writeHalves_20 (by decide) (by omega) (by omega) (fun c_20 => ?_) (fun c_20 => ?_)
        · refine lv_aload_n hx hb dX1_writeHalves_38 rfl (lv_at hl 0 rfl) ?_
          refine cM_V (As := []) (rest := []) (wr := [(ht, .inl (cI, 864, .inl tb)), (qa, .inl (cI, 9, .inl sa0)), (qb, .inl (cI, 9, .inl sb0))]) X (c_X1_endRound l G cI cZ h0 ht qa qb 0 ln lz ((bld [] (xF1 (gp2 ln) lz) i).length) ) lk_X1_75 hd hA [0] [1, 2, 3] rfl rfl rfl rfl (by decide) rfl rfl hl.1 rfl rfl (Nat.le_of_ble_eq_true rfl) ⟨Nat.le_of_ble_eq_true rfl, Nat.le_of_ble_eq_true rfl⟩ ⟨Nat.le_of_ble_eq_true rfl, Nat.le_of_ble_eq_true rfl⟩ dX1_writeHalves_39 (fun v w1 H locs hp hd => ?_)
          obtain ⟨rfl, rfl⟩ := hp
          have hd : Hd G A s.heap [(ht, .inl (cI, 864, .inl tb)), (qa, .inl (cI, 9, .inl sa0)), (qb, .inl (cI, 9, .inl sb0)), (h0, .inr (1, [.ref ht, .int (nI ((bld [] (xF1 (gp2 ln) lz) i).length)), .int (nI (0 + 1)), .int (nI ln), .int (nI lz), .ref qa, .ref qb]))] H locs := hd
          refine st_all (st' := []) rfl ?_
          have hd : Hd G A s.heap [(ht, .inl (cI, 864, .inl tb)), (qa, .inl (cI, 9, .inl sa0)), (qb, .inl (cI, 9, .inl sb0)), (h0, .inr (1, [.ref ht, .int (nI ((hA0 ln lz).length)), .int (nI (0 + 1)), .int (nI ln), .int (nI lz), .ref qa, .ref qb]))] H locs := hd.cong (congrArg (fun z_ : Int32 => ([(ht, .inl (cI, 864, .inl tb)), (qa, .inl (cI, 9, .inl sa0)), (qb, .inl (cI, 9, .inl sb0)), (h0, .inr (1, [.ref ht, .int z_, .int (nI (0 + 1)), .int (nI ln), .int (nI lz), .ref qa, .ref qb]))] : va_W)) (show (nI ((bld [] (xF1 (gp2 ln) lz) i).length) : Int32) = nI ((hA0 ln lz).length) from by rw [hA0, show ln - gp2 ln = i by omega]))
          have hd : Hd G A s.heap [(ht, .inl (cI, 864, .inl tb)), (qa, .inl (cI, 9, .inl sa0)), (qb, .inl (cI, 9, .inl sb0)), (h0, .inr (1, [.ref ht, .int (nI ((hA0 ln lz).length)), .int (nI (rd0 ln)), .int (nI ln), .int (nI lz), .ref qa, .ref qb]))] H locs := hd.cong (congrArg (fun z_ : Int32 => ([(ht, .inl (cI, 864, .inl tb)), (qa, .inl (cI, 9, .inl sa0)), (qb, .inl (cI, 9, .inl sb0)), (h0, .inr (1, [.ref ht, .int (nI ((hA0 ln lz).length)), .int z_, .int (nI ln), .int (nI lz), .ref qa, .ref qb]))] : va_W)) (show (nI (0 + 1) : Int32) = nI (rd0 ln) from by rw [rd0, if_pos c_10]))
          exact J42  tb (by rw [hA0, show ln - gp2 ln = i by omega]; exact htb)  _ _ (hd.sub [3, 0, 1, 2] rfl rfl) _ (lv_sub hl [0, 1] rfl)
        · refine lv_aload_n hx hb dX1_writeHalves_23 rfl (lv_at hl 0 rfl) ?_
          refine lv_iload_n hx hb dX1_writeHalves_24 rfl (lv_at hl 2 rfl) ?_
          refine lv_iload_n hx hb dX1_writeHalves_25 rfl (lv_at hl 2 rfl) ?_
          refine lv_iload_n hx hb dX1_writeHalves_26 rfl (lv_at hl 1 rfl) ?_
          refine n_sub hx hb dX1_writeHalves_27 (by omega) ?_
          refine st_eq (show (nI ((gp2 ln + i) - (gp2 ln)) : Int32) = nI i from by rw [Nat.add_sub_cancel_left]) ?_
          refine lv_iconst (v := nI 0) hx hb dX1_writeHalves_28 (by decide) ?_
          refine cM_V (As := [.int (nI (gp2 ln + i)), .int (nI i), .int (nI 0)]) (rest := []) (wr := [(qa, .inl (cI, 9, .inl sa0)), (qb, .inl (cI, 9, .inl sb0))]) X (c_X1_sendWhole l G cI cZ h0 ht qa qb 0 ln lz (bld [] (xF1 (gp2 ln) lz) i) tb (gp2 ln + i) i 0 (by first | assumption | omega) (by rw [bld_len]; show 0 + i < 144; omega)) lk_X1_85 hd hA [0, 1] [2, 3] rfl rfl rfl rfl (by decide) rfl rfl hl.1 rfl rfl (Nat.le_of_ble_eq_true rfl) ⟨Nat.le_of_ble_eq_true rfl, Nat.le_of_ble_eq_true rfl⟩ ⟨Nat.le_of_ble_eq_true rfl, Nat.le_of_ble_eq_true rfl⟩ dX1_writeHalves_29 (fun v w1 H locs hp hd => ?_)
          obtain ⟨tb29, rfl, rfl, hT⟩ := hp
          have hd : Hd G A s.heap [(qa, .inl (cI, 9, .inl sa0)), (qb, .inl (cI, 9, .inl sb0)), (h0, .inr (1, [.ref ht, .int (nI (((bld [] (xF1 (gp2 ln) lz) i) ++ [[0, (gp2 ln + i), i, 0, lz, 0]]).length)), .int (nI 0), .int (nI ln), .int (nI lz), .ref qa, .ref qb])), (ht, .inl (cI, 864, .inl tb29))] H locs := hd
          refine st_all (st' := []) rfl ?_
          rw [show ((bld [] (xF1 (gp2 ln) lz) i) ++ [[0, (gp2 ln + i), i, 0, lz, 0]]) = bld [] (xF1 (gp2 ln) lz) (i + 1) from rfl] at hd hT
          have hd : Hd G A s.heap [(qa, .inl (cI, 9, .inl sa0)), (qb, .inl (cI, 9, .inl sb0)), (h0, .inr (1, [.ref ht, .int (nI ((bld [] (xF1 (gp2 ln) lz) (i + 1)).length)), .int (nI 0), .int (nI ln), .int (nI lz), .ref qa, .ref qb])), (ht, .inl (cI, 864, .inl tb29))] H locs := hd
          refine lv_iinc (v := nI (gp2 ln + i + 1)) (lv' := [(2, .int (nI (gp2 ln + i + 1))), (0, .ref h0), (1, .int (nI (gp2 ln)))]) hx hb dX1_writeHalves_32 hl (k := 2) rfl (nI_1 _) (by decide) rfl (fun ls hl => ?_)
          refine lv_goto (tgt := 15) hx hb dX1_writeHalves_35 (by decide) ?_
          have hl : lv_has ls 3 [(2, .int (nI (gp2 ln + (i + 1)))), (0, .ref h0), (1, .int (nI (gp2 ln)))] := lv_rep hl (congrArg (fun z_ : Int32 => ([(2, .int z_), (0, .ref h0), (1, .int (nI (gp2 ln)))] : List (Nat × Value))) (show (nI (gp2 ln + i + 1) : Int32) = nI (gp2 ln + (i + 1)) from rfl))
          exact ih15  (i + 1) tb29 (by omega) hT (by omega) _ _ (hd.sub [2, 3, 0, 1] rfl rfl) _ (lv_sub hl [1, 2, 0] rfl)
    have hl : lv_has ls 3 [(2, .int (nI (gp2 ln + 0))), (1, .int (nI (gp2 ln))), (0, .ref h0)] := lv_rep hl (congrArg (fun z_ : Int32 => ([(2, .int z_), (1, .int (nI (gp2 ln))), (0, .ref h0)] : List (Nat × Value))) (show (nI (gp2 ln) : Int32) = nI (gp2 ln + 0) from rfl))
    have hd : Hd G A s.heap [(h0, .inr (1, [.ref ht, .int (nI ((bld [] (xF1 (gp2 ln) lz) 0).length)), .int (nI 0), .int (nI ln), .int (nI lz), .ref qa, .ref qb])), (ht, .inl (cI, 864, .inl tb0)), (qa, .inl (cI, 9, .inl sa0)), (qb, .inl (cI, 9, .inl sb0))] s.heap [] := hd.cong (congrArg (fun z_ : Int32 => ([(h0, .inr (1, [.ref ht, .int z_, .int (nI 0), .int (nI ln), .int (nI lz), .ref qa, .ref qb])), (ht, .inl (cI, 864, .inl tb0)), (qa, .inl (cI, 9, .inl sa0)), (qb, .inl (cI, 9, .inl sb0))] : va_W)) (show (nI 0 : Int32) = nI ((bld [] (xF1 (gp2 ln) lz) 0).length) from rfl))
    exact LP15 ((ln - 0) + 1) 0 tb0 (Nat.zero_le _) (LTc_0 _) (Nat.lt_succ_self _) _ _ (hd.sub [0, 1, 2, 3] rfl rfl) _ (lv_sub hl [2, 1, 0] rfl)

set_option maxHeartbeats 4000000 in
set_option maxRecDepth 100000 in
theorem c_X1_write (l : Launch) (G : va_G) (cI cZ : ClassId) (h0 : Nat) (ht : Nat) (qa : Nat) (qb : Nat) (w0 : Nat) (r0 : Nat) (m0 : Nat) (s0 : Nat) (tb0 : Nat → Int32) (sa0 : Nat → Int32) (sb0 : Nat → Int32) (w : Nat) (n2 : Nat) (z2 : Nat) (hw : w ≤ 3) (hn : 2 ≤ n2) (hn9 : n2 ≤ 9) (hz : z2 ≤ 99) : CM l G cI cZ yX1_write cX1_write 4 none 3 74 0 0 [.ref h0, .int (nI w), .int (nI n2), .int (nI z2)] [(h0, .inr (1, [.ref ht, .int (nI w0), .int (nI r0), .int (nI m0), .int (nI s0), .ref qa, .ref qb])), (ht, .inl (cI, 864, .inl tb0)), (qa, .inl (cI, 9, .inl sa0)), (qb, .inl (cI, 9, .inl sb0))] (fun ov_ wv_ => ∃ tb2 : Nat → Int32, ∃ sa2 : Nat → Int32, ∃ sb2 : Nat → Int32, ov_ = none ∧ wv_ = [(h0, .inr (1, [.ref ht, .int (nI ((lLs w n2 z2).length)), .int (nI (lRd w n2)), .int (nI n2), .int (nI z2), .ref qa, .ref qb])), (ht, .inl (cI, 864, .inl tb2)), (qa, .inl (cI, 9, .inl sa2)), (qb, .inl (cI, 9, .inl sb2))] ∧ (LTc tb2 (lLs w n2 z2))) := by
  refine CM.of (own := RX1) (by decide) rfl (Nat.le_of_ble_eq_true rfl) ?_
  intro p e R s m args below meth c Q A X hR hret hnm hA fin hd ls hl
  subst hR
  have hx := X.1
  have hb := X.2.1
  have hl : lv_has ls 4 [(0, .ref h0), (1, .int (nI w)), (2, .int (nI n2)), (3, .int (nI z2))] := hl
  refine lv_aload_n hx hb dX1_write_0 rfl (lv_at hl 0 rfl) ?_
  refine lv_iconst (v := nI 0) hx hb dX1_write_1 (by decide) ?_
  refine x_put (C := RX1) (T := TX1) (N := 7) (ci := 1) (ty := .int) 1 inT_X1 tyX1 tyX1_ok nmX1 rfl (by decide) lf_X1_15 rfl rfl (by decide +kernel) X hd 0 rfl rfl rfl (Nat.le_of_ble_eq_true rfl) dX1_write_2 (fun H locs hd => ?_)
  have hd : Hd G A s.heap [(h0, .inr (1, [.ref ht, .int (nI 0), .int (nI r0), .int (nI m0), .int (nI s0), .ref qa, .ref qb])), (ht, .inl (cI, 864, .inl tb0)), (qa, .inl (cI, 9, .inl sa0)), (qb, .inl (cI, 9, .inl sb0))] H locs := hd
  refine lv_aload_n hx hb dX1_write_5 rfl (lv_at hl 0 rfl) ?_
  refine lv_iconst (v := nI 0) hx hb dX1_write_6 (by decide) ?_
  refine x_put (C := RX1) (T := TX1) (N := 7) (ci := 1) (ty := .int) 2 inT_X1 tyX1 tyX1_ok nmX1 rfl (by decide) lf_X1_19 rfl rfl (by decide +kernel) X hd 0 rfl rfl rfl (Nat.le_of_ble_eq_true rfl) dX1_write_7 (fun H locs hd => ?_)
  have hd : Hd G A s.heap [(h0, .inr (1, [.ref ht, .int (nI 0), .int (nI 0), .int (nI m0), .int (nI s0), .ref qa, .ref qb])), (ht, .inl (cI, 864, .inl tb0)), (qa, .inl (cI, 9, .inl sa0)), (qb, .inl (cI, 9, .inl sb0))] H locs := hd
  refine lv_aload_n hx hb dX1_write_10 rfl (lv_at hl 0 rfl) ?_
  refine lv_iload_n hx hb dX1_write_11 rfl (lv_at hl 2 rfl) ?_
  refine lv_bipush (v := nI 9) hx hb dX1_write_12 (by decide) ?_
  refine va_mmin hx hb (by rw [X.2.2.1]; exact hl.1.symm) X.2.2.2.1 (X.2.2.2.2.1 _ lo_X1_34) (X.2.2.2.2.1 _ w_minS) (X.2.2.2.2.1 _ w_mathI) (X.2.2.2.2.1 _ w_minC) (by decide) (Nat.le_of_ble_eq_true rfl) (Nat.zero_le _) (Nat.zero_le _) dX1_write_14 ?_
  refine st_eq (show (if (nI 9) < (nI n2) then (nI 9) else (nI n2) : Int32) = nI n2 from by rw [if_neg (nI_nlt (by omega) (by decide))]) ?_
  refine x_put (C := RX1) (T := TX1) (N := 7) (ci := 1) (ty := .int) 3 inT_X1 tyX1 tyX1_ok nmX1 rfl (by decide) lf_X1_22 rfl rfl (by decide +kernel) X hd 0 rfl rfl rfl (Nat.le_of_ble_eq_true rfl) dX1_write_17 (fun H locs hd => ?_)
  have hd : Hd G A s.heap [(h0, .inr (1, [.ref ht, .int (nI 0), .int (nI 0), .int (nI n2), .int (nI s0), .ref qa, .ref qb])), (ht, .inl (cI, 864, .inl tb0)), (qa, .inl (cI, 9, .inl sa0)), (qb, .inl (cI, 9, .inl sb0))] H locs := hd
  refine lv_aload_n hx hb dX1_write_20 rfl (lv_at hl 0 rfl) ?_
  refine lv_iload_n hx hb dX1_write_21 rfl (lv_at hl 3 rfl) ?_
  refine x_put (C := RX1) (T := TX1) (N := 7) (ci := 1) (ty := .int) 4 inT_X1 tyX1 tyX1_ok nmX1 rfl (by decide) lf_X1_25 rfl rfl (by decide +kernel) X hd 0 rfl rfl rfl (Nat.le_of_ble_eq_true rfl) dX1_write_22 (fun H locs hd => ?_)
  have hd : Hd G A s.heap [(h0, .inr (1, [.ref ht, .int (nI 0), .int (nI 0), .int (nI n2), .int (nI z2), .ref qa, .ref qb])), (ht, .inl (cI, 864, .inl tb0)), (qa, .inl (cI, 9, .inl sa0)), (qb, .inl (cI, 9, .inl sb0))] H locs := hd
  refine lv_iload_n hx hb dX1_write_25 rfl (lv_at hl 1 rfl) ?_
  refine n_if_ne (tgt := 36) hx hb dX1_write_26 (by decide) (by omega) (fun c_26 => ?_) (fun c_26 => ?_)
  · refine lv_iload_n hx hb dX1_write_36 rfl (lv_at hl 1 rfl) ?_
    refine lv_iconst (v := nI 1) hx hb dX1_write_37 (by decide) ?_
    refine n_icmp_ne (tgt := 48) hx hb dX1_write_38 (by decide) (by omega) (by omega) (fun c_38 => ?_) (fun c_38 => ?_)
    · refine lv_iload_n hx hb dX1_write_48 rfl (lv_at hl 1 rfl) ?_
      refine lv_iconst (v := nI 2) hx hb dX1_write_49 (by decide) ?_
      refine n_icmp_ne (tgt := 60) hx hb dX1_write_50 (by decide) (by omega) (by omega) (fun c_50 => ?_) (fun c_50 => ?_)
      · refine lv_aload_n hx hb dX1_write_60 rfl (lv_at hl 0 rfl) ?_
        refine cM_V (As := []) (rest := []) (wr := [(qa, .inl (cI, 9, .inl sa0)), (qb, .inl (cI, 9, .inl sb0))]) X (c_X1_writeEach l G cI cZ h0 ht qa qb n2 z2 tb0 (by first | assumption | omega) (by first | assumption | omega) (by first | assumption | omega)) lk_X1_49 hd hA [0, 1] [2, 3] rfl rfl rfl rfl (by decide) rfl rfl hl.1 rfl rfl (Nat.le_of_ble_eq_true rfl) ⟨Nat.le_of_ble_eq_true rfl, Nat.le_of_ble_eq_true rfl⟩ ⟨Nat.le_of_ble_eq_true rfl, Nat.le_of_ble_eq_true rfl⟩ dX1_write_61 (fun v w1 H locs hp hd => ?_)
        obtain ⟨tbx, rfl, rfl, hT⟩ := hp
        have hd : Hd G A s.heap [(qa, .inl (cI, 9, .inl sa0)), (qb, .inl (cI, 9, .inl sb0)), (h0, .inr (1, [.ref ht, .int (nI ((LEach n2 z2).length)), .int (nI 2), .int (nI n2), .int (nI z2), .ref qa, .ref qb])), (ht, .inl (cI, 864, .inl tbx))] H locs := hd
        refine st_all (st' := []) rfl ?_
        exact (fin _ _ [(h0, .inr (1, [.ref ht, .int (nI ((LEach n2 z2).length)), .int (nI 2), .int (nI n2), .int (nI z2), .ref qa, .ref qb])), (ht, .inl (cI, 864, .inl tbx)), (qa, .inl (cI, 9, .inl sa0)), (qb, .inl (cI, 9, .inl sb0))] _ _ (hd.sub [2, 3, 0, 1] rfl rfl)).1 rfl ⟨tbx, sa0, sb0, rfl, by rw [lLs, if_neg c_26, if_neg c_38, if_neg c_50, lRd, if_neg c_26, if_neg c_38, if_neg c_50], (by rw [lLs, if_neg c_26, if_neg c_38, if_neg c_50]; exact hT)⟩ dX1_write_64
      · refine lv_aload_n hx hb dX1_write_53 rfl (lv_at hl 0 rfl) ?_
        refine cM_V (As := []) (rest := []) (wr := [(qa, .inl (cI, 9, .inl sa0)), (qb, .inl (cI, 9, .inl sb0))]) X (c_X1_writeTree l G cI cZ h0 ht qa qb n2 z2 tb0 (by first | assumption | omega) (by first | assumption | omega) (by first | assumption | omega)) lk_X1_46 hd hA [0, 1] [2, 3] rfl rfl rfl rfl (by decide) rfl rfl hl.1 rfl rfl (Nat.le_of_ble_eq_true rfl) ⟨Nat.le_of_ble_eq_true rfl, Nat.le_of_ble_eq_true rfl⟩ ⟨Nat.le_of_ble_eq_true rfl, Nat.le_of_ble_eq_true rfl⟩ dX1_write_54 (fun v w1 H locs hp hd => ?_)
        obtain ⟨tbx, rfl, rfl, hT⟩ := hp
        have hd : Hd G A s.heap [(qa, .inl (cI, 9, .inl sa0)), (qb, .inl (cI, 9, .inl sb0)), (h0, .inr (1, [.ref ht, .int (nI ((LTree n2 z2).length)), .int (nI (dpl n2 + dpl n2)), .int (nI n2), .int (nI z2), .ref qa, .ref qb])), (ht, .inl (cI, 864, .inl tbx))] H locs := hd
        refine st_all (st' := []) rfl ?_
        refine lv_goto (tgt := 64) hx hb dX1_write_57 (by decide) ?_
        exact (fin _ _ [(h0, .inr (1, [.ref ht, .int (nI ((LTree n2 z2).length)), .int (nI (dpl n2 + dpl n2)), .int (nI n2), .int (nI z2), .ref qa, .ref qb])), (ht, .inl (cI, 864, .inl tbx)), (qa, .inl (cI, 9, .inl sa0)), (qb, .inl (cI, 9, .inl sb0))] _ _ (hd.sub [2, 3, 0, 1] rfl rfl)).1 rfl ⟨tbx, sa0, sb0, rfl, by rw [lLs, if_neg c_26, if_neg c_38, if_pos c_50, lRd, if_neg c_26, if_neg c_38, if_pos c_50], (by rw [lLs, if_neg c_26, if_neg c_38, if_pos c_50]; exact hT)⟩ dX1_write_64
    · refine lv_aload_n hx hb dX1_write_41 rfl (lv_at hl 0 rfl) ?_
      refine cM_V (As := []) (rest := []) (wr := []) X (c_X1_writeHalves l G cI cZ h0 ht qa qb n2 z2 tb0 sa0 sb0 (by first | assumption | omega) (by first | assumption | omega) (by first | assumption | omega)) lk_X1_43 hd hA [0, 1, 2, 3] [] rfl rfl rfl rfl (by decide) rfl rfl hl.1 rfl rfl (Nat.le_of_ble_eq_true rfl) ⟨Nat.le_of_ble_eq_true rfl, Nat.le_of_ble_eq_true rfl⟩ ⟨Nat.le_of_ble_eq_true rfl, Nat.le_of_ble_eq_true rfl⟩ dX1_write_42 (fun v w1 H locs hp hd => ?_)
      obtain ⟨tbx, sax, sbx, rfl, rfl, hT⟩ := hp
      have hd : Hd G A s.heap [(h0, .inr (1, [.ref ht, .int (nI ((LHalf n2 z2).length)), .int (nI (rd0 n2 + lg2 (gp2 n2) + lg2 (gp2 n2) + rd0 n2)), .int (nI n2), .int (nI z2), .ref qa, .ref qb])), (ht, .inl (cI, 864, .inl tbx)), (qa, .inl (cI, 9, .inl sax)), (qb, .inl (cI, 9, .inl sbx))] H locs := hd
      refine st_all (st' := []) rfl ?_
      refine lv_goto (tgt := 64) hx hb dX1_write_45 (by decide) ?_
      exact (fin _ _ [(h0, .inr (1, [.ref ht, .int (nI ((LHalf n2 z2).length)), .int (nI (rd0 n2 + lg2 (gp2 n2) + lg2 (gp2 n2) + rd0 n2)), .int (nI n2), .int (nI z2), .ref qa, .ref qb])), (ht, .inl (cI, 864, .inl tbx)), (qa, .inl (cI, 9, .inl sax)), (qb, .inl (cI, 9, .inl sbx))] _ _ (hd.sub [0, 1, 2, 3] rfl rfl)).1 rfl ⟨tbx, sax, sbx, rfl, by rw [lLs, if_neg c_26, if_pos c_38, lRd, if_neg c_26, if_pos c_38], (by rw [lLs, if_neg c_26, if_pos c_38]; exact hT)⟩ dX1_write_64
  · refine lv_aload_n hx hb dX1_write_29 rfl (lv_at hl 0 rfl) ?_
    refine cM_V (As := []) (rest := []) (wr := [(qa, .inl (cI, 9, .inl sa0)), (qb, .inl (cI, 9, .inl sb0))]) X (c_X1_writeRing l G cI cZ h0 ht qa qb n2 z2 tb0 (by first | assumption | omega) (by first | assumption | omega) (by first | assumption | omega)) lk_X1_40 hd hA [0, 1] [2, 3] rfl rfl rfl rfl (by decide) rfl rfl hl.1 rfl rfl (Nat.le_of_ble_eq_true rfl) ⟨Nat.le_of_ble_eq_true rfl, Nat.le_of_ble_eq_true rfl⟩ ⟨Nat.le_of_ble_eq_true rfl, Nat.le_of_ble_eq_true rfl⟩ dX1_write_30 (fun v w1 H locs hp hd => ?_)
    obtain ⟨tbx, rfl, rfl, hT⟩ := hp
    have hd : Hd G A s.heap [(qa, .inl (cI, 9, .inl sa0)), (qb, .inl (cI, 9, .inl sb0)), (h0, .inr (1, [.ref ht, .int (nI ((LRing n2 z2).length)), .int (nI (n2 - 1 + (n2 - 1))), .int (nI n2), .int (nI z2), .ref qa, .ref qb])), (ht, .inl (cI, 864, .inl tbx))] H locs := hd
    refine st_all (st' := []) rfl ?_
    refine lv_goto (tgt := 64) hx hb dX1_write_33 (by decide) ?_
    exact (fin _ _ [(h0, .inr (1, [.ref ht, .int (nI ((LRing n2 z2).length)), .int (nI (n2 - 1 + (n2 - 1))), .int (nI n2), .int (nI z2), .ref qa, .ref qb])), (ht, .inl (cI, 864, .inl tbx)), (qa, .inl (cI, 9, .inl sa0)), (qb, .inl (cI, 9, .inl sb0))] _ _ (hd.sub [2, 3, 0, 1] rfl rfl)).1 rfl ⟨tbx, sa0, sb0, rfl, by rw [lLs, if_pos c_26, lRd, if_pos c_26], (by rw [lLs, if_pos c_26]; exact hT)⟩ dX1_write_64
end
