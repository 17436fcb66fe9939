section
-- ===== PART A: goes FIRST, ahead of the names: the tables' words, and 'selects' of the private methods out of them =====
/-- a private method of a class that the tables say can be made, by its rows of tables_1 -/
def lw_okq (q : MethodName × Nat) : Prop := (q.1.cls ≠ "java/lang/invoke/MethodHandle" ∧ q.1.cls ≠ "java/lang/invoke/VarHandle") ∧ Cond.instantiable q.1.cls q.2 ∈ tables_1 ∧ Cond.privateMethod q.1 ∈ tables_1 ∧ Cond.instanceMethod q.1 ∈ tables_1
theorem lw_p0 : lw_okq (⟨"PumpTalk", "found", "(I)I"⟩, 8) := ⟨⟨by decide +kernel, by decide +kernel⟩, List.mem_of_getElem? (i := 16) (by decide +kernel), List.mem_of_getElem? (i := 167) (by decide +kernel), List.mem_of_getElem? (i := 168) (by decide +kernel)⟩
theorem lw_p1 : lw_okq (⟨"PumpTalk", "isNoPair", "(II)Z"⟩, 8) := ⟨⟨by decide +kernel, by decide +kernel⟩, List.mem_of_getElem? (i := 16) (by decide +kernel), List.mem_of_getElem? (i := 257) (by decide +kernel), List.mem_of_getElem? (i := 258) (by decide +kernel)⟩
theorem lw_p2 : lw_okq (⟨"PumpTalk$Square", "exchange", "()I"⟩, 11) := ⟨⟨by decide +kernel, by decide +kernel⟩, List.mem_of_getElem? (i := 24) (by decide +kernel), List.mem_of_getElem? (i := 308) (by decide +kernel), List.mem_of_getElem? (i := 309) (by decide +kernel)⟩
theorem lw_p3 : lw_okq (⟨"PumpTalk", "gain", "(III)I"⟩, 8) := ⟨⟨by decide +kernel, by decide +kernel⟩, List.mem_of_getElem? (i := 16) (by decide +kernel), List.mem_of_getElem? (i := 370) (by decide +kernel), List.mem_of_getElem? (i := 371) (by decide +kernel)⟩
theorem lw_p4 : lw_okq (⟨"PumpTalk", "weighPairs", "(I)V"⟩, 8) := ⟨⟨by decide +kernel, by decide +kernel⟩, List.mem_of_getElem? (i := 16) (by decide +kernel), List.mem_of_getElem? (i := 395) (by decide +kernel), List.mem_of_getElem? (i := 396) (by decide +kernel)⟩
theorem lw_p5 : lw_okq (⟨"PumpTalk$Matching", "together", "(III)I"⟩, 2) := ⟨⟨by decide +kernel, by decide +kernel⟩, List.mem_of_getElem? (i := 101) (by decide +kernel), List.mem_of_getElem? (i := 414) (by decide +kernel), List.mem_of_getElem? (i := 415) (by decide +kernel)⟩
theorem lw_p6 : lw_okq (⟨"PumpTalk$Matching", "leastMate", "(III)I"⟩, 2) := ⟨⟨by decide +kernel, by decide +kernel⟩, List.mem_of_getElem? (i := 101) (by decide +kernel), List.mem_of_getElem? (i := 433) (by decide +kernel), List.mem_of_getElem? (i := 434) (by decide +kernel)⟩
theorem lw_p7 : lw_okq (⟨"PumpTalk", "bestTrait", "(IIII)I"⟩, 8) := ⟨⟨by decide +kernel, by decide +kernel⟩, List.mem_of_getElem? (i := 16) (by decide +kernel), List.mem_of_getElem? (i := 441) (by decide +kernel), List.mem_of_getElem? (i := 442) (by decide +kernel)⟩
theorem lw_p8 : lw_okq (⟨"PumpTalk", "gainAs", "(IIIII)I"⟩, 8) := ⟨⟨by decide +kernel, by decide +kernel⟩, List.mem_of_getElem? (i := 16) (by decide +kernel), List.mem_of_getElem? (i := 445) (by decide +kernel), List.mem_of_getElem? (i := 446) (by decide +kernel)⟩
theorem lw_p9 : lw_okq (⟨"PumpTalk", "lackOfFit", "(II)I"⟩, 8) := ⟨⟨by decide +kernel, by decide +kernel⟩, List.mem_of_getElem? (i := 16) (by decide +kernel), List.mem_of_getElem? (i := 461) (by decide +kernel), List.mem_of_getElem? (i := 462) (by decide +kernel)⟩
theorem lw_p10 : lw_okq (⟨"PumpTalk", "lackOfSheet", "(I)I"⟩, 8) := ⟨⟨by decide +kernel, by decide +kernel⟩, List.mem_of_getElem? (i := 16) (by decide +kernel), List.mem_of_getElem? (i := 465) (by decide +kernel), List.mem_of_getElem? (i := 466) (by decide +kernel)⟩
theorem lw_p11 : lw_okq (⟨"PumpTalk", "isAsTold", "(LPumpTalk$Sheet;III)Z"⟩, 8) := ⟨⟨by decide +kernel, by decide +kernel⟩, List.mem_of_getElem? (i := 16) (by decide +kernel), List.mem_of_getElem? (i := 477) (by decide +kernel), List.mem_of_getElem? (i := 478) (by decide +kernel)⟩
theorem lw_p12 : lw_okq (⟨"PumpTalk$Reader", "advance", "()V"⟩, 6) := ⟨⟨by decide +kernel, by decide +kernel⟩, List.mem_of_getElem? (i := 75) (by decide +kernel), List.mem_of_getElem? (i := 531) (by decide +kernel), List.mem_of_getElem? (i := 532) (by decide +kernel)⟩
theorem lw_p13 : lw_okq (⟨"PumpTalk$Reader", "sortAt", "(I)I"⟩, 6) := ⟨⟨by decide +kernel, by decide +kernel⟩, List.mem_of_getElem? (i := 75) (by decide +kernel), List.mem_of_getElem? (i := 535) (by decide +kernel), List.mem_of_getElem? (i := 536) (by decide +kernel)⟩
theorem lw_p14 : lw_okq (⟨"PumpTalk$Reader", "readNumber", "()V"⟩, 6) := ⟨⟨by decide +kernel, by decide +kernel⟩, List.mem_of_getElem? (i := 75) (by decide +kernel), List.mem_of_getElem? (i := 539) (by decide +kernel), List.mem_of_getElem? (i := 540) (by decide +kernel)⟩
theorem lw_p15 : lw_okq (⟨"PumpTalk$Reader", "readItem", "(LPumpTalk$Square;)Z"⟩, 6) := ⟨⟨by decide +kernel, by decide +kernel⟩, List.mem_of_getElem? (i := 75) (by decide +kernel), List.mem_of_getElem? (i := 543) (by decide +kernel), List.mem_of_getElem? (i := 544) (by decide +kernel)⟩
def lw_privs_1 : List (MethodName × Nat) := [(⟨"PumpTalk", "found", "(I)I"⟩, 8), (⟨"PumpTalk", "isNoPair", "(II)Z"⟩, 8), (⟨"PumpTalk$Square", "exchange", "()I"⟩, 11), (⟨"PumpTalk", "gain", "(III)I"⟩, 8), (⟨"PumpTalk", "weighPairs", "(I)V"⟩, 8), (⟨"PumpTalk$Matching", "together", "(III)I"⟩, 2), (⟨"PumpTalk$Matching", "leastMate", "(III)I"⟩, 2), (⟨"PumpTalk", "bestTrait", "(IIII)I"⟩, 8), (⟨"PumpTalk", "gainAs", "(IIIII)I"⟩, 8), (⟨"PumpTalk", "lackOfFit", "(II)I"⟩, 8), (⟨"PumpTalk", "lackOfSheet", "(I)I"⟩, 8), (⟨"PumpTalk", "isAsTold", "(LPumpTalk$Sheet;III)Z"⟩, 8), (⟨"PumpTalk$Reader", "advance", "()V"⟩, 6), (⟨"PumpTalk$Reader", "sortAt", "(I)I"⟩, 6), (⟨"PumpTalk$Reader", "readNumber", "()V"⟩, 6), (⟨"PumpTalk$Reader", "readItem", "(LPumpTalk$Square;)Z"⟩, 6)]
theorem lw_r1 : ∀ q ∈ lw_privs_1, lw_okq q := List.forall_mem_cons.mpr ⟨lw_p0, List.forall_mem_cons.mpr ⟨lw_p1, List.forall_mem_cons.mpr ⟨lw_p2, List.forall_mem_cons.mpr ⟨lw_p3, List.forall_mem_cons.mpr ⟨lw_p4, List.forall_mem_cons.mpr ⟨lw_p5, List.forall_mem_cons.mpr ⟨lw_p6, List.forall_mem_cons.mpr ⟨lw_p7, List.forall_mem_cons.mpr ⟨lw_p8, List.forall_mem_cons.mpr ⟨lw_p9, List.forall_mem_cons.mpr ⟨lw_p10, List.forall_mem_cons.mpr ⟨lw_p11, List.forall_mem_cons.mpr ⟨lw_p12, List.forall_mem_cons.mpr ⟨lw_p13, List.forall_mem_cons.mpr ⟨lw_p14, List.forall_mem_cons.mpr ⟨lw_p15, fun _ h => absurd h List.not_mem_nil⟩⟩⟩⟩⟩⟩⟩⟩⟩⟩⟩⟩⟩⟩⟩⟩
theorem lw_p16 : lw_okq (⟨"PumpTalk$Reader", "isWord", "(Ljava/lang/String;)Z"⟩, 6) := ⟨⟨by decide +kernel, by decide +kernel⟩, List.mem_of_getElem? (i := 75) (by decide +kernel), List.mem_of_getElem? (i := 557) (by decide +kernel), List.mem_of_getElem? (i := 558) (by decide +kernel)⟩
theorem lw_p17 : lw_okq (⟨"PumpTalk$Reader", "readPerson", "(LPumpTalk$Square;I)Z"⟩, 6) := ⟨⟨by decide +kernel, by decide +kernel⟩, List.mem_of_getElem? (i := 75) (by decide +kernel), List.mem_of_getElem? (i := 609) (by decide +kernel), List.mem_of_getElem? (i := 610) (by decide +kernel)⟩
theorem lw_p18 : lw_okq (⟨"PumpTalk$Reader", "isNumberUpTo", "(I)Z"⟩, 6) := ⟨⟨by decide +kernel, by decide +kernel⟩, List.mem_of_getElem? (i := 75) (by decide +kernel), List.mem_of_getElem? (i := 616) (by decide +kernel), List.mem_of_getElem? (i := 617) (by decide +kernel)⟩
theorem lw_p19 : lw_okq (⟨"PumpTalk$Reader", "readViews", "(LPumpTalk$Square;I)Z"⟩, 6) := ⟨⟨by decide +kernel, by decide +kernel⟩, List.mem_of_getElem? (i := 75) (by decide +kernel), List.mem_of_getElem? (i := 622) (by decide +kernel), List.mem_of_getElem? (i := 623) (by decide +kernel)⟩
theorem lw_p20 : lw_okq (⟨"PumpTalk$Reader", "isSign", "(I)Z"⟩, 6) := ⟨⟨by decide +kernel, by decide +kernel⟩, List.mem_of_getElem? (i := 75) (by decide +kernel), List.mem_of_getElem? (i := 626) (by decide +kernel), List.mem_of_getElem? (i := 627) (by decide +kernel)⟩
theorem lw_p21 : lw_okq (⟨"PumpTalk$Reader", "readPair", "(LPumpTalk$Square;)Z"⟩, 6) := ⟨⟨by decide +kernel, by decide +kernel⟩, List.mem_of_getElem? (i := 75) (by decide +kernel), List.mem_of_getElem? (i := 632) (by decide +kernel), List.mem_of_getElem? (i := 633) (by decide +kernel)⟩
theorem lw_p22 : lw_okq (⟨"PumpTalk$Reader", "readSubject", "(LPumpTalk$Square;)Z"⟩, 6) := ⟨⟨by decide +kernel, by decide +kernel⟩, List.mem_of_getElem? (i := 75) (by decide +kernel), List.mem_of_getElem? (i := 638) (by decide +kernel), List.mem_of_getElem? (i := 639) (by decide +kernel)⟩
theorem lw_p23 : lw_okq (⟨"PumpTalkModel", "finds", "(I)I"⟩, 22) := ⟨⟨by decide +kernel, by decide +kernel⟩, List.mem_of_getElem? (i := 716) (by decide +kernel), List.mem_of_getElem? (i := 801) (by decide +kernel), List.mem_of_getElem? (i := 802) (by decide +kernel)⟩
theorem lw_p24 : lw_okq (⟨"PumpTalkModel", "adds", "(I)I"⟩, 22) := ⟨⟨by decide +kernel, by decide +kernel⟩, List.mem_of_getElem? (i := 716) (by decide +kernel), List.mem_of_getElem? (i := 806) (by decide +kernel), List.mem_of_getElem? (i := 807) (by decide +kernel)⟩
theorem lw_p25 : lw_okq (⟨"PumpTalkModel", "isPerson", "(I)Z"⟩, 22) := ⟨⟨by decide +kernel, by decide +kernel⟩, List.mem_of_getElem? (i := 716) (by decide +kernel), List.mem_of_getElem? (i := 817) (by decide +kernel), List.mem_of_getElem? (i := 818) (by decide +kernel)⟩
theorem lw_p26 : lw_okq (⟨"PumpTalkModel", "its", "(II)I"⟩, 22) := ⟨⟨by decide +kernel, by decide +kernel⟩, List.mem_of_getElem? (i := 716) (by decide +kernel), List.mem_of_getElem? (i := 822) (by decide +kernel), List.mem_of_getElem? (i := 823) (by decide +kernel)⟩
theorem lw_p27 : lw_okq (⟨"PumpTalkModel", "becomes", "(II)I"⟩, 22) := ⟨⟨by decide +kernel, by decide +kernel⟩, List.mem_of_getElem? (i := 716) (by decide +kernel), List.mem_of_getElem? (i := 837) (by decide +kernel), List.mem_of_getElem? (i := 838) (by decide +kernel)⟩
theorem lw_p28 : lw_okq (⟨"PumpTalkModel", "moves", "(II)I"⟩, 22) := ⟨⟨by decide +kernel, by decide +kernel⟩, List.mem_of_getElem? (i := 716) (by decide +kernel), List.mem_of_getElem? (i := 846) (by decide +kernel), List.mem_of_getElem? (i := 847) (by decide +kernel)⟩
theorem lw_p29 : lw_okq (⟨"PumpTalkModel", "strokes", "(II)I"⟩, 22) := ⟨⟨by decide +kernel, by decide +kernel⟩, List.mem_of_getElem? (i := 716) (by decide +kernel), List.mem_of_getElem? (i := 850) (by decide +kernel), List.mem_of_getElem? (i := 851) (by decide +kernel)⟩
theorem lw_p30 : lw_okq (⟨"PumpTalkModel", "apartOn", "(III)I"⟩, 22) := ⟨⟨by decide +kernel, by decide +kernel⟩, List.mem_of_getElem? (i := 716) (by decide +kernel), List.mem_of_getElem? (i := 862) (by decide +kernel), List.mem_of_getElem? (i := 863) (by decide +kernel)⟩
theorem lw_p31 : lw_okq (⟨"PumpTalkModel", "areTwo", "(II)Z"⟩, 22) := ⟨⟨by decide +kernel, by decide +kernel⟩, List.mem_of_getElem? (i := 716) (by decide +kernel), List.mem_of_getElem? (i := 870) (by decide +kernel), List.mem_of_getElem? (i := 871) (by decide +kernel)⟩
def lw_privs_2 : List (MethodName × Nat) := [(⟨"PumpTalk$Reader", "isWord", "(Ljava/lang/String;)Z"⟩, 6), (⟨"PumpTalk$Reader", "readPerson", "(LPumpTalk$Square;I)Z"⟩, 6), (⟨"PumpTalk$Reader", "isNumberUpTo", "(I)Z"⟩, 6), (⟨"PumpTalk$Reader", "readViews", "(LPumpTalk$Square;I)Z"⟩, 6), (⟨"PumpTalk$Reader", "isSign", "(I)Z"⟩, 6), (⟨"PumpTalk$Reader", "readPair", "(LPumpTalk$Square;)Z"⟩, 6), (⟨"PumpTalk$Reader", "readSubject", "(LPumpTalk$Square;)Z"⟩, 6), (⟨"PumpTalkModel", "finds", "(I)I"⟩, 22), (⟨"PumpTalkModel", "adds", "(I)I"⟩, 22), (⟨"PumpTalkModel", "isPerson", "(I)Z"⟩, 22), (⟨"PumpTalkModel", "its", "(II)I"⟩, 22), (⟨"PumpTalkModel", "becomes", "(II)I"⟩, 22), (⟨"PumpTalkModel", "moves", "(II)I"⟩, 22), (⟨"PumpTalkModel", "strokes", "(II)I"⟩, 22), (⟨"PumpTalkModel", "apartOn", "(III)I"⟩, 22), (⟨"PumpTalkModel", "areTwo", "(II)Z"⟩, 22)]
theorem lw_r2 : ∀ q ∈ lw_privs_2, lw_okq q := List.forall_mem_cons.mpr ⟨lw_p16, List.forall_mem_cons.mpr ⟨lw_p17, List.forall_mem_cons.mpr ⟨lw_p18, List.forall_mem_cons.mpr ⟨lw_p19, List.forall_mem_cons.mpr ⟨lw_p20, List.forall_mem_cons.mpr ⟨lw_p21, List.forall_mem_cons.mpr ⟨lw_p22, List.forall_mem_cons.mpr ⟨lw_p23, List.forall_mem_cons.mpr ⟨lw_p24, List.forall_mem_cons.mpr ⟨lw_p25, List.forall_mem_cons.mpr ⟨lw_p26, List.forall_mem_cons.mpr ⟨lw_p27, List.forall_mem_cons.mpr ⟨lw_p28, List.forall_mem_cons.mpr ⟨lw_p29, List.forall_mem_cons.mpr ⟨lw_p30, List.forall_mem_cons.mpr ⟨lw_p31, fun _ h => absurd h List.not_mem_nil⟩⟩⟩⟩⟩⟩⟩⟩⟩⟩⟩⟩⟩⟩⟩⟩
theorem lw_p32 : lw_okq (⟨"PumpTalkModel", "disputed", "()I"⟩, 22) := ⟨⟨by decide +kernel, by decide +kernel⟩, List.mem_of_getElem? (i := 716) (by decide +kernel), List.mem_of_getElem? (i := 874) (by decide +kernel), List.mem_of_getElem? (i := 875) (by decide +kernel)⟩
theorem lw_p33 : lw_okq (⟨"PumpTalkModel", "isSomebody", "()Z"⟩, 22) := ⟨⟨by decide +kernel, by decide +kernel⟩, List.mem_of_getElem? (i := 716) (by decide +kernel), List.mem_of_getElem? (i := 878) (by decide +kernel), List.mem_of_getElem? (i := 879) (by decide +kernel)⟩
theorem lw_p34 : lw_okq (⟨"PumpTalkModel", "goesOn", "(I)V"⟩, 22) := ⟨⟨by decide +kernel, by decide +kernel⟩, List.mem_of_getElem? (i := 716) (by decide +kernel), List.mem_of_getElem? (i := 900) (by decide +kernel), List.mem_of_getElem? (i := 901) (by decide +kernel)⟩
theorem lw_p35 : lw_okq (⟨"PumpTalkModel", "minute", "()V"⟩, 22) := ⟨⟨by decide +kernel, by decide +kernel⟩, List.mem_of_getElem? (i := 716) (by decide +kernel), List.mem_of_getElem? (i := 904) (by decide +kernel), List.mem_of_getElem? (i := 905) (by decide +kernel)⟩
theorem lw_p36 : lw_okq (⟨"PumpTalkModel", "replies", "(I)V"⟩, 22) := ⟨⟨by decide +kernel, by decide +kernel⟩, List.mem_of_getElem? (i := 716) (by decide +kernel), List.mem_of_getElem? (i := 908) (by decide +kernel), List.mem_of_getElem? (i := 909) (by decide +kernel)⟩
theorem lw_p37 : lw_okq (⟨"PumpTalkModel", "voices", "()I"⟩, 22) := ⟨⟨by decide +kernel, by decide +kernel⟩, List.mem_of_getElem? (i := 716) (by decide +kernel), List.mem_of_getElem? (i := 920) (by decide +kernel), List.mem_of_getElem? (i := 921) (by decide +kernel)⟩
theorem lw_p38 : lw_okq (⟨"PumpTalkModel", "behind", "(II)I"⟩, 22) := ⟨⟨by decide +kernel, by decide +kernel⟩, List.mem_of_getElem? (i := 716) (by decide +kernel), List.mem_of_getElem? (i := 929) (by decide +kernel), List.mem_of_getElem? (i := 930) (by decide +kernel)⟩
theorem lw_p39 : lw_okq (⟨"PumpTalkModel", "laysAside", "()V"⟩, 22) := ⟨⟨by decide +kernel, by decide +kernel⟩, List.mem_of_getElem? (i := 716) (by decide +kernel), List.mem_of_getElem? (i := 933) (by decide +kernel), List.mem_of_getElem? (i := 934) (by decide +kernel)⟩
theorem lw_p40 : lw_okq (⟨"PumpTalkModel", "takesBack", "(I)I"⟩, 22) := ⟨⟨by decide +kernel, by decide +kernel⟩, List.mem_of_getElem? (i := 716) (by decide +kernel), List.mem_of_getElem? (i := 937) (by decide +kernel), List.mem_of_getElem? (i := 938) (by decide +kernel)⟩
theorem lw_p41 : lw_okq (⟨"PumpTalkModel", "orNone", "(I)I"⟩, 22) := ⟨⟨by decide +kernel, by decide +kernel⟩, List.mem_of_getElem? (i := 716) (by decide +kernel), List.mem_of_getElem? (i := 949) (by decide +kernel), List.mem_of_getElem? (i := 950) (by decide +kernel)⟩
theorem lw_p42 : lw_okq (⟨"PumpTalkModel", "isAsAside", "()Z"⟩, 22) := ⟨⟨by decide +kernel, by decide +kernel⟩, List.mem_of_getElem? (i := 716) (by decide +kernel), List.mem_of_getElem? (i := 963) (by decide +kernel), List.mem_of_getElem? (i := 964) (by decide +kernel)⟩
theorem lw_p43 : lw_okq (⟨"PumpTalkModel", "given", "(III)I"⟩, 22) := ⟨⟨by decide +kernel, by decide +kernel⟩, List.mem_of_getElem? (i := 716) (by decide +kernel), List.mem_of_getElem? (i := 975) (by decide +kernel), List.mem_of_getElem? (i := 976) (by decide +kernel)⟩
theorem lw_p44 : lw_okq (⟨"PumpTalkModel", "mostBy", "(IIIIII)I"⟩, 22) := ⟨⟨by decide +kernel, by decide +kernel⟩, List.mem_of_getElem? (i := 716) (by decide +kernel), List.mem_of_getElem? (i := 991) (by decide +kernel), List.mem_of_getElem? (i := 992) (by decide +kernel)⟩
theorem lw_p45 : lw_okq (⟨"PumpTalkModel", "findMatches", "(I)V"⟩, 22) := ⟨⟨by decide +kernel, by decide +kernel⟩, List.mem_of_getElem? (i := 716) (by decide +kernel), List.mem_of_getElem? (i := 1000) (by decide +kernel), List.mem_of_getElem? (i := 1001) (by decide +kernel)⟩
theorem lw_p46 : lw_okq (⟨"PumpTalkModel", "wrongOne", "(II)I"⟩, 22) := ⟨⟨by decide +kernel, by decide +kernel⟩, List.mem_of_getElem? (i := 716) (by decide +kernel), List.mem_of_getElem? (i := 1025) (by decide +kernel), List.mem_of_getElem? (i := 1026) (by decide +kernel)⟩
theorem lw_p47 : lw_okq (⟨"PumpTalkModel", "wrong", "(I)I"⟩, 22) := ⟨⟨by decide +kernel, by decide +kernel⟩, List.mem_of_getElem? (i := 716) (by decide +kernel), List.mem_of_getElem? (i := 1029) (by decide +kernel), List.mem_of_getElem? (i := 1030) (by decide +kernel)⟩
def lw_privs_3 : List (MethodName × Nat) := [(⟨"PumpTalkModel", "disputed", "()I"⟩, 22), (⟨"PumpTalkModel", "isSomebody", "()Z"⟩, 22), (⟨"PumpTalkModel", "goesOn", "(I)V"⟩, 22), (⟨"PumpTalkModel", "minute", "()V"⟩, 22), (⟨"PumpTalkModel", "replies", "(I)V"⟩, 22), (⟨"PumpTalkModel", "voices", "()I"⟩, 22), (⟨"PumpTalkModel", "behind", "(II)I"⟩, 22), (⟨"PumpTalkModel", "laysAside", "()V"⟩, 22), (⟨"PumpTalkModel", "takesBack", "(I)I"⟩, 22), (⟨"PumpTalkModel", "orNone", "(I)I"⟩, 22), (⟨"PumpTalkModel", "isAsAside", "()Z"⟩, 22), (⟨"PumpTalkModel", "given", "(III)I"⟩, 22), (⟨"PumpTalkModel", "mostBy", "(IIIIII)I"⟩, 22), (⟨"PumpTalkModel", "findMatches", "(I)V"⟩, 22), (⟨"PumpTalkModel", "wrongOne", "(II)I"⟩, 22), (⟨"PumpTalkModel", "wrong", "(I)I"⟩, 22)]
theorem lw_r3 : ∀ q ∈ lw_privs_3, lw_okq q := List.forall_mem_cons.mpr ⟨lw_p32, List.forall_mem_cons.mpr ⟨lw_p33, List.forall_mem_cons.mpr ⟨lw_p34, List.forall_mem_cons.mpr ⟨lw_p35, List.forall_mem_cons.mpr ⟨lw_p36, List.forall_mem_cons.mpr ⟨lw_p37, List.forall_mem_cons.mpr ⟨lw_p38, List.forall_mem_cons.mpr ⟨lw_p39, List.forall_mem_cons.mpr ⟨lw_p40, List.forall_mem_cons.mpr ⟨lw_p41, List.forall_mem_cons.mpr ⟨lw_p42, List.forall_mem_cons.mpr ⟨lw_p43, List.forall_mem_cons.mpr ⟨lw_p44, List.forall_mem_cons.mpr ⟨lw_p45, List.forall_mem_cons.mpr ⟨lw_p46, List.forall_mem_cons.mpr ⟨lw_p47, fun _ h => absurd h List.not_mem_nil⟩⟩⟩⟩⟩⟩⟩⟩⟩⟩⟩⟩⟩⟩⟩⟩
theorem lw_p48 : lw_okq (⟨"PumpTalkModel", "findFits", "(II)V"⟩, 22) := ⟨⟨by decide +kernel, by decide +kernel⟩, List.mem_of_getElem? (i := 716) (by decide +kernel), List.mem_of_getElem? (i := 1038) (by decide +kernel), List.mem_of_getElem? (i := 1039) (by decide +kernel)⟩
theorem lw_p49 : lw_okq (⟨"PumpTalkModel", "isTold", "(I)Z"⟩, 22) := ⟨⟨by decide +kernel, by decide +kernel⟩, List.mem_of_getElem? (i := 716) (by decide +kernel), List.mem_of_getElem? (i := 1042) (by decide +kernel), List.mem_of_getElem? (i := 1043) (by decide +kernel)⟩
theorem lw_p50 : lw_okq (⟨"PumpTalkModel", "draw", "()I"⟩, 22) := ⟨⟨by decide +kernel, by decide +kernel⟩, List.mem_of_getElem? (i := 716) (by decide +kernel), List.mem_of_getElem? (i := 1059) (by decide +kernel), List.mem_of_getElem? (i := 1060) (by decide +kernel)⟩
theorem lw_p51 : lw_okq (⟨"PumpTalkModel", "saves", "()V"⟩, 22) := ⟨⟨by decide +kernel, by decide +kernel⟩, List.mem_of_getElem? (i := 716) (by decide +kernel), List.mem_of_getElem? (i := 1086) (by decide +kernel), List.mem_of_getElem? (i := 1087) (by decide +kernel)⟩
theorem lw_p52 : lw_okq (⟨"PumpTalkModel", "token", "()V"⟩, 22) := ⟨⟨by decide +kernel, by decide +kernel⟩, List.mem_of_getElem? (i := 716) (by decide +kernel), List.mem_of_getElem? (i := 1090) (by decide +kernel), List.mem_of_getElem? (i := 1091) (by decide +kernel)⟩
theorem lw_p53 : lw_okq (⟨"PumpTalkModel", "byteAt", "(I)I"⟩, 22) := ⟨⟨by decide +kernel, by decide +kernel⟩, List.mem_of_getElem? (i := 716) (by decide +kernel), List.mem_of_getElem? (i := 1094) (by decide +kernel), List.mem_of_getElem? (i := 1095) (by decide +kernel)⟩
theorem lw_p54 : lw_okq (⟨"PumpTalkModel", "item", "()V"⟩, 22) := ⟨⟨by decide +kernel, by decide +kernel⟩, List.mem_of_getElem? (i := 716) (by decide +kernel), List.mem_of_getElem? (i := 1108) (by decide +kernel), List.mem_of_getElem? (i := 1109) (by decide +kernel)⟩
theorem lw_p55 : lw_okq (⟨"PumpTalkModel", "kindHere", "()I"⟩, 22) := ⟨⟨by decide +kernel, by decide +kernel⟩, List.mem_of_getElem? (i := 716) (by decide +kernel), List.mem_of_getElem? (i := 1112) (by decide +kernel), List.mem_of_getElem? (i := 1113) (by decide +kernel)⟩
theorem lw_p56 : lw_okq (⟨"PumpTalkModel", "word", "()J"⟩, 22) := ⟨⟨by decide +kernel, by decide +kernel⟩, List.mem_of_getElem? (i := 716) (by decide +kernel), List.mem_of_getElem? (i := 1116) (by decide +kernel), List.mem_of_getElem? (i := 1117) (by decide +kernel)⟩
theorem lw_p57 : lw_okq (⟨"PumpTalkModel", "personItem", "(I)V"⟩, 22) := ⟨⟨by decide +kernel, by decide +kernel⟩, List.mem_of_getElem? (i := 716) (by decide +kernel), List.mem_of_getElem? (i := 1129) (by decide +kernel), List.mem_of_getElem? (i := 1130) (by decide +kernel)⟩
theorem lw_p58 : lw_okq (⟨"PumpTalkModel", "must", "(Z)V"⟩, 22) := ⟨⟨by decide +kernel, by decide +kernel⟩, List.mem_of_getElem? (i := 716) (by decide +kernel), List.mem_of_getElem? (i := 1133) (by decide +kernel), List.mem_of_getElem? (i := 1134) (by decide +kernel)⟩
theorem lw_p59 : lw_okq (⟨"PumpTalkModel", "number", "(II)V"⟩, 22) := ⟨⟨by decide +kernel, by decide +kernel⟩, List.mem_of_getElem? (i := 716) (by decide +kernel), List.mem_of_getElem? (i := 1138) (by decide +kernel), List.mem_of_getElem? (i := 1139) (by decide +kernel)⟩
theorem lw_p60 : lw_okq (⟨"PumpTalkModel", "viewHere", "()I"⟩, 22) := ⟨⟨by decide +kernel, by decide +kernel⟩, List.mem_of_getElem? (i := 716) (by decide +kernel), List.mem_of_getElem? (i := 1143) (by decide +kernel), List.mem_of_getElem? (i := 1144) (by decide +kernel)⟩
theorem lw_p61 : lw_okq (⟨"PumpTalkModel", "isHere", "(I)Z"⟩, 22) := ⟨⟨by decide +kernel, by decide +kernel⟩, List.mem_of_getElem? (i := 716) (by decide +kernel), List.mem_of_getElem? (i := 1147) (by decide +kernel), List.mem_of_getElem? (i := 1148) (by decide +kernel)⟩
theorem lw_p62 : lw_okq (⟨"PumpTalkModel", "pairItem", "()V"⟩, 22) := ⟨⟨by decide +kernel, by decide +kernel⟩, List.mem_of_getElem? (i := 716) (by decide +kernel), List.mem_of_getElem? (i := 1152) (by decide +kernel), List.mem_of_getElem? (i := 1153) (by decide +kernel)⟩
theorem lw_p63 : lw_okq (⟨"PumpTalkModel", "peeked", "()I"⟩, 22) := ⟨⟨by decide +kernel, by decide +kernel⟩, List.mem_of_getElem? (i := 716) (by decide +kernel), List.mem_of_getElem? (i := 1156) (by decide +kernel), List.mem_of_getElem? (i := 1157) (by decide +kernel)⟩
def lw_privs_4 : List (MethodName × Nat) := [(⟨"PumpTalkModel", "findFits", "(II)V"⟩, 22), (⟨"PumpTalkModel", "isTold", "(I)Z"⟩, 22), (⟨"PumpTalkModel", "draw", "()I"⟩, 22), (⟨"PumpTalkModel", "saves", "()V"⟩, 22), (⟨"PumpTalkModel", "token", "()V"⟩, 22), (⟨"PumpTalkModel", "byteAt", "(I)I"⟩, 22), (⟨"PumpTalkModel", "item", "()V"⟩, 22), (⟨"PumpTalkModel", "kindHere", "()I"⟩, 22), (⟨"PumpTalkModel", "word", "()J"⟩, 22), (⟨"PumpTalkModel", "personItem", "(I)V"⟩, 22), (⟨"PumpTalkModel", "must", "(Z)V"⟩, 22), (⟨"PumpTalkModel", "number", "(II)V"⟩, 22), (⟨"PumpTalkModel", "viewHere", "()I"⟩, 22), (⟨"PumpTalkModel", "isHere", "(I)Z"⟩, 22), (⟨"PumpTalkModel", "pairItem", "()V"⟩, 22), (⟨"PumpTalkModel", "peeked", "()I"⟩, 22)]
theorem lw_r4 : ∀ q ∈ lw_privs_4, lw_okq q := List.forall_mem_cons.mpr ⟨lw_p48, List.forall_mem_cons.mpr ⟨lw_p49, List.forall_mem_cons.mpr ⟨lw_p50, List.forall_mem_cons.mpr ⟨lw_p51, List.forall_mem_cons.mpr ⟨lw_p52, List.forall_mem_cons.mpr ⟨lw_p53, List.forall_mem_cons.mpr ⟨lw_p54, List.forall_mem_cons.mpr ⟨lw_p55, List.forall_mem_cons.mpr ⟨lw_p56, List.forall_mem_cons.mpr ⟨lw_p57, List.forall_mem_cons.mpr ⟨lw_p58, List.forall_mem_cons.mpr ⟨lw_p59, List.forall_mem_cons.mpr ⟨lw_p60, List.forall_mem_cons.mpr ⟨lw_p61, List.forall_mem_cons.mpr ⟨lw_p62, List.forall_mem_cons.mpr ⟨lw_p63, fun _ h => absurd h List.not_mem_nil⟩⟩⟩⟩⟩⟩⟩⟩⟩⟩⟩⟩⟩⟩⟩⟩
theorem lw_p64 : lw_okq (⟨"PumpTalkModel", "putsBack", "()V"⟩, 22) := ⟨⟨by decide +kernel, by decide +kernel⟩, List.mem_of_getElem? (i := 716) (by decide +kernel), List.mem_of_getElem? (i := 1161) (by decide +kernel), List.mem_of_getElem? (i := 1162) (by decide +kernel)⟩
theorem lw_p65 : lw_okq (⟨"PumpTalkModel", "heldSpots", "()I"⟩, 22) := ⟨⟨by decide +kernel, by decide +kernel⟩, List.mem_of_getElem? (i := 716) (by decide +kernel), List.mem_of_getElem? (i := 1220) (by decide +kernel), List.mem_of_getElem? (i := 1221) (by decide +kernel)⟩
def lw_privs_5 : List (MethodName × Nat) := [(⟨"PumpTalkModel", "putsBack", "()V"⟩, 22), (⟨"PumpTalkModel", "heldSpots", "()I"⟩, 22)]
theorem lw_r5 : ∀ q ∈ lw_privs_5, lw_okq q := List.forall_mem_cons.mpr ⟨lw_p64, List.forall_mem_cons.mpr ⟨lw_p65, fun _ h => absurd h List.not_mem_nil⟩⟩
def lw_privs : List (MethodName × Nat) := lw_privs_1 ++ (lw_privs_2 ++ (lw_privs_3 ++ (lw_privs_4 ++ (lw_privs_5))))
def lw_tbl : List Cond := k2_sels lw_privs ++ tables_1
theorem lw_privs_ok : ∀ q ∈ lw_privs, lw_okq q := by
  show ∀ q ∈ lw_privs_1 ++ (lw_privs_2 ++ (lw_privs_3 ++ (lw_privs_4 ++ (lw_privs_5)))), lw_okq q
  exact List.forall_mem_append.mpr ⟨lw_r1, List.forall_mem_append.mpr ⟨lw_r2, List.forall_mem_append.mpr ⟨lw_r3, List.forall_mem_append.mpr ⟨lw_r4, lw_r5⟩⟩⟩⟩
def RX0 : String := "PumpTalk$Kinds"
def TX0 : u_T := fun k => match k with
  | _ => ("", "", "", false)
def tyX0 : Nat → FieldType := fun k => match k with
  | _ => .int
abbrev wsX00 : List Cond := u_ws RX0 TX0 0
theorem nmX0 : ∀ a, a < 0 → ∀ b, b < 0 → a ≠ b → (TX0 a).2.1 ≠ (TX0 b).2.1 := by decide +kernel
theorem tyX0_ok : ∀ k, k < 0 → parseFieldDescriptor (TX0 k).2.2.1 = some (tyX0 k) := by decide +kernel
abbrev cX0_isUnder : ByteArray := prog_2_method_2_code
def yX0_isUnder : MethodName := ⟨RX0, "isUnder", "(II)Z"⟩
abbrev cX0_moves : ByteArray := prog_2_method_3_code
def yX0_moves : MethodName := ⟨RX0, "moves", "(III)I"⟩
abbrev cX0_strokes : ByteArray := prog_2_method_4_code
def yX0_strokes : MethodName := ⟨RX0, "strokes", "(IIII)I"⟩
abbrev cX0_nameOf : ByteArray := prog_2_method_5_code
def yX0_nameOf : MethodName := ⟨RX0, "nameOf", "(I)Ljava/lang/String;"⟩
def RX1 : String := "PumpTalk$Matching"
def TX1 : u_T := fun k => match k with
  | 0 => ("PumpTalk$Matching", "gains", "[I", true)
  | _ => ("PumpTalk$Matching", "most", "[I", true)
def tyX1 : Nat → FieldType := fun k => match k with
  | 0 => .array .int
  | _ => .array .int
abbrev wsX10 : List Cond := u_ws RX1 TX1 2
theorem nmX1 : ∀ a, a < 2 → ∀ b, b < 2 → a ≠ b → (TX1 a).2.1 ≠ (TX1 b).2.1 := by decide +kernel
theorem tyX1_ok : ∀ k, k < 2 → parseFieldDescriptor (TX1 k).2.2.1 = some (tyX1 k) := by decide +kernel
abbrev cX1_init : ByteArray := prog_3_method_1_code
def yX1_init : MethodName := ⟨RX1, "<init>", "()V"⟩
abbrev cX1_weigh : ByteArray := prog_3_method_2_code
def yX1_weigh : MethodName := ⟨RX1, "weigh", "(III)V"⟩
abbrev cX1_solve : ByteArray := prog_3_method_3_code
def yX1_solve : MethodName := ⟨RX1, "solve", "(I)V"⟩
abbrev cX1_total : ByteArray := prog_3_method_4_code
def yX1_total : MethodName := ⟨RX1, "total", "(I)I"⟩
abbrev cX1_mateOf : ByteArray := prog_3_method_5_code
def yX1_mateOf : MethodName := ⟨RX1, "mateOf", "(II)I"⟩
abbrev cX1_leastMate : ByteArray := prog_3_method_6_code
def yX1_leastMate : MethodName := ⟨RX1, "leastMate", "(III)I"⟩
abbrev cX1_together : ByteArray := prog_3_method_7_code
def yX1_together : MethodName := ⟨RX1, "together", "(III)I"⟩
abbrev cX1_everybody : ByteArray := prog_3_method_8_code
def yX1_everybody : MethodName := ⟨RX1, "everybody", "(I)I"⟩
abbrev cX1_leastOf : ByteArray := prog_3_method_9_code
def yX1_leastOf : MethodName := ⟨RX1, "leastOf", "(I)I"⟩
def RX2 : String := "PumpTalk$Reader"
def TX2 : u_T := fun k => match k with
  | 0 => ("PumpTalk$Reader", "bytes", "[I", true)
  | 1 => ("PumpTalk$Reader", "length", "I", false)
  | 2 => ("PumpTalk$Reader", "sort", "I", false)
  | 3 => ("PumpTalk$Reader", "start", "I", false)
  | 4 => ("PumpTalk$Reader", "behind", "I", false)
  | _ => ("PumpTalk$Reader", "number", "I", false)
def tyX2 : Nat → FieldType := fun k => match k with
  | 0 => .array .int
  | 1 => .int
  | 2 => .int
  | 3 => .int
  | 4 => .int
  | _ => .int
abbrev wsX20 : List Cond := u_ws RX2 TX2 6
theorem nmX2 : ∀ a, a < 6 → ∀ b, b < 6 → a ≠ b → (TX2 a).2.1 ≠ (TX2 b).2.1 := by decide +kernel
theorem tyX2_ok : ∀ k, k < 6 → parseFieldDescriptor (TX2 k).2.2.1 = some (tyX2 k) := by decide +kernel
abbrev cX2_init : ByteArray := prog_4_method_1_code
def yX2_init : MethodName := ⟨RX2, "<init>", "()V"⟩
abbrev cX2_append : ByteArray := prog_4_method_2_code
def yX2_append : MethodName := ⟨RX2, "append", "(I)V"⟩
abbrev cX2_readInto : ByteArray := prog_4_method_3_code
def yX2_readInto : MethodName := ⟨RX2, "readInto", "(LPumpTalk$Square;)I"⟩
abbrev cX2_readItem : ByteArray := prog_4_method_4_code
def yX2_readItem : MethodName := ⟨RX2, "readItem", "(LPumpTalk$Square;)Z"⟩
abbrev cX2_readPerson : ByteArray := prog_4_method_5_code
def yX2_readPerson : MethodName := ⟨RX2, "readPerson", "(LPumpTalk$Square;I)Z"⟩
abbrev cX2_readViews : ByteArray := prog_4_method_6_code
def yX2_readViews : MethodName := ⟨RX2, "readViews", "(LPumpTalk$Square;I)Z"⟩
abbrev cX2_readPair : ByteArray := prog_4_method_7_code
def yX2_readPair : MethodName := ⟨RX2, "readPair", "(LPumpTalk$Square;)Z"⟩
abbrev cX2_readSubject : ByteArray := prog_4_method_8_code
def yX2_readSubject : MethodName := ⟨RX2, "readSubject", "(LPumpTalk$Square;)Z"⟩
abbrev cX2_isNumberUpTo : ByteArray := prog_4_method_9_code
def yX2_isNumberUpTo : MethodName := ⟨RX2, "isNumberUpTo", "(I)Z"⟩
abbrev cX2_isSign : ByteArray := prog_4_method_10_code
def yX2_isSign : MethodName := ⟨RX2, "isSign", "(I)Z"⟩
abbrev cX2_isWord : ByteArray := prog_4_method_11_code
def yX2_isWord : MethodName := ⟨RX2, "isWord", "(Ljava/lang/String;)Z"⟩
abbrev cX2_advance : ByteArray := prog_4_method_12_code
def yX2_advance : MethodName := ⟨RX2, "advance", "()V"⟩
abbrev cX2_readNumber : ByteArray := prog_4_method_13_code
def yX2_readNumber : MethodName := ⟨RX2, "readNumber", "()V"⟩
abbrev cX2_sortAt : ByteArray := prog_4_method_14_code
def yX2_sortAt : MethodName := ⟨RX2, "sortAt", "(I)I"⟩
def RX3 : String := "PumpTalk$Sheet"
def TX3 : u_T := fun k => match k with
  | 0 => ("PumpTalk$Sheet", "numbers", "[I", true)
  | 1 => ("PumpTalk$Sheet", "bits", "I", false)
  | _ => ("PumpTalk$Sheet", "size", "I", false)
def tyX3 : Nat → FieldType := fun k => match k with
  | 0 => .array .int
  | 1 => .int
  | _ => .int
abbrev wsX30 : List Cond := u_ws RX3 TX3 3
theorem nmX3 : ∀ a, a < 3 → ∀ b, b < 3 → a ≠ b → (TX3 a).2.1 ≠ (TX3 b).2.1 := by decide +kernel
theorem tyX3_ok : ∀ k, k < 3 → parseFieldDescriptor (TX3 k).2.2.1 = some (tyX3 k) := by decide +kernel
abbrev cX3_init : ByteArray := prog_5_method_1_code
def yX3_init : MethodName := ⟨RX3, "<init>", "()V"⟩
abbrev cX3_isMissing : ByteArray := prog_5_method_2_code
def yX3_isMissing : MethodName := ⟨RX3, "isMissing", "()Z"⟩
abbrev cX3_renew : ByteArray := prog_5_method_3_code
def yX3_renew : MethodName := ⟨RX3, "renew", "(II)I"⟩
abbrev cX3_put : ByteArray := prog_5_method_4_code
def yX3_put : MethodName := ⟨RX3, "put", "(II)V"⟩
abbrev cX3_hasRange : ByteArray := prog_5_method_5_code
def yX3_hasRange : MethodName := ⟨RX3, "hasRange", "(II)Z"⟩
def RX4 : String := "PumpTalk$Square"
def TX4 : u_T := fun k => match k with
  | 0 => ("PumpTalk$Square", "kindOf", "[I", true)
  | 1 => ("PumpTalk$Square", "voiceOf", "[I", true)
  | 2 => ("PumpTalk$Square", "views", "[I", true)
  | 3 => ("PumpTalk$Square", "spots", "[I", true)
  | 4 => ("PumpTalk$Square", "people", "I", false)
  | 5 => ("PumpTalk$Square", "minute", "I", false)
  | 6 => ("PumpTalk$Square", "water", "I", false)
  | 7 => ("PumpTalk$Square", "topic", "I", false)
  | 8 => ("PumpTalk$Square", "first", "I", false)
  | 9 => ("PumpTalk$Square", "second", "I", false)
  | _ => ("PumpTalk$Square", "z", "I", false)
def tyX4 : Nat → FieldType := fun k => match k with
  | 0 => .array .int
  | 1 => .array .int
  | 2 => .array .int
  | 3 => .array .int
  | 4 => .int
  | 5 => .int
  | 6 => .int
  | 7 => .int
  | 8 => .int
  | 9 => .int
  | _ => .int
abbrev wsX40 : List Cond := u_ws RX4 TX4 11
theorem nmX4 : ∀ a, a < 11 → ∀ b, b < 11 → a ≠ b → (TX4 a).2.1 ≠ (TX4 b).2.1 := by decide +kernel
theorem tyX4_ok : ∀ k, k < 11 → parseFieldDescriptor (TX4 k).2.2.1 = some (tyX4 k) := by decide +kernel
abbrev cX4_init : ByteArray := prog_6_method_1_code
def yX4_init : MethodName := ⟨RX4, "<init>", "()V"⟩
abbrev cX4_takeOver : ByteArray := prog_6_method_2_code
def yX4_takeOver : MethodName := ⟨RX4, "takeOver", "(LPumpTalk$Square;)V"⟩
abbrev cX4_isThere : ByteArray := prog_6_method_3_code
def yX4_isThere : MethodName := ⟨RX4, "isThere", "(I)Z"⟩
abbrev cX4_isCrowded : ByteArray := prog_6_method_4_code
def yX4_isCrowded : MethodName := ⟨RX4, "isCrowded", "()Z"⟩
abbrev cX4_addPerson : ByteArray := prog_6_method_5_code
def yX4_addPerson : MethodName := ⟨RX4, "addPerson", "(I)I"⟩
abbrev cX4_trait : ByteArray := prog_6_method_6_code
def yX4_trait : MethodName := ⟨RX4, "trait", "(II)I"⟩
abbrev cX4_setTrait : ByteArray := prog_6_method_7_code
def yX4_setTrait : MethodName := ⟨RX4, "setTrait", "(III)V"⟩
abbrev cX4_viewOn : ByteArray := prog_6_method_8_code
def yX4_viewOn : MethodName := ⟨RX4, "viewOn", "(II)I"⟩
abbrev cX4_setView : ByteArray := prog_6_method_9_code
def yX4_setView : MethodName := ⟨RX4, "setView", "(III)V"⟩
abbrev cX4_distance : ByteArray := prog_6_method_10_code
def yX4_distance : MethodName := ⟨RX4, "distance", "(III)I"⟩
abbrev cX4_movesOf : ByteArray := prog_6_method_11_code
def yX4_movesOf : MethodName := ⟨RX4, "movesOf", "(II)I"⟩
abbrev cX4_strokesOf : ByteArray := prog_6_method_12_code
def yX4_strokesOf : MethodName := ⟨RX4, "strokesOf", "(II)I"⟩
abbrev cX4_seat : ByteArray := prog_6_method_13_code
def yX4_seat : MethodName := ⟨RX4, "seat", "(II)V"⟩
abbrev cX4_leave : ByteArray := prog_6_method_14_code
def yX4_leave : MethodName := ⟨RX4, "leave", "()V"⟩
abbrev cX4_isManned : ByteArray := prog_6_method_15_code
def yX4_isManned : MethodName := ⟨RX4, "isManned", "()Z"⟩
abbrev cX4_isAtHandle : ByteArray := prog_6_method_16_code
def yX4_isAtHandle : MethodName := ⟨RX4, "isAtHandle", "(I)Z"⟩
abbrev cX4_quarrelSet : ByteArray := prog_6_method_17_code
def yX4_quarrelSet : MethodName := ⟨RX4, "quarrelSet", "()I"⟩
abbrev cX4_allVoices : ByteArray := prog_6_method_18_code
def yX4_allVoices : MethodName := ⟨RX4, "allVoices", "()I"⟩
abbrev cX4_fullSpots : ByteArray := prog_6_method_19_code
def yX4_fullSpots : MethodName := ⟨RX4, "fullSpots", "()I"⟩
abbrev cX4_thinksLike : ByteArray := prog_6_method_20_code
def yX4_thinksLike : MethodName := ⟨RX4, "thinksLike", "(LPumpTalk$Square;)Z"⟩
abbrev cX4_draw : ByteArray := prog_6_method_21_code
def yX4_draw : MethodName := ⟨RX4, "draw", "()I"⟩
abbrev cX4_passMinute : ByteArray := prog_6_method_22_code
def yX4_passMinute : MethodName := ⟨RX4, "passMinute", "()I"⟩
abbrev cX4_passMinutes : ByteArray := prog_6_method_23_code
def yX4_passMinutes : MethodName := ⟨RX4, "passMinutes", "(I)V"⟩
abbrev cX4_pumpBy : ByteArray := prog_6_method_24_code
def yX4_pumpBy : MethodName := ⟨RX4, "pumpBy", "(III)I"⟩
abbrev cX4_exchange : ByteArray := prog_6_method_25_code
def yX4_exchange : MethodName := ⟨RX4, "exchange", "()I"⟩
abbrev cX4_heldView : ByteArray := prog_6_method_26_code
def yX4_heldView : MethodName := ⟨RX4, "heldView", "(I)I"⟩
def RX5 : String := "PumpTalk"
def TX5 : u_T := fun k => match k with
  | 0 => ("PumpTalk", "square", "LPumpTalk$Square;", true)
  | 1 => ("PumpTalk", "trial", "LPumpTalk$Square;", true)
  | 2 => ("PumpTalk", "kept", "LPumpTalk$Square;", true)
  | 3 => ("PumpTalk", "isKept", "Z", false)
  | 4 => ("PumpTalk", "reader", "LPumpTalk$Reader;", true)
  | 5 => ("PumpTalk", "matching", "LPumpTalk$Matching;", true)
  | 6 => ("PumpTalk", "sheets", "[LPumpTalk$Sheet;", true)
  | _ => ("PumpTalk", "tally", "[I", true)
def tyX5 : Nat → FieldType := fun k => match k with
  | 0 => .object "PumpTalk$Square"
  | 1 => .object "PumpTalk$Square"
  | 2 => .object "PumpTalk$Square"
  | 3 => .boolean
  | 4 => .object "PumpTalk$Reader"
  | 5 => .object "PumpTalk$Matching"
  | 6 => .array (.object "PumpTalk$Sheet")
  | _ => .array .int
abbrev wsX50 : List Cond := u_ws RX5 TX5 8
theorem nmX5 : ∀ a, a < 8 → ∀ b, b < 8 → a ≠ b → (TX5 a).2.1 ≠ (TX5 b).2.1 := by decide +kernel
theorem tyX5_ok : ∀ k, k < 8 → parseFieldDescriptor (TX5 k).2.2.1 = some (tyX5 k) := by decide +kernel
abbrev cX5_init : ByteArray := prog_1_method_1_code
def yX5_init : MethodName := ⟨RX5, "<init>", "()V"⟩
abbrev cX5_person : ByteArray := prog_1_method_2_code
def yX5_person : MethodName := ⟨RX5, "person", "(I)I"⟩
abbrev cX5_of : ByteArray := prog_1_method_3_code
def yX5_of : MethodName := ⟨RX5, "of", "(II)I"⟩
abbrev cX5_change : ByteArray := prog_1_method_4_code
def yX5_change : MethodName := ⟨RX5, "change", "(III)I"⟩
abbrev cX5_reply : ByteArray := prog_1_method_5_code
def yX5_reply : MethodName := ⟨RX5, "reply", "(III)I"⟩
abbrev cX5_apart : ByteArray := prog_1_method_6_code
def yX5_apart : MethodName := ⟨RX5, "apart", "(III)I"⟩
abbrev cX5_pair : ByteArray := prog_1_method_7_code
def yX5_pair : MethodName := ⟨RX5, "pair", "(II)I"⟩
abbrev cX5_rest : ByteArray := prog_1_method_8_code
def yX5_rest : MethodName := ⟨RX5, "rest", "()I"⟩
abbrev cX5_subject : ByteArray := prog_1_method_9_code
def yX5_subject : MethodName := ⟨RX5, "subject", "(I)I"⟩
abbrev cX5_go : ByteArray := prog_1_method_10_code
def yX5_go : MethodName := ⟨RX5, "go", "(I)I"⟩
abbrev cX5_now : ByteArray := prog_1_method_11_code
def yX5_now : MethodName := ⟨RX5, "now", "(I)I"⟩
abbrev cX5_ahead : ByteArray := prog_1_method_12_code
def yX5_ahead : MethodName := ⟨RX5, "ahead", "(I)I"⟩
abbrev cX5_view : ByteArray := prog_1_method_13_code
def yX5_view : MethodName := ⟨RX5, "view", "(III)I"⟩
abbrev cX5_dry : ByteArray := prog_1_method_14_code
def yX5_dry : MethodName := ⟨RX5, "dry", "()I"⟩
abbrev cX5_filled : ByteArray := prog_1_method_15_code
def yX5_filled : MethodName := ⟨RX5, "filled", "(I)I"⟩
abbrev cX5_round : ByteArray := prog_1_method_16_code
def yX5_round : MethodName := ⟨RX5, "round", "()I"⟩
abbrev cX5_gives : ByteArray := prog_1_method_17_code
def yX5_gives : MethodName := ⟨RX5, "gives", "(III)I"⟩
abbrev cX5_best : ByteArray := prog_1_method_18_code
def yX5_best : MethodName := ⟨RX5, "best", "(I)I"⟩
abbrev cX5_partner : ByteArray := prog_1_method_19_code
def yX5_partner : MethodName := ⟨RX5, "partner", "(II)I"⟩
abbrev cX5_subjectFor : ByteArray := prog_1_method_20_code
def yX5_subjectFor : MethodName := ⟨RX5, "subjectFor", "(III)I"⟩
abbrev cX5_matched : ByteArray := prog_1_method_21_code
def yX5_matched : MethodName := ⟨RX5, "matched", "(I)I"⟩
abbrev cX5_matchOf : ByteArray := prog_1_method_22_code
def yX5_matchOf : MethodName := ⟨RX5, "matchOf", "(II)I"⟩
abbrev cX5_kindFor : ByteArray := prog_1_method_23_code
def yX5_kindFor : MethodName := ⟨RX5, "kindFor", "(III)I"⟩
abbrev cX5_viewFor : ByteArray := prog_1_method_24_code
def yX5_viewFor : MethodName := ⟨RX5, "viewFor", "(IIII)I"⟩
abbrev cX5_voiceFor : ByteArray := prog_1_method_25_code
def yX5_voiceFor : MethodName := ⟨RX5, "voiceFor", "(IIII)I"⟩
abbrev cX5_fits : ByteArray := prog_1_method_26_code
def yX5_fits : MethodName := ⟨RX5, "fits", "(II)I"⟩
abbrev cX5_thought : ByteArray := prog_1_method_27_code
def yX5_thought : MethodName := ⟨RX5, "thought", "(II)I"⟩
abbrev cX5_kinds : ByteArray := prog_1_method_28_code
def yX5_kinds : MethodName := ⟨RX5, "kinds", "(II)I"⟩
abbrev cX5_quarrels : ByteArray := prog_1_method_29_code
def yX5_quarrels : MethodName := ⟨RX5, "quarrels", "(I)I"⟩
abbrev cX5_odds : ByteArray := prog_1_method_30_code
def yX5_odds : MethodName := ⟨RX5, "odds", "(II)J"⟩
abbrev cX5_seed : ByteArray := prog_1_method_31_code
def yX5_seed : MethodName := ⟨RX5, "seed", "(I)I"⟩
abbrev cX5_feed : ByteArray := prog_1_method_32_code
def yX5_feed : MethodName := ⟨RX5, "feed", "(II)I"⟩
abbrev cX5_wipe : ByteArray := prog_1_method_33_code
def yX5_wipe : MethodName := ⟨RX5, "wipe", "()I"⟩
abbrev cX5_text : ByteArray := prog_1_method_34_code
def yX5_text : MethodName := ⟨RX5, "text", "()I"⟩
abbrev cX5_hold : ByteArray := prog_1_method_35_code
def yX5_hold : MethodName := ⟨RX5, "hold", "(II)I"⟩
abbrev cX5_as : ByteArray := prog_1_method_36_code
def yX5_as : MethodName := ⟨RX5, "as", "(II)I"⟩
abbrev cX5_sheet : ByteArray := prog_1_method_37_code
def yX5_sheet : MethodName := ⟨RX5, "sheet", "(III)I"⟩
abbrev cX5_write : ByteArray := prog_1_method_38_code
def yX5_write : MethodName := ⟨RX5, "write", "(III)I"⟩
abbrev cX5_copy : ByteArray := prog_1_method_39_code
def yX5_copy : MethodName := ⟨RX5, "copy", "(IIIII)I"⟩
abbrev cX5_load : ByteArray := prog_1_method_40_code
def yX5_load : MethodName := ⟨RX5, "load", "(I)I"⟩
abbrev cX5_judge : ByteArray := prog_1_method_41_code
def yX5_judge : MethodName := ⟨RX5, "judge", "(I)I"⟩
abbrev cX5_image : ByteArray := prog_1_method_42_code
def yX5_image : MethodName := ⟨RX5, "image", "()I"⟩
abbrev cX5_undo : ByteArray := prog_1_method_43_code
def yX5_undo : MethodName := ⟨RX5, "undo", "()I"⟩
abbrev cX5_tear : ByteArray := prog_1_method_44_code
def yX5_tear : MethodName := ⟨RX5, "tear", "()I"⟩
abbrev cX5_count : ByteArray := prog_1_method_45_code
def yX5_count : MethodName := ⟨RX5, "count", "(I)I"⟩
abbrev cX5_status : ByteArray := prog_1_method_46_code
def yX5_status : MethodName := ⟨RX5, "status", "(I)I"⟩
abbrev cX5_found : ByteArray := prog_1_method_47_code
def yX5_found : MethodName := ⟨RX5, "found", "(I)I"⟩
abbrev cX5_isOutside : ByteArray := prog_1_method_48_code
def yX5_isOutside : MethodName := ⟨RX5, "isOutside", "(III)Z"⟩
abbrev cX5_isNoSubject : ByteArray := prog_1_method_49_code
def yX5_isNoSubject : MethodName := ⟨RX5, "isNoSubject", "(I)Z"⟩
abbrev cX5_isNoSheet : ByteArray := prog_1_method_50_code
def yX5_isNoSheet : MethodName := ⟨RX5, "isNoSheet", "(I)Z"⟩
abbrev cX5_isNoPair : ByteArray := prog_1_method_51_code
def yX5_isNoPair : MethodName := ⟨RX5, "isNoPair", "(II)Z"⟩
abbrev cX5_isWrongTrait : ByteArray := prog_1_method_52_code
def yX5_isWrongTrait : MethodName := ⟨RX5, "isWrongTrait", "(II)Z"⟩
abbrev cX5_leastTrait : ByteArray := prog_1_method_53_code
def yX5_leastTrait : MethodName := ⟨RX5, "leastTrait", "(I)I"⟩
abbrev cX5_mostTrait : ByteArray := prog_1_method_54_code
def yX5_mostTrait : MethodName := ⟨RX5, "mostTrait", "(I)I"⟩
abbrev cX5_lackOfSheet : ByteArray := prog_1_method_55_code
def yX5_lackOfSheet : MethodName := ⟨RX5, "lackOfSheet", "(I)I"⟩
abbrev cX5_lackOfFit : ByteArray := prog_1_method_56_code
def yX5_lackOfFit : MethodName := ⟨RX5, "lackOfFit", "(II)I"⟩
abbrev cX5_gain : ByteArray := prog_1_method_57_code
def yX5_gain : MethodName := ⟨RX5, "gain", "(III)I"⟩
abbrev cX5_gainAs : ByteArray := prog_1_method_58_code
def yX5_gainAs : MethodName := ⟨RX5, "gainAs", "(IIIII)I"⟩
abbrev cX5_bestTrait : ByteArray := prog_1_method_59_code
def yX5_bestTrait : MethodName := ⟨RX5, "bestTrait", "(IIII)I"⟩
abbrev cX5_weighPairs : ByteArray := prog_1_method_60_code
def yX5_weighPairs : MethodName := ⟨RX5, "weighPairs", "(I)V"⟩
abbrev cX5_isAsTold : ByteArray := prog_1_method_61_code
def yX5_isAsTold : MethodName := ⟨RX5, "isAsTold", "(LPumpTalk$Sheet;III)Z"⟩
abbrev cX5_pairNumber : ByteArray := prog_1_method_62_code
def yX5_pairNumber : MethodName := ⟨RX5, "pairNumber", "(II)I"⟩
abbrev cX5_power : ByteArray := prog_1_method_63_code
def yX5_power : MethodName := ⟨RX5, "power", "(JI)J"⟩
def RX6 : String := "PumpTalkModel"
def TX6 : u_T := fun k => match k with
  | 0 => ("PumpTalkModel", "s", "[I", true)
  | 1 => ("PumpTalkModel", "keptS", "[I", true)
  | 2 => ("PumpTalkModel", "other", "[I", true)
  | 3 => ("PumpTalkModel", "aside", "[I", true)
  | 4 => ("PumpTalkModel", "statuses", "[I", true)
  | 5 => ("PumpTalkModel", "isKept", "Z", false)
  | 6 => ("PumpTalkModel", "came", "I", false)
  | 7 => ("PumpTalkModel", "pairGives", "[I", true)
  | 8 => ("PumpTalkModel", "mosts", "[I", true)
  | 9 => ("PumpTalkModel", "with", "[I", true)
  | 10 => ("PumpTalkModel", "fitMany", "I", false)
  | 11 => ("PumpTalkModel", "fitLeast", "I", false)
  | 12 => ("PumpTalkModel", "tape", "[I", true)
  | 13 => ("PumpTalkModel", "taped", "I", false)
  | 14 => ("PumpTalkModel", "from", "I", false)
  | 15 => ("PumpTalkModel", "to", "I", false)
  | 16 => ("PumpTalkModel", "value", "I", false)
  | 17 => ("PumpTalkModel", "isWrong", "Z", false)
  | 18 => ("PumpTalkModel", "bitsOf", "[I", true)
  | 19 => ("PumpTalkModel", "sizeOf", "[I", true)
  | 20 => ("PumpTalkModel", "numbers", "[I", true)
  | _ => ("PumpTalkModel", "moved", "[I", true)
def tyX6 : Nat → FieldType := fun k => match k with
  | 0 => .array .int
  | 1 => .array .int
  | 2 => .array .int
  | 3 => .array .int
  | 4 => .array .int
  | 5 => .boolean
  | 6 => .int
  | 7 => .array .int
  | 8 => .array .int
  | 9 => .array .int
  | 10 => .int
  | 11 => .int
  | 12 => .array .int
  | 13 => .int
  | 14 => .int
  | 15 => .int
  | 16 => .int
  | 17 => .boolean
  | 18 => .array .int
  | 19 => .array .int
  | 20 => .array .int
  | _ => .array .int
abbrev wsX60 : List Cond := u_ws RX6 TX6 22
theorem nmX6 : ∀ a, a < 22 → ∀ b, b < 22 → a ≠ b → (TX6 a).2.1 ≠ (TX6 b).2.1 := by decide +kernel
theorem tyX6_ok : ∀ k, k < 22 → parseFieldDescriptor (TX6 k).2.2.1 = some (tyX6 k) := by decide +kernel
abbrev cX6_init : ByteArray := prog_8_method_1_code
def yX6_init : MethodName := ⟨RX6, "<init>", "()V"⟩
abbrev cX6_in : ByteArray := prog_8_method_2_code
def yX6_in : MethodName := ⟨RX6, "in", "(JJJ)Z"⟩
abbrev cX6_finds : ByteArray := prog_8_method_3_code
def yX6_finds : MethodName := ⟨RX6, "finds", "(I)I"⟩
abbrev cX6_saves : ByteArray := prog_8_method_4_code
def yX6_saves : MethodName := ⟨RX6, "saves", "()V"⟩
abbrev cX6_putsBack : ByteArray := prog_8_method_5_code
def yX6_putsBack : MethodName := ⟨RX6, "putsBack", "()V"⟩
abbrev cX6_laysAside : ByteArray := prog_8_method_6_code
def yX6_laysAside : MethodName := ⟨RX6, "laysAside", "()V"⟩
abbrev cX6_takesBack : ByteArray := prog_8_method_7_code
def yX6_takesBack : MethodName := ⟨RX6, "takesBack", "(I)I"⟩
abbrev cX6_becomes : ByteArray := prog_8_method_8_code
def yX6_becomes : MethodName := ⟨RX6, "becomes", "(II)I"⟩
abbrev cX6_isSubject : ByteArray := prog_8_method_9_code
def yX6_isSubject : MethodName := ⟨RX6, "isSubject", "(I)Z"⟩
abbrev cX6_isPerson : ByteArray := prog_8_method_10_code
def yX6_isPerson : MethodName := ⟨RX6, "isPerson", "(I)Z"⟩
abbrev cX6_areTwo : ByteArray := prog_8_method_11_code
def yX6_areTwo : MethodName := ⟨RX6, "areTwo", "(II)Z"⟩
abbrev cX6_isKind : ByteArray := prog_8_method_12_code
def yX6_isKind : MethodName := ⟨RX6, "isKind", "(I)Z"⟩
abbrev cX6_isView : ByteArray := prog_8_method_13_code
def yX6_isView : MethodName := ⟨RX6, "isView", "(I)Z"⟩
abbrev cX6_place : ByteArray := prog_8_method_14_code
def yX6_place : MethodName := ⟨RX6, "place", "(II)I"⟩
abbrev cX6_its : ByteArray := prog_8_method_15_code
def yX6_its : MethodName := ⟨RX6, "its", "(II)I"⟩
abbrev cX6_isSomebody : ByteArray := prog_8_method_16_code
def yX6_isSomebody : MethodName := ⟨RX6, "isSomebody", "()Z"⟩
abbrev cX6_adds : ByteArray := prog_8_method_17_code
def yX6_adds : MethodName := ⟨RX6, "adds", "(I)I"⟩
abbrev cX6_person : ByteArray := prog_8_method_18_code
def yX6_person : MethodName := ⟨RX6, "person", "(I)I"⟩
abbrev cX6_of : ByteArray := prog_8_method_19_code
def yX6_of : MethodName := ⟨RX6, "of", "(II)I"⟩
abbrev cX6_change : ByteArray := prog_8_method_20_code
def yX6_change : MethodName := ⟨RX6, "change", "(III)I"⟩
abbrev cX6_moves : ByteArray := prog_8_method_21_code
def yX6_moves : MethodName := ⟨RX6, "moves", "(II)I"⟩
abbrev cX6_strokes : ByteArray := prog_8_method_22_code
def yX6_strokes : MethodName := ⟨RX6, "strokes", "(II)I"⟩
abbrev cX6_reply : ByteArray := prog_8_method_23_code
def yX6_reply : MethodName := ⟨RX6, "reply", "(III)I"⟩
abbrev cX6_apartOn : ByteArray := prog_8_method_24_code
def yX6_apartOn : MethodName := ⟨RX6, "apartOn", "(III)I"⟩
abbrev cX6_apart : ByteArray := prog_8_method_25_code
def yX6_apart : MethodName := ⟨RX6, "apart", "(III)I"⟩
abbrev cX6_disputed : ByteArray := prog_8_method_26_code
def yX6_disputed : MethodName := ⟨RX6, "disputed", "()I"⟩
abbrev cX6_ones : ByteArray := prog_8_method_27_code
def yX6_ones : MethodName := ⟨RX6, "ones", "(I)I"⟩
abbrev cX6_pair : ByteArray := prog_8_method_28_code
def yX6_pair : MethodName := ⟨RX6, "pair", "(II)I"⟩
abbrev cX6_rest : ByteArray := prog_8_method_29_code
def yX6_rest : MethodName := ⟨RX6, "rest", "()I"⟩
abbrev cX6_subject : ByteArray := prog_8_method_30_code
def yX6_subject : MethodName := ⟨RX6, "subject", "(I)I"⟩
abbrev cX6_heldView : ByteArray := prog_8_method_31_code
def yX6_heldView : MethodName := ⟨RX6, "heldView", "(I)I"⟩
abbrev cX6_replies : ByteArray := prog_8_method_32_code
def yX6_replies : MethodName := ⟨RX6, "replies", "(I)V"⟩
abbrev cX6_minute : ByteArray := prog_8_method_33_code
def yX6_minute : MethodName := ⟨RX6, "minute", "()V"⟩
abbrev cX6_goesOn : ByteArray := prog_8_method_34_code
def yX6_goesOn : MethodName := ⟨RX6, "goesOn", "(I)V"⟩
abbrev cX6_go : ByteArray := prog_8_method_35_code
def yX6_go : MethodName := ⟨RX6, "go", "(I)I"⟩
abbrev cX6_voices : ByteArray := prog_8_method_36_code
def yX6_voices : MethodName := ⟨RX6, "voices", "()I"⟩
abbrev cX6_now : ByteArray := prog_8_method_37_code
def yX6_now : MethodName := ⟨RX6, "now", "(I)I"⟩
abbrev cX6_behind : ByteArray := prog_8_method_38_code
def yX6_behind : MethodName := ⟨RX6, "behind", "(II)I"⟩
abbrev cX6_ahead : ByteArray := prog_8_method_39_code
def yX6_ahead : MethodName := ⟨RX6, "ahead", "(I)I"⟩
abbrev cX6_view : ByteArray := prog_8_method_40_code
def yX6_view : MethodName := ⟨RX6, "view", "(III)I"⟩
abbrev cX6_orNone : ByteArray := prog_8_method_41_code
def yX6_orNone : MethodName := ⟨RX6, "orNone", "(I)I"⟩
abbrev cX6_dry : ByteArray := prog_8_method_42_code
def yX6_dry : MethodName := ⟨RX6, "dry", "()I"⟩
abbrev cX6_filled : ByteArray := prog_8_method_43_code
def yX6_filled : MethodName := ⟨RX6, "filled", "(I)I"⟩
abbrev cX6_isAsAside : ByteArray := prog_8_method_44_code
def yX6_isAsAside : MethodName := ⟨RX6, "isAsAside", "()Z"⟩
abbrev cX6_round : ByteArray := prog_8_method_45_code
def yX6_round : MethodName := ⟨RX6, "round", "()I"⟩
abbrev cX6_isSoon : ByteArray := prog_8_method_46_code
def yX6_isSoon : MethodName := ⟨RX6, "isSoon", "(I)Z"⟩
abbrev cX6_given : ByteArray := prog_8_method_47_code
def yX6_given : MethodName := ⟨RX6, "given", "(III)I"⟩
abbrev cX6_gives : ByteArray := prog_8_method_48_code
def yX6_gives : MethodName := ⟨RX6, "gives", "(III)I"⟩
abbrev cX6_best : ByteArray := prog_8_method_49_code
def yX6_best : MethodName := ⟨RX6, "best", "(I)I"⟩
abbrev cX6_partner : ByteArray := prog_8_method_50_code
def yX6_partner : MethodName := ⟨RX6, "partner", "(II)I"⟩
abbrev cX6_mostBy : ByteArray := prog_8_method_51_code
def yX6_mostBy : MethodName := ⟨RX6, "mostBy", "(IIIIII)I"⟩
abbrev cX6_subjectFor : ByteArray := prog_8_method_52_code
def yX6_subjectFor : MethodName := ⟨RX6, "subjectFor", "(III)I"⟩
abbrev cX6_findMatches : ByteArray := prog_8_method_53_code
def yX6_findMatches : MethodName := ⟨RX6, "findMatches", "(I)V"⟩
abbrev cX6_matched : ByteArray := prog_8_method_54_code
def yX6_matched : MethodName := ⟨RX6, "matched", "(I)I"⟩
abbrev cX6_matchOf : ByteArray := prog_8_method_55_code
def yX6_matchOf : MethodName := ⟨RX6, "matchOf", "(II)I"⟩
abbrev cX6_kindFor : ByteArray := prog_8_method_56_code
def yX6_kindFor : MethodName := ⟨RX6, "kindFor", "(III)I"⟩
abbrev cX6_viewFor : ByteArray := prog_8_method_57_code
def yX6_viewFor : MethodName := ⟨RX6, "viewFor", "(IIII)I"⟩
abbrev cX6_voiceFor : ByteArray := prog_8_method_58_code
def yX6_voiceFor : MethodName := ⟨RX6, "voiceFor", "(IIII)I"⟩
abbrev cX6_isTold : ByteArray := prog_8_method_59_code
def yX6_isTold : MethodName := ⟨RX6, "isTold", "(I)Z"⟩
abbrev cX6_wrongOne : ByteArray := prog_8_method_60_code
def yX6_wrongOne : MethodName := ⟨RX6, "wrongOne", "(II)I"⟩
abbrev cX6_findFits : ByteArray := prog_8_method_61_code
def yX6_findFits : MethodName := ⟨RX6, "findFits", "(II)V"⟩
abbrev cX6_fits : ByteArray := prog_8_method_62_code
def yX6_fits : MethodName := ⟨RX6, "fits", "(II)I"⟩
abbrev cX6_thought : ByteArray := prog_8_method_63_code
def yX6_thought : MethodName := ⟨RX6, "thought", "(II)I"⟩
abbrev cX6_kinds : ByteArray := prog_8_method_64_code
def yX6_kinds : MethodName := ⟨RX6, "kinds", "(II)I"⟩
abbrev cX6_draw : ByteArray := prog_8_method_65_code
def yX6_draw : MethodName := ⟨RX6, "draw", "()I"⟩
abbrev cX6_quarrels : ByteArray := prog_8_method_66_code
def yX6_quarrels : MethodName := ⟨RX6, "quarrels", "(I)I"⟩
abbrev cX6_odds : ByteArray := prog_8_method_67_code
def yX6_odds : MethodName := ⟨RX6, "odds", "(II)J"⟩
abbrev cX6_seed : ByteArray := prog_8_method_68_code
def yX6_seed : MethodName := ⟨RX6, "seed", "(I)I"⟩
abbrev cX6_feed : ByteArray := prog_8_method_69_code
def yX6_feed : MethodName := ⟨RX6, "feed", "(II)I"⟩
abbrev cX6_wipe : ByteArray := prog_8_method_70_code
def yX6_wipe : MethodName := ⟨RX6, "wipe", "()I"⟩
abbrev cX6_byteAt : ByteArray := prog_8_method_71_code
def yX6_byteAt : MethodName := ⟨RX6, "byteAt", "(I)I"⟩
abbrev cX6_isLetter : ByteArray := prog_8_method_72_code
def yX6_isLetter : MethodName := ⟨RX6, "isLetter", "(I)Z"⟩
abbrev cX6_isDigit : ByteArray := prog_8_method_73_code
def yX6_isDigit : MethodName := ⟨RX6, "isDigit", "(I)Z"⟩
abbrev cX6_token : ByteArray := prog_8_method_74_code
def yX6_token : MethodName := ⟨RX6, "token", "()V"⟩
abbrev cX6_must : ByteArray := prog_8_method_75_code
def yX6_must : MethodName := ⟨RX6, "must", "(Z)V"⟩
abbrev cX6_word : ByteArray := prog_8_method_76_code
def yX6_word : MethodName := ⟨RX6, "word", "()J"⟩
abbrev cX6_number : ByteArray := prog_8_method_77_code
def yX6_number : MethodName := ⟨RX6, "number", "(II)V"⟩
abbrev cX6_kindHere : ByteArray := prog_8_method_78_code
def yX6_kindHere : MethodName := ⟨RX6, "kindHere", "()I"⟩
abbrev cX6_isHere : ByteArray := prog_8_method_79_code
def yX6_isHere : MethodName := ⟨RX6, "isHere", "(I)Z"⟩
abbrev cX6_viewHere : ByteArray := prog_8_method_80_code
def yX6_viewHere : MethodName := ⟨RX6, "viewHere", "()I"⟩
abbrev cX6_personItem : ByteArray := prog_8_method_81_code
def yX6_personItem : MethodName := ⟨RX6, "personItem", "(I)V"⟩
abbrev cX6_pairItem : ByteArray := prog_8_method_82_code
def yX6_pairItem : MethodName := ⟨RX6, "pairItem", "()V"⟩
abbrev cX6_peeked : ByteArray := prog_8_method_83_code
def yX6_peeked : MethodName := ⟨RX6, "peeked", "()I"⟩
abbrev cX6_item : ByteArray := prog_8_method_84_code
def yX6_item : MethodName := ⟨RX6, "item", "()V"⟩
abbrev cX6_text : ByteArray := prog_8_method_85_code
def yX6_text : MethodName := ⟨RX6, "text", "()I"⟩
abbrev cX6_isSpot : ByteArray := prog_8_method_86_code
def yX6_isSpot : MethodName := ⟨RX6, "isSpot", "(I)Z"⟩
abbrev cX6_hold : ByteArray := prog_8_method_87_code
def yX6_hold : MethodName := ⟨RX6, "hold", "(II)I"⟩
abbrev cX6_above : ByteArray := prog_8_method_88_code
def yX6_above : MethodName := ⟨RX6, "above", "(I)I"⟩
abbrev cX6_as : ByteArray := prog_8_method_89_code
def yX6_as : MethodName := ⟨RX6, "as", "(II)I"⟩
abbrev cX6_isOne : ByteArray := prog_8_method_90_code
def yX6_isOne : MethodName := ⟨RX6, "isOne", "(I)Z"⟩
abbrev cX6_sheet : ByteArray := prog_8_method_91_code
def yX6_sheet : MethodName := ⟨RX6, "sheet", "(III)I"⟩
abbrev cX6_narrowed : ByteArray := prog_8_method_92_code
def yX6_narrowed : MethodName := ⟨RX6, "narrowed", "(II)I"⟩
abbrev cX6_wrong : ByteArray := prog_8_method_93_code
def yX6_wrong : MethodName := ⟨RX6, "wrong", "(I)I"⟩
abbrev cX6_write : ByteArray := prog_8_method_94_code
def yX6_write : MethodName := ⟨RX6, "write", "(III)I"⟩
abbrev cX6_copy : ByteArray := prog_8_method_95_code
def yX6_copy : MethodName := ⟨RX6, "copy", "(IIIII)I"⟩
abbrev cX6_load : ByteArray := prog_8_method_96_code
def yX6_load : MethodName := ⟨RX6, "load", "(I)I"⟩
abbrev cX6_judge : ByteArray := prog_8_method_97_code
def yX6_judge : MethodName := ⟨RX6, "judge", "(I)I"⟩
abbrev cX6_image : ByteArray := prog_8_method_98_code
def yX6_image : MethodName := ⟨RX6, "image", "()I"⟩
abbrev cX6_undo : ByteArray := prog_8_method_99_code
def yX6_undo : MethodName := ⟨RX6, "undo", "()I"⟩
abbrev cX6_tear : ByteArray := prog_8_method_100_code
def yX6_tear : MethodName := ⟨RX6, "tear", "()I"⟩
abbrev cX6_heldSpots : ByteArray := prog_8_method_101_code
def yX6_heldSpots : MethodName := ⟨RX6, "heldSpots", "()I"⟩
abbrev cX6_count : ByteArray := prog_8_method_102_code
def yX6_count : MethodName := ⟨RX6, "count", "(I)I"⟩
abbrev cX6_status : ByteArray := prog_8_method_103_code
def yX6_status : MethodName := ⟨RX6, "status", "(I)I"⟩
def RJ6 : String := "java/lang/Integer"
def TJ6 : u_T := fun k => match k with
  | _ => ("", "", "", false)
def tyJ6 : Nat → FieldType := fun k => match k with
  | _ => .int
abbrev wsJ60 : List Cond := u_ws RJ6 TJ6 0
theorem nmJ6 : ∀ a, a < 0 → ∀ b, b < 0 → a ≠ b → (TJ6 a).2.1 ≠ (TJ6 b).2.1 := by decide +kernel
theorem tyJ6_ok : ∀ k, k < 0 → parseFieldDescriptor (TJ6 k).2.2.1 = some (tyJ6 k) := by decide +kernel
abbrev cJ6_bitCount_0f7a4 : ByteArray := prog_9_method_49_code
def yJ6_bitCount_0f7a4 : MethodName := ⟨RJ6, "bitCount", "(I)I"⟩
def RJ9 : String := "java/lang/Math"
def TJ9 : u_T := fun k => match k with
  | _ => ("", "", "", false)
def tyJ9 : Nat → FieldType := fun k => match k with
  | _ => .int
abbrev wsJ90 : List Cond := u_ws RJ9 TJ9 0
theorem nmJ9 : ∀ a, a < 0 → ∀ b, b < 0 → a ≠ b → (TJ9 a).2.1 ≠ (TJ9 b).2.1 := by decide +kernel
theorem tyJ9_ok : ∀ k, k < 0 → parseFieldDescriptor (TJ9 k).2.2.1 = some (tyJ9 k) := by decide +kernel
abbrev cJ9_abs_0f7a4 : ByteArray := prog_10_method_59_code
def yJ9_abs_0f7a4 : MethodName := ⟨RJ9, "abs", "(I)I"⟩
abbrev cJ9_max_7cf53 : ByteArray := prog_10_method_65_code
def yJ9_max_7cf53 : MethodName := ⟨RJ9, "max", "(II)I"⟩
abbrev cJ9_min_7cf53 : ByteArray := prog_10_method_69_code
def yJ9_min_7cf53 : MethodName := ⟨RJ9, "min", "(II)I"⟩
def RJ0 : String := "java/lang/String"
def TJ0 : u_T := fun k => match k with
  | _ => ("", "", "", false)
def tyJ0 : Nat → FieldType := fun k => match k with
  | _ => .int
abbrev wsJ00 : List Cond := u_ws RJ0 TJ0 0
theorem nmJ0 : ∀ a, a < 0 → ∀ b, b < 0 → a ≠ b → (TJ0 a).2.1 ≠ (TJ0 b).2.1 := by decide +kernel
theorem tyJ0_ok : ∀ k, k < 0 → parseFieldDescriptor (TJ0 k).2.2.1 = some (tyJ0 k) := by decide +kernel
abbrev cJ0_length_8abf5 : ByteArray := prog_11_method_54_code
def yJ0_length_8abf5 : MethodName := ⟨RJ0, "length", "()I"⟩
abbrev cJ0_charAt_5068e : ByteArray := prog_11_method_56_code
def yJ0_charAt_5068e : MethodName := ⟨RJ0, "charAt", "(I)C"⟩
abbrev cJ0_coder_7d493 : ByteArray := prog_11_method_152_code
def yJ0_coder_7d493 : MethodName := ⟨RJ0, "coder", "()B"⟩
abbrev cJ0_isLatin1_aae02 : ByteArray := prog_11_method_154_code
def yJ0_isLatin1_aae02 : MethodName := ⟨RJ0, "isLatin1", "()Z"⟩
abbrev cJ0_checkIndex_df160 : ByteArray := prog_11_method_155_code
def yJ0_checkIndex_df160 : MethodName := ⟨RJ0, "checkIndex", "(II)V"⟩
def RJ1 : String := "java/lang/StringLatin1"
def TJ1 : u_T := fun k => match k with
  | _ => ("", "", "", false)
def tyJ1 : Nat → FieldType := fun k => match k with
  | _ => .int
abbrev wsJ10 : List Cond := u_ws RJ1 TJ1 0
theorem nmJ1 : ∀ a, a < 0 → ∀ b, b < 0 → a ≠ b → (TJ1 a).2.1 ≠ (TJ1 b).2.1 := by decide +kernel
theorem tyJ1_ok : ∀ k, k < 0 → parseFieldDescriptor (TJ1 k).2.2.1 = some (tyJ1 k) := by decide +kernel
abbrev cJ1_charAt_3b067 : ByteArray := prog_12_method_2_code
def yJ1_charAt_3b067 : MethodName := ⟨RJ1, "charAt", "([BI)C"⟩
def RJ2 : String := "java/lang/StringUTF16"
def TJ2 : u_T := fun k => match k with
  | _ => ("", "", "", false)
def tyJ2 : Nat → FieldType := fun k => match k with
  | _ => .int
abbrev wsJ20 : List Cond := u_ws RJ2 TJ2 0
theorem nmJ2 : ∀ a, a < 0 → ∀ b, b < 0 → a ≠ b → (TJ2 a).2.1 ≠ (TJ2 b).2.1 := by decide +kernel
theorem tyJ2_ok : ∀ k, k < 0 → parseFieldDescriptor (TJ2 k).2.2.1 = some (tyJ2 k) := by decide +kernel
abbrev cJ2_getChar_3b067 : ByteArray := prog_13_method_5_code
def yJ2_getChar_3b067 : MethodName := ⟨RJ2, "getChar", "([BI)C"⟩
abbrev cJ2_length_9d52b : ByteArray := prog_13_method_6_code
def yJ2_length_9d52b : MethodName := ⟨RJ2, "length", "([B)I"⟩
abbrev cJ2_charAt_3b067 : ByteArray := prog_13_method_83_code
def yJ2_charAt_3b067 : MethodName := ⟨RJ2, "charAt", "([BI)C"⟩
abbrev cJ2_checkIndex_2214a : ByteArray := prog_13_method_91_code
def yJ2_checkIndex_2214a : MethodName := ⟨RJ2, "checkIndex", "(I[B)V"⟩
def RJ10 : String := "java/lang/System"
def TJ10 : u_T := fun k => match k with
  | _ => ("", "", "", false)
def tyJ10 : Nat → FieldType := fun k => match k with
  | _ => .int
abbrev wsJ100 : List Cond := u_ws RJ10 TJ10 0
theorem nmJ10 : ∀ a, a < 0 → ∀ b, b < 0 → a ≠ b → (TJ10 a).2.1 ≠ (TJ10 b).2.1 := by decide +kernel
theorem tyJ10_ok : ∀ k, k < 0 → parseFieldDescriptor (TJ10 k).2.2.1 = some (tyJ10 k) := by decide +kernel
def RJ3 : String := "jdk/internal/util/Preconditions"
def TJ3 : u_T := fun k => match k with
  | _ => ("", "", "", false)
def tyJ3 : Nat → FieldType := fun k => match k with
  | _ => .int
abbrev wsJ30 : List Cond := u_ws RJ3 TJ3 0
theorem nmJ3 : ∀ a, a < 0 → ∀ b, b < 0 → a ≠ b → (TJ3 a).2.1 ≠ (TJ3 b).2.1 := by decide +kernel
theorem tyJ3_ok : ∀ k, k < 0 → parseFieldDescriptor (TJ3 k).2.2.1 = some (tyJ3 k) := by decide +kernel
abbrev cJ3_checkIndex_8e157 : ByteArray := prog_15_method_11_code
def yJ3_checkIndex_8e157 : MethodName := ⟨RJ3, "checkIndex", "(IILjava/util/function/BiFunction;)I"⟩
def RL : String := "PumpTalkLaw"
abbrev cL_law : ByteArray := code
def yL_law : MethodName := ⟨RL, "law", "([I)Z"⟩
abbrev vwCl : List vw_C := [(RX1, TX1, 2), (RX2, TX2, 6), (RX3, TX3, 3), (RX4, TX4, 11), (RX5, TX5, 8), (RX6, TX6, 22)]
end
section
def TB : List Cond := lw_tbl.filter goodWord
theorem tb_mem {w : Cond} (k : Nat) (h : lw_tbl[k]? = some w) (hg : goodWord w = true) : w ∈ TB := List.mem_filter.mpr ⟨List.mem_of_getElem? h, hg⟩
theorem tb_good {w : Cond} (h : w ∈ TB) : (w.onTables && w.keeps) = true ∨ ∃ ty, w = .arrayClass ty := good_of_word (List.mem_filter.mp h).2
theorem tb_sub {w : Cond} (h : w ∈ TB) : w ∈ lw_tbl := (List.mem_filter.mp h).1
theorem q0 : Cond.selects "PumpTalk" yX5_found yX5_found ∈ TB := tb_mem 0 (by decide +kernel) rfl
theorem q1 : Cond.selects "PumpTalk" yX5_isNoPair yX5_isNoPair ∈ TB := tb_mem 1 (by decide +kernel) rfl
theorem q2 : Cond.selects "PumpTalk$Square" yX4_exchange yX4_exchange ∈ TB := tb_mem 2 (by decide +kernel) rfl
theorem q3 : Cond.selects "PumpTalk" yX5_gain yX5_gain ∈ TB := tb_mem 3 (by decide +kernel) rfl
theorem q4 : Cond.selects "PumpTalk" yX5_weighPairs yX5_weighPairs ∈ TB := tb_mem 4 (by decide +kernel) rfl
theorem q5 : Cond.selects "PumpTalk$Matching" yX1_together yX1_together ∈ TB := tb_mem 5 (by decide +kernel) rfl
theorem q6 : Cond.selects "PumpTalk$Matching" yX1_leastMate yX1_leastMate ∈ TB := tb_mem 6 (by decide +kernel) rfl
theorem q7 : Cond.selects "PumpTalk" yX5_bestTrait yX5_bestTrait ∈ TB := tb_mem 7 (by decide +kernel) rfl
theorem q8 : Cond.selects "PumpTalk" yX5_gainAs yX5_gainAs ∈ TB := tb_mem 8 (by decide +kernel) rfl
theorem q9 : Cond.selects "PumpTalk" yX5_lackOfFit yX5_lackOfFit ∈ TB := tb_mem 9 (by decide +kernel) rfl
theorem q10 : Cond.selects "PumpTalk" yX5_lackOfSheet yX5_lackOfSheet ∈ TB := tb_mem 10 (by decide +kernel) rfl
theorem q11 : Cond.selects "PumpTalk" yX5_isAsTold yX5_isAsTold ∈ TB := tb_mem 11 (by decide +kernel) rfl
theorem q12 : Cond.selects "PumpTalk$Reader" yX2_advance yX2_advance ∈ TB := tb_mem 12 (by decide +kernel) rfl
theorem q13 : Cond.selects "PumpTalk$Reader" yX2_sortAt yX2_sortAt ∈ TB := tb_mem 13 (by decide +kernel) rfl
theorem q14 : Cond.selects "PumpTalk$Reader" yX2_readNumber yX2_readNumber ∈ TB := tb_mem 14 (by decide +kernel) rfl
theorem q15 : Cond.selects "PumpTalk$Reader" yX2_readItem yX2_readItem ∈ TB := tb_mem 15 (by decide +kernel) rfl
theorem q16 : Cond.selects "PumpTalk$Reader" yX2_isWord yX2_isWord ∈ TB := tb_mem 16 (by decide +kernel) rfl
theorem q17 : Cond.selects "PumpTalk$Reader" yX2_readPerson yX2_readPerson ∈ TB := tb_mem 17 (by decide +kernel) rfl
theorem q18 : Cond.selects "PumpTalk$Reader" yX2_isNumberUpTo yX2_isNumberUpTo ∈ TB := tb_mem 18 (by decide +kernel) rfl
theorem q19 : Cond.selects "PumpTalk$Reader" yX2_readViews yX2_readViews ∈ TB := tb_mem 19 (by decide +kernel) rfl
theorem q20 : Cond.selects "PumpTalk$Reader" yX2_isSign yX2_isSign ∈ TB := tb_mem 20 (by decide +kernel) rfl
theorem q21 : Cond.selects "PumpTalk$Reader" yX2_readPair yX2_readPair ∈ TB := tb_mem 21 (by decide +kernel) rfl
theorem q22 : Cond.selects "PumpTalk$Reader" yX2_readSubject yX2_readSubject ∈ TB := tb_mem 22 (by decide +kernel) rfl
theorem q23 : Cond.selects "PumpTalkModel" yX6_finds yX6_finds ∈ TB := tb_mem 23 (by decide +kernel) rfl
theorem q24 : Cond.selects "PumpTalkModel" yX6_adds yX6_adds ∈ TB := tb_mem 24 (by decide +kernel) rfl
theorem q25 : Cond.selects "PumpTalkModel" yX6_isPerson yX6_isPerson ∈ TB := tb_mem 25 (by decide +kernel) rfl
theorem q26 : Cond.selects "PumpTalkModel" yX6_its yX6_its ∈ TB := tb_mem 26 (by decide +kernel) rfl
theorem q27 : Cond.selects "PumpTalkModel" yX6_becomes yX6_becomes ∈ TB := tb_mem 27 (by decide +kernel) rfl
theorem q28 : Cond.selects "PumpTalkModel" yX6_moves yX6_moves ∈ TB := tb_mem 28 (by decide +kernel) rfl
theorem q29 : Cond.selects "PumpTalkModel" yX6_strokes yX6_strokes ∈ TB := tb_mem 29 (by decide +kernel) rfl
theorem q30 : Cond.selects "PumpTalkModel" yX6_apartOn yX6_apartOn ∈ TB := tb_mem 30 (by decide +kernel) rfl
theorem q31 : Cond.selects "PumpTalkModel" yX6_areTwo yX6_areTwo ∈ TB := tb_mem 31 (by decide +kernel) rfl
theorem q32 : Cond.selects "PumpTalkModel" yX6_disputed yX6_disputed ∈ TB := tb_mem 32 (by decide +kernel) rfl
theorem q33 : Cond.selects "PumpTalkModel" yX6_isSomebody yX6_isSomebody ∈ TB := tb_mem 33 (by decide +kernel) rfl
theorem q34 : Cond.selects "PumpTalkModel" yX6_goesOn yX6_goesOn ∈ TB := tb_mem 34 (by decide +kernel) rfl
theorem q35 : Cond.selects "PumpTalkModel" yX6_minute yX6_minute ∈ TB := tb_mem 35 (by decide +kernel) rfl
theorem q36 : Cond.selects "PumpTalkModel" yX6_replies yX6_replies ∈ TB := tb_mem 36 (by decide +kernel) rfl
theorem q37 : Cond.selects "PumpTalkModel" yX6_voices yX6_voices ∈ TB := tb_mem 37 (by decide +kernel) rfl
theorem q38 : Cond.selects "PumpTalkModel" yX6_behind yX6_behind ∈ TB := tb_mem 38 (by decide +kernel) rfl
theorem q39 : Cond.selects "PumpTalkModel" yX6_laysAside yX6_laysAside ∈ TB := tb_mem 39 (by decide +kernel) rfl
theorem q40 : Cond.selects "PumpTalkModel" yX6_takesBack yX6_takesBack ∈ TB := tb_mem 40 (by decide +kernel) rfl
theorem q41 : Cond.selects "PumpTalkModel" yX6_orNone yX6_orNone ∈ TB := tb_mem 41 (by decide +kernel) rfl
theorem q42 : Cond.selects "PumpTalkModel" yX6_isAsAside yX6_isAsAside ∈ TB := tb_mem 42 (by decide +kernel) rfl
theorem q43 : Cond.selects "PumpTalkModel" yX6_given yX6_given ∈ TB := tb_mem 43 (by decide +kernel) rfl
theorem q44 : Cond.selects "PumpTalkModel" yX6_mostBy yX6_mostBy ∈ TB := tb_mem 44 (by decide +kernel) rfl
theorem q45 : Cond.selects "PumpTalkModel" yX6_findMatches yX6_findMatches ∈ TB := tb_mem 45 (by decide +kernel) rfl
theorem q46 : Cond.selects "PumpTalkModel" yX6_wrongOne yX6_wrongOne ∈ TB := tb_mem 46 (by decide +kernel) rfl
theorem q47 : Cond.selects "PumpTalkModel" yX6_wrong yX6_wrong ∈ TB := tb_mem 47 (by decide +kernel) rfl
theorem q48 : Cond.selects "PumpTalkModel" yX6_findFits yX6_findFits ∈ TB := tb_mem 48 (by decide +kernel) rfl
theorem q49 : Cond.selects "PumpTalkModel" yX6_isTold yX6_isTold ∈ TB := tb_mem 49 (by decide +kernel) rfl
theorem q50 : Cond.selects "PumpTalkModel" yX6_draw yX6_draw ∈ TB := tb_mem 50 (by decide +kernel) rfl
theorem q51 : Cond.selects "PumpTalkModel" yX6_saves yX6_saves ∈ TB := tb_mem 51 (by decide +kernel) rfl
theorem q52 : Cond.selects "PumpTalkModel" yX6_token yX6_token ∈ TB := tb_mem 52 (by decide +kernel) rfl
theorem q53 : Cond.selects "PumpTalkModel" yX6_byteAt yX6_byteAt ∈ TB := tb_mem 53 (by decide +kernel) rfl
theorem q54 : Cond.selects "PumpTalkModel" yX6_item yX6_item ∈ TB := tb_mem 54 (by decide +kernel) rfl
theorem q55 : Cond.selects "PumpTalkModel" yX6_kindHere yX6_kindHere ∈ TB := tb_mem 55 (by decide +kernel) rfl
theorem q56 : Cond.selects "PumpTalkModel" yX6_word yX6_word ∈ TB := tb_mem 56 (by decide +kernel) rfl
theorem q57 : Cond.selects "PumpTalkModel" yX6_personItem yX6_personItem ∈ TB := tb_mem 57 (by decide +kernel) rfl
theorem q58 : Cond.selects "PumpTalkModel" yX6_must yX6_must ∈ TB := tb_mem 58 (by decide +kernel) rfl
theorem q59 : Cond.selects "PumpTalkModel" yX6_number yX6_number ∈ TB := tb_mem 59 (by decide +kernel) rfl
theorem q60 : Cond.selects "PumpTalkModel" yX6_viewHere yX6_viewHere ∈ TB := tb_mem 60 (by decide +kernel) rfl
theorem q61 : Cond.selects "PumpTalkModel" yX6_isHere yX6_isHere ∈ TB := tb_mem 61 (by decide +kernel) rfl
theorem q62 : Cond.selects "PumpTalkModel" yX6_pairItem yX6_pairItem ∈ TB := tb_mem 62 (by decide +kernel) rfl
theorem q63 : Cond.selects "PumpTalkModel" yX6_peeked yX6_peeked ∈ TB := tb_mem 63 (by decide +kernel) rfl
theorem q64 : Cond.selects "PumpTalkModel" yX6_putsBack yX6_putsBack ∈ TB := tb_mem 64 (by decide +kernel) rfl
theorem q65 : Cond.selects "PumpTalkModel" yX6_heldSpots yX6_heldSpots ∈ TB := tb_mem 65 (by decide +kernel) rfl
theorem q66 : Cond.initialized "PumpTalkLaw" ∈ TB := tb_mem 66 (by decide +kernel) rfl
theorem q67 : Cond.initialized "PumpTalk" ∈ TB := tb_mem 67 (by decide +kernel) rfl
theorem q68 : Cond.initialized "PumpTalk$Square" ∈ TB := tb_mem 68 (by decide +kernel) rfl
theorem q69 : Cond.initialized "PumpTalk$Reader" ∈ TB := tb_mem 69 (by decide +kernel) rfl
theorem q70 : Cond.initialized "PumpTalk$Matching" ∈ TB := tb_mem 70 (by decide +kernel) rfl
theorem q71 : Cond.initialized "PumpTalk$Sheet" ∈ TB := tb_mem 71 (by decide +kernel) rfl
theorem q72 : Cond.initialized "PumpTalkModel" ∈ TB := tb_mem 72 (by decide +kernel) rfl
theorem q73 : Cond.initialized "PumpTalk$Kinds" ∈ TB := tb_mem 73 (by decide +kernel) rfl
theorem q74 : Cond.initialized "java/lang/Math" ∈ TB := tb_mem 74 (by decide +kernel) rfl
theorem q75 : Cond.initialized "java/lang/Integer" ∈ TB := tb_mem 75 (by decide +kernel) rfl
theorem q76 : Cond.initialized "java/lang/System" ∈ TB := tb_mem 76 (by decide +kernel) rfl
theorem q77 : Cond.initialized "java/lang/String" ∈ TB := tb_mem 77 (by decide +kernel) rfl
theorem q78 : Cond.initialized "java/lang/StringLatin1" ∈ TB := tb_mem 78 (by decide +kernel) rfl
theorem q79 : Cond.initialized "jdk/internal/util/Preconditions" ∈ TB := tb_mem 79 (by decide +kernel) rfl
theorem q80 : Cond.initialized "java/lang/StringUTF16" ∈ TB := tb_mem 80 (by decide +kernel) rfl
theorem q81 : Cond.classLink "PumpTalkLaw" 7 "PumpTalk" ∈ TB := tb_mem 81 (by decide +kernel) rfl
theorem q82 : Cond.instantiable "PumpTalk" 8 ∈ TB := tb_mem 82 (by decide +kernel) rfl
theorem q83 : Cond.methodLink "PumpTalkLaw" 9 yX5_init ∈ TB := tb_mem 83 (by decide +kernel) rfl
theorem q84 : Cond.instanceMethod yX5_init ∈ TB := tb_mem 84 (by decide +kernel) rfl
theorem q85 : Cond.code yX5_init cX5_init 2 (none : Option Jvm.ClassFile.FieldType) ∈ TB := tb_mem 85 (by decide +kernel) rfl
theorem q86 : Cond.methodLink "PumpTalk" 3 ⟨"java/lang/Object", "<init>", "()V"⟩ ∈ TB := tb_mem 86 (by decide +kernel) rfl
theorem q87 : Cond.instanceMethod ⟨"java/lang/Object", "<init>", "()V"⟩ ∈ TB := tb_mem 87 (by decide +kernel) rfl
theorem q88 : Cond.code ⟨"java/lang/Object", "<init>", "()V"⟩ object_method_1_code 1 (none : Option Jvm.ClassFile.FieldType) ∈ TB := tb_mem 88 (by decide +kernel) rfl
theorem q89 : Cond.classLink "PumpTalk" 9 "PumpTalk$Square" ∈ TB := tb_mem 89 (by decide +kernel) rfl
theorem q90 : Cond.instantiable "PumpTalk$Square" 11 ∈ TB := tb_mem 90 (by decide +kernel) rfl
theorem q91 : Cond.methodLink "PumpTalk" 11 yX4_init ∈ TB := tb_mem 91 (by decide +kernel) rfl
theorem q92 : Cond.instanceMethod yX4_init ∈ TB := tb_mem 92 (by decide +kernel) rfl
theorem q93 : Cond.code yX4_init cX4_init 2 (none : Option Jvm.ClassFile.FieldType) ∈ TB := tb_mem 93 (by decide +kernel) rfl
theorem q94 : Cond.methodLink "PumpTalk$Square" 3 ⟨"java/lang/Object", "<init>", "()V"⟩ ∈ TB := tb_mem 94 (by decide +kernel) rfl
theorem q95 : Cond.fieldLink "PumpTalk$Square" 9 "PumpTalk$Square" "kindOf" "[I" ∈ TB := tb_mem 95 (by decide +kernel) rfl
theorem q96 : Cond.fieldLink "PumpTalk$Square" 15 "PumpTalk$Square" "voiceOf" "[I" ∈ TB := tb_mem 96 (by decide +kernel) rfl
theorem q97 : Cond.fieldLink "PumpTalk$Square" 18 "PumpTalk$Square" "views" "[I" ∈ TB := tb_mem 97 (by decide +kernel) rfl
theorem q98 : Cond.fieldLink "PumpTalk$Square" 21 "PumpTalk$Square" "spots" "[I" ∈ TB := tb_mem 98 (by decide +kernel) rfl
theorem q99 : Cond.fieldLink "PumpTalk" 223 "PumpTalk$Square" "spots" "[I" ∈ TB := tb_mem 99 (by decide +kernel) rfl
theorem q100 : Cond.fieldLink "PumpTalk$Square" 24 "PumpTalk$Square" "people" "I" ∈ TB := tb_mem 100 (by decide +kernel) rfl
theorem q101 : Cond.fieldLink "PumpTalk$Reader" 93 "PumpTalk$Square" "people" "I" ∈ TB := tb_mem 101 (by decide +kernel) rfl
theorem q102 : Cond.fieldLink "PumpTalk" 169 "PumpTalk$Square" "people" "I" ∈ TB := tb_mem 102 (by decide +kernel) rfl
theorem q103 : Cond.fieldLink "PumpTalk$Square" 28 "PumpTalk$Square" "minute" "I" ∈ TB := tb_mem 103 (by decide +kernel) rfl
theorem q104 : Cond.fieldLink "PumpTalk" 126 "PumpTalk$Square" "minute" "I" ∈ TB := tb_mem 104 (by decide +kernel) rfl
theorem q105 : Cond.fieldLink "PumpTalk$Square" 31 "PumpTalk$Square" "water" "I" ∈ TB := tb_mem 105 (by decide +kernel) rfl
theorem q106 : Cond.fieldLink "PumpTalk" 135 "PumpTalk$Square" "water" "I" ∈ TB := tb_mem 106 (by decide +kernel) rfl
theorem q107 : Cond.fieldLink "PumpTalk$Square" 34 "PumpTalk$Square" "topic" "I" ∈ TB := tb_mem 107 (by decide +kernel) rfl
theorem q108 : Cond.fieldLink "PumpTalk$Reader" 100 "PumpTalk$Square" "topic" "I" ∈ TB := tb_mem 108 (by decide +kernel) rfl
theorem q109 : Cond.fieldLink "PumpTalk" 122 "PumpTalk$Square" "topic" "I" ∈ TB := tb_mem 109 (by decide +kernel) rfl
theorem q110 : Cond.fieldLink "PumpTalk$Square" 37 "PumpTalk$Square" "first" "I" ∈ TB := tb_mem 110 (by decide +kernel) rfl
theorem q111 : Cond.fieldLink "PumpTalk" 138 "PumpTalk$Square" "first" "I" ∈ TB := tb_mem 111 (by decide +kernel) rfl
theorem q112 : Cond.fieldLink "PumpTalk$Square" 40 "PumpTalk$Square" "second" "I" ∈ TB := tb_mem 112 (by decide +kernel) rfl
theorem q113 : Cond.fieldLink "PumpTalk" 141 "PumpTalk$Square" "second" "I" ∈ TB := tb_mem 113 (by decide +kernel) rfl
theorem q114 : Cond.fieldLink "PumpTalk$Square" 43 "PumpTalk$Square" "z" "I" ∈ TB := tb_mem 114 (by decide +kernel) rfl
theorem q115 : Cond.fieldLink "PumpTalk" 210 "PumpTalk$Square" "z" "I" ∈ TB := tb_mem 115 (by decide +kernel) rfl
theorem q116 : Cond.laysFinal "PumpTalk$Square" "PumpTalk$Square" "kindOf" "[I" ∈ TB := tb_mem 116 (by decide +kernel) rfl
theorem q117 : Cond.soleField "PumpTalk$Square" "kindOf" ∈ TB := tb_mem 117 (by decide +kernel) rfl
theorem q118 : Cond.laysFinal "PumpTalk$Square" "PumpTalk$Square" "voiceOf" "[I" ∈ TB := tb_mem 118 (by decide +kernel) rfl
theorem q119 : Cond.soleField "PumpTalk$Square" "voiceOf" ∈ TB := tb_mem 119 (by decide +kernel) rfl
theorem q120 : Cond.laysFinal "PumpTalk$Square" "PumpTalk$Square" "views" "[I" ∈ TB := tb_mem 120 (by decide +kernel) rfl
theorem q121 : Cond.soleField "PumpTalk$Square" "views" ∈ TB := tb_mem 121 (by decide +kernel) rfl
theorem q122 : Cond.laysFinal "PumpTalk$Square" "PumpTalk$Square" "spots" "[I" ∈ TB := tb_mem 122 (by decide +kernel) rfl
theorem q123 : Cond.soleField "PumpTalk$Square" "spots" ∈ TB := tb_mem 123 (by decide +kernel) rfl
theorem q124 : Cond.lays "PumpTalk$Square" "PumpTalk$Square" "people" "I" ∈ TB := tb_mem 124 (by decide +kernel) rfl
theorem q125 : Cond.soleField "PumpTalk$Square" "people" ∈ TB := tb_mem 125 (by decide +kernel) rfl
theorem q126 : Cond.lays "PumpTalk$Square" "PumpTalk$Square" "minute" "I" ∈ TB := tb_mem 126 (by decide +kernel) rfl
theorem q127 : Cond.soleField "PumpTalk$Square" "minute" ∈ TB := tb_mem 127 (by decide +kernel) rfl
theorem q128 : Cond.lays "PumpTalk$Square" "PumpTalk$Square" "water" "I" ∈ TB := tb_mem 128 (by decide +kernel) rfl
theorem q129 : Cond.soleField "PumpTalk$Square" "water" ∈ TB := tb_mem 129 (by decide +kernel) rfl
theorem q130 : Cond.lays "PumpTalk$Square" "PumpTalk$Square" "topic" "I" ∈ TB := tb_mem 130 (by decide +kernel) rfl
theorem q131 : Cond.soleField "PumpTalk$Square" "topic" ∈ TB := tb_mem 131 (by decide +kernel) rfl
theorem q132 : Cond.lays "PumpTalk$Square" "PumpTalk$Square" "first" "I" ∈ TB := tb_mem 132 (by decide +kernel) rfl
theorem q133 : Cond.soleField "PumpTalk$Square" "first" ∈ TB := tb_mem 133 (by decide +kernel) rfl
theorem q134 : Cond.lays "PumpTalk$Square" "PumpTalk$Square" "second" "I" ∈ TB := tb_mem 134 (by decide +kernel) rfl
theorem q135 : Cond.soleField "PumpTalk$Square" "second" ∈ TB := tb_mem 135 (by decide +kernel) rfl
theorem q136 : Cond.lays "PumpTalk$Square" "PumpTalk$Square" "z" "I" ∈ TB := tb_mem 136 (by decide +kernel) rfl
theorem q137 : Cond.soleField "PumpTalk$Square" "z" ∈ TB := tb_mem 137 (by decide +kernel) rfl
theorem q139 : Cond.arrayClass .int ∈ TB := tb_mem 139 (by decide +kernel) rfl
theorem q140 : Cond.classLink "PumpTalk" 26 "PumpTalk$Reader" ∈ TB := tb_mem 140 (by decide +kernel) rfl
theorem q141 : Cond.instantiable "PumpTalk$Reader" 6 ∈ TB := tb_mem 141 (by decide +kernel) rfl
theorem q142 : Cond.methodLinkNest "PumpTalk" 28 yX2_init "PumpTalk" ∈ TB := tb_mem 142 (by decide +kernel) rfl
theorem q143 : Cond.instanceMethod yX2_init ∈ TB := tb_mem 143 (by decide +kernel) rfl
theorem q144 : Cond.code yX2_init cX2_init 1 (none : Option Jvm.ClassFile.FieldType) ∈ TB := tb_mem 144 (by decide +kernel) rfl
theorem q145 : Cond.methodLink "PumpTalk$Reader" 3 ⟨"java/lang/Object", "<init>", "()V"⟩ ∈ TB := tb_mem 145 (by decide +kernel) rfl
theorem q146 : Cond.fieldLink "PumpTalk$Reader" 9 "PumpTalk$Reader" "bytes" "[I" ∈ TB := tb_mem 146 (by decide +kernel) rfl
theorem q147 : Cond.fieldLink "PumpTalk$Reader" 15 "PumpTalk$Reader" "length" "I" ∈ TB := tb_mem 147 (by decide +kernel) rfl
theorem q148 : Cond.fieldLink "PumpTalk" 213 "PumpTalk$Reader" "length" "I" ∈ TB := tb_mem 148 (by decide +kernel) rfl
theorem q149 : Cond.fieldLink "PumpTalk$Reader" 19 "PumpTalk$Reader" "sort" "I" ∈ TB := tb_mem 149 (by decide +kernel) rfl
theorem q150 : Cond.fieldLink "PumpTalk$Reader" 22 "PumpTalk$Reader" "start" "I" ∈ TB := tb_mem 150 (by decide +kernel) rfl
theorem q151 : Cond.fieldLink "PumpTalk$Reader" 25 "PumpTalk$Reader" "behind" "I" ∈ TB := tb_mem 151 (by decide +kernel) rfl
theorem q152 : Cond.fieldLink "PumpTalk$Reader" 28 "PumpTalk$Reader" "number" "I" ∈ TB := tb_mem 152 (by decide +kernel) rfl
theorem q153 : Cond.laysFinal "PumpTalk$Reader" "PumpTalk$Reader" "bytes" "[I" ∈ TB := tb_mem 153 (by decide +kernel) rfl
theorem q154 : Cond.soleField "PumpTalk$Reader" "bytes" ∈ TB := tb_mem 154 (by decide +kernel) rfl
theorem q155 : Cond.lays "PumpTalk$Reader" "PumpTalk$Reader" "length" "I" ∈ TB := tb_mem 155 (by decide +kernel) rfl
theorem q156 : Cond.soleField "PumpTalk$Reader" "length" ∈ TB := tb_mem 156 (by decide +kernel) rfl
theorem q157 : Cond.lays "PumpTalk$Reader" "PumpTalk$Reader" "sort" "I" ∈ TB := tb_mem 157 (by decide +kernel) rfl
theorem q158 : Cond.soleField "PumpTalk$Reader" "sort" ∈ TB := tb_mem 158 (by decide +kernel) rfl
theorem q159 : Cond.lays "PumpTalk$Reader" "PumpTalk$Reader" "start" "I" ∈ TB := tb_mem 159 (by decide +kernel) rfl
theorem q160 : Cond.soleField "PumpTalk$Reader" "start" ∈ TB := tb_mem 160 (by decide +kernel) rfl
theorem q161 : Cond.lays "PumpTalk$Reader" "PumpTalk$Reader" "behind" "I" ∈ TB := tb_mem 161 (by decide +kernel) rfl
theorem q162 : Cond.soleField "PumpTalk$Reader" "behind" ∈ TB := tb_mem 162 (by decide +kernel) rfl
theorem q163 : Cond.lays "PumpTalk$Reader" "PumpTalk$Reader" "number" "I" ∈ TB := tb_mem 163 (by decide +kernel) rfl
theorem q164 : Cond.soleField "PumpTalk$Reader" "number" ∈ TB := tb_mem 164 (by decide +kernel) rfl
theorem q166 : Cond.classLink "PumpTalk" 33 "PumpTalk$Matching" ∈ TB := tb_mem 166 (by decide +kernel) rfl
theorem q167 : Cond.instantiable "PumpTalk$Matching" 2 ∈ TB := tb_mem 167 (by decide +kernel) rfl
theorem q168 : Cond.methodLinkNest "PumpTalk" 35 yX1_init "PumpTalk" ∈ TB := tb_mem 168 (by decide +kernel) rfl
theorem q169 : Cond.instanceMethod yX1_init ∈ TB := tb_mem 169 (by decide +kernel) rfl
theorem q170 : Cond.code yX1_init cX1_init 1 (none : Option Jvm.ClassFile.FieldType) ∈ TB := tb_mem 170 (by decide +kernel) rfl
theorem q171 : Cond.methodLink "PumpTalk$Matching" 3 ⟨"java/lang/Object", "<init>", "()V"⟩ ∈ TB := tb_mem 171 (by decide +kernel) rfl
theorem q172 : Cond.fieldLink "PumpTalk$Matching" 9 "PumpTalk$Matching" "gains" "[I" ∈ TB := tb_mem 172 (by decide +kernel) rfl
theorem q173 : Cond.fieldLink "PumpTalk$Matching" 15 "PumpTalk$Matching" "most" "[I" ∈ TB := tb_mem 173 (by decide +kernel) rfl
theorem q174 : Cond.laysFinal "PumpTalk$Matching" "PumpTalk$Matching" "gains" "[I" ∈ TB := tb_mem 174 (by decide +kernel) rfl
theorem q175 : Cond.soleField "PumpTalk$Matching" "gains" ∈ TB := tb_mem 175 (by decide +kernel) rfl
theorem q176 : Cond.laysFinal "PumpTalk$Matching" "PumpTalk$Matching" "most" "[I" ∈ TB := tb_mem 176 (by decide +kernel) rfl
theorem q177 : Cond.soleField "PumpTalk$Matching" "most" ∈ TB := tb_mem 177 (by decide +kernel) rfl
theorem q179 : Cond.classLink "PumpTalk" 40 "PumpTalk$Sheet" ∈ TB := tb_mem 179 (by decide +kernel) rfl
theorem q180 : Cond.arrayOver (.object "PumpTalk$Sheet") ∈ TB := tb_mem 180 (by decide +kernel) rfl
theorem q181 : Cond.instantiable "PumpTalk$Sheet" 3 ∈ TB := tb_mem 181 (by decide +kernel) rfl
theorem q182 : Cond.methodLinkNest "PumpTalk" 50 yX3_init "PumpTalk" ∈ TB := tb_mem 182 (by decide +kernel) rfl
theorem q183 : Cond.instanceMethod yX3_init ∈ TB := tb_mem 183 (by decide +kernel) rfl
theorem q184 : Cond.code yX3_init cX3_init 1 (none : Option Jvm.ClassFile.FieldType) ∈ TB := tb_mem 184 (by decide +kernel) rfl
theorem q185 : Cond.methodLink "PumpTalk$Sheet" 3 ⟨"java/lang/Object", "<init>", "()V"⟩ ∈ TB := tb_mem 185 (by decide +kernel) rfl
theorem q186 : Cond.fieldLink "PumpTalk$Sheet" 9 "PumpTalk$Sheet" "numbers" "[I" ∈ TB := tb_mem 186 (by decide +kernel) rfl
theorem q187 : Cond.fieldLink "PumpTalk" 258 "PumpTalk$Sheet" "numbers" "[I" ∈ TB := tb_mem 187 (by decide +kernel) rfl
theorem q188 : Cond.fieldLink "PumpTalk$Sheet" 15 "PumpTalk$Sheet" "bits" "I" ∈ TB := tb_mem 188 (by decide +kernel) rfl
theorem q189 : Cond.fieldLink "PumpTalk" 252 "PumpTalk$Sheet" "bits" "I" ∈ TB := tb_mem 189 (by decide +kernel) rfl
theorem q190 : Cond.fieldLink "PumpTalk$Sheet" 19 "PumpTalk$Sheet" "size" "I" ∈ TB := tb_mem 190 (by decide +kernel) rfl
theorem q191 : Cond.fieldLink "PumpTalk" 243 "PumpTalk$Sheet" "size" "I" ∈ TB := tb_mem 191 (by decide +kernel) rfl
theorem q192 : Cond.laysFinal "PumpTalk$Sheet" "PumpTalk$Sheet" "numbers" "[I" ∈ TB := tb_mem 192 (by decide +kernel) rfl
theorem q193 : Cond.soleField "PumpTalk$Sheet" "numbers" ∈ TB := tb_mem 193 (by decide +kernel) rfl
theorem q194 : Cond.lays "PumpTalk$Sheet" "PumpTalk$Sheet" "bits" "I" ∈ TB := tb_mem 194 (by decide +kernel) rfl
theorem q195 : Cond.soleField "PumpTalk$Sheet" "bits" ∈ TB := tb_mem 195 (by decide +kernel) rfl
theorem q196 : Cond.lays "PumpTalk$Sheet" "PumpTalk$Sheet" "size" "I" ∈ TB := tb_mem 196 (by decide +kernel) rfl
theorem q197 : Cond.soleField "PumpTalk$Sheet" "size" ∈ TB := tb_mem 197 (by decide +kernel) rfl
theorem q199 : Cond.fieldLink "PumpTalk" 12 "PumpTalk" "square" "LPumpTalk$Square;" ∈ TB := tb_mem 199 (by decide +kernel) rfl
theorem q200 : Cond.fieldLink "PumpTalk" 16 "PumpTalk" "trial" "LPumpTalk$Square;" ∈ TB := tb_mem 200 (by decide +kernel) rfl
theorem q201 : Cond.fieldLink "PumpTalk" 19 "PumpTalk" "kept" "LPumpTalk$Square;" ∈ TB := tb_mem 201 (by decide +kernel) rfl
theorem q202 : Cond.fieldLink "PumpTalk" 22 "PumpTalk" "isKept" "Z" ∈ TB := tb_mem 202 (by decide +kernel) rfl
theorem q203 : Cond.fieldLink "PumpTalk" 29 "PumpTalk" "reader" "LPumpTalk$Reader;" ∈ TB := tb_mem 203 (by decide +kernel) rfl
theorem q204 : Cond.fieldLink "PumpTalk" 36 "PumpTalk" "matching" "LPumpTalk$Matching;" ∈ TB := tb_mem 204 (by decide +kernel) rfl
theorem q205 : Cond.fieldLink "PumpTalk" 42 "PumpTalk" "sheets" "[LPumpTalk$Sheet;" ∈ TB := tb_mem 205 (by decide +kernel) rfl
theorem q206 : Cond.fieldLink "PumpTalk" 46 "PumpTalk" "tally" "[I" ∈ TB := tb_mem 206 (by decide +kernel) rfl
theorem q207 : Cond.laysFinal "PumpTalk" "PumpTalk" "square" "LPumpTalk$Square;" ∈ TB := tb_mem 207 (by decide +kernel) rfl
theorem q208 : Cond.soleField "PumpTalk" "square" ∈ TB := tb_mem 208 (by decide +kernel) rfl
theorem q209 : Cond.laysFinal "PumpTalk" "PumpTalk" "trial" "LPumpTalk$Square;" ∈ TB := tb_mem 209 (by decide +kernel) rfl
theorem q210 : Cond.soleField "PumpTalk" "trial" ∈ TB := tb_mem 210 (by decide +kernel) rfl
theorem q211 : Cond.laysFinal "PumpTalk" "PumpTalk" "kept" "LPumpTalk$Square;" ∈ TB := tb_mem 211 (by decide +kernel) rfl
theorem q212 : Cond.soleField "PumpTalk" "kept" ∈ TB := tb_mem 212 (by decide +kernel) rfl
theorem q213 : Cond.lays "PumpTalk" "PumpTalk" "isKept" "Z" ∈ TB := tb_mem 213 (by decide +kernel) rfl
theorem q214 : Cond.soleField "PumpTalk" "isKept" ∈ TB := tb_mem 214 (by decide +kernel) rfl
theorem q215 : Cond.laysFinal "PumpTalk" "PumpTalk" "reader" "LPumpTalk$Reader;" ∈ TB := tb_mem 215 (by decide +kernel) rfl
theorem q216 : Cond.soleField "PumpTalk" "reader" ∈ TB := tb_mem 216 (by decide +kernel) rfl
theorem q217 : Cond.laysFinal "PumpTalk" "PumpTalk" "matching" "LPumpTalk$Matching;" ∈ TB := tb_mem 217 (by decide +kernel) rfl
theorem q218 : Cond.soleField "PumpTalk" "matching" ∈ TB := tb_mem 218 (by decide +kernel) rfl
theorem q219 : Cond.laysFinal "PumpTalk" "PumpTalk" "sheets" "[LPumpTalk$Sheet;" ∈ TB := tb_mem 219 (by decide +kernel) rfl
theorem q220 : Cond.soleField "PumpTalk" "sheets" ∈ TB := tb_mem 220 (by decide +kernel) rfl
theorem q221 : Cond.laysFinal "PumpTalk" "PumpTalk" "tally" "[I" ∈ TB := tb_mem 221 (by decide +kernel) rfl
theorem q222 : Cond.soleField "PumpTalk" "tally" ∈ TB := tb_mem 222 (by decide +kernel) rfl
theorem q224 : Cond.methodLink "PumpTalkLaw" 13 yX5_person ∈ TB := tb_mem 224 (by decide +kernel) rfl
theorem q225 : Cond.instanceMethod yX5_person ∈ TB := tb_mem 225 (by decide +kernel) rfl
theorem q226 : Cond.selects "PumpTalk" yX5_person yX5_person ∈ TB := tb_mem 226 (by decide +kernel) rfl
theorem q227 : Cond.code yX5_person cX5_person 2 (some .int) ∈ TB := tb_mem 227 (by decide +kernel) rfl
theorem q228 : Cond.methodLink "PumpTalk" 51 yX5_isOutside ∈ TB := tb_mem 228 (by decide +kernel) rfl
theorem q229 : Cond.static yX5_isOutside ∈ TB := tb_mem 229 (by decide +kernel) rfl
theorem q230 : Cond.code yX5_isOutside cX5_isOutside 3 (some .boolean) ∈ TB := tb_mem 230 (by decide +kernel) rfl
theorem q231 : Cond.constant "PumpTalk" 55 (-1000001) ∈ TB := tb_mem 231 (by decide +kernel) rfl
theorem q232 : Cond.methodLink "PumpTalk" 56 yX5_found ∈ TB := tb_mem 232 (by decide +kernel) rfl
theorem q234 : Cond.instanceMethod yX5_found ∈ TB := tb_mem 234 (by decide +kernel) rfl
theorem q235 : Cond.code yX5_found cX5_found 3 (some .int) ∈ TB := tb_mem 235 (by decide +kernel) rfl
theorem q236 : Cond.methodLink "PumpTalk" 60 yX4_isCrowded ∈ TB := tb_mem 236 (by decide +kernel) rfl
theorem q237 : Cond.instanceMethod yX4_isCrowded ∈ TB := tb_mem 237 (by decide +kernel) rfl
theorem q238 : Cond.selects "PumpTalk$Square" yX4_isCrowded yX4_isCrowded ∈ TB := tb_mem 238 (by decide +kernel) rfl
theorem q239 : Cond.code yX4_isCrowded cX4_isCrowded 1 (some .boolean) ∈ TB := tb_mem 239 (by decide +kernel) rfl
theorem q240 : Cond.constant "PumpTalk" 64 (-1000002) ∈ TB := tb_mem 240 (by decide +kernel) rfl
theorem q241 : Cond.methodLink "PumpTalk" 65 yX4_addPerson ∈ TB := tb_mem 241 (by decide +kernel) rfl
theorem q242 : Cond.instanceMethod yX4_addPerson ∈ TB := tb_mem 242 (by decide +kernel) rfl
theorem q243 : Cond.selects "PumpTalk$Square" yX4_addPerson yX4_addPerson ∈ TB := tb_mem 243 (by decide +kernel) rfl
theorem q244 : Cond.code yX4_addPerson cX4_addPerson 4 (some .int) ∈ TB := tb_mem 244 (by decide +kernel) rfl
theorem q245 : Cond.methodLink "PumpTalk$Square" 52 yX4_setView ∈ TB := tb_mem 245 (by decide +kernel) rfl
theorem q246 : Cond.instanceMethod yX4_setView ∈ TB := tb_mem 246 (by decide +kernel) rfl
theorem q247 : Cond.selects "PumpTalk$Square" yX4_setView yX4_setView ∈ TB := tb_mem 247 (by decide +kernel) rfl
theorem q248 : Cond.code yX4_setView cX4_setView 4 (none : Option Jvm.ClassFile.FieldType) ∈ TB := tb_mem 248 (by decide +kernel) rfl
theorem q249 : Cond.methodLink "PumpTalkLaw" 18 yX5_of ∈ TB := tb_mem 249 (by decide +kernel) rfl
theorem q250 : Cond.instanceMethod yX5_of ∈ TB := tb_mem 250 (by decide +kernel) rfl
theorem q251 : Cond.selects "PumpTalk" yX5_of yX5_of ∈ TB := tb_mem 251 (by decide +kernel) rfl
theorem q252 : Cond.code yX5_of cX5_of 3 (some .int) ∈ TB := tb_mem 252 (by decide +kernel) rfl
theorem q253 : Cond.methodLink "PumpTalk" 68 yX4_isThere ∈ TB := tb_mem 253 (by decide +kernel) rfl
theorem q254 : Cond.instanceMethod yX4_isThere ∈ TB := tb_mem 254 (by decide +kernel) rfl
theorem q255 : Cond.selects "PumpTalk$Square" yX4_isThere yX4_isThere ∈ TB := tb_mem 255 (by decide +kernel) rfl
theorem q256 : Cond.code yX4_isThere cX4_isThere 2 (some .boolean) ∈ TB := tb_mem 256 (by decide +kernel) rfl
theorem q257 : Cond.methodLink "PumpTalk" 72 yX4_isAtHandle ∈ TB := tb_mem 257 (by decide +kernel) rfl
theorem q258 : Cond.instanceMethod yX4_isAtHandle ∈ TB := tb_mem 258 (by decide +kernel) rfl
theorem q259 : Cond.selects "PumpTalk$Square" yX4_isAtHandle yX4_isAtHandle ∈ TB := tb_mem 259 (by decide +kernel) rfl
theorem q260 : Cond.code yX4_isAtHandle cX4_isAtHandle 2 (some .boolean) ∈ TB := tb_mem 260 (by decide +kernel) rfl
theorem q261 : Cond.methodLink "PumpTalk" 75 yX4_trait ∈ TB := tb_mem 261 (by decide +kernel) rfl
theorem q262 : Cond.instanceMethod yX4_trait ∈ TB := tb_mem 262 (by decide +kernel) rfl
theorem q263 : Cond.selects "PumpTalk$Square" yX4_trait yX4_trait ∈ TB := tb_mem 263 (by decide +kernel) rfl
theorem q264 : Cond.code yX4_trait cX4_trait 3 (some .int) ∈ TB := tb_mem 264 (by decide +kernel) rfl
theorem q265 : Cond.methodLink "PumpTalk$Square" 56 yX4_viewOn ∈ TB := tb_mem 265 (by decide +kernel) rfl
theorem q266 : Cond.instanceMethod yX4_viewOn ∈ TB := tb_mem 266 (by decide +kernel) rfl
theorem q267 : Cond.selects "PumpTalk$Square" yX4_viewOn yX4_viewOn ∈ TB := tb_mem 267 (by decide +kernel) rfl
theorem q268 : Cond.code yX4_viewOn cX4_viewOn 3 (some .int) ∈ TB := tb_mem 268 (by decide +kernel) rfl
theorem q269 : Cond.methodLink "PumpTalkLaw" 23 yX5_change ∈ TB := tb_mem 269 (by decide +kernel) rfl
theorem q270 : Cond.instanceMethod yX5_change ∈ TB := tb_mem 270 (by decide +kernel) rfl
theorem q271 : Cond.selects "PumpTalk" yX5_change yX5_change ∈ TB := tb_mem 271 (by decide +kernel) rfl
theorem q272 : Cond.code yX5_change cX5_change 5 (some .int) ∈ TB := tb_mem 272 (by decide +kernel) rfl
theorem q273 : Cond.methodLink "PumpTalk" 79 yX5_isWrongTrait ∈ TB := tb_mem 273 (by decide +kernel) rfl
theorem q274 : Cond.static yX5_isWrongTrait ∈ TB := tb_mem 274 (by decide +kernel) rfl
theorem q275 : Cond.code yX5_isWrongTrait cX5_isWrongTrait 2 (some .boolean) ∈ TB := tb_mem 275 (by decide +kernel) rfl
theorem q276 : Cond.methodLink "PumpTalk" 273 yX5_leastTrait ∈ TB := tb_mem 276 (by decide +kernel) rfl
theorem q277 : Cond.static yX5_leastTrait ∈ TB := tb_mem 277 (by decide +kernel) rfl
theorem q278 : Cond.code yX5_leastTrait cX5_leastTrait 1 (some .int) ∈ TB := tb_mem 278 (by decide +kernel) rfl
theorem q279 : Cond.methodLink "PumpTalk" 276 yX5_mostTrait ∈ TB := tb_mem 279 (by decide +kernel) rfl
theorem q280 : Cond.static yX5_mostTrait ∈ TB := tb_mem 280 (by decide +kernel) rfl
theorem q281 : Cond.code yX5_mostTrait cX5_mostTrait 1 (some .int) ∈ TB := tb_mem 281 (by decide +kernel) rfl
theorem q282 : Cond.methodLink "PumpTalk" 83 yX4_setTrait ∈ TB := tb_mem 282 (by decide +kernel) rfl
theorem q283 : Cond.instanceMethod yX4_setTrait ∈ TB := tb_mem 283 (by decide +kernel) rfl
theorem q284 : Cond.selects "PumpTalk$Square" yX4_setTrait yX4_setTrait ∈ TB := tb_mem 284 (by decide +kernel) rfl
theorem q285 : Cond.code yX4_setTrait cX4_setTrait 4 (none : Option Jvm.ClassFile.FieldType) ∈ TB := tb_mem 285 (by decide +kernel) rfl
theorem q286 : Cond.methodLink "PumpTalkLaw" 28 yX5_reply ∈ TB := tb_mem 286 (by decide +kernel) rfl
theorem q287 : Cond.instanceMethod yX5_reply ∈ TB := tb_mem 287 (by decide +kernel) rfl
theorem q288 : Cond.selects "PumpTalk" yX5_reply yX5_reply ∈ TB := tb_mem 288 (by decide +kernel) rfl
theorem q289 : Cond.code yX5_reply cX5_reply 4 (some .int) ∈ TB := tb_mem 289 (by decide +kernel) rfl
theorem q290 : Cond.methodLink "PumpTalk" 87 yX4_movesOf ∈ TB := tb_mem 290 (by decide +kernel) rfl
theorem q291 : Cond.instanceMethod yX4_movesOf ∈ TB := tb_mem 291 (by decide +kernel) rfl
theorem q292 : Cond.selects "PumpTalk$Square" yX4_movesOf yX4_movesOf ∈ TB := tb_mem 292 (by decide +kernel) rfl
theorem q293 : Cond.code yX4_movesOf cX4_movesOf 3 (some .int) ∈ TB := tb_mem 293 (by decide +kernel) rfl
theorem q294 : Cond.methodLink "PumpTalk$Square" 66 yX0_moves ∈ TB := tb_mem 294 (by decide +kernel) rfl
theorem q295 : Cond.static yX0_moves ∈ TB := tb_mem 295 (by decide +kernel) rfl
theorem q296 : Cond.code yX0_moves cX0_moves 4 (some .int) ∈ TB := tb_mem 296 (by decide +kernel) rfl
theorem q297 : Cond.methodLink "PumpTalk" 90 yX4_strokesOf ∈ TB := tb_mem 297 (by decide +kernel) rfl
theorem q298 : Cond.instanceMethod yX4_strokesOf ∈ TB := tb_mem 298 (by decide +kernel) rfl
theorem q299 : Cond.selects "PumpTalk$Square" yX4_strokesOf yX4_strokesOf ∈ TB := tb_mem 299 (by decide +kernel) rfl
theorem q300 : Cond.code yX4_strokesOf cX4_strokesOf 3 (some .int) ∈ TB := tb_mem 300 (by decide +kernel) rfl
theorem q301 : Cond.methodLink "PumpTalk$Square" 72 yX0_strokes ∈ TB := tb_mem 301 (by decide +kernel) rfl
theorem q302 : Cond.static yX0_strokes ∈ TB := tb_mem 302 (by decide +kernel) rfl
theorem q303 : Cond.code yX0_strokes cX0_strokes 6 (some .int) ∈ TB := tb_mem 303 (by decide +kernel) rfl
theorem q304 : Cond.methodLink "PumpTalkLaw" 32 yX5_apart ∈ TB := tb_mem 304 (by decide +kernel) rfl
theorem q305 : Cond.instanceMethod yX5_apart ∈ TB := tb_mem 305 (by decide +kernel) rfl
theorem q306 : Cond.selects "PumpTalk" yX5_apart yX5_apart ∈ TB := tb_mem 306 (by decide +kernel) rfl
theorem q307 : Cond.code yX5_apart cX5_apart 4 (some .int) ∈ TB := tb_mem 307 (by decide +kernel) rfl
theorem q308 : Cond.methodLink "PumpTalk" 93 yX5_isNoSubject ∈ TB := tb_mem 308 (by decide +kernel) rfl
theorem q309 : Cond.static yX5_isNoSubject ∈ TB := tb_mem 309 (by decide +kernel) rfl
theorem q310 : Cond.code yX5_isNoSubject cX5_isNoSubject 1 (some .boolean) ∈ TB := tb_mem 310 (by decide +kernel) rfl
theorem q311 : Cond.methodLink "PumpTalk" 96 yX4_distance ∈ TB := tb_mem 311 (by decide +kernel) rfl
theorem q312 : Cond.instanceMethod yX4_distance ∈ TB := tb_mem 312 (by decide +kernel) rfl
theorem q313 : Cond.selects "PumpTalk$Square" yX4_distance yX4_distance ∈ TB := tb_mem 313 (by decide +kernel) rfl
theorem q314 : Cond.code yX4_distance cX4_distance 4 (some .int) ∈ TB := tb_mem 314 (by decide +kernel) rfl
theorem q315 : Cond.methodLink "PumpTalk$Square" 60 yJ9_abs_0f7a4 ∈ TB := tb_mem 315 (by decide +kernel) rfl
theorem q316 : Cond.static yJ9_abs_0f7a4 ∈ TB := tb_mem 316 (by decide +kernel) rfl
theorem q317 : Cond.code yJ9_abs_0f7a4 cJ9_abs_0f7a4 1 (some .int) ∈ TB := tb_mem 317 (by decide +kernel) rfl
theorem q318 : Cond.methodLink "PumpTalkLaw" 36 yX5_pair ∈ TB := tb_mem 318 (by decide +kernel) rfl
theorem q319 : Cond.instanceMethod yX5_pair ∈ TB := tb_mem 319 (by decide +kernel) rfl
theorem q320 : Cond.selects "PumpTalk" yX5_pair yX5_pair ∈ TB := tb_mem 320 (by decide +kernel) rfl
theorem q321 : Cond.code yX5_pair cX5_pair 3 (some .int) ∈ TB := tb_mem 321 (by decide +kernel) rfl
theorem q322 : Cond.methodLink "PumpTalk" 100 yX5_isNoPair ∈ TB := tb_mem 322 (by decide +kernel) rfl
theorem q324 : Cond.instanceMethod yX5_isNoPair ∈ TB := tb_mem 324 (by decide +kernel) rfl
theorem q325 : Cond.code yX5_isNoPair cX5_isNoPair 3 (some .boolean) ∈ TB := tb_mem 325 (by decide +kernel) rfl
theorem q326 : Cond.methodLink "PumpTalk" 103 yX4_seat ∈ TB := tb_mem 326 (by decide +kernel) rfl
theorem q327 : Cond.instanceMethod yX4_seat ∈ TB := tb_mem 327 (by decide +kernel) rfl
theorem q328 : Cond.selects "PumpTalk$Square" yX4_seat yX4_seat ∈ TB := tb_mem 328 (by decide +kernel) rfl
theorem q329 : Cond.code yX4_seat cX4_seat 3 (none : Option Jvm.ClassFile.FieldType) ∈ TB := tb_mem 329 (by decide +kernel) rfl
theorem q330 : Cond.methodLink "PumpTalk" 107 yX4_quarrelSet ∈ TB := tb_mem 330 (by decide +kernel) rfl
theorem q331 : Cond.instanceMethod yX4_quarrelSet ∈ TB := tb_mem 331 (by decide +kernel) rfl
theorem q332 : Cond.selects "PumpTalk$Square" yX4_quarrelSet yX4_quarrelSet ∈ TB := tb_mem 332 (by decide +kernel) rfl
theorem q333 : Cond.code yX4_quarrelSet cX4_quarrelSet 3 (some .int) ∈ TB := tb_mem 333 (by decide +kernel) rfl
theorem q334 : Cond.methodLink "PumpTalk$Square" 80 yX4_isManned ∈ TB := tb_mem 334 (by decide +kernel) rfl
theorem q335 : Cond.instanceMethod yX4_isManned ∈ TB := tb_mem 335 (by decide +kernel) rfl
theorem q336 : Cond.selects "PumpTalk$Square" yX4_isManned yX4_isManned ∈ TB := tb_mem 336 (by decide +kernel) rfl
theorem q337 : Cond.code yX4_isManned cX4_isManned 1 (some .boolean) ∈ TB := tb_mem 337 (by decide +kernel) rfl
theorem q338 : Cond.methodLink "PumpTalk$Square" 76 yX4_isThere ∈ TB := tb_mem 338 (by decide +kernel) rfl
theorem q339 : Cond.methodLink "PumpTalk$Square" 84 yX4_distance ∈ TB := tb_mem 339 (by decide +kernel) rfl
theorem q340 : Cond.methodLink "PumpTalk" 111 yJ6_bitCount_0f7a4 ∈ TB := tb_mem 340 (by decide +kernel) rfl
theorem q341 : Cond.static yJ6_bitCount_0f7a4 ∈ TB := tb_mem 341 (by decide +kernel) rfl
theorem q342 : Cond.code yJ6_bitCount_0f7a4 cJ6_bitCount_0f7a4 1 (some .int) ∈ TB := tb_mem 342 (by decide +kernel) rfl
theorem q343 : Cond.constant "java/lang/Integer" 265 1431655765 ∈ TB := tb_mem 343 (by decide +kernel) rfl
theorem q344 : Cond.constant "java/lang/Integer" 266 858993459 ∈ TB := tb_mem 344 (by decide +kernel) rfl
theorem q345 : Cond.constant "java/lang/Integer" 267 252645135 ∈ TB := tb_mem 345 (by decide +kernel) rfl
theorem q346 : Cond.methodLink "PumpTalkLaw" 40 yX5_rest ∈ TB := tb_mem 346 (by decide +kernel) rfl
theorem q347 : Cond.instanceMethod yX5_rest ∈ TB := tb_mem 347 (by decide +kernel) rfl
theorem q348 : Cond.selects "PumpTalk" yX5_rest yX5_rest ∈ TB := tb_mem 348 (by decide +kernel) rfl
theorem q349 : Cond.code yX5_rest cX5_rest 2 (some .int) ∈ TB := tb_mem 349 (by decide +kernel) rfl
theorem q350 : Cond.methodLink "PumpTalk" 116 yX4_isManned ∈ TB := tb_mem 350 (by decide +kernel) rfl
theorem q351 : Cond.methodLink "PumpTalk" 119 yX4_leave ∈ TB := tb_mem 351 (by decide +kernel) rfl
theorem q352 : Cond.instanceMethod yX4_leave ∈ TB := tb_mem 352 (by decide +kernel) rfl
theorem q353 : Cond.selects "PumpTalk$Square" yX4_leave yX4_leave ∈ TB := tb_mem 353 (by decide +kernel) rfl
theorem q354 : Cond.code yX4_leave cX4_leave 1 (none : Option Jvm.ClassFile.FieldType) ∈ TB := tb_mem 354 (by decide +kernel) rfl
theorem q355 : Cond.methodLink "PumpTalkLaw" 45 yX5_subject ∈ TB := tb_mem 355 (by decide +kernel) rfl
theorem q356 : Cond.instanceMethod yX5_subject ∈ TB := tb_mem 356 (by decide +kernel) rfl
theorem q357 : Cond.selects "PumpTalk" yX5_subject yX5_subject ∈ TB := tb_mem 357 (by decide +kernel) rfl
theorem q358 : Cond.code yX5_subject cX5_subject 3 (some .int) ∈ TB := tb_mem 358 (by decide +kernel) rfl
theorem q359 : Cond.methodLink "PumpTalkLaw" 49 yX5_go ∈ TB := tb_mem 359 (by decide +kernel) rfl
theorem q360 : Cond.instanceMethod yX5_go ∈ TB := tb_mem 360 (by decide +kernel) rfl
theorem q361 : Cond.selects "PumpTalk" yX5_go yX5_go ∈ TB := tb_mem 361 (by decide +kernel) rfl
theorem q362 : Cond.code yX5_go cX5_go 2 (some .int) ∈ TB := tb_mem 362 (by decide +kernel) rfl
theorem q363 : Cond.constant "PumpTalk" 129 99999 ∈ TB := tb_mem 363 (by decide +kernel) rfl
theorem q364 : Cond.constant "PumpTalk" 130 (-1000005) ∈ TB := tb_mem 364 (by decide +kernel) rfl
theorem q365 : Cond.methodLink "PumpTalk" 131 yX4_passMinutes ∈ TB := tb_mem 365 (by decide +kernel) rfl
theorem q366 : Cond.instanceMethod yX4_passMinutes ∈ TB := tb_mem 366 (by decide +kernel) rfl
theorem q367 : Cond.selects "PumpTalk$Square" yX4_passMinutes yX4_passMinutes ∈ TB := tb_mem 367 (by decide +kernel) rfl
theorem q368 : Cond.code yX4_passMinutes cX4_passMinutes 3 (none : Option Jvm.ClassFile.FieldType) ∈ TB := tb_mem 368 (by decide +kernel) rfl
theorem q369 : Cond.methodLink "PumpTalk$Square" 97 yX4_passMinute ∈ TB := tb_mem 369 (by decide +kernel) rfl
theorem q370 : Cond.instanceMethod yX4_passMinute ∈ TB := tb_mem 370 (by decide +kernel) rfl
theorem q371 : Cond.selects "PumpTalk$Square" yX4_passMinute yX4_passMinute ∈ TB := tb_mem 371 (by decide +kernel) rfl
theorem q372 : Cond.code yX4_passMinute cX4_passMinute 2 (some .int) ∈ TB := tb_mem 372 (by decide +kernel) rfl
theorem q373 : Cond.methodLink "PumpTalk$Square" 88 yX4_exchange ∈ TB := tb_mem 373 (by decide +kernel) rfl
theorem q375 : Cond.instanceMethod yX4_exchange ∈ TB := tb_mem 375 (by decide +kernel) rfl
theorem q376 : Cond.code yX4_exchange cX4_exchange 7 (some .int) ∈ TB := tb_mem 376 (by decide +kernel) rfl
theorem q377 : Cond.methodLink "PumpTalk$Square" 104 yX4_heldView ∈ TB := tb_mem 377 (by decide +kernel) rfl
theorem q378 : Cond.static yX4_heldView ∈ TB := tb_mem 378 (by decide +kernel) rfl
theorem q379 : Cond.code yX4_heldView cX4_heldView 1 (some .int) ∈ TB := tb_mem 379 (by decide +kernel) rfl
theorem q380 : Cond.constant "PumpTalk$Square" 92 999999 ∈ TB := tb_mem 380 (by decide +kernel) rfl
theorem q381 : Cond.methodLink "PumpTalk$Square" 93 yJ9_min_7cf53 ∈ TB := tb_mem 381 (by decide +kernel) rfl
theorem q382 : Cond.static yJ9_min_7cf53 ∈ TB := tb_mem 382 (by decide +kernel) rfl
theorem q383 : Cond.code yJ9_min_7cf53 cJ9_min_7cf53 2 (some .int) ∈ TB := tb_mem 383 (by decide +kernel) rfl
theorem q384 : Cond.constant "PumpTalk$Square" 96 99999 ∈ TB := tb_mem 384 (by decide +kernel) rfl
theorem q385 : Cond.methodLink "PumpTalkLaw" 53 yX5_now ∈ TB := tb_mem 385 (by decide +kernel) rfl
theorem q386 : Cond.instanceMethod yX5_now ∈ TB := tb_mem 386 (by decide +kernel) rfl
theorem q387 : Cond.selects "PumpTalk" yX5_now yX5_now ∈ TB := tb_mem 387 (by decide +kernel) rfl
theorem q388 : Cond.code yX5_now cX5_now 2 (some .int) ∈ TB := tb_mem 388 (by decide +kernel) rfl
theorem q389 : Cond.methodLink "PumpTalk" 144 yX5_pairNumber ∈ TB := tb_mem 389 (by decide +kernel) rfl
theorem q390 : Cond.static yX5_pairNumber ∈ TB := tb_mem 390 (by decide +kernel) rfl
theorem q391 : Cond.code yX5_pairNumber cX5_pairNumber 2 (some .int) ∈ TB := tb_mem 391 (by decide +kernel) rfl
theorem q392 : Cond.methodLink "PumpTalk" 147 yX4_allVoices ∈ TB := tb_mem 392 (by decide +kernel) rfl
theorem q393 : Cond.instanceMethod yX4_allVoices ∈ TB := tb_mem 393 (by decide +kernel) rfl
theorem q394 : Cond.selects "PumpTalk$Square" yX4_allVoices yX4_allVoices ∈ TB := tb_mem 394 (by decide +kernel) rfl
theorem q395 : Cond.code yX4_allVoices cX4_allVoices 3 (some .int) ∈ TB := tb_mem 395 (by decide +kernel) rfl
theorem q396 : Cond.methodLink "PumpTalkLaw" 57 yX5_ahead ∈ TB := tb_mem 396 (by decide +kernel) rfl
theorem q397 : Cond.instanceMethod yX5_ahead ∈ TB := tb_mem 397 (by decide +kernel) rfl
theorem q398 : Cond.selects "PumpTalk" yX5_ahead yX5_ahead ∈ TB := tb_mem 398 (by decide +kernel) rfl
theorem q399 : Cond.code yX5_ahead cX5_ahead 2 (some .int) ∈ TB := tb_mem 399 (by decide +kernel) rfl
theorem q400 : Cond.methodLink "PumpTalk" 150 yX4_takeOver ∈ TB := tb_mem 400 (by decide +kernel) rfl
theorem q401 : Cond.instanceMethod yX4_takeOver ∈ TB := tb_mem 401 (by decide +kernel) rfl
theorem q402 : Cond.selects "PumpTalk$Square" yX4_takeOver yX4_takeOver ∈ TB := tb_mem 402 (by decide +kernel) rfl
theorem q403 : Cond.code yX4_takeOver cX4_takeOver 2 (none : Option Jvm.ClassFile.FieldType) ∈ TB := tb_mem 403 (by decide +kernel) rfl
theorem q404 : Cond.methodLink "PumpTalk$Square" 46 ⟨"java/lang/System", "arraycopy", "(Ljava/lang/Object;ILjava/lang/Object;II)V"⟩ ∈ TB := tb_mem 404 (by decide +kernel) rfl
theorem q405 : Cond.static ⟨"java/lang/System", "arraycopy", "(Ljava/lang/Object;ILjava/lang/Object;II)V"⟩ ∈ TB := tb_mem 405 (by decide +kernel) rfl
theorem q406 : Cond.native ⟨"java/lang/System", "arraycopy", "(Ljava/lang/Object;ILjava/lang/Object;II)V"⟩ ∈ TB := tb_mem 406 (by decide +kernel) rfl
theorem q407 : Cond.methodLink "PumpTalkLaw" 61 yX5_view ∈ TB := tb_mem 407 (by decide +kernel) rfl
theorem q408 : Cond.instanceMethod yX5_view ∈ TB := tb_mem 408 (by decide +kernel) rfl
theorem q409 : Cond.selects "PumpTalk" yX5_view yX5_view ∈ TB := tb_mem 409 (by decide +kernel) rfl
theorem q410 : Cond.code yX5_view cX5_view 4 (some .int) ∈ TB := tb_mem 410 (by decide +kernel) rfl
theorem q411 : Cond.methodLink "PumpTalk" 154 yX4_viewOn ∈ TB := tb_mem 411 (by decide +kernel) rfl
theorem q412 : Cond.methodLink "PumpTalkLaw" 65 yX5_dry ∈ TB := tb_mem 412 (by decide +kernel) rfl
theorem q413 : Cond.instanceMethod yX5_dry ∈ TB := tb_mem 413 (by decide +kernel) rfl
theorem q414 : Cond.selects "PumpTalk" yX5_dry yX5_dry ∈ TB := tb_mem 414 (by decide +kernel) rfl
theorem q415 : Cond.code yX5_dry cX5_dry 2 (some .int) ∈ TB := tb_mem 415 (by decide +kernel) rfl
theorem q416 : Cond.methodLink "PumpTalk" 157 yX4_passMinute ∈ TB := tb_mem 416 (by decide +kernel) rfl
theorem q417 : Cond.constant "PumpTalk" 160 (-1000004) ∈ TB := tb_mem 417 (by decide +kernel) rfl
theorem q418 : Cond.methodLink "PumpTalkLaw" 69 yX5_filled ∈ TB := tb_mem 418 (by decide +kernel) rfl
theorem q419 : Cond.instanceMethod yX5_filled ∈ TB := tb_mem 419 (by decide +kernel) rfl
theorem q420 : Cond.selects "PumpTalk" yX5_filled yX5_filled ∈ TB := tb_mem 420 (by decide +kernel) rfl
theorem q421 : Cond.code yX5_filled cX5_filled 3 (some .int) ∈ TB := tb_mem 421 (by decide +kernel) rfl
theorem q422 : Cond.constant "PumpTalk" 161 999999 ∈ TB := tb_mem 422 (by decide +kernel) rfl
theorem q423 : Cond.methodLink "PumpTalkLaw" 73 yX5_round ∈ TB := tb_mem 423 (by decide +kernel) rfl
theorem q424 : Cond.instanceMethod yX5_round ∈ TB := tb_mem 424 (by decide +kernel) rfl
theorem q425 : Cond.selects "PumpTalk" yX5_round yX5_round ∈ TB := tb_mem 425 (by decide +kernel) rfl
theorem q426 : Cond.code yX5_round cX5_round 2 (some .int) ∈ TB := tb_mem 426 (by decide +kernel) rfl
theorem q427 : Cond.methodLink "PumpTalk" 162 yX4_thinksLike ∈ TB := tb_mem 427 (by decide +kernel) rfl
theorem q428 : Cond.instanceMethod yX4_thinksLike ∈ TB := tb_mem 428 (by decide +kernel) rfl
theorem q429 : Cond.selects "PumpTalk$Square" yX4_thinksLike yX4_thinksLike ∈ TB := tb_mem 429 (by decide +kernel) rfl
theorem q430 : Cond.code yX4_thinksLike cX4_thinksLike 3 (some .boolean) ∈ TB := tb_mem 430 (by decide +kernel) rfl
theorem q431 : Cond.methodLink "PumpTalkLaw" 77 yX5_gives ∈ TB := tb_mem 431 (by decide +kernel) rfl
theorem q432 : Cond.instanceMethod yX5_gives ∈ TB := tb_mem 432 (by decide +kernel) rfl
theorem q433 : Cond.selects "PumpTalk" yX5_gives yX5_gives ∈ TB := tb_mem 433 (by decide +kernel) rfl
theorem q434 : Cond.code yX5_gives cX5_gives 4 (some .int) ∈ TB := tb_mem 434 (by decide +kernel) rfl
theorem q435 : Cond.methodLink "PumpTalk" 166 yX5_gain ∈ TB := tb_mem 435 (by decide +kernel) rfl
theorem q437 : Cond.instanceMethod yX5_gain ∈ TB := tb_mem 437 (by decide +kernel) rfl
theorem q438 : Cond.code yX5_gain cX5_gain 4 (some .int) ∈ TB := tb_mem 438 (by decide +kernel) rfl
theorem q439 : Cond.methodLink "PumpTalk" 172 yX4_pumpBy ∈ TB := tb_mem 439 (by decide +kernel) rfl
theorem q440 : Cond.instanceMethod yX4_pumpBy ∈ TB := tb_mem 440 (by decide +kernel) rfl
theorem q441 : Cond.selects "PumpTalk$Square" yX4_pumpBy yX4_pumpBy ∈ TB := tb_mem 441 (by decide +kernel) rfl
theorem q442 : Cond.code yX4_pumpBy cX4_pumpBy 6 (some .int) ∈ TB := tb_mem 442 (by decide +kernel) rfl
theorem q443 : Cond.methodLink "PumpTalk$Square" 100 yX4_seat ∈ TB := tb_mem 443 (by decide +kernel) rfl
theorem q444 : Cond.methodLink "PumpTalkLaw" 81 yX5_best ∈ TB := tb_mem 444 (by decide +kernel) rfl
theorem q445 : Cond.instanceMethod yX5_best ∈ TB := tb_mem 445 (by decide +kernel) rfl
theorem q446 : Cond.selects "PumpTalk" yX5_best yX5_best ∈ TB := tb_mem 446 (by decide +kernel) rfl
theorem q447 : Cond.code yX5_best cX5_best 7 (some .int) ∈ TB := tb_mem 447 (by decide +kernel) rfl
theorem q448 : Cond.methodLink "PumpTalkLaw" 85 yX5_partner ∈ TB := tb_mem 448 (by decide +kernel) rfl
theorem q449 : Cond.instanceMethod yX5_partner ∈ TB := tb_mem 449 (by decide +kernel) rfl
theorem q450 : Cond.selects "PumpTalk" yX5_partner yX5_partner ∈ TB := tb_mem 450 (by decide +kernel) rfl
theorem q451 : Cond.code yX5_partner cX5_partner 7 (some .int) ∈ TB := tb_mem 451 (by decide +kernel) rfl
theorem q452 : Cond.methodLink "PumpTalkLaw" 89 yX5_subjectFor ∈ TB := tb_mem 452 (by decide +kernel) rfl
theorem q453 : Cond.instanceMethod yX5_subjectFor ∈ TB := tb_mem 453 (by decide +kernel) rfl
theorem q454 : Cond.selects "PumpTalk" yX5_subjectFor yX5_subjectFor ∈ TB := tb_mem 454 (by decide +kernel) rfl
theorem q455 : Cond.code yX5_subjectFor cX5_subjectFor 8 (some .int) ∈ TB := tb_mem 455 (by decide +kernel) rfl
theorem q456 : Cond.methodLink "PumpTalkLaw" 93 yX5_matched ∈ TB := tb_mem 456 (by decide +kernel) rfl
theorem q457 : Cond.instanceMethod yX5_matched ∈ TB := tb_mem 457 (by decide +kernel) rfl
theorem q458 : Cond.selects "PumpTalk" yX5_matched yX5_matched ∈ TB := tb_mem 458 (by decide +kernel) rfl
theorem q459 : Cond.code yX5_matched cX5_matched 2 (some .int) ∈ TB := tb_mem 459 (by decide +kernel) rfl
theorem q460 : Cond.methodLink "PumpTalk" 175 yX5_weighPairs ∈ TB := tb_mem 460 (by decide +kernel) rfl
theorem q462 : Cond.instanceMethod yX5_weighPairs ∈ TB := tb_mem 462 (by decide +kernel) rfl
theorem q463 : Cond.code yX5_weighPairs cX5_weighPairs 4 (none : Option Jvm.ClassFile.FieldType) ∈ TB := tb_mem 463 (by decide +kernel) rfl
theorem q464 : Cond.methodLink "PumpTalk" 279 yX1_weigh ∈ TB := tb_mem 464 (by decide +kernel) rfl
theorem q465 : Cond.instanceMethod yX1_weigh ∈ TB := tb_mem 465 (by decide +kernel) rfl
theorem q466 : Cond.selects "PumpTalk$Matching" yX1_weigh yX1_weigh ∈ TB := tb_mem 466 (by decide +kernel) rfl
theorem q467 : Cond.code yX1_weigh cX1_weigh 4 (none : Option Jvm.ClassFile.FieldType) ∈ TB := tb_mem 467 (by decide +kernel) rfl
theorem q468 : Cond.methodLinkNest "PumpTalk$Matching" 18 yX5_pairNumber "PumpTalk" ∈ TB := tb_mem 468 (by decide +kernel) rfl
theorem q469 : Cond.methodLink "PumpTalk" 282 yX1_solve ∈ TB := tb_mem 469 (by decide +kernel) rfl
theorem q470 : Cond.instanceMethod yX1_solve ∈ TB := tb_mem 470 (by decide +kernel) rfl
theorem q471 : Cond.selects "PumpTalk$Matching" yX1_solve yX1_solve ∈ TB := tb_mem 471 (by decide +kernel) rfl
theorem q472 : Cond.code yX1_solve cX1_solve 7 (none : Option Jvm.ClassFile.FieldType) ∈ TB := tb_mem 472 (by decide +kernel) rfl
theorem q473 : Cond.methodLink "PumpTalk$Matching" 22 yX1_everybody ∈ TB := tb_mem 473 (by decide +kernel) rfl
theorem q474 : Cond.static yX1_everybody ∈ TB := tb_mem 474 (by decide +kernel) rfl
theorem q475 : Cond.code yX1_everybody cX1_everybody 1 (some .int) ∈ TB := tb_mem 475 (by decide +kernel) rfl
theorem q476 : Cond.methodLink "PumpTalk$Matching" 26 yX1_leastOf ∈ TB := tb_mem 476 (by decide +kernel) rfl
theorem q477 : Cond.static yX1_leastOf ∈ TB := tb_mem 477 (by decide +kernel) rfl
theorem q478 : Cond.code yX1_leastOf cX1_leastOf 2 (some .int) ∈ TB := tb_mem 478 (by decide +kernel) rfl
theorem q479 : Cond.methodLink "PumpTalk$Matching" 29 yX1_together ∈ TB := tb_mem 479 (by decide +kernel) rfl
theorem q481 : Cond.instanceMethod yX1_together ∈ TB := tb_mem 481 (by decide +kernel) rfl
theorem q482 : Cond.code yX1_together cX1_together 4 (some .int) ∈ TB := tb_mem 482 (by decide +kernel) rfl
theorem q483 : Cond.methodLink "PumpTalk$Matching" 33 yJ9_max_7cf53 ∈ TB := tb_mem 483 (by decide +kernel) rfl
theorem q484 : Cond.static yJ9_max_7cf53 ∈ TB := tb_mem 484 (by decide +kernel) rfl
theorem q485 : Cond.code yJ9_max_7cf53 cJ9_max_7cf53 2 (some .int) ∈ TB := tb_mem 485 (by decide +kernel) rfl
theorem q486 : Cond.methodLink "PumpTalk" 178 yX1_total ∈ TB := tb_mem 486 (by decide +kernel) rfl
theorem q487 : Cond.instanceMethod yX1_total ∈ TB := tb_mem 487 (by decide +kernel) rfl
theorem q488 : Cond.selects "PumpTalk$Matching" yX1_total yX1_total ∈ TB := tb_mem 488 (by decide +kernel) rfl
theorem q489 : Cond.code yX1_total cX1_total 2 (some .int) ∈ TB := tb_mem 489 (by decide +kernel) rfl
theorem q490 : Cond.methodLink "PumpTalkLaw" 97 yX5_matchOf ∈ TB := tb_mem 490 (by decide +kernel) rfl
theorem q491 : Cond.instanceMethod yX5_matchOf ∈ TB := tb_mem 491 (by decide +kernel) rfl
theorem q492 : Cond.selects "PumpTalk" yX5_matchOf yX5_matchOf ∈ TB := tb_mem 492 (by decide +kernel) rfl
theorem q493 : Cond.code yX5_matchOf cX5_matchOf 3 (some .int) ∈ TB := tb_mem 493 (by decide +kernel) rfl
theorem q494 : Cond.methodLink "PumpTalk" 181 yX1_mateOf ∈ TB := tb_mem 494 (by decide +kernel) rfl
theorem q495 : Cond.instanceMethod yX1_mateOf ∈ TB := tb_mem 495 (by decide +kernel) rfl
theorem q496 : Cond.selects "PumpTalk$Matching" yX1_mateOf yX1_mateOf ∈ TB := tb_mem 496 (by decide +kernel) rfl
theorem q497 : Cond.code yX1_mateOf cX1_mateOf 8 (some .int) ∈ TB := tb_mem 497 (by decide +kernel) rfl
theorem q498 : Cond.methodLink "PumpTalk$Matching" 38 yX1_leastMate ∈ TB := tb_mem 498 (by decide +kernel) rfl
theorem q500 : Cond.instanceMethod yX1_leastMate ∈ TB := tb_mem 500 (by decide +kernel) rfl
theorem q501 : Cond.code yX1_leastMate cX1_leastMate 5 (some .int) ∈ TB := tb_mem 501 (by decide +kernel) rfl
theorem q502 : Cond.methodLink "PumpTalkLaw" 101 yX5_kindFor ∈ TB := tb_mem 502 (by decide +kernel) rfl
theorem q503 : Cond.instanceMethod yX5_kindFor ∈ TB := tb_mem 503 (by decide +kernel) rfl
theorem q504 : Cond.selects "PumpTalk" yX5_kindFor yX5_kindFor ∈ TB := tb_mem 504 (by decide +kernel) rfl
theorem q505 : Cond.code yX5_kindFor cX5_kindFor 4 (some .int) ∈ TB := tb_mem 505 (by decide +kernel) rfl
theorem q506 : Cond.methodLink "PumpTalk" 184 yX5_bestTrait ∈ TB := tb_mem 506 (by decide +kernel) rfl
theorem q508 : Cond.instanceMethod yX5_bestTrait ∈ TB := tb_mem 508 (by decide +kernel) rfl
theorem q509 : Cond.code yX5_bestTrait cX5_bestTrait 9 (some .int) ∈ TB := tb_mem 509 (by decide +kernel) rfl
theorem q510 : Cond.methodLink "PumpTalk" 188 yX5_gainAs ∈ TB := tb_mem 510 (by decide +kernel) rfl
theorem q512 : Cond.instanceMethod yX5_gainAs ∈ TB := tb_mem 512 (by decide +kernel) rfl
theorem q513 : Cond.code yX5_gainAs cX5_gainAs 6 (some .int) ∈ TB := tb_mem 513 (by decide +kernel) rfl
theorem q514 : Cond.methodLink "PumpTalkLaw" 105 yX5_viewFor ∈ TB := tb_mem 514 (by decide +kernel) rfl
theorem q515 : Cond.instanceMethod yX5_viewFor ∈ TB := tb_mem 515 (by decide +kernel) rfl
theorem q516 : Cond.selects "PumpTalk" yX5_viewFor yX5_viewFor ∈ TB := tb_mem 516 (by decide +kernel) rfl
theorem q517 : Cond.code yX5_viewFor cX5_viewFor 5 (some .int) ∈ TB := tb_mem 517 (by decide +kernel) rfl
theorem q518 : Cond.methodLink "PumpTalkLaw" 110 yX5_voiceFor ∈ TB := tb_mem 518 (by decide +kernel) rfl
theorem q519 : Cond.instanceMethod yX5_voiceFor ∈ TB := tb_mem 519 (by decide +kernel) rfl
theorem q520 : Cond.selects "PumpTalk" yX5_voiceFor yX5_voiceFor ∈ TB := tb_mem 520 (by decide +kernel) rfl
theorem q521 : Cond.code yX5_voiceFor cX5_voiceFor 6 (some .int) ∈ TB := tb_mem 521 (by decide +kernel) rfl
theorem q522 : Cond.methodLink "PumpTalkLaw" 114 yX5_fits ∈ TB := tb_mem 522 (by decide +kernel) rfl
theorem q523 : Cond.instanceMethod yX5_fits ∈ TB := tb_mem 523 (by decide +kernel) rfl
theorem q524 : Cond.selects "PumpTalk" yX5_fits yX5_fits ∈ TB := tb_mem 524 (by decide +kernel) rfl
theorem q525 : Cond.code yX5_fits cX5_fits 6 (some .int) ∈ TB := tb_mem 525 (by decide +kernel) rfl
theorem q526 : Cond.methodLink "PumpTalk" 192 yX5_lackOfFit ∈ TB := tb_mem 526 (by decide +kernel) rfl
theorem q528 : Cond.instanceMethod yX5_lackOfFit ∈ TB := tb_mem 528 (by decide +kernel) rfl
theorem q529 : Cond.code yX5_lackOfFit cX5_lackOfFit 4 (some .int) ∈ TB := tb_mem 529 (by decide +kernel) rfl
theorem q530 : Cond.methodLink "PumpTalk" 240 yX5_lackOfSheet ∈ TB := tb_mem 530 (by decide +kernel) rfl
theorem q532 : Cond.instanceMethod yX5_lackOfSheet ∈ TB := tb_mem 532 (by decide +kernel) rfl
theorem q533 : Cond.code yX5_lackOfSheet cX5_lackOfSheet 2 (some .int) ∈ TB := tb_mem 533 (by decide +kernel) rfl
theorem q534 : Cond.methodLink "PumpTalk" 233 yX5_isNoSheet ∈ TB := tb_mem 534 (by decide +kernel) rfl
theorem q535 : Cond.static yX5_isNoSheet ∈ TB := tb_mem 535 (by decide +kernel) rfl
theorem q536 : Cond.code yX5_isNoSheet cX5_isNoSheet 1 (some .boolean) ∈ TB := tb_mem 536 (by decide +kernel) rfl
theorem q537 : Cond.methodLink "PumpTalk" 249 yX3_isMissing ∈ TB := tb_mem 537 (by decide +kernel) rfl
theorem q538 : Cond.instanceMethod yX3_isMissing ∈ TB := tb_mem 538 (by decide +kernel) rfl
theorem q539 : Cond.selects "PumpTalk$Sheet" yX3_isMissing yX3_isMissing ∈ TB := tb_mem 539 (by decide +kernel) rfl
theorem q540 : Cond.code yX3_isMissing cX3_isMissing 1 (some .boolean) ∈ TB := tb_mem 540 (by decide +kernel) rfl
theorem q541 : Cond.constant "PumpTalk" 226 (-1000006) ∈ TB := tb_mem 541 (by decide +kernel) rfl
theorem q542 : Cond.methodLink "PumpTalk" 195 yX5_isAsTold ∈ TB := tb_mem 542 (by decide +kernel) rfl
theorem q544 : Cond.instanceMethod yX5_isAsTold ∈ TB := tb_mem 544 (by decide +kernel) rfl
theorem q545 : Cond.code yX5_isAsTold cX5_isAsTold 6 (some .boolean) ∈ TB := tb_mem 545 (by decide +kernel) rfl
theorem q546 : Cond.methodLink "PumpTalkLaw" 118 yX5_thought ∈ TB := tb_mem 546 (by decide +kernel) rfl
theorem q547 : Cond.instanceMethod yX5_thought ∈ TB := tb_mem 547 (by decide +kernel) rfl
theorem q548 : Cond.selects "PumpTalk" yX5_thought yX5_thought ∈ TB := tb_mem 548 (by decide +kernel) rfl
theorem q549 : Cond.code yX5_thought cX5_thought 5 (some .int) ∈ TB := tb_mem 549 (by decide +kernel) rfl
theorem q550 : Cond.methodLink "PumpTalkLaw" 122 yX5_kinds ∈ TB := tb_mem 550 (by decide +kernel) rfl
theorem q551 : Cond.instanceMethod yX5_kinds ∈ TB := tb_mem 551 (by decide +kernel) rfl
theorem q552 : Cond.selects "PumpTalk" yX5_kinds yX5_kinds ∈ TB := tb_mem 552 (by decide +kernel) rfl
theorem q553 : Cond.code yX5_kinds cX5_kinds 6 (some .int) ∈ TB := tb_mem 553 (by decide +kernel) rfl
theorem q554 : Cond.methodLink "PumpTalkLaw" 126 yX5_quarrels ∈ TB := tb_mem 554 (by decide +kernel) rfl
theorem q555 : Cond.instanceMethod yX5_quarrels ∈ TB := tb_mem 555 (by decide +kernel) rfl
theorem q556 : Cond.selects "PumpTalk" yX5_quarrels yX5_quarrels ∈ TB := tb_mem 556 (by decide +kernel) rfl
theorem q557 : Cond.code yX5_quarrels cX5_quarrels 5 (some .int) ∈ TB := tb_mem 557 (by decide +kernel) rfl
theorem q558 : Cond.methodLink "PumpTalk" 199 yX4_draw ∈ TB := tb_mem 558 (by decide +kernel) rfl
theorem q559 : Cond.instanceMethod yX4_draw ∈ TB := tb_mem 559 (by decide +kernel) rfl
theorem q560 : Cond.selects "PumpTalk$Square" yX4_draw yX4_draw ∈ TB := tb_mem 560 (by decide +kernel) rfl
theorem q561 : Cond.code yX4_draw cX4_draw 1 (some .int) ∈ TB := tb_mem 561 (by decide +kernel) rfl
theorem q562 : Cond.constant "PumpTalk$Square" 87 1103515245 ∈ TB := tb_mem 562 (by decide +kernel) rfl
theorem q563 : Cond.methodLink "PumpTalkLaw" 130 yX5_odds ∈ TB := tb_mem 563 (by decide +kernel) rfl
theorem q564 : Cond.instanceMethod yX5_odds ∈ TB := tb_mem 564 (by decide +kernel) rfl
theorem q565 : Cond.selects "PumpTalk" yX5_odds yX5_odds ∈ TB := tb_mem 565 (by decide +kernel) rfl
theorem q566 : Cond.code yX5_odds cX5_odds 7 (some .long) ∈ TB := tb_mem 566 (by decide +kernel) rfl
theorem q567 : Cond.constantLong "PumpTalk" 202 64 ∈ TB := tb_mem 567 (by decide +kernel) rfl
theorem q568 : Cond.constantLong "PumpTalk" 204 2 ∈ TB := tb_mem 568 (by decide +kernel) rfl
theorem q569 : Cond.methodLink "PumpTalk" 206 yX5_power ∈ TB := tb_mem 569 (by decide +kernel) rfl
theorem q570 : Cond.static yX5_power ∈ TB := tb_mem 570 (by decide +kernel) rfl
theorem q571 : Cond.code yX5_power cX5_power 6 (some .long) ∈ TB := tb_mem 571 (by decide +kernel) rfl
theorem q572 : Cond.methodLink "PumpTalkLaw" 135 yX5_seed ∈ TB := tb_mem 572 (by decide +kernel) rfl
theorem q573 : Cond.instanceMethod yX5_seed ∈ TB := tb_mem 573 (by decide +kernel) rfl
theorem q574 : Cond.selects "PumpTalk" yX5_seed yX5_seed ∈ TB := tb_mem 574 (by decide +kernel) rfl
theorem q575 : Cond.code yX5_seed cX5_seed 3 (some .int) ∈ TB := tb_mem 575 (by decide +kernel) rfl
theorem q576 : Cond.methodLink "PumpTalkLaw" 139 yX5_feed ∈ TB := tb_mem 576 (by decide +kernel) rfl
theorem q577 : Cond.instanceMethod yX5_feed ∈ TB := tb_mem 577 (by decide +kernel) rfl
theorem q578 : Cond.selects "PumpTalk" yX5_feed yX5_feed ∈ TB := tb_mem 578 (by decide +kernel) rfl
theorem q579 : Cond.code yX5_feed cX5_feed 4 (some .int) ∈ TB := tb_mem 579 (by decide +kernel) rfl
theorem q580 : Cond.methodLink "PumpTalk" 216 yX2_append ∈ TB := tb_mem 580 (by decide +kernel) rfl
theorem q581 : Cond.instanceMethod yX2_append ∈ TB := tb_mem 581 (by decide +kernel) rfl
theorem q582 : Cond.selects "PumpTalk$Reader" yX2_append yX2_append ∈ TB := tb_mem 582 (by decide +kernel) rfl
theorem q583 : Cond.code yX2_append cX2_append 2 (none : Option Jvm.ClassFile.FieldType) ∈ TB := tb_mem 583 (by decide +kernel) rfl
theorem q584 : Cond.methodLink "PumpTalkLaw" 143 yX5_wipe ∈ TB := tb_mem 584 (by decide +kernel) rfl
theorem q585 : Cond.instanceMethod yX5_wipe ∈ TB := tb_mem 585 (by decide +kernel) rfl
theorem q586 : Cond.selects "PumpTalk" yX5_wipe yX5_wipe ∈ TB := tb_mem 586 (by decide +kernel) rfl
theorem q587 : Cond.code yX5_wipe cX5_wipe 2 (some .int) ∈ TB := tb_mem 587 (by decide +kernel) rfl
theorem q588 : Cond.methodLink "PumpTalkLaw" 147 yX5_text ∈ TB := tb_mem 588 (by decide +kernel) rfl
theorem q589 : Cond.instanceMethod yX5_text ∈ TB := tb_mem 589 (by decide +kernel) rfl
theorem q590 : Cond.selects "PumpTalk" yX5_text yX5_text ∈ TB := tb_mem 590 (by decide +kernel) rfl
theorem q591 : Cond.code yX5_text cX5_text 2 (some .int) ∈ TB := tb_mem 591 (by decide +kernel) rfl
theorem q592 : Cond.methodLink "PumpTalk" 219 yX2_readInto ∈ TB := tb_mem 592 (by decide +kernel) rfl
theorem q593 : Cond.instanceMethod yX2_readInto ∈ TB := tb_mem 593 (by decide +kernel) rfl
theorem q594 : Cond.selects "PumpTalk$Reader" yX2_readInto yX2_readInto ∈ TB := tb_mem 594 (by decide +kernel) rfl
theorem q595 : Cond.code yX2_readInto cX2_readInto 3 (some .int) ∈ TB := tb_mem 595 (by decide +kernel) rfl
theorem q596 : Cond.methodLink "PumpTalk$Reader" 31 yX2_advance ∈ TB := tb_mem 596 (by decide +kernel) rfl
theorem q598 : Cond.instanceMethod yX2_advance ∈ TB := tb_mem 598 (by decide +kernel) rfl
theorem q599 : Cond.code yX2_advance cX2_advance 1 (none : Option Jvm.ClassFile.FieldType) ∈ TB := tb_mem 599 (by decide +kernel) rfl
theorem q600 : Cond.methodLink "PumpTalk$Reader" 112 yX2_sortAt ∈ TB := tb_mem 600 (by decide +kernel) rfl
theorem q602 : Cond.instanceMethod yX2_sortAt ∈ TB := tb_mem 602 (by decide +kernel) rfl
theorem q603 : Cond.code yX2_sortAt cX2_sortAt 3 (some .int) ∈ TB := tb_mem 603 (by decide +kernel) rfl
theorem q604 : Cond.methodLink "PumpTalk$Reader" 115 yX2_readNumber ∈ TB := tb_mem 604 (by decide +kernel) rfl
theorem q606 : Cond.instanceMethod yX2_readNumber ∈ TB := tb_mem 606 (by decide +kernel) rfl
theorem q607 : Cond.code yX2_readNumber cX2_readNumber 2 (none : Option Jvm.ClassFile.FieldType) ∈ TB := tb_mem 607 (by decide +kernel) rfl
theorem q608 : Cond.methodLink "PumpTalk$Reader" 34 yX2_readItem ∈ TB := tb_mem 608 (by decide +kernel) rfl
theorem q610 : Cond.instanceMethod yX2_readItem ∈ TB := tb_mem 610 (by decide +kernel) rfl
theorem q611 : Cond.code yX2_readItem cX2_readItem 3 (some .boolean) ∈ TB := tb_mem 611 (by decide +kernel) rfl
theorem q612 : Cond.methodLink "PumpTalk$Reader" 42 yX0_nameOf ∈ TB := tb_mem 612 (by decide +kernel) rfl
theorem q613 : Cond.static yX0_nameOf ∈ TB := tb_mem 613 (by decide +kernel) rfl
theorem q614 : Cond.code yX0_nameOf cX0_nameOf 1 (some (.object "java/lang/String")) ∈ TB := tb_mem 614 (by decide +kernel) rfl
theorem q622 : Cond.methodLink "PumpTalk$Reader" 48 yX2_isWord ∈ TB := tb_mem 622 (by decide +kernel) rfl
theorem q624 : Cond.instanceMethod yX2_isWord ∈ TB := tb_mem 624 (by decide +kernel) rfl
theorem q625 : Cond.code yX2_isWord cX2_isWord 3 (some .boolean) ∈ TB := tb_mem 625 (by decide +kernel) rfl
theorem q626 : Cond.methodLink "PumpTalk$Reader" 103 yJ0_length_8abf5 ∈ TB := tb_mem 626 (by decide +kernel) rfl
theorem q627 : Cond.instanceMethod yJ0_length_8abf5 ∈ TB := tb_mem 627 (by decide +kernel) rfl
theorem q628 : Cond.selects "java/lang/String" yJ0_length_8abf5 yJ0_length_8abf5 ∈ TB := tb_mem 628 (by decide +kernel) rfl
theorem q629 : Cond.code yJ0_length_8abf5 cJ0_length_8abf5 1 (some .int) ∈ TB := tb_mem 629 (by decide +kernel) rfl
theorem q630 : Cond.methodLink "java/lang/String" 335 yJ0_coder_7d493 ∈ TB := tb_mem 630 (by decide +kernel) rfl
theorem q631 : Cond.instanceMethod yJ0_coder_7d493 ∈ TB := tb_mem 631 (by decide +kernel) rfl
theorem q632 : Cond.selects "java/lang/String" yJ0_coder_7d493 yJ0_coder_7d493 ∈ TB := tb_mem 632 (by decide +kernel) rfl
theorem q633 : Cond.code yJ0_coder_7d493 cJ0_coder_7d493 1 (some .byte) ∈ TB := tb_mem 633 (by decide +kernel) rfl
theorem q634 : Cond.fieldLink "java/lang/String" 38 "java/lang/String" "COMPACT_STRINGS" "Z" ∈ TB := tb_mem 634 (by decide +kernel) rfl
theorem q635 : Cond.laysStatic "java/lang/String" "COMPACT_STRINGS" "Z" ∈ TB := tb_mem 635 (by decide +kernel) rfl
theorem q636 : Cond.methodLink "PumpTalk$Reader" 108 yJ0_charAt_5068e ∈ TB := tb_mem 636 (by decide +kernel) rfl
theorem q637 : Cond.instanceMethod yJ0_charAt_5068e ∈ TB := tb_mem 637 (by decide +kernel) rfl
theorem q638 : Cond.selects "java/lang/String" yJ0_charAt_5068e yJ0_charAt_5068e ∈ TB := tb_mem 638 (by decide +kernel) rfl
theorem q639 : Cond.code yJ0_charAt_5068e cJ0_charAt_5068e 2 (some .char) ∈ TB := tb_mem 639 (by decide +kernel) rfl
theorem q640 : Cond.methodLink "java/lang/String" 492 yJ0_isLatin1_aae02 ∈ TB := tb_mem 640 (by decide +kernel) rfl
theorem q641 : Cond.instanceMethod yJ0_isLatin1_aae02 ∈ TB := tb_mem 641 (by decide +kernel) rfl
theorem q642 : Cond.selects "java/lang/String" yJ0_isLatin1_aae02 yJ0_isLatin1_aae02 ∈ TB := tb_mem 642 (by decide +kernel) rfl
theorem q643 : Cond.code yJ0_isLatin1_aae02 cJ0_isLatin1_aae02 1 (some .boolean) ∈ TB := tb_mem 643 (by decide +kernel) rfl
theorem q644 : Cond.methodLink "java/lang/String" 495 yJ1_charAt_3b067 ∈ TB := tb_mem 644 (by decide +kernel) rfl
theorem q645 : Cond.static yJ1_charAt_3b067 ∈ TB := tb_mem 645 (by decide +kernel) rfl
theorem q646 : Cond.code yJ1_charAt_3b067 cJ1_charAt_3b067 2 (some .char) ∈ TB := tb_mem 646 (by decide +kernel) rfl
theorem q647 : Cond.methodLink "java/lang/StringLatin1" 9 yJ0_checkIndex_df160 ∈ TB := tb_mem 647 (by decide +kernel) rfl
theorem q648 : Cond.static yJ0_checkIndex_df160 ∈ TB := tb_mem 648 (by decide +kernel) rfl
theorem q649 : Cond.code yJ0_checkIndex_df160 cJ0_checkIndex_df160 2 (none : Option Jvm.ClassFile.FieldType) ∈ TB := tb_mem 649 (by decide +kernel) rfl
theorem q650 : Cond.fieldLink "java/lang/String" 1053 "jdk/internal/util/Preconditions" "SIOOBE_FORMATTER" "Ljava/util/function/BiFunction;" ∈ TB := tb_mem 650 (by decide +kernel) rfl
theorem q651 : Cond.laysStatic "jdk/internal/util/Preconditions" "SIOOBE_FORMATTER" "Ljava/util/function/BiFunction;" ∈ TB := tb_mem 651 (by decide +kernel) rfl
theorem q652 : Cond.methodLink "java/lang/String" 1059 yJ3_checkIndex_8e157 ∈ TB := tb_mem 652 (by decide +kernel) rfl
theorem q653 : Cond.static yJ3_checkIndex_8e157 ∈ TB := tb_mem 653 (by decide +kernel) rfl
theorem q654 : Cond.code yJ3_checkIndex_8e157 cJ3_checkIndex_8e157 3 (some .int) ∈ TB := tb_mem 654 (by decide +kernel) rfl
theorem q655 : Cond.methodLink "java/lang/String" 498 yJ2_charAt_3b067 ∈ TB := tb_mem 655 (by decide +kernel) rfl
theorem q656 : Cond.static yJ2_charAt_3b067 ∈ TB := tb_mem 656 (by decide +kernel) rfl
theorem q657 : Cond.code yJ2_charAt_3b067 cJ2_charAt_3b067 2 (some .char) ∈ TB := tb_mem 657 (by decide +kernel) rfl
theorem q658 : Cond.methodLink "java/lang/StringUTF16" 67 yJ2_checkIndex_2214a ∈ TB := tb_mem 658 (by decide +kernel) rfl
theorem q659 : Cond.static yJ2_checkIndex_2214a ∈ TB := tb_mem 659 (by decide +kernel) rfl
theorem q660 : Cond.code yJ2_checkIndex_2214a cJ2_checkIndex_2214a 2 (none : Option Jvm.ClassFile.FieldType) ∈ TB := tb_mem 660 (by decide +kernel) rfl
theorem q661 : Cond.methodLink "java/lang/StringUTF16" 48 yJ2_length_9d52b ∈ TB := tb_mem 661 (by decide +kernel) rfl
theorem q662 : Cond.static yJ2_length_9d52b ∈ TB := tb_mem 662 (by decide +kernel) rfl
theorem q663 : Cond.code yJ2_length_9d52b cJ2_length_9d52b 1 (some .int) ∈ TB := tb_mem 663 (by decide +kernel) rfl
theorem q664 : Cond.methodLink "java/lang/StringUTF16" 414 yJ0_checkIndex_df160 ∈ TB := tb_mem 664 (by decide +kernel) rfl
theorem q665 : Cond.methodLink "java/lang/StringUTF16" 71 yJ2_getChar_3b067 ∈ TB := tb_mem 665 (by decide +kernel) rfl
theorem q666 : Cond.static yJ2_getChar_3b067 ∈ TB := tb_mem 666 (by decide +kernel) rfl
theorem q667 : Cond.code yJ2_getChar_3b067 cJ2_getChar_3b067 2 (some .char) ∈ TB := tb_mem 667 (by decide +kernel) rfl
theorem q668 : Cond.fieldLink "java/lang/StringUTF16" 44 "java/lang/StringUTF16" "$assertionsDisabled" "Z" ∈ TB := tb_mem 668 (by decide +kernel) rfl
theorem q669 : Cond.laysStatic "java/lang/StringUTF16" "$assertionsDisabled" "Z" ∈ TB := tb_mem 669 (by decide +kernel) rfl
theorem q670 : Cond.fieldLink "java/lang/StringUTF16" 59 "java/lang/StringUTF16" "HI_BYTE_SHIFT" "I" ∈ TB := tb_mem 670 (by decide +kernel) rfl
theorem q671 : Cond.laysStatic "java/lang/StringUTF16" "HI_BYTE_SHIFT" "I" ∈ TB := tb_mem 671 (by decide +kernel) rfl
theorem q672 : Cond.fieldLink "java/lang/StringUTF16" 63 "java/lang/StringUTF16" "LO_BYTE_SHIFT" "I" ∈ TB := tb_mem 672 (by decide +kernel) rfl
theorem q673 : Cond.laysStatic "java/lang/StringUTF16" "LO_BYTE_SHIFT" "I" ∈ TB := tb_mem 673 (by decide +kernel) rfl
theorem q674 : Cond.methodLink "PumpTalk$Reader" 52 yX2_readPerson ∈ TB := tb_mem 674 (by decide +kernel) rfl
theorem q676 : Cond.instanceMethod yX2_readPerson ∈ TB := tb_mem 676 (by decide +kernel) rfl
theorem q677 : Cond.code yX2_readPerson cX2_readPerson 4 (some .boolean) ∈ TB := tb_mem 677 (by decide +kernel) rfl
theorem q678 : Cond.methodLink "PumpTalk$Reader" 66 yX4_isCrowded ∈ TB := tb_mem 678 (by decide +kernel) rfl
theorem q679 : Cond.methodLink "PumpTalk$Reader" 72 yX4_addPerson ∈ TB := tb_mem 679 (by decide +kernel) rfl
theorem q681 : Cond.methodLink "PumpTalk$Reader" 78 yX2_isNumberUpTo ∈ TB := tb_mem 681 (by decide +kernel) rfl
theorem q683 : Cond.instanceMethod yX2_isNumberUpTo ∈ TB := tb_mem 683 (by decide +kernel) rfl
theorem q684 : Cond.code yX2_isNumberUpTo cX2_isNumberUpTo 2 (some .boolean) ∈ TB := tb_mem 684 (by decide +kernel) rfl
theorem q685 : Cond.methodLink "PumpTalk$Reader" 81 yX4_setTrait ∈ TB := tb_mem 685 (by decide +kernel) rfl
theorem q687 : Cond.methodLink "PumpTalk$Reader" 87 yX2_readViews ∈ TB := tb_mem 687 (by decide +kernel) rfl
theorem q689 : Cond.instanceMethod yX2_readViews ∈ TB := tb_mem 689 (by decide +kernel) rfl
theorem q690 : Cond.code yX2_readViews cX2_readViews 5 (some .boolean) ∈ TB := tb_mem 690 (by decide +kernel) rfl
theorem q691 : Cond.methodLink "PumpTalk$Reader" 38 yX2_isSign ∈ TB := tb_mem 691 (by decide +kernel) rfl
theorem q693 : Cond.instanceMethod yX2_isSign ∈ TB := tb_mem 693 (by decide +kernel) rfl
theorem q694 : Cond.code yX2_isSign cX2_isSign 2 (some .boolean) ∈ TB := tb_mem 694 (by decide +kernel) rfl
theorem q695 : Cond.methodLink "PumpTalk$Reader" 90 yX4_setView ∈ TB := tb_mem 695 (by decide +kernel) rfl
theorem q697 : Cond.methodLink "PumpTalk$Reader" 58 yX2_readPair ∈ TB := tb_mem 697 (by decide +kernel) rfl
theorem q699 : Cond.instanceMethod yX2_readPair ∈ TB := tb_mem 699 (by decide +kernel) rfl
theorem q700 : Cond.code yX2_readPair cX2_readPair 3 (some .boolean) ∈ TB := tb_mem 700 (by decide +kernel) rfl
theorem q701 : Cond.methodLink "PumpTalk$Reader" 96 yX4_seat ∈ TB := tb_mem 701 (by decide +kernel) rfl
theorem q703 : Cond.methodLink "PumpTalk$Reader" 63 yX2_readSubject ∈ TB := tb_mem 703 (by decide +kernel) rfl
theorem q705 : Cond.instanceMethod yX2_readSubject ∈ TB := tb_mem 705 (by decide +kernel) rfl
theorem q706 : Cond.code yX2_readSubject cX2_readSubject 2 (some .boolean) ∈ TB := tb_mem 706 (by decide +kernel) rfl
theorem q707 : Cond.arrayClass .byte ∈ TB := tb_mem 707 (by decide +kernel) rfl
theorem q708 : Cond.methodLink "PumpTalkLaw" 151 yX5_hold ∈ TB := tb_mem 708 (by decide +kernel) rfl
theorem q709 : Cond.instanceMethod yX5_hold ∈ TB := tb_mem 709 (by decide +kernel) rfl
theorem q710 : Cond.selects "PumpTalk" yX5_hold yX5_hold ∈ TB := tb_mem 710 (by decide +kernel) rfl
theorem q711 : Cond.code yX5_hold cX5_hold 3 (some .int) ∈ TB := tb_mem 711 (by decide +kernel) rfl
theorem q712 : Cond.methodLink "PumpTalkLaw" 155 yX5_as ∈ TB := tb_mem 712 (by decide +kernel) rfl
theorem q713 : Cond.instanceMethod yX5_as ∈ TB := tb_mem 713 (by decide +kernel) rfl
theorem q714 : Cond.selects "PumpTalk" yX5_as yX5_as ∈ TB := tb_mem 714 (by decide +kernel) rfl
theorem q715 : Cond.code yX5_as cX5_as 4 (some .int) ∈ TB := tb_mem 715 (by decide +kernel) rfl
theorem q716 : Cond.methodLink "PumpTalk" 227 yX0_isUnder ∈ TB := tb_mem 716 (by decide +kernel) rfl
theorem q717 : Cond.static yX0_isUnder ∈ TB := tb_mem 717 (by decide +kernel) rfl
theorem q718 : Cond.code yX0_isUnder cX0_isUnder 4 (some .boolean) ∈ TB := tb_mem 718 (by decide +kernel) rfl
theorem q719 : Cond.fieldLink "PumpTalk$Kinds" 9 "PumpTalk$Kinds" "ABOVE" "[I" ∈ TB := tb_mem 719 (by decide +kernel) rfl
theorem q720 : Cond.laysStatic "PumpTalk$Kinds" "ABOVE" "[I" ∈ TB := tb_mem 720 (by decide +kernel) rfl
theorem q721 : Cond.constant "PumpTalk" 232 (-1000003) ∈ TB := tb_mem 721 (by decide +kernel) rfl
theorem q722 : Cond.methodLink "PumpTalkLaw" 159 yX5_sheet ∈ TB := tb_mem 722 (by decide +kernel) rfl
theorem q723 : Cond.instanceMethod yX5_sheet ∈ TB := tb_mem 723 (by decide +kernel) rfl
theorem q724 : Cond.selects "PumpTalk" yX5_sheet yX5_sheet ∈ TB := tb_mem 724 (by decide +kernel) rfl
theorem q725 : Cond.code yX5_sheet cX5_sheet 4 (some .int) ∈ TB := tb_mem 725 (by decide +kernel) rfl
theorem q726 : Cond.constant "PumpTalk" 236 (-1000007) ∈ TB := tb_mem 726 (by decide +kernel) rfl
theorem q727 : Cond.methodLink "PumpTalk" 237 yX3_renew ∈ TB := tb_mem 727 (by decide +kernel) rfl
theorem q728 : Cond.instanceMethod yX3_renew ∈ TB := tb_mem 728 (by decide +kernel) rfl
theorem q729 : Cond.selects "PumpTalk$Sheet" yX3_renew yX3_renew ∈ TB := tb_mem 729 (by decide +kernel) rfl
theorem q730 : Cond.code yX3_renew cX3_renew 4 (some .int) ∈ TB := tb_mem 730 (by decide +kernel) rfl
theorem q731 : Cond.methodLink "PumpTalkLaw" 163 yX5_write ∈ TB := tb_mem 731 (by decide +kernel) rfl
theorem q732 : Cond.instanceMethod yX5_write ∈ TB := tb_mem 732 (by decide +kernel) rfl
theorem q733 : Cond.selects "PumpTalk" yX5_write yX5_write ∈ TB := tb_mem 733 (by decide +kernel) rfl
theorem q734 : Cond.code yX5_write cX5_write 5 (some .int) ∈ TB := tb_mem 734 (by decide +kernel) rfl
theorem q735 : Cond.methodLink "PumpTalk" 246 yX3_put ∈ TB := tb_mem 735 (by decide +kernel) rfl
theorem q736 : Cond.instanceMethod yX3_put ∈ TB := tb_mem 736 (by decide +kernel) rfl
theorem q737 : Cond.selects "PumpTalk$Sheet" yX3_put yX3_put ∈ TB := tb_mem 737 (by decide +kernel) rfl
theorem q738 : Cond.code yX3_put cX3_put 4 (none : Option Jvm.ClassFile.FieldType) ∈ TB := tb_mem 738 (by decide +kernel) rfl
theorem q739 : Cond.methodLink "PumpTalkLaw" 167 yX5_copy ∈ TB := tb_mem 739 (by decide +kernel) rfl
theorem q740 : Cond.instanceMethod yX5_copy ∈ TB := tb_mem 740 (by decide +kernel) rfl
theorem q741 : Cond.selects "PumpTalk" yX5_copy yX5_copy ∈ TB := tb_mem 741 (by decide +kernel) rfl
theorem q742 : Cond.code yX5_copy cX5_copy 6 (some .int) ∈ TB := tb_mem 742 (by decide +kernel) rfl
theorem q743 : Cond.methodLink "PumpTalk" 255 yX3_hasRange ∈ TB := tb_mem 743 (by decide +kernel) rfl
theorem q744 : Cond.instanceMethod yX3_hasRange ∈ TB := tb_mem 744 (by decide +kernel) rfl
theorem q745 : Cond.selects "PumpTalk$Sheet" yX3_hasRange yX3_hasRange ∈ TB := tb_mem 745 (by decide +kernel) rfl
theorem q746 : Cond.code yX3_hasRange cX3_hasRange 3 (some .boolean) ∈ TB := tb_mem 746 (by decide +kernel) rfl
theorem q747 : Cond.methodLink "PumpTalk" 261 ⟨"java/lang/System", "arraycopy", "(Ljava/lang/Object;ILjava/lang/Object;II)V"⟩ ∈ TB := tb_mem 747 (by decide +kernel) rfl
theorem q748 : Cond.methodLink "PumpTalkLaw" 172 yX5_load ∈ TB := tb_mem 748 (by decide +kernel) rfl
theorem q749 : Cond.instanceMethod yX5_load ∈ TB := tb_mem 749 (by decide +kernel) rfl
theorem q750 : Cond.selects "PumpTalk" yX5_load yX5_load ∈ TB := tb_mem 750 (by decide +kernel) rfl
theorem q751 : Cond.code yX5_load cX5_load 5 (some .int) ∈ TB := tb_mem 751 (by decide +kernel) rfl
theorem q752 : Cond.methodLink "PumpTalk" 267 yX4_setView ∈ TB := tb_mem 752 (by decide +kernel) rfl
theorem q753 : Cond.methodLink "PumpTalkLaw" 176 yX5_judge ∈ TB := tb_mem 753 (by decide +kernel) rfl
theorem q754 : Cond.instanceMethod yX5_judge ∈ TB := tb_mem 754 (by decide +kernel) rfl
theorem q755 : Cond.selects "PumpTalk" yX5_judge yX5_judge ∈ TB := tb_mem 755 (by decide +kernel) rfl
theorem q756 : Cond.code yX5_judge cX5_judge 5 (some .int) ∈ TB := tb_mem 756 (by decide +kernel) rfl
theorem q757 : Cond.methodLink "PumpTalkLaw" 180 yX5_image ∈ TB := tb_mem 757 (by decide +kernel) rfl
theorem q758 : Cond.instanceMethod yX5_image ∈ TB := tb_mem 758 (by decide +kernel) rfl
theorem q759 : Cond.selects "PumpTalk" yX5_image yX5_image ∈ TB := tb_mem 759 (by decide +kernel) rfl
theorem q760 : Cond.code yX5_image cX5_image 1 (some .int) ∈ TB := tb_mem 760 (by decide +kernel) rfl
theorem q761 : Cond.methodLink "PumpTalkLaw" 184 yX5_undo ∈ TB := tb_mem 761 (by decide +kernel) rfl
theorem q762 : Cond.instanceMethod yX5_undo ∈ TB := tb_mem 762 (by decide +kernel) rfl
theorem q763 : Cond.selects "PumpTalk" yX5_undo yX5_undo ∈ TB := tb_mem 763 (by decide +kernel) rfl
theorem q764 : Cond.code yX5_undo cX5_undo 1 (some .int) ∈ TB := tb_mem 764 (by decide +kernel) rfl
theorem q765 : Cond.methodLink "PumpTalkLaw" 188 yX5_tear ∈ TB := tb_mem 765 (by decide +kernel) rfl
theorem q766 : Cond.instanceMethod yX5_tear ∈ TB := tb_mem 766 (by decide +kernel) rfl
theorem q767 : Cond.selects "PumpTalk" yX5_tear yX5_tear ∈ TB := tb_mem 767 (by decide +kernel) rfl
theorem q768 : Cond.code yX5_tear cX5_tear 2 (some .int) ∈ TB := tb_mem 768 (by decide +kernel) rfl
theorem q769 : Cond.methodLink "PumpTalkLaw" 192 yX5_count ∈ TB := tb_mem 769 (by decide +kernel) rfl
theorem q770 : Cond.instanceMethod yX5_count ∈ TB := tb_mem 770 (by decide +kernel) rfl
theorem q771 : Cond.selects "PumpTalk" yX5_count yX5_count ∈ TB := tb_mem 771 (by decide +kernel) rfl
theorem q772 : Cond.code yX5_count cX5_count 2 (some .int) ∈ TB := tb_mem 772 (by decide +kernel) rfl
theorem q773 : Cond.methodLink "PumpTalk" 270 yX4_fullSpots ∈ TB := tb_mem 773 (by decide +kernel) rfl
theorem q774 : Cond.instanceMethod yX4_fullSpots ∈ TB := tb_mem 774 (by decide +kernel) rfl
theorem q775 : Cond.selects "PumpTalk$Square" yX4_fullSpots yX4_fullSpots ∈ TB := tb_mem 775 (by decide +kernel) rfl
theorem q776 : Cond.code yX4_fullSpots cX4_fullSpots 3 (some .int) ∈ TB := tb_mem 776 (by decide +kernel) rfl
theorem q777 : Cond.methodLink "PumpTalkLaw" 196 yX5_status ∈ TB := tb_mem 777 (by decide +kernel) rfl
theorem q778 : Cond.instanceMethod yX5_status ∈ TB := tb_mem 778 (by decide +kernel) rfl
theorem q779 : Cond.selects "PumpTalk" yX5_status yX5_status ∈ TB := tb_mem 779 (by decide +kernel) rfl
theorem q780 : Cond.code yX5_status cX5_status 4 (some .int) ∈ TB := tb_mem 780 (by decide +kernel) rfl
theorem q781 : Cond.classLink "PumpTalkLaw" 10 "PumpTalkModel" ∈ TB := tb_mem 781 (by decide +kernel) rfl
theorem q782 : Cond.instantiable "PumpTalkModel" 22 ∈ TB := tb_mem 782 (by decide +kernel) rfl
theorem q783 : Cond.methodLink "PumpTalkLaw" 12 yX6_init ∈ TB := tb_mem 783 (by decide +kernel) rfl
theorem q784 : Cond.instanceMethod yX6_init ∈ TB := tb_mem 784 (by decide +kernel) rfl
theorem q785 : Cond.code yX6_init cX6_init 2 (none : Option Jvm.ClassFile.FieldType) ∈ TB := tb_mem 785 (by decide +kernel) rfl
theorem q786 : Cond.methodLink "PumpTalkModel" 1 ⟨"java/lang/Object", "<init>", "()V"⟩ ∈ TB := tb_mem 786 (by decide +kernel) rfl
theorem q787 : Cond.fieldLink "PumpTalkModel" 7 "PumpTalkModel" "s" "[I" ∈ TB := tb_mem 787 (by decide +kernel) rfl
theorem q788 : Cond.fieldLink "PumpTalkModel" 13 "PumpTalkModel" "keptS" "[I" ∈ TB := tb_mem 788 (by decide +kernel) rfl
theorem q789 : Cond.fieldLink "PumpTalkModel" 16 "PumpTalkModel" "other" "[I" ∈ TB := tb_mem 789 (by decide +kernel) rfl
theorem q790 : Cond.fieldLink "PumpTalkModel" 19 "PumpTalkModel" "aside" "[I" ∈ TB := tb_mem 790 (by decide +kernel) rfl
theorem q791 : Cond.fieldLink "PumpTalkModel" 22 "PumpTalkModel" "statuses" "[I" ∈ TB := tb_mem 791 (by decide +kernel) rfl
theorem q792 : Cond.fieldLink "PumpTalkModel" 336 "PumpTalkModel" "isKept" "Z" ∈ TB := tb_mem 792 (by decide +kernel) rfl
theorem q793 : Cond.fieldLink "PumpTalkModel" 126 "PumpTalkModel" "came" "I" ∈ TB := tb_mem 793 (by decide +kernel) rfl
theorem q794 : Cond.fieldLink "PumpTalkModel" 25 "PumpTalkModel" "pairGives" "[I" ∈ TB := tb_mem 794 (by decide +kernel) rfl
theorem q795 : Cond.fieldLink "PumpTalkModel" 28 "PumpTalkModel" "mosts" "[I" ∈ TB := tb_mem 795 (by decide +kernel) rfl
theorem q796 : Cond.fieldLink "PumpTalkModel" 31 "PumpTalkModel" "with" "[I" ∈ TB := tb_mem 796 (by decide +kernel) rfl
theorem q797 : Cond.fieldLink "PumpTalkModel" 193 "PumpTalkModel" "fitMany" "I" ∈ TB := tb_mem 797 (by decide +kernel) rfl
theorem q798 : Cond.fieldLink "PumpTalkModel" 196 "PumpTalkModel" "fitLeast" "I" ∈ TB := tb_mem 798 (by decide +kernel) rfl
theorem q799 : Cond.fieldLink "PumpTalkModel" 34 "PumpTalkModel" "tape" "[I" ∈ TB := tb_mem 799 (by decide +kernel) rfl
theorem q800 : Cond.fieldLink "PumpTalkModel" 219 "PumpTalkModel" "taped" "I" ∈ TB := tb_mem 800 (by decide +kernel) rfl
theorem q801 : Cond.fieldLink "PumpTalkModel" 233 "PumpTalkModel" "from" "I" ∈ TB := tb_mem 801 (by decide +kernel) rfl
theorem q802 : Cond.fieldLink "PumpTalkModel" 230 "PumpTalkModel" "to" "I" ∈ TB := tb_mem 802 (by decide +kernel) rfl
theorem q803 : Cond.fieldLink "PumpTalkModel" 256 "PumpTalkModel" "value" "I" ∈ TB := tb_mem 803 (by decide +kernel) rfl
theorem q804 : Cond.fieldLink "PumpTalkModel" 245 "PumpTalkModel" "isWrong" "Z" ∈ TB := tb_mem 804 (by decide +kernel) rfl
theorem q805 : Cond.fieldLink "PumpTalkModel" 37 "PumpTalkModel" "bitsOf" "[I" ∈ TB := tb_mem 805 (by decide +kernel) rfl
theorem q806 : Cond.fieldLink "PumpTalkModel" 40 "PumpTalkModel" "sizeOf" "[I" ∈ TB := tb_mem 806 (by decide +kernel) rfl
theorem q807 : Cond.fieldLink "PumpTalkModel" 43 "PumpTalkModel" "numbers" "[I" ∈ TB := tb_mem 807 (by decide +kernel) rfl
theorem q808 : Cond.fieldLink "PumpTalkModel" 46 "PumpTalkModel" "moved" "[I" ∈ TB := tb_mem 808 (by decide +kernel) rfl
theorem q809 : Cond.laysFinal "PumpTalkModel" "PumpTalkModel" "s" "[I" ∈ TB := tb_mem 809 (by decide +kernel) rfl
theorem q810 : Cond.soleField "PumpTalkModel" "s" ∈ TB := tb_mem 810 (by decide +kernel) rfl
theorem q811 : Cond.laysFinal "PumpTalkModel" "PumpTalkModel" "keptS" "[I" ∈ TB := tb_mem 811 (by decide +kernel) rfl
theorem q812 : Cond.soleField "PumpTalkModel" "keptS" ∈ TB := tb_mem 812 (by decide +kernel) rfl
theorem q813 : Cond.laysFinal "PumpTalkModel" "PumpTalkModel" "other" "[I" ∈ TB := tb_mem 813 (by decide +kernel) rfl
theorem q814 : Cond.soleField "PumpTalkModel" "other" ∈ TB := tb_mem 814 (by decide +kernel) rfl
theorem q815 : Cond.laysFinal "PumpTalkModel" "PumpTalkModel" "aside" "[I" ∈ TB := tb_mem 815 (by decide +kernel) rfl
theorem q816 : Cond.soleField "PumpTalkModel" "aside" ∈ TB := tb_mem 816 (by decide +kernel) rfl
theorem q817 : Cond.laysFinal "PumpTalkModel" "PumpTalkModel" "statuses" "[I" ∈ TB := tb_mem 817 (by decide +kernel) rfl
theorem q818 : Cond.soleField "PumpTalkModel" "statuses" ∈ TB := tb_mem 818 (by decide +kernel) rfl
theorem q819 : Cond.lays "PumpTalkModel" "PumpTalkModel" "isKept" "Z" ∈ TB := tb_mem 819 (by decide +kernel) rfl
theorem q820 : Cond.soleField "PumpTalkModel" "isKept" ∈ TB := tb_mem 820 (by decide +kernel) rfl
theorem q821 : Cond.lays "PumpTalkModel" "PumpTalkModel" "came" "I" ∈ TB := tb_mem 821 (by decide +kernel) rfl
theorem q822 : Cond.soleField "PumpTalkModel" "came" ∈ TB := tb_mem 822 (by decide +kernel) rfl
theorem q823 : Cond.laysFinal "PumpTalkModel" "PumpTalkModel" "pairGives" "[I" ∈ TB := tb_mem 823 (by decide +kernel) rfl
theorem q824 : Cond.soleField "PumpTalkModel" "pairGives" ∈ TB := tb_mem 824 (by decide +kernel) rfl
theorem q825 : Cond.laysFinal "PumpTalkModel" "PumpTalkModel" "mosts" "[I" ∈ TB := tb_mem 825 (by decide +kernel) rfl
theorem q826 : Cond.soleField "PumpTalkModel" "mosts" ∈ TB := tb_mem 826 (by decide +kernel) rfl
theorem q827 : Cond.laysFinal "PumpTalkModel" "PumpTalkModel" "with" "[I" ∈ TB := tb_mem 827 (by decide +kernel) rfl
theorem q828 : Cond.soleField "PumpTalkModel" "with" ∈ TB := tb_mem 828 (by decide +kernel) rfl
theorem q829 : Cond.lays "PumpTalkModel" "PumpTalkModel" "fitMany" "I" ∈ TB := tb_mem 829 (by decide +kernel) rfl
theorem q830 : Cond.soleField "PumpTalkModel" "fitMany" ∈ TB := tb_mem 830 (by decide +kernel) rfl
theorem q831 : Cond.lays "PumpTalkModel" "PumpTalkModel" "fitLeast" "I" ∈ TB := tb_mem 831 (by decide +kernel) rfl
theorem q832 : Cond.soleField "PumpTalkModel" "fitLeast" ∈ TB := tb_mem 832 (by decide +kernel) rfl
theorem q833 : Cond.laysFinal "PumpTalkModel" "PumpTalkModel" "tape" "[I" ∈ TB := tb_mem 833 (by decide +kernel) rfl
theorem q834 : Cond.soleField "PumpTalkModel" "tape" ∈ TB := tb_mem 834 (by decide +kernel) rfl
theorem q835 : Cond.lays "PumpTalkModel" "PumpTalkModel" "taped" "I" ∈ TB := tb_mem 835 (by decide +kernel) rfl
theorem q836 : Cond.soleField "PumpTalkModel" "taped" ∈ TB := tb_mem 836 (by decide +kernel) rfl
theorem q837 : Cond.lays "PumpTalkModel" "PumpTalkModel" "from" "I" ∈ TB := tb_mem 837 (by decide +kernel) rfl
theorem q838 : Cond.soleField "PumpTalkModel" "from" ∈ TB := tb_mem 838 (by decide +kernel) rfl
theorem q839 : Cond.lays "PumpTalkModel" "PumpTalkModel" "to" "I" ∈ TB := tb_mem 839 (by decide +kernel) rfl
theorem q840 : Cond.soleField "PumpTalkModel" "to" ∈ TB := tb_mem 840 (by decide +kernel) rfl
theorem q841 : Cond.lays "PumpTalkModel" "PumpTalkModel" "value" "I" ∈ TB := tb_mem 841 (by decide +kernel) rfl
theorem q842 : Cond.soleField "PumpTalkModel" "value" ∈ TB := tb_mem 842 (by decide +kernel) rfl
theorem q843 : Cond.lays "PumpTalkModel" "PumpTalkModel" "isWrong" "Z" ∈ TB := tb_mem 843 (by decide +kernel) rfl
theorem q844 : Cond.soleField "PumpTalkModel" "isWrong" ∈ TB := tb_mem 844 (by decide +kernel) rfl
theorem q845 : Cond.laysFinal "PumpTalkModel" "PumpTalkModel" "bitsOf" "[I" ∈ TB := tb_mem 845 (by decide +kernel) rfl
theorem q846 : Cond.soleField "PumpTalkModel" "bitsOf" ∈ TB := tb_mem 846 (by decide +kernel) rfl
theorem q847 : Cond.laysFinal "PumpTalkModel" "PumpTalkModel" "sizeOf" "[I" ∈ TB := tb_mem 847 (by decide +kernel) rfl
theorem q848 : Cond.soleField "PumpTalkModel" "sizeOf" ∈ TB := tb_mem 848 (by decide +kernel) rfl
theorem q849 : Cond.laysFinal "PumpTalkModel" "PumpTalkModel" "numbers" "[I" ∈ TB := tb_mem 849 (by decide +kernel) rfl
theorem q850 : Cond.soleField "PumpTalkModel" "numbers" ∈ TB := tb_mem 850 (by decide +kernel) rfl
theorem q851 : Cond.laysFinal "PumpTalkModel" "PumpTalkModel" "moved" "[I" ∈ TB := tb_mem 851 (by decide +kernel) rfl
theorem q852 : Cond.soleField "PumpTalkModel" "moved" ∈ TB := tb_mem 852 (by decide +kernel) rfl
theorem q854 : Cond.methodLink "PumpTalkLaw" 17 yX6_person ∈ TB := tb_mem 854 (by decide +kernel) rfl
theorem q855 : Cond.instanceMethod yX6_person ∈ TB := tb_mem 855 (by decide +kernel) rfl
theorem q856 : Cond.selects "PumpTalkModel" yX6_person yX6_person ∈ TB := tb_mem 856 (by decide +kernel) rfl
theorem q857 : Cond.code yX6_person cX6_person 2 (some .int) ∈ TB := tb_mem 857 (by decide +kernel) rfl
theorem q858 : Cond.methodLink "PumpTalkModel" 70 yX6_isKind ∈ TB := tb_mem 858 (by decide +kernel) rfl
theorem q859 : Cond.static yX6_isKind ∈ TB := tb_mem 859 (by decide +kernel) rfl
theorem q860 : Cond.code yX6_isKind cX6_isKind 1 (some .boolean) ∈ TB := tb_mem 860 (by decide +kernel) rfl
theorem q861 : Cond.constantLong "PumpTalkModel" 60 6 ∈ TB := tb_mem 861 (by decide +kernel) rfl
theorem q862 : Cond.methodLink "PumpTalkModel" 52 yX6_in ∈ TB := tb_mem 862 (by decide +kernel) rfl
theorem q863 : Cond.static yX6_in ∈ TB := tb_mem 863 (by decide +kernel) rfl
theorem q864 : Cond.code yX6_in cX6_in 6 (some .boolean) ∈ TB := tb_mem 864 (by decide +kernel) rfl
theorem q865 : Cond.constant "PumpTalkModel" 49 (-1000001) ∈ TB := tb_mem 865 (by decide +kernel) rfl
theorem q866 : Cond.methodLink "PumpTalkModel" 73 yX6_finds ∈ TB := tb_mem 866 (by decide +kernel) rfl
theorem q868 : Cond.instanceMethod yX6_finds ∈ TB := tb_mem 868 (by decide +kernel) rfl
theorem q869 : Cond.code yX6_finds cX6_finds 2 (some .int) ∈ TB := tb_mem 869 (by decide +kernel) rfl
theorem q870 : Cond.constant "PumpTalkModel" 77 (-1000002) ∈ TB := tb_mem 870 (by decide +kernel) rfl
theorem q871 : Cond.methodLink "PumpTalkModel" 78 yX6_adds ∈ TB := tb_mem 871 (by decide +kernel) rfl
theorem q873 : Cond.instanceMethod yX6_adds ∈ TB := tb_mem 873 (by decide +kernel) rfl
theorem q874 : Cond.code yX6_adds cX6_adds 4 (some .int) ∈ TB := tb_mem 874 (by decide +kernel) rfl
theorem q875 : Cond.methodLink "PumpTalkModel" 66 yX6_place ∈ TB := tb_mem 875 (by decide +kernel) rfl
theorem q876 : Cond.static yX6_place ∈ TB := tb_mem 876 (by decide +kernel) rfl
theorem q877 : Cond.code yX6_place cX6_place 2 (some .int) ∈ TB := tb_mem 877 (by decide +kernel) rfl
theorem q878 : Cond.methodLink "PumpTalkLaw" 22 yX6_of ∈ TB := tb_mem 878 (by decide +kernel) rfl
theorem q879 : Cond.instanceMethod yX6_of ∈ TB := tb_mem 879 (by decide +kernel) rfl
theorem q880 : Cond.selects "PumpTalkModel" yX6_of yX6_of ∈ TB := tb_mem 880 (by decide +kernel) rfl
theorem q881 : Cond.code yX6_of cX6_of 3 (some .int) ∈ TB := tb_mem 881 (by decide +kernel) rfl
theorem q882 : Cond.methodLink "PumpTalkModel" 56 yX6_isPerson ∈ TB := tb_mem 882 (by decide +kernel) rfl
theorem q884 : Cond.instanceMethod yX6_isPerson ∈ TB := tb_mem 884 (by decide +kernel) rfl
theorem q885 : Cond.code yX6_isPerson cX6_isPerson 2 (some .boolean) ∈ TB := tb_mem 885 (by decide +kernel) rfl
theorem q886 : Cond.constantLong "PumpTalkModel" 81 8 ∈ TB := tb_mem 886 (by decide +kernel) rfl
theorem q887 : Cond.methodLink "PumpTalkModel" 83 yX6_its ∈ TB := tb_mem 887 (by decide +kernel) rfl
theorem q889 : Cond.instanceMethod yX6_its ∈ TB := tb_mem 889 (by decide +kernel) rfl
theorem q890 : Cond.code yX6_its cX6_its 3 (some .int) ∈ TB := tb_mem 890 (by decide +kernel) rfl
theorem q891 : Cond.methodLink "PumpTalkLaw" 27 yX6_change ∈ TB := tb_mem 891 (by decide +kernel) rfl
theorem q892 : Cond.instanceMethod yX6_change ∈ TB := tb_mem 892 (by decide +kernel) rfl
theorem q893 : Cond.selects "PumpTalkModel" yX6_change yX6_change ∈ TB := tb_mem 893 (by decide +kernel) rfl
theorem q894 : Cond.code yX6_change cX6_change 5 (some .int) ∈ TB := tb_mem 894 (by decide +kernel) rfl
theorem q895 : Cond.constantLong "PumpTalkModel" 64 9 ∈ TB := tb_mem 895 (by decide +kernel) rfl
theorem q896 : Cond.constantLong "PumpTalkModel" 86 2 ∈ TB := tb_mem 896 (by decide +kernel) rfl
theorem q897 : Cond.constantLong "PumpTalkModel" 88 7 ∈ TB := tb_mem 897 (by decide +kernel) rfl
theorem q898 : Cond.methodLink "PumpTalkModel" 90 yX6_isView ∈ TB := tb_mem 898 (by decide +kernel) rfl
theorem q899 : Cond.static yX6_isView ∈ TB := tb_mem 899 (by decide +kernel) rfl
theorem q900 : Cond.code yX6_isView cX6_isView 1 (some .boolean) ∈ TB := tb_mem 900 (by decide +kernel) rfl
theorem q901 : Cond.constantLong "PumpTalkModel" 62 (-9) ∈ TB := tb_mem 901 (by decide +kernel) rfl
theorem q902 : Cond.methodLink "PumpTalkModel" 93 yX6_becomes ∈ TB := tb_mem 902 (by decide +kernel) rfl
theorem q904 : Cond.instanceMethod yX6_becomes ∈ TB := tb_mem 904 (by decide +kernel) rfl
theorem q905 : Cond.code yX6_becomes cX6_becomes 4 (some .int) ∈ TB := tb_mem 905 (by decide +kernel) rfl
theorem q906 : Cond.methodLink "PumpTalkLaw" 31 yX6_reply ∈ TB := tb_mem 906 (by decide +kernel) rfl
theorem q907 : Cond.instanceMethod yX6_reply ∈ TB := tb_mem 907 (by decide +kernel) rfl
theorem q908 : Cond.selects "PumpTalkModel" yX6_reply yX6_reply ∈ TB := tb_mem 908 (by decide +kernel) rfl
theorem q909 : Cond.code yX6_reply cX6_reply 4 (some .int) ∈ TB := tb_mem 909 (by decide +kernel) rfl
theorem q910 : Cond.constantLong "PumpTalkModel" 96 18 ∈ TB := tb_mem 910 (by decide +kernel) rfl
theorem q911 : Cond.methodLink "PumpTalkModel" 98 yX6_moves ∈ TB := tb_mem 911 (by decide +kernel) rfl
theorem q913 : Cond.instanceMethod yX6_moves ∈ TB := tb_mem 913 (by decide +kernel) rfl
theorem q914 : Cond.code yX6_moves cX6_moves 4 (some .int) ∈ TB := tb_mem 914 (by decide +kernel) rfl
theorem q915 : Cond.methodLink "PumpTalkModel" 101 yX6_strokes ∈ TB := tb_mem 915 (by decide +kernel) rfl
theorem q917 : Cond.instanceMethod yX6_strokes ∈ TB := tb_mem 917 (by decide +kernel) rfl
theorem q918 : Cond.code yX6_strokes cX6_strokes 5 (some .int) ∈ TB := tb_mem 918 (by decide +kernel) rfl
theorem q919 : Cond.methodLink "PumpTalkLaw" 35 yX6_apart ∈ TB := tb_mem 919 (by decide +kernel) rfl
theorem q920 : Cond.instanceMethod yX6_apart ∈ TB := tb_mem 920 (by decide +kernel) rfl
theorem q921 : Cond.selects "PumpTalkModel" yX6_apart yX6_apart ∈ TB := tb_mem 921 (by decide +kernel) rfl
theorem q922 : Cond.code yX6_apart cX6_apart 4 (some .int) ∈ TB := tb_mem 922 (by decide +kernel) rfl
theorem q923 : Cond.methodLink "PumpTalkModel" 104 yX6_isSubject ∈ TB := tb_mem 923 (by decide +kernel) rfl
theorem q924 : Cond.static yX6_isSubject ∈ TB := tb_mem 924 (by decide +kernel) rfl
theorem q925 : Cond.code yX6_isSubject cX6_isSubject 1 (some .boolean) ∈ TB := tb_mem 925 (by decide +kernel) rfl
theorem q926 : Cond.constantLong "PumpTalkModel" 50 5 ∈ TB := tb_mem 926 (by decide +kernel) rfl
theorem q927 : Cond.methodLink "PumpTalkModel" 107 yX6_apartOn ∈ TB := tb_mem 927 (by decide +kernel) rfl
theorem q929 : Cond.instanceMethod yX6_apartOn ∈ TB := tb_mem 929 (by decide +kernel) rfl
theorem q930 : Cond.code yX6_apartOn cX6_apartOn 5 (some .int) ∈ TB := tb_mem 930 (by decide +kernel) rfl
theorem q931 : Cond.methodLink "PumpTalkLaw" 39 yX6_pair ∈ TB := tb_mem 931 (by decide +kernel) rfl
theorem q932 : Cond.instanceMethod yX6_pair ∈ TB := tb_mem 932 (by decide +kernel) rfl
theorem q933 : Cond.selects "PumpTalkModel" yX6_pair yX6_pair ∈ TB := tb_mem 933 (by decide +kernel) rfl
theorem q934 : Cond.code yX6_pair cX6_pair 3 (some .int) ∈ TB := tb_mem 934 (by decide +kernel) rfl
theorem q935 : Cond.methodLink "PumpTalkModel" 115 yX6_areTwo ∈ TB := tb_mem 935 (by decide +kernel) rfl
theorem q937 : Cond.instanceMethod yX6_areTwo ∈ TB := tb_mem 937 (by decide +kernel) rfl
theorem q938 : Cond.code yX6_areTwo cX6_areTwo 3 (some .boolean) ∈ TB := tb_mem 938 (by decide +kernel) rfl
theorem q939 : Cond.methodLink "PumpTalkModel" 119 yX6_disputed ∈ TB := tb_mem 939 (by decide +kernel) rfl
theorem q941 : Cond.instanceMethod yX6_disputed ∈ TB := tb_mem 941 (by decide +kernel) rfl
theorem q942 : Cond.code yX6_disputed cX6_disputed 3 (some .int) ∈ TB := tb_mem 942 (by decide +kernel) rfl
theorem q943 : Cond.methodLink "PumpTalkModel" 111 yX6_isSomebody ∈ TB := tb_mem 943 (by decide +kernel) rfl
theorem q945 : Cond.instanceMethod yX6_isSomebody ∈ TB := tb_mem 945 (by decide +kernel) rfl
theorem q946 : Cond.code yX6_isSomebody cX6_isSomebody 1 (some .boolean) ∈ TB := tb_mem 946 (by decide +kernel) rfl
theorem q947 : Cond.methodLink "PumpTalkModel" 123 yX6_ones ∈ TB := tb_mem 947 (by decide +kernel) rfl
theorem q948 : Cond.static yX6_ones ∈ TB := tb_mem 948 (by decide +kernel) rfl
theorem q949 : Cond.code yX6_ones cX6_ones 3 (some .int) ∈ TB := tb_mem 949 (by decide +kernel) rfl
theorem q950 : Cond.methodLink "PumpTalkLaw" 44 yX6_rest ∈ TB := tb_mem 950 (by decide +kernel) rfl
theorem q951 : Cond.instanceMethod yX6_rest ∈ TB := tb_mem 951 (by decide +kernel) rfl
theorem q952 : Cond.selects "PumpTalkModel" yX6_rest yX6_rest ∈ TB := tb_mem 952 (by decide +kernel) rfl
theorem q953 : Cond.code yX6_rest cX6_rest 2 (some .int) ∈ TB := tb_mem 953 (by decide +kernel) rfl
theorem q954 : Cond.methodLink "PumpTalkLaw" 48 yX6_subject ∈ TB := tb_mem 954 (by decide +kernel) rfl
theorem q955 : Cond.instanceMethod yX6_subject ∈ TB := tb_mem 955 (by decide +kernel) rfl
theorem q956 : Cond.selects "PumpTalkModel" yX6_subject yX6_subject ∈ TB := tb_mem 956 (by decide +kernel) rfl
theorem q957 : Cond.code yX6_subject cX6_subject 2 (some .int) ∈ TB := tb_mem 957 (by decide +kernel) rfl
theorem q958 : Cond.methodLink "PumpTalkLaw" 52 yX6_go ∈ TB := tb_mem 958 (by decide +kernel) rfl
theorem q959 : Cond.instanceMethod yX6_go ∈ TB := tb_mem 959 (by decide +kernel) rfl
theorem q960 : Cond.selects "PumpTalkModel" yX6_go yX6_go ∈ TB := tb_mem 960 (by decide +kernel) rfl
theorem q961 : Cond.code yX6_go cX6_go 2 (some .int) ∈ TB := tb_mem 961 (by decide +kernel) rfl
theorem q962 : Cond.constantLong "PumpTalkModel" 141 100 ∈ TB := tb_mem 962 (by decide +kernel) rfl
theorem q963 : Cond.constant "PumpTalkModel" 143 99999 ∈ TB := tb_mem 963 (by decide +kernel) rfl
theorem q964 : Cond.constant "PumpTalkModel" 144 (-1000005) ∈ TB := tb_mem 964 (by decide +kernel) rfl
theorem q965 : Cond.methodLink "PumpTalkModel" 145 yX6_goesOn ∈ TB := tb_mem 965 (by decide +kernel) rfl
theorem q967 : Cond.instanceMethod yX6_goesOn ∈ TB := tb_mem 967 (by decide +kernel) rfl
theorem q968 : Cond.code yX6_goesOn cX6_goesOn 3 (none : Option Jvm.ClassFile.FieldType) ∈ TB := tb_mem 968 (by decide +kernel) rfl
theorem q969 : Cond.methodLink "PumpTalkModel" 138 yX6_minute ∈ TB := tb_mem 969 (by decide +kernel) rfl
theorem q971 : Cond.instanceMethod yX6_minute ∈ TB := tb_mem 971 (by decide +kernel) rfl
theorem q972 : Cond.code yX6_minute cX6_minute 2 (none : Option Jvm.ClassFile.FieldType) ∈ TB := tb_mem 972 (by decide +kernel) rfl
theorem q973 : Cond.methodLink "PumpTalkModel" 134 yX6_replies ∈ TB := tb_mem 973 (by decide +kernel) rfl
theorem q975 : Cond.instanceMethod yX6_replies ∈ TB := tb_mem 975 (by decide +kernel) rfl
theorem q976 : Cond.code yX6_replies cX6_replies 7 (none : Option Jvm.ClassFile.FieldType) ∈ TB := tb_mem 976 (by decide +kernel) rfl
theorem q977 : Cond.constant "PumpTalkModel" 130 999999 ∈ TB := tb_mem 977 (by decide +kernel) rfl
theorem q978 : Cond.methodLink "PumpTalkModel" 131 yX6_heldView ∈ TB := tb_mem 978 (by decide +kernel) rfl
theorem q979 : Cond.static yX6_heldView ∈ TB := tb_mem 979 (by decide +kernel) rfl
theorem q980 : Cond.code yX6_heldView cX6_heldView 1 (some .int) ∈ TB := tb_mem 980 (by decide +kernel) rfl
theorem q981 : Cond.methodLink "PumpTalkLaw" 56 yX6_now ∈ TB := tb_mem 981 (by decide +kernel) rfl
theorem q982 : Cond.instanceMethod yX6_now ∈ TB := tb_mem 982 (by decide +kernel) rfl
theorem q983 : Cond.selects "PumpTalkModel" yX6_now yX6_now ∈ TB := tb_mem 983 (by decide +kernel) rfl
theorem q984 : Cond.code yX6_now cX6_now 2 (some .int) ∈ TB := tb_mem 984 (by decide +kernel) rfl
theorem q985 : Cond.methodLink "PumpTalkModel" 148 yX6_voices ∈ TB := tb_mem 985 (by decide +kernel) rfl
theorem q987 : Cond.instanceMethod yX6_voices ∈ TB := tb_mem 987 (by decide +kernel) rfl
theorem q988 : Cond.code yX6_voices cX6_voices 3 (some .int) ∈ TB := tb_mem 988 (by decide +kernel) rfl
theorem q989 : Cond.methodLink "PumpTalkLaw" 60 yX6_ahead ∈ TB := tb_mem 989 (by decide +kernel) rfl
theorem q990 : Cond.instanceMethod yX6_ahead ∈ TB := tb_mem 990 (by decide +kernel) rfl
theorem q991 : Cond.selects "PumpTalkModel" yX6_ahead yX6_ahead ∈ TB := tb_mem 991 (by decide +kernel) rfl
theorem q992 : Cond.code yX6_ahead cX6_ahead 2 (some .int) ∈ TB := tb_mem 992 (by decide +kernel) rfl
theorem q993 : Cond.constantLong "PumpTalkModel" 157 200 ∈ TB := tb_mem 993 (by decide +kernel) rfl
theorem q994 : Cond.methodLink "PumpTalkModel" 159 yX6_behind ∈ TB := tb_mem 994 (by decide +kernel) rfl
theorem q996 : Cond.instanceMethod yX6_behind ∈ TB := tb_mem 996 (by decide +kernel) rfl
theorem q997 : Cond.code yX6_behind cX6_behind 3 (some .int) ∈ TB := tb_mem 997 (by decide +kernel) rfl
theorem q998 : Cond.methodLink "PumpTalkModel" 151 yX6_laysAside ∈ TB := tb_mem 998 (by decide +kernel) rfl
theorem q1000 : Cond.instanceMethod yX6_laysAside ∈ TB := tb_mem 1000 (by decide +kernel) rfl
theorem q1001 : Cond.code yX6_laysAside cX6_laysAside 2 (none : Option Jvm.ClassFile.FieldType) ∈ TB := tb_mem 1001 (by decide +kernel) rfl
theorem q1002 : Cond.methodLink "PumpTalkModel" 154 yX6_takesBack ∈ TB := tb_mem 1002 (by decide +kernel) rfl
theorem q1004 : Cond.instanceMethod yX6_takesBack ∈ TB := tb_mem 1004 (by decide +kernel) rfl
theorem q1005 : Cond.code yX6_takesBack cX6_takesBack 3 (some .int) ∈ TB := tb_mem 1005 (by decide +kernel) rfl
theorem q1006 : Cond.methodLink "PumpTalkLaw" 64 yX6_view ∈ TB := tb_mem 1006 (by decide +kernel) rfl
theorem q1007 : Cond.instanceMethod yX6_view ∈ TB := tb_mem 1007 (by decide +kernel) rfl
theorem q1008 : Cond.selects "PumpTalkModel" yX6_view yX6_view ∈ TB := tb_mem 1008 (by decide +kernel) rfl
theorem q1009 : Cond.code yX6_view cX6_view 4 (some .int) ∈ TB := tb_mem 1009 (by decide +kernel) rfl
theorem q1010 : Cond.methodLink "PumpTalkLaw" 68 yX6_dry ∈ TB := tb_mem 1010 (by decide +kernel) rfl
theorem q1011 : Cond.instanceMethod yX6_dry ∈ TB := tb_mem 1011 (by decide +kernel) rfl
theorem q1012 : Cond.selects "PumpTalkModel" yX6_dry yX6_dry ∈ TB := tb_mem 1012 (by decide +kernel) rfl
theorem q1013 : Cond.code yX6_dry cX6_dry 2 (some .int) ∈ TB := tb_mem 1013 (by decide +kernel) rfl
theorem q1014 : Cond.methodLink "PumpTalkModel" 163 yX6_orNone ∈ TB := tb_mem 1014 (by decide +kernel) rfl
theorem q1016 : Cond.instanceMethod yX6_orNone ∈ TB := tb_mem 1016 (by decide +kernel) rfl
theorem q1017 : Cond.code yX6_orNone cX6_orNone 2 (some .int) ∈ TB := tb_mem 1017 (by decide +kernel) rfl
theorem q1018 : Cond.constant "PumpTalkModel" 162 (-1000004) ∈ TB := tb_mem 1018 (by decide +kernel) rfl
theorem q1019 : Cond.methodLink "PumpTalkLaw" 72 yX6_filled ∈ TB := tb_mem 1019 (by decide +kernel) rfl
theorem q1020 : Cond.instanceMethod yX6_filled ∈ TB := tb_mem 1020 (by decide +kernel) rfl
theorem q1021 : Cond.selects "PumpTalkModel" yX6_filled yX6_filled ∈ TB := tb_mem 1021 (by decide +kernel) rfl
theorem q1022 : Cond.code yX6_filled cX6_filled 3 (some .int) ∈ TB := tb_mem 1022 (by decide +kernel) rfl
theorem q1023 : Cond.constantLong "PumpTalkModel" 166 999999 ∈ TB := tb_mem 1023 (by decide +kernel) rfl
theorem q1024 : Cond.methodLink "PumpTalkLaw" 76 yX6_round ∈ TB := tb_mem 1024 (by decide +kernel) rfl
theorem q1025 : Cond.instanceMethod yX6_round ∈ TB := tb_mem 1025 (by decide +kernel) rfl
theorem q1026 : Cond.selects "PumpTalkModel" yX6_round yX6_round ∈ TB := tb_mem 1026 (by decide +kernel) rfl
theorem q1027 : Cond.code yX6_round cX6_round 2 (some .int) ∈ TB := tb_mem 1027 (by decide +kernel) rfl
theorem q1028 : Cond.methodLink "PumpTalkModel" 168 yX6_isAsAside ∈ TB := tb_mem 1028 (by decide +kernel) rfl
theorem q1030 : Cond.instanceMethod yX6_isAsAside ∈ TB := tb_mem 1030 (by decide +kernel) rfl
theorem q1031 : Cond.code yX6_isAsAside cX6_isAsAside 3 (some .boolean) ∈ TB := tb_mem 1031 (by decide +kernel) rfl
theorem q1032 : Cond.methodLink "PumpTalkLaw" 80 yX6_gives ∈ TB := tb_mem 1032 (by decide +kernel) rfl
theorem q1033 : Cond.instanceMethod yX6_gives ∈ TB := tb_mem 1033 (by decide +kernel) rfl
theorem q1034 : Cond.selects "PumpTalkModel" yX6_gives yX6_gives ∈ TB := tb_mem 1034 (by decide +kernel) rfl
theorem q1035 : Cond.code yX6_gives cX6_gives 4 (some .int) ∈ TB := tb_mem 1035 (by decide +kernel) rfl
theorem q1036 : Cond.methodLink "PumpTalkModel" 173 yX6_isSoon ∈ TB := tb_mem 1036 (by decide +kernel) rfl
theorem q1037 : Cond.static yX6_isSoon ∈ TB := tb_mem 1037 (by decide +kernel) rfl
theorem q1038 : Cond.code yX6_isSoon cX6_isSoon 1 (some .boolean) ∈ TB := tb_mem 1038 (by decide +kernel) rfl
theorem q1039 : Cond.constantLong "PumpTalkModel" 171 60 ∈ TB := tb_mem 1039 (by decide +kernel) rfl
theorem q1040 : Cond.methodLink "PumpTalkModel" 176 yX6_given ∈ TB := tb_mem 1040 (by decide +kernel) rfl
theorem q1042 : Cond.instanceMethod yX6_given ∈ TB := tb_mem 1042 (by decide +kernel) rfl
theorem q1043 : Cond.code yX6_given cX6_given 4 (some .int) ∈ TB := tb_mem 1043 (by decide +kernel) rfl
theorem q1044 : Cond.methodLink "PumpTalkLaw" 84 yX6_best ∈ TB := tb_mem 1044 (by decide +kernel) rfl
theorem q1045 : Cond.instanceMethod yX6_best ∈ TB := tb_mem 1045 (by decide +kernel) rfl
theorem q1046 : Cond.selects "PumpTalkModel" yX6_best yX6_best ∈ TB := tb_mem 1046 (by decide +kernel) rfl
theorem q1047 : Cond.code yX6_best cX6_best 7 (some .int) ∈ TB := tb_mem 1047 (by decide +kernel) rfl
theorem q1048 : Cond.methodLink "PumpTalkLaw" 88 yX6_partner ∈ TB := tb_mem 1048 (by decide +kernel) rfl
theorem q1049 : Cond.instanceMethod yX6_partner ∈ TB := tb_mem 1049 (by decide +kernel) rfl
theorem q1050 : Cond.selects "PumpTalkModel" yX6_partner yX6_partner ∈ TB := tb_mem 1050 (by decide +kernel) rfl
theorem q1051 : Cond.code yX6_partner cX6_partner 7 (some .int) ∈ TB := tb_mem 1051 (by decide +kernel) rfl
theorem q1052 : Cond.methodLink "PumpTalkLaw" 92 yX6_subjectFor ∈ TB := tb_mem 1052 (by decide +kernel) rfl
theorem q1053 : Cond.instanceMethod yX6_subjectFor ∈ TB := tb_mem 1053 (by decide +kernel) rfl
theorem q1054 : Cond.selects "PumpTalkModel" yX6_subjectFor yX6_subjectFor ∈ TB := tb_mem 1054 (by decide +kernel) rfl
theorem q1055 : Cond.code yX6_subjectFor cX6_subjectFor 4 (some .int) ∈ TB := tb_mem 1055 (by decide +kernel) rfl
theorem q1056 : Cond.methodLink "PumpTalkModel" 179 yX6_mostBy ∈ TB := tb_mem 1056 (by decide +kernel) rfl
theorem q1058 : Cond.instanceMethod yX6_mostBy ∈ TB := tb_mem 1058 (by decide +kernel) rfl
theorem q1059 : Cond.code yX6_mostBy cX6_mostBy 12 (some .int) ∈ TB := tb_mem 1059 (by decide +kernel) rfl
theorem q1060 : Cond.methodLink "PumpTalkLaw" 96 yX6_matched ∈ TB := tb_mem 1060 (by decide +kernel) rfl
theorem q1061 : Cond.instanceMethod yX6_matched ∈ TB := tb_mem 1061 (by decide +kernel) rfl
theorem q1062 : Cond.selects "PumpTalkModel" yX6_matched yX6_matched ∈ TB := tb_mem 1062 (by decide +kernel) rfl
theorem q1063 : Cond.code yX6_matched cX6_matched 2 (some .int) ∈ TB := tb_mem 1063 (by decide +kernel) rfl
theorem q1064 : Cond.constantLong "PumpTalkModel" 183 30 ∈ TB := tb_mem 1064 (by decide +kernel) rfl
theorem q1065 : Cond.methodLink "PumpTalkModel" 185 yX6_findMatches ∈ TB := tb_mem 1065 (by decide +kernel) rfl
theorem q1067 : Cond.instanceMethod yX6_findMatches ∈ TB := tb_mem 1067 (by decide +kernel) rfl
theorem q1068 : Cond.code yX6_findMatches cX6_findMatches 7 (none : Option Jvm.ClassFile.FieldType) ∈ TB := tb_mem 1068 (by decide +kernel) rfl
theorem q1069 : Cond.methodLink "PumpTalkLaw" 100 yX6_matchOf ∈ TB := tb_mem 1069 (by decide +kernel) rfl
theorem q1070 : Cond.instanceMethod yX6_matchOf ∈ TB := tb_mem 1070 (by decide +kernel) rfl
theorem q1071 : Cond.selects "PumpTalkModel" yX6_matchOf yX6_matchOf ∈ TB := tb_mem 1071 (by decide +kernel) rfl
theorem q1072 : Cond.code yX6_matchOf cX6_matchOf 8 (some .int) ∈ TB := tb_mem 1072 (by decide +kernel) rfl
theorem q1073 : Cond.methodLink "PumpTalkLaw" 104 yX6_kindFor ∈ TB := tb_mem 1073 (by decide +kernel) rfl
theorem q1074 : Cond.instanceMethod yX6_kindFor ∈ TB := tb_mem 1074 (by decide +kernel) rfl
theorem q1075 : Cond.selects "PumpTalkModel" yX6_kindFor yX6_kindFor ∈ TB := tb_mem 1075 (by decide +kernel) rfl
theorem q1076 : Cond.code yX6_kindFor cX6_kindFor 4 (some .int) ∈ TB := tb_mem 1076 (by decide +kernel) rfl
theorem q1077 : Cond.methodLink "PumpTalkLaw" 109 yX6_viewFor ∈ TB := tb_mem 1077 (by decide +kernel) rfl
theorem q1078 : Cond.instanceMethod yX6_viewFor ∈ TB := tb_mem 1078 (by decide +kernel) rfl
theorem q1079 : Cond.selects "PumpTalkModel" yX6_viewFor yX6_viewFor ∈ TB := tb_mem 1079 (by decide +kernel) rfl
theorem q1080 : Cond.code yX6_viewFor cX6_viewFor 5 (some .int) ∈ TB := tb_mem 1080 (by decide +kernel) rfl
theorem q1081 : Cond.methodLink "PumpTalkLaw" 113 yX6_voiceFor ∈ TB := tb_mem 1081 (by decide +kernel) rfl
theorem q1082 : Cond.instanceMethod yX6_voiceFor ∈ TB := tb_mem 1082 (by decide +kernel) rfl
theorem q1083 : Cond.selects "PumpTalkModel" yX6_voiceFor yX6_voiceFor ∈ TB := tb_mem 1083 (by decide +kernel) rfl
theorem q1084 : Cond.code yX6_voiceFor cX6_voiceFor 8 (some .int) ∈ TB := tb_mem 1084 (by decide +kernel) rfl
theorem q1085 : Cond.constantLong "PumpTalkModel" 188 9999 ∈ TB := tb_mem 1085 (by decide +kernel) rfl
theorem q1086 : Cond.methodLink "PumpTalkLaw" 117 yX6_fits ∈ TB := tb_mem 1086 (by decide +kernel) rfl
theorem q1087 : Cond.instanceMethod yX6_fits ∈ TB := tb_mem 1087 (by decide +kernel) rfl
theorem q1088 : Cond.selects "PumpTalkModel" yX6_fits yX6_fits ∈ TB := tb_mem 1088 (by decide +kernel) rfl
theorem q1089 : Cond.code yX6_fits cX6_fits 4 (some .int) ∈ TB := tb_mem 1089 (by decide +kernel) rfl
theorem q1090 : Cond.methodLink "PumpTalkModel" 202 yX6_wrongOne ∈ TB := tb_mem 1090 (by decide +kernel) rfl
theorem q1092 : Cond.instanceMethod yX6_wrongOne ∈ TB := tb_mem 1092 (by decide +kernel) rfl
theorem q1093 : Cond.code yX6_wrongOne cX6_wrongOne 4 (some .int) ∈ TB := tb_mem 1093 (by decide +kernel) rfl
theorem q1094 : Cond.methodLink "PumpTalkModel" 190 yX6_wrong ∈ TB := tb_mem 1094 (by decide +kernel) rfl
theorem q1096 : Cond.instanceMethod yX6_wrong ∈ TB := tb_mem 1096 (by decide +kernel) rfl
theorem q1097 : Cond.code yX6_wrong cX6_wrong 2 (some .int) ∈ TB := tb_mem 1097 (by decide +kernel) rfl
theorem q1098 : Cond.methodLink "PumpTalkModel" 329 yX6_isOne ∈ TB := tb_mem 1098 (by decide +kernel) rfl
theorem q1099 : Cond.static yX6_isOne ∈ TB := tb_mem 1099 (by decide +kernel) rfl
theorem q1100 : Cond.code yX6_isOne cX6_isOne 1 (some .boolean) ∈ TB := tb_mem 1100 (by decide +kernel) rfl
theorem q1101 : Cond.constantLong "PumpTalkModel" 327 3 ∈ TB := tb_mem 1101 (by decide +kernel) rfl
theorem q1102 : Cond.constant "PumpTalkModel" 322 (-1000006) ∈ TB := tb_mem 1102 (by decide +kernel) rfl
theorem q1103 : Cond.methodLink "PumpTalkModel" 205 yX6_findFits ∈ TB := tb_mem 1103 (by decide +kernel) rfl
theorem q1105 : Cond.instanceMethod yX6_findFits ∈ TB := tb_mem 1105 (by decide +kernel) rfl
theorem q1106 : Cond.code yX6_findFits cX6_findFits 6 (none : Option Jvm.ClassFile.FieldType) ∈ TB := tb_mem 1106 (by decide +kernel) rfl
theorem q1107 : Cond.methodLink "PumpTalkModel" 199 yX6_isTold ∈ TB := tb_mem 1107 (by decide +kernel) rfl
theorem q1109 : Cond.instanceMethod yX6_isTold ∈ TB := tb_mem 1109 (by decide +kernel) rfl
theorem q1110 : Cond.code yX6_isTold cX6_isTold 5 (some .boolean) ∈ TB := tb_mem 1110 (by decide +kernel) rfl
theorem q1111 : Cond.methodLink "PumpTalkLaw" 121 yX6_thought ∈ TB := tb_mem 1111 (by decide +kernel) rfl
theorem q1112 : Cond.instanceMethod yX6_thought ∈ TB := tb_mem 1112 (by decide +kernel) rfl
theorem q1113 : Cond.selects "PumpTalkModel" yX6_thought yX6_thought ∈ TB := tb_mem 1113 (by decide +kernel) rfl
theorem q1114 : Cond.code yX6_thought cX6_thought 4 (some .int) ∈ TB := tb_mem 1114 (by decide +kernel) rfl
theorem q1115 : Cond.methodLink "PumpTalkLaw" 125 yX6_kinds ∈ TB := tb_mem 1115 (by decide +kernel) rfl
theorem q1116 : Cond.instanceMethod yX6_kinds ∈ TB := tb_mem 1116 (by decide +kernel) rfl
theorem q1117 : Cond.selects "PumpTalkModel" yX6_kinds yX6_kinds ∈ TB := tb_mem 1117 (by decide +kernel) rfl
theorem q1118 : Cond.code yX6_kinds cX6_kinds 7 (some .int) ∈ TB := tb_mem 1118 (by decide +kernel) rfl
theorem q1119 : Cond.methodLink "PumpTalkLaw" 129 yX6_quarrels ∈ TB := tb_mem 1119 (by decide +kernel) rfl
theorem q1120 : Cond.instanceMethod yX6_quarrels ∈ TB := tb_mem 1120 (by decide +kernel) rfl
theorem q1121 : Cond.selects "PumpTalkModel" yX6_quarrels yX6_quarrels ∈ TB := tb_mem 1121 (by decide +kernel) rfl
theorem q1122 : Cond.code yX6_quarrels cX6_quarrels 5 (some .int) ∈ TB := tb_mem 1122 (by decide +kernel) rfl
theorem q1123 : Cond.constantLong "PumpTalkModel" 210 20 ∈ TB := tb_mem 1123 (by decide +kernel) rfl
theorem q1124 : Cond.methodLink "PumpTalkModel" 212 yX6_draw ∈ TB := tb_mem 1124 (by decide +kernel) rfl
theorem q1126 : Cond.instanceMethod yX6_draw ∈ TB := tb_mem 1126 (by decide +kernel) rfl
theorem q1127 : Cond.code yX6_draw cX6_draw 1 (some .int) ∈ TB := tb_mem 1127 (by decide +kernel) rfl
theorem q1128 : Cond.constant "PumpTalkModel" 209 1103515245 ∈ TB := tb_mem 1128 (by decide +kernel) rfl
theorem q1129 : Cond.methodLink "PumpTalkLaw" 134 yX6_odds ∈ TB := tb_mem 1129 (by decide +kernel) rfl
theorem q1130 : Cond.instanceMethod yX6_odds ∈ TB := tb_mem 1130 (by decide +kernel) rfl
theorem q1131 : Cond.selects "PumpTalkModel" yX6_odds yX6_odds ∈ TB := tb_mem 1131 (by decide +kernel) rfl
theorem q1132 : Cond.code yX6_odds cX6_odds 8 (some .long) ∈ TB := tb_mem 1132 (by decide +kernel) rfl
theorem q1133 : Cond.constantLong "PumpTalkModel" 215 10 ∈ TB := tb_mem 1133 (by decide +kernel) rfl
theorem q1134 : Cond.methodLink "PumpTalkLaw" 138 yX6_seed ∈ TB := tb_mem 1134 (by decide +kernel) rfl
theorem q1135 : Cond.instanceMethod yX6_seed ∈ TB := tb_mem 1135 (by decide +kernel) rfl
theorem q1136 : Cond.selects "PumpTalkModel" yX6_seed yX6_seed ∈ TB := tb_mem 1136 (by decide +kernel) rfl
theorem q1137 : Cond.code yX6_seed cX6_seed 2 (some .int) ∈ TB := tb_mem 1137 (by decide +kernel) rfl
theorem q1138 : Cond.methodLink "PumpTalkLaw" 142 yX6_feed ∈ TB := tb_mem 1138 (by decide +kernel) rfl
theorem q1139 : Cond.instanceMethod yX6_feed ∈ TB := tb_mem 1139 (by decide +kernel) rfl
theorem q1140 : Cond.selects "PumpTalkModel" yX6_feed yX6_feed ∈ TB := tb_mem 1140 (by decide +kernel) rfl
theorem q1141 : Cond.code yX6_feed cX6_feed 4 (some .int) ∈ TB := tb_mem 1141 (by decide +kernel) rfl
theorem q1142 : Cond.constantLong "PumpTalkModel" 217 4 ∈ TB := tb_mem 1142 (by decide +kernel) rfl
theorem q1143 : Cond.methodLink "PumpTalkLaw" 146 yX6_wipe ∈ TB := tb_mem 1143 (by decide +kernel) rfl
theorem q1144 : Cond.instanceMethod yX6_wipe ∈ TB := tb_mem 1144 (by decide +kernel) rfl
theorem q1145 : Cond.selects "PumpTalkModel" yX6_wipe yX6_wipe ∈ TB := tb_mem 1145 (by decide +kernel) rfl
theorem q1146 : Cond.code yX6_wipe cX6_wipe 2 (some .int) ∈ TB := tb_mem 1146 (by decide +kernel) rfl
theorem q1147 : Cond.methodLink "PumpTalkLaw" 150 yX6_text ∈ TB := tb_mem 1147 (by decide +kernel) rfl
theorem q1148 : Cond.instanceMethod yX6_text ∈ TB := tb_mem 1148 (by decide +kernel) rfl
theorem q1149 : Cond.selects "PumpTalkModel" yX6_text yX6_text ∈ TB := tb_mem 1149 (by decide +kernel) rfl
theorem q1150 : Cond.code yX6_text cX6_text 2 (some .int) ∈ TB := tb_mem 1150 (by decide +kernel) rfl
theorem q1151 : Cond.methodLink "PumpTalkModel" 310 yX6_saves ∈ TB := tb_mem 1151 (by decide +kernel) rfl
theorem q1153 : Cond.instanceMethod yX6_saves ∈ TB := tb_mem 1153 (by decide +kernel) rfl
theorem q1154 : Cond.code yX6_saves cX6_saves 2 (none : Option Jvm.ClassFile.FieldType) ∈ TB := tb_mem 1154 (by decide +kernel) rfl
theorem q1155 : Cond.methodLink "PumpTalkModel" 249 yX6_token ∈ TB := tb_mem 1155 (by decide +kernel) rfl
theorem q1157 : Cond.instanceMethod yX6_token ∈ TB := tb_mem 1157 (by decide +kernel) rfl
theorem q1158 : Cond.code yX6_token cX6_token 3 (none : Option Jvm.ClassFile.FieldType) ∈ TB := tb_mem 1158 (by decide +kernel) rfl
theorem q1159 : Cond.methodLink "PumpTalkModel" 236 yX6_byteAt ∈ TB := tb_mem 1159 (by decide +kernel) rfl
theorem q1161 : Cond.instanceMethod yX6_byteAt ∈ TB := tb_mem 1161 (by decide +kernel) rfl
theorem q1162 : Cond.code yX6_byteAt cX6_byteAt 2 (some .int) ∈ TB := tb_mem 1162 (by decide +kernel) rfl
theorem q1163 : Cond.methodLink "PumpTalkModel" 239 yX6_isLetter ∈ TB := tb_mem 1163 (by decide +kernel) rfl
theorem q1164 : Cond.static yX6_isLetter ∈ TB := tb_mem 1164 (by decide +kernel) rfl
theorem q1165 : Cond.code yX6_isLetter cX6_isLetter 1 (some .boolean) ∈ TB := tb_mem 1165 (by decide +kernel) rfl
theorem q1166 : Cond.constantLong "PumpTalkModel" 222 97 ∈ TB := tb_mem 1166 (by decide +kernel) rfl
theorem q1167 : Cond.constantLong "PumpTalkModel" 224 122 ∈ TB := tb_mem 1167 (by decide +kernel) rfl
theorem q1168 : Cond.methodLink "PumpTalkModel" 242 yX6_isDigit ∈ TB := tb_mem 1168 (by decide +kernel) rfl
theorem q1169 : Cond.static yX6_isDigit ∈ TB := tb_mem 1169 (by decide +kernel) rfl
theorem q1170 : Cond.code yX6_isDigit cX6_isDigit 1 (some .boolean) ∈ TB := tb_mem 1170 (by decide +kernel) rfl
theorem q1171 : Cond.constantLong "PumpTalkModel" 226 48 ∈ TB := tb_mem 1171 (by decide +kernel) rfl
theorem q1172 : Cond.constantLong "PumpTalkModel" 228 57 ∈ TB := tb_mem 1172 (by decide +kernel) rfl
theorem q1173 : Cond.methodLink "PumpTalkModel" 313 yX6_item ∈ TB := tb_mem 1173 (by decide +kernel) rfl
theorem q1175 : Cond.instanceMethod yX6_item ∈ TB := tb_mem 1175 (by decide +kernel) rfl
theorem q1176 : Cond.code yX6_item cX6_item 4 (none : Option Jvm.ClassFile.FieldType) ∈ TB := tb_mem 1176 (by decide +kernel) rfl
theorem q1177 : Cond.methodLink "PumpTalkModel" 297 yX6_kindHere ∈ TB := tb_mem 1177 (by decide +kernel) rfl
theorem q1179 : Cond.instanceMethod yX6_kindHere ∈ TB := tb_mem 1179 (by decide +kernel) rfl
theorem q1180 : Cond.code yX6_kindHere cX6_kindHere 3 (some .int) ∈ TB := tb_mem 1180 (by decide +kernel) rfl
theorem q1181 : Cond.methodLink "PumpTalkModel" 263 yX6_word ∈ TB := tb_mem 1181 (by decide +kernel) rfl
theorem q1183 : Cond.instanceMethod yX6_word ∈ TB := tb_mem 1183 (by decide +kernel) rfl
theorem q1184 : Cond.code yX6_word cX6_word 4 (some .long) ∈ TB := tb_mem 1184 (by decide +kernel) rfl
theorem q1185 : Cond.constantLong "PumpTalkModel" 252 36028797018963967 ∈ TB := tb_mem 1185 (by decide +kernel) rfl
theorem q1186 : Cond.constantLong "PumpTalkModel" 254 32 ∈ TB := tb_mem 1186 (by decide +kernel) rfl
theorem q1187 : Cond.constantLong "PumpTalkModel" 267 542723566 ∈ TB := tb_mem 1187 (by decide +kernel) rfl
theorem q1188 : Cond.constantLong "PumpTalkModel" 269 136230 ∈ TB := tb_mem 1188 (by decide +kernel) rfl
theorem q1189 : Cond.constantLong "PumpTalkModel" 271 404481202 ∈ TB := tb_mem 1189 (by decide +kernel) rfl
theorem q1190 : Cond.constantLong "PumpTalkModel" 273 437899442 ∈ TB := tb_mem 1190 (by decide +kernel) rfl
theorem q1191 : Cond.constantLong "PumpTalkModel" 275 22088722073 ∈ TB := tb_mem 1191 (by decide +kernel) rfl
theorem q1192 : Cond.constantLong "PumpTalkModel" 277 23716 ∈ TB := tb_mem 1192 (by decide +kernel) rfl
theorem q1193 : Cond.constantLong "PumpTalkModel" 279 220501444 ∈ TB := tb_mem 1193 (by decide +kernel) rfl
theorem q1194 : Cond.methodLink "PumpTalkModel" 300 yX6_personItem ∈ TB := tb_mem 1194 (by decide +kernel) rfl
theorem q1196 : Cond.instanceMethod yX6_personItem ∈ TB := tb_mem 1196 (by decide +kernel) rfl
theorem q1197 : Cond.code yX6_personItem cX6_personItem 5 (none : Option Jvm.ClassFile.FieldType) ∈ TB := tb_mem 1197 (by decide +kernel) rfl
theorem q1198 : Cond.methodLink "PumpTalkModel" 259 yX6_must ∈ TB := tb_mem 1198 (by decide +kernel) rfl
theorem q1200 : Cond.instanceMethod yX6_must ∈ TB := tb_mem 1200 (by decide +kernel) rfl
theorem q1201 : Cond.code yX6_must cX6_must 2 (none : Option Jvm.ClassFile.FieldType) ∈ TB := tb_mem 1201 (by decide +kernel) rfl
theorem q1202 : Cond.constantLong "PumpTalkModel" 287 23569509 ∈ TB := tb_mem 1202 (by decide +kernel) rfl
theorem q1203 : Cond.methodLink "PumpTalkModel" 284 yX6_number ∈ TB := tb_mem 1203 (by decide +kernel) rfl
theorem q1205 : Cond.instanceMethod yX6_number ∈ TB := tb_mem 1205 (by decide +kernel) rfl
theorem q1206 : Cond.code yX6_number cX6_number 6 (none : Option Jvm.ClassFile.FieldType) ∈ TB := tb_mem 1206 (by decide +kernel) rfl
theorem q1207 : Cond.constantLong "PumpTalkModel" 289 679786867 ∈ TB := tb_mem 1207 (by decide +kernel) rfl
theorem q1208 : Cond.methodLink "PumpTalkModel" 291 yX6_viewHere ∈ TB := tb_mem 1208 (by decide +kernel) rfl
theorem q1210 : Cond.instanceMethod yX6_viewHere ∈ TB := tb_mem 1210 (by decide +kernel) rfl
theorem q1211 : Cond.code yX6_viewHere cX6_viewHere 2 (some .int) ∈ TB := tb_mem 1211 (by decide +kernel) rfl
theorem q1212 : Cond.methodLink "PumpTalkModel" 281 yX6_isHere ∈ TB := tb_mem 1212 (by decide +kernel) rfl
theorem q1214 : Cond.instanceMethod yX6_isHere ∈ TB := tb_mem 1214 (by decide +kernel) rfl
theorem q1215 : Cond.code yX6_isHere cX6_isHere 2 (some .boolean) ∈ TB := tb_mem 1215 (by decide +kernel) rfl
theorem q1216 : Cond.constantLong "PumpTalkModel" 303 525618 ∈ TB := tb_mem 1216 (by decide +kernel) rfl
theorem q1217 : Cond.methodLink "PumpTalkModel" 305 yX6_pairItem ∈ TB := tb_mem 1217 (by decide +kernel) rfl
theorem q1219 : Cond.instanceMethod yX6_pairItem ∈ TB := tb_mem 1219 (by decide +kernel) rfl
theorem q1220 : Cond.code yX6_pairItem cX6_pairItem 4 (none : Option Jvm.ClassFile.FieldType) ∈ TB := tb_mem 1220 (by decide +kernel) rfl
theorem q1221 : Cond.methodLink "PumpTalkModel" 294 yX6_peeked ∈ TB := tb_mem 1221 (by decide +kernel) rfl
theorem q1223 : Cond.instanceMethod yX6_peeked ∈ TB := tb_mem 1223 (by decide +kernel) rfl
theorem q1224 : Cond.code yX6_peeked cX6_peeked 3 (some .int) ∈ TB := tb_mem 1224 (by decide +kernel) rfl
theorem q1225 : Cond.constantLong "PumpTalkModel" 308 494 ∈ TB := tb_mem 1225 (by decide +kernel) rfl
theorem q1226 : Cond.methodLink "PumpTalkModel" 316 yX6_putsBack ∈ TB := tb_mem 1226 (by decide +kernel) rfl
theorem q1228 : Cond.instanceMethod yX6_putsBack ∈ TB := tb_mem 1228 (by decide +kernel) rfl
theorem q1229 : Cond.code yX6_putsBack cX6_putsBack 2 (none : Option Jvm.ClassFile.FieldType) ∈ TB := tb_mem 1229 (by decide +kernel) rfl
theorem q1230 : Cond.methodLink "PumpTalkLaw" 154 yX6_hold ∈ TB := tb_mem 1230 (by decide +kernel) rfl
theorem q1231 : Cond.instanceMethod yX6_hold ∈ TB := tb_mem 1231 (by decide +kernel) rfl
theorem q1232 : Cond.selects "PumpTalkModel" yX6_hold yX6_hold ∈ TB := tb_mem 1232 (by decide +kernel) rfl
theorem q1233 : Cond.code yX6_hold cX6_hold 3 (some .int) ∈ TB := tb_mem 1233 (by decide +kernel) rfl
theorem q1234 : Cond.methodLink "PumpTalkModel" 319 yX6_isSpot ∈ TB := tb_mem 1234 (by decide +kernel) rfl
theorem q1235 : Cond.static yX6_isSpot ∈ TB := tb_mem 1235 (by decide +kernel) rfl
theorem q1236 : Cond.code yX6_isSpot cX6_isSpot 1 (some .boolean) ∈ TB := tb_mem 1236 (by decide +kernel) rfl
theorem q1237 : Cond.methodLink "PumpTalkLaw" 158 yX6_as ∈ TB := tb_mem 1237 (by decide +kernel) rfl
theorem q1238 : Cond.instanceMethod yX6_as ∈ TB := tb_mem 1238 (by decide +kernel) rfl
theorem q1239 : Cond.selects "PumpTalkModel" yX6_as yX6_as ∈ TB := tb_mem 1239 (by decide +kernel) rfl
theorem q1240 : Cond.code yX6_as cX6_as 5 (some .int) ∈ TB := tb_mem 1240 (by decide +kernel) rfl
theorem q1241 : Cond.methodLink "PumpTalkModel" 323 yX6_above ∈ TB := tb_mem 1241 (by decide +kernel) rfl
theorem q1242 : Cond.static yX6_above ∈ TB := tb_mem 1242 (by decide +kernel) rfl
theorem q1243 : Cond.code yX6_above cX6_above 1 (some .int) ∈ TB := tb_mem 1243 (by decide +kernel) rfl
theorem q1244 : Cond.constant "PumpTalkModel" 326 (-1000003) ∈ TB := tb_mem 1244 (by decide +kernel) rfl
theorem q1245 : Cond.methodLink "PumpTalkLaw" 162 yX6_sheet ∈ TB := tb_mem 1245 (by decide +kernel) rfl
theorem q1246 : Cond.instanceMethod yX6_sheet ∈ TB := tb_mem 1246 (by decide +kernel) rfl
theorem q1247 : Cond.selects "PumpTalkModel" yX6_sheet yX6_sheet ∈ TB := tb_mem 1247 (by decide +kernel) rfl
theorem q1248 : Cond.code yX6_sheet cX6_sheet 5 (some .int) ∈ TB := tb_mem 1248 (by decide +kernel) rfl
theorem q1249 : Cond.constant "PumpTalkModel" 332 (-1000007) ∈ TB := tb_mem 1249 (by decide +kernel) rfl
theorem q1250 : Cond.methodLink "PumpTalkLaw" 166 yX6_write ∈ TB := tb_mem 1250 (by decide +kernel) rfl
theorem q1251 : Cond.instanceMethod yX6_write ∈ TB := tb_mem 1251 (by decide +kernel) rfl
theorem q1252 : Cond.selects "PumpTalkModel" yX6_write yX6_write ∈ TB := tb_mem 1252 (by decide +kernel) rfl
theorem q1253 : Cond.code yX6_write cX6_write 5 (some .int) ∈ TB := tb_mem 1253 (by decide +kernel) rfl
theorem q1254 : Cond.methodLink "PumpTalkModel" 333 yX6_narrowed ∈ TB := tb_mem 1254 (by decide +kernel) rfl
theorem q1255 : Cond.static yX6_narrowed ∈ TB := tb_mem 1255 (by decide +kernel) rfl
theorem q1256 : Cond.code yX6_narrowed cX6_narrowed 2 (some .int) ∈ TB := tb_mem 1256 (by decide +kernel) rfl
theorem q1257 : Cond.methodLink "PumpTalkLaw" 171 yX6_copy ∈ TB := tb_mem 1257 (by decide +kernel) rfl
theorem q1258 : Cond.instanceMethod yX6_copy ∈ TB := tb_mem 1258 (by decide +kernel) rfl
theorem q1259 : Cond.selects "PumpTalkModel" yX6_copy yX6_copy ∈ TB := tb_mem 1259 (by decide +kernel) rfl
theorem q1260 : Cond.code yX6_copy cX6_copy 7 (some .int) ∈ TB := tb_mem 1260 (by decide +kernel) rfl
theorem q1261 : Cond.methodLink "PumpTalkLaw" 175 yX6_load ∈ TB := tb_mem 1261 (by decide +kernel) rfl
theorem q1262 : Cond.instanceMethod yX6_load ∈ TB := tb_mem 1262 (by decide +kernel) rfl
theorem q1263 : Cond.selects "PumpTalkModel" yX6_load yX6_load ∈ TB := tb_mem 1263 (by decide +kernel) rfl
theorem q1264 : Cond.code yX6_load cX6_load 4 (some .int) ∈ TB := tb_mem 1264 (by decide +kernel) rfl
theorem q1265 : Cond.methodLink "PumpTalkLaw" 179 yX6_judge ∈ TB := tb_mem 1265 (by decide +kernel) rfl
theorem q1266 : Cond.instanceMethod yX6_judge ∈ TB := tb_mem 1266 (by decide +kernel) rfl
theorem q1267 : Cond.selects "PumpTalkModel" yX6_judge yX6_judge ∈ TB := tb_mem 1267 (by decide +kernel) rfl
theorem q1268 : Cond.code yX6_judge cX6_judge 4 (some .int) ∈ TB := tb_mem 1268 (by decide +kernel) rfl
theorem q1269 : Cond.methodLink "PumpTalkLaw" 183 yX6_image ∈ TB := tb_mem 1269 (by decide +kernel) rfl
theorem q1270 : Cond.instanceMethod yX6_image ∈ TB := tb_mem 1270 (by decide +kernel) rfl
theorem q1271 : Cond.selects "PumpTalkModel" yX6_image yX6_image ∈ TB := tb_mem 1271 (by decide +kernel) rfl
theorem q1272 : Cond.code yX6_image cX6_image 2 (some .int) ∈ TB := tb_mem 1272 (by decide +kernel) rfl
theorem q1273 : Cond.methodLink "PumpTalkLaw" 187 yX6_undo ∈ TB := tb_mem 1273 (by decide +kernel) rfl
theorem q1274 : Cond.instanceMethod yX6_undo ∈ TB := tb_mem 1274 (by decide +kernel) rfl
theorem q1275 : Cond.selects "PumpTalkModel" yX6_undo yX6_undo ∈ TB := tb_mem 1275 (by decide +kernel) rfl
theorem q1276 : Cond.code yX6_undo cX6_undo 2 (some .int) ∈ TB := tb_mem 1276 (by decide +kernel) rfl
theorem q1277 : Cond.methodLink "PumpTalkLaw" 191 yX6_tear ∈ TB := tb_mem 1277 (by decide +kernel) rfl
theorem q1278 : Cond.instanceMethod yX6_tear ∈ TB := tb_mem 1278 (by decide +kernel) rfl
theorem q1279 : Cond.selects "PumpTalkModel" yX6_tear yX6_tear ∈ TB := tb_mem 1279 (by decide +kernel) rfl
theorem q1280 : Cond.code yX6_tear cX6_tear 2 (some .int) ∈ TB := tb_mem 1280 (by decide +kernel) rfl
theorem q1281 : Cond.methodLink "PumpTalkLaw" 195 yX6_count ∈ TB := tb_mem 1281 (by decide +kernel) rfl
theorem q1282 : Cond.instanceMethod yX6_count ∈ TB := tb_mem 1282 (by decide +kernel) rfl
theorem q1283 : Cond.selects "PumpTalkModel" yX6_count yX6_count ∈ TB := tb_mem 1283 (by decide +kernel) rfl
theorem q1284 : Cond.code yX6_count cX6_count 2 (some .int) ∈ TB := tb_mem 1284 (by decide +kernel) rfl
theorem q1285 : Cond.methodLink "PumpTalkModel" 339 yX6_heldSpots ∈ TB := tb_mem 1285 (by decide +kernel) rfl
theorem q1287 : Cond.instanceMethod yX6_heldSpots ∈ TB := tb_mem 1287 (by decide +kernel) rfl
theorem q1288 : Cond.code yX6_heldSpots cX6_heldSpots 3 (some .int) ∈ TB := tb_mem 1288 (by decide +kernel) rfl
theorem q1289 : Cond.methodLink "PumpTalkLaw" 199 yX6_status ∈ TB := tb_mem 1289 (by decide +kernel) rfl
theorem q1290 : Cond.instanceMethod yX6_status ∈ TB := tb_mem 1290 (by decide +kernel) rfl
theorem q1291 : Cond.selects "PumpTalkModel" yX6_status yX6_status ∈ TB := tb_mem 1291 (by decide +kernel) rfl
theorem q1292 : Cond.code yX6_status cX6_status 4 (some .int) ∈ TB := tb_mem 1292 (by decide +kernel) rfl
theorem q1293 : Cond.constantLong "PumpTalkModel" 342 (-1) ∈ TB := tb_mem 1293 (by decide +kernel) rfl
theorem q1294 : Cond.fieldLink "java/lang/String" 9 "java/lang/String" "value" "[B" ∈ TB := tb_mem 1294 (by decide +kernel) rfl
theorem q1295 : Cond.fieldLink "java/lang/String" 15 "java/lang/String" "coder" "B" ∈ TB := tb_mem 1295 (by decide +kernel) rfl
end
section
theorem dX0_isUnder_0 : decode cX0_isUnder 0 = .ok (.iload_n 0, 1) := by decide +kernel
theorem dX0_isUnder_1 : decode cX0_isUnder 1 = .ok (.istore_n 2, 1) := by decide +kernel
theorem dX0_isUnder_2 : decode cX0_isUnder 2 = .ok (.iconst 0, 1) := by decide +kernel
theorem dX0_isUnder_3 : decode cX0_isUnder 3 = .ok (.istore_n 3, 1) := by decide +kernel
theorem dX0_isUnder_4 : decode cX0_isUnder 4 = .ok (.iload_n 3, 1) := by decide +kernel
theorem dX0_isUnder_5 : decode cX0_isUnder 5 = .ok (.bipush 7, 2) := by decide +kernel
theorem dX0_isUnder_7 : decode cX0_isUnder 7 = .ok (.if_icmp .ge 32, 3) := by decide +kernel
theorem dX0_isUnder_10 : decode cX0_isUnder 10 = .ok (.iload_n 2, 1) := by decide +kernel
theorem dX0_isUnder_11 : decode cX0_isUnder 11 = .ok (.ifCond .lt 28, 3) := by decide +kernel
theorem dX0_isUnder_14 : decode cX0_isUnder 14 = .ok (.iload_n 2, 1) := by decide +kernel
theorem dX0_isUnder_15 : decode cX0_isUnder 15 = .ok (.bipush 7, 2) := by decide +kernel
theorem dX0_isUnder_17 : decode cX0_isUnder 17 = .ok (.if_icmp .ge 22, 3) := by decide +kernel
theorem dX0_isUnder_20 : decode cX0_isUnder 20 = .ok (.iload_n 2, 1) := by decide +kernel
theorem dX0_isUnder_21 : decode cX0_isUnder 21 = .ok (.iload_n 1, 1) := by decide +kernel
theorem dX0_isUnder_22 : decode cX0_isUnder 22 = .ok (.if_icmp .ne 5, 3) := by decide +kernel
theorem dX0_isUnder_25 : decode cX0_isUnder 25 = .ok (.iconst 1, 1) := by decide +kernel
theorem dX0_isUnder_26 : decode cX0_isUnder 26 = .ok (.ireturn, 1) := by decide +kernel
theorem dX0_isUnder_27 : decode cX0_isUnder 27 = .ok (.getstatic 9, 3) := by decide +kernel
theorem dX0_isUnder_30 : decode cX0_isUnder 30 = .ok (.iload_n 2, 1) := by decide +kernel
theorem dX0_isUnder_31 : decode cX0_isUnder 31 = .ok (.iaload, 1) := by decide +kernel
theorem dX0_isUnder_32 : decode cX0_isUnder 32 = .ok (.istore_n 2, 1) := by decide +kernel
theorem dX0_isUnder_33 : decode cX0_isUnder 33 = .ok (.iinc 3 1, 3) := by decide +kernel
theorem dX0_isUnder_36 : decode cX0_isUnder 36 = .ok (.goto (-32), 3) := by decide +kernel
theorem dX0_isUnder_39 : decode cX0_isUnder 39 = .ok (.iconst 0, 1) := by decide +kernel
theorem dX0_isUnder_40 : decode cX0_isUnder 40 = .ok (.ireturn, 1) := by decide +kernel
theorem dX0_moves_0 : decode cX0_moves 0 = .ok (.iload_n 2, 1) := by decide +kernel
theorem dX0_moves_1 : decode cX0_moves 1 = .ok (.iconst 2, 1) := by decide +kernel
theorem dX0_moves_2 : decode cX0_moves 2 = .ok (.irem, 1) := by decide +kernel
theorem dX0_moves_3 : decode cX0_moves 3 = .ok (.ifCond .ne 7, 3) := by decide +kernel
theorem dX0_moves_6 : decode cX0_moves 6 = .ok (.iconst (-1), 1) := by decide +kernel
theorem dX0_moves_7 : decode cX0_moves 7 = .ok (.goto 4, 3) := by decide +kernel
theorem dX0_moves_10 : decode cX0_moves 10 = .ok (.iconst 1, 1) := by decide +kernel
theorem dX0_moves_11 : decode cX0_moves 11 = .ok (.istore_n 3, 1) := by decide +kernel
theorem dX0_moves_12 : decode cX0_moves 12 = .ok (.iload_n 0, 1) := by decide +kernel
theorem dX0_moves_13 : decode cX0_moves 13 = .ok (.tableswitch 64 1 6 #[39, 41, 43, 45, 58, 60], 39) := by decide +kernel
theorem dX0_moves_52 : decode cX0_moves 52 = .ok (.iconst 0, 1) := by decide +kernel
theorem dX0_moves_53 : decode cX0_moves 53 = .ok (.ireturn, 1) := by decide +kernel
theorem dX0_moves_54 : decode cX0_moves 54 = .ok (.iconst (-1), 1) := by decide +kernel
theorem dX0_moves_55 : decode cX0_moves 55 = .ok (.ireturn, 1) := by decide +kernel
theorem dX0_moves_56 : decode cX0_moves 56 = .ok (.iload_n 3, 1) := by decide +kernel
theorem dX0_moves_57 : decode cX0_moves 57 = .ok (.ireturn, 1) := by decide +kernel
theorem dX0_moves_58 : decode cX0_moves 58 = .ok (.iload_n 1, 1) := by decide +kernel
theorem dX0_moves_59 : decode cX0_moves 59 = .ok (.iconst 5, 1) := by decide +kernel
theorem dX0_moves_60 : decode cX0_moves 60 = .ok (.if_icmp .le 9, 3) := by decide +kernel
theorem dX0_moves_63 : decode cX0_moves 63 = .ok (.iload_n 3, 1) := by decide +kernel
theorem dX0_moves_64 : decode cX0_moves 64 = .ok (.iconst 1, 1) := by decide +kernel
theorem dX0_moves_65 : decode cX0_moves 65 = .ok (.iadd, 1) := by decide +kernel
theorem dX0_moves_66 : decode cX0_moves 66 = .ok (.goto 4, 3) := by decide +kernel
theorem dX0_moves_69 : decode cX0_moves 69 = .ok (.iload_n 3, 1) := by decide +kernel
theorem dX0_moves_70 : decode cX0_moves 70 = .ok (.ireturn, 1) := by decide +kernel
theorem dX0_moves_71 : decode cX0_moves 71 = .ok (.iload_n 1, 1) := by decide +kernel
theorem dX0_moves_72 : decode cX0_moves 72 = .ok (.ireturn, 1) := by decide +kernel
theorem dX0_moves_73 : decode cX0_moves 73 = .ok (.iload_n 1, 1) := by decide +kernel
theorem dX0_moves_74 : decode cX0_moves 74 = .ok (.iconst 2, 1) := by decide +kernel
theorem dX0_moves_75 : decode cX0_moves 75 = .ok (.idiv, 1) := by decide +kernel
theorem dX0_moves_76 : decode cX0_moves 76 = .ok (.ireturn, 1) := by decide +kernel
theorem dX0_moves_77 : decode cX0_moves 77 = .ok (.iconst 1, 1) := by decide +kernel
theorem dX0_moves_78 : decode cX0_moves 78 = .ok (.ireturn, 1) := by decide +kernel
theorem dX0_strokes_0 : decode cX0_strokes 0 = .ok (.iload_n 1, 1) := by decide +kernel
theorem dX0_strokes_1 : decode cX0_strokes 1 = .ok (.iload_n 2, 1) := by decide +kernel
theorem dX0_strokes_2 : decode cX0_strokes 2 = .ok (.iadd, 1) := by decide +kernel
theorem dX0_strokes_3 : decode cX0_strokes 3 = .ok (.istore 4, 2) := by decide +kernel
theorem dX0_strokes_5 : decode cX0_strokes 5 = .ok (.iload 4, 2) := by decide +kernel
theorem dX0_strokes_7 : decode cX0_strokes 7 = .ok (.ifCond .le 10, 3) := by decide +kernel
theorem dX0_strokes_10 : decode cX0_strokes 10 = .ok (.iload 4, 2) := by decide +kernel
theorem dX0_strokes_12 : decode cX0_strokes 12 = .ok (.iconst 1, 1) := by decide +kernel
theorem dX0_strokes_13 : decode cX0_strokes 13 = .ok (.isub, 1) := by decide +kernel
theorem dX0_strokes_14 : decode cX0_strokes 14 = .ok (.goto 4, 3) := by decide +kernel
theorem dX0_strokes_17 : decode cX0_strokes 17 = .ok (.iconst 0, 1) := by decide +kernel
theorem dX0_strokes_18 : decode cX0_strokes 18 = .ok (.istore 5, 2) := by decide +kernel
theorem dX0_strokes_20 : decode cX0_strokes 20 = .ok (.iload_n 0, 1) := by decide +kernel
theorem dX0_strokes_21 : decode cX0_strokes 21 = .ok (.tableswitch 76 1 6 #[39, 43, 46, 49, 54, 70], 39) := by decide +kernel
theorem dX0_strokes_60 : decode cX0_strokes 60 = .ok (.iload_n 1, 1) := by decide +kernel
theorem dX0_strokes_61 : decode cX0_strokes 61 = .ok (.iconst 2, 1) := by decide +kernel
theorem dX0_strokes_62 : decode cX0_strokes 62 = .ok (.iadd, 1) := by decide +kernel
theorem dX0_strokes_63 : decode cX0_strokes 63 = .ok (.ireturn, 1) := by decide +kernel
theorem dX0_strokes_64 : decode cX0_strokes 64 = .ok (.iload 4, 2) := by decide +kernel
theorem dX0_strokes_66 : decode cX0_strokes 66 = .ok (.ireturn, 1) := by decide +kernel
theorem dX0_strokes_67 : decode cX0_strokes 67 = .ok (.iload 5, 2) := by decide +kernel
theorem dX0_strokes_69 : decode cX0_strokes 69 = .ok (.ireturn, 1) := by decide +kernel
theorem dX0_strokes_70 : decode cX0_strokes 70 = .ok (.iconst 2, 1) := by decide +kernel
theorem dX0_strokes_71 : decode cX0_strokes 71 = .ok (.iload 5, 2) := by decide +kernel
theorem dX0_strokes_73 : decode cX0_strokes 73 = .ok (.imul, 1) := by decide +kernel
theorem dX0_strokes_74 : decode cX0_strokes 74 = .ok (.ireturn, 1) := by decide +kernel
theorem dX0_strokes_75 : decode cX0_strokes 75 = .ok (.iload_n 3, 1) := by decide +kernel
theorem dX0_strokes_76 : decode cX0_strokes 76 = .ok (.bipush 7, 2) := by decide +kernel
theorem dX0_strokes_78 : decode cX0_strokes 78 = .ok (.irem, 1) := by decide +kernel
theorem dX0_strokes_79 : decode cX0_strokes 79 = .ok (.ifCond .ne 10, 3) := by decide +kernel
theorem dX0_strokes_82 : decode cX0_strokes 82 = .ok (.iload_n 1, 1) := by decide +kernel
theorem dX0_strokes_83 : decode cX0_strokes 83 = .ok (.bipush 10, 2) := by decide +kernel
theorem dX0_strokes_85 : decode cX0_strokes 85 = .ok (.iadd, 1) := by decide +kernel
theorem dX0_strokes_86 : decode cX0_strokes 86 = .ok (.goto 4, 3) := by decide +kernel
theorem dX0_strokes_89 : decode cX0_strokes 89 = .ok (.iload_n 1, 1) := by decide +kernel
theorem dX0_strokes_90 : decode cX0_strokes 90 = .ok (.ireturn, 1) := by decide +kernel
theorem dX0_strokes_91 : decode cX0_strokes 91 = .ok (.iload_n 1, 1) := by decide +kernel
theorem dX0_strokes_92 : decode cX0_strokes 92 = .ok (.iconst 2, 1) := by decide +kernel
theorem dX0_strokes_93 : decode cX0_strokes 93 = .ok (.iadd, 1) := by decide +kernel
theorem dX0_strokes_94 : decode cX0_strokes 94 = .ok (.iconst 2, 1) := by decide +kernel
theorem dX0_strokes_95 : decode cX0_strokes 95 = .ok (.idiv, 1) := by decide +kernel
theorem dX0_strokes_96 : decode cX0_strokes 96 = .ok (.ireturn, 1) := by decide +kernel
theorem dX0_strokes_97 : decode cX0_strokes 97 = .ok (.iload_n 1, 1) := by decide +kernel
theorem dX0_strokes_98 : decode cX0_strokes 98 = .ok (.ireturn, 1) := by decide +kernel
theorem dX0_nameOf_0 : decode cX0_nameOf 0 = .ok (.iload_n 0, 1) := by decide +kernel
theorem dX0_nameOf_1 : decode cX0_nameOf 1 = .ok (.tableswitch 57 1 6 #[39, 42, 45, 48, 51, 54], 39) := by decide +kernel
theorem dX0_nameOf_40 : decode cX0_nameOf 40 = .ok (.ldc 15, 2) := by decide +kernel
theorem dX0_nameOf_42 : decode cX0_nameOf 42 = .ok (.areturn, 1) := by decide +kernel
theorem dX0_nameOf_43 : decode cX0_nameOf 43 = .ok (.ldc 17, 2) := by decide +kernel
theorem dX0_nameOf_45 : decode cX0_nameOf 45 = .ok (.areturn, 1) := by decide +kernel
theorem dX0_nameOf_46 : decode cX0_nameOf 46 = .ok (.ldc 19, 2) := by decide +kernel
theorem dX0_nameOf_48 : decode cX0_nameOf 48 = .ok (.areturn, 1) := by decide +kernel
theorem dX0_nameOf_49 : decode cX0_nameOf 49 = .ok (.ldc 21, 2) := by decide +kernel
theorem dX0_nameOf_51 : decode cX0_nameOf 51 = .ok (.areturn, 1) := by decide +kernel
theorem dX0_nameOf_52 : decode cX0_nameOf 52 = .ok (.ldc 23, 2) := by decide +kernel
theorem dX0_nameOf_54 : decode cX0_nameOf 54 = .ok (.areturn, 1) := by decide +kernel
theorem dX0_nameOf_55 : decode cX0_nameOf 55 = .ok (.ldc 25, 2) := by decide +kernel
theorem dX0_nameOf_57 : decode cX0_nameOf 57 = .ok (.areturn, 1) := by decide +kernel
theorem dX0_nameOf_58 : decode cX0_nameOf 58 = .ok (.ldc 27, 2) := by decide +kernel
theorem dX0_nameOf_60 : decode cX0_nameOf 60 = .ok (.areturn, 1) := by decide +kernel
theorem dX1_init_0 : decode cX1_init 0 = .ok (.aload_n 0, 1) := by decide +kernel
theorem dX1_init_1 : decode cX1_init 1 = .ok (.invokespecial 3, 3) := by decide +kernel
theorem dX1_init_4 : decode cX1_init 4 = .ok (.aload_n 0, 1) := by decide +kernel
theorem dX1_init_5 : decode cX1_init 5 = .ok (.bipush 64, 2) := by decide +kernel
theorem dX1_init_7 : decode cX1_init 7 = .ok (.newarray .int, 2) := by decide +kernel
theorem dX1_init_9 : decode cX1_init 9 = .ok (.putfield 9, 3) := by decide +kernel
theorem dX1_init_12 : decode cX1_init 12 = .ok (.aload_n 0, 1) := by decide +kernel
theorem dX1_init_13 : decode cX1_init 13 = .ok (.sipush 256, 3) := by decide +kernel
theorem dX1_init_16 : decode cX1_init 16 = .ok (.newarray .int, 2) := by decide +kernel
theorem dX1_init_18 : decode cX1_init 18 = .ok (.putfield 15, 3) := by decide +kernel
theorem dX1_init_21 : decode cX1_init 21 = .ok (.return_, 1) := by decide +kernel
theorem dX1_weigh_0 : decode cX1_weigh 0 = .ok (.aload_n 0, 1) := by decide +kernel
theorem dX1_weigh_1 : decode cX1_weigh 1 = .ok (.getfield 9, 3) := by decide +kernel
theorem dX1_weigh_4 : decode cX1_weigh 4 = .ok (.iload_n 1, 1) := by decide +kernel
theorem dX1_weigh_5 : decode cX1_weigh 5 = .ok (.iload_n 2, 1) := by decide +kernel
theorem dX1_weigh_6 : decode cX1_weigh 6 = .ok (.invokestatic 18, 3) := by decide +kernel
theorem dX1_weigh_9 : decode cX1_weigh 9 = .ok (.iload_n 3, 1) := by decide +kernel
theorem dX1_weigh_10 : decode cX1_weigh 10 = .ok (.iastore, 1) := by decide +kernel
theorem dX1_weigh_11 : decode cX1_weigh 11 = .ok (.return_, 1) := by decide +kernel
theorem dX1_solve_0 : decode cX1_solve 0 = .ok (.aload_n 0, 1) := by decide +kernel
theorem dX1_solve_1 : decode cX1_solve 1 = .ok (.getfield 15, 3) := by decide +kernel
theorem dX1_solve_4 : decode cX1_solve 4 = .ok (.iconst 0, 1) := by decide +kernel
theorem dX1_solve_5 : decode cX1_solve 5 = .ok (.iconst 0, 1) := by decide +kernel
theorem dX1_solve_6 : decode cX1_solve 6 = .ok (.iastore, 1) := by decide +kernel
theorem dX1_solve_7 : decode cX1_solve 7 = .ok (.iconst 1, 1) := by decide +kernel
theorem dX1_solve_8 : decode cX1_solve 8 = .ok (.istore_n 2, 1) := by decide +kernel
theorem dX1_solve_9 : decode cX1_solve 9 = .ok (.iload_n 2, 1) := by decide +kernel
theorem dX1_solve_10 : decode cX1_solve 10 = .ok (.iload_n 1, 1) := by decide +kernel
theorem dX1_solve_11 : decode cX1_solve 11 = .ok (.invokestatic 22, 3) := by decide +kernel
theorem dX1_solve_14 : decode cX1_solve 14 = .ok (.if_icmp .gt 84, 3) := by decide +kernel
theorem dX1_solve_17 : decode cX1_solve 17 = .ok (.iload_n 2, 1) := by decide +kernel
theorem dX1_solve_18 : decode cX1_solve 18 = .ok (.invokestatic 26, 3) := by decide +kernel
theorem dX1_solve_21 : decode cX1_solve 21 = .ok (.istore_n 3, 1) := by decide +kernel
theorem dX1_solve_22 : decode cX1_solve 22 = .ok (.iload_n 2, 1) := by decide +kernel
theorem dX1_solve_23 : decode cX1_solve 23 = .ok (.iconst 1, 1) := by decide +kernel
theorem dX1_solve_24 : decode cX1_solve 24 = .ok (.iload_n 3, 1) := by decide +kernel
theorem dX1_solve_25 : decode cX1_solve 25 = .ok (.ishl, 1) := by decide +kernel
theorem dX1_solve_26 : decode cX1_solve 26 = .ok (.iconst (-1), 1) := by decide +kernel
theorem dX1_solve_27 : decode cX1_solve 27 = .ok (.ixor, 1) := by decide +kernel
theorem dX1_solve_28 : decode cX1_solve 28 = .ok (.iand, 1) := by decide +kernel
theorem dX1_solve_29 : decode cX1_solve 29 = .ok (.istore 4, 2) := by decide +kernel
theorem dX1_solve_31 : decode cX1_solve 31 = .ok (.aload_n 0, 1) := by decide +kernel
theorem dX1_solve_32 : decode cX1_solve 32 = .ok (.getfield 15, 3) := by decide +kernel
theorem dX1_solve_35 : decode cX1_solve 35 = .ok (.iload 4, 2) := by decide +kernel
theorem dX1_solve_37 : decode cX1_solve 37 = .ok (.iaload, 1) := by decide +kernel
theorem dX1_solve_38 : decode cX1_solve 38 = .ok (.istore 5, 2) := by decide +kernel
theorem dX1_solve_40 : decode cX1_solve 40 = .ok (.iload_n 3, 1) := by decide +kernel
theorem dX1_solve_41 : decode cX1_solve 41 = .ok (.iconst 1, 1) := by decide +kernel
theorem dX1_solve_42 : decode cX1_solve 42 = .ok (.iadd, 1) := by decide +kernel
theorem dX1_solve_43 : decode cX1_solve 43 = .ok (.istore 6, 2) := by decide +kernel
theorem dX1_solve_45 : decode cX1_solve 45 = .ok (.iload 6, 2) := by decide +kernel
theorem dX1_solve_47 : decode cX1_solve 47 = .ok (.iload_n 1, 1) := by decide +kernel
theorem dX1_solve_48 : decode cX1_solve 48 = .ok (.if_icmp .ge 36, 3) := by decide +kernel
theorem dX1_solve_51 : decode cX1_solve 51 = .ok (.iload 4, 2) := by decide +kernel
theorem dX1_solve_53 : decode cX1_solve 53 = .ok (.iload 6, 2) := by decide +kernel
theorem dX1_solve_55 : decode cX1_solve 55 = .ok (.ishr, 1) := by decide +kernel
theorem dX1_solve_56 : decode cX1_solve 56 = .ok (.iconst 1, 1) := by decide +kernel
theorem dX1_solve_57 : decode cX1_solve 57 = .ok (.iand, 1) := by decide +kernel
theorem dX1_solve_58 : decode cX1_solve 58 = .ok (.iconst 1, 1) := by decide +kernel
theorem dX1_solve_59 : decode cX1_solve 59 = .ok (.if_icmp .ne 19, 3) := by decide +kernel
theorem dX1_solve_62 : decode cX1_solve 62 = .ok (.iload 5, 2) := by decide +kernel
theorem dX1_solve_64 : decode cX1_solve 64 = .ok (.aload_n 0, 1) := by decide +kernel
theorem dX1_solve_65 : decode cX1_solve 65 = .ok (.iload_n 3, 1) := by decide +kernel
theorem dX1_solve_66 : decode cX1_solve 66 = .ok (.iload 6, 2) := by decide +kernel
theorem dX1_solve_68 : decode cX1_solve 68 = .ok (.iload 4, 2) := by decide +kernel
theorem dX1_solve_70 : decode cX1_solve 70 = .ok (.invokevirtual 29, 3) := by decide +kernel
theorem dX1_solve_73 : decode cX1_solve 73 = .ok (.invokestatic 33, 3) := by decide +kernel
theorem dX1_solve_76 : decode cX1_solve 76 = .ok (.istore 5, 2) := by decide +kernel
theorem dX1_solve_78 : decode cX1_solve 78 = .ok (.iinc 6 1, 3) := by decide +kernel
theorem dX1_solve_81 : decode cX1_solve 81 = .ok (.goto (-36), 3) := by decide +kernel
theorem dX1_solve_84 : decode cX1_solve 84 = .ok (.aload_n 0, 1) := by decide +kernel
theorem dX1_solve_85 : decode cX1_solve 85 = .ok (.getfield 15, 3) := by decide +kernel
theorem dX1_solve_88 : decode cX1_solve 88 = .ok (.iload_n 2, 1) := by decide +kernel
theorem dX1_solve_89 : decode cX1_solve 89 = .ok (.iload 5, 2) := by decide +kernel
theorem dX1_solve_91 : decode cX1_solve 91 = .ok (.iastore, 1) := by decide +kernel
theorem dX1_solve_92 : decode cX1_solve 92 = .ok (.iinc 2 1, 3) := by decide +kernel
theorem dX1_solve_95 : decode cX1_solve 95 = .ok (.goto (-86), 3) := by decide +kernel
theorem dX1_solve_98 : decode cX1_solve 98 = .ok (.return_, 1) := by decide +kernel
theorem dX1_total_0 : decode cX1_total 0 = .ok (.aload_n 0, 1) := by decide +kernel
theorem dX1_total_1 : decode cX1_total 1 = .ok (.getfield 15, 3) := by decide +kernel
theorem dX1_total_4 : decode cX1_total 4 = .ok (.iload_n 1, 1) := by decide +kernel
theorem dX1_total_5 : decode cX1_total 5 = .ok (.invokestatic 22, 3) := by decide +kernel
theorem dX1_total_8 : decode cX1_total 8 = .ok (.iaload, 1) := by decide +kernel
theorem dX1_total_9 : decode cX1_total 9 = .ok (.ireturn, 1) := by decide +kernel
theorem dX1_mateOf_0 : decode cX1_mateOf 0 = .ok (.iload_n 2, 1) := by decide +kernel
theorem dX1_mateOf_1 : decode cX1_mateOf 1 = .ok (.invokestatic 22, 3) := by decide +kernel
theorem dX1_mateOf_4 : decode cX1_mateOf 4 = .ok (.istore_n 3, 1) := by decide +kernel
theorem dX1_mateOf_5 : decode cX1_mateOf 5 = .ok (.iconst 0, 1) := by decide +kernel
theorem dX1_mateOf_6 : decode cX1_mateOf 6 = .ok (.istore 4, 2) := by decide +kernel
theorem dX1_mateOf_8 : decode cX1_mateOf 8 = .ok (.iload 4, 2) := by decide +kernel
theorem dX1_mateOf_10 : decode cX1_mateOf 10 = .ok (.iload_n 2, 1) := by decide +kernel
theorem dX1_mateOf_11 : decode cX1_mateOf 11 = .ok (.if_icmp .ge 84, 3) := by decide +kernel
theorem dX1_mateOf_14 : decode cX1_mateOf 14 = .ok (.iload_n 3, 1) := by decide +kernel
theorem dX1_mateOf_15 : decode cX1_mateOf 15 = .ok (.ifCond .eq 80, 3) := by decide +kernel
theorem dX1_mateOf_18 : decode cX1_mateOf 18 = .ok (.iload_n 3, 1) := by decide +kernel
theorem dX1_mateOf_19 : decode cX1_mateOf 19 = .ok (.invokestatic 26, 3) := by decide +kernel
theorem dX1_mateOf_22 : decode cX1_mateOf 22 = .ok (.istore 5, 2) := by decide +kernel
theorem dX1_mateOf_24 : decode cX1_mateOf 24 = .ok (.iload_n 3, 1) := by decide +kernel
theorem dX1_mateOf_25 : decode cX1_mateOf 25 = .ok (.iconst 1, 1) := by decide +kernel
theorem dX1_mateOf_26 : decode cX1_mateOf 26 = .ok (.iload 5, 2) := by decide +kernel
theorem dX1_mateOf_28 : decode cX1_mateOf 28 = .ok (.ishl, 1) := by decide +kernel
theorem dX1_mateOf_29 : decode cX1_mateOf 29 = .ok (.iconst (-1), 1) := by decide +kernel
theorem dX1_mateOf_30 : decode cX1_mateOf 30 = .ok (.ixor, 1) := by decide +kernel
theorem dX1_mateOf_31 : decode cX1_mateOf 31 = .ok (.iand, 1) := by decide +kernel
theorem dX1_mateOf_32 : decode cX1_mateOf 32 = .ok (.istore 6, 2) := by decide +kernel
theorem dX1_mateOf_34 : decode cX1_mateOf 34 = .ok (.aload_n 0, 1) := by decide +kernel
theorem dX1_mateOf_35 : decode cX1_mateOf 35 = .ok (.iload 5, 2) := by decide +kernel
theorem dX1_mateOf_37 : decode cX1_mateOf 37 = .ok (.iload 6, 2) := by decide +kernel
theorem dX1_mateOf_39 : decode cX1_mateOf 39 = .ok (.aload_n 0, 1) := by decide +kernel
theorem dX1_mateOf_40 : decode cX1_mateOf 40 = .ok (.getfield 15, 3) := by decide +kernel
theorem dX1_mateOf_43 : decode cX1_mateOf 43 = .ok (.iload_n 3, 1) := by decide +kernel
theorem dX1_mateOf_44 : decode cX1_mateOf 44 = .ok (.iaload, 1) := by decide +kernel
theorem dX1_mateOf_45 : decode cX1_mateOf 45 = .ok (.invokevirtual 38, 3) := by decide +kernel
theorem dX1_mateOf_48 : decode cX1_mateOf 48 = .ok (.istore 7, 2) := by decide +kernel
theorem dX1_mateOf_50 : decode cX1_mateOf 50 = .ok (.iload 5, 2) := by decide +kernel
theorem dX1_mateOf_52 : decode cX1_mateOf 52 = .ok (.iload_n 1, 1) := by decide +kernel
theorem dX1_mateOf_53 : decode cX1_mateOf 53 = .ok (.if_icmp .ne 6, 3) := by decide +kernel
theorem dX1_mateOf_56 : decode cX1_mateOf 56 = .ok (.iload 7, 2) := by decide +kernel
theorem dX1_mateOf_58 : decode cX1_mateOf 58 = .ok (.ireturn, 1) := by decide +kernel
theorem dX1_mateOf_59 : decode cX1_mateOf 59 = .ok (.iload 7, 2) := by decide +kernel
theorem dX1_mateOf_61 : decode cX1_mateOf 61 = .ok (.iload_n 1, 1) := by decide +kernel
theorem dX1_mateOf_62 : decode cX1_mateOf 62 = .ok (.if_icmp .ne 6, 3) := by decide +kernel
theorem dX1_mateOf_65 : decode cX1_mateOf 65 = .ok (.iload 5, 2) := by decide +kernel
theorem dX1_mateOf_67 : decode cX1_mateOf 67 = .ok (.ireturn, 1) := by decide +kernel
theorem dX1_mateOf_68 : decode cX1_mateOf 68 = .ok (.iload 7, 2) := by decide +kernel
theorem dX1_mateOf_70 : decode cX1_mateOf 70 = .ok (.iconst (-1), 1) := by decide +kernel
theorem dX1_mateOf_71 : decode cX1_mateOf 71 = .ok (.if_icmp .ne 8, 3) := by decide +kernel
theorem dX1_mateOf_74 : decode cX1_mateOf 74 = .ok (.iload 6, 2) := by decide +kernel
theorem dX1_mateOf_76 : decode cX1_mateOf 76 = .ok (.goto 12, 3) := by decide +kernel
theorem dX1_mateOf_79 : decode cX1_mateOf 79 = .ok (.iload 6, 2) := by decide +kernel
theorem dX1_mateOf_81 : decode cX1_mateOf 81 = .ok (.iconst 1, 1) := by decide +kernel
theorem dX1_mateOf_82 : decode cX1_mateOf 82 = .ok (.iload 7, 2) := by decide +kernel
theorem dX1_mateOf_84 : decode cX1_mateOf 84 = .ok (.ishl, 1) := by decide +kernel
theorem dX1_mateOf_85 : decode cX1_mateOf 85 = .ok (.iconst (-1), 1) := by decide +kernel
theorem dX1_mateOf_86 : decode cX1_mateOf 86 = .ok (.ixor, 1) := by decide +kernel
theorem dX1_mateOf_87 : decode cX1_mateOf 87 = .ok (.iand, 1) := by decide +kernel
theorem dX1_mateOf_88 : decode cX1_mateOf 88 = .ok (.istore_n 3, 1) := by decide +kernel
theorem dX1_mateOf_89 : decode cX1_mateOf 89 = .ok (.iinc 4 1, 3) := by decide +kernel
theorem dX1_mateOf_92 : decode cX1_mateOf 92 = .ok (.goto (-84), 3) := by decide +kernel
theorem dX1_mateOf_95 : decode cX1_mateOf 95 = .ok (.iconst (-1), 1) := by decide +kernel
theorem dX1_mateOf_96 : decode cX1_mateOf 96 = .ok (.ireturn, 1) := by decide +kernel
theorem dX1_leastMate_0 : decode cX1_leastMate 0 = .ok (.iload_n 1, 1) := by decide +kernel
theorem dX1_leastMate_1 : decode cX1_leastMate 1 = .ok (.iconst 1, 1) := by decide +kernel
theorem dX1_leastMate_2 : decode cX1_leastMate 2 = .ok (.iadd, 1) := by decide +kernel
theorem dX1_leastMate_3 : decode cX1_leastMate 3 = .ok (.istore 4, 2) := by decide +kernel
theorem dX1_leastMate_5 : decode cX1_leastMate 5 = .ok (.iload 4, 2) := by decide +kernel
theorem dX1_leastMate_7 : decode cX1_leastMate 7 = .ok (.bipush 8, 2) := by decide +kernel
theorem dX1_leastMate_9 : decode cX1_leastMate 9 = .ok (.if_icmp .ge 34, 3) := by decide +kernel
theorem dX1_leastMate_12 : decode cX1_leastMate 12 = .ok (.iload_n 2, 1) := by decide +kernel
theorem dX1_leastMate_13 : decode cX1_leastMate 13 = .ok (.iload 4, 2) := by decide +kernel
theorem dX1_leastMate_15 : decode cX1_leastMate 15 = .ok (.ishr, 1) := by decide +kernel
theorem dX1_leastMate_16 : decode cX1_leastMate 16 = .ok (.iconst 1, 1) := by decide +kernel
theorem dX1_leastMate_17 : decode cX1_leastMate 17 = .ok (.iand, 1) := by decide +kernel
theorem dX1_leastMate_18 : decode cX1_leastMate 18 = .ok (.iconst 1, 1) := by decide +kernel
theorem dX1_leastMate_19 : decode cX1_leastMate 19 = .ok (.if_icmp .ne 18, 3) := by decide +kernel
theorem dX1_leastMate_22 : decode cX1_leastMate 22 = .ok (.aload_n 0, 1) := by decide +kernel
theorem dX1_leastMate_23 : decode cX1_leastMate 23 = .ok (.iload_n 1, 1) := by decide +kernel
theorem dX1_leastMate_24 : decode cX1_leastMate 24 = .ok (.iload 4, 2) := by decide +kernel
theorem dX1_leastMate_26 : decode cX1_leastMate 26 = .ok (.iload_n 2, 1) := by decide +kernel
theorem dX1_leastMate_27 : decode cX1_leastMate 27 = .ok (.invokevirtual 29, 3) := by decide +kernel
theorem dX1_leastMate_30 : decode cX1_leastMate 30 = .ok (.iload_n 3, 1) := by decide +kernel
theorem dX1_leastMate_31 : decode cX1_leastMate 31 = .ok (.if_icmp .ne 6, 3) := by decide +kernel
theorem dX1_leastMate_34 : decode cX1_leastMate 34 = .ok (.iload 4, 2) := by decide +kernel
theorem dX1_leastMate_36 : decode cX1_leastMate 36 = .ok (.ireturn, 1) := by decide +kernel
theorem dX1_leastMate_37 : decode cX1_leastMate 37 = .ok (.iinc 4 1, 3) := by decide +kernel
theorem dX1_leastMate_40 : decode cX1_leastMate 40 = .ok (.goto (-35), 3) := by decide +kernel
theorem dX1_leastMate_43 : decode cX1_leastMate 43 = .ok (.iconst (-1), 1) := by decide +kernel
theorem dX1_leastMate_44 : decode cX1_leastMate 44 = .ok (.ireturn, 1) := by decide +kernel
theorem dX1_together_0 : decode cX1_together 0 = .ok (.aload_n 0, 1) := by decide +kernel
theorem dX1_together_1 : decode cX1_together 1 = .ok (.getfield 9, 3) := by decide +kernel
theorem dX1_together_4 : decode cX1_together 4 = .ok (.iload_n 1, 1) := by decide +kernel
theorem dX1_together_5 : decode cX1_together 5 = .ok (.iload_n 2, 1) := by decide +kernel
theorem dX1_together_6 : decode cX1_together 6 = .ok (.invokestatic 18, 3) := by decide +kernel
theorem dX1_together_9 : decode cX1_together 9 = .ok (.iaload, 1) := by decide +kernel
theorem dX1_together_10 : decode cX1_together 10 = .ok (.aload_n 0, 1) := by decide +kernel
theorem dX1_together_11 : decode cX1_together 11 = .ok (.getfield 15, 3) := by decide +kernel
theorem dX1_together_14 : decode cX1_together 14 = .ok (.iload_n 3, 1) := by decide +kernel
theorem dX1_together_15 : decode cX1_together 15 = .ok (.iconst 1, 1) := by decide +kernel
theorem dX1_together_16 : decode cX1_together 16 = .ok (.iload_n 2, 1) := by decide +kernel
theorem dX1_together_17 : decode cX1_together 17 = .ok (.ishl, 1) := by decide +kernel
theorem dX1_together_18 : decode cX1_together 18 = .ok (.iconst (-1), 1) := by decide +kernel
theorem dX1_together_19 : decode cX1_together 19 = .ok (.ixor, 1) := by decide +kernel
theorem dX1_together_20 : decode cX1_together 20 = .ok (.iand, 1) := by decide +kernel
theorem dX1_together_21 : decode cX1_together 21 = .ok (.iaload, 1) := by decide +kernel
theorem dX1_together_22 : decode cX1_together 22 = .ok (.iadd, 1) := by decide +kernel
theorem dX1_together_23 : decode cX1_together 23 = .ok (.ireturn, 1) := by decide +kernel
theorem dX1_everybody_0 : decode cX1_everybody 0 = .ok (.iconst 1, 1) := by decide +kernel
theorem dX1_everybody_1 : decode cX1_everybody 1 = .ok (.iload_n 0, 1) := by decide +kernel
theorem dX1_everybody_2 : decode cX1_everybody 2 = .ok (.ishl, 1) := by decide +kernel
theorem dX1_everybody_3 : decode cX1_everybody 3 = .ok (.iconst 1, 1) := by decide +kernel
theorem dX1_everybody_4 : decode cX1_everybody 4 = .ok (.isub, 1) := by decide +kernel
theorem dX1_everybody_5 : decode cX1_everybody 5 = .ok (.ireturn, 1) := by decide +kernel
theorem dX1_leastOf_0 : decode cX1_leastOf 0 = .ok (.iconst 0, 1) := by decide +kernel
theorem dX1_leastOf_1 : decode cX1_leastOf 1 = .ok (.istore_n 1, 1) := by decide +kernel
theorem dX1_leastOf_2 : decode cX1_leastOf 2 = .ok (.iload_n 1, 1) := by decide +kernel
theorem dX1_leastOf_3 : decode cX1_leastOf 3 = .ok (.bipush 7, 2) := by decide +kernel
theorem dX1_leastOf_5 : decode cX1_leastOf 5 = .ok (.if_icmp .ge 17, 3) := by decide +kernel
theorem dX1_leastOf_8 : decode cX1_leastOf 8 = .ok (.iload_n 0, 1) := by decide +kernel
theorem dX1_leastOf_9 : decode cX1_leastOf 9 = .ok (.iload_n 1, 1) := by decide +kernel
theorem dX1_leastOf_10 : decode cX1_leastOf 10 = .ok (.ishr, 1) := by decide +kernel
theorem dX1_leastOf_11 : decode cX1_leastOf 11 = .ok (.iconst 1, 1) := by decide +kernel
theorem dX1_leastOf_12 : decode cX1_leastOf 12 = .ok (.iand, 1) := by decide +kernel
theorem dX1_leastOf_13 : decode cX1_leastOf 13 = .ok (.ifCond .ne 9, 3) := by decide +kernel
theorem dX1_leastOf_16 : decode cX1_leastOf 16 = .ok (.iinc 1 1, 3) := by decide +kernel
theorem dX1_leastOf_19 : decode cX1_leastOf 19 = .ok (.goto (-17), 3) := by decide +kernel
theorem dX1_leastOf_22 : decode cX1_leastOf 22 = .ok (.iload_n 1, 1) := by decide +kernel
theorem dX1_leastOf_23 : decode cX1_leastOf 23 = .ok (.ireturn, 1) := by decide +kernel
theorem dX2_init_0 : decode cX2_init 0 = .ok (.aload_n 0, 1) := by decide +kernel
theorem dX2_init_1 : decode cX2_init 1 = .ok (.invokespecial 3, 3) := by decide +kernel
theorem dX2_init_4 : decode cX2_init 4 = .ok (.aload_n 0, 1) := by decide +kernel
theorem dX2_init_5 : decode cX2_init 5 = .ok (.bipush 120, 2) := by decide +kernel
theorem dX2_init_7 : decode cX2_init 7 = .ok (.newarray .int, 2) := by decide +kernel
theorem dX2_init_9 : decode cX2_init 9 = .ok (.putfield 9, 3) := by decide +kernel
theorem dX2_init_12 : decode cX2_init 12 = .ok (.aload_n 0, 1) := by decide +kernel
theorem dX2_init_13 : decode cX2_init 13 = .ok (.iconst 0, 1) := by decide +kernel
theorem dX2_init_14 : decode cX2_init 14 = .ok (.putfield 15, 3) := by decide +kernel
theorem dX2_init_17 : decode cX2_init 17 = .ok (.aload_n 0, 1) := by decide +kernel
theorem dX2_init_18 : decode cX2_init 18 = .ok (.iconst 0, 1) := by decide +kernel
theorem dX2_init_19 : decode cX2_init 19 = .ok (.putfield 19, 3) := by decide +kernel
theorem dX2_init_22 : decode cX2_init 22 = .ok (.aload_n 0, 1) := by decide +kernel
theorem dX2_init_23 : decode cX2_init 23 = .ok (.iconst 0, 1) := by decide +kernel
theorem dX2_init_24 : decode cX2_init 24 = .ok (.putfield 22, 3) := by decide +kernel
theorem dX2_init_27 : decode cX2_init 27 = .ok (.aload_n 0, 1) := by decide +kernel
theorem dX2_init_28 : decode cX2_init 28 = .ok (.iconst 0, 1) := by decide +kernel
theorem dX2_init_29 : decode cX2_init 29 = .ok (.putfield 25, 3) := by decide +kernel
theorem dX2_init_32 : decode cX2_init 32 = .ok (.aload_n 0, 1) := by decide +kernel
theorem dX2_init_33 : decode cX2_init 33 = .ok (.iconst 0, 1) := by decide +kernel
theorem dX2_init_34 : decode cX2_init 34 = .ok (.putfield 28, 3) := by decide +kernel
theorem dX2_init_37 : decode cX2_init 37 = .ok (.return_, 1) := by decide +kernel
theorem dX2_append_0 : decode cX2_append 0 = .ok (.aload_n 0, 1) := by decide +kernel
theorem dX2_append_1 : decode cX2_append 1 = .ok (.getfield 15, 3) := by decide +kernel
theorem dX2_append_4 : decode cX2_append 4 = .ok (.bipush 120, 2) := by decide +kernel
theorem dX2_append_6 : decode cX2_append 6 = .ok (.if_icmp .ge 23, 3) := by decide +kernel
theorem dX2_append_9 : decode cX2_append 9 = .ok (.aload_n 0, 1) := by decide +kernel
theorem dX2_append_10 : decode cX2_append 10 = .ok (.getfield 9, 3) := by decide +kernel
theorem dX2_append_13 : decode cX2_append 13 = .ok (.aload_n 0, 1) := by decide +kernel
theorem dX2_append_14 : decode cX2_append 14 = .ok (.getfield 15, 3) := by decide +kernel
theorem dX2_append_17 : decode cX2_append 17 = .ok (.iload_n 1, 1) := by decide +kernel
theorem dX2_append_18 : decode cX2_append 18 = .ok (.iastore, 1) := by decide +kernel
theorem dX2_append_19 : decode cX2_append 19 = .ok (.aload_n 0, 1) := by decide +kernel
theorem dX2_append_20 : decode cX2_append 20 = .ok (.dup, 1) := by decide +kernel
theorem dX2_append_21 : decode cX2_append 21 = .ok (.getfield 15, 3) := by decide +kernel
theorem dX2_append_24 : decode cX2_append 24 = .ok (.iconst 1, 1) := by decide +kernel
theorem dX2_append_25 : decode cX2_append 25 = .ok (.iadd, 1) := by decide +kernel
theorem dX2_append_26 : decode cX2_append 26 = .ok (.putfield 15, 3) := by decide +kernel
theorem dX2_append_29 : decode cX2_append 29 = .ok (.return_, 1) := by decide +kernel
theorem dX2_readInto_0 : decode cX2_readInto 0 = .ok (.aload_n 0, 1) := by decide +kernel
theorem dX2_readInto_1 : decode cX2_readInto 1 = .ok (.iconst 0, 1) := by decide +kernel
theorem dX2_readInto_2 : decode cX2_readInto 2 = .ok (.putfield 25, 3) := by decide +kernel
theorem dX2_readInto_5 : decode cX2_readInto 5 = .ok (.aload_n 0, 1) := by decide +kernel
theorem dX2_readInto_6 : decode cX2_readInto 6 = .ok (.invokevirtual 31, 3) := by decide +kernel
theorem dX2_readInto_9 : decode cX2_readInto 9 = .ok (.iconst 1, 1) := by decide +kernel
theorem dX2_readInto_10 : decode cX2_readInto 10 = .ok (.istore_n 2, 1) := by decide +kernel
theorem dX2_readInto_11 : decode cX2_readInto 11 = .ok (.iload_n 2, 1) := by decide +kernel
theorem dX2_readInto_12 : decode cX2_readInto 12 = .ok (.bipush 120, 2) := by decide +kernel
theorem dX2_readInto_14 : decode cX2_readInto 14 = .ok (.if_icmp .gt 53, 3) := by decide +kernel
theorem dX2_readInto_17 : decode cX2_readInto 17 = .ok (.aload_n 0, 1) := by decide +kernel
theorem dX2_readInto_18 : decode cX2_readInto 18 = .ok (.aload_n 1, 1) := by decide +kernel
theorem dX2_readInto_19 : decode cX2_readInto 19 = .ok (.invokevirtual 34, 3) := by decide +kernel
theorem dX2_readInto_22 : decode cX2_readInto 22 = .ok (.ifCond .ne 10, 3) := by decide +kernel
theorem dX2_readInto_25 : decode cX2_readInto 25 = .ok (.iconst (-1), 1) := by decide +kernel
theorem dX2_readInto_26 : decode cX2_readInto 26 = .ok (.aload_n 0, 1) := by decide +kernel
theorem dX2_readInto_27 : decode cX2_readInto 27 = .ok (.getfield 22, 3) := by decide +kernel
theorem dX2_readInto_30 : decode cX2_readInto 30 = .ok (.isub, 1) := by decide +kernel
theorem dX2_readInto_31 : decode cX2_readInto 31 = .ok (.ireturn, 1) := by decide +kernel
theorem dX2_readInto_32 : decode cX2_readInto 32 = .ok (.aload_n 0, 1) := by decide +kernel
theorem dX2_readInto_33 : decode cX2_readInto 33 = .ok (.getfield 19, 3) := by decide +kernel
theorem dX2_readInto_36 : decode cX2_readInto 36 = .ok (.ifCond .ne 5, 3) := by decide +kernel
theorem dX2_readInto_39 : decode cX2_readInto 39 = .ok (.iload_n 2, 1) := by decide +kernel
theorem dX2_readInto_40 : decode cX2_readInto 40 = .ok (.ireturn, 1) := by decide +kernel
theorem dX2_readInto_41 : decode cX2_readInto 41 = .ok (.aload_n 0, 1) := by decide +kernel
theorem dX2_readInto_42 : decode cX2_readInto 42 = .ok (.bipush 59, 2) := by decide +kernel
theorem dX2_readInto_44 : decode cX2_readInto 44 = .ok (.invokevirtual 38, 3) := by decide +kernel
theorem dX2_readInto_47 : decode cX2_readInto 47 = .ok (.ifCond .ne 10, 3) := by decide +kernel
theorem dX2_readInto_50 : decode cX2_readInto 50 = .ok (.iconst (-1), 1) := by decide +kernel
theorem dX2_readInto_51 : decode cX2_readInto 51 = .ok (.aload_n 0, 1) := by decide +kernel
theorem dX2_readInto_52 : decode cX2_readInto 52 = .ok (.getfield 22, 3) := by decide +kernel
theorem dX2_readInto_55 : decode cX2_readInto 55 = .ok (.isub, 1) := by decide +kernel
theorem dX2_readInto_56 : decode cX2_readInto 56 = .ok (.ireturn, 1) := by decide +kernel
theorem dX2_readInto_57 : decode cX2_readInto 57 = .ok (.aload_n 0, 1) := by decide +kernel
theorem dX2_readInto_58 : decode cX2_readInto 58 = .ok (.invokevirtual 31, 3) := by decide +kernel
theorem dX2_readInto_61 : decode cX2_readInto 61 = .ok (.iinc 2 1, 3) := by decide +kernel
theorem dX2_readInto_64 : decode cX2_readInto 64 = .ok (.goto (-53), 3) := by decide +kernel
theorem dX2_readInto_67 : decode cX2_readInto 67 = .ok (.iconst (-1), 1) := by decide +kernel
theorem dX2_readInto_68 : decode cX2_readInto 68 = .ok (.aload_n 0, 1) := by decide +kernel
theorem dX2_readInto_69 : decode cX2_readInto 69 = .ok (.getfield 22, 3) := by decide +kernel
theorem dX2_readInto_72 : decode cX2_readInto 72 = .ok (.isub, 1) := by decide +kernel
theorem dX2_readInto_73 : decode cX2_readInto 73 = .ok (.ireturn, 1) := by decide +kernel
theorem dX2_readItem_0 : decode cX2_readItem 0 = .ok (.iconst 0, 1) := by decide +kernel
theorem dX2_readItem_1 : decode cX2_readItem 1 = .ok (.istore_n 2, 1) := by decide +kernel
theorem dX2_readItem_2 : decode cX2_readItem 2 = .ok (.iload_n 2, 1) := by decide +kernel
theorem dX2_readItem_3 : decode cX2_readItem 3 = .ok (.bipush 7, 2) := by decide +kernel
theorem dX2_readItem_5 : decode cX2_readItem 5 = .ok (.if_icmp .ge 27, 3) := by decide +kernel
theorem dX2_readItem_8 : decode cX2_readItem 8 = .ok (.aload_n 0, 1) := by decide +kernel
theorem dX2_readItem_9 : decode cX2_readItem 9 = .ok (.iload_n 2, 1) := by decide +kernel
theorem dX2_readItem_10 : decode cX2_readItem 10 = .ok (.invokestatic 42, 3) := by decide +kernel
theorem dX2_readItem_13 : decode cX2_readItem 13 = .ok (.invokevirtual 48, 3) := by decide +kernel
theorem dX2_readItem_16 : decode cX2_readItem 16 = .ok (.ifCond .eq 10, 3) := by decide +kernel
theorem dX2_readItem_19 : decode cX2_readItem 19 = .ok (.aload_n 0, 1) := by decide +kernel
theorem dX2_readItem_20 : decode cX2_readItem 20 = .ok (.aload_n 1, 1) := by decide +kernel
theorem dX2_readItem_21 : decode cX2_readItem 21 = .ok (.iload_n 2, 1) := by decide +kernel
theorem dX2_readItem_22 : decode cX2_readItem 22 = .ok (.invokevirtual 52, 3) := by decide +kernel
theorem dX2_readItem_25 : decode cX2_readItem 25 = .ok (.ireturn, 1) := by decide +kernel
theorem dX2_readItem_26 : decode cX2_readItem 26 = .ok (.iinc 2 1, 3) := by decide +kernel
theorem dX2_readItem_29 : decode cX2_readItem 29 = .ok (.goto (-27), 3) := by decide +kernel
theorem dX2_readItem_32 : decode cX2_readItem 32 = .ok (.aload_n 0, 1) := by decide +kernel
theorem dX2_readItem_33 : decode cX2_readItem 33 = .ok (.ldc 56, 2) := by decide +kernel
theorem dX2_readItem_35 : decode cX2_readItem 35 = .ok (.invokevirtual 48, 3) := by decide +kernel
theorem dX2_readItem_38 : decode cX2_readItem 38 = .ok (.ifCond .eq 9, 3) := by decide +kernel
theorem dX2_readItem_41 : decode cX2_readItem 41 = .ok (.aload_n 0, 1) := by decide +kernel
theorem dX2_readItem_42 : decode cX2_readItem 42 = .ok (.aload_n 1, 1) := by decide +kernel
theorem dX2_readItem_43 : decode cX2_readItem 43 = .ok (.invokevirtual 58, 3) := by decide +kernel
theorem dX2_readItem_46 : decode cX2_readItem 46 = .ok (.ireturn, 1) := by decide +kernel
theorem dX2_readItem_47 : decode cX2_readItem 47 = .ok (.aload_n 0, 1) := by decide +kernel
theorem dX2_readItem_48 : decode cX2_readItem 48 = .ok (.ldc 61, 2) := by decide +kernel
theorem dX2_readItem_50 : decode cX2_readItem 50 = .ok (.invokevirtual 48, 3) := by decide +kernel
theorem dX2_readItem_53 : decode cX2_readItem 53 = .ok (.ifCond .eq 15, 3) := by decide +kernel
theorem dX2_readItem_56 : decode cX2_readItem 56 = .ok (.aload_n 0, 1) := by decide +kernel
theorem dX2_readItem_57 : decode cX2_readItem 57 = .ok (.aload_n 1, 1) := by decide +kernel
theorem dX2_readItem_58 : decode cX2_readItem 58 = .ok (.invokevirtual 63, 3) := by decide +kernel
theorem dX2_readItem_61 : decode cX2_readItem 61 = .ok (.ifCond .eq 7, 3) := by decide +kernel
theorem dX2_readItem_64 : decode cX2_readItem 64 = .ok (.iconst 1, 1) := by decide +kernel
theorem dX2_readItem_65 : decode cX2_readItem 65 = .ok (.goto 4, 3) := by decide +kernel
theorem dX2_readItem_68 : decode cX2_readItem 68 = .ok (.iconst 0, 1) := by decide +kernel
theorem dX2_readItem_69 : decode cX2_readItem 69 = .ok (.ireturn, 1) := by decide +kernel
theorem dX2_readPerson_0 : decode cX2_readPerson 0 = .ok (.aload_n 1, 1) := by decide +kernel
theorem dX2_readPerson_1 : decode cX2_readPerson 1 = .ok (.invokevirtual 66, 3) := by decide +kernel
theorem dX2_readPerson_4 : decode cX2_readPerson 4 = .ok (.ifCond .eq 5, 3) := by decide +kernel
theorem dX2_readPerson_7 : decode cX2_readPerson 7 = .ok (.iconst 0, 1) := by decide +kernel
theorem dX2_readPerson_8 : decode cX2_readPerson 8 = .ok (.ireturn, 1) := by decide +kernel
theorem dX2_readPerson_9 : decode cX2_readPerson 9 = .ok (.aload_n 1, 1) := by decide +kernel
theorem dX2_readPerson_10 : decode cX2_readPerson 10 = .ok (.iload_n 2, 1) := by decide +kernel
theorem dX2_readPerson_11 : decode cX2_readPerson 11 = .ok (.invokevirtual 72, 3) := by decide +kernel
theorem dX2_readPerson_14 : decode cX2_readPerson 14 = .ok (.istore_n 3, 1) := by decide +kernel
theorem dX2_readPerson_15 : decode cX2_readPerson 15 = .ok (.aload_n 0, 1) := by decide +kernel
theorem dX2_readPerson_16 : decode cX2_readPerson 16 = .ok (.invokevirtual 31, 3) := by decide +kernel
theorem dX2_readPerson_19 : decode cX2_readPerson 19 = .ok (.aload_n 0, 1) := by decide +kernel
theorem dX2_readPerson_20 : decode cX2_readPerson 20 = .ok (.ldc 76, 2) := by decide +kernel
theorem dX2_readPerson_22 : decode cX2_readPerson 22 = .ok (.invokevirtual 48, 3) := by decide +kernel
theorem dX2_readPerson_25 : decode cX2_readPerson 25 = .ok (.ifCond .eq 32, 3) := by decide +kernel
theorem dX2_readPerson_28 : decode cX2_readPerson 28 = .ok (.aload_n 0, 1) := by decide +kernel
theorem dX2_readPerson_29 : decode cX2_readPerson 29 = .ok (.invokevirtual 31, 3) := by decide +kernel
theorem dX2_readPerson_32 : decode cX2_readPerson 32 = .ok (.aload_n 0, 1) := by decide +kernel
theorem dX2_readPerson_33 : decode cX2_readPerson 33 = .ok (.bipush 9, 2) := by decide +kernel
theorem dX2_readPerson_35 : decode cX2_readPerson 35 = .ok (.invokevirtual 78, 3) := by decide +kernel
theorem dX2_readPerson_38 : decode cX2_readPerson 38 = .ok (.ifCond .ne 5, 3) := by decide +kernel
theorem dX2_readPerson_41 : decode cX2_readPerson 41 = .ok (.iconst 0, 1) := by decide +kernel
theorem dX2_readPerson_42 : decode cX2_readPerson 42 = .ok (.ireturn, 1) := by decide +kernel
theorem dX2_readPerson_43 : decode cX2_readPerson 43 = .ok (.aload_n 1, 1) := by decide +kernel
theorem dX2_readPerson_44 : decode cX2_readPerson 44 = .ok (.iload_n 3, 1) := by decide +kernel
theorem dX2_readPerson_45 : decode cX2_readPerson 45 = .ok (.iconst 1, 1) := by decide +kernel
theorem dX2_readPerson_46 : decode cX2_readPerson 46 = .ok (.aload_n 0, 1) := by decide +kernel
theorem dX2_readPerson_47 : decode cX2_readPerson 47 = .ok (.getfield 28, 3) := by decide +kernel
theorem dX2_readPerson_50 : decode cX2_readPerson 50 = .ok (.invokevirtual 81, 3) := by decide +kernel
theorem dX2_readPerson_53 : decode cX2_readPerson 53 = .ok (.aload_n 0, 1) := by decide +kernel
theorem dX2_readPerson_54 : decode cX2_readPerson 54 = .ok (.invokevirtual 31, 3) := by decide +kernel
theorem dX2_readPerson_57 : decode cX2_readPerson 57 = .ok (.aload_n 0, 1) := by decide +kernel
theorem dX2_readPerson_58 : decode cX2_readPerson 58 = .ok (.ldc 85, 2) := by decide +kernel
theorem dX2_readPerson_60 : decode cX2_readPerson 60 = .ok (.invokevirtual 48, 3) := by decide +kernel
theorem dX2_readPerson_63 : decode cX2_readPerson 63 = .ok (.ifCond .eq 14, 3) := by decide +kernel
theorem dX2_readPerson_66 : decode cX2_readPerson 66 = .ok (.aload_n 0, 1) := by decide +kernel
theorem dX2_readPerson_67 : decode cX2_readPerson 67 = .ok (.invokevirtual 31, 3) := by decide +kernel
theorem dX2_readPerson_70 : decode cX2_readPerson 70 = .ok (.aload_n 0, 1) := by decide +kernel
theorem dX2_readPerson_71 : decode cX2_readPerson 71 = .ok (.aload_n 1, 1) := by decide +kernel
theorem dX2_readPerson_72 : decode cX2_readPerson 72 = .ok (.iload_n 3, 1) := by decide +kernel
theorem dX2_readPerson_73 : decode cX2_readPerson 73 = .ok (.invokevirtual 87, 3) := by decide +kernel
theorem dX2_readPerson_76 : decode cX2_readPerson 76 = .ok (.ireturn, 1) := by decide +kernel
theorem dX2_readPerson_77 : decode cX2_readPerson 77 = .ok (.iconst 1, 1) := by decide +kernel
theorem dX2_readPerson_78 : decode cX2_readPerson 78 = .ok (.ireturn, 1) := by decide +kernel
theorem dX2_readViews_0 : decode cX2_readViews 0 = .ok (.iconst 0, 1) := by decide +kernel
theorem dX2_readViews_1 : decode cX2_readViews 1 = .ok (.istore_n 3, 1) := by decide +kernel
theorem dX2_readViews_2 : decode cX2_readViews 2 = .ok (.iload_n 3, 1) := by decide +kernel
theorem dX2_readViews_3 : decode cX2_readViews 3 = .ok (.bipush 6, 2) := by decide +kernel
theorem dX2_readViews_5 : decode cX2_readViews 5 = .ok (.if_icmp .ge 83, 3) := by decide +kernel
theorem dX2_readViews_8 : decode cX2_readViews 8 = .ok (.aload_n 0, 1) := by decide +kernel
theorem dX2_readViews_9 : decode cX2_readViews 9 = .ok (.bipush 45, 2) := by decide +kernel
theorem dX2_readViews_11 : decode cX2_readViews 11 = .ok (.invokevirtual 38, 3) := by decide +kernel
theorem dX2_readViews_14 : decode cX2_readViews 14 = .ok (.istore 4, 2) := by decide +kernel
theorem dX2_readViews_16 : decode cX2_readViews 16 = .ok (.iload_n 3, 1) := by decide +kernel
theorem dX2_readViews_17 : decode cX2_readViews 17 = .ok (.ifCond .le 18, 3) := by decide +kernel
theorem dX2_readViews_20 : decode cX2_readViews 20 = .ok (.iload 4, 2) := by decide +kernel
theorem dX2_readViews_22 : decode cX2_readViews 22 = .ok (.ifCond .ne 13, 3) := by decide +kernel
theorem dX2_readViews_25 : decode cX2_readViews 25 = .ok (.aload_n 0, 1) := by decide +kernel
theorem dX2_readViews_26 : decode cX2_readViews 26 = .ok (.getfield 19, 3) := by decide +kernel
theorem dX2_readViews_29 : decode cX2_readViews 29 = .ok (.iconst 2, 1) := by decide +kernel
theorem dX2_readViews_30 : decode cX2_readViews 30 = .ok (.if_icmp .eq 5, 3) := by decide +kernel
theorem dX2_readViews_33 : decode cX2_readViews 33 = .ok (.iconst 1, 1) := by decide +kernel
theorem dX2_readViews_34 : decode cX2_readViews 34 = .ok (.ireturn, 1) := by decide +kernel
theorem dX2_readViews_35 : decode cX2_readViews 35 = .ok (.iload 4, 2) := by decide +kernel
theorem dX2_readViews_37 : decode cX2_readViews 37 = .ok (.ifCond .eq 7, 3) := by decide +kernel
theorem dX2_readViews_40 : decode cX2_readViews 40 = .ok (.aload_n 0, 1) := by decide +kernel
theorem dX2_readViews_41 : decode cX2_readViews 41 = .ok (.invokevirtual 31, 3) := by decide +kernel
theorem dX2_readViews_44 : decode cX2_readViews 44 = .ok (.aload_n 0, 1) := by decide +kernel
theorem dX2_readViews_45 : decode cX2_readViews 45 = .ok (.bipush 9, 2) := by decide +kernel
theorem dX2_readViews_47 : decode cX2_readViews 47 = .ok (.invokevirtual 78, 3) := by decide +kernel
theorem dX2_readViews_50 : decode cX2_readViews 50 = .ok (.ifCond .ne 5, 3) := by decide +kernel
theorem dX2_readViews_53 : decode cX2_readViews 53 = .ok (.iconst 0, 1) := by decide +kernel
theorem dX2_readViews_54 : decode cX2_readViews 54 = .ok (.ireturn, 1) := by decide +kernel
theorem dX2_readViews_55 : decode cX2_readViews 55 = .ok (.aload_n 1, 1) := by decide +kernel
theorem dX2_readViews_56 : decode cX2_readViews 56 = .ok (.iload_n 2, 1) := by decide +kernel
theorem dX2_readViews_57 : decode cX2_readViews 57 = .ok (.iload_n 3, 1) := by decide +kernel
theorem dX2_readViews_58 : decode cX2_readViews 58 = .ok (.iload 4, 2) := by decide +kernel
theorem dX2_readViews_60 : decode cX2_readViews 60 = .ok (.ifCond .eq 11, 3) := by decide +kernel
theorem dX2_readViews_63 : decode cX2_readViews 63 = .ok (.aload_n 0, 1) := by decide +kernel
theorem dX2_readViews_64 : decode cX2_readViews 64 = .ok (.getfield 28, 3) := by decide +kernel
theorem dX2_readViews_67 : decode cX2_readViews 67 = .ok (.ineg, 1) := by decide +kernel
theorem dX2_readViews_68 : decode cX2_readViews 68 = .ok (.goto 7, 3) := by decide +kernel
theorem dX2_readViews_71 : decode cX2_readViews 71 = .ok (.aload_n 0, 1) := by decide +kernel
theorem dX2_readViews_72 : decode cX2_readViews 72 = .ok (.getfield 28, 3) := by decide +kernel
theorem dX2_readViews_75 : decode cX2_readViews 75 = .ok (.invokevirtual 90, 3) := by decide +kernel
theorem dX2_readViews_78 : decode cX2_readViews 78 = .ok (.aload_n 0, 1) := by decide +kernel
theorem dX2_readViews_79 : decode cX2_readViews 79 = .ok (.invokevirtual 31, 3) := by decide +kernel
theorem dX2_readViews_82 : decode cX2_readViews 82 = .ok (.iinc 3 1, 3) := by decide +kernel
theorem dX2_readViews_85 : decode cX2_readViews 85 = .ok (.goto (-83), 3) := by decide +kernel
theorem dX2_readViews_88 : decode cX2_readViews 88 = .ok (.iconst 1, 1) := by decide +kernel
theorem dX2_readViews_89 : decode cX2_readViews 89 = .ok (.ireturn, 1) := by decide +kernel
theorem dX2_readPair_0 : decode cX2_readPair 0 = .ok (.aload_n 0, 1) := by decide +kernel
theorem dX2_readPair_1 : decode cX2_readPair 1 = .ok (.invokevirtual 31, 3) := by decide +kernel
theorem dX2_readPair_4 : decode cX2_readPair 4 = .ok (.aload_n 0, 1) := by decide +kernel
theorem dX2_readPair_5 : decode cX2_readPair 5 = .ok (.aload_n 1, 1) := by decide +kernel
theorem dX2_readPair_6 : decode cX2_readPair 6 = .ok (.getfield 93, 3) := by decide +kernel
theorem dX2_readPair_9 : decode cX2_readPair 9 = .ok (.iconst 1, 1) := by decide +kernel
theorem dX2_readPair_10 : decode cX2_readPair 10 = .ok (.isub, 1) := by decide +kernel
theorem dX2_readPair_11 : decode cX2_readPair 11 = .ok (.invokevirtual 78, 3) := by decide +kernel
theorem dX2_readPair_14 : decode cX2_readPair 14 = .ok (.ifCond .ne 5, 3) := by decide +kernel
theorem dX2_readPair_17 : decode cX2_readPair 17 = .ok (.iconst 0, 1) := by decide +kernel
theorem dX2_readPair_18 : decode cX2_readPair 18 = .ok (.ireturn, 1) := by decide +kernel
theorem dX2_readPair_19 : decode cX2_readPair 19 = .ok (.aload_n 0, 1) := by decide +kernel
theorem dX2_readPair_20 : decode cX2_readPair 20 = .ok (.getfield 28, 3) := by decide +kernel
theorem dX2_readPair_23 : decode cX2_readPair 23 = .ok (.istore_n 2, 1) := by decide +kernel
theorem dX2_readPair_24 : decode cX2_readPair 24 = .ok (.aload_n 0, 1) := by decide +kernel
theorem dX2_readPair_25 : decode cX2_readPair 25 = .ok (.invokevirtual 31, 3) := by decide +kernel
theorem dX2_readPair_28 : decode cX2_readPair 28 = .ok (.aload_n 0, 1) := by decide +kernel
theorem dX2_readPair_29 : decode cX2_readPair 29 = .ok (.aload_n 1, 1) := by decide +kernel
theorem dX2_readPair_30 : decode cX2_readPair 30 = .ok (.getfield 93, 3) := by decide +kernel
theorem dX2_readPair_33 : decode cX2_readPair 33 = .ok (.iconst 1, 1) := by decide +kernel
theorem dX2_readPair_34 : decode cX2_readPair 34 = .ok (.isub, 1) := by decide +kernel
theorem dX2_readPair_35 : decode cX2_readPair 35 = .ok (.invokevirtual 78, 3) := by decide +kernel
theorem dX2_readPair_38 : decode cX2_readPair 38 = .ok (.ifCond .eq 11, 3) := by decide +kernel
theorem dX2_readPair_41 : decode cX2_readPair 41 = .ok (.aload_n 0, 1) := by decide +kernel
theorem dX2_readPair_42 : decode cX2_readPair 42 = .ok (.getfield 28, 3) := by decide +kernel
theorem dX2_readPair_45 : decode cX2_readPair 45 = .ok (.iload_n 2, 1) := by decide +kernel
theorem dX2_readPair_46 : decode cX2_readPair 46 = .ok (.if_icmp .ne 5, 3) := by decide +kernel
theorem dX2_readPair_49 : decode cX2_readPair 49 = .ok (.iconst 0, 1) := by decide +kernel
theorem dX2_readPair_50 : decode cX2_readPair 50 = .ok (.ireturn, 1) := by decide +kernel
theorem dX2_readPair_51 : decode cX2_readPair 51 = .ok (.aload_n 1, 1) := by decide +kernel
theorem dX2_readPair_52 : decode cX2_readPair 52 = .ok (.iload_n 2, 1) := by decide +kernel
theorem dX2_readPair_53 : decode cX2_readPair 53 = .ok (.aload_n 0, 1) := by decide +kernel
theorem dX2_readPair_54 : decode cX2_readPair 54 = .ok (.getfield 28, 3) := by decide +kernel
theorem dX2_readPair_57 : decode cX2_readPair 57 = .ok (.invokevirtual 96, 3) := by decide +kernel
theorem dX2_readPair_60 : decode cX2_readPair 60 = .ok (.aload_n 0, 1) := by decide +kernel
theorem dX2_readPair_61 : decode cX2_readPair 61 = .ok (.invokevirtual 31, 3) := by decide +kernel
theorem dX2_readPair_64 : decode cX2_readPair 64 = .ok (.iconst 1, 1) := by decide +kernel
theorem dX2_readPair_65 : decode cX2_readPair 65 = .ok (.ireturn, 1) := by decide +kernel
theorem dX2_readSubject_0 : decode cX2_readSubject 0 = .ok (.aload_n 0, 1) := by decide +kernel
theorem dX2_readSubject_1 : decode cX2_readSubject 1 = .ok (.invokevirtual 31, 3) := by decide +kernel
theorem dX2_readSubject_4 : decode cX2_readSubject 4 = .ok (.aload_n 0, 1) := by decide +kernel
theorem dX2_readSubject_5 : decode cX2_readSubject 5 = .ok (.iconst 5, 1) := by decide +kernel
theorem dX2_readSubject_6 : decode cX2_readSubject 6 = .ok (.invokevirtual 78, 3) := by decide +kernel
theorem dX2_readSubject_9 : decode cX2_readSubject 9 = .ok (.ifCond .ne 5, 3) := by decide +kernel
theorem dX2_readSubject_12 : decode cX2_readSubject 12 = .ok (.iconst 0, 1) := by decide +kernel
theorem dX2_readSubject_13 : decode cX2_readSubject 13 = .ok (.ireturn, 1) := by decide +kernel
theorem dX2_readSubject_14 : decode cX2_readSubject 14 = .ok (.aload_n 1, 1) := by decide +kernel
theorem dX2_readSubject_15 : decode cX2_readSubject 15 = .ok (.aload_n 0, 1) := by decide +kernel
theorem dX2_readSubject_16 : decode cX2_readSubject 16 = .ok (.getfield 28, 3) := by decide +kernel
theorem dX2_readSubject_19 : decode cX2_readSubject 19 = .ok (.putfield 100, 3) := by decide +kernel
theorem dX2_readSubject_22 : decode cX2_readSubject 22 = .ok (.aload_n 0, 1) := by decide +kernel
theorem dX2_readSubject_23 : decode cX2_readSubject 23 = .ok (.invokevirtual 31, 3) := by decide +kernel
theorem dX2_readSubject_26 : decode cX2_readSubject 26 = .ok (.iconst 1, 1) := by decide +kernel
theorem dX2_readSubject_27 : decode cX2_readSubject 27 = .ok (.ireturn, 1) := by decide +kernel
theorem dX2_isNumberUpTo_0 : decode cX2_isNumberUpTo 0 = .ok (.aload_n 0, 1) := by decide +kernel
theorem dX2_isNumberUpTo_1 : decode cX2_isNumberUpTo 1 = .ok (.getfield 19, 3) := by decide +kernel
theorem dX2_isNumberUpTo_4 : decode cX2_isNumberUpTo 4 = .ok (.iconst 2, 1) := by decide +kernel
theorem dX2_isNumberUpTo_5 : decode cX2_isNumberUpTo 5 = .ok (.if_icmp .ne 15, 3) := by decide +kernel
theorem dX2_isNumberUpTo_8 : decode cX2_isNumberUpTo 8 = .ok (.aload_n 0, 1) := by decide +kernel
theorem dX2_isNumberUpTo_9 : decode cX2_isNumberUpTo 9 = .ok (.getfield 28, 3) := by decide +kernel
theorem dX2_isNumberUpTo_12 : decode cX2_isNumberUpTo 12 = .ok (.iload_n 1, 1) := by decide +kernel
theorem dX2_isNumberUpTo_13 : decode cX2_isNumberUpTo 13 = .ok (.if_icmp .gt 7, 3) := by decide +kernel
theorem dX2_isNumberUpTo_16 : decode cX2_isNumberUpTo 16 = .ok (.iconst 1, 1) := by decide +kernel
theorem dX2_isNumberUpTo_17 : decode cX2_isNumberUpTo 17 = .ok (.goto 4, 3) := by decide +kernel
theorem dX2_isNumberUpTo_20 : decode cX2_isNumberUpTo 20 = .ok (.iconst 0, 1) := by decide +kernel
theorem dX2_isNumberUpTo_21 : decode cX2_isNumberUpTo 21 = .ok (.ireturn, 1) := by decide +kernel
theorem dX2_isSign_0 : decode cX2_isSign 0 = .ok (.aload_n 0, 1) := by decide +kernel
theorem dX2_isSign_1 : decode cX2_isSign 1 = .ok (.getfield 19, 3) := by decide +kernel
theorem dX2_isSign_4 : decode cX2_isSign 4 = .ok (.iconst 3, 1) := by decide +kernel
theorem dX2_isSign_5 : decode cX2_isSign 5 = .ok (.if_icmp .ne 20, 3) := by decide +kernel
theorem dX2_isSign_8 : decode cX2_isSign 8 = .ok (.aload_n 0, 1) := by decide +kernel
theorem dX2_isSign_9 : decode cX2_isSign 9 = .ok (.getfield 9, 3) := by decide +kernel
theorem dX2_isSign_12 : decode cX2_isSign 12 = .ok (.aload_n 0, 1) := by decide +kernel
theorem dX2_isSign_13 : decode cX2_isSign 13 = .ok (.getfield 22, 3) := by decide +kernel
theorem dX2_isSign_16 : decode cX2_isSign 16 = .ok (.iaload, 1) := by decide +kernel
theorem dX2_isSign_17 : decode cX2_isSign 17 = .ok (.iload_n 1, 1) := by decide +kernel
theorem dX2_isSign_18 : decode cX2_isSign 18 = .ok (.if_icmp .ne 7, 3) := by decide +kernel
theorem dX2_isSign_21 : decode cX2_isSign 21 = .ok (.iconst 1, 1) := by decide +kernel
theorem dX2_isSign_22 : decode cX2_isSign 22 = .ok (.goto 4, 3) := by decide +kernel
theorem dX2_isSign_25 : decode cX2_isSign 25 = .ok (.iconst 0, 1) := by decide +kernel
theorem dX2_isSign_26 : decode cX2_isSign 26 = .ok (.ireturn, 1) := by decide +kernel
theorem dX2_isWord_0 : decode cX2_isWord 0 = .ok (.aload_n 0, 1) := by decide +kernel
theorem dX2_isWord_1 : decode cX2_isWord 1 = .ok (.getfield 19, 3) := by decide +kernel
theorem dX2_isWord_4 : decode cX2_isWord 4 = .ok (.iconst 1, 1) := by decide +kernel
theorem dX2_isWord_5 : decode cX2_isWord 5 = .ok (.if_icmp .ne 19, 3) := by decide +kernel
theorem dX2_isWord_8 : decode cX2_isWord 8 = .ok (.aload_n 0, 1) := by decide +kernel
theorem dX2_isWord_9 : decode cX2_isWord 9 = .ok (.getfield 25, 3) := by decide +kernel
theorem dX2_isWord_12 : decode cX2_isWord 12 = .ok (.aload_n 0, 1) := by decide +kernel
theorem dX2_isWord_13 : decode cX2_isWord 13 = .ok (.getfield 22, 3) := by decide +kernel
theorem dX2_isWord_16 : decode cX2_isWord 16 = .ok (.isub, 1) := by decide +kernel
theorem dX2_isWord_17 : decode cX2_isWord 17 = .ok (.aload_n 1, 1) := by decide +kernel
theorem dX2_isWord_18 : decode cX2_isWord 18 = .ok (.invokevirtual 103, 3) := by decide +kernel
theorem dX2_isWord_21 : decode cX2_isWord 21 = .ok (.if_icmp .eq 5, 3) := by decide +kernel
theorem dX2_isWord_24 : decode cX2_isWord 24 = .ok (.iconst 0, 1) := by decide +kernel
theorem dX2_isWord_25 : decode cX2_isWord 25 = .ok (.ireturn, 1) := by decide +kernel
theorem dX2_isWord_26 : decode cX2_isWord 26 = .ok (.iconst 0, 1) := by decide +kernel
theorem dX2_isWord_27 : decode cX2_isWord 27 = .ok (.istore_n 2, 1) := by decide +kernel
theorem dX2_isWord_28 : decode cX2_isWord 28 = .ok (.iload_n 2, 1) := by decide +kernel
theorem dX2_isWord_29 : decode cX2_isWord 29 = .ok (.aload_n 1, 1) := by decide +kernel
theorem dX2_isWord_30 : decode cX2_isWord 30 = .ok (.invokevirtual 103, 3) := by decide +kernel
theorem dX2_isWord_33 : decode cX2_isWord 33 = .ok (.if_icmp .ge 30, 3) := by decide +kernel
theorem dX2_isWord_36 : decode cX2_isWord 36 = .ok (.aload_n 0, 1) := by decide +kernel
theorem dX2_isWord_37 : decode cX2_isWord 37 = .ok (.getfield 9, 3) := by decide +kernel
theorem dX2_isWord_40 : decode cX2_isWord 40 = .ok (.aload_n 0, 1) := by decide +kernel
theorem dX2_isWord_41 : decode cX2_isWord 41 = .ok (.getfield 22, 3) := by decide +kernel
theorem dX2_isWord_44 : decode cX2_isWord 44 = .ok (.iload_n 2, 1) := by decide +kernel
theorem dX2_isWord_45 : decode cX2_isWord 45 = .ok (.iadd, 1) := by decide +kernel
theorem dX2_isWord_46 : decode cX2_isWord 46 = .ok (.iaload, 1) := by decide +kernel
theorem dX2_isWord_47 : decode cX2_isWord 47 = .ok (.aload_n 1, 1) := by decide +kernel
theorem dX2_isWord_48 : decode cX2_isWord 48 = .ok (.iload_n 2, 1) := by decide +kernel
theorem dX2_isWord_49 : decode cX2_isWord 49 = .ok (.invokevirtual 108, 3) := by decide +kernel
theorem dX2_isWord_52 : decode cX2_isWord 52 = .ok (.if_icmp .eq 5, 3) := by decide +kernel
theorem dX2_isWord_55 : decode cX2_isWord 55 = .ok (.iconst 0, 1) := by decide +kernel
theorem dX2_isWord_56 : decode cX2_isWord 56 = .ok (.ireturn, 1) := by decide +kernel
theorem dX2_isWord_57 : decode cX2_isWord 57 = .ok (.iinc 2 1, 3) := by decide +kernel
theorem dX2_isWord_60 : decode cX2_isWord 60 = .ok (.goto (-32), 3) := by decide +kernel
theorem dX2_isWord_63 : decode cX2_isWord 63 = .ok (.iconst 1, 1) := by decide +kernel
theorem dX2_isWord_64 : decode cX2_isWord 64 = .ok (.ireturn, 1) := by decide +kernel
theorem dX2_advance_0 : decode cX2_advance 0 = .ok (.aload_n 0, 1) := by decide +kernel
theorem dX2_advance_1 : decode cX2_advance 1 = .ok (.aload_n 0, 1) := by decide +kernel
theorem dX2_advance_2 : decode cX2_advance 2 = .ok (.getfield 25, 3) := by decide +kernel
theorem dX2_advance_5 : decode cX2_advance 5 = .ok (.putfield 22, 3) := by decide +kernel
theorem dX2_advance_8 : decode cX2_advance 8 = .ok (.aload_n 0, 1) := by decide +kernel
theorem dX2_advance_9 : decode cX2_advance 9 = .ok (.getfield 22, 3) := by decide +kernel
theorem dX2_advance_12 : decode cX2_advance 12 = .ok (.aload_n 0, 1) := by decide +kernel
theorem dX2_advance_13 : decode cX2_advance 13 = .ok (.getfield 15, 3) := by decide +kernel
theorem dX2_advance_16 : decode cX2_advance 16 = .ok (.if_icmp .ge 30, 3) := by decide +kernel
theorem dX2_advance_19 : decode cX2_advance 19 = .ok (.aload_n 0, 1) := by decide +kernel
theorem dX2_advance_20 : decode cX2_advance 20 = .ok (.getfield 9, 3) := by decide +kernel
theorem dX2_advance_23 : decode cX2_advance 23 = .ok (.aload_n 0, 1) := by decide +kernel
theorem dX2_advance_24 : decode cX2_advance 24 = .ok (.getfield 22, 3) := by decide +kernel
theorem dX2_advance_27 : decode cX2_advance 27 = .ok (.iaload, 1) := by decide +kernel
theorem dX2_advance_28 : decode cX2_advance 28 = .ok (.bipush 32, 2) := by decide +kernel
theorem dX2_advance_30 : decode cX2_advance 30 = .ok (.if_icmp .ne 16, 3) := by decide +kernel
theorem dX2_advance_33 : decode cX2_advance 33 = .ok (.aload_n 0, 1) := by decide +kernel
theorem dX2_advance_34 : decode cX2_advance 34 = .ok (.dup, 1) := by decide +kernel
theorem dX2_advance_35 : decode cX2_advance 35 = .ok (.getfield 22, 3) := by decide +kernel
theorem dX2_advance_38 : decode cX2_advance 38 = .ok (.iconst 1, 1) := by decide +kernel
theorem dX2_advance_39 : decode cX2_advance 39 = .ok (.iadd, 1) := by decide +kernel
theorem dX2_advance_40 : decode cX2_advance 40 = .ok (.putfield 22, 3) := by decide +kernel
theorem dX2_advance_43 : decode cX2_advance 43 = .ok (.goto (-35), 3) := by decide +kernel
theorem dX2_advance_46 : decode cX2_advance 46 = .ok (.aload_n 0, 1) := by decide +kernel
theorem dX2_advance_47 : decode cX2_advance 47 = .ok (.aload_n 0, 1) := by decide +kernel
theorem dX2_advance_48 : decode cX2_advance 48 = .ok (.aload_n 0, 1) := by decide +kernel
theorem dX2_advance_49 : decode cX2_advance 49 = .ok (.getfield 22, 3) := by decide +kernel
theorem dX2_advance_52 : decode cX2_advance 52 = .ok (.invokevirtual 112, 3) := by decide +kernel
theorem dX2_advance_55 : decode cX2_advance 55 = .ok (.putfield 19, 3) := by decide +kernel
theorem dX2_advance_58 : decode cX2_advance 58 = .ok (.aload_n 0, 1) := by decide +kernel
theorem dX2_advance_59 : decode cX2_advance 59 = .ok (.aload_n 0, 1) := by decide +kernel
theorem dX2_advance_60 : decode cX2_advance 60 = .ok (.getfield 19, 3) := by decide +kernel
theorem dX2_advance_63 : decode cX2_advance 63 = .ok (.ifCond .ne 10, 3) := by decide +kernel
theorem dX2_advance_66 : decode cX2_advance 66 = .ok (.aload_n 0, 1) := by decide +kernel
theorem dX2_advance_67 : decode cX2_advance 67 = .ok (.getfield 22, 3) := by decide +kernel
theorem dX2_advance_70 : decode cX2_advance 70 = .ok (.goto 9, 3) := by decide +kernel
theorem dX2_advance_73 : decode cX2_advance 73 = .ok (.aload_n 0, 1) := by decide +kernel
theorem dX2_advance_74 : decode cX2_advance 74 = .ok (.getfield 22, 3) := by decide +kernel
theorem dX2_advance_77 : decode cX2_advance 77 = .ok (.iconst 1, 1) := by decide +kernel
theorem dX2_advance_78 : decode cX2_advance 78 = .ok (.iadd, 1) := by decide +kernel
theorem dX2_advance_79 : decode cX2_advance 79 = .ok (.putfield 25, 3) := by decide +kernel
theorem dX2_advance_82 : decode cX2_advance 82 = .ok (.aload_n 0, 1) := by decide +kernel
theorem dX2_advance_83 : decode cX2_advance 83 = .ok (.getfield 19, 3) := by decide +kernel
theorem dX2_advance_86 : decode cX2_advance 86 = .ok (.iconst 1, 1) := by decide +kernel
theorem dX2_advance_87 : decode cX2_advance 87 = .ok (.if_icmp .eq 11, 3) := by decide +kernel
theorem dX2_advance_90 : decode cX2_advance 90 = .ok (.aload_n 0, 1) := by decide +kernel
theorem dX2_advance_91 : decode cX2_advance 91 = .ok (.getfield 19, 3) := by decide +kernel
theorem dX2_advance_94 : decode cX2_advance 94 = .ok (.iconst 2, 1) := by decide +kernel
theorem dX2_advance_95 : decode cX2_advance 95 = .ok (.if_icmp .ne 42, 3) := by decide +kernel
theorem dX2_advance_98 : decode cX2_advance 98 = .ok (.aload_n 0, 1) := by decide +kernel
theorem dX2_advance_99 : decode cX2_advance 99 = .ok (.getfield 25, 3) := by decide +kernel
theorem dX2_advance_102 : decode cX2_advance 102 = .ok (.aload_n 0, 1) := by decide +kernel
theorem dX2_advance_103 : decode cX2_advance 103 = .ok (.getfield 15, 3) := by decide +kernel
theorem dX2_advance_106 : decode cX2_advance 106 = .ok (.if_icmp .ge 31, 3) := by decide +kernel
theorem dX2_advance_109 : decode cX2_advance 109 = .ok (.aload_n 0, 1) := by decide +kernel
theorem dX2_advance_110 : decode cX2_advance 110 = .ok (.aload_n 0, 1) := by decide +kernel
theorem dX2_advance_111 : decode cX2_advance 111 = .ok (.getfield 25, 3) := by decide +kernel
theorem dX2_advance_114 : decode cX2_advance 114 = .ok (.invokevirtual 112, 3) := by decide +kernel
theorem dX2_advance_117 : decode cX2_advance 117 = .ok (.aload_n 0, 1) := by decide +kernel
theorem dX2_advance_118 : decode cX2_advance 118 = .ok (.getfield 19, 3) := by decide +kernel
theorem dX2_advance_121 : decode cX2_advance 121 = .ok (.if_icmp .ne 16, 3) := by decide +kernel
theorem dX2_advance_124 : decode cX2_advance 124 = .ok (.aload_n 0, 1) := by decide +kernel
theorem dX2_advance_125 : decode cX2_advance 125 = .ok (.dup, 1) := by decide +kernel
theorem dX2_advance_126 : decode cX2_advance 126 = .ok (.getfield 25, 3) := by decide +kernel
theorem dX2_advance_129 : decode cX2_advance 129 = .ok (.iconst 1, 1) := by decide +kernel
theorem dX2_advance_130 : decode cX2_advance 130 = .ok (.iadd, 1) := by decide +kernel
theorem dX2_advance_131 : decode cX2_advance 131 = .ok (.putfield 25, 3) := by decide +kernel
theorem dX2_advance_134 : decode cX2_advance 134 = .ok (.goto (-36), 3) := by decide +kernel
theorem dX2_advance_137 : decode cX2_advance 137 = .ok (.aload_n 0, 1) := by decide +kernel
theorem dX2_advance_138 : decode cX2_advance 138 = .ok (.invokevirtual 115, 3) := by decide +kernel
theorem dX2_advance_141 : decode cX2_advance 141 = .ok (.return_, 1) := by decide +kernel
theorem dX2_readNumber_0 : decode cX2_readNumber 0 = .ok (.aload_n 0, 1) := by decide +kernel
theorem dX2_readNumber_1 : decode cX2_readNumber 1 = .ok (.iconst 0, 1) := by decide +kernel
theorem dX2_readNumber_2 : decode cX2_readNumber 2 = .ok (.putfield 28, 3) := by decide +kernel
theorem dX2_readNumber_5 : decode cX2_readNumber 5 = .ok (.aload_n 0, 1) := by decide +kernel
theorem dX2_readNumber_6 : decode cX2_readNumber 6 = .ok (.getfield 22, 3) := by decide +kernel
theorem dX2_readNumber_9 : decode cX2_readNumber 9 = .ok (.istore_n 1, 1) := by decide +kernel
theorem dX2_readNumber_10 : decode cX2_readNumber 10 = .ok (.iload_n 1, 1) := by decide +kernel
theorem dX2_readNumber_11 : decode cX2_readNumber 11 = .ok (.aload_n 0, 1) := by decide +kernel
theorem dX2_readNumber_12 : decode cX2_readNumber 12 = .ok (.getfield 25, 3) := by decide +kernel
theorem dX2_readNumber_15 : decode cX2_readNumber 15 = .ok (.if_icmp .ge 48, 3) := by decide +kernel
theorem dX2_readNumber_18 : decode cX2_readNumber 18 = .ok (.aload_n 0, 1) := by decide +kernel
theorem dX2_readNumber_19 : decode cX2_readNumber 19 = .ok (.getfield 19, 3) := by decide +kernel
theorem dX2_readNumber_22 : decode cX2_readNumber 22 = .ok (.iconst 2, 1) := by decide +kernel
theorem dX2_readNumber_23 : decode cX2_readNumber 23 = .ok (.if_icmp .ne 40, 3) := by decide +kernel
theorem dX2_readNumber_26 : decode cX2_readNumber 26 = .ok (.aload_n 0, 1) := by decide +kernel
theorem dX2_readNumber_27 : decode cX2_readNumber 27 = .ok (.getfield 28, 3) := by decide +kernel
theorem dX2_readNumber_30 : decode cX2_readNumber 30 = .ok (.sipush 999, 3) := by decide +kernel
theorem dX2_readNumber_33 : decode cX2_readNumber 33 = .ok (.if_icmp .gt 30, 3) := by decide +kernel
theorem dX2_readNumber_36 : decode cX2_readNumber 36 = .ok (.aload_n 0, 1) := by decide +kernel
theorem dX2_readNumber_37 : decode cX2_readNumber 37 = .ok (.bipush 10, 2) := by decide +kernel
theorem dX2_readNumber_39 : decode cX2_readNumber 39 = .ok (.aload_n 0, 1) := by decide +kernel
theorem dX2_readNumber_40 : decode cX2_readNumber 40 = .ok (.getfield 28, 3) := by decide +kernel
theorem dX2_readNumber_43 : decode cX2_readNumber 43 = .ok (.imul, 1) := by decide +kernel
theorem dX2_readNumber_44 : decode cX2_readNumber 44 = .ok (.aload_n 0, 1) := by decide +kernel
theorem dX2_readNumber_45 : decode cX2_readNumber 45 = .ok (.getfield 9, 3) := by decide +kernel
theorem dX2_readNumber_48 : decode cX2_readNumber 48 = .ok (.iload_n 1, 1) := by decide +kernel
theorem dX2_readNumber_49 : decode cX2_readNumber 49 = .ok (.iaload, 1) := by decide +kernel
theorem dX2_readNumber_50 : decode cX2_readNumber 50 = .ok (.iadd, 1) := by decide +kernel
theorem dX2_readNumber_51 : decode cX2_readNumber 51 = .ok (.bipush 48, 2) := by decide +kernel
theorem dX2_readNumber_53 : decode cX2_readNumber 53 = .ok (.isub, 1) := by decide +kernel
theorem dX2_readNumber_54 : decode cX2_readNumber 54 = .ok (.putfield 28, 3) := by decide +kernel
theorem dX2_readNumber_57 : decode cX2_readNumber 57 = .ok (.iinc 1 1, 3) := by decide +kernel
theorem dX2_readNumber_60 : decode cX2_readNumber 60 = .ok (.goto (-50), 3) := by decide +kernel
theorem dX2_readNumber_63 : decode cX2_readNumber 63 = .ok (.return_, 1) := by decide +kernel
theorem dX2_sortAt_0 : decode cX2_sortAt 0 = .ok (.iload_n 1, 1) := by decide +kernel
theorem dX2_sortAt_1 : decode cX2_sortAt 1 = .ok (.aload_n 0, 1) := by decide +kernel
theorem dX2_sortAt_2 : decode cX2_sortAt 2 = .ok (.getfield 15, 3) := by decide +kernel
theorem dX2_sortAt_5 : decode cX2_sortAt 5 = .ok (.if_icmp .lt 5, 3) := by decide +kernel
theorem dX2_sortAt_8 : decode cX2_sortAt 8 = .ok (.iconst 0, 1) := by decide +kernel
theorem dX2_sortAt_9 : decode cX2_sortAt 9 = .ok (.ireturn, 1) := by decide +kernel
theorem dX2_sortAt_10 : decode cX2_sortAt 10 = .ok (.aload_n 0, 1) := by decide +kernel
theorem dX2_sortAt_11 : decode cX2_sortAt 11 = .ok (.getfield 9, 3) := by decide +kernel
theorem dX2_sortAt_14 : decode cX2_sortAt 14 = .ok (.iload_n 1, 1) := by decide +kernel
theorem dX2_sortAt_15 : decode cX2_sortAt 15 = .ok (.iaload, 1) := by decide +kernel
theorem dX2_sortAt_16 : decode cX2_sortAt 16 = .ok (.istore_n 2, 1) := by decide +kernel
theorem dX2_sortAt_17 : decode cX2_sortAt 17 = .ok (.iload_n 2, 1) := by decide +kernel
theorem dX2_sortAt_18 : decode cX2_sortAt 18 = .ok (.bipush 97, 2) := by decide +kernel
theorem dX2_sortAt_20 : decode cX2_sortAt 20 = .ok (.if_icmp .lt 11, 3) := by decide +kernel
theorem dX2_sortAt_23 : decode cX2_sortAt 23 = .ok (.iload_n 2, 1) := by decide +kernel
theorem dX2_sortAt_24 : decode cX2_sortAt 24 = .ok (.bipush 122, 2) := by decide +kernel
theorem dX2_sortAt_26 : decode cX2_sortAt 26 = .ok (.if_icmp .gt 5, 3) := by decide +kernel
theorem dX2_sortAt_29 : decode cX2_sortAt 29 = .ok (.iconst 1, 1) := by decide +kernel
theorem dX2_sortAt_30 : decode cX2_sortAt 30 = .ok (.ireturn, 1) := by decide +kernel
theorem dX2_sortAt_31 : decode cX2_sortAt 31 = .ok (.iload_n 2, 1) := by decide +kernel
theorem dX2_sortAt_32 : decode cX2_sortAt 32 = .ok (.bipush 48, 2) := by decide +kernel
theorem dX2_sortAt_34 : decode cX2_sortAt 34 = .ok (.if_icmp .lt 11, 3) := by decide +kernel
theorem dX2_sortAt_37 : decode cX2_sortAt 37 = .ok (.iload_n 2, 1) := by decide +kernel
theorem dX2_sortAt_38 : decode cX2_sortAt 38 = .ok (.bipush 57, 2) := by decide +kernel
theorem dX2_sortAt_40 : decode cX2_sortAt 40 = .ok (.if_icmp .gt 5, 3) := by decide +kernel
theorem dX2_sortAt_43 : decode cX2_sortAt 43 = .ok (.iconst 2, 1) := by decide +kernel
theorem dX2_sortAt_44 : decode cX2_sortAt 44 = .ok (.ireturn, 1) := by decide +kernel
theorem dX2_sortAt_45 : decode cX2_sortAt 45 = .ok (.iload_n 2, 1) := by decide +kernel
theorem dX2_sortAt_46 : decode cX2_sortAt 46 = .ok (.bipush 59, 2) := by decide +kernel
theorem dX2_sortAt_48 : decode cX2_sortAt 48 = .ok (.if_icmp .eq 9, 3) := by decide +kernel
theorem dX2_sortAt_51 : decode cX2_sortAt 51 = .ok (.iload_n 2, 1) := by decide +kernel
theorem dX2_sortAt_52 : decode cX2_sortAt 52 = .ok (.bipush 45, 2) := by decide +kernel
theorem dX2_sortAt_54 : decode cX2_sortAt 54 = .ok (.if_icmp .ne 7, 3) := by decide +kernel
theorem dX2_sortAt_57 : decode cX2_sortAt 57 = .ok (.iconst 3, 1) := by decide +kernel
theorem dX2_sortAt_58 : decode cX2_sortAt 58 = .ok (.goto 4, 3) := by decide +kernel
theorem dX2_sortAt_61 : decode cX2_sortAt 61 = .ok (.iconst 4, 1) := by decide +kernel
theorem dX2_sortAt_62 : decode cX2_sortAt 62 = .ok (.ireturn, 1) := by decide +kernel
theorem dX3_init_0 : decode cX3_init 0 = .ok (.aload_n 0, 1) := by decide +kernel
theorem dX3_init_1 : decode cX3_init 1 = .ok (.invokespecial 3, 3) := by decide +kernel
theorem dX3_init_4 : decode cX3_init 4 = .ok (.aload_n 0, 1) := by decide +kernel
theorem dX3_init_5 : decode cX3_init 5 = .ok (.bipush 40, 2) := by decide +kernel
theorem dX3_init_7 : decode cX3_init 7 = .ok (.newarray .int, 2) := by decide +kernel
theorem dX3_init_9 : decode cX3_init 9 = .ok (.putfield 9, 3) := by decide +kernel
theorem dX3_init_12 : decode cX3_init 12 = .ok (.aload_n 0, 1) := by decide +kernel
theorem dX3_init_13 : decode cX3_init 13 = .ok (.iconst 0, 1) := by decide +kernel
theorem dX3_init_14 : decode cX3_init 14 = .ok (.putfield 15, 3) := by decide +kernel
theorem dX3_init_17 : decode cX3_init 17 = .ok (.aload_n 0, 1) := by decide +kernel
theorem dX3_init_18 : decode cX3_init 18 = .ok (.iconst 0, 1) := by decide +kernel
theorem dX3_init_19 : decode cX3_init 19 = .ok (.putfield 19, 3) := by decide +kernel
theorem dX3_init_22 : decode cX3_init 22 = .ok (.return_, 1) := by decide +kernel
theorem dX3_isMissing_0 : decode cX3_isMissing 0 = .ok (.aload_n 0, 1) := by decide +kernel
theorem dX3_isMissing_1 : decode cX3_isMissing 1 = .ok (.getfield 15, 3) := by decide +kernel
theorem dX3_isMissing_4 : decode cX3_isMissing 4 = .ok (.ifCond .ne 7, 3) := by decide +kernel
theorem dX3_isMissing_7 : decode cX3_isMissing 7 = .ok (.iconst 1, 1) := by decide +kernel
theorem dX3_isMissing_8 : decode cX3_isMissing 8 = .ok (.goto 4, 3) := by decide +kernel
theorem dX3_isMissing_11 : decode cX3_isMissing 11 = .ok (.iconst 0, 1) := by decide +kernel
theorem dX3_isMissing_12 : decode cX3_isMissing 12 = .ok (.ireturn, 1) := by decide +kernel
theorem dX3_renew_0 : decode cX3_renew 0 = .ok (.aload_n 0, 1) := by decide +kernel
theorem dX3_renew_1 : decode cX3_renew 1 = .ok (.iload_n 1, 1) := by decide +kernel
theorem dX3_renew_2 : decode cX3_renew 2 = .ok (.putfield 15, 3) := by decide +kernel
theorem dX3_renew_5 : decode cX3_renew 5 = .ok (.aload_n 0, 1) := by decide +kernel
theorem dX3_renew_6 : decode cX3_renew 6 = .ok (.iload_n 1, 1) := by decide +kernel
theorem dX3_renew_7 : decode cX3_renew 7 = .ok (.ifCond .ne 7, 3) := by decide +kernel
theorem dX3_renew_10 : decode cX3_renew 10 = .ok (.iconst 0, 1) := by decide +kernel
theorem dX3_renew_11 : decode cX3_renew 11 = .ok (.goto 4, 3) := by decide +kernel
theorem dX3_renew_14 : decode cX3_renew 14 = .ok (.iload_n 2, 1) := by decide +kernel
theorem dX3_renew_15 : decode cX3_renew 15 = .ok (.putfield 19, 3) := by decide +kernel
theorem dX3_renew_18 : decode cX3_renew 18 = .ok (.iconst 0, 1) := by decide +kernel
theorem dX3_renew_19 : decode cX3_renew 19 = .ok (.istore_n 3, 1) := by decide +kernel
theorem dX3_renew_20 : decode cX3_renew 20 = .ok (.iload_n 3, 1) := by decide +kernel
theorem dX3_renew_21 : decode cX3_renew 21 = .ok (.aload_n 0, 1) := by decide +kernel
theorem dX3_renew_22 : decode cX3_renew 22 = .ok (.getfield 19, 3) := by decide +kernel
theorem dX3_renew_25 : decode cX3_renew 25 = .ok (.if_icmp .ge 16, 3) := by decide +kernel
theorem dX3_renew_28 : decode cX3_renew 28 = .ok (.aload_n 0, 1) := by decide +kernel
theorem dX3_renew_29 : decode cX3_renew 29 = .ok (.getfield 9, 3) := by decide +kernel
theorem dX3_renew_32 : decode cX3_renew 32 = .ok (.iload_n 3, 1) := by decide +kernel
theorem dX3_renew_33 : decode cX3_renew 33 = .ok (.iconst 0, 1) := by decide +kernel
theorem dX3_renew_34 : decode cX3_renew 34 = .ok (.iastore, 1) := by decide +kernel
theorem dX3_renew_35 : decode cX3_renew 35 = .ok (.iinc 3 1, 3) := by decide +kernel
theorem dX3_renew_38 : decode cX3_renew 38 = .ok (.goto (-18), 3) := by decide +kernel
theorem dX3_renew_41 : decode cX3_renew 41 = .ok (.aload_n 0, 1) := by decide +kernel
theorem dX3_renew_42 : decode cX3_renew 42 = .ok (.getfield 19, 3) := by decide +kernel
theorem dX3_renew_45 : decode cX3_renew 45 = .ok (.ireturn, 1) := by decide +kernel
theorem dX3_put_0 : decode cX3_put 0 = .ok (.bipush 32, 2) := by decide +kernel
theorem dX3_put_2 : decode cX3_put 2 = .ok (.aload_n 0, 1) := by decide +kernel
theorem dX3_put_3 : decode cX3_put 3 = .ok (.getfield 15, 3) := by decide +kernel
theorem dX3_put_6 : decode cX3_put 6 = .ok (.isub, 1) := by decide +kernel
theorem dX3_put_7 : decode cX3_put 7 = .ok (.istore_n 3, 1) := by decide +kernel
theorem dX3_put_8 : decode cX3_put 8 = .ok (.aload_n 0, 1) := by decide +kernel
theorem dX3_put_9 : decode cX3_put 9 = .ok (.getfield 9, 3) := by decide +kernel
theorem dX3_put_12 : decode cX3_put 12 = .ok (.iload_n 1, 1) := by decide +kernel
theorem dX3_put_13 : decode cX3_put 13 = .ok (.iload_n 2, 1) := by decide +kernel
theorem dX3_put_14 : decode cX3_put 14 = .ok (.iload_n 3, 1) := by decide +kernel
theorem dX3_put_15 : decode cX3_put 15 = .ok (.ishl, 1) := by decide +kernel
theorem dX3_put_16 : decode cX3_put 16 = .ok (.iload_n 3, 1) := by decide +kernel
theorem dX3_put_17 : decode cX3_put 17 = .ok (.ishr, 1) := by decide +kernel
theorem dX3_put_18 : decode cX3_put 18 = .ok (.iastore, 1) := by decide +kernel
theorem dX3_put_19 : decode cX3_put 19 = .ok (.return_, 1) := by decide +kernel
theorem dX3_hasRange_0 : decode cX3_hasRange 0 = .ok (.iload_n 1, 1) := by decide +kernel
theorem dX3_hasRange_1 : decode cX3_hasRange 1 = .ok (.ifCond .lt 29, 3) := by decide +kernel
theorem dX3_hasRange_4 : decode cX3_hasRange 4 = .ok (.iload_n 2, 1) := by decide +kernel
theorem dX3_hasRange_5 : decode cX3_hasRange 5 = .ok (.ifCond .lt 25, 3) := by decide +kernel
theorem dX3_hasRange_8 : decode cX3_hasRange 8 = .ok (.iload_n 2, 1) := by decide +kernel
theorem dX3_hasRange_9 : decode cX3_hasRange 9 = .ok (.aload_n 0, 1) := by decide +kernel
theorem dX3_hasRange_10 : decode cX3_hasRange 10 = .ok (.getfield 19, 3) := by decide +kernel
theorem dX3_hasRange_13 : decode cX3_hasRange 13 = .ok (.if_icmp .gt 17, 3) := by decide +kernel
theorem dX3_hasRange_16 : decode cX3_hasRange 16 = .ok (.iload_n 1, 1) := by decide +kernel
theorem dX3_hasRange_17 : decode cX3_hasRange 17 = .ok (.aload_n 0, 1) := by decide +kernel
theorem dX3_hasRange_18 : decode cX3_hasRange 18 = .ok (.getfield 19, 3) := by decide +kernel
theorem dX3_hasRange_21 : decode cX3_hasRange 21 = .ok (.iload_n 2, 1) := by decide +kernel
theorem dX3_hasRange_22 : decode cX3_hasRange 22 = .ok (.isub, 1) := by decide +kernel
theorem dX3_hasRange_23 : decode cX3_hasRange 23 = .ok (.if_icmp .gt 7, 3) := by decide +kernel
theorem dX3_hasRange_26 : decode cX3_hasRange 26 = .ok (.iconst 1, 1) := by decide +kernel
theorem dX3_hasRange_27 : decode cX3_hasRange 27 = .ok (.goto 4, 3) := by decide +kernel
theorem dX3_hasRange_30 : decode cX3_hasRange 30 = .ok (.iconst 0, 1) := by decide +kernel
theorem dX3_hasRange_31 : decode cX3_hasRange 31 = .ok (.ireturn, 1) := by decide +kernel
theorem dX4_init_0 : decode cX4_init 0 = .ok (.aload_n 0, 1) := by decide +kernel
theorem dX4_init_1 : decode cX4_init 1 = .ok (.invokespecial 3, 3) := by decide +kernel
theorem dX4_init_4 : decode cX4_init 4 = .ok (.aload_n 0, 1) := by decide +kernel
theorem dX4_init_5 : decode cX4_init 5 = .ok (.bipush 8, 2) := by decide +kernel
theorem dX4_init_7 : decode cX4_init 7 = .ok (.newarray .int, 2) := by decide +kernel
theorem dX4_init_9 : decode cX4_init 9 = .ok (.putfield 9, 3) := by decide +kernel
theorem dX4_init_12 : decode cX4_init 12 = .ok (.aload_n 0, 1) := by decide +kernel
theorem dX4_init_13 : decode cX4_init 13 = .ok (.bipush 8, 2) := by decide +kernel
theorem dX4_init_15 : decode cX4_init 15 = .ok (.newarray .int, 2) := by decide +kernel
theorem dX4_init_17 : decode cX4_init 17 = .ok (.putfield 15, 3) := by decide +kernel
theorem dX4_init_20 : decode cX4_init 20 = .ok (.aload_n 0, 1) := by decide +kernel
theorem dX4_init_21 : decode cX4_init 21 = .ok (.bipush 48, 2) := by decide +kernel
theorem dX4_init_23 : decode cX4_init 23 = .ok (.newarray .int, 2) := by decide +kernel
theorem dX4_init_25 : decode cX4_init 25 = .ok (.putfield 18, 3) := by decide +kernel
theorem dX4_init_28 : decode cX4_init 28 = .ok (.aload_n 0, 1) := by decide +kernel
theorem dX4_init_29 : decode cX4_init 29 = .ok (.bipush 10, 2) := by decide +kernel
theorem dX4_init_31 : decode cX4_init 31 = .ok (.newarray .int, 2) := by decide +kernel
theorem dX4_init_33 : decode cX4_init 33 = .ok (.putfield 21, 3) := by decide +kernel
theorem dX4_init_36 : decode cX4_init 36 = .ok (.aload_n 0, 1) := by decide +kernel
theorem dX4_init_37 : decode cX4_init 37 = .ok (.iconst 0, 1) := by decide +kernel
theorem dX4_init_38 : decode cX4_init 38 = .ok (.putfield 24, 3) := by decide +kernel
theorem dX4_init_41 : decode cX4_init 41 = .ok (.aload_n 0, 1) := by decide +kernel
theorem dX4_init_42 : decode cX4_init 42 = .ok (.iconst 0, 1) := by decide +kernel
theorem dX4_init_43 : decode cX4_init 43 = .ok (.putfield 28, 3) := by decide +kernel
theorem dX4_init_46 : decode cX4_init 46 = .ok (.aload_n 0, 1) := by decide +kernel
theorem dX4_init_47 : decode cX4_init 47 = .ok (.iconst 0, 1) := by decide +kernel
theorem dX4_init_48 : decode cX4_init 48 = .ok (.putfield 31, 3) := by decide +kernel
theorem dX4_init_51 : decode cX4_init 51 = .ok (.aload_n 0, 1) := by decide +kernel
theorem dX4_init_52 : decode cX4_init 52 = .ok (.iconst 0, 1) := by decide +kernel
theorem dX4_init_53 : decode cX4_init 53 = .ok (.putfield 34, 3) := by decide +kernel
theorem dX4_init_56 : decode cX4_init 56 = .ok (.aload_n 0, 1) := by decide +kernel
theorem dX4_init_57 : decode cX4_init 57 = .ok (.iconst (-1), 1) := by decide +kernel
theorem dX4_init_58 : decode cX4_init 58 = .ok (.putfield 37, 3) := by decide +kernel
theorem dX4_init_61 : decode cX4_init 61 = .ok (.aload_n 0, 1) := by decide +kernel
theorem dX4_init_62 : decode cX4_init 62 = .ok (.iconst (-1), 1) := by decide +kernel
theorem dX4_init_63 : decode cX4_init 63 = .ok (.putfield 40, 3) := by decide +kernel
theorem dX4_init_66 : decode cX4_init 66 = .ok (.aload_n 0, 1) := by decide +kernel
theorem dX4_init_67 : decode cX4_init 67 = .ok (.iconst 1, 1) := by decide +kernel
theorem dX4_init_68 : decode cX4_init 68 = .ok (.putfield 43, 3) := by decide +kernel
theorem dX4_init_71 : decode cX4_init 71 = .ok (.iconst 0, 1) := by decide +kernel
theorem dX4_init_72 : decode cX4_init 72 = .ok (.istore_n 1, 1) := by decide +kernel
theorem dX4_init_73 : decode cX4_init 73 = .ok (.iload_n 1, 1) := by decide +kernel
theorem dX4_init_74 : decode cX4_init 74 = .ok (.bipush 10, 2) := by decide +kernel
theorem dX4_init_76 : decode cX4_init 76 = .ok (.if_icmp .ge 16, 3) := by decide +kernel
theorem dX4_init_79 : decode cX4_init 79 = .ok (.aload_n 0, 1) := by decide +kernel
theorem dX4_init_80 : decode cX4_init 80 = .ok (.getfield 21, 3) := by decide +kernel
theorem dX4_init_83 : decode cX4_init 83 = .ok (.iload_n 1, 1) := by decide +kernel
theorem dX4_init_84 : decode cX4_init 84 = .ok (.iconst (-1), 1) := by decide +kernel
theorem dX4_init_85 : decode cX4_init 85 = .ok (.iastore, 1) := by decide +kernel
theorem dX4_init_86 : decode cX4_init 86 = .ok (.iinc 1 1, 3) := by decide +kernel
theorem dX4_init_89 : decode cX4_init 89 = .ok (.goto (-16), 3) := by decide +kernel
theorem dX4_init_92 : decode cX4_init 92 = .ok (.return_, 1) := by decide +kernel
theorem dX4_takeOver_0 : decode cX4_takeOver 0 = .ok (.aload_n 1, 1) := by decide +kernel
theorem dX4_takeOver_1 : decode cX4_takeOver 1 = .ok (.getfield 9, 3) := by decide +kernel
theorem dX4_takeOver_4 : decode cX4_takeOver 4 = .ok (.iconst 0, 1) := by decide +kernel
theorem dX4_takeOver_5 : decode cX4_takeOver 5 = .ok (.aload_n 0, 1) := by decide +kernel
theorem dX4_takeOver_6 : decode cX4_takeOver 6 = .ok (.getfield 9, 3) := by decide +kernel
theorem dX4_takeOver_9 : decode cX4_takeOver 9 = .ok (.iconst 0, 1) := by decide +kernel
theorem dX4_takeOver_10 : decode cX4_takeOver 10 = .ok (.bipush 8, 2) := by decide +kernel
theorem dX4_takeOver_12 : decode cX4_takeOver 12 = .ok (.invokestatic 46, 3) := by decide +kernel
theorem dX4_takeOver_15 : decode cX4_takeOver 15 = .ok (.aload_n 1, 1) := by decide +kernel
theorem dX4_takeOver_16 : decode cX4_takeOver 16 = .ok (.getfield 15, 3) := by decide +kernel
theorem dX4_takeOver_19 : decode cX4_takeOver 19 = .ok (.iconst 0, 1) := by decide +kernel
theorem dX4_takeOver_20 : decode cX4_takeOver 20 = .ok (.aload_n 0, 1) := by decide +kernel
theorem dX4_takeOver_21 : decode cX4_takeOver 21 = .ok (.getfield 15, 3) := by decide +kernel
theorem dX4_takeOver_24 : decode cX4_takeOver 24 = .ok (.iconst 0, 1) := by decide +kernel
theorem dX4_takeOver_25 : decode cX4_takeOver 25 = .ok (.bipush 8, 2) := by decide +kernel
theorem dX4_takeOver_27 : decode cX4_takeOver 27 = .ok (.invokestatic 46, 3) := by decide +kernel
theorem dX4_takeOver_30 : decode cX4_takeOver 30 = .ok (.aload_n 1, 1) := by decide +kernel
theorem dX4_takeOver_31 : decode cX4_takeOver 31 = .ok (.getfield 18, 3) := by decide +kernel
theorem dX4_takeOver_34 : decode cX4_takeOver 34 = .ok (.iconst 0, 1) := by decide +kernel
theorem dX4_takeOver_35 : decode cX4_takeOver 35 = .ok (.aload_n 0, 1) := by decide +kernel
theorem dX4_takeOver_36 : decode cX4_takeOver 36 = .ok (.getfield 18, 3) := by decide +kernel
theorem dX4_takeOver_39 : decode cX4_takeOver 39 = .ok (.iconst 0, 1) := by decide +kernel
theorem dX4_takeOver_40 : decode cX4_takeOver 40 = .ok (.bipush 48, 2) := by decide +kernel
theorem dX4_takeOver_42 : decode cX4_takeOver 42 = .ok (.invokestatic 46, 3) := by decide +kernel
theorem dX4_takeOver_45 : decode cX4_takeOver 45 = .ok (.aload_n 1, 1) := by decide +kernel
theorem dX4_takeOver_46 : decode cX4_takeOver 46 = .ok (.getfield 21, 3) := by decide +kernel
theorem dX4_takeOver_49 : decode cX4_takeOver 49 = .ok (.iconst 0, 1) := by decide +kernel
theorem dX4_takeOver_50 : decode cX4_takeOver 50 = .ok (.aload_n 0, 1) := by decide +kernel
theorem dX4_takeOver_51 : decode cX4_takeOver 51 = .ok (.getfield 21, 3) := by decide +kernel
theorem dX4_takeOver_54 : decode cX4_takeOver 54 = .ok (.iconst 0, 1) := by decide +kernel
theorem dX4_takeOver_55 : decode cX4_takeOver 55 = .ok (.bipush 10, 2) := by decide +kernel
theorem dX4_takeOver_57 : decode cX4_takeOver 57 = .ok (.invokestatic 46, 3) := by decide +kernel
theorem dX4_takeOver_60 : decode cX4_takeOver 60 = .ok (.aload_n 0, 1) := by decide +kernel
theorem dX4_takeOver_61 : decode cX4_takeOver 61 = .ok (.aload_n 1, 1) := by decide +kernel
theorem dX4_takeOver_62 : decode cX4_takeOver 62 = .ok (.getfield 24, 3) := by decide +kernel
theorem dX4_takeOver_65 : decode cX4_takeOver 65 = .ok (.putfield 24, 3) := by decide +kernel
theorem dX4_takeOver_68 : decode cX4_takeOver 68 = .ok (.aload_n 0, 1) := by decide +kernel
theorem dX4_takeOver_69 : decode cX4_takeOver 69 = .ok (.aload_n 1, 1) := by decide +kernel
theorem dX4_takeOver_70 : decode cX4_takeOver 70 = .ok (.getfield 28, 3) := by decide +kernel
theorem dX4_takeOver_73 : decode cX4_takeOver 73 = .ok (.putfield 28, 3) := by decide +kernel
theorem dX4_takeOver_76 : decode cX4_takeOver 76 = .ok (.aload_n 0, 1) := by decide +kernel
theorem dX4_takeOver_77 : decode cX4_takeOver 77 = .ok (.aload_n 1, 1) := by decide +kernel
theorem dX4_takeOver_78 : decode cX4_takeOver 78 = .ok (.getfield 31, 3) := by decide +kernel
theorem dX4_takeOver_81 : decode cX4_takeOver 81 = .ok (.putfield 31, 3) := by decide +kernel
theorem dX4_takeOver_84 : decode cX4_takeOver 84 = .ok (.aload_n 0, 1) := by decide +kernel
theorem dX4_takeOver_85 : decode cX4_takeOver 85 = .ok (.aload_n 1, 1) := by decide +kernel
theorem dX4_takeOver_86 : decode cX4_takeOver 86 = .ok (.getfield 34, 3) := by decide +kernel
theorem dX4_takeOver_89 : decode cX4_takeOver 89 = .ok (.putfield 34, 3) := by decide +kernel
theorem dX4_takeOver_92 : decode cX4_takeOver 92 = .ok (.aload_n 0, 1) := by decide +kernel
theorem dX4_takeOver_93 : decode cX4_takeOver 93 = .ok (.aload_n 1, 1) := by decide +kernel
theorem dX4_takeOver_94 : decode cX4_takeOver 94 = .ok (.getfield 37, 3) := by decide +kernel
theorem dX4_takeOver_97 : decode cX4_takeOver 97 = .ok (.putfield 37, 3) := by decide +kernel
theorem dX4_takeOver_100 : decode cX4_takeOver 100 = .ok (.aload_n 0, 1) := by decide +kernel
theorem dX4_takeOver_101 : decode cX4_takeOver 101 = .ok (.aload_n 1, 1) := by decide +kernel
theorem dX4_takeOver_102 : decode cX4_takeOver 102 = .ok (.getfield 40, 3) := by decide +kernel
theorem dX4_takeOver_105 : decode cX4_takeOver 105 = .ok (.putfield 40, 3) := by decide +kernel
theorem dX4_takeOver_108 : decode cX4_takeOver 108 = .ok (.aload_n 0, 1) := by decide +kernel
theorem dX4_takeOver_109 : decode cX4_takeOver 109 = .ok (.aload_n 1, 1) := by decide +kernel
theorem dX4_takeOver_110 : decode cX4_takeOver 110 = .ok (.getfield 43, 3) := by decide +kernel
theorem dX4_takeOver_113 : decode cX4_takeOver 113 = .ok (.putfield 43, 3) := by decide +kernel
theorem dX4_takeOver_116 : decode cX4_takeOver 116 = .ok (.return_, 1) := by decide +kernel
theorem dX4_isThere_0 : decode cX4_isThere 0 = .ok (.iload_n 1, 1) := by decide +kernel
theorem dX4_isThere_1 : decode cX4_isThere 1 = .ok (.ifCond .lt 15, 3) := by decide +kernel
theorem dX4_isThere_4 : decode cX4_isThere 4 = .ok (.iload_n 1, 1) := by decide +kernel
theorem dX4_isThere_5 : decode cX4_isThere 5 = .ok (.aload_n 0, 1) := by decide +kernel
theorem dX4_isThere_6 : decode cX4_isThere 6 = .ok (.getfield 24, 3) := by decide +kernel
theorem dX4_isThere_9 : decode cX4_isThere 9 = .ok (.if_icmp .ge 7, 3) := by decide +kernel
theorem dX4_isThere_12 : decode cX4_isThere 12 = .ok (.iconst 1, 1) := by decide +kernel
theorem dX4_isThere_13 : decode cX4_isThere 13 = .ok (.goto 4, 3) := by decide +kernel
theorem dX4_isThere_16 : decode cX4_isThere 16 = .ok (.iconst 0, 1) := by decide +kernel
theorem dX4_isThere_17 : decode cX4_isThere 17 = .ok (.ireturn, 1) := by decide +kernel
theorem dX4_isCrowded_0 : decode cX4_isCrowded 0 = .ok (.aload_n 0, 1) := by decide +kernel
theorem dX4_isCrowded_1 : decode cX4_isCrowded 1 = .ok (.getfield 24, 3) := by decide +kernel
theorem dX4_isCrowded_4 : decode cX4_isCrowded 4 = .ok (.bipush 8, 2) := by decide +kernel
theorem dX4_isCrowded_6 : decode cX4_isCrowded 6 = .ok (.if_icmp .lt 7, 3) := by decide +kernel
theorem dX4_isCrowded_9 : decode cX4_isCrowded 9 = .ok (.iconst 1, 1) := by decide +kernel
theorem dX4_isCrowded_10 : decode cX4_isCrowded 10 = .ok (.goto 4, 3) := by decide +kernel
theorem dX4_isCrowded_13 : decode cX4_isCrowded 13 = .ok (.iconst 0, 1) := by decide +kernel
theorem dX4_isCrowded_14 : decode cX4_isCrowded 14 = .ok (.ireturn, 1) := by decide +kernel
theorem dX4_addPerson_0 : decode cX4_addPerson 0 = .ok (.aload_n 0, 1) := by decide +kernel
theorem dX4_addPerson_1 : decode cX4_addPerson 1 = .ok (.getfield 24, 3) := by decide +kernel
theorem dX4_addPerson_4 : decode cX4_addPerson 4 = .ok (.istore_n 2, 1) := by decide +kernel
theorem dX4_addPerson_5 : decode cX4_addPerson 5 = .ok (.aload_n 0, 1) := by decide +kernel
theorem dX4_addPerson_6 : decode cX4_addPerson 6 = .ok (.dup, 1) := by decide +kernel
theorem dX4_addPerson_7 : decode cX4_addPerson 7 = .ok (.getfield 24, 3) := by decide +kernel
theorem dX4_addPerson_10 : decode cX4_addPerson 10 = .ok (.iconst 1, 1) := by decide +kernel
theorem dX4_addPerson_11 : decode cX4_addPerson 11 = .ok (.iadd, 1) := by decide +kernel
theorem dX4_addPerson_12 : decode cX4_addPerson 12 = .ok (.putfield 24, 3) := by decide +kernel
theorem dX4_addPerson_15 : decode cX4_addPerson 15 = .ok (.aload_n 0, 1) := by decide +kernel
theorem dX4_addPerson_16 : decode cX4_addPerson 16 = .ok (.getfield 9, 3) := by decide +kernel
theorem dX4_addPerson_19 : decode cX4_addPerson 19 = .ok (.iload_n 2, 1) := by decide +kernel
theorem dX4_addPerson_20 : decode cX4_addPerson 20 = .ok (.iload_n 1, 1) := by decide +kernel
theorem dX4_addPerson_21 : decode cX4_addPerson 21 = .ok (.iastore, 1) := by decide +kernel
theorem dX4_addPerson_22 : decode cX4_addPerson 22 = .ok (.aload_n 0, 1) := by decide +kernel
theorem dX4_addPerson_23 : decode cX4_addPerson 23 = .ok (.getfield 15, 3) := by decide +kernel
theorem dX4_addPerson_26 : decode cX4_addPerson 26 = .ok (.iload_n 2, 1) := by decide +kernel
theorem dX4_addPerson_27 : decode cX4_addPerson 27 = .ok (.iconst 3, 1) := by decide +kernel
theorem dX4_addPerson_28 : decode cX4_addPerson 28 = .ok (.iastore, 1) := by decide +kernel
theorem dX4_addPerson_29 : decode cX4_addPerson 29 = .ok (.iconst 0, 1) := by decide +kernel
theorem dX4_addPerson_30 : decode cX4_addPerson 30 = .ok (.istore_n 3, 1) := by decide +kernel
theorem dX4_addPerson_31 : decode cX4_addPerson 31 = .ok (.iload_n 3, 1) := by decide +kernel
theorem dX4_addPerson_32 : decode cX4_addPerson 32 = .ok (.bipush 6, 2) := by decide +kernel
theorem dX4_addPerson_34 : decode cX4_addPerson 34 = .ok (.if_icmp .ge 16, 3) := by decide +kernel
theorem dX4_addPerson_37 : decode cX4_addPerson 37 = .ok (.aload_n 0, 1) := by decide +kernel
theorem dX4_addPerson_38 : decode cX4_addPerson 38 = .ok (.iload_n 2, 1) := by decide +kernel
theorem dX4_addPerson_39 : decode cX4_addPerson 39 = .ok (.iload_n 3, 1) := by decide +kernel
theorem dX4_addPerson_40 : decode cX4_addPerson 40 = .ok (.iconst 0, 1) := by decide +kernel
theorem dX4_addPerson_41 : decode cX4_addPerson 41 = .ok (.invokevirtual 52, 3) := by decide +kernel
theorem dX4_addPerson_44 : decode cX4_addPerson 44 = .ok (.iinc 3 1, 3) := by decide +kernel
theorem dX4_addPerson_47 : decode cX4_addPerson 47 = .ok (.goto (-16), 3) := by decide +kernel
theorem dX4_addPerson_50 : decode cX4_addPerson 50 = .ok (.iload_n 2, 1) := by decide +kernel
theorem dX4_addPerson_51 : decode cX4_addPerson 51 = .ok (.ireturn, 1) := by decide +kernel
theorem dX4_trait_0 : decode cX4_trait 0 = .ok (.iload_n 2, 1) := by decide +kernel
theorem dX4_trait_1 : decode cX4_trait 1 = .ok (.ifCond .ne 10, 3) := by decide +kernel
theorem dX4_trait_4 : decode cX4_trait 4 = .ok (.aload_n 0, 1) := by decide +kernel
theorem dX4_trait_5 : decode cX4_trait 5 = .ok (.getfield 9, 3) := by decide +kernel
theorem dX4_trait_8 : decode cX4_trait 8 = .ok (.iload_n 1, 1) := by decide +kernel
theorem dX4_trait_9 : decode cX4_trait 9 = .ok (.iaload, 1) := by decide +kernel
theorem dX4_trait_10 : decode cX4_trait 10 = .ok (.ireturn, 1) := by decide +kernel
theorem dX4_trait_11 : decode cX4_trait 11 = .ok (.iload_n 2, 1) := by decide +kernel
theorem dX4_trait_12 : decode cX4_trait 12 = .ok (.iconst 1, 1) := by decide +kernel
theorem dX4_trait_13 : decode cX4_trait 13 = .ok (.if_icmp .ne 12, 3) := by decide +kernel
theorem dX4_trait_16 : decode cX4_trait 16 = .ok (.aload_n 0, 1) := by decide +kernel
theorem dX4_trait_17 : decode cX4_trait 17 = .ok (.getfield 15, 3) := by decide +kernel
theorem dX4_trait_20 : decode cX4_trait 20 = .ok (.iload_n 1, 1) := by decide +kernel
theorem dX4_trait_21 : decode cX4_trait 21 = .ok (.iaload, 1) := by decide +kernel
theorem dX4_trait_22 : decode cX4_trait 22 = .ok (.goto 11, 3) := by decide +kernel
theorem dX4_trait_25 : decode cX4_trait 25 = .ok (.aload_n 0, 1) := by decide +kernel
theorem dX4_trait_26 : decode cX4_trait 26 = .ok (.iload_n 1, 1) := by decide +kernel
theorem dX4_trait_27 : decode cX4_trait 27 = .ok (.iload_n 2, 1) := by decide +kernel
theorem dX4_trait_28 : decode cX4_trait 28 = .ok (.iconst 2, 1) := by decide +kernel
theorem dX4_trait_29 : decode cX4_trait 29 = .ok (.isub, 1) := by decide +kernel
theorem dX4_trait_30 : decode cX4_trait 30 = .ok (.invokevirtual 56, 3) := by decide +kernel
theorem dX4_trait_33 : decode cX4_trait 33 = .ok (.ireturn, 1) := by decide +kernel
theorem dX4_setTrait_0 : decode cX4_setTrait 0 = .ok (.iload_n 2, 1) := by decide +kernel
theorem dX4_setTrait_1 : decode cX4_setTrait 1 = .ok (.ifCond .ne 13, 3) := by decide +kernel
theorem dX4_setTrait_4 : decode cX4_setTrait 4 = .ok (.aload_n 0, 1) := by decide +kernel
theorem dX4_setTrait_5 : decode cX4_setTrait 5 = .ok (.getfield 9, 3) := by decide +kernel
theorem dX4_setTrait_8 : decode cX4_setTrait 8 = .ok (.iload_n 1, 1) := by decide +kernel
theorem dX4_setTrait_9 : decode cX4_setTrait 9 = .ok (.iload_n 3, 1) := by decide +kernel
theorem dX4_setTrait_10 : decode cX4_setTrait 10 = .ok (.iastore, 1) := by decide +kernel
theorem dX4_setTrait_11 : decode cX4_setTrait 11 = .ok (.goto 27, 3) := by decide +kernel
theorem dX4_setTrait_14 : decode cX4_setTrait 14 = .ok (.iload_n 2, 1) := by decide +kernel
theorem dX4_setTrait_15 : decode cX4_setTrait 15 = .ok (.iconst 1, 1) := by decide +kernel
theorem dX4_setTrait_16 : decode cX4_setTrait 16 = .ok (.if_icmp .ne 13, 3) := by decide +kernel
theorem dX4_setTrait_19 : decode cX4_setTrait 19 = .ok (.aload_n 0, 1) := by decide +kernel
theorem dX4_setTrait_20 : decode cX4_setTrait 20 = .ok (.getfield 15, 3) := by decide +kernel
theorem dX4_setTrait_23 : decode cX4_setTrait 23 = .ok (.iload_n 1, 1) := by decide +kernel
theorem dX4_setTrait_24 : decode cX4_setTrait 24 = .ok (.iload_n 3, 1) := by decide +kernel
theorem dX4_setTrait_25 : decode cX4_setTrait 25 = .ok (.iastore, 1) := by decide +kernel
theorem dX4_setTrait_26 : decode cX4_setTrait 26 = .ok (.goto 12, 3) := by decide +kernel
theorem dX4_setTrait_29 : decode cX4_setTrait 29 = .ok (.aload_n 0, 1) := by decide +kernel
theorem dX4_setTrait_30 : decode cX4_setTrait 30 = .ok (.iload_n 1, 1) := by decide +kernel
theorem dX4_setTrait_31 : decode cX4_setTrait 31 = .ok (.iload_n 2, 1) := by decide +kernel
theorem dX4_setTrait_32 : decode cX4_setTrait 32 = .ok (.iconst 2, 1) := by decide +kernel
theorem dX4_setTrait_33 : decode cX4_setTrait 33 = .ok (.isub, 1) := by decide +kernel
theorem dX4_setTrait_34 : decode cX4_setTrait 34 = .ok (.iload_n 3, 1) := by decide +kernel
theorem dX4_setTrait_35 : decode cX4_setTrait 35 = .ok (.invokevirtual 52, 3) := by decide +kernel
theorem dX4_setTrait_38 : decode cX4_setTrait 38 = .ok (.return_, 1) := by decide +kernel
theorem dX4_viewOn_0 : decode cX4_viewOn 0 = .ok (.aload_n 0, 1) := by decide +kernel
theorem dX4_viewOn_1 : decode cX4_viewOn 1 = .ok (.getfield 18, 3) := by decide +kernel
theorem dX4_viewOn_4 : decode cX4_viewOn 4 = .ok (.iload_n 1, 1) := by decide +kernel
theorem dX4_viewOn_5 : decode cX4_viewOn 5 = .ok (.bipush 6, 2) := by decide +kernel
theorem dX4_viewOn_7 : decode cX4_viewOn 7 = .ok (.imul, 1) := by decide +kernel
theorem dX4_viewOn_8 : decode cX4_viewOn 8 = .ok (.iload_n 2, 1) := by decide +kernel
theorem dX4_viewOn_9 : decode cX4_viewOn 9 = .ok (.iadd, 1) := by decide +kernel
theorem dX4_viewOn_10 : decode cX4_viewOn 10 = .ok (.iaload, 1) := by decide +kernel
theorem dX4_viewOn_11 : decode cX4_viewOn 11 = .ok (.ireturn, 1) := by decide +kernel
theorem dX4_setView_0 : decode cX4_setView 0 = .ok (.aload_n 0, 1) := by decide +kernel
theorem dX4_setView_1 : decode cX4_setView 1 = .ok (.getfield 18, 3) := by decide +kernel
theorem dX4_setView_4 : decode cX4_setView 4 = .ok (.iload_n 1, 1) := by decide +kernel
theorem dX4_setView_5 : decode cX4_setView 5 = .ok (.bipush 6, 2) := by decide +kernel
theorem dX4_setView_7 : decode cX4_setView 7 = .ok (.imul, 1) := by decide +kernel
theorem dX4_setView_8 : decode cX4_setView 8 = .ok (.iload_n 2, 1) := by decide +kernel
theorem dX4_setView_9 : decode cX4_setView 9 = .ok (.iadd, 1) := by decide +kernel
theorem dX4_setView_10 : decode cX4_setView 10 = .ok (.iload_n 3, 1) := by decide +kernel
theorem dX4_setView_11 : decode cX4_setView 11 = .ok (.iastore, 1) := by decide +kernel
theorem dX4_setView_12 : decode cX4_setView 12 = .ok (.return_, 1) := by decide +kernel
theorem dX4_distance_0 : decode cX4_distance 0 = .ok (.aload_n 0, 1) := by decide +kernel
theorem dX4_distance_1 : decode cX4_distance 1 = .ok (.iload_n 1, 1) := by decide +kernel
theorem dX4_distance_2 : decode cX4_distance 2 = .ok (.iload_n 3, 1) := by decide +kernel
theorem dX4_distance_3 : decode cX4_distance 3 = .ok (.invokevirtual 56, 3) := by decide +kernel
theorem dX4_distance_6 : decode cX4_distance 6 = .ok (.aload_n 0, 1) := by decide +kernel
theorem dX4_distance_7 : decode cX4_distance 7 = .ok (.iload_n 2, 1) := by decide +kernel
theorem dX4_distance_8 : decode cX4_distance 8 = .ok (.iload_n 3, 1) := by decide +kernel
theorem dX4_distance_9 : decode cX4_distance 9 = .ok (.invokevirtual 56, 3) := by decide +kernel
theorem dX4_distance_12 : decode cX4_distance 12 = .ok (.isub, 1) := by decide +kernel
theorem dX4_distance_13 : decode cX4_distance 13 = .ok (.invokestatic 60, 3) := by decide +kernel
theorem dX4_distance_16 : decode cX4_distance 16 = .ok (.ireturn, 1) := by decide +kernel
theorem dX4_movesOf_0 : decode cX4_movesOf 0 = .ok (.aload_n 0, 1) := by decide +kernel
theorem dX4_movesOf_1 : decode cX4_movesOf 1 = .ok (.getfield 9, 3) := by decide +kernel
theorem dX4_movesOf_4 : decode cX4_movesOf 4 = .ok (.iload_n 1, 1) := by decide +kernel
theorem dX4_movesOf_5 : decode cX4_movesOf 5 = .ok (.iaload, 1) := by decide +kernel
theorem dX4_movesOf_6 : decode cX4_movesOf 6 = .ok (.iload_n 2, 1) := by decide +kernel
theorem dX4_movesOf_7 : decode cX4_movesOf 7 = .ok (.aload_n 0, 1) := by decide +kernel
theorem dX4_movesOf_8 : decode cX4_movesOf 8 = .ok (.getfield 28, 3) := by decide +kernel
theorem dX4_movesOf_11 : decode cX4_movesOf 11 = .ok (.invokestatic 66, 3) := by decide +kernel
theorem dX4_movesOf_14 : decode cX4_movesOf 14 = .ok (.ireturn, 1) := by decide +kernel
theorem dX4_strokesOf_0 : decode cX4_strokesOf 0 = .ok (.aload_n 0, 1) := by decide +kernel
theorem dX4_strokesOf_1 : decode cX4_strokesOf 1 = .ok (.getfield 9, 3) := by decide +kernel
theorem dX4_strokesOf_4 : decode cX4_strokesOf 4 = .ok (.iload_n 1, 1) := by decide +kernel
theorem dX4_strokesOf_5 : decode cX4_strokesOf 5 = .ok (.iaload, 1) := by decide +kernel
theorem dX4_strokesOf_6 : decode cX4_strokesOf 6 = .ok (.aload_n 0, 1) := by decide +kernel
theorem dX4_strokesOf_7 : decode cX4_strokesOf 7 = .ok (.getfield 15, 3) := by decide +kernel
theorem dX4_strokesOf_10 : decode cX4_strokesOf 10 = .ok (.iload_n 1, 1) := by decide +kernel
theorem dX4_strokesOf_11 : decode cX4_strokesOf 11 = .ok (.iaload, 1) := by decide +kernel
theorem dX4_strokesOf_12 : decode cX4_strokesOf 12 = .ok (.iload_n 2, 1) := by decide +kernel
theorem dX4_strokesOf_13 : decode cX4_strokesOf 13 = .ok (.aload_n 0, 1) := by decide +kernel
theorem dX4_strokesOf_14 : decode cX4_strokesOf 14 = .ok (.getfield 28, 3) := by decide +kernel
theorem dX4_strokesOf_17 : decode cX4_strokesOf 17 = .ok (.invokestatic 72, 3) := by decide +kernel
theorem dX4_strokesOf_20 : decode cX4_strokesOf 20 = .ok (.ireturn, 1) := by decide +kernel
theorem dX4_seat_0 : decode cX4_seat 0 = .ok (.aload_n 0, 1) := by decide +kernel
theorem dX4_seat_1 : decode cX4_seat 1 = .ok (.iload_n 1, 1) := by decide +kernel
theorem dX4_seat_2 : decode cX4_seat 2 = .ok (.putfield 37, 3) := by decide +kernel
theorem dX4_seat_5 : decode cX4_seat 5 = .ok (.aload_n 0, 1) := by decide +kernel
theorem dX4_seat_6 : decode cX4_seat 6 = .ok (.iload_n 2, 1) := by decide +kernel
theorem dX4_seat_7 : decode cX4_seat 7 = .ok (.putfield 40, 3) := by decide +kernel
theorem dX4_seat_10 : decode cX4_seat 10 = .ok (.return_, 1) := by decide +kernel
theorem dX4_leave_0 : decode cX4_leave 0 = .ok (.aload_n 0, 1) := by decide +kernel
theorem dX4_leave_1 : decode cX4_leave 1 = .ok (.iconst (-1), 1) := by decide +kernel
theorem dX4_leave_2 : decode cX4_leave 2 = .ok (.putfield 37, 3) := by decide +kernel
theorem dX4_leave_5 : decode cX4_leave 5 = .ok (.aload_n 0, 1) := by decide +kernel
theorem dX4_leave_6 : decode cX4_leave 6 = .ok (.iconst (-1), 1) := by decide +kernel
theorem dX4_leave_7 : decode cX4_leave 7 = .ok (.putfield 40, 3) := by decide +kernel
theorem dX4_leave_10 : decode cX4_leave 10 = .ok (.return_, 1) := by decide +kernel
theorem dX4_isManned_0 : decode cX4_isManned 0 = .ok (.aload_n 0, 1) := by decide +kernel
theorem dX4_isManned_1 : decode cX4_isManned 1 = .ok (.aload_n 0, 1) := by decide +kernel
theorem dX4_isManned_2 : decode cX4_isManned 2 = .ok (.getfield 37, 3) := by decide +kernel
theorem dX4_isManned_5 : decode cX4_isManned 5 = .ok (.invokevirtual 76, 3) := by decide +kernel
theorem dX4_isManned_8 : decode cX4_isManned 8 = .ok (.ifCond .eq 18, 3) := by decide +kernel
theorem dX4_isManned_11 : decode cX4_isManned 11 = .ok (.aload_n 0, 1) := by decide +kernel
theorem dX4_isManned_12 : decode cX4_isManned 12 = .ok (.aload_n 0, 1) := by decide +kernel
theorem dX4_isManned_13 : decode cX4_isManned 13 = .ok (.getfield 40, 3) := by decide +kernel
theorem dX4_isManned_16 : decode cX4_isManned 16 = .ok (.invokevirtual 76, 3) := by decide +kernel
theorem dX4_isManned_19 : decode cX4_isManned 19 = .ok (.ifCond .eq 7, 3) := by decide +kernel
theorem dX4_isManned_22 : decode cX4_isManned 22 = .ok (.iconst 1, 1) := by decide +kernel
theorem dX4_isManned_23 : decode cX4_isManned 23 = .ok (.goto 4, 3) := by decide +kernel
theorem dX4_isManned_26 : decode cX4_isManned 26 = .ok (.iconst 0, 1) := by decide +kernel
theorem dX4_isManned_27 : decode cX4_isManned 27 = .ok (.ireturn, 1) := by decide +kernel
theorem dX4_isAtHandle_0 : decode cX4_isAtHandle 0 = .ok (.iload_n 1, 1) := by decide +kernel
theorem dX4_isAtHandle_1 : decode cX4_isAtHandle 1 = .ok (.aload_n 0, 1) := by decide +kernel
theorem dX4_isAtHandle_2 : decode cX4_isAtHandle 2 = .ok (.getfield 37, 3) := by decide +kernel
theorem dX4_isAtHandle_5 : decode cX4_isAtHandle 5 = .ok (.if_icmp .eq 11, 3) := by decide +kernel
theorem dX4_isAtHandle_8 : decode cX4_isAtHandle 8 = .ok (.iload_n 1, 1) := by decide +kernel
theorem dX4_isAtHandle_9 : decode cX4_isAtHandle 9 = .ok (.aload_n 0, 1) := by decide +kernel
theorem dX4_isAtHandle_10 : decode cX4_isAtHandle 10 = .ok (.getfield 40, 3) := by decide +kernel
theorem dX4_isAtHandle_13 : decode cX4_isAtHandle 13 = .ok (.if_icmp .ne 7, 3) := by decide +kernel
theorem dX4_isAtHandle_16 : decode cX4_isAtHandle 16 = .ok (.iconst 1, 1) := by decide +kernel
theorem dX4_isAtHandle_17 : decode cX4_isAtHandle 17 = .ok (.goto 4, 3) := by decide +kernel
theorem dX4_isAtHandle_20 : decode cX4_isAtHandle 20 = .ok (.iconst 0, 1) := by decide +kernel
theorem dX4_isAtHandle_21 : decode cX4_isAtHandle 21 = .ok (.ireturn, 1) := by decide +kernel
theorem dX4_quarrelSet_0 : decode cX4_quarrelSet 0 = .ok (.iconst 0, 1) := by decide +kernel
theorem dX4_quarrelSet_1 : decode cX4_quarrelSet 1 = .ok (.istore_n 1, 1) := by decide +kernel
theorem dX4_quarrelSet_2 : decode cX4_quarrelSet 2 = .ok (.iconst 0, 1) := by decide +kernel
theorem dX4_quarrelSet_3 : decode cX4_quarrelSet 3 = .ok (.istore_n 2, 1) := by decide +kernel
theorem dX4_quarrelSet_4 : decode cX4_quarrelSet 4 = .ok (.iload_n 2, 1) := by decide +kernel
theorem dX4_quarrelSet_5 : decode cX4_quarrelSet 5 = .ok (.bipush 6, 2) := by decide +kernel
theorem dX4_quarrelSet_7 : decode cX4_quarrelSet 7 = .ok (.if_icmp .ge 38, 3) := by decide +kernel
theorem dX4_quarrelSet_10 : decode cX4_quarrelSet 10 = .ok (.aload_n 0, 1) := by decide +kernel
theorem dX4_quarrelSet_11 : decode cX4_quarrelSet 11 = .ok (.invokevirtual 80, 3) := by decide +kernel
theorem dX4_quarrelSet_14 : decode cX4_quarrelSet 14 = .ok (.ifCond .eq 31, 3) := by decide +kernel
theorem dX4_quarrelSet_17 : decode cX4_quarrelSet 17 = .ok (.aload_n 0, 1) := by decide +kernel
theorem dX4_quarrelSet_18 : decode cX4_quarrelSet 18 = .ok (.aload_n 0, 1) := by decide +kernel
theorem dX4_quarrelSet_19 : decode cX4_quarrelSet 19 = .ok (.getfield 37, 3) := by decide +kernel
theorem dX4_quarrelSet_22 : decode cX4_quarrelSet 22 = .ok (.aload_n 0, 1) := by decide +kernel
theorem dX4_quarrelSet_23 : decode cX4_quarrelSet 23 = .ok (.getfield 40, 3) := by decide +kernel
theorem dX4_quarrelSet_26 : decode cX4_quarrelSet 26 = .ok (.iload_n 2, 1) := by decide +kernel
theorem dX4_quarrelSet_27 : decode cX4_quarrelSet 27 = .ok (.invokevirtual 84, 3) := by decide +kernel
theorem dX4_quarrelSet_30 : decode cX4_quarrelSet 30 = .ok (.ifCond .eq 9, 3) := by decide +kernel
theorem dX4_quarrelSet_33 : decode cX4_quarrelSet 33 = .ok (.iload_n 1, 1) := by decide +kernel
theorem dX4_quarrelSet_34 : decode cX4_quarrelSet 34 = .ok (.iconst 1, 1) := by decide +kernel
theorem dX4_quarrelSet_35 : decode cX4_quarrelSet 35 = .ok (.iload_n 2, 1) := by decide +kernel
theorem dX4_quarrelSet_36 : decode cX4_quarrelSet 36 = .ok (.ishl, 1) := by decide +kernel
theorem dX4_quarrelSet_37 : decode cX4_quarrelSet 37 = .ok (.ior, 1) := by decide +kernel
theorem dX4_quarrelSet_38 : decode cX4_quarrelSet 38 = .ok (.istore_n 1, 1) := by decide +kernel
theorem dX4_quarrelSet_39 : decode cX4_quarrelSet 39 = .ok (.iinc 2 1, 3) := by decide +kernel
theorem dX4_quarrelSet_42 : decode cX4_quarrelSet 42 = .ok (.goto (-38), 3) := by decide +kernel
theorem dX4_quarrelSet_45 : decode cX4_quarrelSet 45 = .ok (.iload_n 1, 1) := by decide +kernel
theorem dX4_quarrelSet_46 : decode cX4_quarrelSet 46 = .ok (.ireturn, 1) := by decide +kernel
theorem dX4_allVoices_0 : decode cX4_allVoices 0 = .ok (.iconst 0, 1) := by decide +kernel
theorem dX4_allVoices_1 : decode cX4_allVoices 1 = .ok (.istore_n 1, 1) := by decide +kernel
theorem dX4_allVoices_2 : decode cX4_allVoices 2 = .ok (.iconst 0, 1) := by decide +kernel
theorem dX4_allVoices_3 : decode cX4_allVoices 3 = .ok (.istore_n 2, 1) := by decide +kernel
theorem dX4_allVoices_4 : decode cX4_allVoices 4 = .ok (.iload_n 2, 1) := by decide +kernel
theorem dX4_allVoices_5 : decode cX4_allVoices 5 = .ok (.aload_n 0, 1) := by decide +kernel
theorem dX4_allVoices_6 : decode cX4_allVoices 6 = .ok (.getfield 24, 3) := by decide +kernel
theorem dX4_allVoices_9 : decode cX4_allVoices 9 = .ok (.if_icmp .ge 18, 3) := by decide +kernel
theorem dX4_allVoices_12 : decode cX4_allVoices 12 = .ok (.iload_n 1, 1) := by decide +kernel
theorem dX4_allVoices_13 : decode cX4_allVoices 13 = .ok (.aload_n 0, 1) := by decide +kernel
theorem dX4_allVoices_14 : decode cX4_allVoices 14 = .ok (.getfield 15, 3) := by decide +kernel
theorem dX4_allVoices_17 : decode cX4_allVoices 17 = .ok (.iload_n 2, 1) := by decide +kernel
theorem dX4_allVoices_18 : decode cX4_allVoices 18 = .ok (.iaload, 1) := by decide +kernel
theorem dX4_allVoices_19 : decode cX4_allVoices 19 = .ok (.iadd, 1) := by decide +kernel
theorem dX4_allVoices_20 : decode cX4_allVoices 20 = .ok (.istore_n 1, 1) := by decide +kernel
theorem dX4_allVoices_21 : decode cX4_allVoices 21 = .ok (.iinc 2 1, 3) := by decide +kernel
theorem dX4_allVoices_24 : decode cX4_allVoices 24 = .ok (.goto (-20), 3) := by decide +kernel
theorem dX4_allVoices_27 : decode cX4_allVoices 27 = .ok (.iload_n 1, 1) := by decide +kernel
theorem dX4_allVoices_28 : decode cX4_allVoices 28 = .ok (.ireturn, 1) := by decide +kernel
theorem dX4_fullSpots_0 : decode cX4_fullSpots 0 = .ok (.iconst 0, 1) := by decide +kernel
theorem dX4_fullSpots_1 : decode cX4_fullSpots 1 = .ok (.istore_n 1, 1) := by decide +kernel
theorem dX4_fullSpots_2 : decode cX4_fullSpots 2 = .ok (.iconst 0, 1) := by decide +kernel
theorem dX4_fullSpots_3 : decode cX4_fullSpots 3 = .ok (.istore_n 2, 1) := by decide +kernel
theorem dX4_fullSpots_4 : decode cX4_fullSpots 4 = .ok (.iload_n 2, 1) := by decide +kernel
theorem dX4_fullSpots_5 : decode cX4_fullSpots 5 = .ok (.bipush 10, 2) := by decide +kernel
theorem dX4_fullSpots_7 : decode cX4_fullSpots 7 = .ok (.if_icmp .ge 22, 3) := by decide +kernel
theorem dX4_fullSpots_10 : decode cX4_fullSpots 10 = .ok (.aload_n 0, 1) := by decide +kernel
theorem dX4_fullSpots_11 : decode cX4_fullSpots 11 = .ok (.getfield 21, 3) := by decide +kernel
theorem dX4_fullSpots_14 : decode cX4_fullSpots 14 = .ok (.iload_n 2, 1) := by decide +kernel
theorem dX4_fullSpots_15 : decode cX4_fullSpots 15 = .ok (.iaload, 1) := by decide +kernel
theorem dX4_fullSpots_16 : decode cX4_fullSpots 16 = .ok (.iconst (-1), 1) := by decide +kernel
theorem dX4_fullSpots_17 : decode cX4_fullSpots 17 = .ok (.if_icmp .eq 6, 3) := by decide +kernel
theorem dX4_fullSpots_20 : decode cX4_fullSpots 20 = .ok (.iinc 1 1, 3) := by decide +kernel
theorem dX4_fullSpots_23 : decode cX4_fullSpots 23 = .ok (.iinc 2 1, 3) := by decide +kernel
theorem dX4_fullSpots_26 : decode cX4_fullSpots 26 = .ok (.goto (-22), 3) := by decide +kernel
theorem dX4_fullSpots_29 : decode cX4_fullSpots 29 = .ok (.iload_n 1, 1) := by decide +kernel
theorem dX4_fullSpots_30 : decode cX4_fullSpots 30 = .ok (.ireturn, 1) := by decide +kernel
theorem dX4_thinksLike_0 : decode cX4_thinksLike 0 = .ok (.aload_n 0, 1) := by decide +kernel
theorem dX4_thinksLike_1 : decode cX4_thinksLike 1 = .ok (.getfield 34, 3) := by decide +kernel
theorem dX4_thinksLike_4 : decode cX4_thinksLike 4 = .ok (.aload_n 1, 1) := by decide +kernel
theorem dX4_thinksLike_5 : decode cX4_thinksLike 5 = .ok (.getfield 34, 3) := by decide +kernel
theorem dX4_thinksLike_8 : decode cX4_thinksLike 8 = .ok (.if_icmp .eq 5, 3) := by decide +kernel
theorem dX4_thinksLike_11 : decode cX4_thinksLike 11 = .ok (.iconst 0, 1) := by decide +kernel
theorem dX4_thinksLike_12 : decode cX4_thinksLike 12 = .ok (.ireturn, 1) := by decide +kernel
theorem dX4_thinksLike_13 : decode cX4_thinksLike 13 = .ok (.iconst 0, 1) := by decide +kernel
theorem dX4_thinksLike_14 : decode cX4_thinksLike 14 = .ok (.istore_n 2, 1) := by decide +kernel
theorem dX4_thinksLike_15 : decode cX4_thinksLike 15 = .ok (.iload_n 2, 1) := by decide +kernel
theorem dX4_thinksLike_16 : decode cX4_thinksLike 16 = .ok (.aload_n 0, 1) := by decide +kernel
theorem dX4_thinksLike_17 : decode cX4_thinksLike 17 = .ok (.getfield 24, 3) := by decide +kernel
theorem dX4_thinksLike_20 : decode cX4_thinksLike 20 = .ok (.bipush 6, 2) := by decide +kernel
theorem dX4_thinksLike_22 : decode cX4_thinksLike 22 = .ok (.imul, 1) := by decide +kernel
theorem dX4_thinksLike_23 : decode cX4_thinksLike 23 = .ok (.if_icmp .ge 26, 3) := by decide +kernel
theorem dX4_thinksLike_26 : decode cX4_thinksLike 26 = .ok (.aload_n 0, 1) := by decide +kernel
theorem dX4_thinksLike_27 : decode cX4_thinksLike 27 = .ok (.getfield 18, 3) := by decide +kernel
theorem dX4_thinksLike_30 : decode cX4_thinksLike 30 = .ok (.iload_n 2, 1) := by decide +kernel
theorem dX4_thinksLike_31 : decode cX4_thinksLike 31 = .ok (.iaload, 1) := by decide +kernel
theorem dX4_thinksLike_32 : decode cX4_thinksLike 32 = .ok (.aload_n 1, 1) := by decide +kernel
theorem dX4_thinksLike_33 : decode cX4_thinksLike 33 = .ok (.getfield 18, 3) := by decide +kernel
theorem dX4_thinksLike_36 : decode cX4_thinksLike 36 = .ok (.iload_n 2, 1) := by decide +kernel
theorem dX4_thinksLike_37 : decode cX4_thinksLike 37 = .ok (.iaload, 1) := by decide +kernel
theorem dX4_thinksLike_38 : decode cX4_thinksLike 38 = .ok (.if_icmp .eq 5, 3) := by decide +kernel
theorem dX4_thinksLike_41 : decode cX4_thinksLike 41 = .ok (.iconst 0, 1) := by decide +kernel
theorem dX4_thinksLike_42 : decode cX4_thinksLike 42 = .ok (.ireturn, 1) := by decide +kernel
theorem dX4_thinksLike_43 : decode cX4_thinksLike 43 = .ok (.iinc 2 1, 3) := by decide +kernel
theorem dX4_thinksLike_46 : decode cX4_thinksLike 46 = .ok (.goto (-31), 3) := by decide +kernel
theorem dX4_thinksLike_49 : decode cX4_thinksLike 49 = .ok (.iconst 1, 1) := by decide +kernel
theorem dX4_thinksLike_50 : decode cX4_thinksLike 50 = .ok (.ireturn, 1) := by decide +kernel
theorem dX4_draw_0 : decode cX4_draw 0 = .ok (.aload_n 0, 1) := by decide +kernel
theorem dX4_draw_1 : decode cX4_draw 1 = .ok (.aload_n 0, 1) := by decide +kernel
theorem dX4_draw_2 : decode cX4_draw 2 = .ok (.getfield 43, 3) := by decide +kernel
theorem dX4_draw_5 : decode cX4_draw 5 = .ok (.ldc 87, 2) := by decide +kernel
theorem dX4_draw_7 : decode cX4_draw 7 = .ok (.imul, 1) := by decide +kernel
theorem dX4_draw_8 : decode cX4_draw 8 = .ok (.sipush 12345, 3) := by decide +kernel
theorem dX4_draw_11 : decode cX4_draw 11 = .ok (.iadd, 1) := by decide +kernel
theorem dX4_draw_12 : decode cX4_draw 12 = .ok (.putfield 43, 3) := by decide +kernel
theorem dX4_draw_15 : decode cX4_draw 15 = .ok (.aload_n 0, 1) := by decide +kernel
theorem dX4_draw_16 : decode cX4_draw 16 = .ok (.getfield 43, 3) := by decide +kernel
theorem dX4_draw_19 : decode cX4_draw 19 = .ok (.bipush 8, 2) := by decide +kernel
theorem dX4_draw_21 : decode cX4_draw 21 = .ok (.iushr, 1) := by decide +kernel
theorem dX4_draw_22 : decode cX4_draw 22 = .ok (.ireturn, 1) := by decide +kernel
theorem dX4_passMinute_0 : decode cX4_passMinute 0 = .ok (.aload_n 0, 1) := by decide +kernel
theorem dX4_passMinute_1 : decode cX4_passMinute 1 = .ok (.invokevirtual 80, 3) := by decide +kernel
theorem dX4_passMinute_4 : decode cX4_passMinute 4 = .ok (.ifCond .eq 10, 3) := by decide +kernel
theorem dX4_passMinute_7 : decode cX4_passMinute 7 = .ok (.aload_n 0, 1) := by decide +kernel
theorem dX4_passMinute_8 : decode cX4_passMinute 8 = .ok (.invokevirtual 88, 3) := by decide +kernel
theorem dX4_passMinute_11 : decode cX4_passMinute 11 = .ok (.goto 4, 3) := by decide +kernel
theorem dX4_passMinute_14 : decode cX4_passMinute 14 = .ok (.iconst 0, 1) := by decide +kernel
theorem dX4_passMinute_15 : decode cX4_passMinute 15 = .ok (.istore_n 1, 1) := by decide +kernel
theorem dX4_passMinute_16 : decode cX4_passMinute 16 = .ok (.aload_n 0, 1) := by decide +kernel
theorem dX4_passMinute_17 : decode cX4_passMinute 17 = .ok (.ldc 92, 2) := by decide +kernel
theorem dX4_passMinute_19 : decode cX4_passMinute 19 = .ok (.aload_n 0, 1) := by decide +kernel
theorem dX4_passMinute_20 : decode cX4_passMinute 20 = .ok (.getfield 31, 3) := by decide +kernel
theorem dX4_passMinute_23 : decode cX4_passMinute 23 = .ok (.iload_n 1, 1) := by decide +kernel
theorem dX4_passMinute_24 : decode cX4_passMinute 24 = .ok (.iadd, 1) := by decide +kernel
theorem dX4_passMinute_25 : decode cX4_passMinute 25 = .ok (.invokestatic 93, 3) := by decide +kernel
theorem dX4_passMinute_28 : decode cX4_passMinute 28 = .ok (.putfield 31, 3) := by decide +kernel
theorem dX4_passMinute_31 : decode cX4_passMinute 31 = .ok (.aload_n 0, 1) := by decide +kernel
theorem dX4_passMinute_32 : decode cX4_passMinute 32 = .ok (.ldc 96, 2) := by decide +kernel
theorem dX4_passMinute_34 : decode cX4_passMinute 34 = .ok (.aload_n 0, 1) := by decide +kernel
theorem dX4_passMinute_35 : decode cX4_passMinute 35 = .ok (.getfield 28, 3) := by decide +kernel
theorem dX4_passMinute_38 : decode cX4_passMinute 38 = .ok (.iconst 1, 1) := by decide +kernel
theorem dX4_passMinute_39 : decode cX4_passMinute 39 = .ok (.iadd, 1) := by decide +kernel
theorem dX4_passMinute_40 : decode cX4_passMinute 40 = .ok (.invokestatic 93, 3) := by decide +kernel
theorem dX4_passMinute_43 : decode cX4_passMinute 43 = .ok (.putfield 28, 3) := by decide +kernel
theorem dX4_passMinute_46 : decode cX4_passMinute 46 = .ok (.iload_n 1, 1) := by decide +kernel
theorem dX4_passMinute_47 : decode cX4_passMinute 47 = .ok (.ireturn, 1) := by decide +kernel
theorem dX4_passMinutes_0 : decode cX4_passMinutes 0 = .ok (.iconst 0, 1) := by decide +kernel
theorem dX4_passMinutes_1 : decode cX4_passMinutes 1 = .ok (.istore_n 2, 1) := by decide +kernel
theorem dX4_passMinutes_2 : decode cX4_passMinutes 2 = .ok (.iload_n 2, 1) := by decide +kernel
theorem dX4_passMinutes_3 : decode cX4_passMinutes 3 = .ok (.iload_n 1, 1) := by decide +kernel
theorem dX4_passMinutes_4 : decode cX4_passMinutes 4 = .ok (.if_icmp .ge 14, 3) := by decide +kernel
theorem dX4_passMinutes_7 : decode cX4_passMinutes 7 = .ok (.aload_n 0, 1) := by decide +kernel
theorem dX4_passMinutes_8 : decode cX4_passMinutes 8 = .ok (.invokevirtual 97, 3) := by decide +kernel
theorem dX4_passMinutes_11 : decode cX4_passMinutes 11 = .ok (.pop, 1) := by decide +kernel
theorem dX4_passMinutes_12 : decode cX4_passMinutes 12 = .ok (.iinc 2 1, 3) := by decide +kernel
theorem dX4_passMinutes_15 : decode cX4_passMinutes 15 = .ok (.goto (-13), 3) := by decide +kernel
theorem dX4_passMinutes_18 : decode cX4_passMinutes 18 = .ok (.return_, 1) := by decide +kernel
theorem dX4_pumpBy_0 : decode cX4_pumpBy 0 = .ok (.aload_n 0, 1) := by decide +kernel
theorem dX4_pumpBy_1 : decode cX4_pumpBy 1 = .ok (.iload_n 1, 1) := by decide +kernel
theorem dX4_pumpBy_2 : decode cX4_pumpBy 2 = .ok (.iload_n 2, 1) := by decide +kernel
theorem dX4_pumpBy_3 : decode cX4_pumpBy 3 = .ok (.invokevirtual 100, 3) := by decide +kernel
theorem dX4_pumpBy_6 : decode cX4_pumpBy 6 = .ok (.iconst 0, 1) := by decide +kernel
theorem dX4_pumpBy_7 : decode cX4_pumpBy 7 = .ok (.istore 4, 2) := by decide +kernel
theorem dX4_pumpBy_9 : decode cX4_pumpBy 9 = .ok (.iconst 0, 1) := by decide +kernel
theorem dX4_pumpBy_10 : decode cX4_pumpBy 10 = .ok (.istore 5, 2) := by decide +kernel
theorem dX4_pumpBy_12 : decode cX4_pumpBy 12 = .ok (.iload 5, 2) := by decide +kernel
theorem dX4_pumpBy_14 : decode cX4_pumpBy 14 = .ok (.iload_n 3, 1) := by decide +kernel
theorem dX4_pumpBy_15 : decode cX4_pumpBy 15 = .ok (.if_icmp .ge 18, 3) := by decide +kernel
theorem dX4_pumpBy_18 : decode cX4_pumpBy 18 = .ok (.iload 4, 2) := by decide +kernel
theorem dX4_pumpBy_20 : decode cX4_pumpBy 20 = .ok (.aload_n 0, 1) := by decide +kernel
theorem dX4_pumpBy_21 : decode cX4_pumpBy 21 = .ok (.invokevirtual 97, 3) := by decide +kernel
theorem dX4_pumpBy_24 : decode cX4_pumpBy 24 = .ok (.iadd, 1) := by decide +kernel
theorem dX4_pumpBy_25 : decode cX4_pumpBy 25 = .ok (.istore 4, 2) := by decide +kernel
theorem dX4_pumpBy_27 : decode cX4_pumpBy 27 = .ok (.iinc 5 1, 3) := by decide +kernel
theorem dX4_pumpBy_30 : decode cX4_pumpBy 30 = .ok (.goto (-18), 3) := by decide +kernel
theorem dX4_pumpBy_33 : decode cX4_pumpBy 33 = .ok (.iload 4, 2) := by decide +kernel
theorem dX4_pumpBy_35 : decode cX4_pumpBy 35 = .ok (.ireturn, 1) := by decide +kernel
theorem dX4_exchange_0 : decode cX4_exchange 0 = .ok (.aload_n 0, 1) := by decide +kernel
theorem dX4_exchange_1 : decode cX4_exchange 1 = .ok (.aload_n 0, 1) := by decide +kernel
theorem dX4_exchange_2 : decode cX4_exchange 2 = .ok (.getfield 37, 3) := by decide +kernel
theorem dX4_exchange_5 : decode cX4_exchange 5 = .ok (.aload_n 0, 1) := by decide +kernel
theorem dX4_exchange_6 : decode cX4_exchange 6 = .ok (.getfield 34, 3) := by decide +kernel
theorem dX4_exchange_9 : decode cX4_exchange 9 = .ok (.invokevirtual 56, 3) := by decide +kernel
theorem dX4_exchange_12 : decode cX4_exchange 12 = .ok (.istore_n 1, 1) := by decide +kernel
theorem dX4_exchange_13 : decode cX4_exchange 13 = .ok (.aload_n 0, 1) := by decide +kernel
theorem dX4_exchange_14 : decode cX4_exchange 14 = .ok (.aload_n 0, 1) := by decide +kernel
theorem dX4_exchange_15 : decode cX4_exchange 15 = .ok (.getfield 40, 3) := by decide +kernel
theorem dX4_exchange_18 : decode cX4_exchange 18 = .ok (.aload_n 0, 1) := by decide +kernel
theorem dX4_exchange_19 : decode cX4_exchange 19 = .ok (.getfield 34, 3) := by decide +kernel
theorem dX4_exchange_22 : decode cX4_exchange 22 = .ok (.invokevirtual 56, 3) := by decide +kernel
theorem dX4_exchange_25 : decode cX4_exchange 25 = .ok (.istore_n 2, 1) := by decide +kernel
theorem dX4_exchange_26 : decode cX4_exchange 26 = .ok (.iload_n 1, 1) := by decide +kernel
theorem dX4_exchange_27 : decode cX4_exchange 27 = .ok (.iload_n 2, 1) := by decide +kernel
theorem dX4_exchange_28 : decode cX4_exchange 28 = .ok (.if_icmp .ne 18, 3) := by decide +kernel
theorem dX4_exchange_31 : decode cX4_exchange 31 = .ok (.aload_n 0, 1) := by decide +kernel
theorem dX4_exchange_32 : decode cX4_exchange 32 = .ok (.aload_n 0, 1) := by decide +kernel
theorem dX4_exchange_33 : decode cX4_exchange 33 = .ok (.getfield 34, 3) := by decide +kernel
theorem dX4_exchange_36 : decode cX4_exchange 36 = .ok (.iconst 1, 1) := by decide +kernel
theorem dX4_exchange_37 : decode cX4_exchange 37 = .ok (.iadd, 1) := by decide +kernel
theorem dX4_exchange_38 : decode cX4_exchange 38 = .ok (.bipush 6, 2) := by decide +kernel
theorem dX4_exchange_40 : decode cX4_exchange 40 = .ok (.irem, 1) := by decide +kernel
theorem dX4_exchange_41 : decode cX4_exchange 41 = .ok (.putfield 34, 3) := by decide +kernel
theorem dX4_exchange_44 : decode cX4_exchange 44 = .ok (.iconst 0, 1) := by decide +kernel
theorem dX4_exchange_45 : decode cX4_exchange 45 = .ok (.ireturn, 1) := by decide +kernel
theorem dX4_exchange_46 : decode cX4_exchange 46 = .ok (.iload_n 1, 1) := by decide +kernel
theorem dX4_exchange_47 : decode cX4_exchange 47 = .ok (.iload_n 2, 1) := by decide +kernel
theorem dX4_exchange_48 : decode cX4_exchange 48 = .ok (.isub, 1) := by decide +kernel
theorem dX4_exchange_49 : decode cX4_exchange 49 = .ok (.invokestatic 60, 3) := by decide +kernel
theorem dX4_exchange_52 : decode cX4_exchange 52 = .ok (.istore_n 3, 1) := by decide +kernel
theorem dX4_exchange_53 : decode cX4_exchange 53 = .ok (.iload_n 1, 1) := by decide +kernel
theorem dX4_exchange_54 : decode cX4_exchange 54 = .ok (.iload_n 2, 1) := by decide +kernel
theorem dX4_exchange_55 : decode cX4_exchange 55 = .ok (.if_icmp .ge 7, 3) := by decide +kernel
theorem dX4_exchange_58 : decode cX4_exchange 58 = .ok (.iconst 1, 1) := by decide +kernel
theorem dX4_exchange_59 : decode cX4_exchange 59 = .ok (.goto 4, 3) := by decide +kernel
theorem dX4_exchange_62 : decode cX4_exchange 62 = .ok (.iconst (-1), 1) := by decide +kernel
theorem dX4_exchange_63 : decode cX4_exchange 63 = .ok (.istore 4, 2) := by decide +kernel
theorem dX4_exchange_65 : decode cX4_exchange 65 = .ok (.aload_n 0, 1) := by decide +kernel
theorem dX4_exchange_66 : decode cX4_exchange 66 = .ok (.getfield 9, 3) := by decide +kernel
theorem dX4_exchange_69 : decode cX4_exchange 69 = .ok (.aload_n 0, 1) := by decide +kernel
theorem dX4_exchange_70 : decode cX4_exchange 70 = .ok (.getfield 37, 3) := by decide +kernel
theorem dX4_exchange_73 : decode cX4_exchange 73 = .ok (.iaload, 1) := by decide +kernel
theorem dX4_exchange_74 : decode cX4_exchange 74 = .ok (.iload_n 3, 1) := by decide +kernel
theorem dX4_exchange_75 : decode cX4_exchange 75 = .ok (.aload_n 0, 1) := by decide +kernel
theorem dX4_exchange_76 : decode cX4_exchange 76 = .ok (.getfield 28, 3) := by decide +kernel
theorem dX4_exchange_79 : decode cX4_exchange 79 = .ok (.invokestatic 66, 3) := by decide +kernel
theorem dX4_exchange_82 : decode cX4_exchange 82 = .ok (.istore 5, 2) := by decide +kernel
theorem dX4_exchange_84 : decode cX4_exchange 84 = .ok (.aload_n 0, 1) := by decide +kernel
theorem dX4_exchange_85 : decode cX4_exchange 85 = .ok (.getfield 9, 3) := by decide +kernel
theorem dX4_exchange_88 : decode cX4_exchange 88 = .ok (.aload_n 0, 1) := by decide +kernel
theorem dX4_exchange_89 : decode cX4_exchange 89 = .ok (.getfield 40, 3) := by decide +kernel
theorem dX4_exchange_92 : decode cX4_exchange 92 = .ok (.iaload, 1) := by decide +kernel
theorem dX4_exchange_93 : decode cX4_exchange 93 = .ok (.iload_n 3, 1) := by decide +kernel
theorem dX4_exchange_94 : decode cX4_exchange 94 = .ok (.aload_n 0, 1) := by decide +kernel
theorem dX4_exchange_95 : decode cX4_exchange 95 = .ok (.getfield 28, 3) := by decide +kernel
theorem dX4_exchange_98 : decode cX4_exchange 98 = .ok (.invokestatic 66, 3) := by decide +kernel
theorem dX4_exchange_101 : decode cX4_exchange 101 = .ok (.istore 6, 2) := by decide +kernel
theorem dX4_exchange_103 : decode cX4_exchange 103 = .ok (.aload_n 0, 1) := by decide +kernel
theorem dX4_exchange_104 : decode cX4_exchange 104 = .ok (.aload_n 0, 1) := by decide +kernel
theorem dX4_exchange_105 : decode cX4_exchange 105 = .ok (.getfield 37, 3) := by decide +kernel
theorem dX4_exchange_108 : decode cX4_exchange 108 = .ok (.aload_n 0, 1) := by decide +kernel
theorem dX4_exchange_109 : decode cX4_exchange 109 = .ok (.getfield 34, 3) := by decide +kernel
theorem dX4_exchange_112 : decode cX4_exchange 112 = .ok (.iload_n 1, 1) := by decide +kernel
theorem dX4_exchange_113 : decode cX4_exchange 113 = .ok (.iload 4, 2) := by decide +kernel
theorem dX4_exchange_115 : decode cX4_exchange 115 = .ok (.iload 5, 2) := by decide +kernel
theorem dX4_exchange_117 : decode cX4_exchange 117 = .ok (.imul, 1) := by decide +kernel
theorem dX4_exchange_118 : decode cX4_exchange 118 = .ok (.iadd, 1) := by decide +kernel
theorem dX4_exchange_119 : decode cX4_exchange 119 = .ok (.invokestatic 104, 3) := by decide +kernel
theorem dX4_exchange_122 : decode cX4_exchange 122 = .ok (.invokevirtual 52, 3) := by decide +kernel
theorem dX4_exchange_125 : decode cX4_exchange 125 = .ok (.aload_n 0, 1) := by decide +kernel
theorem dX4_exchange_126 : decode cX4_exchange 126 = .ok (.aload_n 0, 1) := by decide +kernel
theorem dX4_exchange_127 : decode cX4_exchange 127 = .ok (.getfield 40, 3) := by decide +kernel
theorem dX4_exchange_130 : decode cX4_exchange 130 = .ok (.aload_n 0, 1) := by decide +kernel
theorem dX4_exchange_131 : decode cX4_exchange 131 = .ok (.getfield 34, 3) := by decide +kernel
theorem dX4_exchange_134 : decode cX4_exchange 134 = .ok (.iload_n 2, 1) := by decide +kernel
theorem dX4_exchange_135 : decode cX4_exchange 135 = .ok (.iload 4, 2) := by decide +kernel
theorem dX4_exchange_137 : decode cX4_exchange 137 = .ok (.iload 6, 2) := by decide +kernel
theorem dX4_exchange_139 : decode cX4_exchange 139 = .ok (.imul, 1) := by decide +kernel
theorem dX4_exchange_140 : decode cX4_exchange 140 = .ok (.isub, 1) := by decide +kernel
theorem dX4_exchange_141 : decode cX4_exchange 141 = .ok (.invokestatic 104, 3) := by decide +kernel
theorem dX4_exchange_144 : decode cX4_exchange 144 = .ok (.invokevirtual 52, 3) := by decide +kernel
theorem dX4_exchange_147 : decode cX4_exchange 147 = .ok (.aload_n 0, 1) := by decide +kernel
theorem dX4_exchange_148 : decode cX4_exchange 148 = .ok (.getfield 9, 3) := by decide +kernel
theorem dX4_exchange_151 : decode cX4_exchange 151 = .ok (.aload_n 0, 1) := by decide +kernel
theorem dX4_exchange_152 : decode cX4_exchange 152 = .ok (.getfield 37, 3) := by decide +kernel
theorem dX4_exchange_155 : decode cX4_exchange 155 = .ok (.iaload, 1) := by decide +kernel
theorem dX4_exchange_156 : decode cX4_exchange 156 = .ok (.aload_n 0, 1) := by decide +kernel
theorem dX4_exchange_157 : decode cX4_exchange 157 = .ok (.getfield 15, 3) := by decide +kernel
theorem dX4_exchange_160 : decode cX4_exchange 160 = .ok (.aload_n 0, 1) := by decide +kernel
theorem dX4_exchange_161 : decode cX4_exchange 161 = .ok (.getfield 37, 3) := by decide +kernel
theorem dX4_exchange_164 : decode cX4_exchange 164 = .ok (.iaload, 1) := by decide +kernel
theorem dX4_exchange_165 : decode cX4_exchange 165 = .ok (.iload_n 3, 1) := by decide +kernel
theorem dX4_exchange_166 : decode cX4_exchange 166 = .ok (.aload_n 0, 1) := by decide +kernel
theorem dX4_exchange_167 : decode cX4_exchange 167 = .ok (.getfield 28, 3) := by decide +kernel
theorem dX4_exchange_170 : decode cX4_exchange 170 = .ok (.invokestatic 72, 3) := by decide +kernel
theorem dX4_exchange_173 : decode cX4_exchange 173 = .ok (.aload_n 0, 1) := by decide +kernel
theorem dX4_exchange_174 : decode cX4_exchange 174 = .ok (.getfield 9, 3) := by decide +kernel
theorem dX4_exchange_177 : decode cX4_exchange 177 = .ok (.aload_n 0, 1) := by decide +kernel
theorem dX4_exchange_178 : decode cX4_exchange 178 = .ok (.getfield 40, 3) := by decide +kernel
theorem dX4_exchange_181 : decode cX4_exchange 181 = .ok (.iaload, 1) := by decide +kernel
theorem dX4_exchange_182 : decode cX4_exchange 182 = .ok (.aload_n 0, 1) := by decide +kernel
theorem dX4_exchange_183 : decode cX4_exchange 183 = .ok (.getfield 15, 3) := by decide +kernel
theorem dX4_exchange_186 : decode cX4_exchange 186 = .ok (.aload_n 0, 1) := by decide +kernel
theorem dX4_exchange_187 : decode cX4_exchange 187 = .ok (.getfield 40, 3) := by decide +kernel
theorem dX4_exchange_190 : decode cX4_exchange 190 = .ok (.iaload, 1) := by decide +kernel
theorem dX4_exchange_191 : decode cX4_exchange 191 = .ok (.iload_n 3, 1) := by decide +kernel
theorem dX4_exchange_192 : decode cX4_exchange 192 = .ok (.aload_n 0, 1) := by decide +kernel
theorem dX4_exchange_193 : decode cX4_exchange 193 = .ok (.getfield 28, 3) := by decide +kernel
theorem dX4_exchange_196 : decode cX4_exchange 196 = .ok (.invokestatic 72, 3) := by decide +kernel
theorem dX4_exchange_199 : decode cX4_exchange 199 = .ok (.iadd, 1) := by decide +kernel
theorem dX4_exchange_200 : decode cX4_exchange 200 = .ok (.ireturn, 1) := by decide +kernel
theorem dX4_heldView_0 : decode cX4_heldView 0 = .ok (.iload_n 0, 1) := by decide +kernel
theorem dX4_heldView_1 : decode cX4_heldView 1 = .ok (.bipush 9, 2) := by decide +kernel
theorem dX4_heldView_3 : decode cX4_heldView 3 = .ok (.if_icmp .le 6, 3) := by decide +kernel
theorem dX4_heldView_6 : decode cX4_heldView 6 = .ok (.bipush 9, 2) := by decide +kernel
theorem dX4_heldView_8 : decode cX4_heldView 8 = .ok (.ireturn, 1) := by decide +kernel
theorem dX4_heldView_9 : decode cX4_heldView 9 = .ok (.iload_n 0, 1) := by decide +kernel
theorem dX4_heldView_10 : decode cX4_heldView 10 = .ok (.bipush (-9), 2) := by decide +kernel
theorem dX4_heldView_12 : decode cX4_heldView 12 = .ok (.if_icmp .ge 8, 3) := by decide +kernel
theorem dX4_heldView_15 : decode cX4_heldView 15 = .ok (.bipush (-9), 2) := by decide +kernel
theorem dX4_heldView_17 : decode cX4_heldView 17 = .ok (.goto 4, 3) := by decide +kernel
theorem dX4_heldView_20 : decode cX4_heldView 20 = .ok (.iload_n 0, 1) := by decide +kernel
theorem dX4_heldView_21 : decode cX4_heldView 21 = .ok (.ireturn, 1) := by decide +kernel
theorem dX5_init_0 : decode cX5_init 0 = .ok (.aload_n 0, 1) := by decide +kernel
theorem dX5_init_1 : decode cX5_init 1 = .ok (.invokespecial 3, 3) := by decide +kernel
theorem dX5_init_4 : decode cX5_init 4 = .ok (.aload_n 0, 1) := by decide +kernel
theorem dX5_init_5 : decode cX5_init 5 = .ok (.new 9, 3) := by decide +kernel
theorem dX5_init_8 : decode cX5_init 8 = .ok (.dup, 1) := by decide +kernel
theorem dX5_init_9 : decode cX5_init 9 = .ok (.invokespecial 11, 3) := by decide +kernel
theorem dX5_init_12 : decode cX5_init 12 = .ok (.putfield 12, 3) := by decide +kernel
theorem dX5_init_15 : decode cX5_init 15 = .ok (.aload_n 0, 1) := by decide +kernel
theorem dX5_init_16 : decode cX5_init 16 = .ok (.new 9, 3) := by decide +kernel
theorem dX5_init_19 : decode cX5_init 19 = .ok (.dup, 1) := by decide +kernel
theorem dX5_init_20 : decode cX5_init 20 = .ok (.invokespecial 11, 3) := by decide +kernel
theorem dX5_init_23 : decode cX5_init 23 = .ok (.putfield 16, 3) := by decide +kernel
theorem dX5_init_26 : decode cX5_init 26 = .ok (.aload_n 0, 1) := by decide +kernel
theorem dX5_init_27 : decode cX5_init 27 = .ok (.new 9, 3) := by decide +kernel
theorem dX5_init_30 : decode cX5_init 30 = .ok (.dup, 1) := by decide +kernel
theorem dX5_init_31 : decode cX5_init 31 = .ok (.invokespecial 11, 3) := by decide +kernel
theorem dX5_init_34 : decode cX5_init 34 = .ok (.putfield 19, 3) := by decide +kernel
theorem dX5_init_37 : decode cX5_init 37 = .ok (.aload_n 0, 1) := by decide +kernel
theorem dX5_init_38 : decode cX5_init 38 = .ok (.iconst 0, 1) := by decide +kernel
theorem dX5_init_39 : decode cX5_init 39 = .ok (.putfield 22, 3) := by decide +kernel
theorem dX5_init_42 : decode cX5_init 42 = .ok (.aload_n 0, 1) := by decide +kernel
theorem dX5_init_43 : decode cX5_init 43 = .ok (.new 26, 3) := by decide +kernel
theorem dX5_init_46 : decode cX5_init 46 = .ok (.dup, 1) := by decide +kernel
theorem dX5_init_47 : decode cX5_init 47 = .ok (.invokespecial 28, 3) := by decide +kernel
theorem dX5_init_50 : decode cX5_init 50 = .ok (.putfield 29, 3) := by decide +kernel
theorem dX5_init_53 : decode cX5_init 53 = .ok (.aload_n 0, 1) := by decide +kernel
theorem dX5_init_54 : decode cX5_init 54 = .ok (.new 33, 3) := by decide +kernel
theorem dX5_init_57 : decode cX5_init 57 = .ok (.dup, 1) := by decide +kernel
theorem dX5_init_58 : decode cX5_init 58 = .ok (.invokespecial 35, 3) := by decide +kernel
theorem dX5_init_61 : decode cX5_init 61 = .ok (.putfield 36, 3) := by decide +kernel
theorem dX5_init_64 : decode cX5_init 64 = .ok (.aload_n 0, 1) := by decide +kernel
theorem dX5_init_65 : decode cX5_init 65 = .ok (.iconst 4, 1) := by decide +kernel
theorem dX5_init_66 : decode cX5_init 66 = .ok (.anewarray 40, 3) := by decide +kernel
theorem dX5_init_69 : decode cX5_init 69 = .ok (.putfield 42, 3) := by decide +kernel
theorem dX5_init_72 : decode cX5_init 72 = .ok (.aload_n 0, 1) := by decide +kernel
theorem dX5_init_73 : decode cX5_init 73 = .ok (.bipush 7, 2) := by decide +kernel
theorem dX5_init_75 : decode cX5_init 75 = .ok (.newarray .int, 2) := by decide +kernel
theorem dX5_init_77 : decode cX5_init 77 = .ok (.putfield 46, 3) := by decide +kernel
theorem dX5_init_80 : decode cX5_init 80 = .ok (.iconst 0, 1) := by decide +kernel
theorem dX5_init_81 : decode cX5_init 81 = .ok (.istore_n 1, 1) := by decide +kernel
theorem dX5_init_82 : decode cX5_init 82 = .ok (.iload_n 1, 1) := by decide +kernel
theorem dX5_init_83 : decode cX5_init 83 = .ok (.iconst 4, 1) := by decide +kernel
theorem dX5_init_84 : decode cX5_init 84 = .ok (.if_icmp .ge 22, 3) := by decide +kernel
theorem dX5_init_87 : decode cX5_init 87 = .ok (.aload_n 0, 1) := by decide +kernel
theorem dX5_init_88 : decode cX5_init 88 = .ok (.getfield 42, 3) := by decide +kernel
theorem dX5_init_91 : decode cX5_init 91 = .ok (.iload_n 1, 1) := by decide +kernel
theorem dX5_init_92 : decode cX5_init 92 = .ok (.new 40, 3) := by decide +kernel
theorem dX5_init_95 : decode cX5_init 95 = .ok (.dup, 1) := by decide +kernel
theorem dX5_init_96 : decode cX5_init 96 = .ok (.invokespecial 50, 3) := by decide +kernel
theorem dX5_init_99 : decode cX5_init 99 = .ok (.aastore, 1) := by decide +kernel
theorem dX5_init_100 : decode cX5_init 100 = .ok (.iinc 1 1, 3) := by decide +kernel
theorem dX5_init_103 : decode cX5_init 103 = .ok (.goto (-21), 3) := by decide +kernel
theorem dX5_init_106 : decode cX5_init 106 = .ok (.return_, 1) := by decide +kernel
theorem dX5_person_0 : decode cX5_person 0 = .ok (.iload_n 1, 1) := by decide +kernel
theorem dX5_person_1 : decode cX5_person 1 = .ok (.iconst 0, 1) := by decide +kernel
theorem dX5_person_2 : decode cX5_person 2 = .ok (.bipush 6, 2) := by decide +kernel
theorem dX5_person_4 : decode cX5_person 4 = .ok (.invokestatic 51, 3) := by decide +kernel
theorem dX5_person_7 : decode cX5_person 7 = .ok (.ifCond .eq 10, 3) := by decide +kernel
theorem dX5_person_10 : decode cX5_person 10 = .ok (.aload_n 0, 1) := by decide +kernel
theorem dX5_person_11 : decode cX5_person 11 = .ok (.ldc 55, 2) := by decide +kernel
theorem dX5_person_13 : decode cX5_person 13 = .ok (.invokevirtual 56, 3) := by decide +kernel
theorem dX5_person_16 : decode cX5_person 16 = .ok (.ireturn, 1) := by decide +kernel
theorem dX5_person_17 : decode cX5_person 17 = .ok (.aload_n 0, 1) := by decide +kernel
theorem dX5_person_18 : decode cX5_person 18 = .ok (.getfield 12, 3) := by decide +kernel
theorem dX5_person_21 : decode cX5_person 21 = .ok (.invokevirtual 60, 3) := by decide +kernel
theorem dX5_person_24 : decode cX5_person 24 = .ok (.ifCond .eq 10, 3) := by decide +kernel
theorem dX5_person_27 : decode cX5_person 27 = .ok (.aload_n 0, 1) := by decide +kernel
theorem dX5_person_28 : decode cX5_person 28 = .ok (.ldc 64, 2) := by decide +kernel
theorem dX5_person_30 : decode cX5_person 30 = .ok (.invokevirtual 56, 3) := by decide +kernel
theorem dX5_person_33 : decode cX5_person 33 = .ok (.ireturn, 1) := by decide +kernel
theorem dX5_person_34 : decode cX5_person 34 = .ok (.aload_n 0, 1) := by decide +kernel
theorem dX5_person_35 : decode cX5_person 35 = .ok (.getfield 12, 3) := by decide +kernel
theorem dX5_person_38 : decode cX5_person 38 = .ok (.iload_n 1, 1) := by decide +kernel
theorem dX5_person_39 : decode cX5_person 39 = .ok (.invokevirtual 65, 3) := by decide +kernel
theorem dX5_person_42 : decode cX5_person 42 = .ok (.ireturn, 1) := by decide +kernel
theorem dX5_of_0 : decode cX5_of 0 = .ok (.aload_n 0, 1) := by decide +kernel
theorem dX5_of_1 : decode cX5_of 1 = .ok (.getfield 12, 3) := by decide +kernel
theorem dX5_of_4 : decode cX5_of 4 = .ok (.iload_n 1, 1) := by decide +kernel
theorem dX5_of_5 : decode cX5_of 5 = .ok (.invokevirtual 68, 3) := by decide +kernel
theorem dX5_of_8 : decode cX5_of 8 = .ok (.ifCond .eq 13, 3) := by decide +kernel
theorem dX5_of_11 : decode cX5_of 11 = .ok (.iload_n 2, 1) := by decide +kernel
theorem dX5_of_12 : decode cX5_of 12 = .ok (.iconst 0, 1) := by decide +kernel
theorem dX5_of_13 : decode cX5_of 13 = .ok (.bipush 8, 2) := by decide +kernel
theorem dX5_of_15 : decode cX5_of 15 = .ok (.invokestatic 51, 3) := by decide +kernel
theorem dX5_of_18 : decode cX5_of 18 = .ok (.ifCond .eq 10, 3) := by decide +kernel
theorem dX5_of_21 : decode cX5_of 21 = .ok (.aload_n 0, 1) := by decide +kernel
theorem dX5_of_22 : decode cX5_of 22 = .ok (.ldc 55, 2) := by decide +kernel
theorem dX5_of_24 : decode cX5_of 24 = .ok (.invokevirtual 56, 3) := by decide +kernel
theorem dX5_of_27 : decode cX5_of 27 = .ok (.ireturn, 1) := by decide +kernel
theorem dX5_of_28 : decode cX5_of 28 = .ok (.iload_n 2, 1) := by decide +kernel
theorem dX5_of_29 : decode cX5_of 29 = .ok (.bipush 8, 2) := by decide +kernel
theorem dX5_of_31 : decode cX5_of 31 = .ok (.if_icmp .ne 20, 3) := by decide +kernel
theorem dX5_of_34 : decode cX5_of 34 = .ok (.aload_n 0, 1) := by decide +kernel
theorem dX5_of_35 : decode cX5_of 35 = .ok (.getfield 12, 3) := by decide +kernel
theorem dX5_of_38 : decode cX5_of 38 = .ok (.iload_n 1, 1) := by decide +kernel
theorem dX5_of_39 : decode cX5_of 39 = .ok (.invokevirtual 72, 3) := by decide +kernel
theorem dX5_of_42 : decode cX5_of 42 = .ok (.ifCond .eq 7, 3) := by decide +kernel
theorem dX5_of_45 : decode cX5_of 45 = .ok (.iconst 1, 1) := by decide +kernel
theorem dX5_of_46 : decode cX5_of 46 = .ok (.goto 4, 3) := by decide +kernel
theorem dX5_of_49 : decode cX5_of 49 = .ok (.iconst 0, 1) := by decide +kernel
theorem dX5_of_50 : decode cX5_of 50 = .ok (.ireturn, 1) := by decide +kernel
theorem dX5_of_51 : decode cX5_of 51 = .ok (.aload_n 0, 1) := by decide +kernel
theorem dX5_of_52 : decode cX5_of 52 = .ok (.getfield 12, 3) := by decide +kernel
theorem dX5_of_55 : decode cX5_of 55 = .ok (.iload_n 1, 1) := by decide +kernel
theorem dX5_of_56 : decode cX5_of 56 = .ok (.iload_n 2, 1) := by decide +kernel
theorem dX5_of_57 : decode cX5_of 57 = .ok (.invokevirtual 75, 3) := by decide +kernel
theorem dX5_of_60 : decode cX5_of 60 = .ok (.ireturn, 1) := by decide +kernel
theorem dX5_change_0 : decode cX5_change 0 = .ok (.aload_n 0, 1) := by decide +kernel
theorem dX5_change_1 : decode cX5_change 1 = .ok (.getfield 12, 3) := by decide +kernel
theorem dX5_change_4 : decode cX5_change 4 = .ok (.iload_n 1, 1) := by decide +kernel
theorem dX5_change_5 : decode cX5_change 5 = .ok (.invokevirtual 68, 3) := by decide +kernel
theorem dX5_change_8 : decode cX5_change 8 = .ok (.ifCond .eq 21, 3) := by decide +kernel
theorem dX5_change_11 : decode cX5_change 11 = .ok (.iload_n 2, 1) := by decide +kernel
theorem dX5_change_12 : decode cX5_change 12 = .ok (.iconst 0, 1) := by decide +kernel
theorem dX5_change_13 : decode cX5_change 13 = .ok (.bipush 7, 2) := by decide +kernel
theorem dX5_change_15 : decode cX5_change 15 = .ok (.invokestatic 51, 3) := by decide +kernel
theorem dX5_change_18 : decode cX5_change 18 = .ok (.ifCond .ne 11, 3) := by decide +kernel
theorem dX5_change_21 : decode cX5_change 21 = .ok (.iload_n 2, 1) := by decide +kernel
theorem dX5_change_22 : decode cX5_change 22 = .ok (.iload_n 3, 1) := by decide +kernel
theorem dX5_change_23 : decode cX5_change 23 = .ok (.invokestatic 79, 3) := by decide +kernel
theorem dX5_change_26 : decode cX5_change 26 = .ok (.ifCond .eq 10, 3) := by decide +kernel
theorem dX5_change_29 : decode cX5_change 29 = .ok (.aload_n 0, 1) := by decide +kernel
theorem dX5_change_30 : decode cX5_change 30 = .ok (.ldc 55, 2) := by decide +kernel
theorem dX5_change_32 : decode cX5_change 32 = .ok (.invokevirtual 56, 3) := by decide +kernel
theorem dX5_change_35 : decode cX5_change 35 = .ok (.ireturn, 1) := by decide +kernel
theorem dX5_change_36 : decode cX5_change 36 = .ok (.aload_n 0, 1) := by decide +kernel
theorem dX5_change_37 : decode cX5_change 37 = .ok (.getfield 12, 3) := by decide +kernel
theorem dX5_change_40 : decode cX5_change 40 = .ok (.iload_n 1, 1) := by decide +kernel
theorem dX5_change_41 : decode cX5_change 41 = .ok (.iload_n 2, 1) := by decide +kernel
theorem dX5_change_42 : decode cX5_change 42 = .ok (.invokevirtual 75, 3) := by decide +kernel
theorem dX5_change_45 : decode cX5_change 45 = .ok (.istore 4, 2) := by decide +kernel
theorem dX5_change_47 : decode cX5_change 47 = .ok (.aload_n 0, 1) := by decide +kernel
theorem dX5_change_48 : decode cX5_change 48 = .ok (.getfield 12, 3) := by decide +kernel
theorem dX5_change_51 : decode cX5_change 51 = .ok (.iload_n 1, 1) := by decide +kernel
theorem dX5_change_52 : decode cX5_change 52 = .ok (.iload_n 2, 1) := by decide +kernel
theorem dX5_change_53 : decode cX5_change 53 = .ok (.iload_n 3, 1) := by decide +kernel
theorem dX5_change_54 : decode cX5_change 54 = .ok (.invokevirtual 83, 3) := by decide +kernel
theorem dX5_change_57 : decode cX5_change 57 = .ok (.iload 4, 2) := by decide +kernel
theorem dX5_change_59 : decode cX5_change 59 = .ok (.ireturn, 1) := by decide +kernel
theorem dX5_reply_0 : decode cX5_reply 0 = .ok (.aload_n 0, 1) := by decide +kernel
theorem dX5_reply_1 : decode cX5_reply 1 = .ok (.getfield 12, 3) := by decide +kernel
theorem dX5_reply_4 : decode cX5_reply 4 = .ok (.iload_n 1, 1) := by decide +kernel
theorem dX5_reply_5 : decode cX5_reply 5 = .ok (.invokevirtual 68, 3) := by decide +kernel
theorem dX5_reply_8 : decode cX5_reply 8 = .ok (.ifCond .eq 22, 3) := by decide +kernel
theorem dX5_reply_11 : decode cX5_reply 11 = .ok (.iload_n 2, 1) := by decide +kernel
theorem dX5_reply_12 : decode cX5_reply 12 = .ok (.iconst 1, 1) := by decide +kernel
theorem dX5_reply_13 : decode cX5_reply 13 = .ok (.bipush 18, 2) := by decide +kernel
theorem dX5_reply_15 : decode cX5_reply 15 = .ok (.invokestatic 51, 3) := by decide +kernel
theorem dX5_reply_18 : decode cX5_reply 18 = .ok (.ifCond .ne 12, 3) := by decide +kernel
theorem dX5_reply_21 : decode cX5_reply 21 = .ok (.iload_n 3, 1) := by decide +kernel
theorem dX5_reply_22 : decode cX5_reply 22 = .ok (.iconst 0, 1) := by decide +kernel
theorem dX5_reply_23 : decode cX5_reply 23 = .ok (.iconst 1, 1) := by decide +kernel
theorem dX5_reply_24 : decode cX5_reply 24 = .ok (.invokestatic 51, 3) := by decide +kernel
theorem dX5_reply_27 : decode cX5_reply 27 = .ok (.ifCond .eq 10, 3) := by decide +kernel
theorem dX5_reply_30 : decode cX5_reply 30 = .ok (.aload_n 0, 1) := by decide +kernel
theorem dX5_reply_31 : decode cX5_reply 31 = .ok (.ldc 55, 2) := by decide +kernel
theorem dX5_reply_33 : decode cX5_reply 33 = .ok (.invokevirtual 56, 3) := by decide +kernel
theorem dX5_reply_36 : decode cX5_reply 36 = .ok (.ireturn, 1) := by decide +kernel
theorem dX5_reply_37 : decode cX5_reply 37 = .ok (.iload_n 3, 1) := by decide +kernel
theorem dX5_reply_38 : decode cX5_reply 38 = .ok (.ifCond .ne 15, 3) := by decide +kernel
theorem dX5_reply_41 : decode cX5_reply 41 = .ok (.aload_n 0, 1) := by decide +kernel
theorem dX5_reply_42 : decode cX5_reply 42 = .ok (.getfield 12, 3) := by decide +kernel
theorem dX5_reply_45 : decode cX5_reply 45 = .ok (.iload_n 1, 1) := by decide +kernel
theorem dX5_reply_46 : decode cX5_reply 46 = .ok (.iload_n 2, 1) := by decide +kernel
theorem dX5_reply_47 : decode cX5_reply 47 = .ok (.invokevirtual 87, 3) := by decide +kernel
theorem dX5_reply_50 : decode cX5_reply 50 = .ok (.goto 12, 3) := by decide +kernel
theorem dX5_reply_53 : decode cX5_reply 53 = .ok (.aload_n 0, 1) := by decide +kernel
theorem dX5_reply_54 : decode cX5_reply 54 = .ok (.getfield 12, 3) := by decide +kernel
theorem dX5_reply_57 : decode cX5_reply 57 = .ok (.iload_n 1, 1) := by decide +kernel
theorem dX5_reply_58 : decode cX5_reply 58 = .ok (.iload_n 2, 1) := by decide +kernel
theorem dX5_reply_59 : decode cX5_reply 59 = .ok (.invokevirtual 90, 3) := by decide +kernel
theorem dX5_reply_62 : decode cX5_reply 62 = .ok (.ireturn, 1) := by decide +kernel
theorem dX5_apart_0 : decode cX5_apart 0 = .ok (.aload_n 0, 1) := by decide +kernel
theorem dX5_apart_1 : decode cX5_apart 1 = .ok (.getfield 12, 3) := by decide +kernel
theorem dX5_apart_4 : decode cX5_apart 4 = .ok (.iload_n 1, 1) := by decide +kernel
theorem dX5_apart_5 : decode cX5_apart 5 = .ok (.invokevirtual 68, 3) := by decide +kernel
theorem dX5_apart_8 : decode cX5_apart 8 = .ok (.ifCond .eq 21, 3) := by decide +kernel
theorem dX5_apart_11 : decode cX5_apart 11 = .ok (.aload_n 0, 1) := by decide +kernel
theorem dX5_apart_12 : decode cX5_apart 12 = .ok (.getfield 12, 3) := by decide +kernel
theorem dX5_apart_15 : decode cX5_apart 15 = .ok (.iload_n 2, 1) := by decide +kernel
theorem dX5_apart_16 : decode cX5_apart 16 = .ok (.invokevirtual 68, 3) := by decide +kernel
theorem dX5_apart_19 : decode cX5_apart 19 = .ok (.ifCond .eq 10, 3) := by decide +kernel
theorem dX5_apart_22 : decode cX5_apart 22 = .ok (.iload_n 3, 1) := by decide +kernel
theorem dX5_apart_23 : decode cX5_apart 23 = .ok (.invokestatic 93, 3) := by decide +kernel
theorem dX5_apart_26 : decode cX5_apart 26 = .ok (.ifCond .eq 10, 3) := by decide +kernel
theorem dX5_apart_29 : decode cX5_apart 29 = .ok (.aload_n 0, 1) := by decide +kernel
theorem dX5_apart_30 : decode cX5_apart 30 = .ok (.ldc 55, 2) := by decide +kernel
theorem dX5_apart_32 : decode cX5_apart 32 = .ok (.invokevirtual 56, 3) := by decide +kernel
theorem dX5_apart_35 : decode cX5_apart 35 = .ok (.ireturn, 1) := by decide +kernel
theorem dX5_apart_36 : decode cX5_apart 36 = .ok (.aload_n 0, 1) := by decide +kernel
theorem dX5_apart_37 : decode cX5_apart 37 = .ok (.getfield 12, 3) := by decide +kernel
theorem dX5_apart_40 : decode cX5_apart 40 = .ok (.iload_n 1, 1) := by decide +kernel
theorem dX5_apart_41 : decode cX5_apart 41 = .ok (.iload_n 2, 1) := by decide +kernel
theorem dX5_apart_42 : decode cX5_apart 42 = .ok (.iload_n 3, 1) := by decide +kernel
theorem dX5_apart_43 : decode cX5_apart 43 = .ok (.invokevirtual 96, 3) := by decide +kernel
theorem dX5_apart_46 : decode cX5_apart 46 = .ok (.ireturn, 1) := by decide +kernel
theorem dX5_pair_0 : decode cX5_pair 0 = .ok (.aload_n 0, 1) := by decide +kernel
theorem dX5_pair_1 : decode cX5_pair 1 = .ok (.iload_n 1, 1) := by decide +kernel
theorem dX5_pair_2 : decode cX5_pair 2 = .ok (.iload_n 2, 1) := by decide +kernel
theorem dX5_pair_3 : decode cX5_pair 3 = .ok (.invokevirtual 100, 3) := by decide +kernel
theorem dX5_pair_6 : decode cX5_pair 6 = .ok (.ifCond .eq 10, 3) := by decide +kernel
theorem dX5_pair_9 : decode cX5_pair 9 = .ok (.aload_n 0, 1) := by decide +kernel
theorem dX5_pair_10 : decode cX5_pair 10 = .ok (.ldc 55, 2) := by decide +kernel
theorem dX5_pair_12 : decode cX5_pair 12 = .ok (.invokevirtual 56, 3) := by decide +kernel
theorem dX5_pair_15 : decode cX5_pair 15 = .ok (.ireturn, 1) := by decide +kernel
theorem dX5_pair_16 : decode cX5_pair 16 = .ok (.aload_n 0, 1) := by decide +kernel
theorem dX5_pair_17 : decode cX5_pair 17 = .ok (.getfield 12, 3) := by decide +kernel
theorem dX5_pair_20 : decode cX5_pair 20 = .ok (.iload_n 1, 1) := by decide +kernel
theorem dX5_pair_21 : decode cX5_pair 21 = .ok (.iload_n 2, 1) := by decide +kernel
theorem dX5_pair_22 : decode cX5_pair 22 = .ok (.invokevirtual 103, 3) := by decide +kernel
theorem dX5_pair_25 : decode cX5_pair 25 = .ok (.aload_n 0, 1) := by decide +kernel
theorem dX5_pair_26 : decode cX5_pair 26 = .ok (.getfield 12, 3) := by decide +kernel
theorem dX5_pair_29 : decode cX5_pair 29 = .ok (.invokevirtual 107, 3) := by decide +kernel
theorem dX5_pair_32 : decode cX5_pair 32 = .ok (.invokestatic 111, 3) := by decide +kernel
theorem dX5_pair_35 : decode cX5_pair 35 = .ok (.ireturn, 1) := by decide +kernel
theorem dX5_rest_0 : decode cX5_rest 0 = .ok (.aload_n 0, 1) := by decide +kernel
theorem dX5_rest_1 : decode cX5_rest 1 = .ok (.getfield 12, 3) := by decide +kernel
theorem dX5_rest_4 : decode cX5_rest 4 = .ok (.invokevirtual 116, 3) := by decide +kernel
theorem dX5_rest_7 : decode cX5_rest 7 = .ok (.ifCond .eq 7, 3) := by decide +kernel
theorem dX5_rest_10 : decode cX5_rest 10 = .ok (.iconst 1, 1) := by decide +kernel
theorem dX5_rest_11 : decode cX5_rest 11 = .ok (.goto 4, 3) := by decide +kernel
theorem dX5_rest_14 : decode cX5_rest 14 = .ok (.iconst 0, 1) := by decide +kernel
theorem dX5_rest_15 : decode cX5_rest 15 = .ok (.istore_n 1, 1) := by decide +kernel
theorem dX5_rest_16 : decode cX5_rest 16 = .ok (.aload_n 0, 1) := by decide +kernel
theorem dX5_rest_17 : decode cX5_rest 17 = .ok (.getfield 12, 3) := by decide +kernel
theorem dX5_rest_20 : decode cX5_rest 20 = .ok (.invokevirtual 119, 3) := by decide +kernel
theorem dX5_rest_23 : decode cX5_rest 23 = .ok (.iload_n 1, 1) := by decide +kernel
theorem dX5_rest_24 : decode cX5_rest 24 = .ok (.ireturn, 1) := by decide +kernel
theorem dX5_subject_0 : decode cX5_subject 0 = .ok (.iload_n 1, 1) := by decide +kernel
theorem dX5_subject_1 : decode cX5_subject 1 = .ok (.invokestatic 93, 3) := by decide +kernel
theorem dX5_subject_4 : decode cX5_subject 4 = .ok (.ifCond .eq 10, 3) := by decide +kernel
theorem dX5_subject_7 : decode cX5_subject 7 = .ok (.aload_n 0, 1) := by decide +kernel
theorem dX5_subject_8 : decode cX5_subject 8 = .ok (.ldc 55, 2) := by decide +kernel
theorem dX5_subject_10 : decode cX5_subject 10 = .ok (.invokevirtual 56, 3) := by decide +kernel
theorem dX5_subject_13 : decode cX5_subject 13 = .ok (.ireturn, 1) := by decide +kernel
theorem dX5_subject_14 : decode cX5_subject 14 = .ok (.aload_n 0, 1) := by decide +kernel
theorem dX5_subject_15 : decode cX5_subject 15 = .ok (.getfield 12, 3) := by decide +kernel
theorem dX5_subject_18 : decode cX5_subject 18 = .ok (.getfield 122, 3) := by decide +kernel
theorem dX5_subject_21 : decode cX5_subject 21 = .ok (.istore_n 2, 1) := by decide +kernel
theorem dX5_subject_22 : decode cX5_subject 22 = .ok (.aload_n 0, 1) := by decide +kernel
theorem dX5_subject_23 : decode cX5_subject 23 = .ok (.getfield 12, 3) := by decide +kernel
theorem dX5_subject_26 : decode cX5_subject 26 = .ok (.iload_n 1, 1) := by decide +kernel
theorem dX5_subject_27 : decode cX5_subject 27 = .ok (.putfield 122, 3) := by decide +kernel
theorem dX5_subject_30 : decode cX5_subject 30 = .ok (.iload_n 2, 1) := by decide +kernel
theorem dX5_subject_31 : decode cX5_subject 31 = .ok (.ireturn, 1) := by decide +kernel
theorem dX5_go_0 : decode cX5_go 0 = .ok (.iload_n 1, 1) := by decide +kernel
theorem dX5_go_1 : decode cX5_go 1 = .ok (.iconst 1, 1) := by decide +kernel
theorem dX5_go_2 : decode cX5_go 2 = .ok (.bipush 100, 2) := by decide +kernel
theorem dX5_go_4 : decode cX5_go 4 = .ok (.invokestatic 51, 3) := by decide +kernel
theorem dX5_go_7 : decode cX5_go 7 = .ok (.ifCond .eq 10, 3) := by decide +kernel
theorem dX5_go_10 : decode cX5_go 10 = .ok (.aload_n 0, 1) := by decide +kernel
theorem dX5_go_11 : decode cX5_go 11 = .ok (.ldc 55, 2) := by decide +kernel
theorem dX5_go_13 : decode cX5_go 13 = .ok (.invokevirtual 56, 3) := by decide +kernel
theorem dX5_go_16 : decode cX5_go 16 = .ok (.ireturn, 1) := by decide +kernel
theorem dX5_go_17 : decode cX5_go 17 = .ok (.aload_n 0, 1) := by decide +kernel
theorem dX5_go_18 : decode cX5_go 18 = .ok (.getfield 12, 3) := by decide +kernel
theorem dX5_go_21 : decode cX5_go 21 = .ok (.getfield 126, 3) := by decide +kernel
theorem dX5_go_24 : decode cX5_go 24 = .ok (.iload_n 1, 1) := by decide +kernel
theorem dX5_go_25 : decode cX5_go 25 = .ok (.iadd, 1) := by decide +kernel
theorem dX5_go_26 : decode cX5_go 26 = .ok (.ldc 129, 2) := by decide +kernel
theorem dX5_go_28 : decode cX5_go 28 = .ok (.if_icmp .le 10, 3) := by decide +kernel
theorem dX5_go_31 : decode cX5_go 31 = .ok (.aload_n 0, 1) := by decide +kernel
theorem dX5_go_32 : decode cX5_go 32 = .ok (.ldc 130, 2) := by decide +kernel
theorem dX5_go_34 : decode cX5_go 34 = .ok (.invokevirtual 56, 3) := by decide +kernel
theorem dX5_go_37 : decode cX5_go 37 = .ok (.ireturn, 1) := by decide +kernel
theorem dX5_go_38 : decode cX5_go 38 = .ok (.aload_n 0, 1) := by decide +kernel
theorem dX5_go_39 : decode cX5_go 39 = .ok (.getfield 12, 3) := by decide +kernel
theorem dX5_go_42 : decode cX5_go 42 = .ok (.iload_n 1, 1) := by decide +kernel
theorem dX5_go_43 : decode cX5_go 43 = .ok (.invokevirtual 131, 3) := by decide +kernel
theorem dX5_go_46 : decode cX5_go 46 = .ok (.aload_n 0, 1) := by decide +kernel
theorem dX5_go_47 : decode cX5_go 47 = .ok (.getfield 12, 3) := by decide +kernel
theorem dX5_go_50 : decode cX5_go 50 = .ok (.getfield 135, 3) := by decide +kernel
theorem dX5_go_53 : decode cX5_go 53 = .ok (.ireturn, 1) := by decide +kernel
theorem dX5_now_0 : decode cX5_now 0 = .ok (.iload_n 1, 1) := by decide +kernel
theorem dX5_now_1 : decode cX5_now 1 = .ok (.tableswitch 111 0 5 #[39, 47, 55, 63, 95, 103], 39) := by decide +kernel
theorem dX5_now_40 : decode cX5_now 40 = .ok (.aload_n 0, 1) := by decide +kernel
theorem dX5_now_41 : decode cX5_now 41 = .ok (.getfield 12, 3) := by decide +kernel
theorem dX5_now_44 : decode cX5_now 44 = .ok (.getfield 126, 3) := by decide +kernel
theorem dX5_now_47 : decode cX5_now 47 = .ok (.ireturn, 1) := by decide +kernel
theorem dX5_now_48 : decode cX5_now 48 = .ok (.aload_n 0, 1) := by decide +kernel
theorem dX5_now_49 : decode cX5_now 49 = .ok (.getfield 12, 3) := by decide +kernel
theorem dX5_now_52 : decode cX5_now 52 = .ok (.getfield 135, 3) := by decide +kernel
theorem dX5_now_55 : decode cX5_now 55 = .ok (.ireturn, 1) := by decide +kernel
theorem dX5_now_56 : decode cX5_now 56 = .ok (.aload_n 0, 1) := by decide +kernel
theorem dX5_now_57 : decode cX5_now 57 = .ok (.getfield 12, 3) := by decide +kernel
theorem dX5_now_60 : decode cX5_now 60 = .ok (.getfield 122, 3) := by decide +kernel
theorem dX5_now_63 : decode cX5_now 63 = .ok (.ireturn, 1) := by decide +kernel
theorem dX5_now_64 : decode cX5_now 64 = .ok (.aload_n 0, 1) := by decide +kernel
theorem dX5_now_65 : decode cX5_now 65 = .ok (.getfield 12, 3) := by decide +kernel
theorem dX5_now_68 : decode cX5_now 68 = .ok (.invokevirtual 116, 3) := by decide +kernel
theorem dX5_now_71 : decode cX5_now 71 = .ok (.ifCond .eq 23, 3) := by decide +kernel
theorem dX5_now_74 : decode cX5_now 74 = .ok (.aload_n 0, 1) := by decide +kernel
theorem dX5_now_75 : decode cX5_now 75 = .ok (.getfield 12, 3) := by decide +kernel
theorem dX5_now_78 : decode cX5_now 78 = .ok (.getfield 138, 3) := by decide +kernel
theorem dX5_now_81 : decode cX5_now 81 = .ok (.aload_n 0, 1) := by decide +kernel
theorem dX5_now_82 : decode cX5_now 82 = .ok (.getfield 12, 3) := by decide +kernel
theorem dX5_now_85 : decode cX5_now 85 = .ok (.getfield 141, 3) := by decide +kernel
theorem dX5_now_88 : decode cX5_now 88 = .ok (.invokestatic 144, 3) := by decide +kernel
theorem dX5_now_91 : decode cX5_now 91 = .ok (.goto 4, 3) := by decide +kernel
theorem dX5_now_94 : decode cX5_now 94 = .ok (.iconst (-1), 1) := by decide +kernel
theorem dX5_now_95 : decode cX5_now 95 = .ok (.ireturn, 1) := by decide +kernel
theorem dX5_now_96 : decode cX5_now 96 = .ok (.aload_n 0, 1) := by decide +kernel
theorem dX5_now_97 : decode cX5_now 97 = .ok (.getfield 12, 3) := by decide +kernel
theorem dX5_now_100 : decode cX5_now 100 = .ok (.invokevirtual 107, 3) := by decide +kernel
theorem dX5_now_103 : decode cX5_now 103 = .ok (.ireturn, 1) := by decide +kernel
theorem dX5_now_104 : decode cX5_now 104 = .ok (.aload_n 0, 1) := by decide +kernel
theorem dX5_now_105 : decode cX5_now 105 = .ok (.getfield 12, 3) := by decide +kernel
theorem dX5_now_108 : decode cX5_now 108 = .ok (.invokevirtual 147, 3) := by decide +kernel
theorem dX5_now_111 : decode cX5_now 111 = .ok (.ireturn, 1) := by decide +kernel
theorem dX5_now_112 : decode cX5_now 112 = .ok (.aload_n 0, 1) := by decide +kernel
theorem dX5_now_113 : decode cX5_now 113 = .ok (.ldc 55, 2) := by decide +kernel
theorem dX5_now_115 : decode cX5_now 115 = .ok (.invokevirtual 56, 3) := by decide +kernel
theorem dX5_now_118 : decode cX5_now 118 = .ok (.ireturn, 1) := by decide +kernel
theorem dX5_ahead_0 : decode cX5_ahead 0 = .ok (.iload_n 1, 1) := by decide +kernel
theorem dX5_ahead_1 : decode cX5_ahead 1 = .ok (.iconst 0, 1) := by decide +kernel
theorem dX5_ahead_2 : decode cX5_ahead 2 = .ok (.sipush 200, 3) := by decide +kernel
theorem dX5_ahead_5 : decode cX5_ahead 5 = .ok (.invokestatic 51, 3) := by decide +kernel
theorem dX5_ahead_8 : decode cX5_ahead 8 = .ok (.ifCond .eq 10, 3) := by decide +kernel
theorem dX5_ahead_11 : decode cX5_ahead 11 = .ok (.aload_n 0, 1) := by decide +kernel
theorem dX5_ahead_12 : decode cX5_ahead 12 = .ok (.ldc 55, 2) := by decide +kernel
theorem dX5_ahead_14 : decode cX5_ahead 14 = .ok (.invokevirtual 56, 3) := by decide +kernel
theorem dX5_ahead_17 : decode cX5_ahead 17 = .ok (.ireturn, 1) := by decide +kernel
theorem dX5_ahead_18 : decode cX5_ahead 18 = .ok (.aload_n 0, 1) := by decide +kernel
theorem dX5_ahead_19 : decode cX5_ahead 19 = .ok (.getfield 16, 3) := by decide +kernel
theorem dX5_ahead_22 : decode cX5_ahead 22 = .ok (.aload_n 0, 1) := by decide +kernel
theorem dX5_ahead_23 : decode cX5_ahead 23 = .ok (.getfield 12, 3) := by decide +kernel
theorem dX5_ahead_26 : decode cX5_ahead 26 = .ok (.invokevirtual 150, 3) := by decide +kernel
theorem dX5_ahead_29 : decode cX5_ahead 29 = .ok (.aload_n 0, 1) := by decide +kernel
theorem dX5_ahead_30 : decode cX5_ahead 30 = .ok (.getfield 16, 3) := by decide +kernel
theorem dX5_ahead_33 : decode cX5_ahead 33 = .ok (.iload_n 1, 1) := by decide +kernel
theorem dX5_ahead_34 : decode cX5_ahead 34 = .ok (.invokevirtual 131, 3) := by decide +kernel
theorem dX5_ahead_37 : decode cX5_ahead 37 = .ok (.aload_n 0, 1) := by decide +kernel
theorem dX5_ahead_38 : decode cX5_ahead 38 = .ok (.getfield 16, 3) := by decide +kernel
theorem dX5_ahead_41 : decode cX5_ahead 41 = .ok (.getfield 135, 3) := by decide +kernel
theorem dX5_ahead_44 : decode cX5_ahead 44 = .ok (.ireturn, 1) := by decide +kernel
theorem dX5_view_0 : decode cX5_view 0 = .ok (.aload_n 0, 1) := by decide +kernel
theorem dX5_view_1 : decode cX5_view 1 = .ok (.getfield 12, 3) := by decide +kernel
theorem dX5_view_4 : decode cX5_view 4 = .ok (.iload_n 1, 1) := by decide +kernel
theorem dX5_view_5 : decode cX5_view 5 = .ok (.invokevirtual 68, 3) := by decide +kernel
theorem dX5_view_8 : decode cX5_view 8 = .ok (.ifCond .eq 21, 3) := by decide +kernel
theorem dX5_view_11 : decode cX5_view 11 = .ok (.iload_n 2, 1) := by decide +kernel
theorem dX5_view_12 : decode cX5_view 12 = .ok (.invokestatic 93, 3) := by decide +kernel
theorem dX5_view_15 : decode cX5_view 15 = .ok (.ifCond .ne 14, 3) := by decide +kernel
theorem dX5_view_18 : decode cX5_view 18 = .ok (.iload_n 3, 1) := by decide +kernel
theorem dX5_view_19 : decode cX5_view 19 = .ok (.iconst 0, 1) := by decide +kernel
theorem dX5_view_20 : decode cX5_view 20 = .ok (.sipush 200, 3) := by decide +kernel
theorem dX5_view_23 : decode cX5_view 23 = .ok (.invokestatic 51, 3) := by decide +kernel
theorem dX5_view_26 : decode cX5_view 26 = .ok (.ifCond .eq 10, 3) := by decide +kernel
theorem dX5_view_29 : decode cX5_view 29 = .ok (.aload_n 0, 1) := by decide +kernel
theorem dX5_view_30 : decode cX5_view 30 = .ok (.ldc 55, 2) := by decide +kernel
theorem dX5_view_32 : decode cX5_view 32 = .ok (.invokevirtual 56, 3) := by decide +kernel
theorem dX5_view_35 : decode cX5_view 35 = .ok (.ireturn, 1) := by decide +kernel
theorem dX5_view_36 : decode cX5_view 36 = .ok (.aload_n 0, 1) := by decide +kernel
theorem dX5_view_37 : decode cX5_view 37 = .ok (.getfield 16, 3) := by decide +kernel
theorem dX5_view_40 : decode cX5_view 40 = .ok (.aload_n 0, 1) := by decide +kernel
theorem dX5_view_41 : decode cX5_view 41 = .ok (.getfield 12, 3) := by decide +kernel
theorem dX5_view_44 : decode cX5_view 44 = .ok (.invokevirtual 150, 3) := by decide +kernel
theorem dX5_view_47 : decode cX5_view 47 = .ok (.aload_n 0, 1) := by decide +kernel
theorem dX5_view_48 : decode cX5_view 48 = .ok (.getfield 16, 3) := by decide +kernel
theorem dX5_view_51 : decode cX5_view 51 = .ok (.iload_n 3, 1) := by decide +kernel
theorem dX5_view_52 : decode cX5_view 52 = .ok (.invokevirtual 131, 3) := by decide +kernel
theorem dX5_view_55 : decode cX5_view 55 = .ok (.aload_n 0, 1) := by decide +kernel
theorem dX5_view_56 : decode cX5_view 56 = .ok (.getfield 16, 3) := by decide +kernel
theorem dX5_view_59 : decode cX5_view 59 = .ok (.iload_n 1, 1) := by decide +kernel
theorem dX5_view_60 : decode cX5_view 60 = .ok (.iload_n 2, 1) := by decide +kernel
theorem dX5_view_61 : decode cX5_view 61 = .ok (.invokevirtual 154, 3) := by decide +kernel
theorem dX5_view_64 : decode cX5_view 64 = .ok (.ireturn, 1) := by decide +kernel
theorem dX5_dry_0 : decode cX5_dry 0 = .ok (.aload_n 0, 1) := by decide +kernel
theorem dX5_dry_1 : decode cX5_dry 1 = .ok (.getfield 16, 3) := by decide +kernel
theorem dX5_dry_4 : decode cX5_dry 4 = .ok (.aload_n 0, 1) := by decide +kernel
theorem dX5_dry_5 : decode cX5_dry 5 = .ok (.getfield 12, 3) := by decide +kernel
theorem dX5_dry_8 : decode cX5_dry 8 = .ok (.invokevirtual 150, 3) := by decide +kernel
theorem dX5_dry_11 : decode cX5_dry 11 = .ok (.iconst 0, 1) := by decide +kernel
theorem dX5_dry_12 : decode cX5_dry 12 = .ok (.istore_n 1, 1) := by decide +kernel
theorem dX5_dry_13 : decode cX5_dry 13 = .ok (.iload_n 1, 1) := by decide +kernel
theorem dX5_dry_14 : decode cX5_dry 14 = .ok (.sipush 300, 3) := by decide +kernel
theorem dX5_dry_17 : decode cX5_dry 17 = .ok (.if_icmp .gt 29, 3) := by decide +kernel
theorem dX5_dry_20 : decode cX5_dry 20 = .ok (.aload_n 0, 1) := by decide +kernel
theorem dX5_dry_21 : decode cX5_dry 21 = .ok (.getfield 16, 3) := by decide +kernel
theorem dX5_dry_24 : decode cX5_dry 24 = .ok (.invokevirtual 107, 3) := by decide +kernel
theorem dX5_dry_27 : decode cX5_dry 27 = .ok (.ifCond .ne 5, 3) := by decide +kernel
theorem dX5_dry_30 : decode cX5_dry 30 = .ok (.iload_n 1, 1) := by decide +kernel
theorem dX5_dry_31 : decode cX5_dry 31 = .ok (.ireturn, 1) := by decide +kernel
theorem dX5_dry_32 : decode cX5_dry 32 = .ok (.aload_n 0, 1) := by decide +kernel
theorem dX5_dry_33 : decode cX5_dry 33 = .ok (.getfield 16, 3) := by decide +kernel
theorem dX5_dry_36 : decode cX5_dry 36 = .ok (.invokevirtual 157, 3) := by decide +kernel
theorem dX5_dry_39 : decode cX5_dry 39 = .ok (.pop, 1) := by decide +kernel
theorem dX5_dry_40 : decode cX5_dry 40 = .ok (.iinc 1 1, 3) := by decide +kernel
theorem dX5_dry_43 : decode cX5_dry 43 = .ok (.goto (-30), 3) := by decide +kernel
theorem dX5_dry_46 : decode cX5_dry 46 = .ok (.aload_n 0, 1) := by decide +kernel
theorem dX5_dry_47 : decode cX5_dry 47 = .ok (.ldc 160, 2) := by decide +kernel
theorem dX5_dry_49 : decode cX5_dry 49 = .ok (.invokevirtual 56, 3) := by decide +kernel
theorem dX5_dry_52 : decode cX5_dry 52 = .ok (.ireturn, 1) := by decide +kernel
theorem dX5_filled_0 : decode cX5_filled 0 = .ok (.iload_n 1, 1) := by decide +kernel
theorem dX5_filled_1 : decode cX5_filled 1 = .ok (.iconst 0, 1) := by decide +kernel
theorem dX5_filled_2 : decode cX5_filled 2 = .ok (.ldc 161, 2) := by decide +kernel
theorem dX5_filled_4 : decode cX5_filled 4 = .ok (.invokestatic 51, 3) := by decide +kernel
theorem dX5_filled_7 : decode cX5_filled 7 = .ok (.ifCond .eq 10, 3) := by decide +kernel
theorem dX5_filled_10 : decode cX5_filled 10 = .ok (.aload_n 0, 1) := by decide +kernel
theorem dX5_filled_11 : decode cX5_filled 11 = .ok (.ldc 55, 2) := by decide +kernel
theorem dX5_filled_13 : decode cX5_filled 13 = .ok (.invokevirtual 56, 3) := by decide +kernel
theorem dX5_filled_16 : decode cX5_filled 16 = .ok (.ireturn, 1) := by decide +kernel
theorem dX5_filled_17 : decode cX5_filled 17 = .ok (.aload_n 0, 1) := by decide +kernel
theorem dX5_filled_18 : decode cX5_filled 18 = .ok (.getfield 16, 3) := by decide +kernel
theorem dX5_filled_21 : decode cX5_filled 21 = .ok (.aload_n 0, 1) := by decide +kernel
theorem dX5_filled_22 : decode cX5_filled 22 = .ok (.getfield 12, 3) := by decide +kernel
theorem dX5_filled_25 : decode cX5_filled 25 = .ok (.invokevirtual 150, 3) := by decide +kernel
theorem dX5_filled_28 : decode cX5_filled 28 = .ok (.iconst 0, 1) := by decide +kernel
theorem dX5_filled_29 : decode cX5_filled 29 = .ok (.istore_n 2, 1) := by decide +kernel
theorem dX5_filled_30 : decode cX5_filled 30 = .ok (.iload_n 2, 1) := by decide +kernel
theorem dX5_filled_31 : decode cX5_filled 31 = .ok (.sipush 300, 3) := by decide +kernel
theorem dX5_filled_34 : decode cX5_filled 34 = .ok (.if_icmp .gt 30, 3) := by decide +kernel
theorem dX5_filled_37 : decode cX5_filled 37 = .ok (.aload_n 0, 1) := by decide +kernel
theorem dX5_filled_38 : decode cX5_filled 38 = .ok (.getfield 16, 3) := by decide +kernel
theorem dX5_filled_41 : decode cX5_filled 41 = .ok (.getfield 135, 3) := by decide +kernel
theorem dX5_filled_44 : decode cX5_filled 44 = .ok (.iload_n 1, 1) := by decide +kernel
theorem dX5_filled_45 : decode cX5_filled 45 = .ok (.if_icmp .lt 5, 3) := by decide +kernel
theorem dX5_filled_48 : decode cX5_filled 48 = .ok (.iload_n 2, 1) := by decide +kernel
theorem dX5_filled_49 : decode cX5_filled 49 = .ok (.ireturn, 1) := by decide +kernel
theorem dX5_filled_50 : decode cX5_filled 50 = .ok (.aload_n 0, 1) := by decide +kernel
theorem dX5_filled_51 : decode cX5_filled 51 = .ok (.getfield 16, 3) := by decide +kernel
theorem dX5_filled_54 : decode cX5_filled 54 = .ok (.invokevirtual 157, 3) := by decide +kernel
theorem dX5_filled_57 : decode cX5_filled 57 = .ok (.pop, 1) := by decide +kernel
theorem dX5_filled_58 : decode cX5_filled 58 = .ok (.iinc 2 1, 3) := by decide +kernel
theorem dX5_filled_61 : decode cX5_filled 61 = .ok (.goto (-31), 3) := by decide +kernel
theorem dX5_filled_64 : decode cX5_filled 64 = .ok (.aload_n 0, 1) := by decide +kernel
theorem dX5_filled_65 : decode cX5_filled 65 = .ok (.ldc 160, 2) := by decide +kernel
theorem dX5_filled_67 : decode cX5_filled 67 = .ok (.invokevirtual 56, 3) := by decide +kernel
theorem dX5_filled_70 : decode cX5_filled 70 = .ok (.ireturn, 1) := by decide +kernel
theorem dX5_round_0 : decode cX5_round 0 = .ok (.aload_n 0, 1) := by decide +kernel
theorem dX5_round_1 : decode cX5_round 1 = .ok (.getfield 16, 3) := by decide +kernel
theorem dX5_round_4 : decode cX5_round 4 = .ok (.aload_n 0, 1) := by decide +kernel
theorem dX5_round_5 : decode cX5_round 5 = .ok (.getfield 12, 3) := by decide +kernel
theorem dX5_round_8 : decode cX5_round 8 = .ok (.invokevirtual 150, 3) := by decide +kernel
theorem dX5_round_11 : decode cX5_round 11 = .ok (.iconst 1, 1) := by decide +kernel
theorem dX5_round_12 : decode cX5_round 12 = .ok (.istore_n 1, 1) := by decide +kernel
theorem dX5_round_13 : decode cX5_round 13 = .ok (.iload_n 1, 1) := by decide +kernel
theorem dX5_round_14 : decode cX5_round 14 = .ok (.sipush 300, 3) := by decide +kernel
theorem dX5_round_17 : decode cX5_round 17 = .ok (.if_icmp .gt 33, 3) := by decide +kernel
theorem dX5_round_20 : decode cX5_round 20 = .ok (.aload_n 0, 1) := by decide +kernel
theorem dX5_round_21 : decode cX5_round 21 = .ok (.getfield 16, 3) := by decide +kernel
theorem dX5_round_24 : decode cX5_round 24 = .ok (.invokevirtual 157, 3) := by decide +kernel
theorem dX5_round_27 : decode cX5_round 27 = .ok (.pop, 1) := by decide +kernel
theorem dX5_round_28 : decode cX5_round 28 = .ok (.aload_n 0, 1) := by decide +kernel
theorem dX5_round_29 : decode cX5_round 29 = .ok (.getfield 16, 3) := by decide +kernel
theorem dX5_round_32 : decode cX5_round 32 = .ok (.aload_n 0, 1) := by decide +kernel
theorem dX5_round_33 : decode cX5_round 33 = .ok (.getfield 12, 3) := by decide +kernel
theorem dX5_round_36 : decode cX5_round 36 = .ok (.invokevirtual 162, 3) := by decide +kernel
theorem dX5_round_39 : decode cX5_round 39 = .ok (.ifCond .eq 5, 3) := by decide +kernel
theorem dX5_round_42 : decode cX5_round 42 = .ok (.iload_n 1, 1) := by decide +kernel
theorem dX5_round_43 : decode cX5_round 43 = .ok (.ireturn, 1) := by decide +kernel
theorem dX5_round_44 : decode cX5_round 44 = .ok (.iinc 1 1, 3) := by decide +kernel
theorem dX5_round_47 : decode cX5_round 47 = .ok (.goto (-34), 3) := by decide +kernel
theorem dX5_round_50 : decode cX5_round 50 = .ok (.aload_n 0, 1) := by decide +kernel
theorem dX5_round_51 : decode cX5_round 51 = .ok (.ldc 160, 2) := by decide +kernel
theorem dX5_round_53 : decode cX5_round 53 = .ok (.invokevirtual 56, 3) := by decide +kernel
theorem dX5_round_56 : decode cX5_round 56 = .ok (.ireturn, 1) := by decide +kernel
theorem dX5_gives_0 : decode cX5_gives 0 = .ok (.aload_n 0, 1) := by decide +kernel
theorem dX5_gives_1 : decode cX5_gives 1 = .ok (.iload_n 1, 1) := by decide +kernel
theorem dX5_gives_2 : decode cX5_gives 2 = .ok (.iload_n 2, 1) := by decide +kernel
theorem dX5_gives_3 : decode cX5_gives 3 = .ok (.invokevirtual 100, 3) := by decide +kernel
theorem dX5_gives_6 : decode cX5_gives 6 = .ok (.ifCond .ne 13, 3) := by decide +kernel
theorem dX5_gives_9 : decode cX5_gives 9 = .ok (.iload_n 3, 1) := by decide +kernel
theorem dX5_gives_10 : decode cX5_gives 10 = .ok (.iconst 0, 1) := by decide +kernel
theorem dX5_gives_11 : decode cX5_gives 11 = .ok (.bipush 60, 2) := by decide +kernel
theorem dX5_gives_13 : decode cX5_gives 13 = .ok (.invokestatic 51, 3) := by decide +kernel
theorem dX5_gives_16 : decode cX5_gives 16 = .ok (.ifCond .eq 10, 3) := by decide +kernel
theorem dX5_gives_19 : decode cX5_gives 19 = .ok (.aload_n 0, 1) := by decide +kernel
theorem dX5_gives_20 : decode cX5_gives 20 = .ok (.ldc 55, 2) := by decide +kernel
theorem dX5_gives_22 : decode cX5_gives 22 = .ok (.invokevirtual 56, 3) := by decide +kernel
theorem dX5_gives_25 : decode cX5_gives 25 = .ok (.ireturn, 1) := by decide +kernel
theorem dX5_gives_26 : decode cX5_gives 26 = .ok (.aload_n 0, 1) := by decide +kernel
theorem dX5_gives_27 : decode cX5_gives 27 = .ok (.iload_n 1, 1) := by decide +kernel
theorem dX5_gives_28 : decode cX5_gives 28 = .ok (.iload_n 2, 1) := by decide +kernel
theorem dX5_gives_29 : decode cX5_gives 29 = .ok (.iload_n 3, 1) := by decide +kernel
theorem dX5_gives_30 : decode cX5_gives 30 = .ok (.invokevirtual 166, 3) := by decide +kernel
theorem dX5_gives_33 : decode cX5_gives 33 = .ok (.ireturn, 1) := by decide +kernel
theorem dX5_best_0 : decode cX5_best 0 = .ok (.iload_n 1, 1) := by decide +kernel
theorem dX5_best_1 : decode cX5_best 1 = .ok (.iconst 0, 1) := by decide +kernel
theorem dX5_best_2 : decode cX5_best 2 = .ok (.bipush 60, 2) := by decide +kernel
theorem dX5_best_4 : decode cX5_best 4 = .ok (.invokestatic 51, 3) := by decide +kernel
theorem dX5_best_7 : decode cX5_best 7 = .ok (.ifCond .eq 10, 3) := by decide +kernel
theorem dX5_best_10 : decode cX5_best 10 = .ok (.aload_n 0, 1) := by decide +kernel
theorem dX5_best_11 : decode cX5_best 11 = .ok (.ldc 55, 2) := by decide +kernel
theorem dX5_best_13 : decode cX5_best 13 = .ok (.invokevirtual 56, 3) := by decide +kernel
theorem dX5_best_16 : decode cX5_best 16 = .ok (.ireturn, 1) := by decide +kernel
theorem dX5_best_17 : decode cX5_best 17 = .ok (.ldc 160, 2) := by decide +kernel
theorem dX5_best_19 : decode cX5_best 19 = .ok (.istore_n 2, 1) := by decide +kernel
theorem dX5_best_20 : decode cX5_best 20 = .ok (.iconst (-1), 1) := by decide +kernel
theorem dX5_best_21 : decode cX5_best 21 = .ok (.istore_n 3, 1) := by decide +kernel
theorem dX5_best_22 : decode cX5_best 22 = .ok (.iconst 0, 1) := by decide +kernel
theorem dX5_best_23 : decode cX5_best 23 = .ok (.istore 4, 2) := by decide +kernel
theorem dX5_best_25 : decode cX5_best 25 = .ok (.iload 4, 2) := by decide +kernel
theorem dX5_best_27 : decode cX5_best 27 = .ok (.aload_n 0, 1) := by decide +kernel
theorem dX5_best_28 : decode cX5_best 28 = .ok (.getfield 12, 3) := by decide +kernel
theorem dX5_best_31 : decode cX5_best 31 = .ok (.getfield 169, 3) := by decide +kernel
theorem dX5_best_34 : decode cX5_best 34 = .ok (.if_icmp .ge 61, 3) := by decide +kernel
theorem dX5_best_37 : decode cX5_best 37 = .ok (.iload 4, 2) := by decide +kernel
theorem dX5_best_39 : decode cX5_best 39 = .ok (.iconst 1, 1) := by decide +kernel
theorem dX5_best_40 : decode cX5_best 40 = .ok (.iadd, 1) := by decide +kernel
theorem dX5_best_41 : decode cX5_best 41 = .ok (.istore 5, 2) := by decide +kernel
theorem dX5_best_43 : decode cX5_best 43 = .ok (.iload 5, 2) := by decide +kernel
theorem dX5_best_45 : decode cX5_best 45 = .ok (.aload_n 0, 1) := by decide +kernel
theorem dX5_best_46 : decode cX5_best 46 = .ok (.getfield 12, 3) := by decide +kernel
theorem dX5_best_49 : decode cX5_best 49 = .ok (.getfield 169, 3) := by decide +kernel
theorem dX5_best_52 : decode cX5_best 52 = .ok (.if_icmp .ge 37, 3) := by decide +kernel
theorem dX5_best_55 : decode cX5_best 55 = .ok (.aload_n 0, 1) := by decide +kernel
theorem dX5_best_56 : decode cX5_best 56 = .ok (.iload 4, 2) := by decide +kernel
theorem dX5_best_58 : decode cX5_best 58 = .ok (.iload 5, 2) := by decide +kernel
theorem dX5_best_60 : decode cX5_best 60 = .ok (.iload_n 1, 1) := by decide +kernel
theorem dX5_best_61 : decode cX5_best 61 = .ok (.invokevirtual 166, 3) := by decide +kernel
theorem dX5_best_64 : decode cX5_best 64 = .ok (.istore 6, 2) := by decide +kernel
theorem dX5_best_66 : decode cX5_best 66 = .ok (.iload 6, 2) := by decide +kernel
theorem dX5_best_68 : decode cX5_best 68 = .ok (.iload_n 3, 1) := by decide +kernel
theorem dX5_best_69 : decode cX5_best 69 = .ok (.if_icmp .le 14, 3) := by decide +kernel
theorem dX5_best_72 : decode cX5_best 72 = .ok (.iload 6, 2) := by decide +kernel
theorem dX5_best_74 : decode cX5_best 74 = .ok (.istore_n 3, 1) := by decide +kernel
theorem dX5_best_75 : decode cX5_best 75 = .ok (.iload 4, 2) := by decide +kernel
theorem dX5_best_77 : decode cX5_best 77 = .ok (.iload 5, 2) := by decide +kernel
theorem dX5_best_79 : decode cX5_best 79 = .ok (.invokestatic 144, 3) := by decide +kernel
theorem dX5_best_82 : decode cX5_best 82 = .ok (.istore_n 2, 1) := by decide +kernel
theorem dX5_best_83 : decode cX5_best 83 = .ok (.iinc 5 1, 3) := by decide +kernel
theorem dX5_best_86 : decode cX5_best 86 = .ok (.goto (-43), 3) := by decide +kernel
theorem dX5_best_89 : decode cX5_best 89 = .ok (.iinc 4 1, 3) := by decide +kernel
theorem dX5_best_92 : decode cX5_best 92 = .ok (.goto (-67), 3) := by decide +kernel
theorem dX5_best_95 : decode cX5_best 95 = .ok (.iload_n 2, 1) := by decide +kernel
theorem dX5_best_96 : decode cX5_best 96 = .ok (.ldc 160, 2) := by decide +kernel
theorem dX5_best_98 : decode cX5_best 98 = .ok (.if_icmp .ne 12, 3) := by decide +kernel
theorem dX5_best_101 : decode cX5_best 101 = .ok (.aload_n 0, 1) := by decide +kernel
theorem dX5_best_102 : decode cX5_best 102 = .ok (.ldc 160, 2) := by decide +kernel
theorem dX5_best_104 : decode cX5_best 104 = .ok (.invokevirtual 56, 3) := by decide +kernel
theorem dX5_best_107 : decode cX5_best 107 = .ok (.goto 4, 3) := by decide +kernel
theorem dX5_best_110 : decode cX5_best 110 = .ok (.iload_n 2, 1) := by decide +kernel
theorem dX5_best_111 : decode cX5_best 111 = .ok (.ireturn, 1) := by decide +kernel
theorem dX5_partner_0 : decode cX5_partner 0 = .ok (.aload_n 0, 1) := by decide +kernel
theorem dX5_partner_1 : decode cX5_partner 1 = .ok (.getfield 12, 3) := by decide +kernel
theorem dX5_partner_4 : decode cX5_partner 4 = .ok (.iload_n 1, 1) := by decide +kernel
theorem dX5_partner_5 : decode cX5_partner 5 = .ok (.invokevirtual 68, 3) := by decide +kernel
theorem dX5_partner_8 : decode cX5_partner 8 = .ok (.ifCond .eq 13, 3) := by decide +kernel
theorem dX5_partner_11 : decode cX5_partner 11 = .ok (.iload_n 2, 1) := by decide +kernel
theorem dX5_partner_12 : decode cX5_partner 12 = .ok (.iconst 0, 1) := by decide +kernel
theorem dX5_partner_13 : decode cX5_partner 13 = .ok (.bipush 60, 2) := by decide +kernel
theorem dX5_partner_15 : decode cX5_partner 15 = .ok (.invokestatic 51, 3) := by decide +kernel
theorem dX5_partner_18 : decode cX5_partner 18 = .ok (.ifCond .eq 10, 3) := by decide +kernel
theorem dX5_partner_21 : decode cX5_partner 21 = .ok (.aload_n 0, 1) := by decide +kernel
theorem dX5_partner_22 : decode cX5_partner 22 = .ok (.ldc 55, 2) := by decide +kernel
theorem dX5_partner_24 : decode cX5_partner 24 = .ok (.invokevirtual 56, 3) := by decide +kernel
theorem dX5_partner_27 : decode cX5_partner 27 = .ok (.ireturn, 1) := by decide +kernel
theorem dX5_partner_28 : decode cX5_partner 28 = .ok (.ldc 160, 2) := by decide +kernel
theorem dX5_partner_30 : decode cX5_partner 30 = .ok (.istore_n 3, 1) := by decide +kernel
theorem dX5_partner_31 : decode cX5_partner 31 = .ok (.iconst (-1), 1) := by decide +kernel
theorem dX5_partner_32 : decode cX5_partner 32 = .ok (.istore 4, 2) := by decide +kernel
theorem dX5_partner_34 : decode cX5_partner 34 = .ok (.iconst 0, 1) := by decide +kernel
theorem dX5_partner_35 : decode cX5_partner 35 = .ok (.istore 5, 2) := by decide +kernel
theorem dX5_partner_37 : decode cX5_partner 37 = .ok (.iload 5, 2) := by decide +kernel
theorem dX5_partner_39 : decode cX5_partner 39 = .ok (.aload_n 0, 1) := by decide +kernel
theorem dX5_partner_40 : decode cX5_partner 40 = .ok (.getfield 12, 3) := by decide +kernel
theorem dX5_partner_43 : decode cX5_partner 43 = .ok (.getfield 169, 3) := by decide +kernel
theorem dX5_partner_46 : decode cX5_partner 46 = .ok (.if_icmp .ge 43, 3) := by decide +kernel
theorem dX5_partner_49 : decode cX5_partner 49 = .ok (.iload 5, 2) := by decide +kernel
theorem dX5_partner_51 : decode cX5_partner 51 = .ok (.iload_n 1, 1) := by decide +kernel
theorem dX5_partner_52 : decode cX5_partner 52 = .ok (.if_icmp .ne 7, 3) := by decide +kernel
theorem dX5_partner_55 : decode cX5_partner 55 = .ok (.iconst (-1), 1) := by decide +kernel
theorem dX5_partner_56 : decode cX5_partner 56 = .ok (.goto 11, 3) := by decide +kernel
theorem dX5_partner_59 : decode cX5_partner 59 = .ok (.aload_n 0, 1) := by decide +kernel
theorem dX5_partner_60 : decode cX5_partner 60 = .ok (.iload_n 1, 1) := by decide +kernel
theorem dX5_partner_61 : decode cX5_partner 61 = .ok (.iload 5, 2) := by decide +kernel
theorem dX5_partner_63 : decode cX5_partner 63 = .ok (.iload_n 2, 1) := by decide +kernel
theorem dX5_partner_64 : decode cX5_partner 64 = .ok (.invokevirtual 166, 3) := by decide +kernel
theorem dX5_partner_67 : decode cX5_partner 67 = .ok (.istore 6, 2) := by decide +kernel
theorem dX5_partner_69 : decode cX5_partner 69 = .ok (.iload 6, 2) := by decide +kernel
theorem dX5_partner_71 : decode cX5_partner 71 = .ok (.iload 4, 2) := by decide +kernel
theorem dX5_partner_73 : decode cX5_partner 73 = .ok (.if_icmp .le 10, 3) := by decide +kernel
theorem dX5_partner_76 : decode cX5_partner 76 = .ok (.iload 6, 2) := by decide +kernel
theorem dX5_partner_78 : decode cX5_partner 78 = .ok (.istore 4, 2) := by decide +kernel
theorem dX5_partner_80 : decode cX5_partner 80 = .ok (.iload 5, 2) := by decide +kernel
theorem dX5_partner_82 : decode cX5_partner 82 = .ok (.istore_n 3, 1) := by decide +kernel
theorem dX5_partner_83 : decode cX5_partner 83 = .ok (.iinc 5 1, 3) := by decide +kernel
theorem dX5_partner_86 : decode cX5_partner 86 = .ok (.goto (-49), 3) := by decide +kernel
theorem dX5_partner_89 : decode cX5_partner 89 = .ok (.iload_n 3, 1) := by decide +kernel
theorem dX5_partner_90 : decode cX5_partner 90 = .ok (.ldc 160, 2) := by decide +kernel
theorem dX5_partner_92 : decode cX5_partner 92 = .ok (.if_icmp .ne 12, 3) := by decide +kernel
theorem dX5_partner_95 : decode cX5_partner 95 = .ok (.aload_n 0, 1) := by decide +kernel
theorem dX5_partner_96 : decode cX5_partner 96 = .ok (.ldc 160, 2) := by decide +kernel
theorem dX5_partner_98 : decode cX5_partner 98 = .ok (.invokevirtual 56, 3) := by decide +kernel
theorem dX5_partner_101 : decode cX5_partner 101 = .ok (.goto 4, 3) := by decide +kernel
theorem dX5_partner_104 : decode cX5_partner 104 = .ok (.iload_n 3, 1) := by decide +kernel
theorem dX5_partner_105 : decode cX5_partner 105 = .ok (.ireturn, 1) := by decide +kernel
theorem dX5_subjectFor_0 : decode cX5_subjectFor 0 = .ok (.aload_n 0, 1) := by decide +kernel
theorem dX5_subjectFor_1 : decode cX5_subjectFor 1 = .ok (.iload_n 1, 1) := by decide +kernel
theorem dX5_subjectFor_2 : decode cX5_subjectFor 2 = .ok (.iload_n 2, 1) := by decide +kernel
theorem dX5_subjectFor_3 : decode cX5_subjectFor 3 = .ok (.invokevirtual 100, 3) := by decide +kernel
theorem dX5_subjectFor_6 : decode cX5_subjectFor 6 = .ok (.ifCond .ne 13, 3) := by decide +kernel
theorem dX5_subjectFor_9 : decode cX5_subjectFor 9 = .ok (.iload_n 3, 1) := by decide +kernel
theorem dX5_subjectFor_10 : decode cX5_subjectFor 10 = .ok (.iconst 0, 1) := by decide +kernel
theorem dX5_subjectFor_11 : decode cX5_subjectFor 11 = .ok (.bipush 60, 2) := by decide +kernel
theorem dX5_subjectFor_13 : decode cX5_subjectFor 13 = .ok (.invokestatic 51, 3) := by decide +kernel
theorem dX5_subjectFor_16 : decode cX5_subjectFor 16 = .ok (.ifCond .eq 10, 3) := by decide +kernel
theorem dX5_subjectFor_19 : decode cX5_subjectFor 19 = .ok (.aload_n 0, 1) := by decide +kernel
theorem dX5_subjectFor_20 : decode cX5_subjectFor 20 = .ok (.ldc 55, 2) := by decide +kernel
theorem dX5_subjectFor_22 : decode cX5_subjectFor 22 = .ok (.invokevirtual 56, 3) := by decide +kernel
theorem dX5_subjectFor_25 : decode cX5_subjectFor 25 = .ok (.ireturn, 1) := by decide +kernel
theorem dX5_subjectFor_26 : decode cX5_subjectFor 26 = .ok (.iconst 0, 1) := by decide +kernel
theorem dX5_subjectFor_27 : decode cX5_subjectFor 27 = .ok (.istore 4, 2) := by decide +kernel
theorem dX5_subjectFor_29 : decode cX5_subjectFor 29 = .ok (.iconst (-1), 1) := by decide +kernel
theorem dX5_subjectFor_30 : decode cX5_subjectFor 30 = .ok (.istore 5, 2) := by decide +kernel
theorem dX5_subjectFor_32 : decode cX5_subjectFor 32 = .ok (.iconst 0, 1) := by decide +kernel
theorem dX5_subjectFor_33 : decode cX5_subjectFor 33 = .ok (.istore 6, 2) := by decide +kernel
theorem dX5_subjectFor_35 : decode cX5_subjectFor 35 = .ok (.iload 6, 2) := by decide +kernel
theorem dX5_subjectFor_37 : decode cX5_subjectFor 37 = .ok (.bipush 6, 2) := by decide +kernel
theorem dX5_subjectFor_39 : decode cX5_subjectFor 39 = .ok (.if_icmp .ge 56, 3) := by decide +kernel
theorem dX5_subjectFor_42 : decode cX5_subjectFor 42 = .ok (.aload_n 0, 1) := by decide +kernel
theorem dX5_subjectFor_43 : decode cX5_subjectFor 43 = .ok (.getfield 16, 3) := by decide +kernel
theorem dX5_subjectFor_46 : decode cX5_subjectFor 46 = .ok (.aload_n 0, 1) := by decide +kernel
theorem dX5_subjectFor_47 : decode cX5_subjectFor 47 = .ok (.getfield 12, 3) := by decide +kernel
theorem dX5_subjectFor_50 : decode cX5_subjectFor 50 = .ok (.invokevirtual 150, 3) := by decide +kernel
theorem dX5_subjectFor_53 : decode cX5_subjectFor 53 = .ok (.aload_n 0, 1) := by decide +kernel
theorem dX5_subjectFor_54 : decode cX5_subjectFor 54 = .ok (.getfield 16, 3) := by decide +kernel
theorem dX5_subjectFor_57 : decode cX5_subjectFor 57 = .ok (.iload 6, 2) := by decide +kernel
theorem dX5_subjectFor_59 : decode cX5_subjectFor 59 = .ok (.putfield 122, 3) := by decide +kernel
theorem dX5_subjectFor_62 : decode cX5_subjectFor 62 = .ok (.aload_n 0, 1) := by decide +kernel
theorem dX5_subjectFor_63 : decode cX5_subjectFor 63 = .ok (.getfield 16, 3) := by decide +kernel
theorem dX5_subjectFor_66 : decode cX5_subjectFor 66 = .ok (.iload_n 1, 1) := by decide +kernel
theorem dX5_subjectFor_67 : decode cX5_subjectFor 67 = .ok (.iload_n 2, 1) := by decide +kernel
theorem dX5_subjectFor_68 : decode cX5_subjectFor 68 = .ok (.iload_n 3, 1) := by decide +kernel
theorem dX5_subjectFor_69 : decode cX5_subjectFor 69 = .ok (.invokevirtual 172, 3) := by decide +kernel
theorem dX5_subjectFor_72 : decode cX5_subjectFor 72 = .ok (.istore 7, 2) := by decide +kernel
theorem dX5_subjectFor_74 : decode cX5_subjectFor 74 = .ok (.iload 7, 2) := by decide +kernel
theorem dX5_subjectFor_76 : decode cX5_subjectFor 76 = .ok (.iload 5, 2) := by decide +kernel
theorem dX5_subjectFor_78 : decode cX5_subjectFor 78 = .ok (.if_icmp .le 11, 3) := by decide +kernel
theorem dX5_subjectFor_81 : decode cX5_subjectFor 81 = .ok (.iload 7, 2) := by decide +kernel
theorem dX5_subjectFor_83 : decode cX5_subjectFor 83 = .ok (.istore 5, 2) := by decide +kernel
theorem dX5_subjectFor_85 : decode cX5_subjectFor 85 = .ok (.iload 6, 2) := by decide +kernel
theorem dX5_subjectFor_87 : decode cX5_subjectFor 87 = .ok (.istore 4, 2) := by decide +kernel
theorem dX5_subjectFor_89 : decode cX5_subjectFor 89 = .ok (.iinc 6 1, 3) := by decide +kernel
theorem dX5_subjectFor_92 : decode cX5_subjectFor 92 = .ok (.goto (-57), 3) := by decide +kernel
theorem dX5_subjectFor_95 : decode cX5_subjectFor 95 = .ok (.iload 4, 2) := by decide +kernel
theorem dX5_subjectFor_97 : decode cX5_subjectFor 97 = .ok (.ireturn, 1) := by decide +kernel
theorem dX5_matched_0 : decode cX5_matched 0 = .ok (.iload_n 1, 1) := by decide +kernel
theorem dX5_matched_1 : decode cX5_matched 1 = .ok (.iconst 0, 1) := by decide +kernel
theorem dX5_matched_2 : decode cX5_matched 2 = .ok (.bipush 30, 2) := by decide +kernel
theorem dX5_matched_4 : decode cX5_matched 4 = .ok (.invokestatic 51, 3) := by decide +kernel
theorem dX5_matched_7 : decode cX5_matched 7 = .ok (.ifCond .eq 10, 3) := by decide +kernel
theorem dX5_matched_10 : decode cX5_matched 10 = .ok (.aload_n 0, 1) := by decide +kernel
theorem dX5_matched_11 : decode cX5_matched 11 = .ok (.ldc 55, 2) := by decide +kernel
theorem dX5_matched_13 : decode cX5_matched 13 = .ok (.invokevirtual 56, 3) := by decide +kernel
theorem dX5_matched_16 : decode cX5_matched 16 = .ok (.ireturn, 1) := by decide +kernel
theorem dX5_matched_17 : decode cX5_matched 17 = .ok (.aload_n 0, 1) := by decide +kernel
theorem dX5_matched_18 : decode cX5_matched 18 = .ok (.iload_n 1, 1) := by decide +kernel
theorem dX5_matched_19 : decode cX5_matched 19 = .ok (.invokevirtual 175, 3) := by decide +kernel
theorem dX5_matched_22 : decode cX5_matched 22 = .ok (.aload_n 0, 1) := by decide +kernel
theorem dX5_matched_23 : decode cX5_matched 23 = .ok (.getfield 36, 3) := by decide +kernel
theorem dX5_matched_26 : decode cX5_matched 26 = .ok (.aload_n 0, 1) := by decide +kernel
theorem dX5_matched_27 : decode cX5_matched 27 = .ok (.getfield 12, 3) := by decide +kernel
theorem dX5_matched_30 : decode cX5_matched 30 = .ok (.getfield 169, 3) := by decide +kernel
theorem dX5_matched_33 : decode cX5_matched 33 = .ok (.invokevirtual 178, 3) := by decide +kernel
theorem dX5_matched_36 : decode cX5_matched 36 = .ok (.ireturn, 1) := by decide +kernel
theorem dX5_matchOf_0 : decode cX5_matchOf 0 = .ok (.aload_n 0, 1) := by decide +kernel
theorem dX5_matchOf_1 : decode cX5_matchOf 1 = .ok (.getfield 12, 3) := by decide +kernel
theorem dX5_matchOf_4 : decode cX5_matchOf 4 = .ok (.iload_n 1, 1) := by decide +kernel
theorem dX5_matchOf_5 : decode cX5_matchOf 5 = .ok (.invokevirtual 68, 3) := by decide +kernel
theorem dX5_matchOf_8 : decode cX5_matchOf 8 = .ok (.ifCond .eq 13, 3) := by decide +kernel
theorem dX5_matchOf_11 : decode cX5_matchOf 11 = .ok (.iload_n 2, 1) := by decide +kernel
theorem dX5_matchOf_12 : decode cX5_matchOf 12 = .ok (.iconst 0, 1) := by decide +kernel
theorem dX5_matchOf_13 : decode cX5_matchOf 13 = .ok (.bipush 30, 2) := by decide +kernel
theorem dX5_matchOf_15 : decode cX5_matchOf 15 = .ok (.invokestatic 51, 3) := by decide +kernel
theorem dX5_matchOf_18 : decode cX5_matchOf 18 = .ok (.ifCond .eq 10, 3) := by decide +kernel
theorem dX5_matchOf_21 : decode cX5_matchOf 21 = .ok (.aload_n 0, 1) := by decide +kernel
theorem dX5_matchOf_22 : decode cX5_matchOf 22 = .ok (.ldc 55, 2) := by decide +kernel
theorem dX5_matchOf_24 : decode cX5_matchOf 24 = .ok (.invokevirtual 56, 3) := by decide +kernel
theorem dX5_matchOf_27 : decode cX5_matchOf 27 = .ok (.ireturn, 1) := by decide +kernel
theorem dX5_matchOf_28 : decode cX5_matchOf 28 = .ok (.aload_n 0, 1) := by decide +kernel
theorem dX5_matchOf_29 : decode cX5_matchOf 29 = .ok (.iload_n 2, 1) := by decide +kernel
theorem dX5_matchOf_30 : decode cX5_matchOf 30 = .ok (.invokevirtual 175, 3) := by decide +kernel
theorem dX5_matchOf_33 : decode cX5_matchOf 33 = .ok (.aload_n 0, 1) := by decide +kernel
theorem dX5_matchOf_34 : decode cX5_matchOf 34 = .ok (.getfield 36, 3) := by decide +kernel
theorem dX5_matchOf_37 : decode cX5_matchOf 37 = .ok (.iload_n 1, 1) := by decide +kernel
theorem dX5_matchOf_38 : decode cX5_matchOf 38 = .ok (.aload_n 0, 1) := by decide +kernel
theorem dX5_matchOf_39 : decode cX5_matchOf 39 = .ok (.getfield 12, 3) := by decide +kernel
theorem dX5_matchOf_42 : decode cX5_matchOf 42 = .ok (.getfield 169, 3) := by decide +kernel
theorem dX5_matchOf_45 : decode cX5_matchOf 45 = .ok (.invokevirtual 181, 3) := by decide +kernel
theorem dX5_matchOf_48 : decode cX5_matchOf 48 = .ok (.ireturn, 1) := by decide +kernel
theorem dX5_kindFor_0 : decode cX5_kindFor 0 = .ok (.aload_n 0, 1) := by decide +kernel
theorem dX5_kindFor_1 : decode cX5_kindFor 1 = .ok (.iload_n 1, 1) := by decide +kernel
theorem dX5_kindFor_2 : decode cX5_kindFor 2 = .ok (.iload_n 2, 1) := by decide +kernel
theorem dX5_kindFor_3 : decode cX5_kindFor 3 = .ok (.invokevirtual 100, 3) := by decide +kernel
theorem dX5_kindFor_6 : decode cX5_kindFor 6 = .ok (.ifCond .ne 13, 3) := by decide +kernel
theorem dX5_kindFor_9 : decode cX5_kindFor 9 = .ok (.iload_n 3, 1) := by decide +kernel
theorem dX5_kindFor_10 : decode cX5_kindFor 10 = .ok (.iconst 0, 1) := by decide +kernel
theorem dX5_kindFor_11 : decode cX5_kindFor 11 = .ok (.bipush 60, 2) := by decide +kernel
theorem dX5_kindFor_13 : decode cX5_kindFor 13 = .ok (.invokestatic 51, 3) := by decide +kernel
theorem dX5_kindFor_16 : decode cX5_kindFor 16 = .ok (.ifCond .eq 10, 3) := by decide +kernel
theorem dX5_kindFor_19 : decode cX5_kindFor 19 = .ok (.aload_n 0, 1) := by decide +kernel
theorem dX5_kindFor_20 : decode cX5_kindFor 20 = .ok (.ldc 55, 2) := by decide +kernel
theorem dX5_kindFor_22 : decode cX5_kindFor 22 = .ok (.invokevirtual 56, 3) := by decide +kernel
theorem dX5_kindFor_25 : decode cX5_kindFor 25 = .ok (.ireturn, 1) := by decide +kernel
theorem dX5_kindFor_26 : decode cX5_kindFor 26 = .ok (.aload_n 0, 1) := by decide +kernel
theorem dX5_kindFor_27 : decode cX5_kindFor 27 = .ok (.iload_n 1, 1) := by decide +kernel
theorem dX5_kindFor_28 : decode cX5_kindFor 28 = .ok (.iload_n 2, 1) := by decide +kernel
theorem dX5_kindFor_29 : decode cX5_kindFor 29 = .ok (.iconst 0, 1) := by decide +kernel
theorem dX5_kindFor_30 : decode cX5_kindFor 30 = .ok (.iload_n 3, 1) := by decide +kernel
theorem dX5_kindFor_31 : decode cX5_kindFor 31 = .ok (.invokevirtual 184, 3) := by decide +kernel
theorem dX5_kindFor_34 : decode cX5_kindFor 34 = .ok (.ireturn, 1) := by decide +kernel
theorem dX5_viewFor_0 : decode cX5_viewFor 0 = .ok (.aload_n 0, 1) := by decide +kernel
theorem dX5_viewFor_1 : decode cX5_viewFor 1 = .ok (.iload_n 1, 1) := by decide +kernel
theorem dX5_viewFor_2 : decode cX5_viewFor 2 = .ok (.iload_n 2, 1) := by decide +kernel
theorem dX5_viewFor_3 : decode cX5_viewFor 3 = .ok (.invokevirtual 100, 3) := by decide +kernel
theorem dX5_viewFor_6 : decode cX5_viewFor 6 = .ok (.ifCond .ne 21, 3) := by decide +kernel
theorem dX5_viewFor_9 : decode cX5_viewFor 9 = .ok (.iload_n 3, 1) := by decide +kernel
theorem dX5_viewFor_10 : decode cX5_viewFor 10 = .ok (.invokestatic 93, 3) := by decide +kernel
theorem dX5_viewFor_13 : decode cX5_viewFor 13 = .ok (.ifCond .ne 14, 3) := by decide +kernel
theorem dX5_viewFor_16 : decode cX5_viewFor 16 = .ok (.iload 4, 2) := by decide +kernel
theorem dX5_viewFor_18 : decode cX5_viewFor 18 = .ok (.iconst 0, 1) := by decide +kernel
theorem dX5_viewFor_19 : decode cX5_viewFor 19 = .ok (.bipush 60, 2) := by decide +kernel
theorem dX5_viewFor_21 : decode cX5_viewFor 21 = .ok (.invokestatic 51, 3) := by decide +kernel
theorem dX5_viewFor_24 : decode cX5_viewFor 24 = .ok (.ifCond .eq 10, 3) := by decide +kernel
theorem dX5_viewFor_27 : decode cX5_viewFor 27 = .ok (.aload_n 0, 1) := by decide +kernel
theorem dX5_viewFor_28 : decode cX5_viewFor 28 = .ok (.ldc 55, 2) := by decide +kernel
theorem dX5_viewFor_30 : decode cX5_viewFor 30 = .ok (.invokevirtual 56, 3) := by decide +kernel
theorem dX5_viewFor_33 : decode cX5_viewFor 33 = .ok (.ireturn, 1) := by decide +kernel
theorem dX5_viewFor_34 : decode cX5_viewFor 34 = .ok (.aload_n 0, 1) := by decide +kernel
theorem dX5_viewFor_35 : decode cX5_viewFor 35 = .ok (.iload_n 1, 1) := by decide +kernel
theorem dX5_viewFor_36 : decode cX5_viewFor 36 = .ok (.iload_n 2, 1) := by decide +kernel
theorem dX5_viewFor_37 : decode cX5_viewFor 37 = .ok (.iconst 2, 1) := by decide +kernel
theorem dX5_viewFor_38 : decode cX5_viewFor 38 = .ok (.iload_n 3, 1) := by decide +kernel
theorem dX5_viewFor_39 : decode cX5_viewFor 39 = .ok (.iadd, 1) := by decide +kernel
theorem dX5_viewFor_40 : decode cX5_viewFor 40 = .ok (.iload 4, 2) := by decide +kernel
theorem dX5_viewFor_42 : decode cX5_viewFor 42 = .ok (.invokevirtual 184, 3) := by decide +kernel
theorem dX5_viewFor_45 : decode cX5_viewFor 45 = .ok (.ireturn, 1) := by decide +kernel
theorem dX5_voiceFor_0 : decode cX5_voiceFor 0 = .ok (.aload_n 0, 1) := by decide +kernel
theorem dX5_voiceFor_1 : decode cX5_voiceFor 1 = .ok (.iload_n 1, 1) := by decide +kernel
theorem dX5_voiceFor_2 : decode cX5_voiceFor 2 = .ok (.iload_n 2, 1) := by decide +kernel
theorem dX5_voiceFor_3 : decode cX5_voiceFor 3 = .ok (.invokevirtual 100, 3) := by decide +kernel
theorem dX5_voiceFor_6 : decode cX5_voiceFor 6 = .ok (.ifCond .ne 25, 3) := by decide +kernel
theorem dX5_voiceFor_9 : decode cX5_voiceFor 9 = .ok (.iload_n 3, 1) := by decide +kernel
theorem dX5_voiceFor_10 : decode cX5_voiceFor 10 = .ok (.iconst 0, 1) := by decide +kernel
theorem dX5_voiceFor_11 : decode cX5_voiceFor 11 = .ok (.sipush 9999, 3) := by decide +kernel
theorem dX5_voiceFor_14 : decode cX5_voiceFor 14 = .ok (.invokestatic 51, 3) := by decide +kernel
theorem dX5_voiceFor_17 : decode cX5_voiceFor 17 = .ok (.ifCond .ne 14, 3) := by decide +kernel
theorem dX5_voiceFor_20 : decode cX5_voiceFor 20 = .ok (.iload 4, 2) := by decide +kernel
theorem dX5_voiceFor_22 : decode cX5_voiceFor 22 = .ok (.iconst 0, 1) := by decide +kernel
theorem dX5_voiceFor_23 : decode cX5_voiceFor 23 = .ok (.bipush 60, 2) := by decide +kernel
theorem dX5_voiceFor_25 : decode cX5_voiceFor 25 = .ok (.invokestatic 51, 3) := by decide +kernel
theorem dX5_voiceFor_28 : decode cX5_voiceFor 28 = .ok (.ifCond .eq 10, 3) := by decide +kernel
theorem dX5_voiceFor_31 : decode cX5_voiceFor 31 = .ok (.aload_n 0, 1) := by decide +kernel
theorem dX5_voiceFor_32 : decode cX5_voiceFor 32 = .ok (.ldc 55, 2) := by decide +kernel
theorem dX5_voiceFor_34 : decode cX5_voiceFor 34 = .ok (.invokevirtual 56, 3) := by decide +kernel
theorem dX5_voiceFor_37 : decode cX5_voiceFor 37 = .ok (.ireturn, 1) := by decide +kernel
theorem dX5_voiceFor_38 : decode cX5_voiceFor 38 = .ok (.iconst 0, 1) := by decide +kernel
theorem dX5_voiceFor_39 : decode cX5_voiceFor 39 = .ok (.istore 5, 2) := by decide +kernel
theorem dX5_voiceFor_41 : decode cX5_voiceFor 41 = .ok (.iload 5, 2) := by decide +kernel
theorem dX5_voiceFor_43 : decode cX5_voiceFor 43 = .ok (.bipush 9, 2) := by decide +kernel
theorem dX5_voiceFor_45 : decode cX5_voiceFor 45 = .ok (.if_icmp .gt 27, 3) := by decide +kernel
theorem dX5_voiceFor_48 : decode cX5_voiceFor 48 = .ok (.aload_n 0, 1) := by decide +kernel
theorem dX5_voiceFor_49 : decode cX5_voiceFor 49 = .ok (.iload_n 1, 1) := by decide +kernel
theorem dX5_voiceFor_50 : decode cX5_voiceFor 50 = .ok (.iload_n 2, 1) := by decide +kernel
theorem dX5_voiceFor_51 : decode cX5_voiceFor 51 = .ok (.iconst 1, 1) := by decide +kernel
theorem dX5_voiceFor_52 : decode cX5_voiceFor 52 = .ok (.iload 5, 2) := by decide +kernel
theorem dX5_voiceFor_54 : decode cX5_voiceFor 54 = .ok (.iload 4, 2) := by decide +kernel
theorem dX5_voiceFor_56 : decode cX5_voiceFor 56 = .ok (.invokevirtual 188, 3) := by decide +kernel
theorem dX5_voiceFor_59 : decode cX5_voiceFor 59 = .ok (.iload_n 3, 1) := by decide +kernel
theorem dX5_voiceFor_60 : decode cX5_voiceFor 60 = .ok (.if_icmp .lt 6, 3) := by decide +kernel
theorem dX5_voiceFor_63 : decode cX5_voiceFor 63 = .ok (.iload 5, 2) := by decide +kernel
theorem dX5_voiceFor_65 : decode cX5_voiceFor 65 = .ok (.ireturn, 1) := by decide +kernel
theorem dX5_voiceFor_66 : decode cX5_voiceFor 66 = .ok (.iinc 5 1, 3) := by decide +kernel
theorem dX5_voiceFor_69 : decode cX5_voiceFor 69 = .ok (.goto (-28), 3) := by decide +kernel
theorem dX5_voiceFor_72 : decode cX5_voiceFor 72 = .ok (.aload_n 0, 1) := by decide +kernel
theorem dX5_voiceFor_73 : decode cX5_voiceFor 73 = .ok (.ldc 160, 2) := by decide +kernel
theorem dX5_voiceFor_75 : decode cX5_voiceFor 75 = .ok (.invokevirtual 56, 3) := by decide +kernel
theorem dX5_voiceFor_78 : decode cX5_voiceFor 78 = .ok (.ireturn, 1) := by decide +kernel
theorem dX5_fits_0 : decode cX5_fits 0 = .ok (.aload_n 0, 1) := by decide +kernel
theorem dX5_fits_1 : decode cX5_fits 1 = .ok (.iload_n 1, 1) := by decide +kernel
theorem dX5_fits_2 : decode cX5_fits 2 = .ok (.iload_n 2, 1) := by decide +kernel
theorem dX5_fits_3 : decode cX5_fits 3 = .ok (.invokevirtual 192, 3) := by decide +kernel
theorem dX5_fits_6 : decode cX5_fits 6 = .ok (.istore_n 3, 1) := by decide +kernel
theorem dX5_fits_7 : decode cX5_fits 7 = .ok (.iload_n 3, 1) := by decide +kernel
theorem dX5_fits_8 : decode cX5_fits 8 = .ok (.ifCond .eq 9, 3) := by decide +kernel
theorem dX5_fits_11 : decode cX5_fits 11 = .ok (.aload_n 0, 1) := by decide +kernel
theorem dX5_fits_12 : decode cX5_fits 12 = .ok (.iload_n 3, 1) := by decide +kernel
theorem dX5_fits_13 : decode cX5_fits 13 = .ok (.invokevirtual 56, 3) := by decide +kernel
theorem dX5_fits_16 : decode cX5_fits 16 = .ok (.ireturn, 1) := by decide +kernel
theorem dX5_fits_17 : decode cX5_fits 17 = .ok (.iconst 0, 1) := by decide +kernel
theorem dX5_fits_18 : decode cX5_fits 18 = .ok (.istore 4, 2) := by decide +kernel
theorem dX5_fits_20 : decode cX5_fits 20 = .ok (.bipush (-9), 2) := by decide +kernel
theorem dX5_fits_22 : decode cX5_fits 22 = .ok (.istore 5, 2) := by decide +kernel
theorem dX5_fits_24 : decode cX5_fits 24 = .ok (.iload 5, 2) := by decide +kernel
theorem dX5_fits_26 : decode cX5_fits 26 = .ok (.bipush 9, 2) := by decide +kernel
theorem dX5_fits_28 : decode cX5_fits 28 = .ok (.if_icmp .gt 37, 3) := by decide +kernel
theorem dX5_fits_31 : decode cX5_fits 31 = .ok (.aload_n 0, 1) := by decide +kernel
theorem dX5_fits_32 : decode cX5_fits 32 = .ok (.aload_n 0, 1) := by decide +kernel
theorem dX5_fits_33 : decode cX5_fits 33 = .ok (.getfield 42, 3) := by decide +kernel
theorem dX5_fits_36 : decode cX5_fits 36 = .ok (.iload_n 1, 1) := by decide +kernel
theorem dX5_fits_37 : decode cX5_fits 37 = .ok (.aaload, 1) := by decide +kernel
theorem dX5_fits_38 : decode cX5_fits 38 = .ok (.iload_n 2, 1) := by decide +kernel
theorem dX5_fits_39 : decode cX5_fits 39 = .ok (.iconst 2, 1) := by decide +kernel
theorem dX5_fits_40 : decode cX5_fits 40 = .ok (.aload_n 0, 1) := by decide +kernel
theorem dX5_fits_41 : decode cX5_fits 41 = .ok (.getfield 12, 3) := by decide +kernel
theorem dX5_fits_44 : decode cX5_fits 44 = .ok (.getfield 122, 3) := by decide +kernel
theorem dX5_fits_47 : decode cX5_fits 47 = .ok (.iadd, 1) := by decide +kernel
theorem dX5_fits_48 : decode cX5_fits 48 = .ok (.iload 5, 2) := by decide +kernel
theorem dX5_fits_50 : decode cX5_fits 50 = .ok (.invokevirtual 195, 3) := by decide +kernel
theorem dX5_fits_53 : decode cX5_fits 53 = .ok (.ifCond .eq 6, 3) := by decide +kernel
theorem dX5_fits_56 : decode cX5_fits 56 = .ok (.iinc 4 1, 3) := by decide +kernel
theorem dX5_fits_59 : decode cX5_fits 59 = .ok (.iinc 5 1, 3) := by decide +kernel
theorem dX5_fits_62 : decode cX5_fits 62 = .ok (.goto (-38), 3) := by decide +kernel
theorem dX5_fits_65 : decode cX5_fits 65 = .ok (.iload 4, 2) := by decide +kernel
theorem dX5_fits_67 : decode cX5_fits 67 = .ok (.ireturn, 1) := by decide +kernel
theorem dX5_thought_0 : decode cX5_thought 0 = .ok (.aload_n 0, 1) := by decide +kernel
theorem dX5_thought_1 : decode cX5_thought 1 = .ok (.iload_n 1, 1) := by decide +kernel
theorem dX5_thought_2 : decode cX5_thought 2 = .ok (.iload_n 2, 1) := by decide +kernel
theorem dX5_thought_3 : decode cX5_thought 3 = .ok (.invokevirtual 192, 3) := by decide +kernel
theorem dX5_thought_6 : decode cX5_thought 6 = .ok (.istore_n 3, 1) := by decide +kernel
theorem dX5_thought_7 : decode cX5_thought 7 = .ok (.iload_n 3, 1) := by decide +kernel
theorem dX5_thought_8 : decode cX5_thought 8 = .ok (.ifCond .eq 9, 3) := by decide +kernel
theorem dX5_thought_11 : decode cX5_thought 11 = .ok (.aload_n 0, 1) := by decide +kernel
theorem dX5_thought_12 : decode cX5_thought 12 = .ok (.iload_n 3, 1) := by decide +kernel
theorem dX5_thought_13 : decode cX5_thought 13 = .ok (.invokevirtual 56, 3) := by decide +kernel
theorem dX5_thought_16 : decode cX5_thought 16 = .ok (.ireturn, 1) := by decide +kernel
theorem dX5_thought_17 : decode cX5_thought 17 = .ok (.bipush (-9), 2) := by decide +kernel
theorem dX5_thought_19 : decode cX5_thought 19 = .ok (.istore 4, 2) := by decide +kernel
theorem dX5_thought_21 : decode cX5_thought 21 = .ok (.iload 4, 2) := by decide +kernel
theorem dX5_thought_23 : decode cX5_thought 23 = .ok (.bipush 9, 2) := by decide +kernel
theorem dX5_thought_25 : decode cX5_thought 25 = .ok (.if_icmp .gt 37, 3) := by decide +kernel
theorem dX5_thought_28 : decode cX5_thought 28 = .ok (.aload_n 0, 1) := by decide +kernel
theorem dX5_thought_29 : decode cX5_thought 29 = .ok (.aload_n 0, 1) := by decide +kernel
theorem dX5_thought_30 : decode cX5_thought 30 = .ok (.getfield 42, 3) := by decide +kernel
theorem dX5_thought_33 : decode cX5_thought 33 = .ok (.iload_n 1, 1) := by decide +kernel
theorem dX5_thought_34 : decode cX5_thought 34 = .ok (.aaload, 1) := by decide +kernel
theorem dX5_thought_35 : decode cX5_thought 35 = .ok (.iload_n 2, 1) := by decide +kernel
theorem dX5_thought_36 : decode cX5_thought 36 = .ok (.iconst 2, 1) := by decide +kernel
theorem dX5_thought_37 : decode cX5_thought 37 = .ok (.aload_n 0, 1) := by decide +kernel
theorem dX5_thought_38 : decode cX5_thought 38 = .ok (.getfield 12, 3) := by decide +kernel
theorem dX5_thought_41 : decode cX5_thought 41 = .ok (.getfield 122, 3) := by decide +kernel
theorem dX5_thought_44 : decode cX5_thought 44 = .ok (.iadd, 1) := by decide +kernel
theorem dX5_thought_45 : decode cX5_thought 45 = .ok (.iload 4, 2) := by decide +kernel
theorem dX5_thought_47 : decode cX5_thought 47 = .ok (.invokevirtual 195, 3) := by decide +kernel
theorem dX5_thought_50 : decode cX5_thought 50 = .ok (.ifCond .eq 6, 3) := by decide +kernel
theorem dX5_thought_53 : decode cX5_thought 53 = .ok (.iload 4, 2) := by decide +kernel
theorem dX5_thought_55 : decode cX5_thought 55 = .ok (.ireturn, 1) := by decide +kernel
theorem dX5_thought_56 : decode cX5_thought 56 = .ok (.iinc 4 1, 3) := by decide +kernel
theorem dX5_thought_59 : decode cX5_thought 59 = .ok (.goto (-38), 3) := by decide +kernel
theorem dX5_thought_62 : decode cX5_thought 62 = .ok (.aload_n 0, 1) := by decide +kernel
theorem dX5_thought_63 : decode cX5_thought 63 = .ok (.ldc 160, 2) := by decide +kernel
theorem dX5_thought_65 : decode cX5_thought 65 = .ok (.invokevirtual 56, 3) := by decide +kernel
theorem dX5_thought_68 : decode cX5_thought 68 = .ok (.ireturn, 1) := by decide +kernel
theorem dX5_kinds_0 : decode cX5_kinds 0 = .ok (.aload_n 0, 1) := by decide +kernel
theorem dX5_kinds_1 : decode cX5_kinds 1 = .ok (.iload_n 1, 1) := by decide +kernel
theorem dX5_kinds_2 : decode cX5_kinds 2 = .ok (.iload_n 2, 1) := by decide +kernel
theorem dX5_kinds_3 : decode cX5_kinds 3 = .ok (.invokevirtual 192, 3) := by decide +kernel
theorem dX5_kinds_6 : decode cX5_kinds 6 = .ok (.istore_n 3, 1) := by decide +kernel
theorem dX5_kinds_7 : decode cX5_kinds 7 = .ok (.iload_n 3, 1) := by decide +kernel
theorem dX5_kinds_8 : decode cX5_kinds 8 = .ok (.ifCond .eq 9, 3) := by decide +kernel
theorem dX5_kinds_11 : decode cX5_kinds 11 = .ok (.aload_n 0, 1) := by decide +kernel
theorem dX5_kinds_12 : decode cX5_kinds 12 = .ok (.iload_n 3, 1) := by decide +kernel
theorem dX5_kinds_13 : decode cX5_kinds 13 = .ok (.invokevirtual 56, 3) := by decide +kernel
theorem dX5_kinds_16 : decode cX5_kinds 16 = .ok (.ireturn, 1) := by decide +kernel
theorem dX5_kinds_17 : decode cX5_kinds 17 = .ok (.iconst 0, 1) := by decide +kernel
theorem dX5_kinds_18 : decode cX5_kinds 18 = .ok (.istore 4, 2) := by decide +kernel
theorem dX5_kinds_20 : decode cX5_kinds 20 = .ok (.iconst 0, 1) := by decide +kernel
theorem dX5_kinds_21 : decode cX5_kinds 21 = .ok (.istore 5, 2) := by decide +kernel
theorem dX5_kinds_23 : decode cX5_kinds 23 = .ok (.iload 5, 2) := by decide +kernel
theorem dX5_kinds_25 : decode cX5_kinds 25 = .ok (.bipush 7, 2) := by decide +kernel
theorem dX5_kinds_27 : decode cX5_kinds 27 = .ok (.if_icmp .ge 35, 3) := by decide +kernel
theorem dX5_kinds_30 : decode cX5_kinds 30 = .ok (.aload_n 0, 1) := by decide +kernel
theorem dX5_kinds_31 : decode cX5_kinds 31 = .ok (.aload_n 0, 1) := by decide +kernel
theorem dX5_kinds_32 : decode cX5_kinds 32 = .ok (.getfield 42, 3) := by decide +kernel
theorem dX5_kinds_35 : decode cX5_kinds 35 = .ok (.iload_n 1, 1) := by decide +kernel
theorem dX5_kinds_36 : decode cX5_kinds 36 = .ok (.aaload, 1) := by decide +kernel
theorem dX5_kinds_37 : decode cX5_kinds 37 = .ok (.iload_n 2, 1) := by decide +kernel
theorem dX5_kinds_38 : decode cX5_kinds 38 = .ok (.iconst 0, 1) := by decide +kernel
theorem dX5_kinds_39 : decode cX5_kinds 39 = .ok (.iload 5, 2) := by decide +kernel
theorem dX5_kinds_41 : decode cX5_kinds 41 = .ok (.invokevirtual 195, 3) := by decide +kernel
theorem dX5_kinds_44 : decode cX5_kinds 44 = .ok (.ifCond .eq 12, 3) := by decide +kernel
theorem dX5_kinds_47 : decode cX5_kinds 47 = .ok (.iload 4, 2) := by decide +kernel
theorem dX5_kinds_49 : decode cX5_kinds 49 = .ok (.iconst 1, 1) := by decide +kernel
theorem dX5_kinds_50 : decode cX5_kinds 50 = .ok (.iload 5, 2) := by decide +kernel
theorem dX5_kinds_52 : decode cX5_kinds 52 = .ok (.ishl, 1) := by decide +kernel
theorem dX5_kinds_53 : decode cX5_kinds 53 = .ok (.ior, 1) := by decide +kernel
theorem dX5_kinds_54 : decode cX5_kinds 54 = .ok (.istore 4, 2) := by decide +kernel
theorem dX5_kinds_56 : decode cX5_kinds 56 = .ok (.iinc 5 1, 3) := by decide +kernel
theorem dX5_kinds_59 : decode cX5_kinds 59 = .ok (.goto (-36), 3) := by decide +kernel
theorem dX5_kinds_62 : decode cX5_kinds 62 = .ok (.iload 4, 2) := by decide +kernel
theorem dX5_kinds_64 : decode cX5_kinds 64 = .ok (.ireturn, 1) := by decide +kernel
theorem dX5_quarrels_0 : decode cX5_quarrels 0 = .ok (.iload_n 1, 1) := by decide +kernel
theorem dX5_quarrels_1 : decode cX5_quarrels 1 = .ok (.iconst 1, 1) := by decide +kernel
theorem dX5_quarrels_2 : decode cX5_quarrels 2 = .ok (.bipush 20, 2) := by decide +kernel
theorem dX5_quarrels_4 : decode cX5_quarrels 4 = .ok (.invokestatic 51, 3) := by decide +kernel
theorem dX5_quarrels_7 : decode cX5_quarrels 7 = .ok (.ifCond .eq 10, 3) := by decide +kernel
theorem dX5_quarrels_10 : decode cX5_quarrels 10 = .ok (.aload_n 0, 1) := by decide +kernel
theorem dX5_quarrels_11 : decode cX5_quarrels 11 = .ok (.ldc 55, 2) := by decide +kernel
theorem dX5_quarrels_13 : decode cX5_quarrels 13 = .ok (.invokevirtual 56, 3) := by decide +kernel
theorem dX5_quarrels_16 : decode cX5_quarrels 16 = .ok (.ireturn, 1) := by decide +kernel
theorem dX5_quarrels_17 : decode cX5_quarrels 17 = .ok (.aload_n 0, 1) := by decide +kernel
theorem dX5_quarrels_18 : decode cX5_quarrels 18 = .ok (.getfield 12, 3) := by decide +kernel
theorem dX5_quarrels_21 : decode cX5_quarrels 21 = .ok (.getfield 126, 3) := by decide +kernel
theorem dX5_quarrels_24 : decode cX5_quarrels 24 = .ok (.iload_n 1, 1) := by decide +kernel
theorem dX5_quarrels_25 : decode cX5_quarrels 25 = .ok (.iadd, 1) := by decide +kernel
theorem dX5_quarrels_26 : decode cX5_quarrels 26 = .ok (.ldc 129, 2) := by decide +kernel
theorem dX5_quarrels_28 : decode cX5_quarrels 28 = .ok (.if_icmp .le 10, 3) := by decide +kernel
theorem dX5_quarrels_31 : decode cX5_quarrels 31 = .ok (.aload_n 0, 1) := by decide +kernel
theorem dX5_quarrels_32 : decode cX5_quarrels 32 = .ok (.ldc 130, 2) := by decide +kernel
theorem dX5_quarrels_34 : decode cX5_quarrels 34 = .ok (.invokevirtual 56, 3) := by decide +kernel
theorem dX5_quarrels_37 : decode cX5_quarrels 37 = .ok (.ireturn, 1) := by decide +kernel
theorem dX5_quarrels_38 : decode cX5_quarrels 38 = .ok (.iconst 0, 1) := by decide +kernel
theorem dX5_quarrels_39 : decode cX5_quarrels 39 = .ok (.istore_n 2, 1) := by decide +kernel
theorem dX5_quarrels_40 : decode cX5_quarrels 40 = .ok (.iload_n 2, 1) := by decide +kernel
theorem dX5_quarrels_41 : decode cX5_quarrels 41 = .ok (.iload_n 1, 1) := by decide +kernel
theorem dX5_quarrels_42 : decode cX5_quarrels 42 = .ok (.if_icmp .ge 60, 3) := by decide +kernel
theorem dX5_quarrels_45 : decode cX5_quarrels 45 = .ok (.aload_n 0, 1) := by decide +kernel
theorem dX5_quarrels_46 : decode cX5_quarrels 46 = .ok (.getfield 12, 3) := by decide +kernel
theorem dX5_quarrels_49 : decode cX5_quarrels 49 = .ok (.invokevirtual 199, 3) := by decide +kernel
theorem dX5_quarrels_52 : decode cX5_quarrels 52 = .ok (.bipush 8, 2) := by decide +kernel
theorem dX5_quarrels_54 : decode cX5_quarrels 54 = .ok (.irem, 1) := by decide +kernel
theorem dX5_quarrels_55 : decode cX5_quarrels 55 = .ok (.istore_n 3, 1) := by decide +kernel
theorem dX5_quarrels_56 : decode cX5_quarrels 56 = .ok (.aload_n 0, 1) := by decide +kernel
theorem dX5_quarrels_57 : decode cX5_quarrels 57 = .ok (.getfield 12, 3) := by decide +kernel
theorem dX5_quarrels_60 : decode cX5_quarrels 60 = .ok (.invokevirtual 199, 3) := by decide +kernel
theorem dX5_quarrels_63 : decode cX5_quarrels 63 = .ok (.bipush 8, 2) := by decide +kernel
theorem dX5_quarrels_65 : decode cX5_quarrels 65 = .ok (.irem, 1) := by decide +kernel
theorem dX5_quarrels_66 : decode cX5_quarrels 66 = .ok (.istore 4, 2) := by decide +kernel
theorem dX5_quarrels_68 : decode cX5_quarrels 68 = .ok (.aload_n 0, 1) := by decide +kernel
theorem dX5_quarrels_69 : decode cX5_quarrels 69 = .ok (.iload_n 3, 1) := by decide +kernel
theorem dX5_quarrels_70 : decode cX5_quarrels 70 = .ok (.iload 4, 2) := by decide +kernel
theorem dX5_quarrels_72 : decode cX5_quarrels 72 = .ok (.invokevirtual 100, 3) := by decide +kernel
theorem dX5_quarrels_75 : decode cX5_quarrels 75 = .ok (.ifCond .ne 13, 3) := by decide +kernel
theorem dX5_quarrels_78 : decode cX5_quarrels 78 = .ok (.aload_n 0, 1) := by decide +kernel
theorem dX5_quarrels_79 : decode cX5_quarrels 79 = .ok (.getfield 12, 3) := by decide +kernel
theorem dX5_quarrels_82 : decode cX5_quarrels 82 = .ok (.iload_n 3, 1) := by decide +kernel
theorem dX5_quarrels_83 : decode cX5_quarrels 83 = .ok (.iload 4, 2) := by decide +kernel
theorem dX5_quarrels_85 : decode cX5_quarrels 85 = .ok (.invokevirtual 103, 3) := by decide +kernel
theorem dX5_quarrels_88 : decode cX5_quarrels 88 = .ok (.aload_n 0, 1) := by decide +kernel
theorem dX5_quarrels_89 : decode cX5_quarrels 89 = .ok (.getfield 12, 3) := by decide +kernel
theorem dX5_quarrels_92 : decode cX5_quarrels 92 = .ok (.invokevirtual 157, 3) := by decide +kernel
theorem dX5_quarrels_95 : decode cX5_quarrels 95 = .ok (.pop, 1) := by decide +kernel
theorem dX5_quarrels_96 : decode cX5_quarrels 96 = .ok (.iinc 2 1, 3) := by decide +kernel
theorem dX5_quarrels_99 : decode cX5_quarrels 99 = .ok (.goto (-59), 3) := by decide +kernel
theorem dX5_quarrels_102 : decode cX5_quarrels 102 = .ok (.aload_n 0, 1) := by decide +kernel
theorem dX5_quarrels_103 : decode cX5_quarrels 103 = .ok (.getfield 12, 3) := by decide +kernel
theorem dX5_quarrels_106 : decode cX5_quarrels 106 = .ok (.getfield 135, 3) := by decide +kernel
theorem dX5_quarrels_109 : decode cX5_quarrels 109 = .ok (.ireturn, 1) := by decide +kernel
theorem dX5_odds_0 : decode cX5_odds 0 = .ok (.iload_n 1, 1) := by decide +kernel
theorem dX5_odds_1 : decode cX5_odds 1 = .ok (.iconst 0, 1) := by decide +kernel
theorem dX5_odds_2 : decode cX5_odds 2 = .ok (.bipush 10, 2) := by decide +kernel
theorem dX5_odds_4 : decode cX5_odds 4 = .ok (.invokestatic 51, 3) := by decide +kernel
theorem dX5_odds_7 : decode cX5_odds 7 = .ok (.ifCond .ne 12, 3) := by decide +kernel
theorem dX5_odds_10 : decode cX5_odds 10 = .ok (.iload_n 2, 1) := by decide +kernel
theorem dX5_odds_11 : decode cX5_odds 11 = .ok (.iconst 0, 1) := by decide +kernel
theorem dX5_odds_12 : decode cX5_odds 12 = .ok (.iconst 1, 1) := by decide +kernel
theorem dX5_odds_13 : decode cX5_odds 13 = .ok (.invokestatic 51, 3) := by decide +kernel
theorem dX5_odds_16 : decode cX5_odds 16 = .ok (.ifCond .eq 11, 3) := by decide +kernel
theorem dX5_odds_19 : decode cX5_odds 19 = .ok (.aload_n 0, 1) := by decide +kernel
theorem dX5_odds_20 : decode cX5_odds 20 = .ok (.ldc 55, 2) := by decide +kernel
theorem dX5_odds_22 : decode cX5_odds 22 = .ok (.invokevirtual 56, 3) := by decide +kernel
theorem dX5_odds_25 : decode cX5_odds 25 = .ok (.i2l, 1) := by decide +kernel
theorem dX5_odds_26 : decode cX5_odds 26 = .ok (.lreturn, 1) := by decide +kernel
theorem dX5_odds_27 : decode cX5_odds 27 = .ok (.aload_n 0, 1) := by decide +kernel
theorem dX5_odds_28 : decode cX5_odds 28 = .ok (.getfield 12, 3) := by decide +kernel
theorem dX5_odds_31 : decode cX5_odds 31 = .ok (.getfield 169, 3) := by decide +kernel
theorem dX5_odds_34 : decode cX5_odds 34 = .ok (.i2l, 1) := by decide +kernel
theorem dX5_odds_35 : decode cX5_odds 35 = .ok (.aload_n 0, 1) := by decide +kernel
theorem dX5_odds_36 : decode cX5_odds 36 = .ok (.getfield 12, 3) := by decide +kernel
theorem dX5_odds_39 : decode cX5_odds 39 = .ok (.getfield 169, 3) := by decide +kernel
theorem dX5_odds_42 : decode cX5_odds 42 = .ok (.iconst 1, 1) := by decide +kernel
theorem dX5_odds_43 : decode cX5_odds 43 = .ok (.isub, 1) := by decide +kernel
theorem dX5_odds_44 : decode cX5_odds 44 = .ok (.i2l, 1) := by decide +kernel
theorem dX5_odds_45 : decode cX5_odds 45 = .ok (.lmul, 1) := by decide +kernel
theorem dX5_odds_46 : decode cX5_odds 46 = .ok (.lstore_n 3, 1) := by decide +kernel
theorem dX5_odds_47 : decode cX5_odds 47 = .ok (.ldc2_w 202, 3) := by decide +kernel
theorem dX5_odds_50 : decode cX5_odds 50 = .ok (.lstore 5, 2) := by decide +kernel
theorem dX5_odds_52 : decode cX5_odds 52 = .ok (.lload 5, 2) := by decide +kernel
theorem dX5_odds_54 : decode cX5_odds 54 = .ok (.lconst 1, 1) := by decide +kernel
theorem dX5_odds_55 : decode cX5_odds 55 = .ok (.lcmp, 1) := by decide +kernel
theorem dX5_odds_56 : decode cX5_odds 56 = .ok (.ifCond .le 30, 3) := by decide +kernel
theorem dX5_odds_59 : decode cX5_odds 59 = .ok (.lload_n 3, 1) := by decide +kernel
theorem dX5_odds_60 : decode cX5_odds 60 = .ok (.ldc2_w 204, 3) := by decide +kernel
theorem dX5_odds_63 : decode cX5_odds 63 = .ok (.lrem, 1) := by decide +kernel
theorem dX5_odds_64 : decode cX5_odds 64 = .ok (.lconst 0, 1) := by decide +kernel
theorem dX5_odds_65 : decode cX5_odds 65 = .ok (.lcmp, 1) := by decide +kernel
theorem dX5_odds_66 : decode cX5_odds 66 = .ok (.ifCond .ne 20, 3) := by decide +kernel
theorem dX5_odds_69 : decode cX5_odds 69 = .ok (.lload_n 3, 1) := by decide +kernel
theorem dX5_odds_70 : decode cX5_odds 70 = .ok (.ldc2_w 204, 3) := by decide +kernel
theorem dX5_odds_73 : decode cX5_odds 73 = .ok (.ldiv, 1) := by decide +kernel
theorem dX5_odds_74 : decode cX5_odds 74 = .ok (.lstore_n 3, 1) := by decide +kernel
theorem dX5_odds_75 : decode cX5_odds 75 = .ok (.lload 5, 2) := by decide +kernel
theorem dX5_odds_77 : decode cX5_odds 77 = .ok (.ldc2_w 204, 3) := by decide +kernel
theorem dX5_odds_80 : decode cX5_odds 80 = .ok (.ldiv, 1) := by decide +kernel
theorem dX5_odds_81 : decode cX5_odds 81 = .ok (.lstore 5, 2) := by decide +kernel
theorem dX5_odds_83 : decode cX5_odds 83 = .ok (.goto (-31), 3) := by decide +kernel
theorem dX5_odds_86 : decode cX5_odds 86 = .ok (.iload_n 2, 1) := by decide +kernel
theorem dX5_odds_87 : decode cX5_odds 87 = .ok (.ifCond .ne 7, 3) := by decide +kernel
theorem dX5_odds_90 : decode cX5_odds 90 = .ok (.lload_n 3, 1) := by decide +kernel
theorem dX5_odds_91 : decode cX5_odds 91 = .ok (.goto 5, 3) := by decide +kernel
theorem dX5_odds_94 : decode cX5_odds 94 = .ok (.lload 5, 2) := by decide +kernel
theorem dX5_odds_96 : decode cX5_odds 96 = .ok (.iload_n 1, 1) := by decide +kernel
theorem dX5_odds_97 : decode cX5_odds 97 = .ok (.invokestatic 206, 3) := by decide +kernel
theorem dX5_odds_100 : decode cX5_odds 100 = .ok (.lreturn, 1) := by decide +kernel
theorem dX5_seed_0 : decode cX5_seed 0 = .ok (.aload_n 0, 1) := by decide +kernel
theorem dX5_seed_1 : decode cX5_seed 1 = .ok (.getfield 12, 3) := by decide +kernel
theorem dX5_seed_4 : decode cX5_seed 4 = .ok (.getfield 210, 3) := by decide +kernel
theorem dX5_seed_7 : decode cX5_seed 7 = .ok (.istore_n 2, 1) := by decide +kernel
theorem dX5_seed_8 : decode cX5_seed 8 = .ok (.aload_n 0, 1) := by decide +kernel
theorem dX5_seed_9 : decode cX5_seed 9 = .ok (.getfield 12, 3) := by decide +kernel
theorem dX5_seed_12 : decode cX5_seed 12 = .ok (.iload_n 1, 1) := by decide +kernel
theorem dX5_seed_13 : decode cX5_seed 13 = .ok (.putfield 210, 3) := by decide +kernel
theorem dX5_seed_16 : decode cX5_seed 16 = .ok (.iload_n 2, 1) := by decide +kernel
theorem dX5_seed_17 : decode cX5_seed 17 = .ok (.ireturn, 1) := by decide +kernel
theorem dX5_feed_0 : decode cX5_feed 0 = .ok (.iload_n 2, 1) := by decide +kernel
theorem dX5_feed_1 : decode cX5_feed 1 = .ok (.iconst 1, 1) := by decide +kernel
theorem dX5_feed_2 : decode cX5_feed 2 = .ok (.iconst 4, 1) := by decide +kernel
theorem dX5_feed_3 : decode cX5_feed 3 = .ok (.invokestatic 51, 3) := by decide +kernel
theorem dX5_feed_6 : decode cX5_feed 6 = .ok (.ifCond .eq 10, 3) := by decide +kernel
theorem dX5_feed_9 : decode cX5_feed 9 = .ok (.aload_n 0, 1) := by decide +kernel
theorem dX5_feed_10 : decode cX5_feed 10 = .ok (.ldc 55, 2) := by decide +kernel
theorem dX5_feed_12 : decode cX5_feed 12 = .ok (.invokevirtual 56, 3) := by decide +kernel
theorem dX5_feed_15 : decode cX5_feed 15 = .ok (.ireturn, 1) := by decide +kernel
theorem dX5_feed_16 : decode cX5_feed 16 = .ok (.aload_n 0, 1) := by decide +kernel
theorem dX5_feed_17 : decode cX5_feed 17 = .ok (.getfield 29, 3) := by decide +kernel
theorem dX5_feed_20 : decode cX5_feed 20 = .ok (.getfield 213, 3) := by decide +kernel
theorem dX5_feed_23 : decode cX5_feed 23 = .ok (.iload_n 2, 1) := by decide +kernel
theorem dX5_feed_24 : decode cX5_feed 24 = .ok (.iadd, 1) := by decide +kernel
theorem dX5_feed_25 : decode cX5_feed 25 = .ok (.bipush 120, 2) := by decide +kernel
theorem dX5_feed_27 : decode cX5_feed 27 = .ok (.if_icmp .le 10, 3) := by decide +kernel
theorem dX5_feed_30 : decode cX5_feed 30 = .ok (.aload_n 0, 1) := by decide +kernel
theorem dX5_feed_31 : decode cX5_feed 31 = .ok (.ldc 64, 2) := by decide +kernel
theorem dX5_feed_33 : decode cX5_feed 33 = .ok (.invokevirtual 56, 3) := by decide +kernel
theorem dX5_feed_36 : decode cX5_feed 36 = .ok (.ireturn, 1) := by decide +kernel
theorem dX5_feed_37 : decode cX5_feed 37 = .ok (.iload_n 2, 1) := by decide +kernel
theorem dX5_feed_38 : decode cX5_feed 38 = .ok (.iconst 1, 1) := by decide +kernel
theorem dX5_feed_39 : decode cX5_feed 39 = .ok (.isub, 1) := by decide +kernel
theorem dX5_feed_40 : decode cX5_feed 40 = .ok (.istore_n 3, 1) := by decide +kernel
theorem dX5_feed_41 : decode cX5_feed 41 = .ok (.iload_n 3, 1) := by decide +kernel
theorem dX5_feed_42 : decode cX5_feed 42 = .ok (.ifCond .lt 26, 3) := by decide +kernel
theorem dX5_feed_45 : decode cX5_feed 45 = .ok (.aload_n 0, 1) := by decide +kernel
theorem dX5_feed_46 : decode cX5_feed 46 = .ok (.getfield 29, 3) := by decide +kernel
theorem dX5_feed_49 : decode cX5_feed 49 = .ok (.iload_n 1, 1) := by decide +kernel
theorem dX5_feed_50 : decode cX5_feed 50 = .ok (.bipush 8, 2) := by decide +kernel
theorem dX5_feed_52 : decode cX5_feed 52 = .ok (.iload_n 3, 1) := by decide +kernel
theorem dX5_feed_53 : decode cX5_feed 53 = .ok (.imul, 1) := by decide +kernel
theorem dX5_feed_54 : decode cX5_feed 54 = .ok (.iushr, 1) := by decide +kernel
theorem dX5_feed_55 : decode cX5_feed 55 = .ok (.sipush 255, 3) := by decide +kernel
theorem dX5_feed_58 : decode cX5_feed 58 = .ok (.iand, 1) := by decide +kernel
theorem dX5_feed_59 : decode cX5_feed 59 = .ok (.invokevirtual 216, 3) := by decide +kernel
theorem dX5_feed_62 : decode cX5_feed 62 = .ok (.iinc 3 (-1), 3) := by decide +kernel
theorem dX5_feed_65 : decode cX5_feed 65 = .ok (.goto (-24), 3) := by decide +kernel
theorem dX5_feed_68 : decode cX5_feed 68 = .ok (.aload_n 0, 1) := by decide +kernel
theorem dX5_feed_69 : decode cX5_feed 69 = .ok (.getfield 29, 3) := by decide +kernel
theorem dX5_feed_72 : decode cX5_feed 72 = .ok (.getfield 213, 3) := by decide +kernel
theorem dX5_feed_75 : decode cX5_feed 75 = .ok (.ireturn, 1) := by decide +kernel
theorem dX5_wipe_0 : decode cX5_wipe 0 = .ok (.aload_n 0, 1) := by decide +kernel
theorem dX5_wipe_1 : decode cX5_wipe 1 = .ok (.getfield 29, 3) := by decide +kernel
theorem dX5_wipe_4 : decode cX5_wipe 4 = .ok (.getfield 213, 3) := by decide +kernel
theorem dX5_wipe_7 : decode cX5_wipe 7 = .ok (.istore_n 1, 1) := by decide +kernel
theorem dX5_wipe_8 : decode cX5_wipe 8 = .ok (.aload_n 0, 1) := by decide +kernel
theorem dX5_wipe_9 : decode cX5_wipe 9 = .ok (.getfield 29, 3) := by decide +kernel
theorem dX5_wipe_12 : decode cX5_wipe 12 = .ok (.iconst 0, 1) := by decide +kernel
theorem dX5_wipe_13 : decode cX5_wipe 13 = .ok (.putfield 213, 3) := by decide +kernel
theorem dX5_wipe_16 : decode cX5_wipe 16 = .ok (.iload_n 1, 1) := by decide +kernel
theorem dX5_wipe_17 : decode cX5_wipe 17 = .ok (.ireturn, 1) := by decide +kernel
theorem dX5_text_0 : decode cX5_text 0 = .ok (.aload_n 0, 1) := by decide +kernel
theorem dX5_text_1 : decode cX5_text 1 = .ok (.getfield 16, 3) := by decide +kernel
theorem dX5_text_4 : decode cX5_text 4 = .ok (.aload_n 0, 1) := by decide +kernel
theorem dX5_text_5 : decode cX5_text 5 = .ok (.getfield 12, 3) := by decide +kernel
theorem dX5_text_8 : decode cX5_text 8 = .ok (.invokevirtual 150, 3) := by decide +kernel
theorem dX5_text_11 : decode cX5_text 11 = .ok (.aload_n 0, 1) := by decide +kernel
theorem dX5_text_12 : decode cX5_text 12 = .ok (.getfield 29, 3) := by decide +kernel
theorem dX5_text_15 : decode cX5_text 15 = .ok (.aload_n 0, 1) := by decide +kernel
theorem dX5_text_16 : decode cX5_text 16 = .ok (.getfield 16, 3) := by decide +kernel
theorem dX5_text_19 : decode cX5_text 19 = .ok (.invokevirtual 219, 3) := by decide +kernel
theorem dX5_text_22 : decode cX5_text 22 = .ok (.istore_n 1, 1) := by decide +kernel
theorem dX5_text_23 : decode cX5_text 23 = .ok (.aload_n 0, 1) := by decide +kernel
theorem dX5_text_24 : decode cX5_text 24 = .ok (.getfield 29, 3) := by decide +kernel
theorem dX5_text_27 : decode cX5_text 27 = .ok (.iconst 0, 1) := by decide +kernel
theorem dX5_text_28 : decode cX5_text 28 = .ok (.putfield 213, 3) := by decide +kernel
theorem dX5_text_31 : decode cX5_text 31 = .ok (.iload_n 1, 1) := by decide +kernel
theorem dX5_text_32 : decode cX5_text 32 = .ok (.ifCond .lt 14, 3) := by decide +kernel
theorem dX5_text_35 : decode cX5_text 35 = .ok (.aload_n 0, 1) := by decide +kernel
theorem dX5_text_36 : decode cX5_text 36 = .ok (.getfield 12, 3) := by decide +kernel
theorem dX5_text_39 : decode cX5_text 39 = .ok (.aload_n 0, 1) := by decide +kernel
theorem dX5_text_40 : decode cX5_text 40 = .ok (.getfield 16, 3) := by decide +kernel
theorem dX5_text_43 : decode cX5_text 43 = .ok (.invokevirtual 150, 3) := by decide +kernel
theorem dX5_text_46 : decode cX5_text 46 = .ok (.iload_n 1, 1) := by decide +kernel
theorem dX5_text_47 : decode cX5_text 47 = .ok (.ireturn, 1) := by decide +kernel
theorem dX5_hold_0 : decode cX5_hold 0 = .ok (.iload_n 1, 1) := by decide +kernel
theorem dX5_hold_1 : decode cX5_hold 1 = .ok (.iconst 0, 1) := by decide +kernel
theorem dX5_hold_2 : decode cX5_hold 2 = .ok (.bipush 9, 2) := by decide +kernel
theorem dX5_hold_4 : decode cX5_hold 4 = .ok (.invokestatic 51, 3) := by decide +kernel
theorem dX5_hold_7 : decode cX5_hold 7 = .ok (.ifCond .ne 19, 3) := by decide +kernel
theorem dX5_hold_10 : decode cX5_hold 10 = .ok (.iload_n 2, 1) := by decide +kernel
theorem dX5_hold_11 : decode cX5_hold 11 = .ok (.iconst (-1), 1) := by decide +kernel
theorem dX5_hold_12 : decode cX5_hold 12 = .ok (.if_icmp .eq 21, 3) := by decide +kernel
theorem dX5_hold_15 : decode cX5_hold 15 = .ok (.aload_n 0, 1) := by decide +kernel
theorem dX5_hold_16 : decode cX5_hold 16 = .ok (.getfield 12, 3) := by decide +kernel
theorem dX5_hold_19 : decode cX5_hold 19 = .ok (.iload_n 2, 1) := by decide +kernel
theorem dX5_hold_20 : decode cX5_hold 20 = .ok (.invokevirtual 68, 3) := by decide +kernel
theorem dX5_hold_23 : decode cX5_hold 23 = .ok (.ifCond .ne 10, 3) := by decide +kernel
theorem dX5_hold_26 : decode cX5_hold 26 = .ok (.aload_n 0, 1) := by decide +kernel
theorem dX5_hold_27 : decode cX5_hold 27 = .ok (.ldc 55, 2) := by decide +kernel
theorem dX5_hold_29 : decode cX5_hold 29 = .ok (.invokevirtual 56, 3) := by decide +kernel
theorem dX5_hold_32 : decode cX5_hold 32 = .ok (.ireturn, 1) := by decide +kernel
theorem dX5_hold_33 : decode cX5_hold 33 = .ok (.aload_n 0, 1) := by decide +kernel
theorem dX5_hold_34 : decode cX5_hold 34 = .ok (.getfield 12, 3) := by decide +kernel
theorem dX5_hold_37 : decode cX5_hold 37 = .ok (.getfield 223, 3) := by decide +kernel
theorem dX5_hold_40 : decode cX5_hold 40 = .ok (.iload_n 1, 1) := by decide +kernel
theorem dX5_hold_41 : decode cX5_hold 41 = .ok (.iload_n 2, 1) := by decide +kernel
theorem dX5_hold_42 : decode cX5_hold 42 = .ok (.iastore, 1) := by decide +kernel
theorem dX5_hold_43 : decode cX5_hold 43 = .ok (.iconst 1, 1) := by decide +kernel
theorem dX5_hold_44 : decode cX5_hold 44 = .ok (.ireturn, 1) := by decide +kernel
theorem dX5_as_0 : decode cX5_as 0 = .ok (.iload_n 1, 1) := by decide +kernel
theorem dX5_as_1 : decode cX5_as 1 = .ok (.iconst 0, 1) := by decide +kernel
theorem dX5_as_2 : decode cX5_as 2 = .ok (.bipush 9, 2) := by decide +kernel
theorem dX5_as_4 : decode cX5_as 4 = .ok (.invokestatic 51, 3) := by decide +kernel
theorem dX5_as_7 : decode cX5_as 7 = .ok (.ifCond .ne 13, 3) := by decide +kernel
theorem dX5_as_10 : decode cX5_as 10 = .ok (.iload_n 2, 1) := by decide +kernel
theorem dX5_as_11 : decode cX5_as 11 = .ok (.iconst 0, 1) := by decide +kernel
theorem dX5_as_12 : decode cX5_as 12 = .ok (.bipush 6, 2) := by decide +kernel
theorem dX5_as_14 : decode cX5_as 14 = .ok (.invokestatic 51, 3) := by decide +kernel
theorem dX5_as_17 : decode cX5_as 17 = .ok (.ifCond .eq 10, 3) := by decide +kernel
theorem dX5_as_20 : decode cX5_as 20 = .ok (.aload_n 0, 1) := by decide +kernel
theorem dX5_as_21 : decode cX5_as 21 = .ok (.ldc 55, 2) := by decide +kernel
theorem dX5_as_23 : decode cX5_as 23 = .ok (.invokevirtual 56, 3) := by decide +kernel
theorem dX5_as_26 : decode cX5_as 26 = .ok (.ireturn, 1) := by decide +kernel
theorem dX5_as_27 : decode cX5_as 27 = .ok (.aload_n 0, 1) := by decide +kernel
theorem dX5_as_28 : decode cX5_as 28 = .ok (.getfield 12, 3) := by decide +kernel
theorem dX5_as_31 : decode cX5_as 31 = .ok (.getfield 223, 3) := by decide +kernel
theorem dX5_as_34 : decode cX5_as 34 = .ok (.iload_n 1, 1) := by decide +kernel
theorem dX5_as_35 : decode cX5_as 35 = .ok (.iaload, 1) := by decide +kernel
theorem dX5_as_36 : decode cX5_as 36 = .ok (.istore_n 3, 1) := by decide +kernel
theorem dX5_as_37 : decode cX5_as 37 = .ok (.aload_n 0, 1) := by decide +kernel
theorem dX5_as_38 : decode cX5_as 38 = .ok (.getfield 12, 3) := by decide +kernel
theorem dX5_as_41 : decode cX5_as 41 = .ok (.iload_n 3, 1) := by decide +kernel
theorem dX5_as_42 : decode cX5_as 42 = .ok (.invokevirtual 68, 3) := by decide +kernel
theorem dX5_as_45 : decode cX5_as 45 = .ok (.ifCond .ne 10, 3) := by decide +kernel
theorem dX5_as_48 : decode cX5_as 48 = .ok (.aload_n 0, 1) := by decide +kernel
theorem dX5_as_49 : decode cX5_as 49 = .ok (.ldc 226, 2) := by decide +kernel
theorem dX5_as_51 : decode cX5_as 51 = .ok (.invokevirtual 56, 3) := by decide +kernel
theorem dX5_as_54 : decode cX5_as 54 = .ok (.ireturn, 1) := by decide +kernel
theorem dX5_as_55 : decode cX5_as 55 = .ok (.aload_n 0, 1) := by decide +kernel
theorem dX5_as_56 : decode cX5_as 56 = .ok (.getfield 12, 3) := by decide +kernel
theorem dX5_as_59 : decode cX5_as 59 = .ok (.iload_n 3, 1) := by decide +kernel
theorem dX5_as_60 : decode cX5_as 60 = .ok (.iconst 0, 1) := by decide +kernel
theorem dX5_as_61 : decode cX5_as 61 = .ok (.invokevirtual 75, 3) := by decide +kernel
theorem dX5_as_64 : decode cX5_as 64 = .ok (.iload_n 2, 1) := by decide +kernel
theorem dX5_as_65 : decode cX5_as 65 = .ok (.invokestatic 227, 3) := by decide +kernel
theorem dX5_as_68 : decode cX5_as 68 = .ok (.ifCond .eq 7, 3) := by decide +kernel
theorem dX5_as_71 : decode cX5_as 71 = .ok (.iload_n 3, 1) := by decide +kernel
theorem dX5_as_72 : decode cX5_as 72 = .ok (.goto 9, 3) := by decide +kernel
theorem dX5_as_75 : decode cX5_as 75 = .ok (.aload_n 0, 1) := by decide +kernel
theorem dX5_as_76 : decode cX5_as 76 = .ok (.ldc 232, 2) := by decide +kernel
theorem dX5_as_78 : decode cX5_as 78 = .ok (.invokevirtual 56, 3) := by decide +kernel
theorem dX5_as_81 : decode cX5_as 81 = .ok (.ireturn, 1) := by decide +kernel
theorem dX5_sheet_0 : decode cX5_sheet 0 = .ok (.iload_n 1, 1) := by decide +kernel
theorem dX5_sheet_1 : decode cX5_sheet 1 = .ok (.invokestatic 233, 3) := by decide +kernel
theorem dX5_sheet_4 : decode cX5_sheet 4 = .ok (.ifCond .ne 25, 3) := by decide +kernel
theorem dX5_sheet_7 : decode cX5_sheet 7 = .ok (.iload_n 2, 1) := by decide +kernel
theorem dX5_sheet_8 : decode cX5_sheet 8 = .ok (.ifCond .eq 28, 3) := by decide +kernel
theorem dX5_sheet_11 : decode cX5_sheet 11 = .ok (.iload_n 2, 1) := by decide +kernel
theorem dX5_sheet_12 : decode cX5_sheet 12 = .ok (.bipush 8, 2) := by decide +kernel
theorem dX5_sheet_14 : decode cX5_sheet 14 = .ok (.if_icmp .eq 22, 3) := by decide +kernel
theorem dX5_sheet_17 : decode cX5_sheet 17 = .ok (.iload_n 2, 1) := by decide +kernel
theorem dX5_sheet_18 : decode cX5_sheet 18 = .ok (.bipush 16, 2) := by decide +kernel
theorem dX5_sheet_20 : decode cX5_sheet 20 = .ok (.if_icmp .eq 16, 3) := by decide +kernel
theorem dX5_sheet_23 : decode cX5_sheet 23 = .ok (.iload_n 2, 1) := by decide +kernel
theorem dX5_sheet_24 : decode cX5_sheet 24 = .ok (.bipush 32, 2) := by decide +kernel
theorem dX5_sheet_26 : decode cX5_sheet 26 = .ok (.if_icmp .eq 10, 3) := by decide +kernel
theorem dX5_sheet_29 : decode cX5_sheet 29 = .ok (.aload_n 0, 1) := by decide +kernel
theorem dX5_sheet_30 : decode cX5_sheet 30 = .ok (.ldc 55, 2) := by decide +kernel
theorem dX5_sheet_32 : decode cX5_sheet 32 = .ok (.invokevirtual 56, 3) := by decide +kernel
theorem dX5_sheet_35 : decode cX5_sheet 35 = .ok (.ireturn, 1) := by decide +kernel
theorem dX5_sheet_36 : decode cX5_sheet 36 = .ok (.iload_n 3, 1) := by decide +kernel
theorem dX5_sheet_37 : decode cX5_sheet 37 = .ok (.ifCond .ge 10, 3) := by decide +kernel
theorem dX5_sheet_40 : decode cX5_sheet 40 = .ok (.aload_n 0, 1) := by decide +kernel
theorem dX5_sheet_41 : decode cX5_sheet 41 = .ok (.ldc 236, 2) := by decide +kernel
theorem dX5_sheet_43 : decode cX5_sheet 43 = .ok (.invokevirtual 56, 3) := by decide +kernel
theorem dX5_sheet_46 : decode cX5_sheet 46 = .ok (.ireturn, 1) := by decide +kernel
theorem dX5_sheet_47 : decode cX5_sheet 47 = .ok (.iload_n 3, 1) := by decide +kernel
theorem dX5_sheet_48 : decode cX5_sheet 48 = .ok (.bipush 40, 2) := by decide +kernel
theorem dX5_sheet_50 : decode cX5_sheet 50 = .ok (.if_icmp .le 10, 3) := by decide +kernel
theorem dX5_sheet_53 : decode cX5_sheet 53 = .ok (.aload_n 0, 1) := by decide +kernel
theorem dX5_sheet_54 : decode cX5_sheet 54 = .ok (.ldc 55, 2) := by decide +kernel
theorem dX5_sheet_56 : decode cX5_sheet 56 = .ok (.invokevirtual 56, 3) := by decide +kernel
theorem dX5_sheet_59 : decode cX5_sheet 59 = .ok (.ireturn, 1) := by decide +kernel
theorem dX5_sheet_60 : decode cX5_sheet 60 = .ok (.aload_n 0, 1) := by decide +kernel
theorem dX5_sheet_61 : decode cX5_sheet 61 = .ok (.getfield 42, 3) := by decide +kernel
theorem dX5_sheet_64 : decode cX5_sheet 64 = .ok (.iload_n 1, 1) := by decide +kernel
theorem dX5_sheet_65 : decode cX5_sheet 65 = .ok (.aaload, 1) := by decide +kernel
theorem dX5_sheet_66 : decode cX5_sheet 66 = .ok (.iload_n 2, 1) := by decide +kernel
theorem dX5_sheet_67 : decode cX5_sheet 67 = .ok (.iload_n 3, 1) := by decide +kernel
theorem dX5_sheet_68 : decode cX5_sheet 68 = .ok (.invokevirtual 237, 3) := by decide +kernel
theorem dX5_sheet_71 : decode cX5_sheet 71 = .ok (.ireturn, 1) := by decide +kernel
theorem dX5_write_0 : decode cX5_write 0 = .ok (.aload_n 0, 1) := by decide +kernel
theorem dX5_write_1 : decode cX5_write 1 = .ok (.iload_n 1, 1) := by decide +kernel
theorem dX5_write_2 : decode cX5_write 2 = .ok (.invokevirtual 240, 3) := by decide +kernel
theorem dX5_write_5 : decode cX5_write 5 = .ok (.istore 4, 2) := by decide +kernel
theorem dX5_write_7 : decode cX5_write 7 = .ok (.iload 4, 2) := by decide +kernel
theorem dX5_write_9 : decode cX5_write 9 = .ok (.ifCond .eq 10, 3) := by decide +kernel
theorem dX5_write_12 : decode cX5_write 12 = .ok (.aload_n 0, 1) := by decide +kernel
theorem dX5_write_13 : decode cX5_write 13 = .ok (.iload 4, 2) := by decide +kernel
theorem dX5_write_15 : decode cX5_write 15 = .ok (.invokevirtual 56, 3) := by decide +kernel
theorem dX5_write_18 : decode cX5_write 18 = .ok (.ireturn, 1) := by decide +kernel
theorem dX5_write_19 : decode cX5_write 19 = .ok (.iload_n 2, 1) := by decide +kernel
theorem dX5_write_20 : decode cX5_write 20 = .ok (.iconst 0, 1) := by decide +kernel
theorem dX5_write_21 : decode cX5_write 21 = .ok (.aload_n 0, 1) := by decide +kernel
theorem dX5_write_22 : decode cX5_write 22 = .ok (.getfield 42, 3) := by decide +kernel
theorem dX5_write_25 : decode cX5_write 25 = .ok (.iload_n 1, 1) := by decide +kernel
theorem dX5_write_26 : decode cX5_write 26 = .ok (.aaload, 1) := by decide +kernel
theorem dX5_write_27 : decode cX5_write 27 = .ok (.getfield 243, 3) := by decide +kernel
theorem dX5_write_30 : decode cX5_write 30 = .ok (.iconst 1, 1) := by decide +kernel
theorem dX5_write_31 : decode cX5_write 31 = .ok (.isub, 1) := by decide +kernel
theorem dX5_write_32 : decode cX5_write 32 = .ok (.invokestatic 51, 3) := by decide +kernel
theorem dX5_write_35 : decode cX5_write 35 = .ok (.ifCond .eq 10, 3) := by decide +kernel
theorem dX5_write_38 : decode cX5_write 38 = .ok (.aload_n 0, 1) := by decide +kernel
theorem dX5_write_39 : decode cX5_write 39 = .ok (.ldc 55, 2) := by decide +kernel
theorem dX5_write_41 : decode cX5_write 41 = .ok (.invokevirtual 56, 3) := by decide +kernel
theorem dX5_write_44 : decode cX5_write 44 = .ok (.ireturn, 1) := by decide +kernel
theorem dX5_write_45 : decode cX5_write 45 = .ok (.aload_n 0, 1) := by decide +kernel
theorem dX5_write_46 : decode cX5_write 46 = .ok (.getfield 42, 3) := by decide +kernel
theorem dX5_write_49 : decode cX5_write 49 = .ok (.iload_n 1, 1) := by decide +kernel
theorem dX5_write_50 : decode cX5_write 50 = .ok (.aaload, 1) := by decide +kernel
theorem dX5_write_51 : decode cX5_write 51 = .ok (.iload_n 2, 1) := by decide +kernel
theorem dX5_write_52 : decode cX5_write 52 = .ok (.iload_n 3, 1) := by decide +kernel
theorem dX5_write_53 : decode cX5_write 53 = .ok (.invokevirtual 246, 3) := by decide +kernel
theorem dX5_write_56 : decode cX5_write 56 = .ok (.iconst 1, 1) := by decide +kernel
theorem dX5_write_57 : decode cX5_write 57 = .ok (.ireturn, 1) := by decide +kernel
theorem dX5_copy_0 : decode cX5_copy 0 = .ok (.iload_n 1, 1) := by decide +kernel
theorem dX5_copy_1 : decode cX5_copy 1 = .ok (.invokestatic 233, 3) := by decide +kernel
theorem dX5_copy_4 : decode cX5_copy 4 = .ok (.ifCond .ne 10, 3) := by decide +kernel
theorem dX5_copy_7 : decode cX5_copy 7 = .ok (.iload_n 3, 1) := by decide +kernel
theorem dX5_copy_8 : decode cX5_copy 8 = .ok (.invokestatic 233, 3) := by decide +kernel
theorem dX5_copy_11 : decode cX5_copy 11 = .ok (.ifCond .eq 10, 3) := by decide +kernel
theorem dX5_copy_14 : decode cX5_copy 14 = .ok (.aload_n 0, 1) := by decide +kernel
theorem dX5_copy_15 : decode cX5_copy 15 = .ok (.ldc 55, 2) := by decide +kernel
theorem dX5_copy_17 : decode cX5_copy 17 = .ok (.invokevirtual 56, 3) := by decide +kernel
theorem dX5_copy_20 : decode cX5_copy 20 = .ok (.ireturn, 1) := by decide +kernel
theorem dX5_copy_21 : decode cX5_copy 21 = .ok (.aload_n 0, 1) := by decide +kernel
theorem dX5_copy_22 : decode cX5_copy 22 = .ok (.getfield 42, 3) := by decide +kernel
theorem dX5_copy_25 : decode cX5_copy 25 = .ok (.iload_n 1, 1) := by decide +kernel
theorem dX5_copy_26 : decode cX5_copy 26 = .ok (.aaload, 1) := by decide +kernel
theorem dX5_copy_27 : decode cX5_copy 27 = .ok (.invokevirtual 249, 3) := by decide +kernel
theorem dX5_copy_30 : decode cX5_copy 30 = .ok (.ifCond .ne 15, 3) := by decide +kernel
theorem dX5_copy_33 : decode cX5_copy 33 = .ok (.aload_n 0, 1) := by decide +kernel
theorem dX5_copy_34 : decode cX5_copy 34 = .ok (.getfield 42, 3) := by decide +kernel
theorem dX5_copy_37 : decode cX5_copy 37 = .ok (.iload_n 3, 1) := by decide +kernel
theorem dX5_copy_38 : decode cX5_copy 38 = .ok (.aaload, 1) := by decide +kernel
theorem dX5_copy_39 : decode cX5_copy 39 = .ok (.invokevirtual 249, 3) := by decide +kernel
theorem dX5_copy_42 : decode cX5_copy 42 = .ok (.ifCond .eq 10, 3) := by decide +kernel
theorem dX5_copy_45 : decode cX5_copy 45 = .ok (.aload_n 0, 1) := by decide +kernel
theorem dX5_copy_46 : decode cX5_copy 46 = .ok (.ldc 226, 2) := by decide +kernel
theorem dX5_copy_48 : decode cX5_copy 48 = .ok (.invokevirtual 56, 3) := by decide +kernel
theorem dX5_copy_51 : decode cX5_copy 51 = .ok (.ireturn, 1) := by decide +kernel
theorem dX5_copy_52 : decode cX5_copy 52 = .ok (.aload_n 0, 1) := by decide +kernel
theorem dX5_copy_53 : decode cX5_copy 53 = .ok (.getfield 42, 3) := by decide +kernel
theorem dX5_copy_56 : decode cX5_copy 56 = .ok (.iload_n 1, 1) := by decide +kernel
theorem dX5_copy_57 : decode cX5_copy 57 = .ok (.aaload, 1) := by decide +kernel
theorem dX5_copy_58 : decode cX5_copy 58 = .ok (.getfield 252, 3) := by decide +kernel
theorem dX5_copy_61 : decode cX5_copy 61 = .ok (.aload_n 0, 1) := by decide +kernel
theorem dX5_copy_62 : decode cX5_copy 62 = .ok (.getfield 42, 3) := by decide +kernel
theorem dX5_copy_65 : decode cX5_copy 65 = .ok (.iload_n 3, 1) := by decide +kernel
theorem dX5_copy_66 : decode cX5_copy 66 = .ok (.aaload, 1) := by decide +kernel
theorem dX5_copy_67 : decode cX5_copy 67 = .ok (.getfield 252, 3) := by decide +kernel
theorem dX5_copy_70 : decode cX5_copy 70 = .ok (.if_icmp .eq 10, 3) := by decide +kernel
theorem dX5_copy_73 : decode cX5_copy 73 = .ok (.aload_n 0, 1) := by decide +kernel
theorem dX5_copy_74 : decode cX5_copy 74 = .ok (.ldc 232, 2) := by decide +kernel
theorem dX5_copy_76 : decode cX5_copy 76 = .ok (.invokevirtual 56, 3) := by decide +kernel
theorem dX5_copy_79 : decode cX5_copy 79 = .ok (.ireturn, 1) := by decide +kernel
theorem dX5_copy_80 : decode cX5_copy 80 = .ok (.aload_n 0, 1) := by decide +kernel
theorem dX5_copy_81 : decode cX5_copy 81 = .ok (.getfield 42, 3) := by decide +kernel
theorem dX5_copy_84 : decode cX5_copy 84 = .ok (.iload_n 1, 1) := by decide +kernel
theorem dX5_copy_85 : decode cX5_copy 85 = .ok (.aaload, 1) := by decide +kernel
theorem dX5_copy_86 : decode cX5_copy 86 = .ok (.iload_n 2, 1) := by decide +kernel
theorem dX5_copy_87 : decode cX5_copy 87 = .ok (.iload 5, 2) := by decide +kernel
theorem dX5_copy_89 : decode cX5_copy 89 = .ok (.invokevirtual 255, 3) := by decide +kernel
theorem dX5_copy_92 : decode cX5_copy 92 = .ok (.ifCond .eq 19, 3) := by decide +kernel
theorem dX5_copy_95 : decode cX5_copy 95 = .ok (.aload_n 0, 1) := by decide +kernel
theorem dX5_copy_96 : decode cX5_copy 96 = .ok (.getfield 42, 3) := by decide +kernel
theorem dX5_copy_99 : decode cX5_copy 99 = .ok (.iload_n 3, 1) := by decide +kernel
theorem dX5_copy_100 : decode cX5_copy 100 = .ok (.aaload, 1) := by decide +kernel
theorem dX5_copy_101 : decode cX5_copy 101 = .ok (.iload 4, 2) := by decide +kernel
theorem dX5_copy_103 : decode cX5_copy 103 = .ok (.iload 5, 2) := by decide +kernel
theorem dX5_copy_105 : decode cX5_copy 105 = .ok (.invokevirtual 255, 3) := by decide +kernel
theorem dX5_copy_108 : decode cX5_copy 108 = .ok (.ifCond .ne 10, 3) := by decide +kernel
theorem dX5_copy_111 : decode cX5_copy 111 = .ok (.aload_n 0, 1) := by decide +kernel
theorem dX5_copy_112 : decode cX5_copy 112 = .ok (.ldc 55, 2) := by decide +kernel
theorem dX5_copy_114 : decode cX5_copy 114 = .ok (.invokevirtual 56, 3) := by decide +kernel
theorem dX5_copy_117 : decode cX5_copy 117 = .ok (.ireturn, 1) := by decide +kernel
theorem dX5_copy_118 : decode cX5_copy 118 = .ok (.aload_n 0, 1) := by decide +kernel
theorem dX5_copy_119 : decode cX5_copy 119 = .ok (.getfield 42, 3) := by decide +kernel
theorem dX5_copy_122 : decode cX5_copy 122 = .ok (.iload_n 1, 1) := by decide +kernel
theorem dX5_copy_123 : decode cX5_copy 123 = .ok (.aaload, 1) := by decide +kernel
theorem dX5_copy_124 : decode cX5_copy 124 = .ok (.getfield 258, 3) := by decide +kernel
theorem dX5_copy_127 : decode cX5_copy 127 = .ok (.iload_n 2, 1) := by decide +kernel
theorem dX5_copy_128 : decode cX5_copy 128 = .ok (.aload_n 0, 1) := by decide +kernel
theorem dX5_copy_129 : decode cX5_copy 129 = .ok (.getfield 42, 3) := by decide +kernel
theorem dX5_copy_132 : decode cX5_copy 132 = .ok (.iload_n 3, 1) := by decide +kernel
theorem dX5_copy_133 : decode cX5_copy 133 = .ok (.aaload, 1) := by decide +kernel
theorem dX5_copy_134 : decode cX5_copy 134 = .ok (.getfield 258, 3) := by decide +kernel
theorem dX5_copy_137 : decode cX5_copy 137 = .ok (.iload 4, 2) := by decide +kernel
theorem dX5_copy_139 : decode cX5_copy 139 = .ok (.iload 5, 2) := by decide +kernel
theorem dX5_copy_141 : decode cX5_copy 141 = .ok (.invokestatic 261, 3) := by decide +kernel
theorem dX5_copy_144 : decode cX5_copy 144 = .ok (.iload 5, 2) := by decide +kernel
theorem dX5_copy_146 : decode cX5_copy 146 = .ok (.ireturn, 1) := by decide +kernel
theorem dX5_load_0 : decode cX5_load 0 = .ok (.aload_n 0, 1) := by decide +kernel
theorem dX5_load_1 : decode cX5_load 1 = .ok (.iload_n 1, 1) := by decide +kernel
theorem dX5_load_2 : decode cX5_load 2 = .ok (.invokevirtual 240, 3) := by decide +kernel
theorem dX5_load_5 : decode cX5_load 5 = .ok (.istore_n 2, 1) := by decide +kernel
theorem dX5_load_6 : decode cX5_load 6 = .ok (.iload_n 2, 1) := by decide +kernel
theorem dX5_load_7 : decode cX5_load 7 = .ok (.ifCond .eq 9, 3) := by decide +kernel
theorem dX5_load_10 : decode cX5_load 10 = .ok (.aload_n 0, 1) := by decide +kernel
theorem dX5_load_11 : decode cX5_load 11 = .ok (.iload_n 2, 1) := by decide +kernel
theorem dX5_load_12 : decode cX5_load 12 = .ok (.invokevirtual 56, 3) := by decide +kernel
theorem dX5_load_15 : decode cX5_load 15 = .ok (.ireturn, 1) := by decide +kernel
theorem dX5_load_16 : decode cX5_load 16 = .ok (.aload_n 0, 1) := by decide +kernel
theorem dX5_load_17 : decode cX5_load 17 = .ok (.getfield 42, 3) := by decide +kernel
theorem dX5_load_20 : decode cX5_load 20 = .ok (.iload_n 1, 1) := by decide +kernel
theorem dX5_load_21 : decode cX5_load 21 = .ok (.aaload, 1) := by decide +kernel
theorem dX5_load_22 : decode cX5_load 22 = .ok (.astore_n 3, 1) := by decide +kernel
theorem dX5_load_23 : decode cX5_load 23 = .ok (.iconst 0, 1) := by decide +kernel
theorem dX5_load_24 : decode cX5_load 24 = .ok (.istore 4, 2) := by decide +kernel
theorem dX5_load_26 : decode cX5_load 26 = .ok (.iload 4, 2) := by decide +kernel
theorem dX5_load_28 : decode cX5_load 28 = .ok (.aload_n 3, 1) := by decide +kernel
theorem dX5_load_29 : decode cX5_load 29 = .ok (.getfield 243, 3) := by decide +kernel
theorem dX5_load_32 : decode cX5_load 32 = .ok (.if_icmp .ge 61, 3) := by decide +kernel
theorem dX5_load_35 : decode cX5_load 35 = .ok (.aload_n 0, 1) := by decide +kernel
theorem dX5_load_36 : decode cX5_load 36 = .ok (.getfield 12, 3) := by decide +kernel
theorem dX5_load_39 : decode cX5_load 39 = .ok (.iload 4, 2) := by decide +kernel
theorem dX5_load_41 : decode cX5_load 41 = .ok (.invokevirtual 68, 3) := by decide +kernel
theorem dX5_load_44 : decode cX5_load 44 = .ok (.ifCond .eq 49, 3) := by decide +kernel
theorem dX5_load_47 : decode cX5_load 47 = .ok (.aload_n 3, 1) := by decide +kernel
theorem dX5_load_48 : decode cX5_load 48 = .ok (.getfield 258, 3) := by decide +kernel
theorem dX5_load_51 : decode cX5_load 51 = .ok (.iload 4, 2) := by decide +kernel
theorem dX5_load_53 : decode cX5_load 53 = .ok (.iaload, 1) := by decide +kernel
theorem dX5_load_54 : decode cX5_load 54 = .ok (.bipush (-9), 2) := by decide +kernel
theorem dX5_load_56 : decode cX5_load 56 = .ok (.bipush 9, 2) := by decide +kernel
theorem dX5_load_58 : decode cX5_load 58 = .ok (.invokestatic 51, 3) := by decide +kernel
theorem dX5_load_61 : decode cX5_load 61 = .ok (.ifCond .ne 32, 3) := by decide +kernel
theorem dX5_load_64 : decode cX5_load 64 = .ok (.aload_n 0, 1) := by decide +kernel
theorem dX5_load_65 : decode cX5_load 65 = .ok (.getfield 12, 3) := by decide +kernel
theorem dX5_load_68 : decode cX5_load 68 = .ok (.iload 4, 2) := by decide +kernel
theorem dX5_load_70 : decode cX5_load 70 = .ok (.aload_n 0, 1) := by decide +kernel
theorem dX5_load_71 : decode cX5_load 71 = .ok (.getfield 12, 3) := by decide +kernel
theorem dX5_load_74 : decode cX5_load 74 = .ok (.getfield 122, 3) := by decide +kernel
theorem dX5_load_77 : decode cX5_load 77 = .ok (.aload_n 3, 1) := by decide +kernel
theorem dX5_load_78 : decode cX5_load 78 = .ok (.getfield 258, 3) := by decide +kernel
theorem dX5_load_81 : decode cX5_load 81 = .ok (.iload 4, 2) := by decide +kernel
theorem dX5_load_83 : decode cX5_load 83 = .ok (.iaload, 1) := by decide +kernel
theorem dX5_load_84 : decode cX5_load 84 = .ok (.invokevirtual 267, 3) := by decide +kernel
theorem dX5_load_87 : decode cX5_load 87 = .ok (.iinc 4 1, 3) := by decide +kernel
theorem dX5_load_90 : decode cX5_load 90 = .ok (.goto (-64), 3) := by decide +kernel
theorem dX5_load_93 : decode cX5_load 93 = .ok (.iload 4, 2) := by decide +kernel
theorem dX5_load_95 : decode cX5_load 95 = .ok (.ireturn, 1) := by decide +kernel
theorem dX5_judge_0 : decode cX5_judge 0 = .ok (.aload_n 0, 1) := by decide +kernel
theorem dX5_judge_1 : decode cX5_judge 1 = .ok (.iload_n 1, 1) := by decide +kernel
theorem dX5_judge_2 : decode cX5_judge 2 = .ok (.invokevirtual 240, 3) := by decide +kernel
theorem dX5_judge_5 : decode cX5_judge 5 = .ok (.istore_n 2, 1) := by decide +kernel
theorem dX5_judge_6 : decode cX5_judge 6 = .ok (.iload_n 2, 1) := by decide +kernel
theorem dX5_judge_7 : decode cX5_judge 7 = .ok (.ifCond .eq 9, 3) := by decide +kernel
theorem dX5_judge_10 : decode cX5_judge 10 = .ok (.aload_n 0, 1) := by decide +kernel
theorem dX5_judge_11 : decode cX5_judge 11 = .ok (.iload_n 2, 1) := by decide +kernel
theorem dX5_judge_12 : decode cX5_judge 12 = .ok (.invokevirtual 56, 3) := by decide +kernel
theorem dX5_judge_15 : decode cX5_judge 15 = .ok (.ireturn, 1) := by decide +kernel
theorem dX5_judge_16 : decode cX5_judge 16 = .ok (.aload_n 0, 1) := by decide +kernel
theorem dX5_judge_17 : decode cX5_judge 17 = .ok (.getfield 42, 3) := by decide +kernel
theorem dX5_judge_20 : decode cX5_judge 20 = .ok (.iload_n 1, 1) := by decide +kernel
theorem dX5_judge_21 : decode cX5_judge 21 = .ok (.aaload, 1) := by decide +kernel
theorem dX5_judge_22 : decode cX5_judge 22 = .ok (.astore_n 3, 1) := by decide +kernel
theorem dX5_judge_23 : decode cX5_judge 23 = .ok (.iconst 0, 1) := by decide +kernel
theorem dX5_judge_24 : decode cX5_judge 24 = .ok (.istore 4, 2) := by decide +kernel
theorem dX5_judge_26 : decode cX5_judge 26 = .ok (.iload 4, 2) := by decide +kernel
theorem dX5_judge_28 : decode cX5_judge 28 = .ok (.aload_n 3, 1) := by decide +kernel
theorem dX5_judge_29 : decode cX5_judge 29 = .ok (.getfield 243, 3) := by decide +kernel
theorem dX5_judge_32 : decode cX5_judge 32 = .ok (.if_icmp .ge 52, 3) := by decide +kernel
theorem dX5_judge_35 : decode cX5_judge 35 = .ok (.aload_n 0, 1) := by decide +kernel
theorem dX5_judge_36 : decode cX5_judge 36 = .ok (.getfield 12, 3) := by decide +kernel
theorem dX5_judge_39 : decode cX5_judge 39 = .ok (.iload 4, 2) := by decide +kernel
theorem dX5_judge_41 : decode cX5_judge 41 = .ok (.invokevirtual 68, 3) := by decide +kernel
theorem dX5_judge_44 : decode cX5_judge 44 = .ok (.ifCond .eq 29, 3) := by decide +kernel
theorem dX5_judge_47 : decode cX5_judge 47 = .ok (.aload_n 0, 1) := by decide +kernel
theorem dX5_judge_48 : decode cX5_judge 48 = .ok (.getfield 12, 3) := by decide +kernel
theorem dX5_judge_51 : decode cX5_judge 51 = .ok (.iload 4, 2) := by decide +kernel
theorem dX5_judge_53 : decode cX5_judge 53 = .ok (.aload_n 0, 1) := by decide +kernel
theorem dX5_judge_54 : decode cX5_judge 54 = .ok (.getfield 12, 3) := by decide +kernel
theorem dX5_judge_57 : decode cX5_judge 57 = .ok (.getfield 122, 3) := by decide +kernel
theorem dX5_judge_60 : decode cX5_judge 60 = .ok (.invokevirtual 154, 3) := by decide +kernel
theorem dX5_judge_63 : decode cX5_judge 63 = .ok (.aload_n 3, 1) := by decide +kernel
theorem dX5_judge_64 : decode cX5_judge 64 = .ok (.getfield 258, 3) := by decide +kernel
theorem dX5_judge_67 : decode cX5_judge 67 = .ok (.iload 4, 2) := by decide +kernel
theorem dX5_judge_69 : decode cX5_judge 69 = .ok (.iaload, 1) := by decide +kernel
theorem dX5_judge_70 : decode cX5_judge 70 = .ok (.if_icmp .eq 8, 3) := by decide +kernel
theorem dX5_judge_73 : decode cX5_judge 73 = .ok (.iconst 1, 1) := by decide +kernel
theorem dX5_judge_74 : decode cX5_judge 74 = .ok (.iload 4, 2) := by decide +kernel
theorem dX5_judge_76 : decode cX5_judge 76 = .ok (.iadd, 1) := by decide +kernel
theorem dX5_judge_77 : decode cX5_judge 77 = .ok (.ireturn, 1) := by decide +kernel
theorem dX5_judge_78 : decode cX5_judge 78 = .ok (.iinc 4 1, 3) := by decide +kernel
theorem dX5_judge_81 : decode cX5_judge 81 = .ok (.goto (-55), 3) := by decide +kernel
theorem dX5_judge_84 : decode cX5_judge 84 = .ok (.iconst 0, 1) := by decide +kernel
theorem dX5_judge_85 : decode cX5_judge 85 = .ok (.ireturn, 1) := by decide +kernel
theorem dX5_image_0 : decode cX5_image 0 = .ok (.aload_n 0, 1) := by decide +kernel
theorem dX5_image_1 : decode cX5_image 1 = .ok (.getfield 19, 3) := by decide +kernel
theorem dX5_image_4 : decode cX5_image 4 = .ok (.aload_n 0, 1) := by decide +kernel
theorem dX5_image_5 : decode cX5_image 5 = .ok (.getfield 12, 3) := by decide +kernel
theorem dX5_image_8 : decode cX5_image 8 = .ok (.invokevirtual 150, 3) := by decide +kernel
theorem dX5_image_11 : decode cX5_image 11 = .ok (.aload_n 0, 1) := by decide +kernel
theorem dX5_image_12 : decode cX5_image 12 = .ok (.iconst 1, 1) := by decide +kernel
theorem dX5_image_13 : decode cX5_image 13 = .ok (.putfield 22, 3) := by decide +kernel
theorem dX5_image_16 : decode cX5_image 16 = .ok (.iconst 1, 1) := by decide +kernel
theorem dX5_image_17 : decode cX5_image 17 = .ok (.ireturn, 1) := by decide +kernel
theorem dX5_undo_0 : decode cX5_undo 0 = .ok (.aload_n 0, 1) := by decide +kernel
theorem dX5_undo_1 : decode cX5_undo 1 = .ok (.getfield 22, 3) := by decide +kernel
theorem dX5_undo_4 : decode cX5_undo 4 = .ok (.ifCond .ne 10, 3) := by decide +kernel
theorem dX5_undo_7 : decode cX5_undo 7 = .ok (.aload_n 0, 1) := by decide +kernel
theorem dX5_undo_8 : decode cX5_undo 8 = .ok (.ldc 160, 2) := by decide +kernel
theorem dX5_undo_10 : decode cX5_undo 10 = .ok (.invokevirtual 56, 3) := by decide +kernel
theorem dX5_undo_13 : decode cX5_undo 13 = .ok (.ireturn, 1) := by decide +kernel
theorem dX5_undo_14 : decode cX5_undo 14 = .ok (.aload_n 0, 1) := by decide +kernel
theorem dX5_undo_15 : decode cX5_undo 15 = .ok (.getfield 12, 3) := by decide +kernel
theorem dX5_undo_18 : decode cX5_undo 18 = .ok (.aload_n 0, 1) := by decide +kernel
theorem dX5_undo_19 : decode cX5_undo 19 = .ok (.getfield 19, 3) := by decide +kernel
theorem dX5_undo_22 : decode cX5_undo 22 = .ok (.invokevirtual 150, 3) := by decide +kernel
theorem dX5_undo_25 : decode cX5_undo 25 = .ok (.aload_n 0, 1) := by decide +kernel
theorem dX5_undo_26 : decode cX5_undo 26 = .ok (.getfield 12, 3) := by decide +kernel
theorem dX5_undo_29 : decode cX5_undo 29 = .ok (.getfield 126, 3) := by decide +kernel
theorem dX5_undo_32 : decode cX5_undo 32 = .ok (.ireturn, 1) := by decide +kernel
theorem dX5_tear_0 : decode cX5_tear 0 = .ok (.aload_n 0, 1) := by decide +kernel
theorem dX5_tear_1 : decode cX5_tear 1 = .ok (.getfield 22, 3) := by decide +kernel
theorem dX5_tear_4 : decode cX5_tear 4 = .ok (.ifCond .eq 7, 3) := by decide +kernel
theorem dX5_tear_7 : decode cX5_tear 7 = .ok (.iconst 1, 1) := by decide +kernel
theorem dX5_tear_8 : decode cX5_tear 8 = .ok (.goto 4, 3) := by decide +kernel
theorem dX5_tear_11 : decode cX5_tear 11 = .ok (.iconst 0, 1) := by decide +kernel
theorem dX5_tear_12 : decode cX5_tear 12 = .ok (.istore_n 1, 1) := by decide +kernel
theorem dX5_tear_13 : decode cX5_tear 13 = .ok (.aload_n 0, 1) := by decide +kernel
theorem dX5_tear_14 : decode cX5_tear 14 = .ok (.iconst 0, 1) := by decide +kernel
theorem dX5_tear_15 : decode cX5_tear 15 = .ok (.putfield 22, 3) := by decide +kernel
theorem dX5_tear_18 : decode cX5_tear 18 = .ok (.iload_n 1, 1) := by decide +kernel
theorem dX5_tear_19 : decode cX5_tear 19 = .ok (.ireturn, 1) := by decide +kernel
theorem dX5_count_0 : decode cX5_count 0 = .ok (.iload_n 1, 1) := by decide +kernel
theorem dX5_count_1 : decode cX5_count 1 = .ok (.tableswitch 111 0 7 #[47, 55, 63, 71, 79, 87, 95, 103], 47) := by decide +kernel
theorem dX5_count_48 : decode cX5_count 48 = .ok (.aload_n 0, 1) := by decide +kernel
theorem dX5_count_49 : decode cX5_count 49 = .ok (.getfield 12, 3) := by decide +kernel
theorem dX5_count_52 : decode cX5_count 52 = .ok (.getfield 126, 3) := by decide +kernel
theorem dX5_count_55 : decode cX5_count 55 = .ok (.ireturn, 1) := by decide +kernel
theorem dX5_count_56 : decode cX5_count 56 = .ok (.aload_n 0, 1) := by decide +kernel
theorem dX5_count_57 : decode cX5_count 57 = .ok (.getfield 12, 3) := by decide +kernel
theorem dX5_count_60 : decode cX5_count 60 = .ok (.getfield 169, 3) := by decide +kernel
theorem dX5_count_63 : decode cX5_count 63 = .ok (.ireturn, 1) := by decide +kernel
theorem dX5_count_64 : decode cX5_count 64 = .ok (.aload_n 0, 1) := by decide +kernel
theorem dX5_count_65 : decode cX5_count 65 = .ok (.getfield 12, 3) := by decide +kernel
theorem dX5_count_68 : decode cX5_count 68 = .ok (.getfield 122, 3) := by decide +kernel
theorem dX5_count_71 : decode cX5_count 71 = .ok (.ireturn, 1) := by decide +kernel
theorem dX5_count_72 : decode cX5_count 72 = .ok (.aload_n 0, 1) := by decide +kernel
theorem dX5_count_73 : decode cX5_count 73 = .ok (.getfield 12, 3) := by decide +kernel
theorem dX5_count_76 : decode cX5_count 76 = .ok (.getfield 135, 3) := by decide +kernel
theorem dX5_count_79 : decode cX5_count 79 = .ok (.ireturn, 1) := by decide +kernel
theorem dX5_count_80 : decode cX5_count 80 = .ok (.aload_n 0, 1) := by decide +kernel
theorem dX5_count_81 : decode cX5_count 81 = .ok (.getfield 12, 3) := by decide +kernel
theorem dX5_count_84 : decode cX5_count 84 = .ok (.invokevirtual 147, 3) := by decide +kernel
theorem dX5_count_87 : decode cX5_count 87 = .ok (.ireturn, 1) := by decide +kernel
theorem dX5_count_88 : decode cX5_count 88 = .ok (.aload_n 0, 1) := by decide +kernel
theorem dX5_count_89 : decode cX5_count 89 = .ok (.getfield 29, 3) := by decide +kernel
theorem dX5_count_92 : decode cX5_count 92 = .ok (.getfield 213, 3) := by decide +kernel
theorem dX5_count_95 : decode cX5_count 95 = .ok (.ireturn, 1) := by decide +kernel
theorem dX5_count_96 : decode cX5_count 96 = .ok (.aload_n 0, 1) := by decide +kernel
theorem dX5_count_97 : decode cX5_count 97 = .ok (.getfield 12, 3) := by decide +kernel
theorem dX5_count_100 : decode cX5_count 100 = .ok (.getfield 210, 3) := by decide +kernel
theorem dX5_count_103 : decode cX5_count 103 = .ok (.ireturn, 1) := by decide +kernel
theorem dX5_count_104 : decode cX5_count 104 = .ok (.aload_n 0, 1) := by decide +kernel
theorem dX5_count_105 : decode cX5_count 105 = .ok (.getfield 12, 3) := by decide +kernel
theorem dX5_count_108 : decode cX5_count 108 = .ok (.invokevirtual 270, 3) := by decide +kernel
theorem dX5_count_111 : decode cX5_count 111 = .ok (.ireturn, 1) := by decide +kernel
theorem dX5_count_112 : decode cX5_count 112 = .ok (.aload_n 0, 1) := by decide +kernel
theorem dX5_count_113 : decode cX5_count 113 = .ok (.ldc 55, 2) := by decide +kernel
theorem dX5_count_115 : decode cX5_count 115 = .ok (.invokevirtual 56, 3) := by decide +kernel
theorem dX5_count_118 : decode cX5_count 118 = .ok (.ireturn, 1) := by decide +kernel
theorem dX5_status_0 : decode cX5_status 0 = .ok (.iload_n 1, 1) := by decide +kernel
theorem dX5_status_1 : decode cX5_status 1 = .ok (.iconst (-1), 1) := by decide +kernel
theorem dX5_status_2 : decode cX5_status 2 = .ok (.bipush 6, 2) := by decide +kernel
theorem dX5_status_4 : decode cX5_status 4 = .ok (.invokestatic 51, 3) := by decide +kernel
theorem dX5_status_7 : decode cX5_status 7 = .ok (.ifCond .eq 10, 3) := by decide +kernel
theorem dX5_status_10 : decode cX5_status 10 = .ok (.aload_n 0, 1) := by decide +kernel
theorem dX5_status_11 : decode cX5_status 11 = .ok (.ldc 55, 2) := by decide +kernel
theorem dX5_status_13 : decode cX5_status 13 = .ok (.invokevirtual 56, 3) := by decide +kernel
theorem dX5_status_16 : decode cX5_status 16 = .ok (.ireturn, 1) := by decide +kernel
theorem dX5_status_17 : decode cX5_status 17 = .ok (.iload_n 1, 1) := by decide +kernel
theorem dX5_status_18 : decode cX5_status 18 = .ok (.ifCond .lt 10, 3) := by decide +kernel
theorem dX5_status_21 : decode cX5_status 21 = .ok (.aload_n 0, 1) := by decide +kernel
theorem dX5_status_22 : decode cX5_status 22 = .ok (.getfield 46, 3) := by decide +kernel
theorem dX5_status_25 : decode cX5_status 25 = .ok (.iload_n 1, 1) := by decide +kernel
theorem dX5_status_26 : decode cX5_status 26 = .ok (.iaload, 1) := by decide +kernel
theorem dX5_status_27 : decode cX5_status 27 = .ok (.ireturn, 1) := by decide +kernel
theorem dX5_status_28 : decode cX5_status 28 = .ok (.iconst 0, 1) := by decide +kernel
theorem dX5_status_29 : decode cX5_status 29 = .ok (.istore_n 2, 1) := by decide +kernel
theorem dX5_status_30 : decode cX5_status 30 = .ok (.iconst 0, 1) := by decide +kernel
theorem dX5_status_31 : decode cX5_status 31 = .ok (.istore_n 3, 1) := by decide +kernel
theorem dX5_status_32 : decode cX5_status 32 = .ok (.iload_n 3, 1) := by decide +kernel
theorem dX5_status_33 : decode cX5_status 33 = .ok (.bipush 7, 2) := by decide +kernel
theorem dX5_status_35 : decode cX5_status 35 = .ok (.if_icmp .ge 18, 3) := by decide +kernel
theorem dX5_status_38 : decode cX5_status 38 = .ok (.iload_n 2, 1) := by decide +kernel
theorem dX5_status_39 : decode cX5_status 39 = .ok (.aload_n 0, 1) := by decide +kernel
theorem dX5_status_40 : decode cX5_status 40 = .ok (.getfield 46, 3) := by decide +kernel
theorem dX5_status_43 : decode cX5_status 43 = .ok (.iload_n 3, 1) := by decide +kernel
theorem dX5_status_44 : decode cX5_status 44 = .ok (.iaload, 1) := by decide +kernel
theorem dX5_status_45 : decode cX5_status 45 = .ok (.iadd, 1) := by decide +kernel
theorem dX5_status_46 : decode cX5_status 46 = .ok (.istore_n 2, 1) := by decide +kernel
theorem dX5_status_47 : decode cX5_status 47 = .ok (.iinc 3 1, 3) := by decide +kernel
theorem dX5_status_50 : decode cX5_status 50 = .ok (.goto (-18), 3) := by decide +kernel
theorem dX5_status_53 : decode cX5_status 53 = .ok (.iload_n 2, 1) := by decide +kernel
theorem dX5_status_54 : decode cX5_status 54 = .ok (.ireturn, 1) := by decide +kernel
theorem dX5_found_0 : decode cX5_found 0 = .ok (.ldc 55, 2) := by decide +kernel
theorem dX5_found_2 : decode cX5_found 2 = .ok (.iload_n 1, 1) := by decide +kernel
theorem dX5_found_3 : decode cX5_found 3 = .ok (.isub, 1) := by decide +kernel
theorem dX5_found_4 : decode cX5_found 4 = .ok (.istore_n 2, 1) := by decide +kernel
theorem dX5_found_5 : decode cX5_found 5 = .ok (.iload_n 2, 1) := by decide +kernel
theorem dX5_found_6 : decode cX5_found 6 = .ok (.ifCond .lt 19, 3) := by decide +kernel
theorem dX5_found_9 : decode cX5_found 9 = .ok (.iload_n 2, 1) := by decide +kernel
theorem dX5_found_10 : decode cX5_found 10 = .ok (.bipush 7, 2) := by decide +kernel
theorem dX5_found_12 : decode cX5_found 12 = .ok (.if_icmp .ge 13, 3) := by decide +kernel
theorem dX5_found_15 : decode cX5_found 15 = .ok (.aload_n 0, 1) := by decide +kernel
theorem dX5_found_16 : decode cX5_found 16 = .ok (.getfield 46, 3) := by decide +kernel
theorem dX5_found_19 : decode cX5_found 19 = .ok (.iload_n 2, 1) := by decide +kernel
theorem dX5_found_20 : decode cX5_found 20 = .ok (.dup2, 1) := by decide +kernel
theorem dX5_found_21 : decode cX5_found 21 = .ok (.iaload, 1) := by decide +kernel
theorem dX5_found_22 : decode cX5_found 22 = .ok (.iconst 1, 1) := by decide +kernel
theorem dX5_found_23 : decode cX5_found 23 = .ok (.iadd, 1) := by decide +kernel
theorem dX5_found_24 : decode cX5_found 24 = .ok (.iastore, 1) := by decide +kernel
theorem dX5_found_25 : decode cX5_found 25 = .ok (.iload_n 1, 1) := by decide +kernel
theorem dX5_found_26 : decode cX5_found 26 = .ok (.ireturn, 1) := by decide +kernel
theorem dX5_isOutside_0 : decode cX5_isOutside 0 = .ok (.iload_n 0, 1) := by decide +kernel
theorem dX5_isOutside_1 : decode cX5_isOutside 1 = .ok (.iload_n 1, 1) := by decide +kernel
theorem dX5_isOutside_2 : decode cX5_isOutside 2 = .ok (.if_icmp .lt 8, 3) := by decide +kernel
theorem dX5_isOutside_5 : decode cX5_isOutside 5 = .ok (.iload_n 0, 1) := by decide +kernel
theorem dX5_isOutside_6 : decode cX5_isOutside 6 = .ok (.iload_n 2, 1) := by decide +kernel
theorem dX5_isOutside_7 : decode cX5_isOutside 7 = .ok (.if_icmp .le 7, 3) := by decide +kernel
theorem dX5_isOutside_10 : decode cX5_isOutside 10 = .ok (.iconst 1, 1) := by decide +kernel
theorem dX5_isOutside_11 : decode cX5_isOutside 11 = .ok (.goto 4, 3) := by decide +kernel
theorem dX5_isOutside_14 : decode cX5_isOutside 14 = .ok (.iconst 0, 1) := by decide +kernel
theorem dX5_isOutside_15 : decode cX5_isOutside 15 = .ok (.ireturn, 1) := by decide +kernel
theorem dX5_isNoSubject_0 : decode cX5_isNoSubject 0 = .ok (.iload_n 0, 1) := by decide +kernel
theorem dX5_isNoSubject_1 : decode cX5_isNoSubject 1 = .ok (.iconst 0, 1) := by decide +kernel
theorem dX5_isNoSubject_2 : decode cX5_isNoSubject 2 = .ok (.iconst 5, 1) := by decide +kernel
theorem dX5_isNoSubject_3 : decode cX5_isNoSubject 3 = .ok (.invokestatic 51, 3) := by decide +kernel
theorem dX5_isNoSubject_6 : decode cX5_isNoSubject 6 = .ok (.ireturn, 1) := by decide +kernel
theorem dX5_isNoSheet_0 : decode cX5_isNoSheet 0 = .ok (.iload_n 0, 1) := by decide +kernel
theorem dX5_isNoSheet_1 : decode cX5_isNoSheet 1 = .ok (.iconst 0, 1) := by decide +kernel
theorem dX5_isNoSheet_2 : decode cX5_isNoSheet 2 = .ok (.iconst 3, 1) := by decide +kernel
theorem dX5_isNoSheet_3 : decode cX5_isNoSheet 3 = .ok (.invokestatic 51, 3) := by decide +kernel
theorem dX5_isNoSheet_6 : decode cX5_isNoSheet 6 = .ok (.ireturn, 1) := by decide +kernel
theorem dX5_isNoPair_0 : decode cX5_isNoPair 0 = .ok (.aload_n 0, 1) := by decide +kernel
theorem dX5_isNoPair_1 : decode cX5_isNoPair 1 = .ok (.getfield 12, 3) := by decide +kernel
theorem dX5_isNoPair_4 : decode cX5_isNoPair 4 = .ok (.iload_n 1, 1) := by decide +kernel
theorem dX5_isNoPair_5 : decode cX5_isNoPair 5 = .ok (.invokevirtual 68, 3) := by decide +kernel
theorem dX5_isNoPair_8 : decode cX5_isNoPair 8 = .ok (.ifCond .eq 19, 3) := by decide +kernel
theorem dX5_isNoPair_11 : decode cX5_isNoPair 11 = .ok (.aload_n 0, 1) := by decide +kernel
theorem dX5_isNoPair_12 : decode cX5_isNoPair 12 = .ok (.getfield 12, 3) := by decide +kernel
theorem dX5_isNoPair_15 : decode cX5_isNoPair 15 = .ok (.iload_n 2, 1) := by decide +kernel
theorem dX5_isNoPair_16 : decode cX5_isNoPair 16 = .ok (.invokevirtual 68, 3) := by decide +kernel
theorem dX5_isNoPair_19 : decode cX5_isNoPair 19 = .ok (.ifCond .eq 8, 3) := by decide +kernel
theorem dX5_isNoPair_22 : decode cX5_isNoPair 22 = .ok (.iload_n 1, 1) := by decide +kernel
theorem dX5_isNoPair_23 : decode cX5_isNoPair 23 = .ok (.iload_n 2, 1) := by decide +kernel
theorem dX5_isNoPair_24 : decode cX5_isNoPair 24 = .ok (.if_icmp .ne 7, 3) := by decide +kernel
theorem dX5_isNoPair_27 : decode cX5_isNoPair 27 = .ok (.iconst 1, 1) := by decide +kernel
theorem dX5_isNoPair_28 : decode cX5_isNoPair 28 = .ok (.goto 4, 3) := by decide +kernel
theorem dX5_isNoPair_31 : decode cX5_isNoPair 31 = .ok (.iconst 0, 1) := by decide +kernel
theorem dX5_isNoPair_32 : decode cX5_isNoPair 32 = .ok (.ireturn, 1) := by decide +kernel
theorem dX5_isWrongTrait_0 : decode cX5_isWrongTrait 0 = .ok (.iload_n 1, 1) := by decide +kernel
theorem dX5_isWrongTrait_1 : decode cX5_isWrongTrait 1 = .ok (.iload_n 0, 1) := by decide +kernel
theorem dX5_isWrongTrait_2 : decode cX5_isWrongTrait 2 = .ok (.invokestatic 273, 3) := by decide +kernel
theorem dX5_isWrongTrait_5 : decode cX5_isWrongTrait 5 = .ok (.iload_n 0, 1) := by decide +kernel
theorem dX5_isWrongTrait_6 : decode cX5_isWrongTrait 6 = .ok (.invokestatic 276, 3) := by decide +kernel
theorem dX5_isWrongTrait_9 : decode cX5_isWrongTrait 9 = .ok (.invokestatic 51, 3) := by decide +kernel
theorem dX5_isWrongTrait_12 : decode cX5_isWrongTrait 12 = .ok (.ireturn, 1) := by decide +kernel
theorem dX5_leastTrait_0 : decode cX5_leastTrait 0 = .ok (.iload_n 0, 1) := by decide +kernel
theorem dX5_leastTrait_1 : decode cX5_leastTrait 1 = .ok (.iconst 2, 1) := by decide +kernel
theorem dX5_leastTrait_2 : decode cX5_leastTrait 2 = .ok (.if_icmp .ge 7, 3) := by decide +kernel
theorem dX5_leastTrait_5 : decode cX5_leastTrait 5 = .ok (.iconst 0, 1) := by decide +kernel
theorem dX5_leastTrait_6 : decode cX5_leastTrait 6 = .ok (.goto 5, 3) := by decide +kernel
theorem dX5_leastTrait_9 : decode cX5_leastTrait 9 = .ok (.bipush (-9), 2) := by decide +kernel
theorem dX5_leastTrait_11 : decode cX5_leastTrait 11 = .ok (.ireturn, 1) := by decide +kernel
theorem dX5_mostTrait_0 : decode cX5_mostTrait 0 = .ok (.iload_n 0, 1) := by decide +kernel
theorem dX5_mostTrait_1 : decode cX5_mostTrait 1 = .ok (.ifCond .ne 6, 3) := by decide +kernel
theorem dX5_mostTrait_4 : decode cX5_mostTrait 4 = .ok (.bipush 6, 2) := by decide +kernel
theorem dX5_mostTrait_6 : decode cX5_mostTrait 6 = .ok (.ireturn, 1) := by decide +kernel
theorem dX5_mostTrait_7 : decode cX5_mostTrait 7 = .ok (.iload_n 0, 1) := by decide +kernel
theorem dX5_mostTrait_8 : decode cX5_mostTrait 8 = .ok (.iconst 1, 1) := by decide +kernel
theorem dX5_mostTrait_9 : decode cX5_mostTrait 9 = .ok (.if_icmp .ne 8, 3) := by decide +kernel
theorem dX5_mostTrait_12 : decode cX5_mostTrait 12 = .ok (.bipush 9, 2) := by decide +kernel
theorem dX5_mostTrait_14 : decode cX5_mostTrait 14 = .ok (.goto 5, 3) := by decide +kernel
theorem dX5_mostTrait_17 : decode cX5_mostTrait 17 = .ok (.bipush 9, 2) := by decide +kernel
theorem dX5_mostTrait_19 : decode cX5_mostTrait 19 = .ok (.ireturn, 1) := by decide +kernel
theorem dX5_lackOfSheet_0 : decode cX5_lackOfSheet 0 = .ok (.iload_n 1, 1) := by decide +kernel
theorem dX5_lackOfSheet_1 : decode cX5_lackOfSheet 1 = .ok (.invokestatic 233, 3) := by decide +kernel
theorem dX5_lackOfSheet_4 : decode cX5_lackOfSheet 4 = .ok (.ifCond .eq 6, 3) := by decide +kernel
theorem dX5_lackOfSheet_7 : decode cX5_lackOfSheet 7 = .ok (.ldc 55, 2) := by decide +kernel
theorem dX5_lackOfSheet_9 : decode cX5_lackOfSheet 9 = .ok (.ireturn, 1) := by decide +kernel
theorem dX5_lackOfSheet_10 : decode cX5_lackOfSheet 10 = .ok (.aload_n 0, 1) := by decide +kernel
theorem dX5_lackOfSheet_11 : decode cX5_lackOfSheet 11 = .ok (.getfield 42, 3) := by decide +kernel
theorem dX5_lackOfSheet_14 : decode cX5_lackOfSheet 14 = .ok (.iload_n 1, 1) := by decide +kernel
theorem dX5_lackOfSheet_15 : decode cX5_lackOfSheet 15 = .ok (.aaload, 1) := by decide +kernel
theorem dX5_lackOfSheet_16 : decode cX5_lackOfSheet 16 = .ok (.invokevirtual 249, 3) := by decide +kernel
theorem dX5_lackOfSheet_19 : decode cX5_lackOfSheet 19 = .ok (.ifCond .eq 8, 3) := by decide +kernel
theorem dX5_lackOfSheet_22 : decode cX5_lackOfSheet 22 = .ok (.ldc 226, 2) := by decide +kernel
theorem dX5_lackOfSheet_24 : decode cX5_lackOfSheet 24 = .ok (.goto 4, 3) := by decide +kernel
theorem dX5_lackOfSheet_27 : decode cX5_lackOfSheet 27 = .ok (.iconst 0, 1) := by decide +kernel
theorem dX5_lackOfSheet_28 : decode cX5_lackOfSheet 28 = .ok (.ireturn, 1) := by decide +kernel
theorem dX5_lackOfFit_0 : decode cX5_lackOfFit 0 = .ok (.aload_n 0, 1) := by decide +kernel
theorem dX5_lackOfFit_1 : decode cX5_lackOfFit 1 = .ok (.iload_n 1, 1) := by decide +kernel
theorem dX5_lackOfFit_2 : decode cX5_lackOfFit 2 = .ok (.invokevirtual 240, 3) := by decide +kernel
theorem dX5_lackOfFit_5 : decode cX5_lackOfFit 5 = .ok (.istore_n 3, 1) := by decide +kernel
theorem dX5_lackOfFit_6 : decode cX5_lackOfFit 6 = .ok (.iload_n 3, 1) := by decide +kernel
theorem dX5_lackOfFit_7 : decode cX5_lackOfFit 7 = .ok (.ifCond .ne 17, 3) := by decide +kernel
theorem dX5_lackOfFit_10 : decode cX5_lackOfFit 10 = .ok (.aload_n 0, 1) := by decide +kernel
theorem dX5_lackOfFit_11 : decode cX5_lackOfFit 11 = .ok (.getfield 12, 3) := by decide +kernel
theorem dX5_lackOfFit_14 : decode cX5_lackOfFit 14 = .ok (.iload_n 2, 1) := by decide +kernel
theorem dX5_lackOfFit_15 : decode cX5_lackOfFit 15 = .ok (.invokevirtual 68, 3) := by decide +kernel
theorem dX5_lackOfFit_18 : decode cX5_lackOfFit 18 = .ok (.ifCond .ne 6, 3) := by decide +kernel
theorem dX5_lackOfFit_21 : decode cX5_lackOfFit 21 = .ok (.ldc 55, 2) := by decide +kernel
theorem dX5_lackOfFit_23 : decode cX5_lackOfFit 23 = .ok (.ireturn, 1) := by decide +kernel
theorem dX5_lackOfFit_24 : decode cX5_lackOfFit 24 = .ok (.iload_n 3, 1) := by decide +kernel
theorem dX5_lackOfFit_25 : decode cX5_lackOfFit 25 = .ok (.ireturn, 1) := by decide +kernel
theorem dX5_gain_0 : decode cX5_gain 0 = .ok (.aload_n 0, 1) := by decide +kernel
theorem dX5_gain_1 : decode cX5_gain 1 = .ok (.getfield 16, 3) := by decide +kernel
theorem dX5_gain_4 : decode cX5_gain 4 = .ok (.aload_n 0, 1) := by decide +kernel
theorem dX5_gain_5 : decode cX5_gain 5 = .ok (.getfield 12, 3) := by decide +kernel
theorem dX5_gain_8 : decode cX5_gain 8 = .ok (.invokevirtual 150, 3) := by decide +kernel
theorem dX5_gain_11 : decode cX5_gain 11 = .ok (.aload_n 0, 1) := by decide +kernel
theorem dX5_gain_12 : decode cX5_gain 12 = .ok (.getfield 16, 3) := by decide +kernel
theorem dX5_gain_15 : decode cX5_gain 15 = .ok (.iload_n 1, 1) := by decide +kernel
theorem dX5_gain_16 : decode cX5_gain 16 = .ok (.iload_n 2, 1) := by decide +kernel
theorem dX5_gain_17 : decode cX5_gain 17 = .ok (.iload_n 3, 1) := by decide +kernel
theorem dX5_gain_18 : decode cX5_gain 18 = .ok (.invokevirtual 172, 3) := by decide +kernel
theorem dX5_gain_21 : decode cX5_gain 21 = .ok (.ireturn, 1) := by decide +kernel
theorem dX5_gainAs_0 : decode cX5_gainAs 0 = .ok (.aload_n 0, 1) := by decide +kernel
theorem dX5_gainAs_1 : decode cX5_gainAs 1 = .ok (.getfield 16, 3) := by decide +kernel
theorem dX5_gainAs_4 : decode cX5_gainAs 4 = .ok (.aload_n 0, 1) := by decide +kernel
theorem dX5_gainAs_5 : decode cX5_gainAs 5 = .ok (.getfield 12, 3) := by decide +kernel
theorem dX5_gainAs_8 : decode cX5_gainAs 8 = .ok (.invokevirtual 150, 3) := by decide +kernel
theorem dX5_gainAs_11 : decode cX5_gainAs 11 = .ok (.aload_n 0, 1) := by decide +kernel
theorem dX5_gainAs_12 : decode cX5_gainAs 12 = .ok (.getfield 16, 3) := by decide +kernel
theorem dX5_gainAs_15 : decode cX5_gainAs 15 = .ok (.iload_n 1, 1) := by decide +kernel
theorem dX5_gainAs_16 : decode cX5_gainAs 16 = .ok (.iload_n 3, 1) := by decide +kernel
theorem dX5_gainAs_17 : decode cX5_gainAs 17 = .ok (.iload 4, 2) := by decide +kernel
theorem dX5_gainAs_19 : decode cX5_gainAs 19 = .ok (.invokevirtual 83, 3) := by decide +kernel
theorem dX5_gainAs_22 : decode cX5_gainAs 22 = .ok (.aload_n 0, 1) := by decide +kernel
theorem dX5_gainAs_23 : decode cX5_gainAs 23 = .ok (.getfield 16, 3) := by decide +kernel
theorem dX5_gainAs_26 : decode cX5_gainAs 26 = .ok (.iload_n 1, 1) := by decide +kernel
theorem dX5_gainAs_27 : decode cX5_gainAs 27 = .ok (.iload_n 2, 1) := by decide +kernel
theorem dX5_gainAs_28 : decode cX5_gainAs 28 = .ok (.iload 5, 2) := by decide +kernel
theorem dX5_gainAs_30 : decode cX5_gainAs 30 = .ok (.invokevirtual 172, 3) := by decide +kernel
theorem dX5_gainAs_33 : decode cX5_gainAs 33 = .ok (.ireturn, 1) := by decide +kernel
theorem dX5_bestTrait_0 : decode cX5_bestTrait 0 = .ok (.iload_n 3, 1) := by decide +kernel
theorem dX5_bestTrait_1 : decode cX5_bestTrait 1 = .ok (.invokestatic 273, 3) := by decide +kernel
theorem dX5_bestTrait_4 : decode cX5_bestTrait 4 = .ok (.istore 5, 2) := by decide +kernel
theorem dX5_bestTrait_6 : decode cX5_bestTrait 6 = .ok (.iconst (-1), 1) := by decide +kernel
theorem dX5_bestTrait_7 : decode cX5_bestTrait 7 = .ok (.istore 6, 2) := by decide +kernel
theorem dX5_bestTrait_9 : decode cX5_bestTrait 9 = .ok (.iload_n 3, 1) := by decide +kernel
theorem dX5_bestTrait_10 : decode cX5_bestTrait 10 = .ok (.invokestatic 273, 3) := by decide +kernel
theorem dX5_bestTrait_13 : decode cX5_bestTrait 13 = .ok (.istore 7, 2) := by decide +kernel
theorem dX5_bestTrait_15 : decode cX5_bestTrait 15 = .ok (.iload 7, 2) := by decide +kernel
theorem dX5_bestTrait_17 : decode cX5_bestTrait 17 = .ok (.iload_n 3, 1) := by decide +kernel
theorem dX5_bestTrait_18 : decode cX5_bestTrait 18 = .ok (.invokestatic 276, 3) := by decide +kernel
theorem dX5_bestTrait_21 : decode cX5_bestTrait 21 = .ok (.if_icmp .gt 37, 3) := by decide +kernel
theorem dX5_bestTrait_24 : decode cX5_bestTrait 24 = .ok (.aload_n 0, 1) := by decide +kernel
theorem dX5_bestTrait_25 : decode cX5_bestTrait 25 = .ok (.iload_n 1, 1) := by decide +kernel
theorem dX5_bestTrait_26 : decode cX5_bestTrait 26 = .ok (.iload_n 2, 1) := by decide +kernel
theorem dX5_bestTrait_27 : decode cX5_bestTrait 27 = .ok (.iload_n 3, 1) := by decide +kernel
theorem dX5_bestTrait_28 : decode cX5_bestTrait 28 = .ok (.iload 7, 2) := by decide +kernel
theorem dX5_bestTrait_30 : decode cX5_bestTrait 30 = .ok (.iload 4, 2) := by decide +kernel
theorem dX5_bestTrait_32 : decode cX5_bestTrait 32 = .ok (.invokevirtual 188, 3) := by decide +kernel
theorem dX5_bestTrait_35 : decode cX5_bestTrait 35 = .ok (.istore 8, 2) := by decide +kernel
theorem dX5_bestTrait_37 : decode cX5_bestTrait 37 = .ok (.iload 8, 2) := by decide +kernel
theorem dX5_bestTrait_39 : decode cX5_bestTrait 39 = .ok (.iload 6, 2) := by decide +kernel
theorem dX5_bestTrait_41 : decode cX5_bestTrait 41 = .ok (.if_icmp .le 11, 3) := by decide +kernel
theorem dX5_bestTrait_44 : decode cX5_bestTrait 44 = .ok (.iload 8, 2) := by decide +kernel
theorem dX5_bestTrait_46 : decode cX5_bestTrait 46 = .ok (.istore 6, 2) := by decide +kernel
theorem dX5_bestTrait_48 : decode cX5_bestTrait 48 = .ok (.iload 7, 2) := by decide +kernel
theorem dX5_bestTrait_50 : decode cX5_bestTrait 50 = .ok (.istore 5, 2) := by decide +kernel
theorem dX5_bestTrait_52 : decode cX5_bestTrait 52 = .ok (.iinc 7 1, 3) := by decide +kernel
theorem dX5_bestTrait_55 : decode cX5_bestTrait 55 = .ok (.goto (-40), 3) := by decide +kernel
theorem dX5_bestTrait_58 : decode cX5_bestTrait 58 = .ok (.iload 5, 2) := by decide +kernel
theorem dX5_bestTrait_60 : decode cX5_bestTrait 60 = .ok (.ireturn, 1) := by decide +kernel
theorem dX5_weighPairs_0 : decode cX5_weighPairs 0 = .ok (.iconst 0, 1) := by decide +kernel
theorem dX5_weighPairs_1 : decode cX5_weighPairs 1 = .ok (.istore_n 2, 1) := by decide +kernel
theorem dX5_weighPairs_2 : decode cX5_weighPairs 2 = .ok (.iload_n 2, 1) := by decide +kernel
theorem dX5_weighPairs_3 : decode cX5_weighPairs 3 = .ok (.aload_n 0, 1) := by decide +kernel
theorem dX5_weighPairs_4 : decode cX5_weighPairs 4 = .ok (.getfield 12, 3) := by decide +kernel
theorem dX5_weighPairs_7 : decode cX5_weighPairs 7 = .ok (.getfield 169, 3) := by decide +kernel
theorem dX5_weighPairs_10 : decode cX5_weighPairs 10 = .ok (.if_icmp .ge 46, 3) := by decide +kernel
theorem dX5_weighPairs_13 : decode cX5_weighPairs 13 = .ok (.iload_n 2, 1) := by decide +kernel
theorem dX5_weighPairs_14 : decode cX5_weighPairs 14 = .ok (.iconst 1, 1) := by decide +kernel
theorem dX5_weighPairs_15 : decode cX5_weighPairs 15 = .ok (.iadd, 1) := by decide +kernel
theorem dX5_weighPairs_16 : decode cX5_weighPairs 16 = .ok (.istore_n 3, 1) := by decide +kernel
theorem dX5_weighPairs_17 : decode cX5_weighPairs 17 = .ok (.iload_n 3, 1) := by decide +kernel
theorem dX5_weighPairs_18 : decode cX5_weighPairs 18 = .ok (.aload_n 0, 1) := by decide +kernel
theorem dX5_weighPairs_19 : decode cX5_weighPairs 19 = .ok (.getfield 12, 3) := by decide +kernel
theorem dX5_weighPairs_22 : decode cX5_weighPairs 22 = .ok (.getfield 169, 3) := by decide +kernel
theorem dX5_weighPairs_25 : decode cX5_weighPairs 25 = .ok (.if_icmp .ge 25, 3) := by decide +kernel
theorem dX5_weighPairs_28 : decode cX5_weighPairs 28 = .ok (.aload_n 0, 1) := by decide +kernel
theorem dX5_weighPairs_29 : decode cX5_weighPairs 29 = .ok (.getfield 36, 3) := by decide +kernel
theorem dX5_weighPairs_32 : decode cX5_weighPairs 32 = .ok (.iload_n 2, 1) := by decide +kernel
theorem dX5_weighPairs_33 : decode cX5_weighPairs 33 = .ok (.iload_n 3, 1) := by decide +kernel
theorem dX5_weighPairs_34 : decode cX5_weighPairs 34 = .ok (.aload_n 0, 1) := by decide +kernel
theorem dX5_weighPairs_35 : decode cX5_weighPairs 35 = .ok (.iload_n 2, 1) := by decide +kernel
theorem dX5_weighPairs_36 : decode cX5_weighPairs 36 = .ok (.iload_n 3, 1) := by decide +kernel
theorem dX5_weighPairs_37 : decode cX5_weighPairs 37 = .ok (.iload_n 1, 1) := by decide +kernel
theorem dX5_weighPairs_38 : decode cX5_weighPairs 38 = .ok (.invokevirtual 166, 3) := by decide +kernel
theorem dX5_weighPairs_41 : decode cX5_weighPairs 41 = .ok (.invokevirtual 279, 3) := by decide +kernel
theorem dX5_weighPairs_44 : decode cX5_weighPairs 44 = .ok (.iinc 3 1, 3) := by decide +kernel
theorem dX5_weighPairs_47 : decode cX5_weighPairs 47 = .ok (.goto (-30), 3) := by decide +kernel
theorem dX5_weighPairs_50 : decode cX5_weighPairs 50 = .ok (.iinc 2 1, 3) := by decide +kernel
theorem dX5_weighPairs_53 : decode cX5_weighPairs 53 = .ok (.goto (-51), 3) := by decide +kernel
theorem dX5_weighPairs_56 : decode cX5_weighPairs 56 = .ok (.aload_n 0, 1) := by decide +kernel
theorem dX5_weighPairs_57 : decode cX5_weighPairs 57 = .ok (.getfield 36, 3) := by decide +kernel
theorem dX5_weighPairs_60 : decode cX5_weighPairs 60 = .ok (.aload_n 0, 1) := by decide +kernel
theorem dX5_weighPairs_61 : decode cX5_weighPairs 61 = .ok (.getfield 12, 3) := by decide +kernel
theorem dX5_weighPairs_64 : decode cX5_weighPairs 64 = .ok (.getfield 169, 3) := by decide +kernel
theorem dX5_weighPairs_67 : decode cX5_weighPairs 67 = .ok (.invokevirtual 282, 3) := by decide +kernel
theorem dX5_weighPairs_70 : decode cX5_weighPairs 70 = .ok (.return_, 1) := by decide +kernel
theorem dX5_isAsTold_0 : decode cX5_isAsTold 0 = .ok (.aload_n 0, 1) := by decide +kernel
theorem dX5_isAsTold_1 : decode cX5_isAsTold 1 = .ok (.getfield 16, 3) := by decide +kernel
theorem dX5_isAsTold_4 : decode cX5_isAsTold 4 = .ok (.aload_n 0, 1) := by decide +kernel
theorem dX5_isAsTold_5 : decode cX5_isAsTold 5 = .ok (.getfield 12, 3) := by decide +kernel
theorem dX5_isAsTold_8 : decode cX5_isAsTold 8 = .ok (.invokevirtual 150, 3) := by decide +kernel
theorem dX5_isAsTold_11 : decode cX5_isAsTold 11 = .ok (.aload_n 0, 1) := by decide +kernel
theorem dX5_isAsTold_12 : decode cX5_isAsTold 12 = .ok (.getfield 16, 3) := by decide +kernel
theorem dX5_isAsTold_15 : decode cX5_isAsTold 15 = .ok (.iload_n 2, 1) := by decide +kernel
theorem dX5_isAsTold_16 : decode cX5_isAsTold 16 = .ok (.iload_n 3, 1) := by decide +kernel
theorem dX5_isAsTold_17 : decode cX5_isAsTold 17 = .ok (.iload 4, 2) := by decide +kernel
theorem dX5_isAsTold_19 : decode cX5_isAsTold 19 = .ok (.invokevirtual 83, 3) := by decide +kernel
theorem dX5_isAsTold_22 : decode cX5_isAsTold 22 = .ok (.iconst 0, 1) := by decide +kernel
theorem dX5_isAsTold_23 : decode cX5_isAsTold 23 = .ok (.istore 5, 2) := by decide +kernel
theorem dX5_isAsTold_25 : decode cX5_isAsTold 25 = .ok (.iload 5, 2) := by decide +kernel
theorem dX5_isAsTold_27 : decode cX5_isAsTold 27 = .ok (.aload_n 1, 1) := by decide +kernel
theorem dX5_isAsTold_28 : decode cX5_isAsTold 28 = .ok (.getfield 243, 3) := by decide +kernel
theorem dX5_isAsTold_31 : decode cX5_isAsTold 31 = .ok (.if_icmp .ge 47, 3) := by decide +kernel
theorem dX5_isAsTold_34 : decode cX5_isAsTold 34 = .ok (.aload_n 1, 1) := by decide +kernel
theorem dX5_isAsTold_35 : decode cX5_isAsTold 35 = .ok (.getfield 258, 3) := by decide +kernel
theorem dX5_isAsTold_38 : decode cX5_isAsTold 38 = .ok (.iload 5, 2) := by decide +kernel
theorem dX5_isAsTold_40 : decode cX5_isAsTold 40 = .ok (.iaload, 1) := by decide +kernel
theorem dX5_isAsTold_41 : decode cX5_isAsTold 41 = .ok (.iconst (-1), 1) := by decide +kernel
theorem dX5_isAsTold_42 : decode cX5_isAsTold 42 = .ok (.if_icmp .eq 22, 3) := by decide +kernel
theorem dX5_isAsTold_45 : decode cX5_isAsTold 45 = .ok (.aload_n 1, 1) := by decide +kernel
theorem dX5_isAsTold_46 : decode cX5_isAsTold 46 = .ok (.getfield 258, 3) := by decide +kernel
theorem dX5_isAsTold_49 : decode cX5_isAsTold 49 = .ok (.iload 5, 2) := by decide +kernel
theorem dX5_isAsTold_51 : decode cX5_isAsTold 51 = .ok (.iaload, 1) := by decide +kernel
theorem dX5_isAsTold_52 : decode cX5_isAsTold 52 = .ok (.aload_n 0, 1) := by decide +kernel
theorem dX5_isAsTold_53 : decode cX5_isAsTold 53 = .ok (.getfield 16, 3) := by decide +kernel
theorem dX5_isAsTold_56 : decode cX5_isAsTold 56 = .ok (.getfield 135, 3) := by decide +kernel
theorem dX5_isAsTold_59 : decode cX5_isAsTold 59 = .ok (.if_icmp .eq 5, 3) := by decide +kernel
theorem dX5_isAsTold_62 : decode cX5_isAsTold 62 = .ok (.iconst 0, 1) := by decide +kernel
theorem dX5_isAsTold_63 : decode cX5_isAsTold 63 = .ok (.ireturn, 1) := by decide +kernel
theorem dX5_isAsTold_64 : decode cX5_isAsTold 64 = .ok (.aload_n 0, 1) := by decide +kernel
theorem dX5_isAsTold_65 : decode cX5_isAsTold 65 = .ok (.getfield 16, 3) := by decide +kernel
theorem dX5_isAsTold_68 : decode cX5_isAsTold 68 = .ok (.invokevirtual 157, 3) := by decide +kernel
theorem dX5_isAsTold_71 : decode cX5_isAsTold 71 = .ok (.pop, 1) := by decide +kernel
theorem dX5_isAsTold_72 : decode cX5_isAsTold 72 = .ok (.iinc 5 1, 3) := by decide +kernel
theorem dX5_isAsTold_75 : decode cX5_isAsTold 75 = .ok (.goto (-50), 3) := by decide +kernel
theorem dX5_isAsTold_78 : decode cX5_isAsTold 78 = .ok (.iconst 1, 1) := by decide +kernel
theorem dX5_isAsTold_79 : decode cX5_isAsTold 79 = .ok (.ireturn, 1) := by decide +kernel
theorem dX5_pairNumber_0 : decode cX5_pairNumber 0 = .ok (.bipush 8, 2) := by decide +kernel
theorem dX5_pairNumber_2 : decode cX5_pairNumber 2 = .ok (.iload_n 0, 1) := by decide +kernel
theorem dX5_pairNumber_3 : decode cX5_pairNumber 3 = .ok (.imul, 1) := by decide +kernel
theorem dX5_pairNumber_4 : decode cX5_pairNumber 4 = .ok (.iload_n 1, 1) := by decide +kernel
theorem dX5_pairNumber_5 : decode cX5_pairNumber 5 = .ok (.iadd, 1) := by decide +kernel
theorem dX5_pairNumber_6 : decode cX5_pairNumber 6 = .ok (.ireturn, 1) := by decide +kernel
theorem dX5_power_0 : decode cX5_power 0 = .ok (.lconst 1, 1) := by decide +kernel
theorem dX5_power_1 : decode cX5_power 1 = .ok (.lstore_n 3, 1) := by decide +kernel
theorem dX5_power_2 : decode cX5_power 2 = .ok (.iconst 0, 1) := by decide +kernel
theorem dX5_power_3 : decode cX5_power 3 = .ok (.istore 5, 2) := by decide +kernel
theorem dX5_power_5 : decode cX5_power 5 = .ok (.iload 5, 2) := by decide +kernel
theorem dX5_power_7 : decode cX5_power 7 = .ok (.iload_n 2, 1) := by decide +kernel
theorem dX5_power_8 : decode cX5_power 8 = .ok (.if_icmp .ge 13, 3) := by decide +kernel
theorem dX5_power_11 : decode cX5_power 11 = .ok (.lload_n 3, 1) := by decide +kernel
theorem dX5_power_12 : decode cX5_power 12 = .ok (.lload_n 0, 1) := by decide +kernel
theorem dX5_power_13 : decode cX5_power 13 = .ok (.lmul, 1) := by decide +kernel
theorem dX5_power_14 : decode cX5_power 14 = .ok (.lstore_n 3, 1) := by decide +kernel
theorem dX5_power_15 : decode cX5_power 15 = .ok (.iinc 5 1, 3) := by decide +kernel
theorem dX5_power_18 : decode cX5_power 18 = .ok (.goto (-13), 3) := by decide +kernel
theorem dX5_power_21 : decode cX5_power 21 = .ok (.lload_n 3, 1) := by decide +kernel
theorem dX5_power_22 : decode cX5_power 22 = .ok (.lreturn, 1) := by decide +kernel
end
section
theorem dX6_init_0 : decode cX6_init 0 = .ok (.aload_n 0, 1) := by decide +kernel
theorem dX6_init_1 : decode cX6_init 1 = .ok (.invokespecial 1, 3) := by decide +kernel
theorem dX6_init_4 : decode cX6_init 4 = .ok (.aload_n 0, 1) := by decide +kernel
theorem dX6_init_5 : decode cX6_init 5 = .ok (.bipush 81, 2) := by decide +kernel
theorem dX6_init_7 : decode cX6_init 7 = .ok (.newarray .int, 2) := by decide +kernel
theorem dX6_init_9 : decode cX6_init 9 = .ok (.putfield 7, 3) := by decide +kernel
theorem dX6_init_12 : decode cX6_init 12 = .ok (.aload_n 0, 1) := by decide +kernel
theorem dX6_init_13 : decode cX6_init 13 = .ok (.bipush 81, 2) := by decide +kernel
theorem dX6_init_15 : decode cX6_init 15 = .ok (.newarray .int, 2) := by decide +kernel
theorem dX6_init_17 : decode cX6_init 17 = .ok (.putfield 13, 3) := by decide +kernel
theorem dX6_init_20 : decode cX6_init 20 = .ok (.aload_n 0, 1) := by decide +kernel
theorem dX6_init_21 : decode cX6_init 21 = .ok (.bipush 81, 2) := by decide +kernel
theorem dX6_init_23 : decode cX6_init 23 = .ok (.newarray .int, 2) := by decide +kernel
theorem dX6_init_25 : decode cX6_init 25 = .ok (.putfield 16, 3) := by decide +kernel
theorem dX6_init_28 : decode cX6_init 28 = .ok (.aload_n 0, 1) := by decide +kernel
theorem dX6_init_29 : decode cX6_init 29 = .ok (.bipush 81, 2) := by decide +kernel
theorem dX6_init_31 : decode cX6_init 31 = .ok (.newarray .int, 2) := by decide +kernel
theorem dX6_init_33 : decode cX6_init 33 = .ok (.putfield 19, 3) := by decide +kernel
theorem dX6_init_36 : decode cX6_init 36 = .ok (.aload_n 0, 1) := by decide +kernel
theorem dX6_init_37 : decode cX6_init 37 = .ok (.bipush 7, 2) := by decide +kernel
theorem dX6_init_39 : decode cX6_init 39 = .ok (.newarray .int, 2) := by decide +kernel
theorem dX6_init_41 : decode cX6_init 41 = .ok (.putfield 22, 3) := by decide +kernel
theorem dX6_init_44 : decode cX6_init 44 = .ok (.aload_n 0, 1) := by decide +kernel
theorem dX6_init_45 : decode cX6_init 45 = .ok (.bipush 64, 2) := by decide +kernel
theorem dX6_init_47 : decode cX6_init 47 = .ok (.newarray .int, 2) := by decide +kernel
theorem dX6_init_49 : decode cX6_init 49 = .ok (.putfield 25, 3) := by decide +kernel
theorem dX6_init_52 : decode cX6_init 52 = .ok (.aload_n 0, 1) := by decide +kernel
theorem dX6_init_53 : decode cX6_init 53 = .ok (.sipush 256, 3) := by decide +kernel
theorem dX6_init_56 : decode cX6_init 56 = .ok (.newarray .int, 2) := by decide +kernel
theorem dX6_init_58 : decode cX6_init 58 = .ok (.putfield 28, 3) := by decide +kernel
theorem dX6_init_61 : decode cX6_init 61 = .ok (.aload_n 0, 1) := by decide +kernel
theorem dX6_init_62 : decode cX6_init 62 = .ok (.bipush 8, 2) := by decide +kernel
theorem dX6_init_64 : decode cX6_init 64 = .ok (.newarray .int, 2) := by decide +kernel
theorem dX6_init_66 : decode cX6_init 66 = .ok (.putfield 31, 3) := by decide +kernel
theorem dX6_init_69 : decode cX6_init 69 = .ok (.aload_n 0, 1) := by decide +kernel
theorem dX6_init_70 : decode cX6_init 70 = .ok (.bipush 120, 2) := by decide +kernel
theorem dX6_init_72 : decode cX6_init 72 = .ok (.newarray .int, 2) := by decide +kernel
theorem dX6_init_74 : decode cX6_init 74 = .ok (.putfield 34, 3) := by decide +kernel
theorem dX6_init_77 : decode cX6_init 77 = .ok (.aload_n 0, 1) := by decide +kernel
theorem dX6_init_78 : decode cX6_init 78 = .ok (.iconst 4, 1) := by decide +kernel
theorem dX6_init_79 : decode cX6_init 79 = .ok (.newarray .int, 2) := by decide +kernel
theorem dX6_init_81 : decode cX6_init 81 = .ok (.putfield 37, 3) := by decide +kernel
theorem dX6_init_84 : decode cX6_init 84 = .ok (.aload_n 0, 1) := by decide +kernel
theorem dX6_init_85 : decode cX6_init 85 = .ok (.iconst 4, 1) := by decide +kernel
theorem dX6_init_86 : decode cX6_init 86 = .ok (.newarray .int, 2) := by decide +kernel
theorem dX6_init_88 : decode cX6_init 88 = .ok (.putfield 40, 3) := by decide +kernel
theorem dX6_init_91 : decode cX6_init 91 = .ok (.aload_n 0, 1) := by decide +kernel
theorem dX6_init_92 : decode cX6_init 92 = .ok (.sipush 160, 3) := by decide +kernel
theorem dX6_init_95 : decode cX6_init 95 = .ok (.newarray .int, 2) := by decide +kernel
theorem dX6_init_97 : decode cX6_init 97 = .ok (.putfield 43, 3) := by decide +kernel
theorem dX6_init_100 : decode cX6_init 100 = .ok (.aload_n 0, 1) := by decide +kernel
theorem dX6_init_101 : decode cX6_init 101 = .ok (.bipush 40, 2) := by decide +kernel
theorem dX6_init_103 : decode cX6_init 103 = .ok (.newarray .int, 2) := by decide +kernel
theorem dX6_init_105 : decode cX6_init 105 = .ok (.putfield 46, 3) := by decide +kernel
theorem dX6_init_108 : decode cX6_init 108 = .ok (.aload_n 0, 1) := by decide +kernel
theorem dX6_init_109 : decode cX6_init 109 = .ok (.getfield 7, 3) := by decide +kernel
theorem dX6_init_112 : decode cX6_init 112 = .ok (.iconst 4, 1) := by decide +kernel
theorem dX6_init_113 : decode cX6_init 113 = .ok (.iconst 1, 1) := by decide +kernel
theorem dX6_init_114 : decode cX6_init 114 = .ok (.iastore, 1) := by decide +kernel
theorem dX6_init_115 : decode cX6_init 115 = .ok (.aload_n 0, 1) := by decide +kernel
theorem dX6_init_116 : decode cX6_init 116 = .ok (.getfield 7, 3) := by decide +kernel
theorem dX6_init_119 : decode cX6_init 119 = .ok (.iconst 5, 1) := by decide +kernel
theorem dX6_init_120 : decode cX6_init 120 = .ok (.iconst (-1), 1) := by decide +kernel
theorem dX6_init_121 : decode cX6_init 121 = .ok (.iastore, 1) := by decide +kernel
theorem dX6_init_122 : decode cX6_init 122 = .ok (.aload_n 0, 1) := by decide +kernel
theorem dX6_init_123 : decode cX6_init 123 = .ok (.getfield 7, 3) := by decide +kernel
theorem dX6_init_126 : decode cX6_init 126 = .ok (.bipush 6, 2) := by decide +kernel
theorem dX6_init_128 : decode cX6_init 128 = .ok (.iconst (-1), 1) := by decide +kernel
theorem dX6_init_129 : decode cX6_init 129 = .ok (.iastore, 1) := by decide +kernel
theorem dX6_init_130 : decode cX6_init 130 = .ok (.iconst 0, 1) := by decide +kernel
theorem dX6_init_131 : decode cX6_init 131 = .ok (.istore_n 1, 1) := by decide +kernel
theorem dX6_init_132 : decode cX6_init 132 = .ok (.iload_n 1, 1) := by decide +kernel
theorem dX6_init_133 : decode cX6_init 133 = .ok (.bipush 10, 2) := by decide +kernel
theorem dX6_init_135 : decode cX6_init 135 = .ok (.if_icmp .ge 19, 3) := by decide +kernel
theorem dX6_init_138 : decode cX6_init 138 = .ok (.aload_n 0, 1) := by decide +kernel
theorem dX6_init_139 : decode cX6_init 139 = .ok (.getfield 7, 3) := by decide +kernel
theorem dX6_init_142 : decode cX6_init 142 = .ok (.bipush 71, 2) := by decide +kernel
theorem dX6_init_144 : decode cX6_init 144 = .ok (.iload_n 1, 1) := by decide +kernel
theorem dX6_init_145 : decode cX6_init 145 = .ok (.iadd, 1) := by decide +kernel
theorem dX6_init_146 : decode cX6_init 146 = .ok (.iconst (-1), 1) := by decide +kernel
theorem dX6_init_147 : decode cX6_init 147 = .ok (.iastore, 1) := by decide +kernel
theorem dX6_init_148 : decode cX6_init 148 = .ok (.iinc 1 1, 3) := by decide +kernel
theorem dX6_init_151 : decode cX6_init 151 = .ok (.goto (-19), 3) := by decide +kernel
theorem dX6_init_154 : decode cX6_init 154 = .ok (.return_, 1) := by decide +kernel
theorem dX6_in_0 : decode cX6_in 0 = .ok (.lload_n 0, 1) := by decide +kernel
theorem dX6_in_1 : decode cX6_in 1 = .ok (.lload_n 2, 1) := by decide +kernel
theorem dX6_in_2 : decode cX6_in 2 = .ok (.lcmp, 1) := by decide +kernel
theorem dX6_in_3 : decode cX6_in 3 = .ok (.ifCond .lt 14, 3) := by decide +kernel
theorem dX6_in_6 : decode cX6_in 6 = .ok (.lload_n 0, 1) := by decide +kernel
theorem dX6_in_7 : decode cX6_in 7 = .ok (.lload 4, 2) := by decide +kernel
theorem dX6_in_9 : decode cX6_in 9 = .ok (.lcmp, 1) := by decide +kernel
theorem dX6_in_10 : decode cX6_in 10 = .ok (.ifCond .gt 7, 3) := by decide +kernel
theorem dX6_in_13 : decode cX6_in 13 = .ok (.iconst 1, 1) := by decide +kernel
theorem dX6_in_14 : decode cX6_in 14 = .ok (.goto 4, 3) := by decide +kernel
theorem dX6_in_17 : decode cX6_in 17 = .ok (.iconst 0, 1) := by decide +kernel
theorem dX6_in_18 : decode cX6_in 18 = .ok (.ireturn, 1) := by decide +kernel
theorem dX6_finds_0 : decode cX6_finds 0 = .ok (.aload_n 0, 1) := by decide +kernel
theorem dX6_finds_1 : decode cX6_finds 1 = .ok (.getfield 22, 3) := by decide +kernel
theorem dX6_finds_4 : decode cX6_finds 4 = .ok (.ldc 49, 2) := by decide +kernel
theorem dX6_finds_6 : decode cX6_finds 6 = .ok (.iload_n 1, 1) := by decide +kernel
theorem dX6_finds_7 : decode cX6_finds 7 = .ok (.isub, 1) := by decide +kernel
theorem dX6_finds_8 : decode cX6_finds 8 = .ok (.dup2, 1) := by decide +kernel
theorem dX6_finds_9 : decode cX6_finds 9 = .ok (.iaload, 1) := by decide +kernel
theorem dX6_finds_10 : decode cX6_finds 10 = .ok (.iconst 1, 1) := by decide +kernel
theorem dX6_finds_11 : decode cX6_finds 11 = .ok (.iadd, 1) := by decide +kernel
theorem dX6_finds_12 : decode cX6_finds 12 = .ok (.iastore, 1) := by decide +kernel
theorem dX6_finds_13 : decode cX6_finds 13 = .ok (.iload_n 1, 1) := by decide +kernel
theorem dX6_finds_14 : decode cX6_finds 14 = .ok (.ireturn, 1) := by decide +kernel
theorem dX6_saves_0 : decode cX6_saves 0 = .ok (.iconst 0, 1) := by decide +kernel
theorem dX6_saves_1 : decode cX6_saves 1 = .ok (.istore_n 1, 1) := by decide +kernel
theorem dX6_saves_2 : decode cX6_saves 2 = .ok (.iload_n 1, 1) := by decide +kernel
theorem dX6_saves_3 : decode cX6_saves 3 = .ok (.bipush 81, 2) := by decide +kernel
theorem dX6_saves_5 : decode cX6_saves 5 = .ok (.if_icmp .ge 21, 3) := by decide +kernel
theorem dX6_saves_8 : decode cX6_saves 8 = .ok (.aload_n 0, 1) := by decide +kernel
theorem dX6_saves_9 : decode cX6_saves 9 = .ok (.getfield 16, 3) := by decide +kernel
theorem dX6_saves_12 : decode cX6_saves 12 = .ok (.iload_n 1, 1) := by decide +kernel
theorem dX6_saves_13 : decode cX6_saves 13 = .ok (.aload_n 0, 1) := by decide +kernel
theorem dX6_saves_14 : decode cX6_saves 14 = .ok (.getfield 7, 3) := by decide +kernel
theorem dX6_saves_17 : decode cX6_saves 17 = .ok (.iload_n 1, 1) := by decide +kernel
theorem dX6_saves_18 : decode cX6_saves 18 = .ok (.iaload, 1) := by decide +kernel
theorem dX6_saves_19 : decode cX6_saves 19 = .ok (.iastore, 1) := by decide +kernel
theorem dX6_saves_20 : decode cX6_saves 20 = .ok (.iinc 1 1, 3) := by decide +kernel
theorem dX6_saves_23 : decode cX6_saves 23 = .ok (.goto (-21), 3) := by decide +kernel
theorem dX6_saves_26 : decode cX6_saves 26 = .ok (.return_, 1) := by decide +kernel
theorem dX6_putsBack_0 : decode cX6_putsBack 0 = .ok (.iconst 0, 1) := by decide +kernel
theorem dX6_putsBack_1 : decode cX6_putsBack 1 = .ok (.istore_n 1, 1) := by decide +kernel
theorem dX6_putsBack_2 : decode cX6_putsBack 2 = .ok (.iload_n 1, 1) := by decide +kernel
theorem dX6_putsBack_3 : decode cX6_putsBack 3 = .ok (.bipush 81, 2) := by decide +kernel
theorem dX6_putsBack_5 : decode cX6_putsBack 5 = .ok (.if_icmp .ge 21, 3) := by decide +kernel
theorem dX6_putsBack_8 : decode cX6_putsBack 8 = .ok (.aload_n 0, 1) := by decide +kernel
theorem dX6_putsBack_9 : decode cX6_putsBack 9 = .ok (.getfield 7, 3) := by decide +kernel
theorem dX6_putsBack_12 : decode cX6_putsBack 12 = .ok (.iload_n 1, 1) := by decide +kernel
theorem dX6_putsBack_13 : decode cX6_putsBack 13 = .ok (.aload_n 0, 1) := by decide +kernel
theorem dX6_putsBack_14 : decode cX6_putsBack 14 = .ok (.getfield 16, 3) := by decide +kernel
theorem dX6_putsBack_17 : decode cX6_putsBack 17 = .ok (.iload_n 1, 1) := by decide +kernel
theorem dX6_putsBack_18 : decode cX6_putsBack 18 = .ok (.iaload, 1) := by decide +kernel
theorem dX6_putsBack_19 : decode cX6_putsBack 19 = .ok (.iastore, 1) := by decide +kernel
theorem dX6_putsBack_20 : decode cX6_putsBack 20 = .ok (.iinc 1 1, 3) := by decide +kernel
theorem dX6_putsBack_23 : decode cX6_putsBack 23 = .ok (.goto (-21), 3) := by decide +kernel
theorem dX6_putsBack_26 : decode cX6_putsBack 26 = .ok (.return_, 1) := by decide +kernel
theorem dX6_laysAside_0 : decode cX6_laysAside 0 = .ok (.iconst 0, 1) := by decide +kernel
theorem dX6_laysAside_1 : decode cX6_laysAside 1 = .ok (.istore_n 1, 1) := by decide +kernel
theorem dX6_laysAside_2 : decode cX6_laysAside 2 = .ok (.iload_n 1, 1) := by decide +kernel
theorem dX6_laysAside_3 : decode cX6_laysAside 3 = .ok (.bipush 81, 2) := by decide +kernel
theorem dX6_laysAside_5 : decode cX6_laysAside 5 = .ok (.if_icmp .ge 21, 3) := by decide +kernel
theorem dX6_laysAside_8 : decode cX6_laysAside 8 = .ok (.aload_n 0, 1) := by decide +kernel
theorem dX6_laysAside_9 : decode cX6_laysAside 9 = .ok (.getfield 19, 3) := by decide +kernel
theorem dX6_laysAside_12 : decode cX6_laysAside 12 = .ok (.iload_n 1, 1) := by decide +kernel
theorem dX6_laysAside_13 : decode cX6_laysAside 13 = .ok (.aload_n 0, 1) := by decide +kernel
theorem dX6_laysAside_14 : decode cX6_laysAside 14 = .ok (.getfield 7, 3) := by decide +kernel
theorem dX6_laysAside_17 : decode cX6_laysAside 17 = .ok (.iload_n 1, 1) := by decide +kernel
theorem dX6_laysAside_18 : decode cX6_laysAside 18 = .ok (.iaload, 1) := by decide +kernel
theorem dX6_laysAside_19 : decode cX6_laysAside 19 = .ok (.iastore, 1) := by decide +kernel
theorem dX6_laysAside_20 : decode cX6_laysAside 20 = .ok (.iinc 1 1, 3) := by decide +kernel
theorem dX6_laysAside_23 : decode cX6_laysAside 23 = .ok (.goto (-21), 3) := by decide +kernel
theorem dX6_laysAside_26 : decode cX6_laysAside 26 = .ok (.return_, 1) := by decide +kernel
theorem dX6_takesBack_0 : decode cX6_takesBack 0 = .ok (.iconst 0, 1) := by decide +kernel
theorem dX6_takesBack_1 : decode cX6_takesBack 1 = .ok (.istore_n 2, 1) := by decide +kernel
theorem dX6_takesBack_2 : decode cX6_takesBack 2 = .ok (.iload_n 2, 1) := by decide +kernel
theorem dX6_takesBack_3 : decode cX6_takesBack 3 = .ok (.bipush 81, 2) := by decide +kernel
theorem dX6_takesBack_5 : decode cX6_takesBack 5 = .ok (.if_icmp .ge 21, 3) := by decide +kernel
theorem dX6_takesBack_8 : decode cX6_takesBack 8 = .ok (.aload_n 0, 1) := by decide +kernel
theorem dX6_takesBack_9 : decode cX6_takesBack 9 = .ok (.getfield 7, 3) := by decide +kernel
theorem dX6_takesBack_12 : decode cX6_takesBack 12 = .ok (.iload_n 2, 1) := by decide +kernel
theorem dX6_takesBack_13 : decode cX6_takesBack 13 = .ok (.aload_n 0, 1) := by decide +kernel
theorem dX6_takesBack_14 : decode cX6_takesBack 14 = .ok (.getfield 19, 3) := by decide +kernel
theorem dX6_takesBack_17 : decode cX6_takesBack 17 = .ok (.iload_n 2, 1) := by decide +kernel
theorem dX6_takesBack_18 : decode cX6_takesBack 18 = .ok (.iaload, 1) := by decide +kernel
theorem dX6_takesBack_19 : decode cX6_takesBack 19 = .ok (.iastore, 1) := by decide +kernel
theorem dX6_takesBack_20 : decode cX6_takesBack 20 = .ok (.iinc 2 1, 3) := by decide +kernel
theorem dX6_takesBack_23 : decode cX6_takesBack 23 = .ok (.goto (-21), 3) := by decide +kernel
theorem dX6_takesBack_26 : decode cX6_takesBack 26 = .ok (.iload_n 1, 1) := by decide +kernel
theorem dX6_takesBack_27 : decode cX6_takesBack 27 = .ok (.ireturn, 1) := by decide +kernel
theorem dX6_becomes_0 : decode cX6_becomes 0 = .ok (.aload_n 0, 1) := by decide +kernel
theorem dX6_becomes_1 : decode cX6_becomes 1 = .ok (.getfield 7, 3) := by decide +kernel
theorem dX6_becomes_4 : decode cX6_becomes 4 = .ok (.iload_n 1, 1) := by decide +kernel
theorem dX6_becomes_5 : decode cX6_becomes 5 = .ok (.iaload, 1) := by decide +kernel
theorem dX6_becomes_6 : decode cX6_becomes 6 = .ok (.istore_n 3, 1) := by decide +kernel
theorem dX6_becomes_7 : decode cX6_becomes 7 = .ok (.aload_n 0, 1) := by decide +kernel
theorem dX6_becomes_8 : decode cX6_becomes 8 = .ok (.getfield 7, 3) := by decide +kernel
theorem dX6_becomes_11 : decode cX6_becomes 11 = .ok (.iload_n 1, 1) := by decide +kernel
theorem dX6_becomes_12 : decode cX6_becomes 12 = .ok (.iload_n 2, 1) := by decide +kernel
theorem dX6_becomes_13 : decode cX6_becomes 13 = .ok (.iastore, 1) := by decide +kernel
theorem dX6_becomes_14 : decode cX6_becomes 14 = .ok (.iload_n 3, 1) := by decide +kernel
theorem dX6_becomes_15 : decode cX6_becomes 15 = .ok (.ireturn, 1) := by decide +kernel
theorem dX6_isSubject_0 : decode cX6_isSubject 0 = .ok (.iload_n 0, 1) := by decide +kernel
theorem dX6_isSubject_1 : decode cX6_isSubject 1 = .ok (.i2l, 1) := by decide +kernel
theorem dX6_isSubject_2 : decode cX6_isSubject 2 = .ok (.lconst 0, 1) := by decide +kernel
theorem dX6_isSubject_3 : decode cX6_isSubject 3 = .ok (.ldc2_w 50, 3) := by decide +kernel
theorem dX6_isSubject_6 : decode cX6_isSubject 6 = .ok (.invokestatic 52, 3) := by decide +kernel
theorem dX6_isSubject_9 : decode cX6_isSubject 9 = .ok (.ireturn, 1) := by decide +kernel
theorem dX6_isPerson_0 : decode cX6_isPerson 0 = .ok (.iload_n 1, 1) := by decide +kernel
theorem dX6_isPerson_1 : decode cX6_isPerson 1 = .ok (.i2l, 1) := by decide +kernel
theorem dX6_isPerson_2 : decode cX6_isPerson 2 = .ok (.lconst 0, 1) := by decide +kernel
theorem dX6_isPerson_3 : decode cX6_isPerson 3 = .ok (.aload_n 0, 1) := by decide +kernel
theorem dX6_isPerson_4 : decode cX6_isPerson 4 = .ok (.getfield 7, 3) := by decide +kernel
theorem dX6_isPerson_7 : decode cX6_isPerson 7 = .ok (.iconst 1, 1) := by decide +kernel
theorem dX6_isPerson_8 : decode cX6_isPerson 8 = .ok (.iaload, 1) := by decide +kernel
theorem dX6_isPerson_9 : decode cX6_isPerson 9 = .ok (.iconst 1, 1) := by decide +kernel
theorem dX6_isPerson_10 : decode cX6_isPerson 10 = .ok (.isub, 1) := by decide +kernel
theorem dX6_isPerson_11 : decode cX6_isPerson 11 = .ok (.i2l, 1) := by decide +kernel
theorem dX6_isPerson_12 : decode cX6_isPerson 12 = .ok (.invokestatic 52, 3) := by decide +kernel
theorem dX6_isPerson_15 : decode cX6_isPerson 15 = .ok (.ireturn, 1) := by decide +kernel
theorem dX6_areTwo_0 : decode cX6_areTwo 0 = .ok (.aload_n 0, 1) := by decide +kernel
theorem dX6_areTwo_1 : decode cX6_areTwo 1 = .ok (.iload_n 1, 1) := by decide +kernel
theorem dX6_areTwo_2 : decode cX6_areTwo 2 = .ok (.invokevirtual 56, 3) := by decide +kernel
theorem dX6_areTwo_5 : decode cX6_areTwo 5 = .ok (.ifCond .eq 20, 3) := by decide +kernel
theorem dX6_areTwo_8 : decode cX6_areTwo 8 = .ok (.aload_n 0, 1) := by decide +kernel
theorem dX6_areTwo_9 : decode cX6_areTwo 9 = .ok (.iload_n 2, 1) := by decide +kernel
theorem dX6_areTwo_10 : decode cX6_areTwo 10 = .ok (.invokevirtual 56, 3) := by decide +kernel
theorem dX6_areTwo_13 : decode cX6_areTwo 13 = .ok (.ifCond .eq 12, 3) := by decide +kernel
theorem dX6_areTwo_16 : decode cX6_areTwo 16 = .ok (.iload_n 1, 1) := by decide +kernel
theorem dX6_areTwo_17 : decode cX6_areTwo 17 = .ok (.iload_n 2, 1) := by decide +kernel
theorem dX6_areTwo_18 : decode cX6_areTwo 18 = .ok (.if_icmp .eq 7, 3) := by decide +kernel
theorem dX6_areTwo_21 : decode cX6_areTwo 21 = .ok (.iconst 1, 1) := by decide +kernel
theorem dX6_areTwo_22 : decode cX6_areTwo 22 = .ok (.goto 4, 3) := by decide +kernel
theorem dX6_areTwo_25 : decode cX6_areTwo 25 = .ok (.iconst 0, 1) := by decide +kernel
theorem dX6_areTwo_26 : decode cX6_areTwo 26 = .ok (.ireturn, 1) := by decide +kernel
theorem dX6_isKind_0 : decode cX6_isKind 0 = .ok (.iload_n 0, 1) := by decide +kernel
theorem dX6_isKind_1 : decode cX6_isKind 1 = .ok (.i2l, 1) := by decide +kernel
theorem dX6_isKind_2 : decode cX6_isKind 2 = .ok (.lconst 0, 1) := by decide +kernel
theorem dX6_isKind_3 : decode cX6_isKind 3 = .ok (.ldc2_w 60, 3) := by decide +kernel
theorem dX6_isKind_6 : decode cX6_isKind 6 = .ok (.invokestatic 52, 3) := by decide +kernel
theorem dX6_isKind_9 : decode cX6_isKind 9 = .ok (.ireturn, 1) := by decide +kernel
theorem dX6_isView_0 : decode cX6_isView 0 = .ok (.iload_n 0, 1) := by decide +kernel
theorem dX6_isView_1 : decode cX6_isView 1 = .ok (.i2l, 1) := by decide +kernel
theorem dX6_isView_2 : decode cX6_isView 2 = .ok (.ldc2_w 62, 3) := by decide +kernel
theorem dX6_isView_5 : decode cX6_isView 5 = .ok (.ldc2_w 64, 3) := by decide +kernel
theorem dX6_isView_8 : decode cX6_isView 8 = .ok (.invokestatic 52, 3) := by decide +kernel
theorem dX6_isView_11 : decode cX6_isView 11 = .ok (.ireturn, 1) := by decide +kernel
theorem dX6_place_0 : decode cX6_place 0 = .ok (.bipush 7, 2) := by decide +kernel
theorem dX6_place_2 : decode cX6_place 2 = .ok (.bipush 8, 2) := by decide +kernel
theorem dX6_place_4 : decode cX6_place 4 = .ok (.iload_n 0, 1) := by decide +kernel
theorem dX6_place_5 : decode cX6_place 5 = .ok (.imul, 1) := by decide +kernel
theorem dX6_place_6 : decode cX6_place 6 = .ok (.iadd, 1) := by decide +kernel
theorem dX6_place_7 : decode cX6_place 7 = .ok (.iload_n 1, 1) := by decide +kernel
theorem dX6_place_8 : decode cX6_place 8 = .ok (.iadd, 1) := by decide +kernel
theorem dX6_place_9 : decode cX6_place 9 = .ok (.ireturn, 1) := by decide +kernel
theorem dX6_its_0 : decode cX6_its 0 = .ok (.aload_n 0, 1) := by decide +kernel
theorem dX6_its_1 : decode cX6_its 1 = .ok (.getfield 7, 3) := by decide +kernel
theorem dX6_its_4 : decode cX6_its 4 = .ok (.iload_n 1, 1) := by decide +kernel
theorem dX6_its_5 : decode cX6_its 5 = .ok (.iload_n 2, 1) := by decide +kernel
theorem dX6_its_6 : decode cX6_its 6 = .ok (.invokestatic 66, 3) := by decide +kernel
theorem dX6_its_9 : decode cX6_its 9 = .ok (.iaload, 1) := by decide +kernel
theorem dX6_its_10 : decode cX6_its 10 = .ok (.ireturn, 1) := by decide +kernel
theorem dX6_isSomebody_0 : decode cX6_isSomebody 0 = .ok (.aload_n 0, 1) := by decide +kernel
theorem dX6_isSomebody_1 : decode cX6_isSomebody 1 = .ok (.getfield 7, 3) := by decide +kernel
theorem dX6_isSomebody_4 : decode cX6_isSomebody 4 = .ok (.iconst 5, 1) := by decide +kernel
theorem dX6_isSomebody_5 : decode cX6_isSomebody 5 = .ok (.iaload, 1) := by decide +kernel
theorem dX6_isSomebody_6 : decode cX6_isSomebody 6 = .ok (.ifCond .lt 7, 3) := by decide +kernel
theorem dX6_isSomebody_9 : decode cX6_isSomebody 9 = .ok (.iconst 1, 1) := by decide +kernel
theorem dX6_isSomebody_10 : decode cX6_isSomebody 10 = .ok (.goto 4, 3) := by decide +kernel
theorem dX6_isSomebody_13 : decode cX6_isSomebody 13 = .ok (.iconst 0, 1) := by decide +kernel
theorem dX6_isSomebody_14 : decode cX6_isSomebody 14 = .ok (.ireturn, 1) := by decide +kernel
theorem dX6_adds_0 : decode cX6_adds 0 = .ok (.aload_n 0, 1) := by decide +kernel
theorem dX6_adds_1 : decode cX6_adds 1 = .ok (.getfield 7, 3) := by decide +kernel
theorem dX6_adds_4 : decode cX6_adds 4 = .ok (.iconst 1, 1) := by decide +kernel
theorem dX6_adds_5 : decode cX6_adds 5 = .ok (.iaload, 1) := by decide +kernel
theorem dX6_adds_6 : decode cX6_adds 6 = .ok (.istore_n 2, 1) := by decide +kernel
theorem dX6_adds_7 : decode cX6_adds 7 = .ok (.iconst 0, 1) := by decide +kernel
theorem dX6_adds_8 : decode cX6_adds 8 = .ok (.istore_n 3, 1) := by decide +kernel
theorem dX6_adds_9 : decode cX6_adds 9 = .ok (.iload_n 3, 1) := by decide +kernel
theorem dX6_adds_10 : decode cX6_adds 10 = .ok (.bipush 8, 2) := by decide +kernel
theorem dX6_adds_12 : decode cX6_adds 12 = .ok (.if_icmp .ge 20, 3) := by decide +kernel
theorem dX6_adds_15 : decode cX6_adds 15 = .ok (.aload_n 0, 1) := by decide +kernel
theorem dX6_adds_16 : decode cX6_adds 16 = .ok (.getfield 7, 3) := by decide +kernel
theorem dX6_adds_19 : decode cX6_adds 19 = .ok (.iload_n 2, 1) := by decide +kernel
theorem dX6_adds_20 : decode cX6_adds 20 = .ok (.iload_n 3, 1) := by decide +kernel
theorem dX6_adds_21 : decode cX6_adds 21 = .ok (.invokestatic 66, 3) := by decide +kernel
theorem dX6_adds_24 : decode cX6_adds 24 = .ok (.iconst 0, 1) := by decide +kernel
theorem dX6_adds_25 : decode cX6_adds 25 = .ok (.iastore, 1) := by decide +kernel
theorem dX6_adds_26 : decode cX6_adds 26 = .ok (.iinc 3 1, 3) := by decide +kernel
theorem dX6_adds_29 : decode cX6_adds 29 = .ok (.goto (-20), 3) := by decide +kernel
theorem dX6_adds_32 : decode cX6_adds 32 = .ok (.aload_n 0, 1) := by decide +kernel
theorem dX6_adds_33 : decode cX6_adds 33 = .ok (.getfield 7, 3) := by decide +kernel
theorem dX6_adds_36 : decode cX6_adds 36 = .ok (.iload_n 2, 1) := by decide +kernel
theorem dX6_adds_37 : decode cX6_adds 37 = .ok (.iconst 0, 1) := by decide +kernel
theorem dX6_adds_38 : decode cX6_adds 38 = .ok (.invokestatic 66, 3) := by decide +kernel
theorem dX6_adds_41 : decode cX6_adds 41 = .ok (.iload_n 1, 1) := by decide +kernel
theorem dX6_adds_42 : decode cX6_adds 42 = .ok (.iastore, 1) := by decide +kernel
theorem dX6_adds_43 : decode cX6_adds 43 = .ok (.aload_n 0, 1) := by decide +kernel
theorem dX6_adds_44 : decode cX6_adds 44 = .ok (.getfield 7, 3) := by decide +kernel
theorem dX6_adds_47 : decode cX6_adds 47 = .ok (.iload_n 2, 1) := by decide +kernel
theorem dX6_adds_48 : decode cX6_adds 48 = .ok (.iconst 1, 1) := by decide +kernel
theorem dX6_adds_49 : decode cX6_adds 49 = .ok (.invokestatic 66, 3) := by decide +kernel
theorem dX6_adds_52 : decode cX6_adds 52 = .ok (.iconst 3, 1) := by decide +kernel
theorem dX6_adds_53 : decode cX6_adds 53 = .ok (.iastore, 1) := by decide +kernel
theorem dX6_adds_54 : decode cX6_adds 54 = .ok (.aload_n 0, 1) := by decide +kernel
theorem dX6_adds_55 : decode cX6_adds 55 = .ok (.getfield 7, 3) := by decide +kernel
theorem dX6_adds_58 : decode cX6_adds 58 = .ok (.iconst 1, 1) := by decide +kernel
theorem dX6_adds_59 : decode cX6_adds 59 = .ok (.dup2, 1) := by decide +kernel
theorem dX6_adds_60 : decode cX6_adds 60 = .ok (.iaload, 1) := by decide +kernel
theorem dX6_adds_61 : decode cX6_adds 61 = .ok (.iconst 1, 1) := by decide +kernel
theorem dX6_adds_62 : decode cX6_adds 62 = .ok (.iadd, 1) := by decide +kernel
theorem dX6_adds_63 : decode cX6_adds 63 = .ok (.iastore, 1) := by decide +kernel
theorem dX6_adds_64 : decode cX6_adds 64 = .ok (.iload_n 2, 1) := by decide +kernel
theorem dX6_adds_65 : decode cX6_adds 65 = .ok (.ireturn, 1) := by decide +kernel
theorem dX6_person_0 : decode cX6_person 0 = .ok (.iload_n 1, 1) := by decide +kernel
theorem dX6_person_1 : decode cX6_person 1 = .ok (.invokestatic 70, 3) := by decide +kernel
theorem dX6_person_4 : decode cX6_person 4 = .ok (.ifCond .ne 10, 3) := by decide +kernel
theorem dX6_person_7 : decode cX6_person 7 = .ok (.aload_n 0, 1) := by decide +kernel
theorem dX6_person_8 : decode cX6_person 8 = .ok (.ldc 49, 2) := by decide +kernel
theorem dX6_person_10 : decode cX6_person 10 = .ok (.invokevirtual 73, 3) := by decide +kernel
theorem dX6_person_13 : decode cX6_person 13 = .ok (.ireturn, 1) := by decide +kernel
theorem dX6_person_14 : decode cX6_person 14 = .ok (.aload_n 0, 1) := by decide +kernel
theorem dX6_person_15 : decode cX6_person 15 = .ok (.getfield 7, 3) := by decide +kernel
theorem dX6_person_18 : decode cX6_person 18 = .ok (.iconst 1, 1) := by decide +kernel
theorem dX6_person_19 : decode cX6_person 19 = .ok (.iaload, 1) := by decide +kernel
theorem dX6_person_20 : decode cX6_person 20 = .ok (.bipush 8, 2) := by decide +kernel
theorem dX6_person_22 : decode cX6_person 22 = .ok (.if_icmp .ne 12, 3) := by decide +kernel
theorem dX6_person_25 : decode cX6_person 25 = .ok (.aload_n 0, 1) := by decide +kernel
theorem dX6_person_26 : decode cX6_person 26 = .ok (.ldc 77, 2) := by decide +kernel
theorem dX6_person_28 : decode cX6_person 28 = .ok (.invokevirtual 73, 3) := by decide +kernel
theorem dX6_person_31 : decode cX6_person 31 = .ok (.goto 8, 3) := by decide +kernel
theorem dX6_person_34 : decode cX6_person 34 = .ok (.aload_n 0, 1) := by decide +kernel
theorem dX6_person_35 : decode cX6_person 35 = .ok (.iload_n 1, 1) := by decide +kernel
theorem dX6_person_36 : decode cX6_person 36 = .ok (.invokevirtual 78, 3) := by decide +kernel
theorem dX6_person_39 : decode cX6_person 39 = .ok (.ireturn, 1) := by decide +kernel
theorem dX6_of_0 : decode cX6_of 0 = .ok (.aload_n 0, 1) := by decide +kernel
theorem dX6_of_1 : decode cX6_of 1 = .ok (.iload_n 1, 1) := by decide +kernel
theorem dX6_of_2 : decode cX6_of 2 = .ok (.invokevirtual 56, 3) := by decide +kernel
theorem dX6_of_5 : decode cX6_of 5 = .ok (.ifCond .eq 15, 3) := by decide +kernel
theorem dX6_of_8 : decode cX6_of 8 = .ok (.iload_n 2, 1) := by decide +kernel
theorem dX6_of_9 : decode cX6_of 9 = .ok (.i2l, 1) := by decide +kernel
theorem dX6_of_10 : decode cX6_of 10 = .ok (.lconst 0, 1) := by decide +kernel
theorem dX6_of_11 : decode cX6_of 11 = .ok (.ldc2_w 81, 3) := by decide +kernel
theorem dX6_of_14 : decode cX6_of 14 = .ok (.invokestatic 52, 3) := by decide +kernel
theorem dX6_of_17 : decode cX6_of 17 = .ok (.ifCond .ne 10, 3) := by decide +kernel
theorem dX6_of_20 : decode cX6_of 20 = .ok (.aload_n 0, 1) := by decide +kernel
theorem dX6_of_21 : decode cX6_of 21 = .ok (.ldc 49, 2) := by decide +kernel
theorem dX6_of_23 : decode cX6_of 23 = .ok (.invokevirtual 73, 3) := by decide +kernel
theorem dX6_of_26 : decode cX6_of 26 = .ok (.ireturn, 1) := by decide +kernel
theorem dX6_of_27 : decode cX6_of 27 = .ok (.iload_n 2, 1) := by decide +kernel
theorem dX6_of_28 : decode cX6_of 28 = .ok (.bipush 8, 2) := by decide +kernel
theorem dX6_of_30 : decode cX6_of 30 = .ok (.if_icmp .ge 12, 3) := by decide +kernel
theorem dX6_of_33 : decode cX6_of 33 = .ok (.aload_n 0, 1) := by decide +kernel
theorem dX6_of_34 : decode cX6_of 34 = .ok (.iload_n 1, 1) := by decide +kernel
theorem dX6_of_35 : decode cX6_of 35 = .ok (.iload_n 2, 1) := by decide +kernel
theorem dX6_of_36 : decode cX6_of 36 = .ok (.invokevirtual 83, 3) := by decide +kernel
theorem dX6_of_39 : decode cX6_of 39 = .ok (.goto 29, 3) := by decide +kernel
theorem dX6_of_42 : decode cX6_of 42 = .ok (.iload_n 1, 1) := by decide +kernel
theorem dX6_of_43 : decode cX6_of 43 = .ok (.aload_n 0, 1) := by decide +kernel
theorem dX6_of_44 : decode cX6_of 44 = .ok (.getfield 7, 3) := by decide +kernel
theorem dX6_of_47 : decode cX6_of 47 = .ok (.iconst 5, 1) := by decide +kernel
theorem dX6_of_48 : decode cX6_of 48 = .ok (.iaload, 1) := by decide +kernel
theorem dX6_of_49 : decode cX6_of 49 = .ok (.if_icmp .eq 14, 3) := by decide +kernel
theorem dX6_of_52 : decode cX6_of 52 = .ok (.iload_n 1, 1) := by decide +kernel
theorem dX6_of_53 : decode cX6_of 53 = .ok (.aload_n 0, 1) := by decide +kernel
theorem dX6_of_54 : decode cX6_of 54 = .ok (.getfield 7, 3) := by decide +kernel
theorem dX6_of_57 : decode cX6_of 57 = .ok (.bipush 6, 2) := by decide +kernel
theorem dX6_of_59 : decode cX6_of 59 = .ok (.iaload, 1) := by decide +kernel
theorem dX6_of_60 : decode cX6_of 60 = .ok (.if_icmp .ne 7, 3) := by decide +kernel
theorem dX6_of_63 : decode cX6_of 63 = .ok (.iconst 1, 1) := by decide +kernel
theorem dX6_of_64 : decode cX6_of 64 = .ok (.goto 4, 3) := by decide +kernel
theorem dX6_of_67 : decode cX6_of 67 = .ok (.iconst 0, 1) := by decide +kernel
theorem dX6_of_68 : decode cX6_of 68 = .ok (.ireturn, 1) := by decide +kernel
theorem dX6_change_0 : decode cX6_change 0 = .ok (.iload_n 2, 1) := by decide +kernel
theorem dX6_change_1 : decode cX6_change 1 = .ok (.ifCond .ne 10, 3) := by decide +kernel
theorem dX6_change_4 : decode cX6_change 4 = .ok (.iload_n 3, 1) := by decide +kernel
theorem dX6_change_5 : decode cX6_change 5 = .ok (.invokestatic 70, 3) := by decide +kernel
theorem dX6_change_8 : decode cX6_change 8 = .ok (.goto 46, 3) := by decide +kernel
theorem dX6_change_11 : decode cX6_change 11 = .ok (.iload_n 2, 1) := by decide +kernel
theorem dX6_change_12 : decode cX6_change 12 = .ok (.iconst 1, 1) := by decide +kernel
theorem dX6_change_13 : decode cX6_change 13 = .ok (.if_icmp .ne 15, 3) := by decide +kernel
theorem dX6_change_16 : decode cX6_change 16 = .ok (.iload_n 3, 1) := by decide +kernel
theorem dX6_change_17 : decode cX6_change 17 = .ok (.i2l, 1) := by decide +kernel
theorem dX6_change_18 : decode cX6_change 18 = .ok (.lconst 0, 1) := by decide +kernel
theorem dX6_change_19 : decode cX6_change 19 = .ok (.ldc2_w 64, 3) := by decide +kernel
theorem dX6_change_22 : decode cX6_change 22 = .ok (.invokestatic 52, 3) := by decide +kernel
theorem dX6_change_25 : decode cX6_change 25 = .ok (.goto 29, 3) := by decide +kernel
theorem dX6_change_28 : decode cX6_change 28 = .ok (.iload_n 2, 1) := by decide +kernel
theorem dX6_change_29 : decode cX6_change 29 = .ok (.i2l, 1) := by decide +kernel
theorem dX6_change_30 : decode cX6_change 30 = .ok (.ldc2_w 86, 3) := by decide +kernel
theorem dX6_change_33 : decode cX6_change 33 = .ok (.ldc2_w 88, 3) := by decide +kernel
theorem dX6_change_36 : decode cX6_change 36 = .ok (.invokestatic 52, 3) := by decide +kernel
theorem dX6_change_39 : decode cX6_change 39 = .ok (.ifCond .eq 14, 3) := by decide +kernel
theorem dX6_change_42 : decode cX6_change 42 = .ok (.iload_n 3, 1) := by decide +kernel
theorem dX6_change_43 : decode cX6_change 43 = .ok (.invokestatic 90, 3) := by decide +kernel
theorem dX6_change_46 : decode cX6_change 46 = .ok (.ifCond .eq 7, 3) := by decide +kernel
theorem dX6_change_49 : decode cX6_change 49 = .ok (.iconst 1, 1) := by decide +kernel
theorem dX6_change_50 : decode cX6_change 50 = .ok (.goto 4, 3) := by decide +kernel
theorem dX6_change_53 : decode cX6_change 53 = .ok (.iconst 0, 1) := by decide +kernel
theorem dX6_change_54 : decode cX6_change 54 = .ok (.istore 4, 2) := by decide +kernel
theorem dX6_change_56 : decode cX6_change 56 = .ok (.aload_n 0, 1) := by decide +kernel
theorem dX6_change_57 : decode cX6_change 57 = .ok (.iload_n 1, 1) := by decide +kernel
theorem dX6_change_58 : decode cX6_change 58 = .ok (.invokevirtual 56, 3) := by decide +kernel
theorem dX6_change_61 : decode cX6_change 61 = .ok (.ifCond .eq 21, 3) := by decide +kernel
theorem dX6_change_64 : decode cX6_change 64 = .ok (.iload 4, 2) := by decide +kernel
theorem dX6_change_66 : decode cX6_change 66 = .ok (.ifCond .eq 16, 3) := by decide +kernel
theorem dX6_change_69 : decode cX6_change 69 = .ok (.aload_n 0, 1) := by decide +kernel
theorem dX6_change_70 : decode cX6_change 70 = .ok (.iload_n 1, 1) := by decide +kernel
theorem dX6_change_71 : decode cX6_change 71 = .ok (.iload_n 2, 1) := by decide +kernel
theorem dX6_change_72 : decode cX6_change 72 = .ok (.invokestatic 66, 3) := by decide +kernel
theorem dX6_change_75 : decode cX6_change 75 = .ok (.iload_n 3, 1) := by decide +kernel
theorem dX6_change_76 : decode cX6_change 76 = .ok (.invokevirtual 93, 3) := by decide +kernel
theorem dX6_change_79 : decode cX6_change 79 = .ok (.goto 9, 3) := by decide +kernel
theorem dX6_change_82 : decode cX6_change 82 = .ok (.aload_n 0, 1) := by decide +kernel
theorem dX6_change_83 : decode cX6_change 83 = .ok (.ldc 49, 2) := by decide +kernel
theorem dX6_change_85 : decode cX6_change 85 = .ok (.invokevirtual 73, 3) := by decide +kernel
theorem dX6_change_88 : decode cX6_change 88 = .ok (.ireturn, 1) := by decide +kernel
theorem dX6_moves_0 : decode cX6_moves 0 = .ok (.aload_n 0, 1) := by decide +kernel
theorem dX6_moves_1 : decode cX6_moves 1 = .ok (.getfield 7, 3) := by decide +kernel
theorem dX6_moves_4 : decode cX6_moves 4 = .ok (.iconst 0, 1) := by decide +kernel
theorem dX6_moves_5 : decode cX6_moves 5 = .ok (.iaload, 1) := by decide +kernel
theorem dX6_moves_6 : decode cX6_moves 6 = .ok (.iconst 2, 1) := by decide +kernel
theorem dX6_moves_7 : decode cX6_moves 7 = .ok (.irem, 1) := by decide +kernel
theorem dX6_moves_8 : decode cX6_moves 8 = .ok (.ifCond .ne 7, 3) := by decide +kernel
theorem dX6_moves_11 : decode cX6_moves 11 = .ok (.iconst (-1), 1) := by decide +kernel
theorem dX6_moves_12 : decode cX6_moves 12 = .ok (.goto 4, 3) := by decide +kernel
theorem dX6_moves_15 : decode cX6_moves 15 = .ok (.iconst 1, 1) := by decide +kernel
theorem dX6_moves_16 : decode cX6_moves 16 = .ok (.istore_n 3, 1) := by decide +kernel
theorem dX6_moves_17 : decode cX6_moves 17 = .ok (.aload_n 0, 1) := by decide +kernel
theorem dX6_moves_18 : decode cX6_moves 18 = .ok (.iload_n 1, 1) := by decide +kernel
theorem dX6_moves_19 : decode cX6_moves 19 = .ok (.iconst 0, 1) := by decide +kernel
theorem dX6_moves_20 : decode cX6_moves 20 = .ok (.invokevirtual 83, 3) := by decide +kernel
theorem dX6_moves_23 : decode cX6_moves 23 = .ok (.tableswitch 62 1 6 #[37, 39, 41, 43, 56, 58], 37) := by decide +kernel
theorem dX6_moves_60 : decode cX6_moves 60 = .ok (.iconst 0, 1) := by decide +kernel
theorem dX6_moves_61 : decode cX6_moves 61 = .ok (.ireturn, 1) := by decide +kernel
theorem dX6_moves_62 : decode cX6_moves 62 = .ok (.iconst (-1), 1) := by decide +kernel
theorem dX6_moves_63 : decode cX6_moves 63 = .ok (.ireturn, 1) := by decide +kernel
theorem dX6_moves_64 : decode cX6_moves 64 = .ok (.iload_n 3, 1) := by decide +kernel
theorem dX6_moves_65 : decode cX6_moves 65 = .ok (.ireturn, 1) := by decide +kernel
theorem dX6_moves_66 : decode cX6_moves 66 = .ok (.iload_n 2, 1) := by decide +kernel
theorem dX6_moves_67 : decode cX6_moves 67 = .ok (.iconst 5, 1) := by decide +kernel
theorem dX6_moves_68 : decode cX6_moves 68 = .ok (.if_icmp .le 9, 3) := by decide +kernel
theorem dX6_moves_71 : decode cX6_moves 71 = .ok (.iload_n 3, 1) := by decide +kernel
theorem dX6_moves_72 : decode cX6_moves 72 = .ok (.iconst 1, 1) := by decide +kernel
theorem dX6_moves_73 : decode cX6_moves 73 = .ok (.iadd, 1) := by decide +kernel
theorem dX6_moves_74 : decode cX6_moves 74 = .ok (.goto 4, 3) := by decide +kernel
theorem dX6_moves_77 : decode cX6_moves 77 = .ok (.iload_n 3, 1) := by decide +kernel
theorem dX6_moves_78 : decode cX6_moves 78 = .ok (.ireturn, 1) := by decide +kernel
theorem dX6_moves_79 : decode cX6_moves 79 = .ok (.iload_n 2, 1) := by decide +kernel
theorem dX6_moves_80 : decode cX6_moves 80 = .ok (.ireturn, 1) := by decide +kernel
theorem dX6_moves_81 : decode cX6_moves 81 = .ok (.iload_n 2, 1) := by decide +kernel
theorem dX6_moves_82 : decode cX6_moves 82 = .ok (.iconst 2, 1) := by decide +kernel
theorem dX6_moves_83 : decode cX6_moves 83 = .ok (.idiv, 1) := by decide +kernel
theorem dX6_moves_84 : decode cX6_moves 84 = .ok (.ireturn, 1) := by decide +kernel
theorem dX6_moves_85 : decode cX6_moves 85 = .ok (.iconst 1, 1) := by decide +kernel
theorem dX6_moves_86 : decode cX6_moves 86 = .ok (.ireturn, 1) := by decide +kernel
theorem dX6_strokes_0 : decode cX6_strokes 0 = .ok (.aload_n 0, 1) := by decide +kernel
theorem dX6_strokes_1 : decode cX6_strokes 1 = .ok (.iload_n 1, 1) := by decide +kernel
theorem dX6_strokes_2 : decode cX6_strokes 2 = .ok (.iconst 1, 1) := by decide +kernel
theorem dX6_strokes_3 : decode cX6_strokes 3 = .ok (.invokevirtual 83, 3) := by decide +kernel
theorem dX6_strokes_6 : decode cX6_strokes 6 = .ok (.istore_n 3, 1) := by decide +kernel
theorem dX6_strokes_7 : decode cX6_strokes 7 = .ok (.iload_n 3, 1) := by decide +kernel
theorem dX6_strokes_8 : decode cX6_strokes 8 = .ok (.iload_n 2, 1) := by decide +kernel
theorem dX6_strokes_9 : decode cX6_strokes 9 = .ok (.iadd, 1) := by decide +kernel
theorem dX6_strokes_10 : decode cX6_strokes 10 = .ok (.iconst 1, 1) := by decide +kernel
theorem dX6_strokes_11 : decode cX6_strokes 11 = .ok (.if_icmp .le 11, 3) := by decide +kernel
theorem dX6_strokes_14 : decode cX6_strokes 14 = .ok (.iload_n 3, 1) := by decide +kernel
theorem dX6_strokes_15 : decode cX6_strokes 15 = .ok (.iload_n 2, 1) := by decide +kernel
theorem dX6_strokes_16 : decode cX6_strokes 16 = .ok (.iadd, 1) := by decide +kernel
theorem dX6_strokes_17 : decode cX6_strokes 17 = .ok (.iconst 1, 1) := by decide +kernel
theorem dX6_strokes_18 : decode cX6_strokes 18 = .ok (.isub, 1) := by decide +kernel
theorem dX6_strokes_19 : decode cX6_strokes 19 = .ok (.goto 4, 3) := by decide +kernel
theorem dX6_strokes_22 : decode cX6_strokes 22 = .ok (.iconst 0, 1) := by decide +kernel
theorem dX6_strokes_23 : decode cX6_strokes 23 = .ok (.istore 4, 2) := by decide +kernel
theorem dX6_strokes_25 : decode cX6_strokes 25 = .ok (.aload_n 0, 1) := by decide +kernel
theorem dX6_strokes_26 : decode cX6_strokes 26 = .ok (.iload_n 1, 1) := by decide +kernel
theorem dX6_strokes_27 : decode cX6_strokes 27 = .ok (.iconst 0, 1) := by decide +kernel
theorem dX6_strokes_28 : decode cX6_strokes 28 = .ok (.invokevirtual 83, 3) := by decide +kernel
theorem dX6_strokes_31 : decode cX6_strokes 31 = .ok (.tableswitch 80 1 6 #[37, 41, 45, 48, 53, 74], 37) := by decide +kernel
theorem dX6_strokes_68 : decode cX6_strokes 68 = .ok (.iload_n 3, 1) := by decide +kernel
theorem dX6_strokes_69 : decode cX6_strokes 69 = .ok (.iconst 2, 1) := by decide +kernel
theorem dX6_strokes_70 : decode cX6_strokes 70 = .ok (.iadd, 1) := by decide +kernel
theorem dX6_strokes_71 : decode cX6_strokes 71 = .ok (.ireturn, 1) := by decide +kernel
theorem dX6_strokes_72 : decode cX6_strokes 72 = .ok (.iload_n 3, 1) := by decide +kernel
theorem dX6_strokes_73 : decode cX6_strokes 73 = .ok (.iload_n 2, 1) := by decide +kernel
theorem dX6_strokes_74 : decode cX6_strokes 74 = .ok (.iadd, 1) := by decide +kernel
theorem dX6_strokes_75 : decode cX6_strokes 75 = .ok (.ireturn, 1) := by decide +kernel
theorem dX6_strokes_76 : decode cX6_strokes 76 = .ok (.iload 4, 2) := by decide +kernel
theorem dX6_strokes_78 : decode cX6_strokes 78 = .ok (.ireturn, 1) := by decide +kernel
theorem dX6_strokes_79 : decode cX6_strokes 79 = .ok (.iconst 2, 1) := by decide +kernel
theorem dX6_strokes_80 : decode cX6_strokes 80 = .ok (.iload 4, 2) := by decide +kernel
theorem dX6_strokes_82 : decode cX6_strokes 82 = .ok (.imul, 1) := by decide +kernel
theorem dX6_strokes_83 : decode cX6_strokes 83 = .ok (.ireturn, 1) := by decide +kernel
theorem dX6_strokes_84 : decode cX6_strokes 84 = .ok (.aload_n 0, 1) := by decide +kernel
theorem dX6_strokes_85 : decode cX6_strokes 85 = .ok (.getfield 7, 3) := by decide +kernel
theorem dX6_strokes_88 : decode cX6_strokes 88 = .ok (.iconst 0, 1) := by decide +kernel
theorem dX6_strokes_89 : decode cX6_strokes 89 = .ok (.iaload, 1) := by decide +kernel
theorem dX6_strokes_90 : decode cX6_strokes 90 = .ok (.bipush 7, 2) := by decide +kernel
theorem dX6_strokes_92 : decode cX6_strokes 92 = .ok (.irem, 1) := by decide +kernel
theorem dX6_strokes_93 : decode cX6_strokes 93 = .ok (.ifCond .ne 10, 3) := by decide +kernel
theorem dX6_strokes_96 : decode cX6_strokes 96 = .ok (.iload_n 3, 1) := by decide +kernel
theorem dX6_strokes_97 : decode cX6_strokes 97 = .ok (.bipush 10, 2) := by decide +kernel
theorem dX6_strokes_99 : decode cX6_strokes 99 = .ok (.iadd, 1) := by decide +kernel
theorem dX6_strokes_100 : decode cX6_strokes 100 = .ok (.goto 4, 3) := by decide +kernel
theorem dX6_strokes_103 : decode cX6_strokes 103 = .ok (.iload_n 3, 1) := by decide +kernel
theorem dX6_strokes_104 : decode cX6_strokes 104 = .ok (.ireturn, 1) := by decide +kernel
theorem dX6_strokes_105 : decode cX6_strokes 105 = .ok (.iload_n 3, 1) := by decide +kernel
theorem dX6_strokes_106 : decode cX6_strokes 106 = .ok (.iconst 2, 1) := by decide +kernel
theorem dX6_strokes_107 : decode cX6_strokes 107 = .ok (.iadd, 1) := by decide +kernel
theorem dX6_strokes_108 : decode cX6_strokes 108 = .ok (.iconst 2, 1) := by decide +kernel
theorem dX6_strokes_109 : decode cX6_strokes 109 = .ok (.idiv, 1) := by decide +kernel
theorem dX6_strokes_110 : decode cX6_strokes 110 = .ok (.ireturn, 1) := by decide +kernel
theorem dX6_strokes_111 : decode cX6_strokes 111 = .ok (.iload_n 3, 1) := by decide +kernel
theorem dX6_strokes_112 : decode cX6_strokes 112 = .ok (.ireturn, 1) := by decide +kernel
theorem dX6_reply_0 : decode cX6_reply 0 = .ok (.aload_n 0, 1) := by decide +kernel
theorem dX6_reply_1 : decode cX6_reply 1 = .ok (.iload_n 1, 1) := by decide +kernel
theorem dX6_reply_2 : decode cX6_reply 2 = .ok (.invokevirtual 56, 3) := by decide +kernel
theorem dX6_reply_5 : decode cX6_reply 5 = .ok (.ifCond .eq 25, 3) := by decide +kernel
theorem dX6_reply_8 : decode cX6_reply 8 = .ok (.iload_n 2, 1) := by decide +kernel
theorem dX6_reply_9 : decode cX6_reply 9 = .ok (.i2l, 1) := by decide +kernel
theorem dX6_reply_10 : decode cX6_reply 10 = .ok (.lconst 1, 1) := by decide +kernel
theorem dX6_reply_11 : decode cX6_reply 11 = .ok (.ldc2_w 96, 3) := by decide +kernel
theorem dX6_reply_14 : decode cX6_reply 14 = .ok (.invokestatic 52, 3) := by decide +kernel
theorem dX6_reply_17 : decode cX6_reply 17 = .ok (.ifCond .eq 13, 3) := by decide +kernel
theorem dX6_reply_20 : decode cX6_reply 20 = .ok (.iload_n 3, 1) := by decide +kernel
theorem dX6_reply_21 : decode cX6_reply 21 = .ok (.i2l, 1) := by decide +kernel
theorem dX6_reply_22 : decode cX6_reply 22 = .ok (.lconst 0, 1) := by decide +kernel
theorem dX6_reply_23 : decode cX6_reply 23 = .ok (.lconst 1, 1) := by decide +kernel
theorem dX6_reply_24 : decode cX6_reply 24 = .ok (.invokestatic 52, 3) := by decide +kernel
theorem dX6_reply_27 : decode cX6_reply 27 = .ok (.ifCond .ne 10, 3) := by decide +kernel
theorem dX6_reply_30 : decode cX6_reply 30 = .ok (.aload_n 0, 1) := by decide +kernel
theorem dX6_reply_31 : decode cX6_reply 31 = .ok (.ldc 49, 2) := by decide +kernel
theorem dX6_reply_33 : decode cX6_reply 33 = .ok (.invokevirtual 73, 3) := by decide +kernel
theorem dX6_reply_36 : decode cX6_reply 36 = .ok (.ireturn, 1) := by decide +kernel
theorem dX6_reply_37 : decode cX6_reply 37 = .ok (.iload_n 3, 1) := by decide +kernel
theorem dX6_reply_38 : decode cX6_reply 38 = .ok (.ifCond .ne 12, 3) := by decide +kernel
theorem dX6_reply_41 : decode cX6_reply 41 = .ok (.aload_n 0, 1) := by decide +kernel
theorem dX6_reply_42 : decode cX6_reply 42 = .ok (.iload_n 1, 1) := by decide +kernel
theorem dX6_reply_43 : decode cX6_reply 43 = .ok (.iload_n 2, 1) := by decide +kernel
theorem dX6_reply_44 : decode cX6_reply 44 = .ok (.invokevirtual 98, 3) := by decide +kernel
theorem dX6_reply_47 : decode cX6_reply 47 = .ok (.goto 9, 3) := by decide +kernel
theorem dX6_reply_50 : decode cX6_reply 50 = .ok (.aload_n 0, 1) := by decide +kernel
theorem dX6_reply_51 : decode cX6_reply 51 = .ok (.iload_n 1, 1) := by decide +kernel
theorem dX6_reply_52 : decode cX6_reply 52 = .ok (.iload_n 2, 1) := by decide +kernel
theorem dX6_reply_53 : decode cX6_reply 53 = .ok (.invokevirtual 101, 3) := by decide +kernel
theorem dX6_reply_56 : decode cX6_reply 56 = .ok (.ireturn, 1) := by decide +kernel
theorem dX6_apartOn_0 : decode cX6_apartOn 0 = .ok (.aload_n 0, 1) := by decide +kernel
theorem dX6_apartOn_1 : decode cX6_apartOn 1 = .ok (.iload_n 1, 1) := by decide +kernel
theorem dX6_apartOn_2 : decode cX6_apartOn 2 = .ok (.iconst 2, 1) := by decide +kernel
theorem dX6_apartOn_3 : decode cX6_apartOn 3 = .ok (.iload_n 3, 1) := by decide +kernel
theorem dX6_apartOn_4 : decode cX6_apartOn 4 = .ok (.iadd, 1) := by decide +kernel
theorem dX6_apartOn_5 : decode cX6_apartOn 5 = .ok (.invokevirtual 83, 3) := by decide +kernel
theorem dX6_apartOn_8 : decode cX6_apartOn 8 = .ok (.aload_n 0, 1) := by decide +kernel
theorem dX6_apartOn_9 : decode cX6_apartOn 9 = .ok (.iload_n 2, 1) := by decide +kernel
theorem dX6_apartOn_10 : decode cX6_apartOn 10 = .ok (.iconst 2, 1) := by decide +kernel
theorem dX6_apartOn_11 : decode cX6_apartOn 11 = .ok (.iload_n 3, 1) := by decide +kernel
theorem dX6_apartOn_12 : decode cX6_apartOn 12 = .ok (.iadd, 1) := by decide +kernel
theorem dX6_apartOn_13 : decode cX6_apartOn 13 = .ok (.invokevirtual 83, 3) := by decide +kernel
theorem dX6_apartOn_16 : decode cX6_apartOn 16 = .ok (.isub, 1) := by decide +kernel
theorem dX6_apartOn_17 : decode cX6_apartOn 17 = .ok (.istore 4, 2) := by decide +kernel
theorem dX6_apartOn_19 : decode cX6_apartOn 19 = .ok (.iload 4, 2) := by decide +kernel
theorem dX6_apartOn_21 : decode cX6_apartOn 21 = .ok (.ifCond .ge 9, 3) := by decide +kernel
theorem dX6_apartOn_24 : decode cX6_apartOn 24 = .ok (.iload 4, 2) := by decide +kernel
theorem dX6_apartOn_26 : decode cX6_apartOn 26 = .ok (.ineg, 1) := by decide +kernel
theorem dX6_apartOn_27 : decode cX6_apartOn 27 = .ok (.goto 5, 3) := by decide +kernel
theorem dX6_apartOn_30 : decode cX6_apartOn 30 = .ok (.iload 4, 2) := by decide +kernel
theorem dX6_apartOn_32 : decode cX6_apartOn 32 = .ok (.ireturn, 1) := by decide +kernel
theorem dX6_apart_0 : decode cX6_apart 0 = .ok (.aload_n 0, 1) := by decide +kernel
theorem dX6_apart_1 : decode cX6_apart 1 = .ok (.iload_n 1, 1) := by decide +kernel
theorem dX6_apart_2 : decode cX6_apart 2 = .ok (.invokevirtual 56, 3) := by decide +kernel
theorem dX6_apart_5 : decode cX6_apart 5 = .ok (.ifCond .eq 28, 3) := by decide +kernel
theorem dX6_apart_8 : decode cX6_apart 8 = .ok (.aload_n 0, 1) := by decide +kernel
theorem dX6_apart_9 : decode cX6_apart 9 = .ok (.iload_n 2, 1) := by decide +kernel
theorem dX6_apart_10 : decode cX6_apart 10 = .ok (.invokevirtual 56, 3) := by decide +kernel
theorem dX6_apart_13 : decode cX6_apart 13 = .ok (.ifCond .eq 20, 3) := by decide +kernel
theorem dX6_apart_16 : decode cX6_apart 16 = .ok (.iload_n 3, 1) := by decide +kernel
theorem dX6_apart_17 : decode cX6_apart 17 = .ok (.invokestatic 104, 3) := by decide +kernel
theorem dX6_apart_20 : decode cX6_apart 20 = .ok (.ifCond .eq 13, 3) := by decide +kernel
theorem dX6_apart_23 : decode cX6_apart 23 = .ok (.aload_n 0, 1) := by decide +kernel
theorem dX6_apart_24 : decode cX6_apart 24 = .ok (.iload_n 1, 1) := by decide +kernel
theorem dX6_apart_25 : decode cX6_apart 25 = .ok (.iload_n 2, 1) := by decide +kernel
theorem dX6_apart_26 : decode cX6_apart 26 = .ok (.iload_n 3, 1) := by decide +kernel
theorem dX6_apart_27 : decode cX6_apart 27 = .ok (.invokevirtual 107, 3) := by decide +kernel
theorem dX6_apart_30 : decode cX6_apart 30 = .ok (.goto 9, 3) := by decide +kernel
theorem dX6_apart_33 : decode cX6_apart 33 = .ok (.aload_n 0, 1) := by decide +kernel
theorem dX6_apart_34 : decode cX6_apart 34 = .ok (.ldc 49, 2) := by decide +kernel
theorem dX6_apart_36 : decode cX6_apart 36 = .ok (.invokevirtual 73, 3) := by decide +kernel
theorem dX6_apart_39 : decode cX6_apart 39 = .ok (.ireturn, 1) := by decide +kernel
theorem dX6_disputed_0 : decode cX6_disputed 0 = .ok (.iconst 0, 1) := by decide +kernel
theorem dX6_disputed_1 : decode cX6_disputed 1 = .ok (.istore_n 1, 1) := by decide +kernel
theorem dX6_disputed_2 : decode cX6_disputed 2 = .ok (.iconst 0, 1) := by decide +kernel
theorem dX6_disputed_3 : decode cX6_disputed 3 = .ok (.istore_n 2, 1) := by decide +kernel
theorem dX6_disputed_4 : decode cX6_disputed 4 = .ok (.iload_n 2, 1) := by decide +kernel
theorem dX6_disputed_5 : decode cX6_disputed 5 = .ok (.bipush 6, 2) := by decide +kernel
theorem dX6_disputed_7 : decode cX6_disputed 7 = .ok (.if_icmp .ge 47, 3) := by decide +kernel
theorem dX6_disputed_10 : decode cX6_disputed 10 = .ok (.aload_n 0, 1) := by decide +kernel
theorem dX6_disputed_11 : decode cX6_disputed 11 = .ok (.invokevirtual 111, 3) := by decide +kernel
theorem dX6_disputed_14 : decode cX6_disputed 14 = .ok (.ifCond .eq 40, 3) := by decide +kernel
theorem dX6_disputed_17 : decode cX6_disputed 17 = .ok (.iload_n 1, 1) := by decide +kernel
theorem dX6_disputed_18 : decode cX6_disputed 18 = .ok (.aload_n 0, 1) := by decide +kernel
theorem dX6_disputed_19 : decode cX6_disputed 19 = .ok (.aload_n 0, 1) := by decide +kernel
theorem dX6_disputed_20 : decode cX6_disputed 20 = .ok (.getfield 7, 3) := by decide +kernel
theorem dX6_disputed_23 : decode cX6_disputed 23 = .ok (.iconst 5, 1) := by decide +kernel
theorem dX6_disputed_24 : decode cX6_disputed 24 = .ok (.iaload, 1) := by decide +kernel
theorem dX6_disputed_25 : decode cX6_disputed 25 = .ok (.aload_n 0, 1) := by decide +kernel
theorem dX6_disputed_26 : decode cX6_disputed 26 = .ok (.getfield 7, 3) := by decide +kernel
theorem dX6_disputed_29 : decode cX6_disputed 29 = .ok (.bipush 6, 2) := by decide +kernel
theorem dX6_disputed_31 : decode cX6_disputed 31 = .ok (.iaload, 1) := by decide +kernel
theorem dX6_disputed_32 : decode cX6_disputed 32 = .ok (.iload_n 2, 1) := by decide +kernel
theorem dX6_disputed_33 : decode cX6_disputed 33 = .ok (.invokevirtual 107, 3) := by decide +kernel
theorem dX6_disputed_36 : decode cX6_disputed 36 = .ok (.ifCond .le 9, 3) := by decide +kernel
theorem dX6_disputed_39 : decode cX6_disputed 39 = .ok (.iconst 1, 1) := by decide +kernel
theorem dX6_disputed_40 : decode cX6_disputed 40 = .ok (.iload_n 2, 1) := by decide +kernel
theorem dX6_disputed_41 : decode cX6_disputed 41 = .ok (.ishl, 1) := by decide +kernel
theorem dX6_disputed_42 : decode cX6_disputed 42 = .ok (.goto 4, 3) := by decide +kernel
theorem dX6_disputed_45 : decode cX6_disputed 45 = .ok (.iconst 0, 1) := by decide +kernel
theorem dX6_disputed_46 : decode cX6_disputed 46 = .ok (.ior, 1) := by decide +kernel
theorem dX6_disputed_47 : decode cX6_disputed 47 = .ok (.istore_n 1, 1) := by decide +kernel
theorem dX6_disputed_48 : decode cX6_disputed 48 = .ok (.iinc 2 1, 3) := by decide +kernel
theorem dX6_disputed_51 : decode cX6_disputed 51 = .ok (.goto (-47), 3) := by decide +kernel
theorem dX6_disputed_54 : decode cX6_disputed 54 = .ok (.iload_n 1, 1) := by decide +kernel
theorem dX6_disputed_55 : decode cX6_disputed 55 = .ok (.ireturn, 1) := by decide +kernel
theorem dX6_ones_0 : decode cX6_ones 0 = .ok (.iconst 0, 1) := by decide +kernel
theorem dX6_ones_1 : decode cX6_ones 1 = .ok (.istore_n 1, 1) := by decide +kernel
theorem dX6_ones_2 : decode cX6_ones 2 = .ok (.iload_n 0, 1) := by decide +kernel
theorem dX6_ones_3 : decode cX6_ones 3 = .ok (.istore_n 2, 1) := by decide +kernel
theorem dX6_ones_4 : decode cX6_ones 4 = .ok (.iload_n 2, 1) := by decide +kernel
theorem dX6_ones_5 : decode cX6_ones 5 = .ok (.ifCond .eq 15, 3) := by decide +kernel
theorem dX6_ones_8 : decode cX6_ones 8 = .ok (.iinc 1 1, 3) := by decide +kernel
theorem dX6_ones_11 : decode cX6_ones 11 = .ok (.iload_n 2, 1) := by decide +kernel
theorem dX6_ones_12 : decode cX6_ones 12 = .ok (.iload_n 2, 1) := by decide +kernel
theorem dX6_ones_13 : decode cX6_ones 13 = .ok (.iconst 1, 1) := by decide +kernel
theorem dX6_ones_14 : decode cX6_ones 14 = .ok (.isub, 1) := by decide +kernel
theorem dX6_ones_15 : decode cX6_ones 15 = .ok (.iand, 1) := by decide +kernel
theorem dX6_ones_16 : decode cX6_ones 16 = .ok (.istore_n 2, 1) := by decide +kernel
theorem dX6_ones_17 : decode cX6_ones 17 = .ok (.goto (-13), 3) := by decide +kernel
theorem dX6_ones_20 : decode cX6_ones 20 = .ok (.iload_n 1, 1) := by decide +kernel
theorem dX6_ones_21 : decode cX6_ones 21 = .ok (.ireturn, 1) := by decide +kernel
theorem dX6_pair_0 : decode cX6_pair 0 = .ok (.aload_n 0, 1) := by decide +kernel
theorem dX6_pair_1 : decode cX6_pair 1 = .ok (.iload_n 1, 1) := by decide +kernel
theorem dX6_pair_2 : decode cX6_pair 2 = .ok (.iload_n 2, 1) := by decide +kernel
theorem dX6_pair_3 : decode cX6_pair 3 = .ok (.invokevirtual 115, 3) := by decide +kernel
theorem dX6_pair_6 : decode cX6_pair 6 = .ok (.ifCond .ne 10, 3) := by decide +kernel
theorem dX6_pair_9 : decode cX6_pair 9 = .ok (.aload_n 0, 1) := by decide +kernel
theorem dX6_pair_10 : decode cX6_pair 10 = .ok (.ldc 49, 2) := by decide +kernel
theorem dX6_pair_12 : decode cX6_pair 12 = .ok (.invokevirtual 73, 3) := by decide +kernel
theorem dX6_pair_15 : decode cX6_pair 15 = .ok (.ireturn, 1) := by decide +kernel
theorem dX6_pair_16 : decode cX6_pair 16 = .ok (.aload_n 0, 1) := by decide +kernel
theorem dX6_pair_17 : decode cX6_pair 17 = .ok (.getfield 7, 3) := by decide +kernel
theorem dX6_pair_20 : decode cX6_pair 20 = .ok (.iconst 5, 1) := by decide +kernel
theorem dX6_pair_21 : decode cX6_pair 21 = .ok (.iload_n 1, 1) := by decide +kernel
theorem dX6_pair_22 : decode cX6_pair 22 = .ok (.iastore, 1) := by decide +kernel
theorem dX6_pair_23 : decode cX6_pair 23 = .ok (.aload_n 0, 1) := by decide +kernel
theorem dX6_pair_24 : decode cX6_pair 24 = .ok (.getfield 7, 3) := by decide +kernel
theorem dX6_pair_27 : decode cX6_pair 27 = .ok (.bipush 6, 2) := by decide +kernel
theorem dX6_pair_29 : decode cX6_pair 29 = .ok (.iload_n 2, 1) := by decide +kernel
theorem dX6_pair_30 : decode cX6_pair 30 = .ok (.iastore, 1) := by decide +kernel
theorem dX6_pair_31 : decode cX6_pair 31 = .ok (.aload_n 0, 1) := by decide +kernel
theorem dX6_pair_32 : decode cX6_pair 32 = .ok (.invokevirtual 119, 3) := by decide +kernel
theorem dX6_pair_35 : decode cX6_pair 35 = .ok (.invokestatic 123, 3) := by decide +kernel
theorem dX6_pair_38 : decode cX6_pair 38 = .ok (.ireturn, 1) := by decide +kernel
theorem dX6_rest_0 : decode cX6_rest 0 = .ok (.aload_n 0, 1) := by decide +kernel
theorem dX6_rest_1 : decode cX6_rest 1 = .ok (.invokevirtual 111, 3) := by decide +kernel
theorem dX6_rest_4 : decode cX6_rest 4 = .ok (.ifCond .eq 7, 3) := by decide +kernel
theorem dX6_rest_7 : decode cX6_rest 7 = .ok (.iconst 1, 1) := by decide +kernel
theorem dX6_rest_8 : decode cX6_rest 8 = .ok (.goto 4, 3) := by decide +kernel
theorem dX6_rest_11 : decode cX6_rest 11 = .ok (.iconst 0, 1) := by decide +kernel
theorem dX6_rest_12 : decode cX6_rest 12 = .ok (.istore_n 1, 1) := by decide +kernel
theorem dX6_rest_13 : decode cX6_rest 13 = .ok (.aload_n 0, 1) := by decide +kernel
theorem dX6_rest_14 : decode cX6_rest 14 = .ok (.getfield 7, 3) := by decide +kernel
theorem dX6_rest_17 : decode cX6_rest 17 = .ok (.iconst 5, 1) := by decide +kernel
theorem dX6_rest_18 : decode cX6_rest 18 = .ok (.iconst (-1), 1) := by decide +kernel
theorem dX6_rest_19 : decode cX6_rest 19 = .ok (.iastore, 1) := by decide +kernel
theorem dX6_rest_20 : decode cX6_rest 20 = .ok (.aload_n 0, 1) := by decide +kernel
theorem dX6_rest_21 : decode cX6_rest 21 = .ok (.getfield 7, 3) := by decide +kernel
theorem dX6_rest_24 : decode cX6_rest 24 = .ok (.bipush 6, 2) := by decide +kernel
theorem dX6_rest_26 : decode cX6_rest 26 = .ok (.iconst (-1), 1) := by decide +kernel
theorem dX6_rest_27 : decode cX6_rest 27 = .ok (.iastore, 1) := by decide +kernel
theorem dX6_rest_28 : decode cX6_rest 28 = .ok (.iload_n 1, 1) := by decide +kernel
theorem dX6_rest_29 : decode cX6_rest 29 = .ok (.ireturn, 1) := by decide +kernel
theorem dX6_subject_0 : decode cX6_subject 0 = .ok (.iload_n 1, 1) := by decide +kernel
theorem dX6_subject_1 : decode cX6_subject 1 = .ok (.invokestatic 104, 3) := by decide +kernel
theorem dX6_subject_4 : decode cX6_subject 4 = .ok (.ifCond .eq 12, 3) := by decide +kernel
theorem dX6_subject_7 : decode cX6_subject 7 = .ok (.aload_n 0, 1) := by decide +kernel
theorem dX6_subject_8 : decode cX6_subject 8 = .ok (.iconst 3, 1) := by decide +kernel
theorem dX6_subject_9 : decode cX6_subject 9 = .ok (.iload_n 1, 1) := by decide +kernel
theorem dX6_subject_10 : decode cX6_subject 10 = .ok (.invokevirtual 93, 3) := by decide +kernel
theorem dX6_subject_13 : decode cX6_subject 13 = .ok (.goto 9, 3) := by decide +kernel
theorem dX6_subject_16 : decode cX6_subject 16 = .ok (.aload_n 0, 1) := by decide +kernel
theorem dX6_subject_17 : decode cX6_subject 17 = .ok (.ldc 49, 2) := by decide +kernel
theorem dX6_subject_19 : decode cX6_subject 19 = .ok (.invokevirtual 73, 3) := by decide +kernel
theorem dX6_subject_22 : decode cX6_subject 22 = .ok (.ireturn, 1) := by decide +kernel
theorem dX6_heldView_0 : decode cX6_heldView 0 = .ok (.iload_n 0, 1) := by decide +kernel
theorem dX6_heldView_1 : decode cX6_heldView 1 = .ok (.bipush (-9), 2) := by decide +kernel
theorem dX6_heldView_3 : decode cX6_heldView 3 = .ok (.if_icmp .ge 8, 3) := by decide +kernel
theorem dX6_heldView_6 : decode cX6_heldView 6 = .ok (.bipush (-9), 2) := by decide +kernel
theorem dX6_heldView_8 : decode cX6_heldView 8 = .ok (.goto 15, 3) := by decide +kernel
theorem dX6_heldView_11 : decode cX6_heldView 11 = .ok (.iload_n 0, 1) := by decide +kernel
theorem dX6_heldView_12 : decode cX6_heldView 12 = .ok (.bipush 9, 2) := by decide +kernel
theorem dX6_heldView_14 : decode cX6_heldView 14 = .ok (.if_icmp .le 8, 3) := by decide +kernel
theorem dX6_heldView_17 : decode cX6_heldView 17 = .ok (.bipush 9, 2) := by decide +kernel
theorem dX6_heldView_19 : decode cX6_heldView 19 = .ok (.goto 4, 3) := by decide +kernel
theorem dX6_heldView_22 : decode cX6_heldView 22 = .ok (.iload_n 0, 1) := by decide +kernel
theorem dX6_heldView_23 : decode cX6_heldView 23 = .ok (.ireturn, 1) := by decide +kernel
theorem dX6_replies_0 : decode cX6_replies 0 = .ok (.aload_n 0, 1) := by decide +kernel
theorem dX6_replies_1 : decode cX6_replies 1 = .ok (.getfield 7, 3) := by decide +kernel
theorem dX6_replies_4 : decode cX6_replies 4 = .ok (.iconst 5, 1) := by decide +kernel
theorem dX6_replies_5 : decode cX6_replies 5 = .ok (.iaload, 1) := by decide +kernel
theorem dX6_replies_6 : decode cX6_replies 6 = .ok (.iconst 2, 1) := by decide +kernel
theorem dX6_replies_7 : decode cX6_replies 7 = .ok (.aload_n 0, 1) := by decide +kernel
theorem dX6_replies_8 : decode cX6_replies 8 = .ok (.getfield 7, 3) := by decide +kernel
theorem dX6_replies_11 : decode cX6_replies 11 = .ok (.iconst 3, 1) := by decide +kernel
theorem dX6_replies_12 : decode cX6_replies 12 = .ok (.iaload, 1) := by decide +kernel
theorem dX6_replies_13 : decode cX6_replies 13 = .ok (.iadd, 1) := by decide +kernel
theorem dX6_replies_14 : decode cX6_replies 14 = .ok (.invokestatic 66, 3) := by decide +kernel
theorem dX6_replies_17 : decode cX6_replies 17 = .ok (.istore_n 2, 1) := by decide +kernel
theorem dX6_replies_18 : decode cX6_replies 18 = .ok (.aload_n 0, 1) := by decide +kernel
theorem dX6_replies_19 : decode cX6_replies 19 = .ok (.getfield 7, 3) := by decide +kernel
theorem dX6_replies_22 : decode cX6_replies 22 = .ok (.bipush 6, 2) := by decide +kernel
theorem dX6_replies_24 : decode cX6_replies 24 = .ok (.iaload, 1) := by decide +kernel
theorem dX6_replies_25 : decode cX6_replies 25 = .ok (.iconst 2, 1) := by decide +kernel
theorem dX6_replies_26 : decode cX6_replies 26 = .ok (.aload_n 0, 1) := by decide +kernel
theorem dX6_replies_27 : decode cX6_replies 27 = .ok (.getfield 7, 3) := by decide +kernel
theorem dX6_replies_30 : decode cX6_replies 30 = .ok (.iconst 3, 1) := by decide +kernel
theorem dX6_replies_31 : decode cX6_replies 31 = .ok (.iaload, 1) := by decide +kernel
theorem dX6_replies_32 : decode cX6_replies 32 = .ok (.iadd, 1) := by decide +kernel
theorem dX6_replies_33 : decode cX6_replies 33 = .ok (.invokestatic 66, 3) := by decide +kernel
theorem dX6_replies_36 : decode cX6_replies 36 = .ok (.istore_n 3, 1) := by decide +kernel
theorem dX6_replies_37 : decode cX6_replies 37 = .ok (.aload_n 0, 1) := by decide +kernel
theorem dX6_replies_38 : decode cX6_replies 38 = .ok (.getfield 7, 3) := by decide +kernel
theorem dX6_replies_41 : decode cX6_replies 41 = .ok (.iload_n 2, 1) := by decide +kernel
theorem dX6_replies_42 : decode cX6_replies 42 = .ok (.iaload, 1) := by decide +kernel
theorem dX6_replies_43 : decode cX6_replies 43 = .ok (.aload_n 0, 1) := by decide +kernel
theorem dX6_replies_44 : decode cX6_replies 44 = .ok (.getfield 7, 3) := by decide +kernel
theorem dX6_replies_47 : decode cX6_replies 47 = .ok (.iload_n 3, 1) := by decide +kernel
theorem dX6_replies_48 : decode cX6_replies 48 = .ok (.iaload, 1) := by decide +kernel
theorem dX6_replies_49 : decode cX6_replies 49 = .ok (.if_icmp .ge 7, 3) := by decide +kernel
theorem dX6_replies_52 : decode cX6_replies 52 = .ok (.iconst 1, 1) := by decide +kernel
theorem dX6_replies_53 : decode cX6_replies 53 = .ok (.goto 4, 3) := by decide +kernel
theorem dX6_replies_56 : decode cX6_replies 56 = .ok (.iconst (-1), 1) := by decide +kernel
theorem dX6_replies_57 : decode cX6_replies 57 = .ok (.istore 4, 2) := by decide +kernel
theorem dX6_replies_59 : decode cX6_replies 59 = .ok (.aload_n 0, 1) := by decide +kernel
theorem dX6_replies_60 : decode cX6_replies 60 = .ok (.aload_n 0, 1) := by decide +kernel
theorem dX6_replies_61 : decode cX6_replies 61 = .ok (.getfield 7, 3) := by decide +kernel
theorem dX6_replies_64 : decode cX6_replies 64 = .ok (.iconst 5, 1) := by decide +kernel
theorem dX6_replies_65 : decode cX6_replies 65 = .ok (.iaload, 1) := by decide +kernel
theorem dX6_replies_66 : decode cX6_replies 66 = .ok (.iload_n 1, 1) := by decide +kernel
theorem dX6_replies_67 : decode cX6_replies 67 = .ok (.invokevirtual 101, 3) := by decide +kernel
theorem dX6_replies_70 : decode cX6_replies 70 = .ok (.aload_n 0, 1) := by decide +kernel
theorem dX6_replies_71 : decode cX6_replies 71 = .ok (.aload_n 0, 1) := by decide +kernel
theorem dX6_replies_72 : decode cX6_replies 72 = .ok (.getfield 7, 3) := by decide +kernel
theorem dX6_replies_75 : decode cX6_replies 75 = .ok (.bipush 6, 2) := by decide +kernel
theorem dX6_replies_77 : decode cX6_replies 77 = .ok (.iaload, 1) := by decide +kernel
theorem dX6_replies_78 : decode cX6_replies 78 = .ok (.iload_n 1, 1) := by decide +kernel
theorem dX6_replies_79 : decode cX6_replies 79 = .ok (.invokevirtual 101, 3) := by decide +kernel
theorem dX6_replies_82 : decode cX6_replies 82 = .ok (.iadd, 1) := by decide +kernel
theorem dX6_replies_83 : decode cX6_replies 83 = .ok (.istore 5, 2) := by decide +kernel
theorem dX6_replies_85 : decode cX6_replies 85 = .ok (.aload_n 0, 1) := by decide +kernel
theorem dX6_replies_86 : decode cX6_replies 86 = .ok (.getfield 7, 3) := by decide +kernel
theorem dX6_replies_89 : decode cX6_replies 89 = .ok (.iconst 2, 1) := by decide +kernel
theorem dX6_replies_90 : decode cX6_replies 90 = .ok (.iaload, 1) := by decide +kernel
theorem dX6_replies_91 : decode cX6_replies 91 = .ok (.iload 5, 2) := by decide +kernel
theorem dX6_replies_93 : decode cX6_replies 93 = .ok (.iadd, 1) := by decide +kernel
theorem dX6_replies_94 : decode cX6_replies 94 = .ok (.istore 6, 2) := by decide +kernel
theorem dX6_replies_96 : decode cX6_replies 96 = .ok (.aload_n 0, 1) := by decide +kernel
theorem dX6_replies_97 : decode cX6_replies 97 = .ok (.dup, 1) := by decide +kernel
theorem dX6_replies_98 : decode cX6_replies 98 = .ok (.getfield 126, 3) := by decide +kernel
theorem dX6_replies_101 : decode cX6_replies 101 = .ok (.iload 5, 2) := by decide +kernel
theorem dX6_replies_103 : decode cX6_replies 103 = .ok (.iadd, 1) := by decide +kernel
theorem dX6_replies_104 : decode cX6_replies 104 = .ok (.putfield 126, 3) := by decide +kernel
theorem dX6_replies_107 : decode cX6_replies 107 = .ok (.aload_n 0, 1) := by decide +kernel
theorem dX6_replies_108 : decode cX6_replies 108 = .ok (.getfield 7, 3) := by decide +kernel
theorem dX6_replies_111 : decode cX6_replies 111 = .ok (.iconst 2, 1) := by decide +kernel
theorem dX6_replies_112 : decode cX6_replies 112 = .ok (.iload 6, 2) := by decide +kernel
theorem dX6_replies_114 : decode cX6_replies 114 = .ok (.ldc 130, 2) := by decide +kernel
theorem dX6_replies_116 : decode cX6_replies 116 = .ok (.if_icmp .le 8, 3) := by decide +kernel
theorem dX6_replies_119 : decode cX6_replies 119 = .ok (.ldc 130, 2) := by decide +kernel
theorem dX6_replies_121 : decode cX6_replies 121 = .ok (.goto 5, 3) := by decide +kernel
theorem dX6_replies_124 : decode cX6_replies 124 = .ok (.iload 6, 2) := by decide +kernel
theorem dX6_replies_126 : decode cX6_replies 126 = .ok (.iastore, 1) := by decide +kernel
theorem dX6_replies_127 : decode cX6_replies 127 = .ok (.aload_n 0, 1) := by decide +kernel
theorem dX6_replies_128 : decode cX6_replies 128 = .ok (.getfield 7, 3) := by decide +kernel
theorem dX6_replies_131 : decode cX6_replies 131 = .ok (.iload_n 2, 1) := by decide +kernel
theorem dX6_replies_132 : decode cX6_replies 132 = .ok (.aload_n 0, 1) := by decide +kernel
theorem dX6_replies_133 : decode cX6_replies 133 = .ok (.getfield 7, 3) := by decide +kernel
theorem dX6_replies_136 : decode cX6_replies 136 = .ok (.iload_n 2, 1) := by decide +kernel
theorem dX6_replies_137 : decode cX6_replies 137 = .ok (.iaload, 1) := by decide +kernel
theorem dX6_replies_138 : decode cX6_replies 138 = .ok (.iload 4, 2) := by decide +kernel
theorem dX6_replies_140 : decode cX6_replies 140 = .ok (.aload_n 0, 1) := by decide +kernel
theorem dX6_replies_141 : decode cX6_replies 141 = .ok (.aload_n 0, 1) := by decide +kernel
theorem dX6_replies_142 : decode cX6_replies 142 = .ok (.getfield 7, 3) := by decide +kernel
theorem dX6_replies_145 : decode cX6_replies 145 = .ok (.iconst 5, 1) := by decide +kernel
theorem dX6_replies_146 : decode cX6_replies 146 = .ok (.iaload, 1) := by decide +kernel
theorem dX6_replies_147 : decode cX6_replies 147 = .ok (.iload_n 1, 1) := by decide +kernel
theorem dX6_replies_148 : decode cX6_replies 148 = .ok (.invokevirtual 98, 3) := by decide +kernel
theorem dX6_replies_151 : decode cX6_replies 151 = .ok (.imul, 1) := by decide +kernel
theorem dX6_replies_152 : decode cX6_replies 152 = .ok (.iadd, 1) := by decide +kernel
theorem dX6_replies_153 : decode cX6_replies 153 = .ok (.invokestatic 131, 3) := by decide +kernel
theorem dX6_replies_156 : decode cX6_replies 156 = .ok (.iastore, 1) := by decide +kernel
theorem dX6_replies_157 : decode cX6_replies 157 = .ok (.aload_n 0, 1) := by decide +kernel
theorem dX6_replies_158 : decode cX6_replies 158 = .ok (.getfield 7, 3) := by decide +kernel
theorem dX6_replies_161 : decode cX6_replies 161 = .ok (.iload_n 3, 1) := by decide +kernel
theorem dX6_replies_162 : decode cX6_replies 162 = .ok (.aload_n 0, 1) := by decide +kernel
theorem dX6_replies_163 : decode cX6_replies 163 = .ok (.getfield 7, 3) := by decide +kernel
theorem dX6_replies_166 : decode cX6_replies 166 = .ok (.iload_n 3, 1) := by decide +kernel
theorem dX6_replies_167 : decode cX6_replies 167 = .ok (.iaload, 1) := by decide +kernel
theorem dX6_replies_168 : decode cX6_replies 168 = .ok (.iload 4, 2) := by decide +kernel
theorem dX6_replies_170 : decode cX6_replies 170 = .ok (.aload_n 0, 1) := by decide +kernel
theorem dX6_replies_171 : decode cX6_replies 171 = .ok (.aload_n 0, 1) := by decide +kernel
theorem dX6_replies_172 : decode cX6_replies 172 = .ok (.getfield 7, 3) := by decide +kernel
theorem dX6_replies_175 : decode cX6_replies 175 = .ok (.bipush 6, 2) := by decide +kernel
theorem dX6_replies_177 : decode cX6_replies 177 = .ok (.iaload, 1) := by decide +kernel
theorem dX6_replies_178 : decode cX6_replies 178 = .ok (.iload_n 1, 1) := by decide +kernel
theorem dX6_replies_179 : decode cX6_replies 179 = .ok (.invokevirtual 98, 3) := by decide +kernel
theorem dX6_replies_182 : decode cX6_replies 182 = .ok (.imul, 1) := by decide +kernel
theorem dX6_replies_183 : decode cX6_replies 183 = .ok (.isub, 1) := by decide +kernel
theorem dX6_replies_184 : decode cX6_replies 184 = .ok (.invokestatic 131, 3) := by decide +kernel
theorem dX6_replies_187 : decode cX6_replies 187 = .ok (.iastore, 1) := by decide +kernel
theorem dX6_replies_188 : decode cX6_replies 188 = .ok (.return_, 1) := by decide +kernel
theorem dX6_minute_0 : decode cX6_minute 0 = .ok (.aload_n 0, 1) := by decide +kernel
theorem dX6_minute_1 : decode cX6_minute 1 = .ok (.invokevirtual 111, 3) := by decide +kernel
theorem dX6_minute_4 : decode cX6_minute 4 = .ok (.ifCond .eq 56, 3) := by decide +kernel
theorem dX6_minute_7 : decode cX6_minute 7 = .ok (.aload_n 0, 1) := by decide +kernel
theorem dX6_minute_8 : decode cX6_minute 8 = .ok (.aload_n 0, 1) := by decide +kernel
theorem dX6_minute_9 : decode cX6_minute 9 = .ok (.getfield 7, 3) := by decide +kernel
theorem dX6_minute_12 : decode cX6_minute 12 = .ok (.iconst 5, 1) := by decide +kernel
theorem dX6_minute_13 : decode cX6_minute 13 = .ok (.iaload, 1) := by decide +kernel
theorem dX6_minute_14 : decode cX6_minute 14 = .ok (.aload_n 0, 1) := by decide +kernel
theorem dX6_minute_15 : decode cX6_minute 15 = .ok (.getfield 7, 3) := by decide +kernel
theorem dX6_minute_18 : decode cX6_minute 18 = .ok (.bipush 6, 2) := by decide +kernel
theorem dX6_minute_20 : decode cX6_minute 20 = .ok (.iaload, 1) := by decide +kernel
theorem dX6_minute_21 : decode cX6_minute 21 = .ok (.aload_n 0, 1) := by decide +kernel
theorem dX6_minute_22 : decode cX6_minute 22 = .ok (.getfield 7, 3) := by decide +kernel
theorem dX6_minute_25 : decode cX6_minute 25 = .ok (.iconst 3, 1) := by decide +kernel
theorem dX6_minute_26 : decode cX6_minute 26 = .ok (.iaload, 1) := by decide +kernel
theorem dX6_minute_27 : decode cX6_minute 27 = .ok (.invokevirtual 107, 3) := by decide +kernel
theorem dX6_minute_30 : decode cX6_minute 30 = .ok (.istore_n 1, 1) := by decide +kernel
theorem dX6_minute_31 : decode cX6_minute 31 = .ok (.iload_n 1, 1) := by decide +kernel
theorem dX6_minute_32 : decode cX6_minute 32 = .ok (.ifCond .ne 23, 3) := by decide +kernel
theorem dX6_minute_35 : decode cX6_minute 35 = .ok (.aload_n 0, 1) := by decide +kernel
theorem dX6_minute_36 : decode cX6_minute 36 = .ok (.getfield 7, 3) := by decide +kernel
theorem dX6_minute_39 : decode cX6_minute 39 = .ok (.iconst 3, 1) := by decide +kernel
theorem dX6_minute_40 : decode cX6_minute 40 = .ok (.aload_n 0, 1) := by decide +kernel
theorem dX6_minute_41 : decode cX6_minute 41 = .ok (.getfield 7, 3) := by decide +kernel
theorem dX6_minute_44 : decode cX6_minute 44 = .ok (.iconst 3, 1) := by decide +kernel
theorem dX6_minute_45 : decode cX6_minute 45 = .ok (.iaload, 1) := by decide +kernel
theorem dX6_minute_46 : decode cX6_minute 46 = .ok (.iconst 1, 1) := by decide +kernel
theorem dX6_minute_47 : decode cX6_minute 47 = .ok (.iadd, 1) := by decide +kernel
theorem dX6_minute_48 : decode cX6_minute 48 = .ok (.bipush 6, 2) := by decide +kernel
theorem dX6_minute_50 : decode cX6_minute 50 = .ok (.irem, 1) := by decide +kernel
theorem dX6_minute_51 : decode cX6_minute 51 = .ok (.iastore, 1) := by decide +kernel
theorem dX6_minute_52 : decode cX6_minute 52 = .ok (.goto 8, 3) := by decide +kernel
theorem dX6_minute_55 : decode cX6_minute 55 = .ok (.aload_n 0, 1) := by decide +kernel
theorem dX6_minute_56 : decode cX6_minute 56 = .ok (.iload_n 1, 1) := by decide +kernel
theorem dX6_minute_57 : decode cX6_minute 57 = .ok (.invokevirtual 134, 3) := by decide +kernel
theorem dX6_minute_60 : decode cX6_minute 60 = .ok (.aload_n 0, 1) := by decide +kernel
theorem dX6_minute_61 : decode cX6_minute 61 = .ok (.getfield 7, 3) := by decide +kernel
theorem dX6_minute_64 : decode cX6_minute 64 = .ok (.iconst 0, 1) := by decide +kernel
theorem dX6_minute_65 : decode cX6_minute 65 = .ok (.dup2, 1) := by decide +kernel
theorem dX6_minute_66 : decode cX6_minute 66 = .ok (.iaload, 1) := by decide +kernel
theorem dX6_minute_67 : decode cX6_minute 67 = .ok (.iconst 1, 1) := by decide +kernel
theorem dX6_minute_68 : decode cX6_minute 68 = .ok (.iadd, 1) := by decide +kernel
theorem dX6_minute_69 : decode cX6_minute 69 = .ok (.iastore, 1) := by decide +kernel
theorem dX6_minute_70 : decode cX6_minute 70 = .ok (.return_, 1) := by decide +kernel
theorem dX6_goesOn_0 : decode cX6_goesOn 0 = .ok (.iconst 0, 1) := by decide +kernel
theorem dX6_goesOn_1 : decode cX6_goesOn 1 = .ok (.istore_n 2, 1) := by decide +kernel
theorem dX6_goesOn_2 : decode cX6_goesOn 2 = .ok (.iload_n 2, 1) := by decide +kernel
theorem dX6_goesOn_3 : decode cX6_goesOn 3 = .ok (.iload_n 1, 1) := by decide +kernel
theorem dX6_goesOn_4 : decode cX6_goesOn 4 = .ok (.if_icmp .ge 13, 3) := by decide +kernel
theorem dX6_goesOn_7 : decode cX6_goesOn 7 = .ok (.aload_n 0, 1) := by decide +kernel
theorem dX6_goesOn_8 : decode cX6_goesOn 8 = .ok (.invokevirtual 138, 3) := by decide +kernel
theorem dX6_goesOn_11 : decode cX6_goesOn 11 = .ok (.iinc 2 1, 3) := by decide +kernel
theorem dX6_goesOn_14 : decode cX6_goesOn 14 = .ok (.goto (-12), 3) := by decide +kernel
theorem dX6_goesOn_17 : decode cX6_goesOn 17 = .ok (.return_, 1) := by decide +kernel
theorem dX6_go_0 : decode cX6_go 0 = .ok (.iload_n 1, 1) := by decide +kernel
theorem dX6_go_1 : decode cX6_go 1 = .ok (.i2l, 1) := by decide +kernel
theorem dX6_go_2 : decode cX6_go 2 = .ok (.lconst 1, 1) := by decide +kernel
theorem dX6_go_3 : decode cX6_go 3 = .ok (.ldc2_w 141, 3) := by decide +kernel
theorem dX6_go_6 : decode cX6_go 6 = .ok (.invokestatic 52, 3) := by decide +kernel
theorem dX6_go_9 : decode cX6_go 9 = .ok (.ifCond .ne 10, 3) := by decide +kernel
theorem dX6_go_12 : decode cX6_go 12 = .ok (.aload_n 0, 1) := by decide +kernel
theorem dX6_go_13 : decode cX6_go 13 = .ok (.ldc 49, 2) := by decide +kernel
theorem dX6_go_15 : decode cX6_go 15 = .ok (.invokevirtual 73, 3) := by decide +kernel
theorem dX6_go_18 : decode cX6_go 18 = .ok (.ireturn, 1) := by decide +kernel
theorem dX6_go_19 : decode cX6_go 19 = .ok (.aload_n 0, 1) := by decide +kernel
theorem dX6_go_20 : decode cX6_go 20 = .ok (.getfield 7, 3) := by decide +kernel
theorem dX6_go_23 : decode cX6_go 23 = .ok (.iconst 0, 1) := by decide +kernel
theorem dX6_go_24 : decode cX6_go 24 = .ok (.iaload, 1) := by decide +kernel
theorem dX6_go_25 : decode cX6_go 25 = .ok (.iload_n 1, 1) := by decide +kernel
theorem dX6_go_26 : decode cX6_go 26 = .ok (.iadd, 1) := by decide +kernel
theorem dX6_go_27 : decode cX6_go 27 = .ok (.ldc 143, 2) := by decide +kernel
theorem dX6_go_29 : decode cX6_go 29 = .ok (.if_icmp .le 10, 3) := by decide +kernel
theorem dX6_go_32 : decode cX6_go 32 = .ok (.aload_n 0, 1) := by decide +kernel
theorem dX6_go_33 : decode cX6_go 33 = .ok (.ldc 144, 2) := by decide +kernel
theorem dX6_go_35 : decode cX6_go 35 = .ok (.invokevirtual 73, 3) := by decide +kernel
theorem dX6_go_38 : decode cX6_go 38 = .ok (.ireturn, 1) := by decide +kernel
theorem dX6_go_39 : decode cX6_go 39 = .ok (.aload_n 0, 1) := by decide +kernel
theorem dX6_go_40 : decode cX6_go 40 = .ok (.iload_n 1, 1) := by decide +kernel
theorem dX6_go_41 : decode cX6_go 41 = .ok (.invokevirtual 145, 3) := by decide +kernel
theorem dX6_go_44 : decode cX6_go 44 = .ok (.aload_n 0, 1) := by decide +kernel
theorem dX6_go_45 : decode cX6_go 45 = .ok (.getfield 7, 3) := by decide +kernel
theorem dX6_go_48 : decode cX6_go 48 = .ok (.iconst 2, 1) := by decide +kernel
theorem dX6_go_49 : decode cX6_go 49 = .ok (.iaload, 1) := by decide +kernel
theorem dX6_go_50 : decode cX6_go 50 = .ok (.ireturn, 1) := by decide +kernel
theorem dX6_voices_0 : decode cX6_voices 0 = .ok (.iconst 0, 1) := by decide +kernel
theorem dX6_voices_1 : decode cX6_voices 1 = .ok (.istore_n 1, 1) := by decide +kernel
theorem dX6_voices_2 : decode cX6_voices 2 = .ok (.iconst 0, 1) := by decide +kernel
theorem dX6_voices_3 : decode cX6_voices 3 = .ok (.istore_n 2, 1) := by decide +kernel
theorem dX6_voices_4 : decode cX6_voices 4 = .ok (.iload_n 2, 1) := by decide +kernel
theorem dX6_voices_5 : decode cX6_voices 5 = .ok (.aload_n 0, 1) := by decide +kernel
theorem dX6_voices_6 : decode cX6_voices 6 = .ok (.getfield 7, 3) := by decide +kernel
theorem dX6_voices_9 : decode cX6_voices 9 = .ok (.iconst 1, 1) := by decide +kernel
theorem dX6_voices_10 : decode cX6_voices 10 = .ok (.iaload, 1) := by decide +kernel
theorem dX6_voices_11 : decode cX6_voices 11 = .ok (.if_icmp .ge 18, 3) := by decide +kernel
theorem dX6_voices_14 : decode cX6_voices 14 = .ok (.iload_n 1, 1) := by decide +kernel
theorem dX6_voices_15 : decode cX6_voices 15 = .ok (.aload_n 0, 1) := by decide +kernel
theorem dX6_voices_16 : decode cX6_voices 16 = .ok (.iload_n 2, 1) := by decide +kernel
theorem dX6_voices_17 : decode cX6_voices 17 = .ok (.iconst 1, 1) := by decide +kernel
theorem dX6_voices_18 : decode cX6_voices 18 = .ok (.invokevirtual 83, 3) := by decide +kernel
theorem dX6_voices_21 : decode cX6_voices 21 = .ok (.iadd, 1) := by decide +kernel
theorem dX6_voices_22 : decode cX6_voices 22 = .ok (.istore_n 1, 1) := by decide +kernel
theorem dX6_voices_23 : decode cX6_voices 23 = .ok (.iinc 2 1, 3) := by decide +kernel
theorem dX6_voices_26 : decode cX6_voices 26 = .ok (.goto (-22), 3) := by decide +kernel
theorem dX6_voices_29 : decode cX6_voices 29 = .ok (.iload_n 1, 1) := by decide +kernel
theorem dX6_voices_30 : decode cX6_voices 30 = .ok (.ireturn, 1) := by decide +kernel
theorem dX6_now_0 : decode cX6_now 0 = .ok (.iload_n 1, 1) := by decide +kernel
theorem dX6_now_1 : decode cX6_now 1 = .ok (.tableswitch 99 0 5 #[39, 46, 53, 60, 89, 94], 39) := by decide +kernel
theorem dX6_now_40 : decode cX6_now 40 = .ok (.aload_n 0, 1) := by decide +kernel
theorem dX6_now_41 : decode cX6_now 41 = .ok (.getfield 7, 3) := by decide +kernel
theorem dX6_now_44 : decode cX6_now 44 = .ok (.iconst 0, 1) := by decide +kernel
theorem dX6_now_45 : decode cX6_now 45 = .ok (.iaload, 1) := by decide +kernel
theorem dX6_now_46 : decode cX6_now 46 = .ok (.ireturn, 1) := by decide +kernel
theorem dX6_now_47 : decode cX6_now 47 = .ok (.aload_n 0, 1) := by decide +kernel
theorem dX6_now_48 : decode cX6_now 48 = .ok (.getfield 7, 3) := by decide +kernel
theorem dX6_now_51 : decode cX6_now 51 = .ok (.iconst 2, 1) := by decide +kernel
theorem dX6_now_52 : decode cX6_now 52 = .ok (.iaload, 1) := by decide +kernel
theorem dX6_now_53 : decode cX6_now 53 = .ok (.ireturn, 1) := by decide +kernel
theorem dX6_now_54 : decode cX6_now 54 = .ok (.aload_n 0, 1) := by decide +kernel
theorem dX6_now_55 : decode cX6_now 55 = .ok (.getfield 7, 3) := by decide +kernel
theorem dX6_now_58 : decode cX6_now 58 = .ok (.iconst 3, 1) := by decide +kernel
theorem dX6_now_59 : decode cX6_now 59 = .ok (.iaload, 1) := by decide +kernel
theorem dX6_now_60 : decode cX6_now 60 = .ok (.ireturn, 1) := by decide +kernel
theorem dX6_now_61 : decode cX6_now 61 = .ok (.aload_n 0, 1) := by decide +kernel
theorem dX6_now_62 : decode cX6_now 62 = .ok (.invokevirtual 111, 3) := by decide +kernel
theorem dX6_now_65 : decode cX6_now 65 = .ok (.ifCond .eq 23, 3) := by decide +kernel
theorem dX6_now_68 : decode cX6_now 68 = .ok (.bipush 8, 2) := by decide +kernel
theorem dX6_now_70 : decode cX6_now 70 = .ok (.aload_n 0, 1) := by decide +kernel
theorem dX6_now_71 : decode cX6_now 71 = .ok (.getfield 7, 3) := by decide +kernel
theorem dX6_now_74 : decode cX6_now 74 = .ok (.iconst 5, 1) := by decide +kernel
theorem dX6_now_75 : decode cX6_now 75 = .ok (.iaload, 1) := by decide +kernel
theorem dX6_now_76 : decode cX6_now 76 = .ok (.imul, 1) := by decide +kernel
theorem dX6_now_77 : decode cX6_now 77 = .ok (.aload_n 0, 1) := by decide +kernel
theorem dX6_now_78 : decode cX6_now 78 = .ok (.getfield 7, 3) := by decide +kernel
theorem dX6_now_81 : decode cX6_now 81 = .ok (.bipush 6, 2) := by decide +kernel
theorem dX6_now_83 : decode cX6_now 83 = .ok (.iaload, 1) := by decide +kernel
theorem dX6_now_84 : decode cX6_now 84 = .ok (.iadd, 1) := by decide +kernel
theorem dX6_now_85 : decode cX6_now 85 = .ok (.goto 4, 3) := by decide +kernel
theorem dX6_now_88 : decode cX6_now 88 = .ok (.iconst (-1), 1) := by decide +kernel
theorem dX6_now_89 : decode cX6_now 89 = .ok (.ireturn, 1) := by decide +kernel
theorem dX6_now_90 : decode cX6_now 90 = .ok (.aload_n 0, 1) := by decide +kernel
theorem dX6_now_91 : decode cX6_now 91 = .ok (.invokevirtual 119, 3) := by decide +kernel
theorem dX6_now_94 : decode cX6_now 94 = .ok (.ireturn, 1) := by decide +kernel
theorem dX6_now_95 : decode cX6_now 95 = .ok (.aload_n 0, 1) := by decide +kernel
theorem dX6_now_96 : decode cX6_now 96 = .ok (.invokevirtual 148, 3) := by decide +kernel
theorem dX6_now_99 : decode cX6_now 99 = .ok (.ireturn, 1) := by decide +kernel
theorem dX6_now_100 : decode cX6_now 100 = .ok (.aload_n 0, 1) := by decide +kernel
theorem dX6_now_101 : decode cX6_now 101 = .ok (.ldc 49, 2) := by decide +kernel
theorem dX6_now_103 : decode cX6_now 103 = .ok (.invokevirtual 73, 3) := by decide +kernel
theorem dX6_now_106 : decode cX6_now 106 = .ok (.ireturn, 1) := by decide +kernel
theorem dX6_behind_0 : decode cX6_behind 0 = .ok (.aload_n 0, 1) := by decide +kernel
theorem dX6_behind_1 : decode cX6_behind 1 = .ok (.invokevirtual 151, 3) := by decide +kernel
theorem dX6_behind_4 : decode cX6_behind 4 = .ok (.aload_n 0, 1) := by decide +kernel
theorem dX6_behind_5 : decode cX6_behind 5 = .ok (.iload_n 2, 1) := by decide +kernel
theorem dX6_behind_6 : decode cX6_behind 6 = .ok (.invokevirtual 145, 3) := by decide +kernel
theorem dX6_behind_9 : decode cX6_behind 9 = .ok (.aload_n 0, 1) := by decide +kernel
theorem dX6_behind_10 : decode cX6_behind 10 = .ok (.aload_n 0, 1) := by decide +kernel
theorem dX6_behind_11 : decode cX6_behind 11 = .ok (.getfield 7, 3) := by decide +kernel
theorem dX6_behind_14 : decode cX6_behind 14 = .ok (.iload_n 1, 1) := by decide +kernel
theorem dX6_behind_15 : decode cX6_behind 15 = .ok (.iaload, 1) := by decide +kernel
theorem dX6_behind_16 : decode cX6_behind 16 = .ok (.invokevirtual 154, 3) := by decide +kernel
theorem dX6_behind_19 : decode cX6_behind 19 = .ok (.ireturn, 1) := by decide +kernel
theorem dX6_ahead_0 : decode cX6_ahead 0 = .ok (.iload_n 1, 1) := by decide +kernel
theorem dX6_ahead_1 : decode cX6_ahead 1 = .ok (.i2l, 1) := by decide +kernel
theorem dX6_ahead_2 : decode cX6_ahead 2 = .ok (.lconst 0, 1) := by decide +kernel
theorem dX6_ahead_3 : decode cX6_ahead 3 = .ok (.ldc2_w 157, 3) := by decide +kernel
theorem dX6_ahead_6 : decode cX6_ahead 6 = .ok (.invokestatic 52, 3) := by decide +kernel
theorem dX6_ahead_9 : decode cX6_ahead 9 = .ok (.ifCond .eq 12, 3) := by decide +kernel
theorem dX6_ahead_12 : decode cX6_ahead 12 = .ok (.aload_n 0, 1) := by decide +kernel
theorem dX6_ahead_13 : decode cX6_ahead 13 = .ok (.iconst 2, 1) := by decide +kernel
theorem dX6_ahead_14 : decode cX6_ahead 14 = .ok (.iload_n 1, 1) := by decide +kernel
theorem dX6_ahead_15 : decode cX6_ahead 15 = .ok (.invokevirtual 159, 3) := by decide +kernel
theorem dX6_ahead_18 : decode cX6_ahead 18 = .ok (.goto 9, 3) := by decide +kernel
theorem dX6_ahead_21 : decode cX6_ahead 21 = .ok (.aload_n 0, 1) := by decide +kernel
theorem dX6_ahead_22 : decode cX6_ahead 22 = .ok (.ldc 49, 2) := by decide +kernel
theorem dX6_ahead_24 : decode cX6_ahead 24 = .ok (.invokevirtual 73, 3) := by decide +kernel
theorem dX6_ahead_27 : decode cX6_ahead 27 = .ok (.ireturn, 1) := by decide +kernel
theorem dX6_view_0 : decode cX6_view 0 = .ok (.aload_n 0, 1) := by decide +kernel
theorem dX6_view_1 : decode cX6_view 1 = .ok (.iload_n 1, 1) := by decide +kernel
theorem dX6_view_2 : decode cX6_view 2 = .ok (.invokevirtual 56, 3) := by decide +kernel
theorem dX6_view_5 : decode cX6_view 5 = .ok (.ifCond .eq 37, 3) := by decide +kernel
theorem dX6_view_8 : decode cX6_view 8 = .ok (.iload_n 2, 1) := by decide +kernel
theorem dX6_view_9 : decode cX6_view 9 = .ok (.invokestatic 104, 3) := by decide +kernel
theorem dX6_view_12 : decode cX6_view 12 = .ok (.ifCond .eq 30, 3) := by decide +kernel
theorem dX6_view_15 : decode cX6_view 15 = .ok (.iload_n 3, 1) := by decide +kernel
theorem dX6_view_16 : decode cX6_view 16 = .ok (.i2l, 1) := by decide +kernel
theorem dX6_view_17 : decode cX6_view 17 = .ok (.lconst 0, 1) := by decide +kernel
theorem dX6_view_18 : decode cX6_view 18 = .ok (.ldc2_w 157, 3) := by decide +kernel
theorem dX6_view_21 : decode cX6_view 21 = .ok (.invokestatic 52, 3) := by decide +kernel
theorem dX6_view_24 : decode cX6_view 24 = .ok (.ifCond .eq 18, 3) := by decide +kernel
theorem dX6_view_27 : decode cX6_view 27 = .ok (.aload_n 0, 1) := by decide +kernel
theorem dX6_view_28 : decode cX6_view 28 = .ok (.iload_n 1, 1) := by decide +kernel
theorem dX6_view_29 : decode cX6_view 29 = .ok (.iconst 2, 1) := by decide +kernel
theorem dX6_view_30 : decode cX6_view 30 = .ok (.iload_n 2, 1) := by decide +kernel
theorem dX6_view_31 : decode cX6_view 31 = .ok (.iadd, 1) := by decide +kernel
theorem dX6_view_32 : decode cX6_view 32 = .ok (.invokestatic 66, 3) := by decide +kernel
theorem dX6_view_35 : decode cX6_view 35 = .ok (.iload_n 3, 1) := by decide +kernel
theorem dX6_view_36 : decode cX6_view 36 = .ok (.invokevirtual 159, 3) := by decide +kernel
theorem dX6_view_39 : decode cX6_view 39 = .ok (.goto 9, 3) := by decide +kernel
theorem dX6_view_42 : decode cX6_view 42 = .ok (.aload_n 0, 1) := by decide +kernel
theorem dX6_view_43 : decode cX6_view 43 = .ok (.ldc 49, 2) := by decide +kernel
theorem dX6_view_45 : decode cX6_view 45 = .ok (.invokevirtual 73, 3) := by decide +kernel
theorem dX6_view_48 : decode cX6_view 48 = .ok (.ireturn, 1) := by decide +kernel
theorem dX6_orNone_0 : decode cX6_orNone 0 = .ok (.iload_n 1, 1) := by decide +kernel
theorem dX6_orNone_1 : decode cX6_orNone 1 = .ok (.sipush 300, 3) := by decide +kernel
theorem dX6_orNone_4 : decode cX6_orNone 4 = .ok (.if_icmp .le 12, 3) := by decide +kernel
theorem dX6_orNone_7 : decode cX6_orNone 7 = .ok (.aload_n 0, 1) := by decide +kernel
theorem dX6_orNone_8 : decode cX6_orNone 8 = .ok (.ldc 162, 2) := by decide +kernel
theorem dX6_orNone_10 : decode cX6_orNone 10 = .ok (.invokevirtual 73, 3) := by decide +kernel
theorem dX6_orNone_13 : decode cX6_orNone 13 = .ok (.goto 4, 3) := by decide +kernel
theorem dX6_orNone_16 : decode cX6_orNone 16 = .ok (.iload_n 1, 1) := by decide +kernel
theorem dX6_orNone_17 : decode cX6_orNone 17 = .ok (.ireturn, 1) := by decide +kernel
theorem dX6_dry_0 : decode cX6_dry 0 = .ok (.aload_n 0, 1) := by decide +kernel
theorem dX6_dry_1 : decode cX6_dry 1 = .ok (.invokevirtual 151, 3) := by decide +kernel
theorem dX6_dry_4 : decode cX6_dry 4 = .ok (.iconst 0, 1) := by decide +kernel
theorem dX6_dry_5 : decode cX6_dry 5 = .ok (.istore_n 1, 1) := by decide +kernel
theorem dX6_dry_6 : decode cX6_dry 6 = .ok (.iload_n 1, 1) := by decide +kernel
theorem dX6_dry_7 : decode cX6_dry 7 = .ok (.sipush 300, 3) := by decide +kernel
theorem dX6_dry_10 : decode cX6_dry 10 = .ok (.if_icmp .gt 20, 3) := by decide +kernel
theorem dX6_dry_13 : decode cX6_dry 13 = .ok (.aload_n 0, 1) := by decide +kernel
theorem dX6_dry_14 : decode cX6_dry 14 = .ok (.invokevirtual 119, 3) := by decide +kernel
theorem dX6_dry_17 : decode cX6_dry 17 = .ok (.ifCond .eq 13, 3) := by decide +kernel
theorem dX6_dry_20 : decode cX6_dry 20 = .ok (.aload_n 0, 1) := by decide +kernel
theorem dX6_dry_21 : decode cX6_dry 21 = .ok (.invokevirtual 138, 3) := by decide +kernel
theorem dX6_dry_24 : decode cX6_dry 24 = .ok (.iinc 1 1, 3) := by decide +kernel
theorem dX6_dry_27 : decode cX6_dry 27 = .ok (.goto (-21), 3) := by decide +kernel
theorem dX6_dry_30 : decode cX6_dry 30 = .ok (.aload_n 0, 1) := by decide +kernel
theorem dX6_dry_31 : decode cX6_dry 31 = .ok (.aload_n 0, 1) := by decide +kernel
theorem dX6_dry_32 : decode cX6_dry 32 = .ok (.iload_n 1, 1) := by decide +kernel
theorem dX6_dry_33 : decode cX6_dry 33 = .ok (.invokevirtual 154, 3) := by decide +kernel
theorem dX6_dry_36 : decode cX6_dry 36 = .ok (.invokevirtual 163, 3) := by decide +kernel
theorem dX6_dry_39 : decode cX6_dry 39 = .ok (.ireturn, 1) := by decide +kernel
theorem dX6_filled_0 : decode cX6_filled 0 = .ok (.iload_n 1, 1) := by decide +kernel
theorem dX6_filled_1 : decode cX6_filled 1 = .ok (.i2l, 1) := by decide +kernel
theorem dX6_filled_2 : decode cX6_filled 2 = .ok (.lconst 0, 1) := by decide +kernel
theorem dX6_filled_3 : decode cX6_filled 3 = .ok (.ldc2_w 166, 3) := by decide +kernel
theorem dX6_filled_6 : decode cX6_filled 6 = .ok (.invokestatic 52, 3) := by decide +kernel
theorem dX6_filled_9 : decode cX6_filled 9 = .ok (.ifCond .ne 10, 3) := by decide +kernel
theorem dX6_filled_12 : decode cX6_filled 12 = .ok (.aload_n 0, 1) := by decide +kernel
theorem dX6_filled_13 : decode cX6_filled 13 = .ok (.ldc 49, 2) := by decide +kernel
theorem dX6_filled_15 : decode cX6_filled 15 = .ok (.invokevirtual 73, 3) := by decide +kernel
theorem dX6_filled_18 : decode cX6_filled 18 = .ok (.ireturn, 1) := by decide +kernel
theorem dX6_filled_19 : decode cX6_filled 19 = .ok (.aload_n 0, 1) := by decide +kernel
theorem dX6_filled_20 : decode cX6_filled 20 = .ok (.invokevirtual 151, 3) := by decide +kernel
theorem dX6_filled_23 : decode cX6_filled 23 = .ok (.iconst 0, 1) := by decide +kernel
theorem dX6_filled_24 : decode cX6_filled 24 = .ok (.istore_n 2, 1) := by decide +kernel
theorem dX6_filled_25 : decode cX6_filled 25 = .ok (.iload_n 2, 1) := by decide +kernel
theorem dX6_filled_26 : decode cX6_filled 26 = .ok (.sipush 300, 3) := by decide +kernel
theorem dX6_filled_29 : decode cX6_filled 29 = .ok (.if_icmp .gt 23, 3) := by decide +kernel
theorem dX6_filled_32 : decode cX6_filled 32 = .ok (.aload_n 0, 1) := by decide +kernel
theorem dX6_filled_33 : decode cX6_filled 33 = .ok (.getfield 7, 3) := by decide +kernel
theorem dX6_filled_36 : decode cX6_filled 36 = .ok (.iconst 2, 1) := by decide +kernel
theorem dX6_filled_37 : decode cX6_filled 37 = .ok (.iaload, 1) := by decide +kernel
theorem dX6_filled_38 : decode cX6_filled 38 = .ok (.iload_n 1, 1) := by decide +kernel
theorem dX6_filled_39 : decode cX6_filled 39 = .ok (.if_icmp .ge 13, 3) := by decide +kernel
theorem dX6_filled_42 : decode cX6_filled 42 = .ok (.aload_n 0, 1) := by decide +kernel
theorem dX6_filled_43 : decode cX6_filled 43 = .ok (.invokevirtual 138, 3) := by decide +kernel
theorem dX6_filled_46 : decode cX6_filled 46 = .ok (.iinc 2 1, 3) := by decide +kernel
theorem dX6_filled_49 : decode cX6_filled 49 = .ok (.goto (-24), 3) := by decide +kernel
theorem dX6_filled_52 : decode cX6_filled 52 = .ok (.aload_n 0, 1) := by decide +kernel
theorem dX6_filled_53 : decode cX6_filled 53 = .ok (.aload_n 0, 1) := by decide +kernel
theorem dX6_filled_54 : decode cX6_filled 54 = .ok (.iload_n 2, 1) := by decide +kernel
theorem dX6_filled_55 : decode cX6_filled 55 = .ok (.invokevirtual 154, 3) := by decide +kernel
theorem dX6_filled_58 : decode cX6_filled 58 = .ok (.invokevirtual 163, 3) := by decide +kernel
theorem dX6_filled_61 : decode cX6_filled 61 = .ok (.ireturn, 1) := by decide +kernel
theorem dX6_isAsAside_0 : decode cX6_isAsAside 0 = .ok (.aload_n 0, 1) := by decide +kernel
theorem dX6_isAsAside_1 : decode cX6_isAsAside 1 = .ok (.getfield 7, 3) := by decide +kernel
theorem dX6_isAsAside_4 : decode cX6_isAsAside 4 = .ok (.iconst 3, 1) := by decide +kernel
theorem dX6_isAsAside_5 : decode cX6_isAsAside 5 = .ok (.iaload, 1) := by decide +kernel
theorem dX6_isAsAside_6 : decode cX6_isAsAside 6 = .ok (.aload_n 0, 1) := by decide +kernel
theorem dX6_isAsAside_7 : decode cX6_isAsAside 7 = .ok (.getfield 19, 3) := by decide +kernel
theorem dX6_isAsAside_10 : decode cX6_isAsAside 10 = .ok (.iconst 3, 1) := by decide +kernel
theorem dX6_isAsAside_11 : decode cX6_isAsAside 11 = .ok (.iaload, 1) := by decide +kernel
theorem dX6_isAsAside_12 : decode cX6_isAsAside 12 = .ok (.if_icmp .ne 7, 3) := by decide +kernel
theorem dX6_isAsAside_15 : decode cX6_isAsAside 15 = .ok (.iconst 1, 1) := by decide +kernel
theorem dX6_isAsAside_16 : decode cX6_isAsAside 16 = .ok (.goto 4, 3) := by decide +kernel
theorem dX6_isAsAside_19 : decode cX6_isAsAside 19 = .ok (.iconst 0, 1) := by decide +kernel
theorem dX6_isAsAside_20 : decode cX6_isAsAside 20 = .ok (.istore_n 1, 1) := by decide +kernel
theorem dX6_isAsAside_21 : decode cX6_isAsAside 21 = .ok (.bipush 7, 2) := by decide +kernel
theorem dX6_isAsAside_23 : decode cX6_isAsAside 23 = .ok (.istore_n 2, 1) := by decide +kernel
theorem dX6_isAsAside_24 : decode cX6_isAsAside 24 = .ok (.iload_n 2, 1) := by decide +kernel
theorem dX6_isAsAside_25 : decode cX6_isAsAside 25 = .ok (.bipush 71, 2) := by decide +kernel
theorem dX6_isAsAside_27 : decode cX6_isAsAside 27 = .ok (.if_icmp .ge 34, 3) := by decide +kernel
theorem dX6_isAsAside_30 : decode cX6_isAsAside 30 = .ok (.iload_n 1, 1) := by decide +kernel
theorem dX6_isAsAside_31 : decode cX6_isAsAside 31 = .ok (.ifCond .eq 30, 3) := by decide +kernel
theorem dX6_isAsAside_34 : decode cX6_isAsAside 34 = .ok (.aload_n 0, 1) := by decide +kernel
theorem dX6_isAsAside_35 : decode cX6_isAsAside 35 = .ok (.getfield 7, 3) := by decide +kernel
theorem dX6_isAsAside_38 : decode cX6_isAsAside 38 = .ok (.iload_n 2, 1) := by decide +kernel
theorem dX6_isAsAside_39 : decode cX6_isAsAside 39 = .ok (.iaload, 1) := by decide +kernel
theorem dX6_isAsAside_40 : decode cX6_isAsAside 40 = .ok (.aload_n 0, 1) := by decide +kernel
theorem dX6_isAsAside_41 : decode cX6_isAsAside 41 = .ok (.getfield 19, 3) := by decide +kernel
theorem dX6_isAsAside_44 : decode cX6_isAsAside 44 = .ok (.iload_n 2, 1) := by decide +kernel
theorem dX6_isAsAside_45 : decode cX6_isAsAside 45 = .ok (.iaload, 1) := by decide +kernel
theorem dX6_isAsAside_46 : decode cX6_isAsAside 46 = .ok (.if_icmp .ne 7, 3) := by decide +kernel
theorem dX6_isAsAside_49 : decode cX6_isAsAside 49 = .ok (.iconst 1, 1) := by decide +kernel
theorem dX6_isAsAside_50 : decode cX6_isAsAside 50 = .ok (.goto 4, 3) := by decide +kernel
theorem dX6_isAsAside_53 : decode cX6_isAsAside 53 = .ok (.iconst 0, 1) := by decide +kernel
theorem dX6_isAsAside_54 : decode cX6_isAsAside 54 = .ok (.istore_n 1, 1) := by decide +kernel
theorem dX6_isAsAside_55 : decode cX6_isAsAside 55 = .ok (.iinc 2 1, 3) := by decide +kernel
theorem dX6_isAsAside_58 : decode cX6_isAsAside 58 = .ok (.goto (-34), 3) := by decide +kernel
theorem dX6_isAsAside_61 : decode cX6_isAsAside 61 = .ok (.iload_n 1, 1) := by decide +kernel
theorem dX6_isAsAside_62 : decode cX6_isAsAside 62 = .ok (.ireturn, 1) := by decide +kernel
theorem dX6_round_0 : decode cX6_round 0 = .ok (.aload_n 0, 1) := by decide +kernel
theorem dX6_round_1 : decode cX6_round 1 = .ok (.invokevirtual 151, 3) := by decide +kernel
theorem dX6_round_4 : decode cX6_round 4 = .ok (.iconst 1, 1) := by decide +kernel
theorem dX6_round_5 : decode cX6_round 5 = .ok (.istore_n 1, 1) := by decide +kernel
theorem dX6_round_6 : decode cX6_round 6 = .ok (.aload_n 0, 1) := by decide +kernel
theorem dX6_round_7 : decode cX6_round 7 = .ok (.invokevirtual 138, 3) := by decide +kernel
theorem dX6_round_10 : decode cX6_round 10 = .ok (.iload_n 1, 1) := by decide +kernel
theorem dX6_round_11 : decode cX6_round 11 = .ok (.sipush 300, 3) := by decide +kernel
theorem dX6_round_14 : decode cX6_round 14 = .ok (.if_icmp .gt 20, 3) := by decide +kernel
theorem dX6_round_17 : decode cX6_round 17 = .ok (.aload_n 0, 1) := by decide +kernel
theorem dX6_round_18 : decode cX6_round 18 = .ok (.invokevirtual 168, 3) := by decide +kernel
theorem dX6_round_21 : decode cX6_round 21 = .ok (.ifCond .ne 13, 3) := by decide +kernel
theorem dX6_round_24 : decode cX6_round 24 = .ok (.aload_n 0, 1) := by decide +kernel
theorem dX6_round_25 : decode cX6_round 25 = .ok (.invokevirtual 138, 3) := by decide +kernel
theorem dX6_round_28 : decode cX6_round 28 = .ok (.iinc 1 1, 3) := by decide +kernel
theorem dX6_round_31 : decode cX6_round 31 = .ok (.goto (-21), 3) := by decide +kernel
theorem dX6_round_34 : decode cX6_round 34 = .ok (.aload_n 0, 1) := by decide +kernel
theorem dX6_round_35 : decode cX6_round 35 = .ok (.aload_n 0, 1) := by decide +kernel
theorem dX6_round_36 : decode cX6_round 36 = .ok (.iload_n 1, 1) := by decide +kernel
theorem dX6_round_37 : decode cX6_round 37 = .ok (.invokevirtual 154, 3) := by decide +kernel
theorem dX6_round_40 : decode cX6_round 40 = .ok (.invokevirtual 163, 3) := by decide +kernel
theorem dX6_round_43 : decode cX6_round 43 = .ok (.ireturn, 1) := by decide +kernel
theorem dX6_isSoon_0 : decode cX6_isSoon 0 = .ok (.iload_n 0, 1) := by decide +kernel
theorem dX6_isSoon_1 : decode cX6_isSoon 1 = .ok (.i2l, 1) := by decide +kernel
theorem dX6_isSoon_2 : decode cX6_isSoon 2 = .ok (.lconst 0, 1) := by decide +kernel
theorem dX6_isSoon_3 : decode cX6_isSoon 3 = .ok (.ldc2_w 171, 3) := by decide +kernel
theorem dX6_isSoon_6 : decode cX6_isSoon 6 = .ok (.invokestatic 52, 3) := by decide +kernel
theorem dX6_isSoon_9 : decode cX6_isSoon 9 = .ok (.ireturn, 1) := by decide +kernel
theorem dX6_given_0 : decode cX6_given 0 = .ok (.aload_n 0, 1) := by decide +kernel
theorem dX6_given_1 : decode cX6_given 1 = .ok (.invokevirtual 151, 3) := by decide +kernel
theorem dX6_given_4 : decode cX6_given 4 = .ok (.aload_n 0, 1) := by decide +kernel
theorem dX6_given_5 : decode cX6_given 5 = .ok (.getfield 7, 3) := by decide +kernel
theorem dX6_given_8 : decode cX6_given 8 = .ok (.iconst 5, 1) := by decide +kernel
theorem dX6_given_9 : decode cX6_given 9 = .ok (.iload_n 1, 1) := by decide +kernel
theorem dX6_given_10 : decode cX6_given 10 = .ok (.iastore, 1) := by decide +kernel
theorem dX6_given_11 : decode cX6_given 11 = .ok (.aload_n 0, 1) := by decide +kernel
theorem dX6_given_12 : decode cX6_given 12 = .ok (.getfield 7, 3) := by decide +kernel
theorem dX6_given_15 : decode cX6_given 15 = .ok (.bipush 6, 2) := by decide +kernel
theorem dX6_given_17 : decode cX6_given 17 = .ok (.iload_n 2, 1) := by decide +kernel
theorem dX6_given_18 : decode cX6_given 18 = .ok (.iastore, 1) := by decide +kernel
theorem dX6_given_19 : decode cX6_given 19 = .ok (.aload_n 0, 1) := by decide +kernel
theorem dX6_given_20 : decode cX6_given 20 = .ok (.iconst 0, 1) := by decide +kernel
theorem dX6_given_21 : decode cX6_given 21 = .ok (.putfield 126, 3) := by decide +kernel
theorem dX6_given_24 : decode cX6_given 24 = .ok (.aload_n 0, 1) := by decide +kernel
theorem dX6_given_25 : decode cX6_given 25 = .ok (.iload_n 3, 1) := by decide +kernel
theorem dX6_given_26 : decode cX6_given 26 = .ok (.invokevirtual 145, 3) := by decide +kernel
theorem dX6_given_29 : decode cX6_given 29 = .ok (.aload_n 0, 1) := by decide +kernel
theorem dX6_given_30 : decode cX6_given 30 = .ok (.aload_n 0, 1) := by decide +kernel
theorem dX6_given_31 : decode cX6_given 31 = .ok (.getfield 126, 3) := by decide +kernel
theorem dX6_given_34 : decode cX6_given 34 = .ok (.invokevirtual 154, 3) := by decide +kernel
theorem dX6_given_37 : decode cX6_given 37 = .ok (.ireturn, 1) := by decide +kernel
theorem dX6_gives_0 : decode cX6_gives 0 = .ok (.aload_n 0, 1) := by decide +kernel
theorem dX6_gives_1 : decode cX6_gives 1 = .ok (.iload_n 1, 1) := by decide +kernel
theorem dX6_gives_2 : decode cX6_gives 2 = .ok (.iload_n 2, 1) := by decide +kernel
theorem dX6_gives_3 : decode cX6_gives 3 = .ok (.invokevirtual 115, 3) := by decide +kernel
theorem dX6_gives_6 : decode cX6_gives 6 = .ok (.ifCond .eq 20, 3) := by decide +kernel
theorem dX6_gives_9 : decode cX6_gives 9 = .ok (.iload_n 3, 1) := by decide +kernel
theorem dX6_gives_10 : decode cX6_gives 10 = .ok (.invokestatic 173, 3) := by decide +kernel
theorem dX6_gives_13 : decode cX6_gives 13 = .ok (.ifCond .eq 13, 3) := by decide +kernel
theorem dX6_gives_16 : decode cX6_gives 16 = .ok (.aload_n 0, 1) := by decide +kernel
theorem dX6_gives_17 : decode cX6_gives 17 = .ok (.iload_n 1, 1) := by decide +kernel
theorem dX6_gives_18 : decode cX6_gives 18 = .ok (.iload_n 2, 1) := by decide +kernel
theorem dX6_gives_19 : decode cX6_gives 19 = .ok (.iload_n 3, 1) := by decide +kernel
theorem dX6_gives_20 : decode cX6_gives 20 = .ok (.invokevirtual 176, 3) := by decide +kernel
theorem dX6_gives_23 : decode cX6_gives 23 = .ok (.goto 9, 3) := by decide +kernel
theorem dX6_gives_26 : decode cX6_gives 26 = .ok (.aload_n 0, 1) := by decide +kernel
theorem dX6_gives_27 : decode cX6_gives 27 = .ok (.ldc 49, 2) := by decide +kernel
theorem dX6_gives_29 : decode cX6_gives 29 = .ok (.invokevirtual 73, 3) := by decide +kernel
theorem dX6_gives_32 : decode cX6_gives 32 = .ok (.ireturn, 1) := by decide +kernel
theorem dX6_best_0 : decode cX6_best 0 = .ok (.iload_n 1, 1) := by decide +kernel
theorem dX6_best_1 : decode cX6_best 1 = .ok (.invokestatic 173, 3) := by decide +kernel
theorem dX6_best_4 : decode cX6_best 4 = .ok (.ifCond .ne 10, 3) := by decide +kernel
theorem dX6_best_7 : decode cX6_best 7 = .ok (.aload_n 0, 1) := by decide +kernel
theorem dX6_best_8 : decode cX6_best 8 = .ok (.ldc 49, 2) := by decide +kernel
theorem dX6_best_10 : decode cX6_best 10 = .ok (.invokevirtual 73, 3) := by decide +kernel
theorem dX6_best_13 : decode cX6_best 13 = .ok (.ireturn, 1) := by decide +kernel
theorem dX6_best_14 : decode cX6_best 14 = .ok (.iconst (-1), 1) := by decide +kernel
theorem dX6_best_15 : decode cX6_best 15 = .ok (.istore_n 2, 1) := by decide +kernel
theorem dX6_best_16 : decode cX6_best 16 = .ok (.iconst (-1), 1) := by decide +kernel
theorem dX6_best_17 : decode cX6_best 17 = .ok (.istore_n 3, 1) := by decide +kernel
theorem dX6_best_18 : decode cX6_best 18 = .ok (.iconst 0, 1) := by decide +kernel
theorem dX6_best_19 : decode cX6_best 19 = .ok (.istore 4, 2) := by decide +kernel
theorem dX6_best_21 : decode cX6_best 21 = .ok (.iload 4, 2) := by decide +kernel
theorem dX6_best_23 : decode cX6_best 23 = .ok (.aload_n 0, 1) := by decide +kernel
theorem dX6_best_24 : decode cX6_best 24 = .ok (.getfield 7, 3) := by decide +kernel
theorem dX6_best_27 : decode cX6_best 27 = .ok (.iconst 1, 1) := by decide +kernel
theorem dX6_best_28 : decode cX6_best 28 = .ok (.iaload, 1) := by decide +kernel
theorem dX6_best_29 : decode cX6_best 29 = .ok (.if_icmp .ge 75, 3) := by decide +kernel
theorem dX6_best_32 : decode cX6_best 32 = .ok (.iload 4, 2) := by decide +kernel
theorem dX6_best_34 : decode cX6_best 34 = .ok (.iconst 1, 1) := by decide +kernel
theorem dX6_best_35 : decode cX6_best 35 = .ok (.iadd, 1) := by decide +kernel
theorem dX6_best_36 : decode cX6_best 36 = .ok (.istore 5, 2) := by decide +kernel
theorem dX6_best_38 : decode cX6_best 38 = .ok (.iload 5, 2) := by decide +kernel
theorem dX6_best_40 : decode cX6_best 40 = .ok (.aload_n 0, 1) := by decide +kernel
theorem dX6_best_41 : decode cX6_best 41 = .ok (.getfield 7, 3) := by decide +kernel
theorem dX6_best_44 : decode cX6_best 44 = .ok (.iconst 1, 1) := by decide +kernel
theorem dX6_best_45 : decode cX6_best 45 = .ok (.iaload, 1) := by decide +kernel
theorem dX6_best_46 : decode cX6_best 46 = .ok (.if_icmp .ge 52, 3) := by decide +kernel
theorem dX6_best_49 : decode cX6_best 49 = .ok (.aload_n 0, 1) := by decide +kernel
theorem dX6_best_50 : decode cX6_best 50 = .ok (.iload 4, 2) := by decide +kernel
theorem dX6_best_52 : decode cX6_best 52 = .ok (.iload 5, 2) := by decide +kernel
theorem dX6_best_54 : decode cX6_best 54 = .ok (.iload_n 1, 1) := by decide +kernel
theorem dX6_best_55 : decode cX6_best 55 = .ok (.invokevirtual 176, 3) := by decide +kernel
theorem dX6_best_58 : decode cX6_best 58 = .ok (.istore 6, 2) := by decide +kernel
theorem dX6_best_60 : decode cX6_best 60 = .ok (.iload 6, 2) := by decide +kernel
theorem dX6_best_62 : decode cX6_best 62 = .ok (.iload_n 3, 1) := by decide +kernel
theorem dX6_best_63 : decode cX6_best 63 = .ok (.if_icmp .le 14, 3) := by decide +kernel
theorem dX6_best_66 : decode cX6_best 66 = .ok (.bipush 8, 2) := by decide +kernel
theorem dX6_best_68 : decode cX6_best 68 = .ok (.iload 4, 2) := by decide +kernel
theorem dX6_best_70 : decode cX6_best 70 = .ok (.imul, 1) := by decide +kernel
theorem dX6_best_71 : decode cX6_best 71 = .ok (.iload 5, 2) := by decide +kernel
theorem dX6_best_73 : decode cX6_best 73 = .ok (.iadd, 1) := by decide +kernel
theorem dX6_best_74 : decode cX6_best 74 = .ok (.goto 4, 3) := by decide +kernel
theorem dX6_best_77 : decode cX6_best 77 = .ok (.iload_n 2, 1) := by decide +kernel
theorem dX6_best_78 : decode cX6_best 78 = .ok (.istore_n 2, 1) := by decide +kernel
theorem dX6_best_79 : decode cX6_best 79 = .ok (.iload 6, 2) := by decide +kernel
theorem dX6_best_81 : decode cX6_best 81 = .ok (.iload_n 3, 1) := by decide +kernel
theorem dX6_best_82 : decode cX6_best 82 = .ok (.if_icmp .le 8, 3) := by decide +kernel
theorem dX6_best_85 : decode cX6_best 85 = .ok (.iload 6, 2) := by decide +kernel
theorem dX6_best_87 : decode cX6_best 87 = .ok (.goto 4, 3) := by decide +kernel
theorem dX6_best_90 : decode cX6_best 90 = .ok (.iload_n 3, 1) := by decide +kernel
theorem dX6_best_91 : decode cX6_best 91 = .ok (.istore_n 3, 1) := by decide +kernel
theorem dX6_best_92 : decode cX6_best 92 = .ok (.iinc 5 1, 3) := by decide +kernel
theorem dX6_best_95 : decode cX6_best 95 = .ok (.goto (-57), 3) := by decide +kernel
theorem dX6_best_98 : decode cX6_best 98 = .ok (.iinc 4 1, 3) := by decide +kernel
theorem dX6_best_101 : decode cX6_best 101 = .ok (.goto (-80), 3) := by decide +kernel
theorem dX6_best_104 : decode cX6_best 104 = .ok (.iload_n 2, 1) := by decide +kernel
theorem dX6_best_105 : decode cX6_best 105 = .ok (.ifCond .ge 12, 3) := by decide +kernel
theorem dX6_best_108 : decode cX6_best 108 = .ok (.aload_n 0, 1) := by decide +kernel
theorem dX6_best_109 : decode cX6_best 109 = .ok (.ldc 162, 2) := by decide +kernel
theorem dX6_best_111 : decode cX6_best 111 = .ok (.invokevirtual 73, 3) := by decide +kernel
theorem dX6_best_114 : decode cX6_best 114 = .ok (.goto 4, 3) := by decide +kernel
theorem dX6_best_117 : decode cX6_best 117 = .ok (.iload_n 2, 1) := by decide +kernel
theorem dX6_best_118 : decode cX6_best 118 = .ok (.ireturn, 1) := by decide +kernel
theorem dX6_partner_0 : decode cX6_partner 0 = .ok (.aload_n 0, 1) := by decide +kernel
theorem dX6_partner_1 : decode cX6_partner 1 = .ok (.iload_n 1, 1) := by decide +kernel
theorem dX6_partner_2 : decode cX6_partner 2 = .ok (.invokevirtual 56, 3) := by decide +kernel
theorem dX6_partner_5 : decode cX6_partner 5 = .ok (.ifCond .eq 10, 3) := by decide +kernel
theorem dX6_partner_8 : decode cX6_partner 8 = .ok (.iload_n 2, 1) := by decide +kernel
theorem dX6_partner_9 : decode cX6_partner 9 = .ok (.invokestatic 173, 3) := by decide +kernel
theorem dX6_partner_12 : decode cX6_partner 12 = .ok (.ifCond .ne 10, 3) := by decide +kernel
theorem dX6_partner_15 : decode cX6_partner 15 = .ok (.aload_n 0, 1) := by decide +kernel
theorem dX6_partner_16 : decode cX6_partner 16 = .ok (.ldc 49, 2) := by decide +kernel
theorem dX6_partner_18 : decode cX6_partner 18 = .ok (.invokevirtual 73, 3) := by decide +kernel
theorem dX6_partner_21 : decode cX6_partner 21 = .ok (.ireturn, 1) := by decide +kernel
theorem dX6_partner_22 : decode cX6_partner 22 = .ok (.iconst (-1), 1) := by decide +kernel
theorem dX6_partner_23 : decode cX6_partner 23 = .ok (.istore_n 3, 1) := by decide +kernel
theorem dX6_partner_24 : decode cX6_partner 24 = .ok (.iconst (-1), 1) := by decide +kernel
theorem dX6_partner_25 : decode cX6_partner 25 = .ok (.istore 4, 2) := by decide +kernel
theorem dX6_partner_27 : decode cX6_partner 27 = .ok (.iconst 0, 1) := by decide +kernel
theorem dX6_partner_28 : decode cX6_partner 28 = .ok (.istore 5, 2) := by decide +kernel
theorem dX6_partner_30 : decode cX6_partner 30 = .ok (.iload 5, 2) := by decide +kernel
theorem dX6_partner_32 : decode cX6_partner 32 = .ok (.aload_n 0, 1) := by decide +kernel
theorem dX6_partner_33 : decode cX6_partner 33 = .ok (.getfield 7, 3) := by decide +kernel
theorem dX6_partner_36 : decode cX6_partner 36 = .ok (.iconst 1, 1) := by decide +kernel
theorem dX6_partner_37 : decode cX6_partner 37 = .ok (.iaload, 1) := by decide +kernel
theorem dX6_partner_38 : decode cX6_partner 38 = .ok (.if_icmp .ge 59, 3) := by decide +kernel
theorem dX6_partner_41 : decode cX6_partner 41 = .ok (.iload 5, 2) := by decide +kernel
theorem dX6_partner_43 : decode cX6_partner 43 = .ok (.iload_n 1, 1) := by decide +kernel
theorem dX6_partner_44 : decode cX6_partner 44 = .ok (.if_icmp .ne 7, 3) := by decide +kernel
theorem dX6_partner_47 : decode cX6_partner 47 = .ok (.iconst (-1), 1) := by decide +kernel
theorem dX6_partner_48 : decode cX6_partner 48 = .ok (.goto 11, 3) := by decide +kernel
theorem dX6_partner_51 : decode cX6_partner 51 = .ok (.aload_n 0, 1) := by decide +kernel
theorem dX6_partner_52 : decode cX6_partner 52 = .ok (.iload_n 1, 1) := by decide +kernel
theorem dX6_partner_53 : decode cX6_partner 53 = .ok (.iload 5, 2) := by decide +kernel
theorem dX6_partner_55 : decode cX6_partner 55 = .ok (.iload_n 2, 1) := by decide +kernel
theorem dX6_partner_56 : decode cX6_partner 56 = .ok (.invokevirtual 176, 3) := by decide +kernel
theorem dX6_partner_59 : decode cX6_partner 59 = .ok (.istore 6, 2) := by decide +kernel
theorem dX6_partner_61 : decode cX6_partner 61 = .ok (.iload 6, 2) := by decide +kernel
theorem dX6_partner_63 : decode cX6_partner 63 = .ok (.iload 4, 2) := by decide +kernel
theorem dX6_partner_65 : decode cX6_partner 65 = .ok (.if_icmp .le 8, 3) := by decide +kernel
theorem dX6_partner_68 : decode cX6_partner 68 = .ok (.iload 5, 2) := by decide +kernel
theorem dX6_partner_70 : decode cX6_partner 70 = .ok (.goto 4, 3) := by decide +kernel
theorem dX6_partner_73 : decode cX6_partner 73 = .ok (.iload_n 3, 1) := by decide +kernel
theorem dX6_partner_74 : decode cX6_partner 74 = .ok (.istore_n 3, 1) := by decide +kernel
theorem dX6_partner_75 : decode cX6_partner 75 = .ok (.iload 6, 2) := by decide +kernel
theorem dX6_partner_77 : decode cX6_partner 77 = .ok (.iload 4, 2) := by decide +kernel
theorem dX6_partner_79 : decode cX6_partner 79 = .ok (.if_icmp .le 8, 3) := by decide +kernel
theorem dX6_partner_82 : decode cX6_partner 82 = .ok (.iload 6, 2) := by decide +kernel
theorem dX6_partner_84 : decode cX6_partner 84 = .ok (.goto 5, 3) := by decide +kernel
theorem dX6_partner_87 : decode cX6_partner 87 = .ok (.iload 4, 2) := by decide +kernel
theorem dX6_partner_89 : decode cX6_partner 89 = .ok (.istore 4, 2) := by decide +kernel
theorem dX6_partner_91 : decode cX6_partner 91 = .ok (.iinc 5 1, 3) := by decide +kernel
theorem dX6_partner_94 : decode cX6_partner 94 = .ok (.goto (-64), 3) := by decide +kernel
theorem dX6_partner_97 : decode cX6_partner 97 = .ok (.iload_n 3, 1) := by decide +kernel
theorem dX6_partner_98 : decode cX6_partner 98 = .ok (.ifCond .ge 12, 3) := by decide +kernel
theorem dX6_partner_101 : decode cX6_partner 101 = .ok (.aload_n 0, 1) := by decide +kernel
theorem dX6_partner_102 : decode cX6_partner 102 = .ok (.ldc 162, 2) := by decide +kernel
theorem dX6_partner_104 : decode cX6_partner 104 = .ok (.invokevirtual 73, 3) := by decide +kernel
theorem dX6_partner_107 : decode cX6_partner 107 = .ok (.goto 4, 3) := by decide +kernel
theorem dX6_partner_110 : decode cX6_partner 110 = .ok (.iload_n 3, 1) := by decide +kernel
theorem dX6_partner_111 : decode cX6_partner 111 = .ok (.ireturn, 1) := by decide +kernel
theorem dX6_mostBy_0 : decode cX6_mostBy 0 = .ok (.aload_n 0, 1) := by decide +kernel
theorem dX6_mostBy_1 : decode cX6_mostBy 1 = .ok (.getfield 7, 3) := by decide +kernel
theorem dX6_mostBy_4 : decode cX6_mostBy 4 = .ok (.iload_n 1, 1) := by decide +kernel
theorem dX6_mostBy_5 : decode cX6_mostBy 5 = .ok (.iaload, 1) := by decide +kernel
theorem dX6_mostBy_6 : decode cX6_mostBy 6 = .ok (.istore 7, 2) := by decide +kernel
theorem dX6_mostBy_8 : decode cX6_mostBy 8 = .ok (.iload_n 2, 1) := by decide +kernel
theorem dX6_mostBy_9 : decode cX6_mostBy 9 = .ok (.istore 8, 2) := by decide +kernel
theorem dX6_mostBy_11 : decode cX6_mostBy 11 = .ok (.iconst (-1), 1) := by decide +kernel
theorem dX6_mostBy_12 : decode cX6_mostBy 12 = .ok (.istore 9, 2) := by decide +kernel
theorem dX6_mostBy_14 : decode cX6_mostBy 14 = .ok (.iload_n 2, 1) := by decide +kernel
theorem dX6_mostBy_15 : decode cX6_mostBy 15 = .ok (.istore 10, 2) := by decide +kernel
theorem dX6_mostBy_17 : decode cX6_mostBy 17 = .ok (.iload 10, 2) := by decide +kernel
theorem dX6_mostBy_19 : decode cX6_mostBy 19 = .ok (.iload_n 3, 1) := by decide +kernel
theorem dX6_mostBy_20 : decode cX6_mostBy 20 = .ok (.if_icmp .gt 61, 3) := by decide +kernel
theorem dX6_mostBy_23 : decode cX6_mostBy 23 = .ok (.aload_n 0, 1) := by decide +kernel
theorem dX6_mostBy_24 : decode cX6_mostBy 24 = .ok (.getfield 7, 3) := by decide +kernel
theorem dX6_mostBy_27 : decode cX6_mostBy 27 = .ok (.iload_n 1, 1) := by decide +kernel
theorem dX6_mostBy_28 : decode cX6_mostBy 28 = .ok (.iload 10, 2) := by decide +kernel
theorem dX6_mostBy_30 : decode cX6_mostBy 30 = .ok (.iastore, 1) := by decide +kernel
theorem dX6_mostBy_31 : decode cX6_mostBy 31 = .ok (.aload_n 0, 1) := by decide +kernel
theorem dX6_mostBy_32 : decode cX6_mostBy 32 = .ok (.iload 4, 2) := by decide +kernel
theorem dX6_mostBy_34 : decode cX6_mostBy 34 = .ok (.iload 5, 2) := by decide +kernel
theorem dX6_mostBy_36 : decode cX6_mostBy 36 = .ok (.iload 6, 2) := by decide +kernel
theorem dX6_mostBy_38 : decode cX6_mostBy 38 = .ok (.invokevirtual 176, 3) := by decide +kernel
theorem dX6_mostBy_41 : decode cX6_mostBy 41 = .ok (.istore 11, 2) := by decide +kernel
theorem dX6_mostBy_43 : decode cX6_mostBy 43 = .ok (.iload 11, 2) := by decide +kernel
theorem dX6_mostBy_45 : decode cX6_mostBy 45 = .ok (.iload 9, 2) := by decide +kernel
theorem dX6_mostBy_47 : decode cX6_mostBy 47 = .ok (.if_icmp .le 8, 3) := by decide +kernel
theorem dX6_mostBy_50 : decode cX6_mostBy 50 = .ok (.iload 10, 2) := by decide +kernel
theorem dX6_mostBy_52 : decode cX6_mostBy 52 = .ok (.goto 5, 3) := by decide +kernel
theorem dX6_mostBy_55 : decode cX6_mostBy 55 = .ok (.iload 8, 2) := by decide +kernel
theorem dX6_mostBy_57 : decode cX6_mostBy 57 = .ok (.istore 8, 2) := by decide +kernel
theorem dX6_mostBy_59 : decode cX6_mostBy 59 = .ok (.iload 11, 2) := by decide +kernel
theorem dX6_mostBy_61 : decode cX6_mostBy 61 = .ok (.iload 9, 2) := by decide +kernel
theorem dX6_mostBy_63 : decode cX6_mostBy 63 = .ok (.if_icmp .le 8, 3) := by decide +kernel
theorem dX6_mostBy_66 : decode cX6_mostBy 66 = .ok (.iload 11, 2) := by decide +kernel
theorem dX6_mostBy_68 : decode cX6_mostBy 68 = .ok (.goto 5, 3) := by decide +kernel
theorem dX6_mostBy_71 : decode cX6_mostBy 71 = .ok (.iload 9, 2) := by decide +kernel
theorem dX6_mostBy_73 : decode cX6_mostBy 73 = .ok (.istore 9, 2) := by decide +kernel
theorem dX6_mostBy_75 : decode cX6_mostBy 75 = .ok (.iinc 10 1, 3) := by decide +kernel
theorem dX6_mostBy_78 : decode cX6_mostBy 78 = .ok (.goto (-61), 3) := by decide +kernel
theorem dX6_mostBy_81 : decode cX6_mostBy 81 = .ok (.aload_n 0, 1) := by decide +kernel
theorem dX6_mostBy_82 : decode cX6_mostBy 82 = .ok (.getfield 7, 3) := by decide +kernel
theorem dX6_mostBy_85 : decode cX6_mostBy 85 = .ok (.iload_n 1, 1) := by decide +kernel
theorem dX6_mostBy_86 : decode cX6_mostBy 86 = .ok (.iload 7, 2) := by decide +kernel
theorem dX6_mostBy_88 : decode cX6_mostBy 88 = .ok (.iastore, 1) := by decide +kernel
theorem dX6_mostBy_89 : decode cX6_mostBy 89 = .ok (.iload 8, 2) := by decide +kernel
theorem dX6_mostBy_91 : decode cX6_mostBy 91 = .ok (.ireturn, 1) := by decide +kernel
theorem dX6_subjectFor_0 : decode cX6_subjectFor 0 = .ok (.aload_n 0, 1) := by decide +kernel
theorem dX6_subjectFor_1 : decode cX6_subjectFor 1 = .ok (.iload_n 1, 1) := by decide +kernel
theorem dX6_subjectFor_2 : decode cX6_subjectFor 2 = .ok (.iload_n 2, 1) := by decide +kernel
theorem dX6_subjectFor_3 : decode cX6_subjectFor 3 = .ok (.invokevirtual 115, 3) := by decide +kernel
theorem dX6_subjectFor_6 : decode cX6_subjectFor 6 = .ok (.ifCond .eq 23, 3) := by decide +kernel
theorem dX6_subjectFor_9 : decode cX6_subjectFor 9 = .ok (.iload_n 3, 1) := by decide +kernel
theorem dX6_subjectFor_10 : decode cX6_subjectFor 10 = .ok (.invokestatic 173, 3) := by decide +kernel
theorem dX6_subjectFor_13 : decode cX6_subjectFor 13 = .ok (.ifCond .eq 16, 3) := by decide +kernel
theorem dX6_subjectFor_16 : decode cX6_subjectFor 16 = .ok (.aload_n 0, 1) := by decide +kernel
theorem dX6_subjectFor_17 : decode cX6_subjectFor 17 = .ok (.iconst 3, 1) := by decide +kernel
theorem dX6_subjectFor_18 : decode cX6_subjectFor 18 = .ok (.iconst 0, 1) := by decide +kernel
theorem dX6_subjectFor_19 : decode cX6_subjectFor 19 = .ok (.iconst 5, 1) := by decide +kernel
theorem dX6_subjectFor_20 : decode cX6_subjectFor 20 = .ok (.iload_n 1, 1) := by decide +kernel
theorem dX6_subjectFor_21 : decode cX6_subjectFor 21 = .ok (.iload_n 2, 1) := by decide +kernel
theorem dX6_subjectFor_22 : decode cX6_subjectFor 22 = .ok (.iload_n 3, 1) := by decide +kernel
theorem dX6_subjectFor_23 : decode cX6_subjectFor 23 = .ok (.invokevirtual 179, 3) := by decide +kernel
theorem dX6_subjectFor_26 : decode cX6_subjectFor 26 = .ok (.goto 9, 3) := by decide +kernel
theorem dX6_subjectFor_29 : decode cX6_subjectFor 29 = .ok (.aload_n 0, 1) := by decide +kernel
theorem dX6_subjectFor_30 : decode cX6_subjectFor 30 = .ok (.ldc 49, 2) := by decide +kernel
theorem dX6_subjectFor_32 : decode cX6_subjectFor 32 = .ok (.invokevirtual 73, 3) := by decide +kernel
theorem dX6_subjectFor_35 : decode cX6_subjectFor 35 = .ok (.ireturn, 1) := by decide +kernel
theorem dX6_findMatches_0 : decode cX6_findMatches 0 = .ok (.iconst 0, 1) := by decide +kernel
theorem dX6_findMatches_1 : decode cX6_findMatches 1 = .ok (.istore_n 2, 1) := by decide +kernel
theorem dX6_findMatches_2 : decode cX6_findMatches 2 = .ok (.iload_n 2, 1) := by decide +kernel
theorem dX6_findMatches_3 : decode cX6_findMatches 3 = .ok (.aload_n 0, 1) := by decide +kernel
theorem dX6_findMatches_4 : decode cX6_findMatches 4 = .ok (.getfield 7, 3) := by decide +kernel
theorem dX6_findMatches_7 : decode cX6_findMatches 7 = .ok (.iconst 1, 1) := by decide +kernel
theorem dX6_findMatches_8 : decode cX6_findMatches 8 = .ok (.iaload, 1) := by decide +kernel
theorem dX6_findMatches_9 : decode cX6_findMatches 9 = .ok (.if_icmp .ge 47, 3) := by decide +kernel
theorem dX6_findMatches_12 : decode cX6_findMatches 12 = .ok (.iload_n 2, 1) := by decide +kernel
theorem dX6_findMatches_13 : decode cX6_findMatches 13 = .ok (.iconst 1, 1) := by decide +kernel
theorem dX6_findMatches_14 : decode cX6_findMatches 14 = .ok (.iadd, 1) := by decide +kernel
theorem dX6_findMatches_15 : decode cX6_findMatches 15 = .ok (.istore_n 3, 1) := by decide +kernel
theorem dX6_findMatches_16 : decode cX6_findMatches 16 = .ok (.iload_n 3, 1) := by decide +kernel
theorem dX6_findMatches_17 : decode cX6_findMatches 17 = .ok (.aload_n 0, 1) := by decide +kernel
theorem dX6_findMatches_18 : decode cX6_findMatches 18 = .ok (.getfield 7, 3) := by decide +kernel
theorem dX6_findMatches_21 : decode cX6_findMatches 21 = .ok (.iconst 1, 1) := by decide +kernel
theorem dX6_findMatches_22 : decode cX6_findMatches 22 = .ok (.iaload, 1) := by decide +kernel
theorem dX6_findMatches_23 : decode cX6_findMatches 23 = .ok (.if_icmp .ge 27, 3) := by decide +kernel
theorem dX6_findMatches_26 : decode cX6_findMatches 26 = .ok (.aload_n 0, 1) := by decide +kernel
theorem dX6_findMatches_27 : decode cX6_findMatches 27 = .ok (.getfield 25, 3) := by decide +kernel
theorem dX6_findMatches_30 : decode cX6_findMatches 30 = .ok (.bipush 8, 2) := by decide +kernel
theorem dX6_findMatches_32 : decode cX6_findMatches 32 = .ok (.iload_n 2, 1) := by decide +kernel
theorem dX6_findMatches_33 : decode cX6_findMatches 33 = .ok (.imul, 1) := by decide +kernel
theorem dX6_findMatches_34 : decode cX6_findMatches 34 = .ok (.iload_n 3, 1) := by decide +kernel
theorem dX6_findMatches_35 : decode cX6_findMatches 35 = .ok (.iadd, 1) := by decide +kernel
theorem dX6_findMatches_36 : decode cX6_findMatches 36 = .ok (.aload_n 0, 1) := by decide +kernel
theorem dX6_findMatches_37 : decode cX6_findMatches 37 = .ok (.iload_n 2, 1) := by decide +kernel
theorem dX6_findMatches_38 : decode cX6_findMatches 38 = .ok (.iload_n 3, 1) := by decide +kernel
theorem dX6_findMatches_39 : decode cX6_findMatches 39 = .ok (.iload_n 1, 1) := by decide +kernel
theorem dX6_findMatches_40 : decode cX6_findMatches 40 = .ok (.invokevirtual 176, 3) := by decide +kernel
theorem dX6_findMatches_43 : decode cX6_findMatches 43 = .ok (.iastore, 1) := by decide +kernel
theorem dX6_findMatches_44 : decode cX6_findMatches 44 = .ok (.iinc 3 1, 3) := by decide +kernel
theorem dX6_findMatches_47 : decode cX6_findMatches 47 = .ok (.goto (-31), 3) := by decide +kernel
theorem dX6_findMatches_50 : decode cX6_findMatches 50 = .ok (.iinc 2 1, 3) := by decide +kernel
theorem dX6_findMatches_53 : decode cX6_findMatches 53 = .ok (.goto (-51), 3) := by decide +kernel
theorem dX6_findMatches_56 : decode cX6_findMatches 56 = .ok (.iconst 0, 1) := by decide +kernel
theorem dX6_findMatches_57 : decode cX6_findMatches 57 = .ok (.istore_n 2, 1) := by decide +kernel
theorem dX6_findMatches_58 : decode cX6_findMatches 58 = .ok (.iload_n 2, 1) := by decide +kernel
theorem dX6_findMatches_59 : decode cX6_findMatches 59 = .ok (.iconst 1, 1) := by decide +kernel
theorem dX6_findMatches_60 : decode cX6_findMatches 60 = .ok (.aload_n 0, 1) := by decide +kernel
theorem dX6_findMatches_61 : decode cX6_findMatches 61 = .ok (.getfield 7, 3) := by decide +kernel
theorem dX6_findMatches_64 : decode cX6_findMatches 64 = .ok (.iconst 1, 1) := by decide +kernel
theorem dX6_findMatches_65 : decode cX6_findMatches 65 = .ok (.iaload, 1) := by decide +kernel
theorem dX6_findMatches_66 : decode cX6_findMatches 66 = .ok (.ishl, 1) := by decide +kernel
theorem dX6_findMatches_67 : decode cX6_findMatches 67 = .ok (.if_icmp .ge 133, 3) := by decide +kernel
theorem dX6_findMatches_70 : decode cX6_findMatches 70 = .ok (.aload_n 0, 1) := by decide +kernel
theorem dX6_findMatches_71 : decode cX6_findMatches 71 = .ok (.getfield 28, 3) := by decide +kernel
theorem dX6_findMatches_74 : decode cX6_findMatches 74 = .ok (.iload_n 2, 1) := by decide +kernel
theorem dX6_findMatches_75 : decode cX6_findMatches 75 = .ok (.iconst 0, 1) := by decide +kernel
theorem dX6_findMatches_76 : decode cX6_findMatches 76 = .ok (.iastore, 1) := by decide +kernel
theorem dX6_findMatches_77 : decode cX6_findMatches 77 = .ok (.iconst 0, 1) := by decide +kernel
theorem dX6_findMatches_78 : decode cX6_findMatches 78 = .ok (.istore_n 3, 1) := by decide +kernel
theorem dX6_findMatches_79 : decode cX6_findMatches 79 = .ok (.iload_n 3, 1) := by decide +kernel
theorem dX6_findMatches_80 : decode cX6_findMatches 80 = .ok (.aload_n 0, 1) := by decide +kernel
theorem dX6_findMatches_81 : decode cX6_findMatches 81 = .ok (.getfield 7, 3) := by decide +kernel
theorem dX6_findMatches_84 : decode cX6_findMatches 84 = .ok (.iconst 1, 1) := by decide +kernel
theorem dX6_findMatches_85 : decode cX6_findMatches 85 = .ok (.iaload, 1) := by decide +kernel
theorem dX6_findMatches_86 : decode cX6_findMatches 86 = .ok (.if_icmp .ge 108, 3) := by decide +kernel
theorem dX6_findMatches_89 : decode cX6_findMatches 89 = .ok (.iload_n 3, 1) := by decide +kernel
theorem dX6_findMatches_90 : decode cX6_findMatches 90 = .ok (.iconst 1, 1) := by decide +kernel
theorem dX6_findMatches_91 : decode cX6_findMatches 91 = .ok (.iadd, 1) := by decide +kernel
theorem dX6_findMatches_92 : decode cX6_findMatches 92 = .ok (.istore 4, 2) := by decide +kernel
theorem dX6_findMatches_94 : decode cX6_findMatches 94 = .ok (.iload 4, 2) := by decide +kernel
theorem dX6_findMatches_96 : decode cX6_findMatches 96 = .ok (.aload_n 0, 1) := by decide +kernel
theorem dX6_findMatches_97 : decode cX6_findMatches 97 = .ok (.getfield 7, 3) := by decide +kernel
theorem dX6_findMatches_100 : decode cX6_findMatches 100 = .ok (.iconst 1, 1) := by decide +kernel
theorem dX6_findMatches_101 : decode cX6_findMatches 101 = .ok (.iaload, 1) := by decide +kernel
theorem dX6_findMatches_102 : decode cX6_findMatches 102 = .ok (.if_icmp .ge 86, 3) := by decide +kernel
theorem dX6_findMatches_105 : decode cX6_findMatches 105 = .ok (.iconst 1, 1) := by decide +kernel
theorem dX6_findMatches_106 : decode cX6_findMatches 106 = .ok (.iload_n 3, 1) := by decide +kernel
theorem dX6_findMatches_107 : decode cX6_findMatches 107 = .ok (.ishl, 1) := by decide +kernel
theorem dX6_findMatches_108 : decode cX6_findMatches 108 = .ok (.iconst 1, 1) := by decide +kernel
theorem dX6_findMatches_109 : decode cX6_findMatches 109 = .ok (.iload 4, 2) := by decide +kernel
theorem dX6_findMatches_111 : decode cX6_findMatches 111 = .ok (.ishl, 1) := by decide +kernel
theorem dX6_findMatches_112 : decode cX6_findMatches 112 = .ok (.ior, 1) := by decide +kernel
theorem dX6_findMatches_113 : decode cX6_findMatches 113 = .ok (.istore 5, 2) := by decide +kernel
theorem dX6_findMatches_115 : decode cX6_findMatches 115 = .ok (.iload_n 2, 1) := by decide +kernel
theorem dX6_findMatches_116 : decode cX6_findMatches 116 = .ok (.iload 5, 2) := by decide +kernel
theorem dX6_findMatches_118 : decode cX6_findMatches 118 = .ok (.iand, 1) := by decide +kernel
theorem dX6_findMatches_119 : decode cX6_findMatches 119 = .ok (.iload 5, 2) := by decide +kernel
theorem dX6_findMatches_121 : decode cX6_findMatches 121 = .ok (.if_icmp .ne 30, 3) := by decide +kernel
theorem dX6_findMatches_124 : decode cX6_findMatches 124 = .ok (.aload_n 0, 1) := by decide +kernel
theorem dX6_findMatches_125 : decode cX6_findMatches 125 = .ok (.getfield 25, 3) := by decide +kernel
theorem dX6_findMatches_128 : decode cX6_findMatches 128 = .ok (.bipush 8, 2) := by decide +kernel
theorem dX6_findMatches_130 : decode cX6_findMatches 130 = .ok (.iload_n 3, 1) := by decide +kernel
theorem dX6_findMatches_131 : decode cX6_findMatches 131 = .ok (.imul, 1) := by decide +kernel
theorem dX6_findMatches_132 : decode cX6_findMatches 132 = .ok (.iload 4, 2) := by decide +kernel
theorem dX6_findMatches_134 : decode cX6_findMatches 134 = .ok (.iadd, 1) := by decide +kernel
theorem dX6_findMatches_135 : decode cX6_findMatches 135 = .ok (.iaload, 1) := by decide +kernel
theorem dX6_findMatches_136 : decode cX6_findMatches 136 = .ok (.aload_n 0, 1) := by decide +kernel
theorem dX6_findMatches_137 : decode cX6_findMatches 137 = .ok (.getfield 28, 3) := by decide +kernel
theorem dX6_findMatches_140 : decode cX6_findMatches 140 = .ok (.iload_n 2, 1) := by decide +kernel
theorem dX6_findMatches_141 : decode cX6_findMatches 141 = .ok (.iload 5, 2) := by decide +kernel
theorem dX6_findMatches_143 : decode cX6_findMatches 143 = .ok (.iconst (-1), 1) := by decide +kernel
theorem dX6_findMatches_144 : decode cX6_findMatches 144 = .ok (.ixor, 1) := by decide +kernel
theorem dX6_findMatches_145 : decode cX6_findMatches 145 = .ok (.iand, 1) := by decide +kernel
theorem dX6_findMatches_146 : decode cX6_findMatches 146 = .ok (.iaload, 1) := by decide +kernel
theorem dX6_findMatches_147 : decode cX6_findMatches 147 = .ok (.iadd, 1) := by decide +kernel
theorem dX6_findMatches_148 : decode cX6_findMatches 148 = .ok (.goto 4, 3) := by decide +kernel
theorem dX6_findMatches_151 : decode cX6_findMatches 151 = .ok (.iconst 0, 1) := by decide +kernel
theorem dX6_findMatches_152 : decode cX6_findMatches 152 = .ok (.istore 6, 2) := by decide +kernel
theorem dX6_findMatches_154 : decode cX6_findMatches 154 = .ok (.aload_n 0, 1) := by decide +kernel
theorem dX6_findMatches_155 : decode cX6_findMatches 155 = .ok (.getfield 28, 3) := by decide +kernel
theorem dX6_findMatches_158 : decode cX6_findMatches 158 = .ok (.iload_n 2, 1) := by decide +kernel
theorem dX6_findMatches_159 : decode cX6_findMatches 159 = .ok (.iload 6, 2) := by decide +kernel
theorem dX6_findMatches_161 : decode cX6_findMatches 161 = .ok (.aload_n 0, 1) := by decide +kernel
theorem dX6_findMatches_162 : decode cX6_findMatches 162 = .ok (.getfield 28, 3) := by decide +kernel
theorem dX6_findMatches_165 : decode cX6_findMatches 165 = .ok (.iload_n 2, 1) := by decide +kernel
theorem dX6_findMatches_166 : decode cX6_findMatches 166 = .ok (.iaload, 1) := by decide +kernel
theorem dX6_findMatches_167 : decode cX6_findMatches 167 = .ok (.if_icmp .le 8, 3) := by decide +kernel
theorem dX6_findMatches_170 : decode cX6_findMatches 170 = .ok (.iload 6, 2) := by decide +kernel
theorem dX6_findMatches_172 : decode cX6_findMatches 172 = .ok (.goto 9, 3) := by decide +kernel
theorem dX6_findMatches_175 : decode cX6_findMatches 175 = .ok (.aload_n 0, 1) := by decide +kernel
theorem dX6_findMatches_176 : decode cX6_findMatches 176 = .ok (.getfield 28, 3) := by decide +kernel
theorem dX6_findMatches_179 : decode cX6_findMatches 179 = .ok (.iload_n 2, 1) := by decide +kernel
theorem dX6_findMatches_180 : decode cX6_findMatches 180 = .ok (.iaload, 1) := by decide +kernel
theorem dX6_findMatches_181 : decode cX6_findMatches 181 = .ok (.iastore, 1) := by decide +kernel
theorem dX6_findMatches_182 : decode cX6_findMatches 182 = .ok (.iinc 4 1, 3) := by decide +kernel
theorem dX6_findMatches_185 : decode cX6_findMatches 185 = .ok (.goto (-91), 3) := by decide +kernel
theorem dX6_findMatches_188 : decode cX6_findMatches 188 = .ok (.iinc 3 1, 3) := by decide +kernel
theorem dX6_findMatches_191 : decode cX6_findMatches 191 = .ok (.goto (-112), 3) := by decide +kernel
theorem dX6_findMatches_194 : decode cX6_findMatches 194 = .ok (.iinc 2 1, 3) := by decide +kernel
theorem dX6_findMatches_197 : decode cX6_findMatches 197 = .ok (.goto (-139), 3) := by decide +kernel
theorem dX6_findMatches_200 : decode cX6_findMatches 200 = .ok (.return_, 1) := by decide +kernel
theorem dX6_matched_0 : decode cX6_matched 0 = .ok (.iload_n 1, 1) := by decide +kernel
theorem dX6_matched_1 : decode cX6_matched 1 = .ok (.i2l, 1) := by decide +kernel
theorem dX6_matched_2 : decode cX6_matched 2 = .ok (.lconst 0, 1) := by decide +kernel
theorem dX6_matched_3 : decode cX6_matched 3 = .ok (.ldc2_w 183, 3) := by decide +kernel
theorem dX6_matched_6 : decode cX6_matched 6 = .ok (.invokestatic 52, 3) := by decide +kernel
theorem dX6_matched_9 : decode cX6_matched 9 = .ok (.ifCond .ne 10, 3) := by decide +kernel
theorem dX6_matched_12 : decode cX6_matched 12 = .ok (.aload_n 0, 1) := by decide +kernel
theorem dX6_matched_13 : decode cX6_matched 13 = .ok (.ldc 49, 2) := by decide +kernel
theorem dX6_matched_15 : decode cX6_matched 15 = .ok (.invokevirtual 73, 3) := by decide +kernel
theorem dX6_matched_18 : decode cX6_matched 18 = .ok (.ireturn, 1) := by decide +kernel
theorem dX6_matched_19 : decode cX6_matched 19 = .ok (.aload_n 0, 1) := by decide +kernel
theorem dX6_matched_20 : decode cX6_matched 20 = .ok (.iload_n 1, 1) := by decide +kernel
theorem dX6_matched_21 : decode cX6_matched 21 = .ok (.invokevirtual 185, 3) := by decide +kernel
theorem dX6_matched_24 : decode cX6_matched 24 = .ok (.aload_n 0, 1) := by decide +kernel
theorem dX6_matched_25 : decode cX6_matched 25 = .ok (.getfield 28, 3) := by decide +kernel
theorem dX6_matched_28 : decode cX6_matched 28 = .ok (.iconst 1, 1) := by decide +kernel
theorem dX6_matched_29 : decode cX6_matched 29 = .ok (.aload_n 0, 1) := by decide +kernel
theorem dX6_matched_30 : decode cX6_matched 30 = .ok (.getfield 7, 3) := by decide +kernel
theorem dX6_matched_33 : decode cX6_matched 33 = .ok (.iconst 1, 1) := by decide +kernel
theorem dX6_matched_34 : decode cX6_matched 34 = .ok (.iaload, 1) := by decide +kernel
theorem dX6_matched_35 : decode cX6_matched 35 = .ok (.ishl, 1) := by decide +kernel
theorem dX6_matched_36 : decode cX6_matched 36 = .ok (.iconst 1, 1) := by decide +kernel
theorem dX6_matched_37 : decode cX6_matched 37 = .ok (.isub, 1) := by decide +kernel
theorem dX6_matched_38 : decode cX6_matched 38 = .ok (.iaload, 1) := by decide +kernel
theorem dX6_matched_39 : decode cX6_matched 39 = .ok (.ireturn, 1) := by decide +kernel
theorem dX6_matchOf_0 : decode cX6_matchOf 0 = .ok (.aload_n 0, 1) := by decide +kernel
theorem dX6_matchOf_1 : decode cX6_matchOf 1 = .ok (.iload_n 1, 1) := by decide +kernel
theorem dX6_matchOf_2 : decode cX6_matchOf 2 = .ok (.invokevirtual 56, 3) := by decide +kernel
theorem dX6_matchOf_5 : decode cX6_matchOf 5 = .ok (.ifCond .eq 15, 3) := by decide +kernel
theorem dX6_matchOf_8 : decode cX6_matchOf 8 = .ok (.iload_n 2, 1) := by decide +kernel
theorem dX6_matchOf_9 : decode cX6_matchOf 9 = .ok (.i2l, 1) := by decide +kernel
theorem dX6_matchOf_10 : decode cX6_matchOf 10 = .ok (.lconst 0, 1) := by decide +kernel
theorem dX6_matchOf_11 : decode cX6_matchOf 11 = .ok (.ldc2_w 183, 3) := by decide +kernel
theorem dX6_matchOf_14 : decode cX6_matchOf 14 = .ok (.invokestatic 52, 3) := by decide +kernel
theorem dX6_matchOf_17 : decode cX6_matchOf 17 = .ok (.ifCond .ne 10, 3) := by decide +kernel
theorem dX6_matchOf_20 : decode cX6_matchOf 20 = .ok (.aload_n 0, 1) := by decide +kernel
theorem dX6_matchOf_21 : decode cX6_matchOf 21 = .ok (.ldc 49, 2) := by decide +kernel
theorem dX6_matchOf_23 : decode cX6_matchOf 23 = .ok (.invokevirtual 73, 3) := by decide +kernel
theorem dX6_matchOf_26 : decode cX6_matchOf 26 = .ok (.ireturn, 1) := by decide +kernel
theorem dX6_matchOf_27 : decode cX6_matchOf 27 = .ok (.aload_n 0, 1) := by decide +kernel
theorem dX6_matchOf_28 : decode cX6_matchOf 28 = .ok (.iload_n 2, 1) := by decide +kernel
theorem dX6_matchOf_29 : decode cX6_matchOf 29 = .ok (.invokevirtual 185, 3) := by decide +kernel
theorem dX6_matchOf_32 : decode cX6_matchOf 32 = .ok (.iconst 1, 1) := by decide +kernel
theorem dX6_matchOf_33 : decode cX6_matchOf 33 = .ok (.aload_n 0, 1) := by decide +kernel
theorem dX6_matchOf_34 : decode cX6_matchOf 34 = .ok (.getfield 7, 3) := by decide +kernel
theorem dX6_matchOf_37 : decode cX6_matchOf 37 = .ok (.iconst 1, 1) := by decide +kernel
theorem dX6_matchOf_38 : decode cX6_matchOf 38 = .ok (.iaload, 1) := by decide +kernel
theorem dX6_matchOf_39 : decode cX6_matchOf 39 = .ok (.ishl, 1) := by decide +kernel
theorem dX6_matchOf_40 : decode cX6_matchOf 40 = .ok (.iconst 1, 1) := by decide +kernel
theorem dX6_matchOf_41 : decode cX6_matchOf 41 = .ok (.isub, 1) := by decide +kernel
theorem dX6_matchOf_42 : decode cX6_matchOf 42 = .ok (.istore_n 3, 1) := by decide +kernel
theorem dX6_matchOf_43 : decode cX6_matchOf 43 = .ok (.iconst 0, 1) := by decide +kernel
theorem dX6_matchOf_44 : decode cX6_matchOf 44 = .ok (.istore 4, 2) := by decide +kernel
theorem dX6_matchOf_46 : decode cX6_matchOf 46 = .ok (.iload 4, 2) := by decide +kernel
theorem dX6_matchOf_48 : decode cX6_matchOf 48 = .ok (.aload_n 0, 1) := by decide +kernel
theorem dX6_matchOf_49 : decode cX6_matchOf 49 = .ok (.getfield 7, 3) := by decide +kernel
theorem dX6_matchOf_52 : decode cX6_matchOf 52 = .ok (.iconst 1, 1) := by decide +kernel
theorem dX6_matchOf_53 : decode cX6_matchOf 53 = .ok (.iaload, 1) := by decide +kernel
theorem dX6_matchOf_54 : decode cX6_matchOf 54 = .ok (.if_icmp .ge 17, 3) := by decide +kernel
theorem dX6_matchOf_57 : decode cX6_matchOf 57 = .ok (.aload_n 0, 1) := by decide +kernel
theorem dX6_matchOf_58 : decode cX6_matchOf 58 = .ok (.getfield 31, 3) := by decide +kernel
theorem dX6_matchOf_61 : decode cX6_matchOf 61 = .ok (.iload 4, 2) := by decide +kernel
theorem dX6_matchOf_63 : decode cX6_matchOf 63 = .ok (.iconst (-1), 1) := by decide +kernel
theorem dX6_matchOf_64 : decode cX6_matchOf 64 = .ok (.iastore, 1) := by decide +kernel
theorem dX6_matchOf_65 : decode cX6_matchOf 65 = .ok (.iinc 4 1, 3) := by decide +kernel
theorem dX6_matchOf_68 : decode cX6_matchOf 68 = .ok (.goto (-22), 3) := by decide +kernel
theorem dX6_matchOf_71 : decode cX6_matchOf 71 = .ok (.iconst 0, 1) := by decide +kernel
theorem dX6_matchOf_72 : decode cX6_matchOf 72 = .ok (.istore 4, 2) := by decide +kernel
theorem dX6_matchOf_74 : decode cX6_matchOf 74 = .ok (.iload 4, 2) := by decide +kernel
theorem dX6_matchOf_76 : decode cX6_matchOf 76 = .ok (.aload_n 0, 1) := by decide +kernel
theorem dX6_matchOf_77 : decode cX6_matchOf 77 = .ok (.getfield 7, 3) := by decide +kernel
theorem dX6_matchOf_80 : decode cX6_matchOf 80 = .ok (.iconst 1, 1) := by decide +kernel
theorem dX6_matchOf_81 : decode cX6_matchOf 81 = .ok (.iaload, 1) := by decide +kernel
theorem dX6_matchOf_82 : decode cX6_matchOf 82 = .ok (.if_icmp .ge 144, 3) := by decide +kernel
theorem dX6_matchOf_85 : decode cX6_matchOf 85 = .ok (.iload_n 3, 1) := by decide +kernel
theorem dX6_matchOf_86 : decode cX6_matchOf 86 = .ok (.iload 4, 2) := by decide +kernel
theorem dX6_matchOf_88 : decode cX6_matchOf 88 = .ok (.ishr, 1) := by decide +kernel
theorem dX6_matchOf_89 : decode cX6_matchOf 89 = .ok (.iconst 1, 1) := by decide +kernel
theorem dX6_matchOf_90 : decode cX6_matchOf 90 = .ok (.iand, 1) := by decide +kernel
theorem dX6_matchOf_91 : decode cX6_matchOf 91 = .ok (.iconst 1, 1) := by decide +kernel
theorem dX6_matchOf_92 : decode cX6_matchOf 92 = .ok (.if_icmp .ne 7, 3) := by decide +kernel
theorem dX6_matchOf_95 : decode cX6_matchOf 95 = .ok (.iconst 1, 1) := by decide +kernel
theorem dX6_matchOf_96 : decode cX6_matchOf 96 = .ok (.goto 4, 3) := by decide +kernel
theorem dX6_matchOf_99 : decode cX6_matchOf 99 = .ok (.iconst 0, 1) := by decide +kernel
theorem dX6_matchOf_100 : decode cX6_matchOf 100 = .ok (.istore 5, 2) := by decide +kernel
theorem dX6_matchOf_102 : decode cX6_matchOf 102 = .ok (.iload 4, 2) := by decide +kernel
theorem dX6_matchOf_104 : decode cX6_matchOf 104 = .ok (.iconst 1, 1) := by decide +kernel
theorem dX6_matchOf_105 : decode cX6_matchOf 105 = .ok (.iadd, 1) := by decide +kernel
theorem dX6_matchOf_106 : decode cX6_matchOf 106 = .ok (.istore 6, 2) := by decide +kernel
theorem dX6_matchOf_108 : decode cX6_matchOf 108 = .ok (.iload 6, 2) := by decide +kernel
theorem dX6_matchOf_110 : decode cX6_matchOf 110 = .ok (.aload_n 0, 1) := by decide +kernel
theorem dX6_matchOf_111 : decode cX6_matchOf 111 = .ok (.getfield 7, 3) := by decide +kernel
theorem dX6_matchOf_114 : decode cX6_matchOf 114 = .ok (.iconst 1, 1) := by decide +kernel
theorem dX6_matchOf_115 : decode cX6_matchOf 115 = .ok (.iaload, 1) := by decide +kernel
theorem dX6_matchOf_116 : decode cX6_matchOf 116 = .ok (.if_icmp .ge 95, 3) := by decide +kernel
theorem dX6_matchOf_119 : decode cX6_matchOf 119 = .ok (.iload 5, 2) := by decide +kernel
theorem dX6_matchOf_121 : decode cX6_matchOf 121 = .ok (.ifCond .eq 90, 3) := by decide +kernel
theorem dX6_matchOf_124 : decode cX6_matchOf 124 = .ok (.iload_n 3, 1) := by decide +kernel
theorem dX6_matchOf_125 : decode cX6_matchOf 125 = .ok (.iconst 1, 1) := by decide +kernel
theorem dX6_matchOf_126 : decode cX6_matchOf 126 = .ok (.iload 4, 2) := by decide +kernel
theorem dX6_matchOf_128 : decode cX6_matchOf 128 = .ok (.ishl, 1) := by decide +kernel
theorem dX6_matchOf_129 : decode cX6_matchOf 129 = .ok (.iconst (-1), 1) := by decide +kernel
theorem dX6_matchOf_130 : decode cX6_matchOf 130 = .ok (.ixor, 1) := by decide +kernel
theorem dX6_matchOf_131 : decode cX6_matchOf 131 = .ok (.iand, 1) := by decide +kernel
theorem dX6_matchOf_132 : decode cX6_matchOf 132 = .ok (.iconst 1, 1) := by decide +kernel
theorem dX6_matchOf_133 : decode cX6_matchOf 133 = .ok (.iload 6, 2) := by decide +kernel
theorem dX6_matchOf_135 : decode cX6_matchOf 135 = .ok (.ishl, 1) := by decide +kernel
theorem dX6_matchOf_136 : decode cX6_matchOf 136 = .ok (.iconst (-1), 1) := by decide +kernel
theorem dX6_matchOf_137 : decode cX6_matchOf 137 = .ok (.ixor, 1) := by decide +kernel
theorem dX6_matchOf_138 : decode cX6_matchOf 138 = .ok (.iand, 1) := by decide +kernel
theorem dX6_matchOf_139 : decode cX6_matchOf 139 = .ok (.istore 7, 2) := by decide +kernel
theorem dX6_matchOf_141 : decode cX6_matchOf 141 = .ok (.iload_n 3, 1) := by decide +kernel
theorem dX6_matchOf_142 : decode cX6_matchOf 142 = .ok (.iload 6, 2) := by decide +kernel
theorem dX6_matchOf_144 : decode cX6_matchOf 144 = .ok (.ishr, 1) := by decide +kernel
theorem dX6_matchOf_145 : decode cX6_matchOf 145 = .ok (.iconst 1, 1) := by decide +kernel
theorem dX6_matchOf_146 : decode cX6_matchOf 146 = .ok (.iand, 1) := by decide +kernel
theorem dX6_matchOf_147 : decode cX6_matchOf 147 = .ok (.iconst 1, 1) := by decide +kernel
theorem dX6_matchOf_148 : decode cX6_matchOf 148 = .ok (.if_icmp .ne 57, 3) := by decide +kernel
theorem dX6_matchOf_151 : decode cX6_matchOf 151 = .ok (.aload_n 0, 1) := by decide +kernel
theorem dX6_matchOf_152 : decode cX6_matchOf 152 = .ok (.getfield 25, 3) := by decide +kernel
theorem dX6_matchOf_155 : decode cX6_matchOf 155 = .ok (.bipush 8, 2) := by decide +kernel
theorem dX6_matchOf_157 : decode cX6_matchOf 157 = .ok (.iload 4, 2) := by decide +kernel
theorem dX6_matchOf_159 : decode cX6_matchOf 159 = .ok (.imul, 1) := by decide +kernel
theorem dX6_matchOf_160 : decode cX6_matchOf 160 = .ok (.iload 6, 2) := by decide +kernel
theorem dX6_matchOf_162 : decode cX6_matchOf 162 = .ok (.iadd, 1) := by decide +kernel
theorem dX6_matchOf_163 : decode cX6_matchOf 163 = .ok (.iaload, 1) := by decide +kernel
theorem dX6_matchOf_164 : decode cX6_matchOf 164 = .ok (.aload_n 0, 1) := by decide +kernel
theorem dX6_matchOf_165 : decode cX6_matchOf 165 = .ok (.getfield 28, 3) := by decide +kernel
theorem dX6_matchOf_168 : decode cX6_matchOf 168 = .ok (.iload 7, 2) := by decide +kernel
theorem dX6_matchOf_170 : decode cX6_matchOf 170 = .ok (.iaload, 1) := by decide +kernel
theorem dX6_matchOf_171 : decode cX6_matchOf 171 = .ok (.iadd, 1) := by decide +kernel
theorem dX6_matchOf_172 : decode cX6_matchOf 172 = .ok (.aload_n 0, 1) := by decide +kernel
theorem dX6_matchOf_173 : decode cX6_matchOf 173 = .ok (.getfield 28, 3) := by decide +kernel
theorem dX6_matchOf_176 : decode cX6_matchOf 176 = .ok (.iload_n 3, 1) := by decide +kernel
theorem dX6_matchOf_177 : decode cX6_matchOf 177 = .ok (.iaload, 1) := by decide +kernel
theorem dX6_matchOf_178 : decode cX6_matchOf 178 = .ok (.if_icmp .ne 27, 3) := by decide +kernel
theorem dX6_matchOf_181 : decode cX6_matchOf 181 = .ok (.aload_n 0, 1) := by decide +kernel
theorem dX6_matchOf_182 : decode cX6_matchOf 182 = .ok (.getfield 31, 3) := by decide +kernel
theorem dX6_matchOf_185 : decode cX6_matchOf 185 = .ok (.iload 4, 2) := by decide +kernel
theorem dX6_matchOf_187 : decode cX6_matchOf 187 = .ok (.iload 6, 2) := by decide +kernel
theorem dX6_matchOf_189 : decode cX6_matchOf 189 = .ok (.iastore, 1) := by decide +kernel
theorem dX6_matchOf_190 : decode cX6_matchOf 190 = .ok (.aload_n 0, 1) := by decide +kernel
theorem dX6_matchOf_191 : decode cX6_matchOf 191 = .ok (.getfield 31, 3) := by decide +kernel
theorem dX6_matchOf_194 : decode cX6_matchOf 194 = .ok (.iload 6, 2) := by decide +kernel
theorem dX6_matchOf_196 : decode cX6_matchOf 196 = .ok (.iload 4, 2) := by decide +kernel
theorem dX6_matchOf_198 : decode cX6_matchOf 198 = .ok (.iastore, 1) := by decide +kernel
theorem dX6_matchOf_199 : decode cX6_matchOf 199 = .ok (.iload 7, 2) := by decide +kernel
theorem dX6_matchOf_201 : decode cX6_matchOf 201 = .ok (.istore_n 3, 1) := by decide +kernel
theorem dX6_matchOf_202 : decode cX6_matchOf 202 = .ok (.iconst 0, 1) := by decide +kernel
theorem dX6_matchOf_203 : decode cX6_matchOf 203 = .ok (.istore 5, 2) := by decide +kernel
theorem dX6_matchOf_205 : decode cX6_matchOf 205 = .ok (.iinc 6 1, 3) := by decide +kernel
theorem dX6_matchOf_208 : decode cX6_matchOf 208 = .ok (.goto (-100), 3) := by decide +kernel
theorem dX6_matchOf_211 : decode cX6_matchOf 211 = .ok (.iload_n 3, 1) := by decide +kernel
theorem dX6_matchOf_212 : decode cX6_matchOf 212 = .ok (.iconst 1, 1) := by decide +kernel
theorem dX6_matchOf_213 : decode cX6_matchOf 213 = .ok (.iload 4, 2) := by decide +kernel
theorem dX6_matchOf_215 : decode cX6_matchOf 215 = .ok (.ishl, 1) := by decide +kernel
theorem dX6_matchOf_216 : decode cX6_matchOf 216 = .ok (.iconst (-1), 1) := by decide +kernel
theorem dX6_matchOf_217 : decode cX6_matchOf 217 = .ok (.ixor, 1) := by decide +kernel
theorem dX6_matchOf_218 : decode cX6_matchOf 218 = .ok (.iand, 1) := by decide +kernel
theorem dX6_matchOf_219 : decode cX6_matchOf 219 = .ok (.istore_n 3, 1) := by decide +kernel
theorem dX6_matchOf_220 : decode cX6_matchOf 220 = .ok (.iinc 4 1, 3) := by decide +kernel
theorem dX6_matchOf_223 : decode cX6_matchOf 223 = .ok (.goto (-149), 3) := by decide +kernel
theorem dX6_matchOf_226 : decode cX6_matchOf 226 = .ok (.aload_n 0, 1) := by decide +kernel
theorem dX6_matchOf_227 : decode cX6_matchOf 227 = .ok (.getfield 31, 3) := by decide +kernel
theorem dX6_matchOf_230 : decode cX6_matchOf 230 = .ok (.iload_n 1, 1) := by decide +kernel
theorem dX6_matchOf_231 : decode cX6_matchOf 231 = .ok (.iaload, 1) := by decide +kernel
theorem dX6_matchOf_232 : decode cX6_matchOf 232 = .ok (.ireturn, 1) := by decide +kernel
theorem dX6_kindFor_0 : decode cX6_kindFor 0 = .ok (.aload_n 0, 1) := by decide +kernel
theorem dX6_kindFor_1 : decode cX6_kindFor 1 = .ok (.iload_n 1, 1) := by decide +kernel
theorem dX6_kindFor_2 : decode cX6_kindFor 2 = .ok (.iload_n 2, 1) := by decide +kernel
theorem dX6_kindFor_3 : decode cX6_kindFor 3 = .ok (.invokevirtual 115, 3) := by decide +kernel
theorem dX6_kindFor_6 : decode cX6_kindFor 6 = .ok (.ifCond .eq 28, 3) := by decide +kernel
theorem dX6_kindFor_9 : decode cX6_kindFor 9 = .ok (.iload_n 3, 1) := by decide +kernel
theorem dX6_kindFor_10 : decode cX6_kindFor 10 = .ok (.invokestatic 173, 3) := by decide +kernel
theorem dX6_kindFor_13 : decode cX6_kindFor 13 = .ok (.ifCond .eq 21, 3) := by decide +kernel
theorem dX6_kindFor_16 : decode cX6_kindFor 16 = .ok (.aload_n 0, 1) := by decide +kernel
theorem dX6_kindFor_17 : decode cX6_kindFor 17 = .ok (.iload_n 1, 1) := by decide +kernel
theorem dX6_kindFor_18 : decode cX6_kindFor 18 = .ok (.iconst 0, 1) := by decide +kernel
theorem dX6_kindFor_19 : decode cX6_kindFor 19 = .ok (.invokestatic 66, 3) := by decide +kernel
theorem dX6_kindFor_22 : decode cX6_kindFor 22 = .ok (.iconst 0, 1) := by decide +kernel
theorem dX6_kindFor_23 : decode cX6_kindFor 23 = .ok (.bipush 6, 2) := by decide +kernel
theorem dX6_kindFor_25 : decode cX6_kindFor 25 = .ok (.iload_n 1, 1) := by decide +kernel
theorem dX6_kindFor_26 : decode cX6_kindFor 26 = .ok (.iload_n 2, 1) := by decide +kernel
theorem dX6_kindFor_27 : decode cX6_kindFor 27 = .ok (.iload_n 3, 1) := by decide +kernel
theorem dX6_kindFor_28 : decode cX6_kindFor 28 = .ok (.invokevirtual 179, 3) := by decide +kernel
theorem dX6_kindFor_31 : decode cX6_kindFor 31 = .ok (.goto 9, 3) := by decide +kernel
theorem dX6_kindFor_34 : decode cX6_kindFor 34 = .ok (.aload_n 0, 1) := by decide +kernel
theorem dX6_kindFor_35 : decode cX6_kindFor 35 = .ok (.ldc 49, 2) := by decide +kernel
theorem dX6_kindFor_37 : decode cX6_kindFor 37 = .ok (.invokevirtual 73, 3) := by decide +kernel
theorem dX6_kindFor_40 : decode cX6_kindFor 40 = .ok (.ireturn, 1) := by decide +kernel
theorem dX6_viewFor_0 : decode cX6_viewFor 0 = .ok (.aload_n 0, 1) := by decide +kernel
theorem dX6_viewFor_1 : decode cX6_viewFor 1 = .ok (.iload_n 1, 1) := by decide +kernel
theorem dX6_viewFor_2 : decode cX6_viewFor 2 = .ok (.iload_n 2, 1) := by decide +kernel
theorem dX6_viewFor_3 : decode cX6_viewFor 3 = .ok (.invokevirtual 115, 3) := by decide +kernel
theorem dX6_viewFor_6 : decode cX6_viewFor 6 = .ok (.ifCond .eq 40, 3) := by decide +kernel
theorem dX6_viewFor_9 : decode cX6_viewFor 9 = .ok (.iload_n 3, 1) := by decide +kernel
theorem dX6_viewFor_10 : decode cX6_viewFor 10 = .ok (.invokestatic 104, 3) := by decide +kernel
theorem dX6_viewFor_13 : decode cX6_viewFor 13 = .ok (.ifCond .eq 33, 3) := by decide +kernel
theorem dX6_viewFor_16 : decode cX6_viewFor 16 = .ok (.iload 4, 2) := by decide +kernel
theorem dX6_viewFor_18 : decode cX6_viewFor 18 = .ok (.invokestatic 173, 3) := by decide +kernel
theorem dX6_viewFor_21 : decode cX6_viewFor 21 = .ok (.ifCond .eq 25, 3) := by decide +kernel
theorem dX6_viewFor_24 : decode cX6_viewFor 24 = .ok (.aload_n 0, 1) := by decide +kernel
theorem dX6_viewFor_25 : decode cX6_viewFor 25 = .ok (.iload_n 1, 1) := by decide +kernel
theorem dX6_viewFor_26 : decode cX6_viewFor 26 = .ok (.iconst 2, 1) := by decide +kernel
theorem dX6_viewFor_27 : decode cX6_viewFor 27 = .ok (.iload_n 3, 1) := by decide +kernel
theorem dX6_viewFor_28 : decode cX6_viewFor 28 = .ok (.iadd, 1) := by decide +kernel
theorem dX6_viewFor_29 : decode cX6_viewFor 29 = .ok (.invokestatic 66, 3) := by decide +kernel
theorem dX6_viewFor_32 : decode cX6_viewFor 32 = .ok (.bipush (-9), 2) := by decide +kernel
theorem dX6_viewFor_34 : decode cX6_viewFor 34 = .ok (.bipush 9, 2) := by decide +kernel
theorem dX6_viewFor_36 : decode cX6_viewFor 36 = .ok (.iload_n 1, 1) := by decide +kernel
theorem dX6_viewFor_37 : decode cX6_viewFor 37 = .ok (.iload_n 2, 1) := by decide +kernel
theorem dX6_viewFor_38 : decode cX6_viewFor 38 = .ok (.iload 4, 2) := by decide +kernel
theorem dX6_viewFor_40 : decode cX6_viewFor 40 = .ok (.invokevirtual 179, 3) := by decide +kernel
theorem dX6_viewFor_43 : decode cX6_viewFor 43 = .ok (.goto 9, 3) := by decide +kernel
theorem dX6_viewFor_46 : decode cX6_viewFor 46 = .ok (.aload_n 0, 1) := by decide +kernel
theorem dX6_viewFor_47 : decode cX6_viewFor 47 = .ok (.ldc 49, 2) := by decide +kernel
theorem dX6_viewFor_49 : decode cX6_viewFor 49 = .ok (.invokevirtual 73, 3) := by decide +kernel
theorem dX6_viewFor_52 : decode cX6_viewFor 52 = .ok (.ireturn, 1) := by decide +kernel
theorem dX6_voiceFor_0 : decode cX6_voiceFor 0 = .ok (.aload_n 0, 1) := by decide +kernel
theorem dX6_voiceFor_1 : decode cX6_voiceFor 1 = .ok (.iload_n 1, 1) := by decide +kernel
theorem dX6_voiceFor_2 : decode cX6_voiceFor 2 = .ok (.iload_n 2, 1) := by decide +kernel
theorem dX6_voiceFor_3 : decode cX6_voiceFor 3 = .ok (.invokevirtual 115, 3) := by decide +kernel
theorem dX6_voiceFor_6 : decode cX6_voiceFor 6 = .ok (.ifCond .eq 23, 3) := by decide +kernel
theorem dX6_voiceFor_9 : decode cX6_voiceFor 9 = .ok (.iload_n 3, 1) := by decide +kernel
theorem dX6_voiceFor_10 : decode cX6_voiceFor 10 = .ok (.i2l, 1) := by decide +kernel
theorem dX6_voiceFor_11 : decode cX6_voiceFor 11 = .ok (.lconst 0, 1) := by decide +kernel
theorem dX6_voiceFor_12 : decode cX6_voiceFor 12 = .ok (.ldc2_w 188, 3) := by decide +kernel
theorem dX6_voiceFor_15 : decode cX6_voiceFor 15 = .ok (.invokestatic 52, 3) := by decide +kernel
theorem dX6_voiceFor_18 : decode cX6_voiceFor 18 = .ok (.ifCond .eq 11, 3) := by decide +kernel
theorem dX6_voiceFor_21 : decode cX6_voiceFor 21 = .ok (.iload 4, 2) := by decide +kernel
theorem dX6_voiceFor_23 : decode cX6_voiceFor 23 = .ok (.invokestatic 173, 3) := by decide +kernel
theorem dX6_voiceFor_26 : decode cX6_voiceFor 26 = .ok (.ifCond .ne 10, 3) := by decide +kernel
theorem dX6_voiceFor_29 : decode cX6_voiceFor 29 = .ok (.aload_n 0, 1) := by decide +kernel
theorem dX6_voiceFor_30 : decode cX6_voiceFor 30 = .ok (.ldc 49, 2) := by decide +kernel
theorem dX6_voiceFor_32 : decode cX6_voiceFor 32 = .ok (.invokevirtual 73, 3) := by decide +kernel
theorem dX6_voiceFor_35 : decode cX6_voiceFor 35 = .ok (.ireturn, 1) := by decide +kernel
theorem dX6_voiceFor_36 : decode cX6_voiceFor 36 = .ok (.aload_n 0, 1) := by decide +kernel
theorem dX6_voiceFor_37 : decode cX6_voiceFor 37 = .ok (.iload_n 1, 1) := by decide +kernel
theorem dX6_voiceFor_38 : decode cX6_voiceFor 38 = .ok (.iconst 1, 1) := by decide +kernel
theorem dX6_voiceFor_39 : decode cX6_voiceFor 39 = .ok (.invokevirtual 83, 3) := by decide +kernel
theorem dX6_voiceFor_42 : decode cX6_voiceFor 42 = .ok (.istore 5, 2) := by decide +kernel
theorem dX6_voiceFor_44 : decode cX6_voiceFor 44 = .ok (.iconst (-1), 1) := by decide +kernel
theorem dX6_voiceFor_45 : decode cX6_voiceFor 45 = .ok (.istore 6, 2) := by decide +kernel
theorem dX6_voiceFor_47 : decode cX6_voiceFor 47 = .ok (.iconst 0, 1) := by decide +kernel
theorem dX6_voiceFor_48 : decode cX6_voiceFor 48 = .ok (.istore 7, 2) := by decide +kernel
theorem dX6_voiceFor_50 : decode cX6_voiceFor 50 = .ok (.iload 7, 2) := by decide +kernel
theorem dX6_voiceFor_52 : decode cX6_voiceFor 52 = .ok (.bipush 9, 2) := by decide +kernel
theorem dX6_voiceFor_54 : decode cX6_voiceFor 54 = .ok (.if_icmp .gt 46, 3) := by decide +kernel
theorem dX6_voiceFor_57 : decode cX6_voiceFor 57 = .ok (.iload 6, 2) := by decide +kernel
theorem dX6_voiceFor_59 : decode cX6_voiceFor 59 = .ok (.ifCond .ge 41, 3) := by decide +kernel
theorem dX6_voiceFor_62 : decode cX6_voiceFor 62 = .ok (.aload_n 0, 1) := by decide +kernel
theorem dX6_voiceFor_63 : decode cX6_voiceFor 63 = .ok (.getfield 7, 3) := by decide +kernel
theorem dX6_voiceFor_66 : decode cX6_voiceFor 66 = .ok (.iload_n 1, 1) := by decide +kernel
theorem dX6_voiceFor_67 : decode cX6_voiceFor 67 = .ok (.iconst 1, 1) := by decide +kernel
theorem dX6_voiceFor_68 : decode cX6_voiceFor 68 = .ok (.invokestatic 66, 3) := by decide +kernel
theorem dX6_voiceFor_71 : decode cX6_voiceFor 71 = .ok (.iload 7, 2) := by decide +kernel
theorem dX6_voiceFor_73 : decode cX6_voiceFor 73 = .ok (.iastore, 1) := by decide +kernel
theorem dX6_voiceFor_74 : decode cX6_voiceFor 74 = .ok (.aload_n 0, 1) := by decide +kernel
theorem dX6_voiceFor_75 : decode cX6_voiceFor 75 = .ok (.iload_n 1, 1) := by decide +kernel
theorem dX6_voiceFor_76 : decode cX6_voiceFor 76 = .ok (.iload_n 2, 1) := by decide +kernel
theorem dX6_voiceFor_77 : decode cX6_voiceFor 77 = .ok (.iload 4, 2) := by decide +kernel
theorem dX6_voiceFor_79 : decode cX6_voiceFor 79 = .ok (.invokevirtual 176, 3) := by decide +kernel
theorem dX6_voiceFor_82 : decode cX6_voiceFor 82 = .ok (.iload_n 3, 1) := by decide +kernel
theorem dX6_voiceFor_83 : decode cX6_voiceFor 83 = .ok (.if_icmp .lt 8, 3) := by decide +kernel
theorem dX6_voiceFor_86 : decode cX6_voiceFor 86 = .ok (.iload 7, 2) := by decide +kernel
theorem dX6_voiceFor_88 : decode cX6_voiceFor 88 = .ok (.goto 4, 3) := by decide +kernel
theorem dX6_voiceFor_91 : decode cX6_voiceFor 91 = .ok (.iconst (-1), 1) := by decide +kernel
theorem dX6_voiceFor_92 : decode cX6_voiceFor 92 = .ok (.istore 6, 2) := by decide +kernel
theorem dX6_voiceFor_94 : decode cX6_voiceFor 94 = .ok (.iinc 7 1, 3) := by decide +kernel
theorem dX6_voiceFor_97 : decode cX6_voiceFor 97 = .ok (.goto (-47), 3) := by decide +kernel
theorem dX6_voiceFor_100 : decode cX6_voiceFor 100 = .ok (.aload_n 0, 1) := by decide +kernel
theorem dX6_voiceFor_101 : decode cX6_voiceFor 101 = .ok (.getfield 7, 3) := by decide +kernel
theorem dX6_voiceFor_104 : decode cX6_voiceFor 104 = .ok (.iload_n 1, 1) := by decide +kernel
theorem dX6_voiceFor_105 : decode cX6_voiceFor 105 = .ok (.iconst 1, 1) := by decide +kernel
theorem dX6_voiceFor_106 : decode cX6_voiceFor 106 = .ok (.invokestatic 66, 3) := by decide +kernel
theorem dX6_voiceFor_109 : decode cX6_voiceFor 109 = .ok (.iload 5, 2) := by decide +kernel
theorem dX6_voiceFor_111 : decode cX6_voiceFor 111 = .ok (.iastore, 1) := by decide +kernel
theorem dX6_voiceFor_112 : decode cX6_voiceFor 112 = .ok (.iload 6, 2) := by decide +kernel
theorem dX6_voiceFor_114 : decode cX6_voiceFor 114 = .ok (.ifCond .ge 12, 3) := by decide +kernel
theorem dX6_voiceFor_117 : decode cX6_voiceFor 117 = .ok (.aload_n 0, 1) := by decide +kernel
theorem dX6_voiceFor_118 : decode cX6_voiceFor 118 = .ok (.ldc 162, 2) := by decide +kernel
theorem dX6_voiceFor_120 : decode cX6_voiceFor 120 = .ok (.invokevirtual 73, 3) := by decide +kernel
theorem dX6_voiceFor_123 : decode cX6_voiceFor 123 = .ok (.goto 5, 3) := by decide +kernel
theorem dX6_voiceFor_126 : decode cX6_voiceFor 126 = .ok (.iload 6, 2) := by decide +kernel
theorem dX6_voiceFor_128 : decode cX6_voiceFor 128 = .ok (.ireturn, 1) := by decide +kernel
theorem dX6_isTold_0 : decode cX6_isTold 0 = .ok (.iconst 1, 1) := by decide +kernel
theorem dX6_isTold_1 : decode cX6_isTold 1 = .ok (.istore_n 2, 1) := by decide +kernel
theorem dX6_isTold_2 : decode cX6_isTold 2 = .ok (.aload_n 0, 1) := by decide +kernel
theorem dX6_isTold_3 : decode cX6_isTold 3 = .ok (.invokevirtual 151, 3) := by decide +kernel
theorem dX6_isTold_6 : decode cX6_isTold 6 = .ok (.iconst 0, 1) := by decide +kernel
theorem dX6_isTold_7 : decode cX6_isTold 7 = .ok (.istore_n 3, 1) := by decide +kernel
theorem dX6_isTold_8 : decode cX6_isTold 8 = .ok (.iload_n 3, 1) := by decide +kernel
theorem dX6_isTold_9 : decode cX6_isTold 9 = .ok (.aload_n 0, 1) := by decide +kernel
theorem dX6_isTold_10 : decode cX6_isTold 10 = .ok (.getfield 40, 3) := by decide +kernel
theorem dX6_isTold_13 : decode cX6_isTold 13 = .ok (.iload_n 1, 1) := by decide +kernel
theorem dX6_isTold_14 : decode cX6_isTold 14 = .ok (.iaload, 1) := by decide +kernel
theorem dX6_isTold_15 : decode cX6_isTold 15 = .ok (.if_icmp .ge 53, 3) := by decide +kernel
theorem dX6_isTold_18 : decode cX6_isTold 18 = .ok (.iload_n 2, 1) := by decide +kernel
theorem dX6_isTold_19 : decode cX6_isTold 19 = .ok (.ifCond .eq 49, 3) := by decide +kernel
theorem dX6_isTold_22 : decode cX6_isTold 22 = .ok (.aload_n 0, 1) := by decide +kernel
theorem dX6_isTold_23 : decode cX6_isTold 23 = .ok (.getfield 43, 3) := by decide +kernel
theorem dX6_isTold_26 : decode cX6_isTold 26 = .ok (.bipush 40, 2) := by decide +kernel
theorem dX6_isTold_28 : decode cX6_isTold 28 = .ok (.iload_n 1, 1) := by decide +kernel
theorem dX6_isTold_29 : decode cX6_isTold 29 = .ok (.imul, 1) := by decide +kernel
theorem dX6_isTold_30 : decode cX6_isTold 30 = .ok (.iload_n 3, 1) := by decide +kernel
theorem dX6_isTold_31 : decode cX6_isTold 31 = .ok (.iadd, 1) := by decide +kernel
theorem dX6_isTold_32 : decode cX6_isTold 32 = .ok (.iaload, 1) := by decide +kernel
theorem dX6_isTold_33 : decode cX6_isTold 33 = .ok (.istore 4, 2) := by decide +kernel
theorem dX6_isTold_35 : decode cX6_isTold 35 = .ok (.iload 4, 2) := by decide +kernel
theorem dX6_isTold_37 : decode cX6_isTold 37 = .ok (.iconst (-1), 1) := by decide +kernel
theorem dX6_isTold_38 : decode cX6_isTold 38 = .ok (.if_icmp .eq 14, 3) := by decide +kernel
theorem dX6_isTold_41 : decode cX6_isTold 41 = .ok (.iload 4, 2) := by decide +kernel
theorem dX6_isTold_43 : decode cX6_isTold 43 = .ok (.aload_n 0, 1) := by decide +kernel
theorem dX6_isTold_44 : decode cX6_isTold 44 = .ok (.getfield 7, 3) := by decide +kernel
theorem dX6_isTold_47 : decode cX6_isTold 47 = .ok (.iconst 2, 1) := by decide +kernel
theorem dX6_isTold_48 : decode cX6_isTold 48 = .ok (.iaload, 1) := by decide +kernel
theorem dX6_isTold_49 : decode cX6_isTold 49 = .ok (.if_icmp .ne 7, 3) := by decide +kernel
theorem dX6_isTold_52 : decode cX6_isTold 52 = .ok (.iconst 1, 1) := by decide +kernel
theorem dX6_isTold_53 : decode cX6_isTold 53 = .ok (.goto 4, 3) := by decide +kernel
theorem dX6_isTold_56 : decode cX6_isTold 56 = .ok (.iconst 0, 1) := by decide +kernel
theorem dX6_isTold_57 : decode cX6_isTold 57 = .ok (.istore_n 2, 1) := by decide +kernel
theorem dX6_isTold_58 : decode cX6_isTold 58 = .ok (.aload_n 0, 1) := by decide +kernel
theorem dX6_isTold_59 : decode cX6_isTold 59 = .ok (.invokevirtual 138, 3) := by decide +kernel
theorem dX6_isTold_62 : decode cX6_isTold 62 = .ok (.iinc 3 1, 3) := by decide +kernel
theorem dX6_isTold_65 : decode cX6_isTold 65 = .ok (.goto (-57), 3) := by decide +kernel
theorem dX6_isTold_68 : decode cX6_isTold 68 = .ok (.aload_n 0, 1) := by decide +kernel
theorem dX6_isTold_69 : decode cX6_isTold 69 = .ok (.iload_n 2, 1) := by decide +kernel
theorem dX6_isTold_70 : decode cX6_isTold 70 = .ok (.ifCond .eq 7, 3) := by decide +kernel
theorem dX6_isTold_73 : decode cX6_isTold 73 = .ok (.iconst 1, 1) := by decide +kernel
theorem dX6_isTold_74 : decode cX6_isTold 74 = .ok (.goto 4, 3) := by decide +kernel
theorem dX6_isTold_77 : decode cX6_isTold 77 = .ok (.iconst 0, 1) := by decide +kernel
theorem dX6_isTold_78 : decode cX6_isTold 78 = .ok (.invokevirtual 154, 3) := by decide +kernel
theorem dX6_isTold_81 : decode cX6_isTold 81 = .ok (.iconst 1, 1) := by decide +kernel
theorem dX6_isTold_82 : decode cX6_isTold 82 = .ok (.if_icmp .ne 7, 3) := by decide +kernel
theorem dX6_isTold_85 : decode cX6_isTold 85 = .ok (.iconst 1, 1) := by decide +kernel
theorem dX6_isTold_86 : decode cX6_isTold 86 = .ok (.goto 4, 3) := by decide +kernel
theorem dX6_isTold_89 : decode cX6_isTold 89 = .ok (.iconst 0, 1) := by decide +kernel
theorem dX6_isTold_90 : decode cX6_isTold 90 = .ok (.ireturn, 1) := by decide +kernel
theorem dX6_wrongOne_0 : decode cX6_wrongOne 0 = .ok (.aload_n 0, 1) := by decide +kernel
theorem dX6_wrongOne_1 : decode cX6_wrongOne 1 = .ok (.iload_n 1, 1) := by decide +kernel
theorem dX6_wrongOne_2 : decode cX6_wrongOne 2 = .ok (.invokevirtual 190, 3) := by decide +kernel
theorem dX6_wrongOne_5 : decode cX6_wrongOne 5 = .ok (.istore_n 3, 1) := by decide +kernel
theorem dX6_wrongOne_6 : decode cX6_wrongOne 6 = .ok (.iload_n 3, 1) := by decide +kernel
theorem dX6_wrongOne_7 : decode cX6_wrongOne 7 = .ok (.ifCond .eq 7, 3) := by decide +kernel
theorem dX6_wrongOne_10 : decode cX6_wrongOne 10 = .ok (.iload_n 3, 1) := by decide +kernel
theorem dX6_wrongOne_11 : decode cX6_wrongOne 11 = .ok (.goto 17, 3) := by decide +kernel
theorem dX6_wrongOne_14 : decode cX6_wrongOne 14 = .ok (.aload_n 0, 1) := by decide +kernel
theorem dX6_wrongOne_15 : decode cX6_wrongOne 15 = .ok (.iload_n 2, 1) := by decide +kernel
theorem dX6_wrongOne_16 : decode cX6_wrongOne 16 = .ok (.invokevirtual 56, 3) := by decide +kernel
theorem dX6_wrongOne_19 : decode cX6_wrongOne 19 = .ok (.ifCond .eq 7, 3) := by decide +kernel
theorem dX6_wrongOne_22 : decode cX6_wrongOne 22 = .ok (.iconst 0, 1) := by decide +kernel
theorem dX6_wrongOne_23 : decode cX6_wrongOne 23 = .ok (.goto 5, 3) := by decide +kernel
theorem dX6_wrongOne_26 : decode cX6_wrongOne 26 = .ok (.ldc 49, 2) := by decide +kernel
theorem dX6_wrongOne_28 : decode cX6_wrongOne 28 = .ok (.ireturn, 1) := by decide +kernel
theorem dX6_findFits_0 : decode cX6_findFits 0 = .ok (.iload_n 2, 1) := by decide +kernel
theorem dX6_findFits_1 : decode cX6_findFits 1 = .ok (.iconst 2, 1) := by decide +kernel
theorem dX6_findFits_2 : decode cX6_findFits 2 = .ok (.aload_n 0, 1) := by decide +kernel
theorem dX6_findFits_3 : decode cX6_findFits 3 = .ok (.getfield 7, 3) := by decide +kernel
theorem dX6_findFits_6 : decode cX6_findFits 6 = .ok (.iconst 3, 1) := by decide +kernel
theorem dX6_findFits_7 : decode cX6_findFits 7 = .ok (.iaload, 1) := by decide +kernel
theorem dX6_findFits_8 : decode cX6_findFits 8 = .ok (.iadd, 1) := by decide +kernel
theorem dX6_findFits_9 : decode cX6_findFits 9 = .ok (.invokestatic 66, 3) := by decide +kernel
theorem dX6_findFits_12 : decode cX6_findFits 12 = .ok (.istore_n 3, 1) := by decide +kernel
theorem dX6_findFits_13 : decode cX6_findFits 13 = .ok (.aload_n 0, 1) := by decide +kernel
theorem dX6_findFits_14 : decode cX6_findFits 14 = .ok (.getfield 7, 3) := by decide +kernel
theorem dX6_findFits_17 : decode cX6_findFits 17 = .ok (.iload_n 3, 1) := by decide +kernel
theorem dX6_findFits_18 : decode cX6_findFits 18 = .ok (.iaload, 1) := by decide +kernel
theorem dX6_findFits_19 : decode cX6_findFits 19 = .ok (.istore 4, 2) := by decide +kernel
theorem dX6_findFits_21 : decode cX6_findFits 21 = .ok (.aload_n 0, 1) := by decide +kernel
theorem dX6_findFits_22 : decode cX6_findFits 22 = .ok (.iconst 0, 1) := by decide +kernel
theorem dX6_findFits_23 : decode cX6_findFits 23 = .ok (.putfield 193, 3) := by decide +kernel
theorem dX6_findFits_26 : decode cX6_findFits 26 = .ok (.aload_n 0, 1) := by decide +kernel
theorem dX6_findFits_27 : decode cX6_findFits 27 = .ok (.iconst 0, 1) := by decide +kernel
theorem dX6_findFits_28 : decode cX6_findFits 28 = .ok (.putfield 196, 3) := by decide +kernel
theorem dX6_findFits_31 : decode cX6_findFits 31 = .ok (.bipush (-9), 2) := by decide +kernel
theorem dX6_findFits_33 : decode cX6_findFits 33 = .ok (.istore 5, 2) := by decide +kernel
theorem dX6_findFits_35 : decode cX6_findFits 35 = .ok (.iload 5, 2) := by decide +kernel
theorem dX6_findFits_37 : decode cX6_findFits 37 = .ok (.bipush 9, 2) := by decide +kernel
theorem dX6_findFits_39 : decode cX6_findFits 39 = .ok (.if_icmp .gt 55, 3) := by decide +kernel
theorem dX6_findFits_42 : decode cX6_findFits 42 = .ok (.aload_n 0, 1) := by decide +kernel
theorem dX6_findFits_43 : decode cX6_findFits 43 = .ok (.getfield 7, 3) := by decide +kernel
theorem dX6_findFits_46 : decode cX6_findFits 46 = .ok (.iload_n 3, 1) := by decide +kernel
theorem dX6_findFits_47 : decode cX6_findFits 47 = .ok (.iload 5, 2) := by decide +kernel
theorem dX6_findFits_49 : decode cX6_findFits 49 = .ok (.iastore, 1) := by decide +kernel
theorem dX6_findFits_50 : decode cX6_findFits 50 = .ok (.aload_n 0, 1) := by decide +kernel
theorem dX6_findFits_51 : decode cX6_findFits 51 = .ok (.iload_n 1, 1) := by decide +kernel
theorem dX6_findFits_52 : decode cX6_findFits 52 = .ok (.invokevirtual 199, 3) := by decide +kernel
theorem dX6_findFits_55 : decode cX6_findFits 55 = .ok (.ifCond .eq 33, 3) := by decide +kernel
theorem dX6_findFits_58 : decode cX6_findFits 58 = .ok (.aload_n 0, 1) := by decide +kernel
theorem dX6_findFits_59 : decode cX6_findFits 59 = .ok (.aload_n 0, 1) := by decide +kernel
theorem dX6_findFits_60 : decode cX6_findFits 60 = .ok (.getfield 193, 3) := by decide +kernel
theorem dX6_findFits_63 : decode cX6_findFits 63 = .ok (.ifCond .ne 8, 3) := by decide +kernel
theorem dX6_findFits_66 : decode cX6_findFits 66 = .ok (.iload 5, 2) := by decide +kernel
theorem dX6_findFits_68 : decode cX6_findFits 68 = .ok (.goto 7, 3) := by decide +kernel
theorem dX6_findFits_71 : decode cX6_findFits 71 = .ok (.aload_n 0, 1) := by decide +kernel
theorem dX6_findFits_72 : decode cX6_findFits 72 = .ok (.getfield 196, 3) := by decide +kernel
theorem dX6_findFits_75 : decode cX6_findFits 75 = .ok (.putfield 196, 3) := by decide +kernel
theorem dX6_findFits_78 : decode cX6_findFits 78 = .ok (.aload_n 0, 1) := by decide +kernel
theorem dX6_findFits_79 : decode cX6_findFits 79 = .ok (.dup, 1) := by decide +kernel
theorem dX6_findFits_80 : decode cX6_findFits 80 = .ok (.getfield 193, 3) := by decide +kernel
theorem dX6_findFits_83 : decode cX6_findFits 83 = .ok (.iconst 1, 1) := by decide +kernel
theorem dX6_findFits_84 : decode cX6_findFits 84 = .ok (.iadd, 1) := by decide +kernel
theorem dX6_findFits_85 : decode cX6_findFits 85 = .ok (.putfield 193, 3) := by decide +kernel
theorem dX6_findFits_88 : decode cX6_findFits 88 = .ok (.iinc 5 1, 3) := by decide +kernel
theorem dX6_findFits_91 : decode cX6_findFits 91 = .ok (.goto (-56), 3) := by decide +kernel
theorem dX6_findFits_94 : decode cX6_findFits 94 = .ok (.aload_n 0, 1) := by decide +kernel
theorem dX6_findFits_95 : decode cX6_findFits 95 = .ok (.getfield 7, 3) := by decide +kernel
theorem dX6_findFits_98 : decode cX6_findFits 98 = .ok (.iload_n 3, 1) := by decide +kernel
theorem dX6_findFits_99 : decode cX6_findFits 99 = .ok (.iload 4, 2) := by decide +kernel
theorem dX6_findFits_101 : decode cX6_findFits 101 = .ok (.iastore, 1) := by decide +kernel
theorem dX6_findFits_102 : decode cX6_findFits 102 = .ok (.return_, 1) := by decide +kernel
theorem dX6_fits_0 : decode cX6_fits 0 = .ok (.aload_n 0, 1) := by decide +kernel
theorem dX6_fits_1 : decode cX6_fits 1 = .ok (.iload_n 1, 1) := by decide +kernel
theorem dX6_fits_2 : decode cX6_fits 2 = .ok (.iload_n 2, 1) := by decide +kernel
theorem dX6_fits_3 : decode cX6_fits 3 = .ok (.invokevirtual 202, 3) := by decide +kernel
theorem dX6_fits_6 : decode cX6_fits 6 = .ok (.istore_n 3, 1) := by decide +kernel
theorem dX6_fits_7 : decode cX6_fits 7 = .ok (.iload_n 3, 1) := by decide +kernel
theorem dX6_fits_8 : decode cX6_fits 8 = .ok (.ifCond .eq 9, 3) := by decide +kernel
theorem dX6_fits_11 : decode cX6_fits 11 = .ok (.aload_n 0, 1) := by decide +kernel
theorem dX6_fits_12 : decode cX6_fits 12 = .ok (.iload_n 3, 1) := by decide +kernel
theorem dX6_fits_13 : decode cX6_fits 13 = .ok (.invokevirtual 73, 3) := by decide +kernel
theorem dX6_fits_16 : decode cX6_fits 16 = .ok (.ireturn, 1) := by decide +kernel
theorem dX6_fits_17 : decode cX6_fits 17 = .ok (.aload_n 0, 1) := by decide +kernel
theorem dX6_fits_18 : decode cX6_fits 18 = .ok (.iload_n 1, 1) := by decide +kernel
theorem dX6_fits_19 : decode cX6_fits 19 = .ok (.iload_n 2, 1) := by decide +kernel
theorem dX6_fits_20 : decode cX6_fits 20 = .ok (.invokevirtual 205, 3) := by decide +kernel
theorem dX6_fits_23 : decode cX6_fits 23 = .ok (.aload_n 0, 1) := by decide +kernel
theorem dX6_fits_24 : decode cX6_fits 24 = .ok (.getfield 193, 3) := by decide +kernel
theorem dX6_fits_27 : decode cX6_fits 27 = .ok (.ireturn, 1) := by decide +kernel
theorem dX6_thought_0 : decode cX6_thought 0 = .ok (.aload_n 0, 1) := by decide +kernel
theorem dX6_thought_1 : decode cX6_thought 1 = .ok (.iload_n 1, 1) := by decide +kernel
theorem dX6_thought_2 : decode cX6_thought 2 = .ok (.iload_n 2, 1) := by decide +kernel
theorem dX6_thought_3 : decode cX6_thought 3 = .ok (.invokevirtual 202, 3) := by decide +kernel
theorem dX6_thought_6 : decode cX6_thought 6 = .ok (.istore_n 3, 1) := by decide +kernel
theorem dX6_thought_7 : decode cX6_thought 7 = .ok (.iload_n 3, 1) := by decide +kernel
theorem dX6_thought_8 : decode cX6_thought 8 = .ok (.ifCond .eq 9, 3) := by decide +kernel
theorem dX6_thought_11 : decode cX6_thought 11 = .ok (.aload_n 0, 1) := by decide +kernel
theorem dX6_thought_12 : decode cX6_thought 12 = .ok (.iload_n 3, 1) := by decide +kernel
theorem dX6_thought_13 : decode cX6_thought 13 = .ok (.invokevirtual 73, 3) := by decide +kernel
theorem dX6_thought_16 : decode cX6_thought 16 = .ok (.ireturn, 1) := by decide +kernel
theorem dX6_thought_17 : decode cX6_thought 17 = .ok (.aload_n 0, 1) := by decide +kernel
theorem dX6_thought_18 : decode cX6_thought 18 = .ok (.iload_n 1, 1) := by decide +kernel
theorem dX6_thought_19 : decode cX6_thought 19 = .ok (.iload_n 2, 1) := by decide +kernel
theorem dX6_thought_20 : decode cX6_thought 20 = .ok (.invokevirtual 205, 3) := by decide +kernel
theorem dX6_thought_23 : decode cX6_thought 23 = .ok (.aload_n 0, 1) := by decide +kernel
theorem dX6_thought_24 : decode cX6_thought 24 = .ok (.getfield 193, 3) := by decide +kernel
theorem dX6_thought_27 : decode cX6_thought 27 = .ok (.ifCond .ne 12, 3) := by decide +kernel
theorem dX6_thought_30 : decode cX6_thought 30 = .ok (.aload_n 0, 1) := by decide +kernel
theorem dX6_thought_31 : decode cX6_thought 31 = .ok (.ldc 162, 2) := by decide +kernel
theorem dX6_thought_33 : decode cX6_thought 33 = .ok (.invokevirtual 73, 3) := by decide +kernel
theorem dX6_thought_36 : decode cX6_thought 36 = .ok (.goto 7, 3) := by decide +kernel
theorem dX6_thought_39 : decode cX6_thought 39 = .ok (.aload_n 0, 1) := by decide +kernel
theorem dX6_thought_40 : decode cX6_thought 40 = .ok (.getfield 196, 3) := by decide +kernel
theorem dX6_thought_43 : decode cX6_thought 43 = .ok (.ireturn, 1) := by decide +kernel
theorem dX6_kinds_0 : decode cX6_kinds 0 = .ok (.aload_n 0, 1) := by decide +kernel
theorem dX6_kinds_1 : decode cX6_kinds 1 = .ok (.iload_n 1, 1) := by decide +kernel
theorem dX6_kinds_2 : decode cX6_kinds 2 = .ok (.iload_n 2, 1) := by decide +kernel
theorem dX6_kinds_3 : decode cX6_kinds 3 = .ok (.invokevirtual 202, 3) := by decide +kernel
theorem dX6_kinds_6 : decode cX6_kinds 6 = .ok (.istore_n 3, 1) := by decide +kernel
theorem dX6_kinds_7 : decode cX6_kinds 7 = .ok (.iload_n 3, 1) := by decide +kernel
theorem dX6_kinds_8 : decode cX6_kinds 8 = .ok (.ifCond .eq 9, 3) := by decide +kernel
theorem dX6_kinds_11 : decode cX6_kinds 11 = .ok (.aload_n 0, 1) := by decide +kernel
theorem dX6_kinds_12 : decode cX6_kinds 12 = .ok (.iload_n 3, 1) := by decide +kernel
theorem dX6_kinds_13 : decode cX6_kinds 13 = .ok (.invokevirtual 73, 3) := by decide +kernel
theorem dX6_kinds_16 : decode cX6_kinds 16 = .ok (.ireturn, 1) := by decide +kernel
theorem dX6_kinds_17 : decode cX6_kinds 17 = .ok (.aload_n 0, 1) := by decide +kernel
theorem dX6_kinds_18 : decode cX6_kinds 18 = .ok (.iload_n 2, 1) := by decide +kernel
theorem dX6_kinds_19 : decode cX6_kinds 19 = .ok (.iconst 0, 1) := by decide +kernel
theorem dX6_kinds_20 : decode cX6_kinds 20 = .ok (.invokevirtual 83, 3) := by decide +kernel
theorem dX6_kinds_23 : decode cX6_kinds 23 = .ok (.istore 4, 2) := by decide +kernel
theorem dX6_kinds_25 : decode cX6_kinds 25 = .ok (.iconst 0, 1) := by decide +kernel
theorem dX6_kinds_26 : decode cX6_kinds 26 = .ok (.istore 5, 2) := by decide +kernel
theorem dX6_kinds_28 : decode cX6_kinds 28 = .ok (.iconst 0, 1) := by decide +kernel
theorem dX6_kinds_29 : decode cX6_kinds 29 = .ok (.istore 6, 2) := by decide +kernel
theorem dX6_kinds_31 : decode cX6_kinds 31 = .ok (.iload 6, 2) := by decide +kernel
theorem dX6_kinds_33 : decode cX6_kinds 33 = .ok (.bipush 6, 2) := by decide +kernel
theorem dX6_kinds_35 : decode cX6_kinds 35 = .ok (.if_icmp .gt 42, 3) := by decide +kernel
theorem dX6_kinds_38 : decode cX6_kinds 38 = .ok (.aload_n 0, 1) := by decide +kernel
theorem dX6_kinds_39 : decode cX6_kinds 39 = .ok (.getfield 7, 3) := by decide +kernel
theorem dX6_kinds_42 : decode cX6_kinds 42 = .ok (.iload_n 2, 1) := by decide +kernel
theorem dX6_kinds_43 : decode cX6_kinds 43 = .ok (.iconst 0, 1) := by decide +kernel
theorem dX6_kinds_44 : decode cX6_kinds 44 = .ok (.invokestatic 66, 3) := by decide +kernel
theorem dX6_kinds_47 : decode cX6_kinds 47 = .ok (.iload 6, 2) := by decide +kernel
theorem dX6_kinds_49 : decode cX6_kinds 49 = .ok (.iastore, 1) := by decide +kernel
theorem dX6_kinds_50 : decode cX6_kinds 50 = .ok (.iload 5, 2) := by decide +kernel
theorem dX6_kinds_52 : decode cX6_kinds 52 = .ok (.aload_n 0, 1) := by decide +kernel
theorem dX6_kinds_53 : decode cX6_kinds 53 = .ok (.iload_n 1, 1) := by decide +kernel
theorem dX6_kinds_54 : decode cX6_kinds 54 = .ok (.invokevirtual 199, 3) := by decide +kernel
theorem dX6_kinds_57 : decode cX6_kinds 57 = .ok (.ifCond .eq 10, 3) := by decide +kernel
theorem dX6_kinds_60 : decode cX6_kinds 60 = .ok (.iconst 1, 1) := by decide +kernel
theorem dX6_kinds_61 : decode cX6_kinds 61 = .ok (.iload 6, 2) := by decide +kernel
theorem dX6_kinds_63 : decode cX6_kinds 63 = .ok (.ishl, 1) := by decide +kernel
theorem dX6_kinds_64 : decode cX6_kinds 64 = .ok (.goto 4, 3) := by decide +kernel
theorem dX6_kinds_67 : decode cX6_kinds 67 = .ok (.iconst 0, 1) := by decide +kernel
theorem dX6_kinds_68 : decode cX6_kinds 68 = .ok (.ior, 1) := by decide +kernel
theorem dX6_kinds_69 : decode cX6_kinds 69 = .ok (.istore 5, 2) := by decide +kernel
theorem dX6_kinds_71 : decode cX6_kinds 71 = .ok (.iinc 6 1, 3) := by decide +kernel
theorem dX6_kinds_74 : decode cX6_kinds 74 = .ok (.goto (-43), 3) := by decide +kernel
theorem dX6_kinds_77 : decode cX6_kinds 77 = .ok (.aload_n 0, 1) := by decide +kernel
theorem dX6_kinds_78 : decode cX6_kinds 78 = .ok (.getfield 7, 3) := by decide +kernel
theorem dX6_kinds_81 : decode cX6_kinds 81 = .ok (.iload_n 2, 1) := by decide +kernel
theorem dX6_kinds_82 : decode cX6_kinds 82 = .ok (.iconst 0, 1) := by decide +kernel
theorem dX6_kinds_83 : decode cX6_kinds 83 = .ok (.invokestatic 66, 3) := by decide +kernel
theorem dX6_kinds_86 : decode cX6_kinds 86 = .ok (.iload 4, 2) := by decide +kernel
theorem dX6_kinds_88 : decode cX6_kinds 88 = .ok (.iastore, 1) := by decide +kernel
theorem dX6_kinds_89 : decode cX6_kinds 89 = .ok (.iload 5, 2) := by decide +kernel
theorem dX6_kinds_91 : decode cX6_kinds 91 = .ok (.ireturn, 1) := by decide +kernel
theorem dX6_draw_0 : decode cX6_draw 0 = .ok (.aload_n 0, 1) := by decide +kernel
theorem dX6_draw_1 : decode cX6_draw 1 = .ok (.getfield 7, 3) := by decide +kernel
theorem dX6_draw_4 : decode cX6_draw 4 = .ok (.iconst 4, 1) := by decide +kernel
theorem dX6_draw_5 : decode cX6_draw 5 = .ok (.aload_n 0, 1) := by decide +kernel
theorem dX6_draw_6 : decode cX6_draw 6 = .ok (.getfield 7, 3) := by decide +kernel
theorem dX6_draw_9 : decode cX6_draw 9 = .ok (.iconst 4, 1) := by decide +kernel
theorem dX6_draw_10 : decode cX6_draw 10 = .ok (.iaload, 1) := by decide +kernel
theorem dX6_draw_11 : decode cX6_draw 11 = .ok (.ldc 209, 2) := by decide +kernel
theorem dX6_draw_13 : decode cX6_draw 13 = .ok (.imul, 1) := by decide +kernel
theorem dX6_draw_14 : decode cX6_draw 14 = .ok (.sipush 12345, 3) := by decide +kernel
theorem dX6_draw_17 : decode cX6_draw 17 = .ok (.iadd, 1) := by decide +kernel
theorem dX6_draw_18 : decode cX6_draw 18 = .ok (.iastore, 1) := by decide +kernel
theorem dX6_draw_19 : decode cX6_draw 19 = .ok (.aload_n 0, 1) := by decide +kernel
theorem dX6_draw_20 : decode cX6_draw 20 = .ok (.getfield 7, 3) := by decide +kernel
theorem dX6_draw_23 : decode cX6_draw 23 = .ok (.iconst 4, 1) := by decide +kernel
theorem dX6_draw_24 : decode cX6_draw 24 = .ok (.iaload, 1) := by decide +kernel
theorem dX6_draw_25 : decode cX6_draw 25 = .ok (.bipush 8, 2) := by decide +kernel
theorem dX6_draw_27 : decode cX6_draw 27 = .ok (.iushr, 1) := by decide +kernel
theorem dX6_draw_28 : decode cX6_draw 28 = .ok (.ireturn, 1) := by decide +kernel
theorem dX6_quarrels_0 : decode cX6_quarrels 0 = .ok (.iload_n 1, 1) := by decide +kernel
theorem dX6_quarrels_1 : decode cX6_quarrels 1 = .ok (.i2l, 1) := by decide +kernel
theorem dX6_quarrels_2 : decode cX6_quarrels 2 = .ok (.lconst 1, 1) := by decide +kernel
theorem dX6_quarrels_3 : decode cX6_quarrels 3 = .ok (.ldc2_w 210, 3) := by decide +kernel
theorem dX6_quarrels_6 : decode cX6_quarrels 6 = .ok (.invokestatic 52, 3) := by decide +kernel
theorem dX6_quarrels_9 : decode cX6_quarrels 9 = .ok (.ifCond .ne 10, 3) := by decide +kernel
theorem dX6_quarrels_12 : decode cX6_quarrels 12 = .ok (.aload_n 0, 1) := by decide +kernel
theorem dX6_quarrels_13 : decode cX6_quarrels 13 = .ok (.ldc 49, 2) := by decide +kernel
theorem dX6_quarrels_15 : decode cX6_quarrels 15 = .ok (.invokevirtual 73, 3) := by decide +kernel
theorem dX6_quarrels_18 : decode cX6_quarrels 18 = .ok (.ireturn, 1) := by decide +kernel
theorem dX6_quarrels_19 : decode cX6_quarrels 19 = .ok (.aload_n 0, 1) := by decide +kernel
theorem dX6_quarrels_20 : decode cX6_quarrels 20 = .ok (.getfield 7, 3) := by decide +kernel
theorem dX6_quarrels_23 : decode cX6_quarrels 23 = .ok (.iconst 0, 1) := by decide +kernel
theorem dX6_quarrels_24 : decode cX6_quarrels 24 = .ok (.iaload, 1) := by decide +kernel
theorem dX6_quarrels_25 : decode cX6_quarrels 25 = .ok (.iload_n 1, 1) := by decide +kernel
theorem dX6_quarrels_26 : decode cX6_quarrels 26 = .ok (.iadd, 1) := by decide +kernel
theorem dX6_quarrels_27 : decode cX6_quarrels 27 = .ok (.ldc 143, 2) := by decide +kernel
theorem dX6_quarrels_29 : decode cX6_quarrels 29 = .ok (.if_icmp .le 10, 3) := by decide +kernel
theorem dX6_quarrels_32 : decode cX6_quarrels 32 = .ok (.aload_n 0, 1) := by decide +kernel
theorem dX6_quarrels_33 : decode cX6_quarrels 33 = .ok (.ldc 144, 2) := by decide +kernel
theorem dX6_quarrels_35 : decode cX6_quarrels 35 = .ok (.invokevirtual 73, 3) := by decide +kernel
theorem dX6_quarrels_38 : decode cX6_quarrels 38 = .ok (.ireturn, 1) := by decide +kernel
theorem dX6_quarrels_39 : decode cX6_quarrels 39 = .ok (.iconst 0, 1) := by decide +kernel
theorem dX6_quarrels_40 : decode cX6_quarrels 40 = .ok (.istore_n 2, 1) := by decide +kernel
theorem dX6_quarrels_41 : decode cX6_quarrels 41 = .ok (.iload_n 2, 1) := by decide +kernel
theorem dX6_quarrels_42 : decode cX6_quarrels 42 = .ok (.iload_n 1, 1) := by decide +kernel
theorem dX6_quarrels_43 : decode cX6_quarrels 43 = .ok (.if_icmp .ge 56, 3) := by decide +kernel
theorem dX6_quarrels_46 : decode cX6_quarrels 46 = .ok (.aload_n 0, 1) := by decide +kernel
theorem dX6_quarrels_47 : decode cX6_quarrels 47 = .ok (.invokevirtual 212, 3) := by decide +kernel
theorem dX6_quarrels_50 : decode cX6_quarrels 50 = .ok (.bipush 8, 2) := by decide +kernel
theorem dX6_quarrels_52 : decode cX6_quarrels 52 = .ok (.irem, 1) := by decide +kernel
theorem dX6_quarrels_53 : decode cX6_quarrels 53 = .ok (.istore_n 3, 1) := by decide +kernel
theorem dX6_quarrels_54 : decode cX6_quarrels 54 = .ok (.aload_n 0, 1) := by decide +kernel
theorem dX6_quarrels_55 : decode cX6_quarrels 55 = .ok (.invokevirtual 212, 3) := by decide +kernel
theorem dX6_quarrels_58 : decode cX6_quarrels 58 = .ok (.bipush 8, 2) := by decide +kernel
theorem dX6_quarrels_60 : decode cX6_quarrels 60 = .ok (.irem, 1) := by decide +kernel
theorem dX6_quarrels_61 : decode cX6_quarrels 61 = .ok (.istore 4, 2) := by decide +kernel
theorem dX6_quarrels_63 : decode cX6_quarrels 63 = .ok (.aload_n 0, 1) := by decide +kernel
theorem dX6_quarrels_64 : decode cX6_quarrels 64 = .ok (.iload_n 3, 1) := by decide +kernel
theorem dX6_quarrels_65 : decode cX6_quarrels 65 = .ok (.iload 4, 2) := by decide +kernel
theorem dX6_quarrels_67 : decode cX6_quarrels 67 = .ok (.invokevirtual 115, 3) := by decide +kernel
theorem dX6_quarrels_70 : decode cX6_quarrels 70 = .ok (.ifCond .eq 19, 3) := by decide +kernel
theorem dX6_quarrels_73 : decode cX6_quarrels 73 = .ok (.aload_n 0, 1) := by decide +kernel
theorem dX6_quarrels_74 : decode cX6_quarrels 74 = .ok (.getfield 7, 3) := by decide +kernel
theorem dX6_quarrels_77 : decode cX6_quarrels 77 = .ok (.iconst 5, 1) := by decide +kernel
theorem dX6_quarrels_78 : decode cX6_quarrels 78 = .ok (.iload_n 3, 1) := by decide +kernel
theorem dX6_quarrels_79 : decode cX6_quarrels 79 = .ok (.iastore, 1) := by decide +kernel
theorem dX6_quarrels_80 : decode cX6_quarrels 80 = .ok (.aload_n 0, 1) := by decide +kernel
theorem dX6_quarrels_81 : decode cX6_quarrels 81 = .ok (.getfield 7, 3) := by decide +kernel
theorem dX6_quarrels_84 : decode cX6_quarrels 84 = .ok (.bipush 6, 2) := by decide +kernel
theorem dX6_quarrels_86 : decode cX6_quarrels 86 = .ok (.iload 4, 2) := by decide +kernel
theorem dX6_quarrels_88 : decode cX6_quarrels 88 = .ok (.iastore, 1) := by decide +kernel
theorem dX6_quarrels_89 : decode cX6_quarrels 89 = .ok (.aload_n 0, 1) := by decide +kernel
theorem dX6_quarrels_90 : decode cX6_quarrels 90 = .ok (.invokevirtual 138, 3) := by decide +kernel
theorem dX6_quarrels_93 : decode cX6_quarrels 93 = .ok (.iinc 2 1, 3) := by decide +kernel
theorem dX6_quarrels_96 : decode cX6_quarrels 96 = .ok (.goto (-55), 3) := by decide +kernel
theorem dX6_quarrels_99 : decode cX6_quarrels 99 = .ok (.aload_n 0, 1) := by decide +kernel
theorem dX6_quarrels_100 : decode cX6_quarrels 100 = .ok (.getfield 7, 3) := by decide +kernel
theorem dX6_quarrels_103 : decode cX6_quarrels 103 = .ok (.iconst 2, 1) := by decide +kernel
theorem dX6_quarrels_104 : decode cX6_quarrels 104 = .ok (.iaload, 1) := by decide +kernel
theorem dX6_quarrels_105 : decode cX6_quarrels 105 = .ok (.ireturn, 1) := by decide +kernel
theorem dX6_odds_0 : decode cX6_odds 0 = .ok (.iload_n 1, 1) := by decide +kernel
theorem dX6_odds_1 : decode cX6_odds 1 = .ok (.i2l, 1) := by decide +kernel
theorem dX6_odds_2 : decode cX6_odds 2 = .ok (.lconst 0, 1) := by decide +kernel
theorem dX6_odds_3 : decode cX6_odds 3 = .ok (.ldc2_w 215, 3) := by decide +kernel
theorem dX6_odds_6 : decode cX6_odds 6 = .ok (.invokestatic 52, 3) := by decide +kernel
theorem dX6_odds_9 : decode cX6_odds 9 = .ok (.ifCond .eq 13, 3) := by decide +kernel
theorem dX6_odds_12 : decode cX6_odds 12 = .ok (.iload_n 2, 1) := by decide +kernel
theorem dX6_odds_13 : decode cX6_odds 13 = .ok (.i2l, 1) := by decide +kernel
theorem dX6_odds_14 : decode cX6_odds 14 = .ok (.lconst 0, 1) := by decide +kernel
theorem dX6_odds_15 : decode cX6_odds 15 = .ok (.lconst 1, 1) := by decide +kernel
theorem dX6_odds_16 : decode cX6_odds 16 = .ok (.invokestatic 52, 3) := by decide +kernel
theorem dX6_odds_19 : decode cX6_odds 19 = .ok (.ifCond .ne 11, 3) := by decide +kernel
theorem dX6_odds_22 : decode cX6_odds 22 = .ok (.aload_n 0, 1) := by decide +kernel
theorem dX6_odds_23 : decode cX6_odds 23 = .ok (.ldc 49, 2) := by decide +kernel
theorem dX6_odds_25 : decode cX6_odds 25 = .ok (.invokevirtual 73, 3) := by decide +kernel
theorem dX6_odds_28 : decode cX6_odds 28 = .ok (.i2l, 1) := by decide +kernel
theorem dX6_odds_29 : decode cX6_odds 29 = .ok (.lreturn, 1) := by decide +kernel
theorem dX6_odds_30 : decode cX6_odds 30 = .ok (.aload_n 0, 1) := by decide +kernel
theorem dX6_odds_31 : decode cX6_odds 31 = .ok (.getfield 7, 3) := by decide +kernel
theorem dX6_odds_34 : decode cX6_odds 34 = .ok (.iconst 1, 1) := by decide +kernel
theorem dX6_odds_35 : decode cX6_odds 35 = .ok (.iaload, 1) := by decide +kernel
theorem dX6_odds_36 : decode cX6_odds 36 = .ok (.aload_n 0, 1) := by decide +kernel
theorem dX6_odds_37 : decode cX6_odds 37 = .ok (.getfield 7, 3) := by decide +kernel
theorem dX6_odds_40 : decode cX6_odds 40 = .ok (.iconst 1, 1) := by decide +kernel
theorem dX6_odds_41 : decode cX6_odds 41 = .ok (.iaload, 1) := by decide +kernel
theorem dX6_odds_42 : decode cX6_odds 42 = .ok (.iconst 1, 1) := by decide +kernel
theorem dX6_odds_43 : decode cX6_odds 43 = .ok (.isub, 1) := by decide +kernel
theorem dX6_odds_44 : decode cX6_odds 44 = .ok (.imul, 1) := by decide +kernel
theorem dX6_odds_45 : decode cX6_odds 45 = .ok (.istore_n 3, 1) := by decide +kernel
theorem dX6_odds_46 : decode cX6_odds 46 = .ok (.iload_n 3, 1) := by decide +kernel
theorem dX6_odds_47 : decode cX6_odds 47 = .ok (.ifCond .ge 7, 3) := by decide +kernel
theorem dX6_odds_50 : decode cX6_odds 50 = .ok (.iconst 0, 1) := by decide +kernel
theorem dX6_odds_51 : decode cX6_odds 51 = .ok (.goto 4, 3) := by decide +kernel
theorem dX6_odds_54 : decode cX6_odds 54 = .ok (.iload_n 3, 1) := by decide +kernel
theorem dX6_odds_55 : decode cX6_odds 55 = .ok (.istore_n 3, 1) := by decide +kernel
theorem dX6_odds_56 : decode cX6_odds 56 = .ok (.bipush 64, 2) := by decide +kernel
theorem dX6_odds_58 : decode cX6_odds 58 = .ok (.istore 4, 2) := by decide +kernel
theorem dX6_odds_60 : decode cX6_odds 60 = .ok (.iload_n 3, 1) := by decide +kernel
theorem dX6_odds_61 : decode cX6_odds 61 = .ok (.iload 4, 2) := by decide +kernel
theorem dX6_odds_63 : decode cX6_odds 63 = .ok (.irem, 1) := by decide +kernel
theorem dX6_odds_64 : decode cX6_odds 64 = .ok (.ifCond .ne 11, 3) := by decide +kernel
theorem dX6_odds_67 : decode cX6_odds 67 = .ok (.bipush 64, 2) := by decide +kernel
theorem dX6_odds_69 : decode cX6_odds 69 = .ok (.iload 4, 2) := by decide +kernel
theorem dX6_odds_71 : decode cX6_odds 71 = .ok (.irem, 1) := by decide +kernel
theorem dX6_odds_72 : decode cX6_odds 72 = .ok (.ifCond .eq 9, 3) := by decide +kernel
theorem dX6_odds_75 : decode cX6_odds 75 = .ok (.iinc 4 (-1), 3) := by decide +kernel
theorem dX6_odds_78 : decode cX6_odds 78 = .ok (.goto (-18), 3) := by decide +kernel
theorem dX6_odds_81 : decode cX6_odds 81 = .ok (.lconst 1, 1) := by decide +kernel
theorem dX6_odds_82 : decode cX6_odds 82 = .ok (.lstore 5, 2) := by decide +kernel
theorem dX6_odds_84 : decode cX6_odds 84 = .ok (.iconst 0, 1) := by decide +kernel
theorem dX6_odds_85 : decode cX6_odds 85 = .ok (.istore 7, 2) := by decide +kernel
theorem dX6_odds_87 : decode cX6_odds 87 = .ok (.iload 7, 2) := by decide +kernel
theorem dX6_odds_89 : decode cX6_odds 89 = .ok (.iload_n 1, 1) := by decide +kernel
theorem dX6_odds_90 : decode cX6_odds 90 = .ok (.if_icmp .ge 32, 3) := by decide +kernel
theorem dX6_odds_93 : decode cX6_odds 93 = .ok (.lload 5, 2) := by decide +kernel
theorem dX6_odds_95 : decode cX6_odds 95 = .ok (.iload_n 2, 1) := by decide +kernel
theorem dX6_odds_96 : decode cX6_odds 96 = .ok (.ifCond .ne 11, 3) := by decide +kernel
theorem dX6_odds_99 : decode cX6_odds 99 = .ok (.iload_n 3, 1) := by decide +kernel
theorem dX6_odds_100 : decode cX6_odds 100 = .ok (.iload 4, 2) := by decide +kernel
theorem dX6_odds_102 : decode cX6_odds 102 = .ok (.idiv, 1) := by decide +kernel
theorem dX6_odds_103 : decode cX6_odds 103 = .ok (.i2l, 1) := by decide +kernel
theorem dX6_odds_104 : decode cX6_odds 104 = .ok (.goto 9, 3) := by decide +kernel
theorem dX6_odds_107 : decode cX6_odds 107 = .ok (.bipush 64, 2) := by decide +kernel
theorem dX6_odds_109 : decode cX6_odds 109 = .ok (.iload 4, 2) := by decide +kernel
theorem dX6_odds_111 : decode cX6_odds 111 = .ok (.idiv, 1) := by decide +kernel
theorem dX6_odds_112 : decode cX6_odds 112 = .ok (.i2l, 1) := by decide +kernel
theorem dX6_odds_113 : decode cX6_odds 113 = .ok (.lmul, 1) := by decide +kernel
theorem dX6_odds_114 : decode cX6_odds 114 = .ok (.lstore 5, 2) := by decide +kernel
theorem dX6_odds_116 : decode cX6_odds 116 = .ok (.iinc 7 1, 3) := by decide +kernel
theorem dX6_odds_119 : decode cX6_odds 119 = .ok (.goto (-32), 3) := by decide +kernel
theorem dX6_odds_122 : decode cX6_odds 122 = .ok (.lload 5, 2) := by decide +kernel
theorem dX6_odds_124 : decode cX6_odds 124 = .ok (.lreturn, 1) := by decide +kernel
theorem dX6_seed_0 : decode cX6_seed 0 = .ok (.aload_n 0, 1) := by decide +kernel
theorem dX6_seed_1 : decode cX6_seed 1 = .ok (.iconst 4, 1) := by decide +kernel
theorem dX6_seed_2 : decode cX6_seed 2 = .ok (.iload_n 1, 1) := by decide +kernel
theorem dX6_seed_3 : decode cX6_seed 3 = .ok (.invokevirtual 93, 3) := by decide +kernel
theorem dX6_seed_6 : decode cX6_seed 6 = .ok (.ireturn, 1) := by decide +kernel
theorem dX6_feed_0 : decode cX6_feed 0 = .ok (.iload_n 2, 1) := by decide +kernel
theorem dX6_feed_1 : decode cX6_feed 1 = .ok (.i2l, 1) := by decide +kernel
theorem dX6_feed_2 : decode cX6_feed 2 = .ok (.lconst 1, 1) := by decide +kernel
theorem dX6_feed_3 : decode cX6_feed 3 = .ok (.ldc2_w 217, 3) := by decide +kernel
theorem dX6_feed_6 : decode cX6_feed 6 = .ok (.invokestatic 52, 3) := by decide +kernel
theorem dX6_feed_9 : decode cX6_feed 9 = .ok (.ifCond .ne 10, 3) := by decide +kernel
theorem dX6_feed_12 : decode cX6_feed 12 = .ok (.aload_n 0, 1) := by decide +kernel
theorem dX6_feed_13 : decode cX6_feed 13 = .ok (.ldc 49, 2) := by decide +kernel
theorem dX6_feed_15 : decode cX6_feed 15 = .ok (.invokevirtual 73, 3) := by decide +kernel
theorem dX6_feed_18 : decode cX6_feed 18 = .ok (.ireturn, 1) := by decide +kernel
theorem dX6_feed_19 : decode cX6_feed 19 = .ok (.aload_n 0, 1) := by decide +kernel
theorem dX6_feed_20 : decode cX6_feed 20 = .ok (.getfield 219, 3) := by decide +kernel
theorem dX6_feed_23 : decode cX6_feed 23 = .ok (.iload_n 2, 1) := by decide +kernel
theorem dX6_feed_24 : decode cX6_feed 24 = .ok (.iadd, 1) := by decide +kernel
theorem dX6_feed_25 : decode cX6_feed 25 = .ok (.bipush 120, 2) := by decide +kernel
theorem dX6_feed_27 : decode cX6_feed 27 = .ok (.if_icmp .le 10, 3) := by decide +kernel
theorem dX6_feed_30 : decode cX6_feed 30 = .ok (.aload_n 0, 1) := by decide +kernel
theorem dX6_feed_31 : decode cX6_feed 31 = .ok (.ldc 77, 2) := by decide +kernel
theorem dX6_feed_33 : decode cX6_feed 33 = .ok (.invokevirtual 73, 3) := by decide +kernel
theorem dX6_feed_36 : decode cX6_feed 36 = .ok (.ireturn, 1) := by decide +kernel
theorem dX6_feed_37 : decode cX6_feed 37 = .ok (.iload_n 2, 1) := by decide +kernel
theorem dX6_feed_38 : decode cX6_feed 38 = .ok (.iconst 1, 1) := by decide +kernel
theorem dX6_feed_39 : decode cX6_feed 39 = .ok (.isub, 1) := by decide +kernel
theorem dX6_feed_40 : decode cX6_feed 40 = .ok (.istore_n 3, 1) := by decide +kernel
theorem dX6_feed_41 : decode cX6_feed 41 = .ok (.iload_n 3, 1) := by decide +kernel
theorem dX6_feed_42 : decode cX6_feed 42 = .ok (.ifCond .lt 38, 3) := by decide +kernel
theorem dX6_feed_45 : decode cX6_feed 45 = .ok (.aload_n 0, 1) := by decide +kernel
theorem dX6_feed_46 : decode cX6_feed 46 = .ok (.getfield 34, 3) := by decide +kernel
theorem dX6_feed_49 : decode cX6_feed 49 = .ok (.aload_n 0, 1) := by decide +kernel
theorem dX6_feed_50 : decode cX6_feed 50 = .ok (.getfield 219, 3) := by decide +kernel
theorem dX6_feed_53 : decode cX6_feed 53 = .ok (.iload_n 1, 1) := by decide +kernel
theorem dX6_feed_54 : decode cX6_feed 54 = .ok (.bipush 8, 2) := by decide +kernel
theorem dX6_feed_56 : decode cX6_feed 56 = .ok (.iload_n 3, 1) := by decide +kernel
theorem dX6_feed_57 : decode cX6_feed 57 = .ok (.imul, 1) := by decide +kernel
theorem dX6_feed_58 : decode cX6_feed 58 = .ok (.ishr, 1) := by decide +kernel
theorem dX6_feed_59 : decode cX6_feed 59 = .ok (.sipush 255, 3) := by decide +kernel
theorem dX6_feed_62 : decode cX6_feed 62 = .ok (.iand, 1) := by decide +kernel
theorem dX6_feed_63 : decode cX6_feed 63 = .ok (.iastore, 1) := by decide +kernel
theorem dX6_feed_64 : decode cX6_feed 64 = .ok (.aload_n 0, 1) := by decide +kernel
theorem dX6_feed_65 : decode cX6_feed 65 = .ok (.dup, 1) := by decide +kernel
theorem dX6_feed_66 : decode cX6_feed 66 = .ok (.getfield 219, 3) := by decide +kernel
theorem dX6_feed_69 : decode cX6_feed 69 = .ok (.iconst 1, 1) := by decide +kernel
theorem dX6_feed_70 : decode cX6_feed 70 = .ok (.iadd, 1) := by decide +kernel
theorem dX6_feed_71 : decode cX6_feed 71 = .ok (.putfield 219, 3) := by decide +kernel
theorem dX6_feed_74 : decode cX6_feed 74 = .ok (.iinc 3 (-1), 3) := by decide +kernel
theorem dX6_feed_77 : decode cX6_feed 77 = .ok (.goto (-36), 3) := by decide +kernel
theorem dX6_feed_80 : decode cX6_feed 80 = .ok (.aload_n 0, 1) := by decide +kernel
theorem dX6_feed_81 : decode cX6_feed 81 = .ok (.getfield 219, 3) := by decide +kernel
theorem dX6_feed_84 : decode cX6_feed 84 = .ok (.ireturn, 1) := by decide +kernel
theorem dX6_wipe_0 : decode cX6_wipe 0 = .ok (.aload_n 0, 1) := by decide +kernel
theorem dX6_wipe_1 : decode cX6_wipe 1 = .ok (.getfield 219, 3) := by decide +kernel
theorem dX6_wipe_4 : decode cX6_wipe 4 = .ok (.istore_n 1, 1) := by decide +kernel
theorem dX6_wipe_5 : decode cX6_wipe 5 = .ok (.aload_n 0, 1) := by decide +kernel
theorem dX6_wipe_6 : decode cX6_wipe 6 = .ok (.iconst 0, 1) := by decide +kernel
theorem dX6_wipe_7 : decode cX6_wipe 7 = .ok (.putfield 219, 3) := by decide +kernel
theorem dX6_wipe_10 : decode cX6_wipe 10 = .ok (.iload_n 1, 1) := by decide +kernel
theorem dX6_wipe_11 : decode cX6_wipe 11 = .ok (.ireturn, 1) := by decide +kernel
theorem dX6_byteAt_0 : decode cX6_byteAt 0 = .ok (.iload_n 1, 1) := by decide +kernel
theorem dX6_byteAt_1 : decode cX6_byteAt 1 = .ok (.aload_n 0, 1) := by decide +kernel
theorem dX6_byteAt_2 : decode cX6_byteAt 2 = .ok (.getfield 219, 3) := by decide +kernel
theorem dX6_byteAt_5 : decode cX6_byteAt 5 = .ok (.if_icmp .ge 12, 3) := by decide +kernel
theorem dX6_byteAt_8 : decode cX6_byteAt 8 = .ok (.aload_n 0, 1) := by decide +kernel
theorem dX6_byteAt_9 : decode cX6_byteAt 9 = .ok (.getfield 34, 3) := by decide +kernel
theorem dX6_byteAt_12 : decode cX6_byteAt 12 = .ok (.iload_n 1, 1) := by decide +kernel
theorem dX6_byteAt_13 : decode cX6_byteAt 13 = .ok (.iaload, 1) := by decide +kernel
theorem dX6_byteAt_14 : decode cX6_byteAt 14 = .ok (.goto 4, 3) := by decide +kernel
theorem dX6_byteAt_17 : decode cX6_byteAt 17 = .ok (.iconst (-1), 1) := by decide +kernel
theorem dX6_byteAt_18 : decode cX6_byteAt 18 = .ok (.ireturn, 1) := by decide +kernel
theorem dX6_isLetter_0 : decode cX6_isLetter 0 = .ok (.iload_n 0, 1) := by decide +kernel
theorem dX6_isLetter_1 : decode cX6_isLetter 1 = .ok (.i2l, 1) := by decide +kernel
theorem dX6_isLetter_2 : decode cX6_isLetter 2 = .ok (.ldc2_w 222, 3) := by decide +kernel
theorem dX6_isLetter_5 : decode cX6_isLetter 5 = .ok (.ldc2_w 224, 3) := by decide +kernel
theorem dX6_isLetter_8 : decode cX6_isLetter 8 = .ok (.invokestatic 52, 3) := by decide +kernel
theorem dX6_isLetter_11 : decode cX6_isLetter 11 = .ok (.ireturn, 1) := by decide +kernel
theorem dX6_isDigit_0 : decode cX6_isDigit 0 = .ok (.iload_n 0, 1) := by decide +kernel
theorem dX6_isDigit_1 : decode cX6_isDigit 1 = .ok (.i2l, 1) := by decide +kernel
theorem dX6_isDigit_2 : decode cX6_isDigit 2 = .ok (.ldc2_w 226, 3) := by decide +kernel
theorem dX6_isDigit_5 : decode cX6_isDigit 5 = .ok (.ldc2_w 228, 3) := by decide +kernel
theorem dX6_isDigit_8 : decode cX6_isDigit 8 = .ok (.invokestatic 52, 3) := by decide +kernel
theorem dX6_isDigit_11 : decode cX6_isDigit 11 = .ok (.ireturn, 1) := by decide +kernel
theorem dX6_token_0 : decode cX6_token 0 = .ok (.aload_n 0, 1) := by decide +kernel
theorem dX6_token_1 : decode cX6_token 1 = .ok (.aload_n 0, 1) := by decide +kernel
theorem dX6_token_2 : decode cX6_token 2 = .ok (.getfield 230, 3) := by decide +kernel
theorem dX6_token_5 : decode cX6_token 5 = .ok (.putfield 233, 3) := by decide +kernel
theorem dX6_token_8 : decode cX6_token 8 = .ok (.aload_n 0, 1) := by decide +kernel
theorem dX6_token_9 : decode cX6_token 9 = .ok (.aload_n 0, 1) := by decide +kernel
theorem dX6_token_10 : decode cX6_token 10 = .ok (.getfield 233, 3) := by decide +kernel
theorem dX6_token_13 : decode cX6_token 13 = .ok (.invokevirtual 236, 3) := by decide +kernel
theorem dX6_token_16 : decode cX6_token 16 = .ok (.bipush 32, 2) := by decide +kernel
theorem dX6_token_18 : decode cX6_token 18 = .ok (.if_icmp .ne 16, 3) := by decide +kernel
theorem dX6_token_21 : decode cX6_token 21 = .ok (.aload_n 0, 1) := by decide +kernel
theorem dX6_token_22 : decode cX6_token 22 = .ok (.dup, 1) := by decide +kernel
theorem dX6_token_23 : decode cX6_token 23 = .ok (.getfield 233, 3) := by decide +kernel
theorem dX6_token_26 : decode cX6_token 26 = .ok (.iconst 1, 1) := by decide +kernel
theorem dX6_token_27 : decode cX6_token 27 = .ok (.iadd, 1) := by decide +kernel
theorem dX6_token_28 : decode cX6_token 28 = .ok (.putfield 233, 3) := by decide +kernel
theorem dX6_token_31 : decode cX6_token 31 = .ok (.goto (-23), 3) := by decide +kernel
theorem dX6_token_34 : decode cX6_token 34 = .ok (.aload_n 0, 1) := by decide +kernel
theorem dX6_token_35 : decode cX6_token 35 = .ok (.aload_n 0, 1) := by decide +kernel
theorem dX6_token_36 : decode cX6_token 36 = .ok (.getfield 233, 3) := by decide +kernel
theorem dX6_token_39 : decode cX6_token 39 = .ok (.invokevirtual 236, 3) := by decide +kernel
theorem dX6_token_42 : decode cX6_token 42 = .ok (.invokestatic 239, 3) := by decide +kernel
theorem dX6_token_45 : decode cX6_token 45 = .ok (.istore_n 1, 1) := by decide +kernel
theorem dX6_token_46 : decode cX6_token 46 = .ok (.aload_n 0, 1) := by decide +kernel
theorem dX6_token_47 : decode cX6_token 47 = .ok (.aload_n 0, 1) := by decide +kernel
theorem dX6_token_48 : decode cX6_token 48 = .ok (.getfield 233, 3) := by decide +kernel
theorem dX6_token_51 : decode cX6_token 51 = .ok (.invokevirtual 236, 3) := by decide +kernel
theorem dX6_token_54 : decode cX6_token 54 = .ok (.invokestatic 242, 3) := by decide +kernel
theorem dX6_token_57 : decode cX6_token 57 = .ok (.istore_n 2, 1) := by decide +kernel
theorem dX6_token_58 : decode cX6_token 58 = .ok (.aload_n 0, 1) := by decide +kernel
theorem dX6_token_59 : decode cX6_token 59 = .ok (.aload_n 0, 1) := by decide +kernel
theorem dX6_token_60 : decode cX6_token 60 = .ok (.getfield 233, 3) := by decide +kernel
theorem dX6_token_63 : decode cX6_token 63 = .ok (.aload_n 0, 1) := by decide +kernel
theorem dX6_token_64 : decode cX6_token 64 = .ok (.getfield 219, 3) := by decide +kernel
theorem dX6_token_67 : decode cX6_token 67 = .ok (.if_icmp .ge 12, 3) := by decide +kernel
theorem dX6_token_70 : decode cX6_token 70 = .ok (.aload_n 0, 1) := by decide +kernel
theorem dX6_token_71 : decode cX6_token 71 = .ok (.getfield 233, 3) := by decide +kernel
theorem dX6_token_74 : decode cX6_token 74 = .ok (.iconst 1, 1) := by decide +kernel
theorem dX6_token_75 : decode cX6_token 75 = .ok (.iadd, 1) := by decide +kernel
theorem dX6_token_76 : decode cX6_token 76 = .ok (.goto 7, 3) := by decide +kernel
theorem dX6_token_79 : decode cX6_token 79 = .ok (.aload_n 0, 1) := by decide +kernel
theorem dX6_token_80 : decode cX6_token 80 = .ok (.getfield 233, 3) := by decide +kernel
theorem dX6_token_83 : decode cX6_token 83 = .ok (.putfield 230, 3) := by decide +kernel
theorem dX6_token_86 : decode cX6_token 86 = .ok (.iload_n 1, 1) := by decide +kernel
theorem dX6_token_87 : decode cX6_token 87 = .ok (.ifCond .eq 17, 3) := by decide +kernel
theorem dX6_token_90 : decode cX6_token 90 = .ok (.aload_n 0, 1) := by decide +kernel
theorem dX6_token_91 : decode cX6_token 91 = .ok (.aload_n 0, 1) := by decide +kernel
theorem dX6_token_92 : decode cX6_token 92 = .ok (.getfield 230, 3) := by decide +kernel
theorem dX6_token_95 : decode cX6_token 95 = .ok (.invokevirtual 236, 3) := by decide +kernel
theorem dX6_token_98 : decode cX6_token 98 = .ok (.invokestatic 239, 3) := by decide +kernel
theorem dX6_token_101 : decode cX6_token 101 = .ok (.ifCond .ne 21, 3) := by decide +kernel
theorem dX6_token_104 : decode cX6_token 104 = .ok (.iload_n 2, 1) := by decide +kernel
theorem dX6_token_105 : decode cX6_token 105 = .ok (.ifCond .eq 30, 3) := by decide +kernel
theorem dX6_token_108 : decode cX6_token 108 = .ok (.aload_n 0, 1) := by decide +kernel
theorem dX6_token_109 : decode cX6_token 109 = .ok (.aload_n 0, 1) := by decide +kernel
theorem dX6_token_110 : decode cX6_token 110 = .ok (.getfield 230, 3) := by decide +kernel
theorem dX6_token_113 : decode cX6_token 113 = .ok (.invokevirtual 236, 3) := by decide +kernel
theorem dX6_token_116 : decode cX6_token 116 = .ok (.invokestatic 242, 3) := by decide +kernel
theorem dX6_token_119 : decode cX6_token 119 = .ok (.ifCond .eq 16, 3) := by decide +kernel
theorem dX6_token_122 : decode cX6_token 122 = .ok (.aload_n 0, 1) := by decide +kernel
theorem dX6_token_123 : decode cX6_token 123 = .ok (.dup, 1) := by decide +kernel
theorem dX6_token_124 : decode cX6_token 124 = .ok (.getfield 230, 3) := by decide +kernel
theorem dX6_token_127 : decode cX6_token 127 = .ok (.iconst 1, 1) := by decide +kernel
theorem dX6_token_128 : decode cX6_token 128 = .ok (.iadd, 1) := by decide +kernel
theorem dX6_token_129 : decode cX6_token 129 = .ok (.putfield 230, 3) := by decide +kernel
theorem dX6_token_132 : decode cX6_token 132 = .ok (.goto (-46), 3) := by decide +kernel
theorem dX6_token_135 : decode cX6_token 135 = .ok (.return_, 1) := by decide +kernel
theorem dX6_must_0 : decode cX6_must 0 = .ok (.aload_n 0, 1) := by decide +kernel
theorem dX6_must_1 : decode cX6_must 1 = .ok (.aload_n 0, 1) := by decide +kernel
theorem dX6_must_2 : decode cX6_must 2 = .ok (.getfield 245, 3) := by decide +kernel
theorem dX6_must_5 : decode cX6_must 5 = .ok (.ifCond .ne 7, 3) := by decide +kernel
theorem dX6_must_8 : decode cX6_must 8 = .ok (.iload_n 1, 1) := by decide +kernel
theorem dX6_must_9 : decode cX6_must 9 = .ok (.ifCond .ne 7, 3) := by decide +kernel
theorem dX6_must_12 : decode cX6_must 12 = .ok (.iconst 1, 1) := by decide +kernel
theorem dX6_must_13 : decode cX6_must 13 = .ok (.goto 4, 3) := by decide +kernel
theorem dX6_must_16 : decode cX6_must 16 = .ok (.iconst 0, 1) := by decide +kernel
theorem dX6_must_17 : decode cX6_must 17 = .ok (.putfield 245, 3) := by decide +kernel
theorem dX6_must_20 : decode cX6_must 20 = .ok (.aload_n 0, 1) := by decide +kernel
theorem dX6_must_21 : decode cX6_must 21 = .ok (.getfield 245, 3) := by decide +kernel
theorem dX6_must_24 : decode cX6_must 24 = .ok (.ifCond .ne 7, 3) := by decide +kernel
theorem dX6_must_27 : decode cX6_must 27 = .ok (.aload_n 0, 1) := by decide +kernel
theorem dX6_must_28 : decode cX6_must 28 = .ok (.invokevirtual 249, 3) := by decide +kernel
theorem dX6_must_31 : decode cX6_must 31 = .ok (.return_, 1) := by decide +kernel
theorem dX6_word_0 : decode cX6_word 0 = .ok (.lconst 0, 1) := by decide +kernel
theorem dX6_word_1 : decode cX6_word 1 = .ok (.lstore_n 1, 1) := by decide +kernel
theorem dX6_word_2 : decode cX6_word 2 = .ok (.aload_n 0, 1) := by decide +kernel
theorem dX6_word_3 : decode cX6_word 3 = .ok (.getfield 233, 3) := by decide +kernel
theorem dX6_word_6 : decode cX6_word 6 = .ok (.istore_n 3, 1) := by decide +kernel
theorem dX6_word_7 : decode cX6_word 7 = .ok (.iload_n 3, 1) := by decide +kernel
theorem dX6_word_8 : decode cX6_word 8 = .ok (.aload_n 0, 1) := by decide +kernel
theorem dX6_word_9 : decode cX6_word 9 = .ok (.getfield 230, 3) := by decide +kernel
theorem dX6_word_12 : decode cX6_word 12 = .ok (.if_icmp .ge 38, 3) := by decide +kernel
theorem dX6_word_15 : decode cX6_word 15 = .ok (.lload_n 1, 1) := by decide +kernel
theorem dX6_word_16 : decode cX6_word 16 = .ok (.ldc2_w 252, 3) := by decide +kernel
theorem dX6_word_19 : decode cX6_word 19 = .ok (.lcmp, 1) := by decide +kernel
theorem dX6_word_20 : decode cX6_word 20 = .ok (.ifCond .le 7, 3) := by decide +kernel
theorem dX6_word_23 : decode cX6_word 23 = .ok (.lload_n 1, 1) := by decide +kernel
theorem dX6_word_24 : decode cX6_word 24 = .ok (.goto 19, 3) := by decide +kernel
theorem dX6_word_27 : decode cX6_word 27 = .ok (.ldc2_w 254, 3) := by decide +kernel
theorem dX6_word_30 : decode cX6_word 30 = .ok (.lload_n 1, 1) := by decide +kernel
theorem dX6_word_31 : decode cX6_word 31 = .ok (.lmul, 1) := by decide +kernel
theorem dX6_word_32 : decode cX6_word 32 = .ok (.aload_n 0, 1) := by decide +kernel
theorem dX6_word_33 : decode cX6_word 33 = .ok (.getfield 34, 3) := by decide +kernel
theorem dX6_word_36 : decode cX6_word 36 = .ok (.iload_n 3, 1) := by decide +kernel
theorem dX6_word_37 : decode cX6_word 37 = .ok (.iaload, 1) := by decide +kernel
theorem dX6_word_38 : decode cX6_word 38 = .ok (.bipush 96, 2) := by decide +kernel
theorem dX6_word_40 : decode cX6_word 40 = .ok (.isub, 1) := by decide +kernel
theorem dX6_word_41 : decode cX6_word 41 = .ok (.i2l, 1) := by decide +kernel
theorem dX6_word_42 : decode cX6_word 42 = .ok (.ladd, 1) := by decide +kernel
theorem dX6_word_43 : decode cX6_word 43 = .ok (.lstore_n 1, 1) := by decide +kernel
theorem dX6_word_44 : decode cX6_word 44 = .ok (.iinc 3 1, 3) := by decide +kernel
theorem dX6_word_47 : decode cX6_word 47 = .ok (.goto (-40), 3) := by decide +kernel
theorem dX6_word_50 : decode cX6_word 50 = .ok (.aload_n 0, 1) := by decide +kernel
theorem dX6_word_51 : decode cX6_word 51 = .ok (.getfield 245, 3) := by decide +kernel
theorem dX6_word_54 : decode cX6_word 54 = .ok (.ifCond .ne 17, 3) := by decide +kernel
theorem dX6_word_57 : decode cX6_word 57 = .ok (.aload_n 0, 1) := by decide +kernel
theorem dX6_word_58 : decode cX6_word 58 = .ok (.aload_n 0, 1) := by decide +kernel
theorem dX6_word_59 : decode cX6_word 59 = .ok (.getfield 233, 3) := by decide +kernel
theorem dX6_word_62 : decode cX6_word 62 = .ok (.invokevirtual 236, 3) := by decide +kernel
theorem dX6_word_65 : decode cX6_word 65 = .ok (.invokestatic 239, 3) := by decide +kernel
theorem dX6_word_68 : decode cX6_word 68 = .ok (.ifCond .ne 7, 3) := by decide +kernel
theorem dX6_word_71 : decode cX6_word 71 = .ok (.lconst 0, 1) := by decide +kernel
theorem dX6_word_72 : decode cX6_word 72 = .ok (.goto 4, 3) := by decide +kernel
theorem dX6_word_75 : decode cX6_word 75 = .ok (.lload_n 1, 1) := by decide +kernel
theorem dX6_word_76 : decode cX6_word 76 = .ok (.lreturn, 1) := by decide +kernel
theorem dX6_number_0 : decode cX6_number 0 = .ok (.aload_n 0, 1) := by decide +kernel
theorem dX6_number_1 : decode cX6_number 1 = .ok (.getfield 245, 3) := by decide +kernel
theorem dX6_number_4 : decode cX6_number 4 = .ok (.ifCond .eq 4, 3) := by decide +kernel
theorem dX6_number_7 : decode cX6_number 7 = .ok (.return_, 1) := by decide +kernel
theorem dX6_number_8 : decode cX6_number 8 = .ok (.aload_n 0, 1) := by decide +kernel
theorem dX6_number_9 : decode cX6_number 9 = .ok (.aload_n 0, 1) := by decide +kernel
theorem dX6_number_10 : decode cX6_number 10 = .ok (.getfield 233, 3) := by decide +kernel
theorem dX6_number_13 : decode cX6_number 13 = .ok (.invokevirtual 236, 3) := by decide +kernel
theorem dX6_number_16 : decode cX6_number 16 = .ok (.invokestatic 242, 3) := by decide +kernel
theorem dX6_number_19 : decode cX6_number 19 = .ok (.istore_n 3, 1) := by decide +kernel
theorem dX6_number_20 : decode cX6_number 20 = .ok (.iconst 0, 1) := by decide +kernel
theorem dX6_number_21 : decode cX6_number 21 = .ok (.istore 4, 2) := by decide +kernel
theorem dX6_number_23 : decode cX6_number 23 = .ok (.aload_n 0, 1) := by decide +kernel
theorem dX6_number_24 : decode cX6_number 24 = .ok (.getfield 233, 3) := by decide +kernel
theorem dX6_number_27 : decode cX6_number 27 = .ok (.istore 5, 2) := by decide +kernel
theorem dX6_number_29 : decode cX6_number 29 = .ok (.iload 5, 2) := by decide +kernel
theorem dX6_number_31 : decode cX6_number 31 = .ok (.aload_n 0, 1) := by decide +kernel
theorem dX6_number_32 : decode cX6_number 32 = .ok (.getfield 230, 3) := by decide +kernel
theorem dX6_number_35 : decode cX6_number 35 = .ok (.if_icmp .ge 44, 3) := by decide +kernel
theorem dX6_number_38 : decode cX6_number 38 = .ok (.iload_n 3, 1) := by decide +kernel
theorem dX6_number_39 : decode cX6_number 39 = .ok (.ifCond .eq 40, 3) := by decide +kernel
theorem dX6_number_42 : decode cX6_number 42 = .ok (.iload 4, 2) := by decide +kernel
theorem dX6_number_44 : decode cX6_number 44 = .ok (.sipush 999, 3) := by decide +kernel
theorem dX6_number_47 : decode cX6_number 47 = .ok (.if_icmp .le 8, 3) := by decide +kernel
theorem dX6_number_50 : decode cX6_number 50 = .ok (.iload 4, 2) := by decide +kernel
theorem dX6_number_52 : decode cX6_number 52 = .ok (.goto 19, 3) := by decide +kernel
theorem dX6_number_55 : decode cX6_number 55 = .ok (.bipush 10, 2) := by decide +kernel
theorem dX6_number_57 : decode cX6_number 57 = .ok (.iload 4, 2) := by decide +kernel
theorem dX6_number_59 : decode cX6_number 59 = .ok (.imul, 1) := by decide +kernel
theorem dX6_number_60 : decode cX6_number 60 = .ok (.aload_n 0, 1) := by decide +kernel
theorem dX6_number_61 : decode cX6_number 61 = .ok (.getfield 34, 3) := by decide +kernel
theorem dX6_number_64 : decode cX6_number 64 = .ok (.iload 5, 2) := by decide +kernel
theorem dX6_number_66 : decode cX6_number 66 = .ok (.iaload, 1) := by decide +kernel
theorem dX6_number_67 : decode cX6_number 67 = .ok (.iadd, 1) := by decide +kernel
theorem dX6_number_68 : decode cX6_number 68 = .ok (.bipush 48, 2) := by decide +kernel
theorem dX6_number_70 : decode cX6_number 70 = .ok (.isub, 1) := by decide +kernel
theorem dX6_number_71 : decode cX6_number 71 = .ok (.istore 4, 2) := by decide +kernel
theorem dX6_number_73 : decode cX6_number 73 = .ok (.iinc 5 1, 3) := by decide +kernel
theorem dX6_number_76 : decode cX6_number 76 = .ok (.goto (-47), 3) := by decide +kernel
theorem dX6_number_79 : decode cX6_number 79 = .ok (.aload_n 0, 1) := by decide +kernel
theorem dX6_number_80 : decode cX6_number 80 = .ok (.iload 4, 2) := by decide +kernel
theorem dX6_number_82 : decode cX6_number 82 = .ok (.putfield 256, 3) := by decide +kernel
theorem dX6_number_85 : decode cX6_number 85 = .ok (.aload_n 0, 1) := by decide +kernel
theorem dX6_number_86 : decode cX6_number 86 = .ok (.iload_n 3, 1) := by decide +kernel
theorem dX6_number_87 : decode cX6_number 87 = .ok (.ifCond .eq 20, 3) := by decide +kernel
theorem dX6_number_90 : decode cX6_number 90 = .ok (.iload 4, 2) := by decide +kernel
theorem dX6_number_92 : decode cX6_number 92 = .ok (.i2l, 1) := by decide +kernel
theorem dX6_number_93 : decode cX6_number 93 = .ok (.iload_n 1, 1) := by decide +kernel
theorem dX6_number_94 : decode cX6_number 94 = .ok (.i2l, 1) := by decide +kernel
theorem dX6_number_95 : decode cX6_number 95 = .ok (.iload_n 2, 1) := by decide +kernel
theorem dX6_number_96 : decode cX6_number 96 = .ok (.i2l, 1) := by decide +kernel
theorem dX6_number_97 : decode cX6_number 97 = .ok (.invokestatic 52, 3) := by decide +kernel
theorem dX6_number_100 : decode cX6_number 100 = .ok (.ifCond .eq 7, 3) := by decide +kernel
theorem dX6_number_103 : decode cX6_number 103 = .ok (.iconst 1, 1) := by decide +kernel
theorem dX6_number_104 : decode cX6_number 104 = .ok (.goto 4, 3) := by decide +kernel
theorem dX6_number_107 : decode cX6_number 107 = .ok (.iconst 0, 1) := by decide +kernel
theorem dX6_number_108 : decode cX6_number 108 = .ok (.invokevirtual 259, 3) := by decide +kernel
theorem dX6_number_111 : decode cX6_number 111 = .ok (.return_, 1) := by decide +kernel
theorem dX6_kindHere_0 : decode cX6_kindHere 0 = .ok (.aload_n 0, 1) := by decide +kernel
theorem dX6_kindHere_1 : decode cX6_kindHere 1 = .ok (.invokevirtual 263, 3) := by decide +kernel
theorem dX6_kindHere_4 : decode cX6_kindHere 4 = .ok (.lstore_n 1, 1) := by decide +kernel
theorem dX6_kindHere_5 : decode cX6_kindHere 5 = .ok (.lload_n 1, 1) := by decide +kernel
theorem dX6_kindHere_6 : decode cX6_kindHere 6 = .ok (.ldc2_w 267, 3) := by decide +kernel
theorem dX6_kindHere_9 : decode cX6_kindHere 9 = .ok (.lcmp, 1) := by decide +kernel
theorem dX6_kindHere_10 : decode cX6_kindHere 10 = .ok (.ifCond .ne 7, 3) := by decide +kernel
theorem dX6_kindHere_13 : decode cX6_kindHere 13 = .ok (.iconst 0, 1) := by decide +kernel
theorem dX6_kindHere_14 : decode cX6_kindHere 14 = .ok (.goto 77, 3) := by decide +kernel
theorem dX6_kindHere_17 : decode cX6_kindHere 17 = .ok (.lload_n 1, 1) := by decide +kernel
theorem dX6_kindHere_18 : decode cX6_kindHere 18 = .ok (.ldc2_w 269, 3) := by decide +kernel
theorem dX6_kindHere_21 : decode cX6_kindHere 21 = .ok (.lcmp, 1) := by decide +kernel
theorem dX6_kindHere_22 : decode cX6_kindHere 22 = .ok (.ifCond .ne 7, 3) := by decide +kernel
theorem dX6_kindHere_25 : decode cX6_kindHere 25 = .ok (.iconst 1, 1) := by decide +kernel
theorem dX6_kindHere_26 : decode cX6_kindHere 26 = .ok (.goto 65, 3) := by decide +kernel
theorem dX6_kindHere_29 : decode cX6_kindHere 29 = .ok (.lload_n 1, 1) := by decide +kernel
theorem dX6_kindHere_30 : decode cX6_kindHere 30 = .ok (.ldc2_w 271, 3) := by decide +kernel
theorem dX6_kindHere_33 : decode cX6_kindHere 33 = .ok (.lcmp, 1) := by decide +kernel
theorem dX6_kindHere_34 : decode cX6_kindHere 34 = .ok (.ifCond .ne 7, 3) := by decide +kernel
theorem dX6_kindHere_37 : decode cX6_kindHere 37 = .ok (.iconst 2, 1) := by decide +kernel
theorem dX6_kindHere_38 : decode cX6_kindHere 38 = .ok (.goto 53, 3) := by decide +kernel
theorem dX6_kindHere_41 : decode cX6_kindHere 41 = .ok (.lload_n 1, 1) := by decide +kernel
theorem dX6_kindHere_42 : decode cX6_kindHere 42 = .ok (.ldc2_w 273, 3) := by decide +kernel
theorem dX6_kindHere_45 : decode cX6_kindHere 45 = .ok (.lcmp, 1) := by decide +kernel
theorem dX6_kindHere_46 : decode cX6_kindHere 46 = .ok (.ifCond .ne 7, 3) := by decide +kernel
theorem dX6_kindHere_49 : decode cX6_kindHere 49 = .ok (.iconst 3, 1) := by decide +kernel
theorem dX6_kindHere_50 : decode cX6_kindHere 50 = .ok (.goto 41, 3) := by decide +kernel
theorem dX6_kindHere_53 : decode cX6_kindHere 53 = .ok (.lload_n 1, 1) := by decide +kernel
theorem dX6_kindHere_54 : decode cX6_kindHere 54 = .ok (.ldc2_w 275, 3) := by decide +kernel
theorem dX6_kindHere_57 : decode cX6_kindHere 57 = .ok (.lcmp, 1) := by decide +kernel
theorem dX6_kindHere_58 : decode cX6_kindHere 58 = .ok (.ifCond .ne 7, 3) := by decide +kernel
theorem dX6_kindHere_61 : decode cX6_kindHere 61 = .ok (.iconst 4, 1) := by decide +kernel
theorem dX6_kindHere_62 : decode cX6_kindHere 62 = .ok (.goto 29, 3) := by decide +kernel
theorem dX6_kindHere_65 : decode cX6_kindHere 65 = .ok (.lload_n 1, 1) := by decide +kernel
theorem dX6_kindHere_66 : decode cX6_kindHere 66 = .ok (.ldc2_w 277, 3) := by decide +kernel
theorem dX6_kindHere_69 : decode cX6_kindHere 69 = .ok (.lcmp, 1) := by decide +kernel
theorem dX6_kindHere_70 : decode cX6_kindHere 70 = .ok (.ifCond .ne 7, 3) := by decide +kernel
theorem dX6_kindHere_73 : decode cX6_kindHere 73 = .ok (.iconst 5, 1) := by decide +kernel
theorem dX6_kindHere_74 : decode cX6_kindHere 74 = .ok (.goto 17, 3) := by decide +kernel
theorem dX6_kindHere_77 : decode cX6_kindHere 77 = .ok (.lload_n 1, 1) := by decide +kernel
theorem dX6_kindHere_78 : decode cX6_kindHere 78 = .ok (.ldc2_w 279, 3) := by decide +kernel
theorem dX6_kindHere_81 : decode cX6_kindHere 81 = .ok (.lcmp, 1) := by decide +kernel
theorem dX6_kindHere_82 : decode cX6_kindHere 82 = .ok (.ifCond .ne 8, 3) := by decide +kernel
theorem dX6_kindHere_85 : decode cX6_kindHere 85 = .ok (.bipush 6, 2) := by decide +kernel
theorem dX6_kindHere_87 : decode cX6_kindHere 87 = .ok (.goto 4, 3) := by decide +kernel
theorem dX6_kindHere_90 : decode cX6_kindHere 90 = .ok (.iconst (-1), 1) := by decide +kernel
theorem dX6_kindHere_91 : decode cX6_kindHere 91 = .ok (.ireturn, 1) := by decide +kernel
theorem dX6_isHere_0 : decode cX6_isHere 0 = .ok (.aload_n 0, 1) := by decide +kernel
theorem dX6_isHere_1 : decode cX6_isHere 1 = .ok (.getfield 245, 3) := by decide +kernel
theorem dX6_isHere_4 : decode cX6_isHere 4 = .ok (.ifCond .ne 19, 3) := by decide +kernel
theorem dX6_isHere_7 : decode cX6_isHere 7 = .ok (.aload_n 0, 1) := by decide +kernel
theorem dX6_isHere_8 : decode cX6_isHere 8 = .ok (.aload_n 0, 1) := by decide +kernel
theorem dX6_isHere_9 : decode cX6_isHere 9 = .ok (.getfield 233, 3) := by decide +kernel
theorem dX6_isHere_12 : decode cX6_isHere 12 = .ok (.invokevirtual 236, 3) := by decide +kernel
theorem dX6_isHere_15 : decode cX6_isHere 15 = .ok (.iload_n 1, 1) := by decide +kernel
theorem dX6_isHere_16 : decode cX6_isHere 16 = .ok (.if_icmp .ne 7, 3) := by decide +kernel
theorem dX6_isHere_19 : decode cX6_isHere 19 = .ok (.iconst 1, 1) := by decide +kernel
theorem dX6_isHere_20 : decode cX6_isHere 20 = .ok (.goto 4, 3) := by decide +kernel
theorem dX6_isHere_23 : decode cX6_isHere 23 = .ok (.iconst 0, 1) := by decide +kernel
theorem dX6_isHere_24 : decode cX6_isHere 24 = .ok (.ireturn, 1) := by decide +kernel
theorem dX6_viewHere_0 : decode cX6_viewHere 0 = .ok (.aload_n 0, 1) := by decide +kernel
theorem dX6_viewHere_1 : decode cX6_viewHere 1 = .ok (.bipush 45, 2) := by decide +kernel
theorem dX6_viewHere_3 : decode cX6_viewHere 3 = .ok (.invokevirtual 281, 3) := by decide +kernel
theorem dX6_viewHere_6 : decode cX6_viewHere 6 = .ok (.istore_n 1, 1) := by decide +kernel
theorem dX6_viewHere_7 : decode cX6_viewHere 7 = .ok (.iload_n 1, 1) := by decide +kernel
theorem dX6_viewHere_8 : decode cX6_viewHere 8 = .ok (.ifCond .eq 8, 3) := by decide +kernel
theorem dX6_viewHere_11 : decode cX6_viewHere 11 = .ok (.aload_n 0, 1) := by decide +kernel
theorem dX6_viewHere_12 : decode cX6_viewHere 12 = .ok (.iconst 1, 1) := by decide +kernel
theorem dX6_viewHere_13 : decode cX6_viewHere 13 = .ok (.invokevirtual 259, 3) := by decide +kernel
theorem dX6_viewHere_16 : decode cX6_viewHere 16 = .ok (.aload_n 0, 1) := by decide +kernel
theorem dX6_viewHere_17 : decode cX6_viewHere 17 = .ok (.iconst 0, 1) := by decide +kernel
theorem dX6_viewHere_18 : decode cX6_viewHere 18 = .ok (.bipush 9, 2) := by decide +kernel
theorem dX6_viewHere_20 : decode cX6_viewHere 20 = .ok (.invokevirtual 284, 3) := by decide +kernel
theorem dX6_viewHere_23 : decode cX6_viewHere 23 = .ok (.iload_n 1, 1) := by decide +kernel
theorem dX6_viewHere_24 : decode cX6_viewHere 24 = .ok (.ifCond .eq 11, 3) := by decide +kernel
theorem dX6_viewHere_27 : decode cX6_viewHere 27 = .ok (.aload_n 0, 1) := by decide +kernel
theorem dX6_viewHere_28 : decode cX6_viewHere 28 = .ok (.getfield 256, 3) := by decide +kernel
theorem dX6_viewHere_31 : decode cX6_viewHere 31 = .ok (.ineg, 1) := by decide +kernel
theorem dX6_viewHere_32 : decode cX6_viewHere 32 = .ok (.goto 7, 3) := by decide +kernel
theorem dX6_viewHere_35 : decode cX6_viewHere 35 = .ok (.aload_n 0, 1) := by decide +kernel
theorem dX6_viewHere_36 : decode cX6_viewHere 36 = .ok (.getfield 256, 3) := by decide +kernel
theorem dX6_viewHere_39 : decode cX6_viewHere 39 = .ok (.ireturn, 1) := by decide +kernel
theorem dX6_personItem_0 : decode cX6_personItem 0 = .ok (.aload_n 0, 1) := by decide +kernel
theorem dX6_personItem_1 : decode cX6_personItem 1 = .ok (.aload_n 0, 1) := by decide +kernel
theorem dX6_personItem_2 : decode cX6_personItem 2 = .ok (.getfield 7, 3) := by decide +kernel
theorem dX6_personItem_5 : decode cX6_personItem 5 = .ok (.iconst 1, 1) := by decide +kernel
theorem dX6_personItem_6 : decode cX6_personItem 6 = .ok (.iaload, 1) := by decide +kernel
theorem dX6_personItem_7 : decode cX6_personItem 7 = .ok (.bipush 8, 2) := by decide +kernel
theorem dX6_personItem_9 : decode cX6_personItem 9 = .ok (.if_icmp .ge 7, 3) := by decide +kernel
theorem dX6_personItem_12 : decode cX6_personItem 12 = .ok (.iconst 1, 1) := by decide +kernel
theorem dX6_personItem_13 : decode cX6_personItem 13 = .ok (.goto 4, 3) := by decide +kernel
theorem dX6_personItem_16 : decode cX6_personItem 16 = .ok (.iconst 0, 1) := by decide +kernel
theorem dX6_personItem_17 : decode cX6_personItem 17 = .ok (.invokevirtual 259, 3) := by decide +kernel
theorem dX6_personItem_20 : decode cX6_personItem 20 = .ok (.aload_n 0, 1) := by decide +kernel
theorem dX6_personItem_21 : decode cX6_personItem 21 = .ok (.getfield 245, 3) := by decide +kernel
theorem dX6_personItem_24 : decode cX6_personItem 24 = .ok (.ifCond .eq 4, 3) := by decide +kernel
theorem dX6_personItem_27 : decode cX6_personItem 27 = .ok (.return_, 1) := by decide +kernel
theorem dX6_personItem_28 : decode cX6_personItem 28 = .ok (.aload_n 0, 1) := by decide +kernel
theorem dX6_personItem_29 : decode cX6_personItem 29 = .ok (.iload_n 1, 1) := by decide +kernel
theorem dX6_personItem_30 : decode cX6_personItem 30 = .ok (.invokevirtual 78, 3) := by decide +kernel
theorem dX6_personItem_33 : decode cX6_personItem 33 = .ok (.istore_n 2, 1) := by decide +kernel
theorem dX6_personItem_34 : decode cX6_personItem 34 = .ok (.aload_n 0, 1) := by decide +kernel
theorem dX6_personItem_35 : decode cX6_personItem 35 = .ok (.invokevirtual 263, 3) := by decide +kernel
theorem dX6_personItem_38 : decode cX6_personItem 38 = .ok (.ldc2_w 287, 3) := by decide +kernel
theorem dX6_personItem_41 : decode cX6_personItem 41 = .ok (.lcmp, 1) := by decide +kernel
theorem dX6_personItem_42 : decode cX6_personItem 42 = .ok (.ifCond .ne 40, 3) := by decide +kernel
theorem dX6_personItem_45 : decode cX6_personItem 45 = .ok (.aload_n 0, 1) := by decide +kernel
theorem dX6_personItem_46 : decode cX6_personItem 46 = .ok (.iconst 1, 1) := by decide +kernel
theorem dX6_personItem_47 : decode cX6_personItem 47 = .ok (.invokevirtual 259, 3) := by decide +kernel
theorem dX6_personItem_50 : decode cX6_personItem 50 = .ok (.aload_n 0, 1) := by decide +kernel
theorem dX6_personItem_51 : decode cX6_personItem 51 = .ok (.iconst 0, 1) := by decide +kernel
theorem dX6_personItem_52 : decode cX6_personItem 52 = .ok (.bipush 9, 2) := by decide +kernel
theorem dX6_personItem_54 : decode cX6_personItem 54 = .ok (.invokevirtual 284, 3) := by decide +kernel
theorem dX6_personItem_57 : decode cX6_personItem 57 = .ok (.aload_n 0, 1) := by decide +kernel
theorem dX6_personItem_58 : decode cX6_personItem 58 = .ok (.getfield 7, 3) := by decide +kernel
theorem dX6_personItem_61 : decode cX6_personItem 61 = .ok (.iload_n 2, 1) := by decide +kernel
theorem dX6_personItem_62 : decode cX6_personItem 62 = .ok (.iconst 1, 1) := by decide +kernel
theorem dX6_personItem_63 : decode cX6_personItem 63 = .ok (.invokestatic 66, 3) := by decide +kernel
theorem dX6_personItem_66 : decode cX6_personItem 66 = .ok (.aload_n 0, 1) := by decide +kernel
theorem dX6_personItem_67 : decode cX6_personItem 67 = .ok (.getfield 245, 3) := by decide +kernel
theorem dX6_personItem_70 : decode cX6_personItem 70 = .ok (.ifCond .eq 7, 3) := by decide +kernel
theorem dX6_personItem_73 : decode cX6_personItem 73 = .ok (.iconst 3, 1) := by decide +kernel
theorem dX6_personItem_74 : decode cX6_personItem 74 = .ok (.goto 7, 3) := by decide +kernel
theorem dX6_personItem_77 : decode cX6_personItem 77 = .ok (.aload_n 0, 1) := by decide +kernel
theorem dX6_personItem_78 : decode cX6_personItem 78 = .ok (.getfield 256, 3) := by decide +kernel
theorem dX6_personItem_81 : decode cX6_personItem 81 = .ok (.iastore, 1) := by decide +kernel
theorem dX6_personItem_82 : decode cX6_personItem 82 = .ok (.aload_n 0, 1) := by decide +kernel
theorem dX6_personItem_83 : decode cX6_personItem 83 = .ok (.invokevirtual 263, 3) := by decide +kernel
theorem dX6_personItem_86 : decode cX6_personItem 86 = .ok (.ldc2_w 289, 3) := by decide +kernel
theorem dX6_personItem_89 : decode cX6_personItem 89 = .ok (.lcmp, 1) := by decide +kernel
theorem dX6_personItem_90 : decode cX6_personItem 90 = .ok (.ifCond .ne 80, 3) := by decide +kernel
theorem dX6_personItem_93 : decode cX6_personItem 93 = .ok (.aload_n 0, 1) := by decide +kernel
theorem dX6_personItem_94 : decode cX6_personItem 94 = .ok (.iconst 1, 1) := by decide +kernel
theorem dX6_personItem_95 : decode cX6_personItem 95 = .ok (.invokevirtual 259, 3) := by decide +kernel
theorem dX6_personItem_98 : decode cX6_personItem 98 = .ok (.iconst 0, 1) := by decide +kernel
theorem dX6_personItem_99 : decode cX6_personItem 99 = .ok (.istore_n 3, 1) := by decide +kernel
theorem dX6_personItem_100 : decode cX6_personItem 100 = .ok (.aload_n 0, 1) := by decide +kernel
theorem dX6_personItem_101 : decode cX6_personItem 101 = .ok (.invokevirtual 291, 3) := by decide +kernel
theorem dX6_personItem_104 : decode cX6_personItem 104 = .ok (.istore 4, 2) := by decide +kernel
theorem dX6_personItem_106 : decode cX6_personItem 106 = .ok (.aload_n 0, 1) := by decide +kernel
theorem dX6_personItem_107 : decode cX6_personItem 107 = .ok (.getfield 7, 3) := by decide +kernel
theorem dX6_personItem_110 : decode cX6_personItem 110 = .ok (.iload_n 2, 1) := by decide +kernel
theorem dX6_personItem_111 : decode cX6_personItem 111 = .ok (.iconst 2, 1) := by decide +kernel
theorem dX6_personItem_112 : decode cX6_personItem 112 = .ok (.iload_n 3, 1) := by decide +kernel
theorem dX6_personItem_113 : decode cX6_personItem 113 = .ok (.iadd, 1) := by decide +kernel
theorem dX6_personItem_114 : decode cX6_personItem 114 = .ok (.invokestatic 66, 3) := by decide +kernel
theorem dX6_personItem_117 : decode cX6_personItem 117 = .ok (.aload_n 0, 1) := by decide +kernel
theorem dX6_personItem_118 : decode cX6_personItem 118 = .ok (.getfield 245, 3) := by decide +kernel
theorem dX6_personItem_121 : decode cX6_personItem 121 = .ok (.ifCond .eq 7, 3) := by decide +kernel
theorem dX6_personItem_124 : decode cX6_personItem 124 = .ok (.iconst 0, 1) := by decide +kernel
theorem dX6_personItem_125 : decode cX6_personItem 125 = .ok (.goto 5, 3) := by decide +kernel
theorem dX6_personItem_128 : decode cX6_personItem 128 = .ok (.iload 4, 2) := by decide +kernel
theorem dX6_personItem_130 : decode cX6_personItem 130 = .ok (.iastore, 1) := by decide +kernel
theorem dX6_personItem_131 : decode cX6_personItem 131 = .ok (.iinc 3 1, 3) := by decide +kernel
theorem dX6_personItem_134 : decode cX6_personItem 134 = .ok (.iload_n 3, 1) := by decide +kernel
theorem dX6_personItem_135 : decode cX6_personItem 135 = .ok (.bipush 6, 2) := by decide +kernel
theorem dX6_personItem_137 : decode cX6_personItem 137 = .ok (.if_icmp .ge 33, 3) := by decide +kernel
theorem dX6_personItem_140 : decode cX6_personItem 140 = .ok (.aload_n 0, 1) := by decide +kernel
theorem dX6_personItem_141 : decode cX6_personItem 141 = .ok (.getfield 245, 3) := by decide +kernel
theorem dX6_personItem_144 : decode cX6_personItem 144 = .ok (.ifCond .ne 26, 3) := by decide +kernel
theorem dX6_personItem_147 : decode cX6_personItem 147 = .ok (.aload_n 0, 1) := by decide +kernel
theorem dX6_personItem_148 : decode cX6_personItem 148 = .ok (.bipush 45, 2) := by decide +kernel
theorem dX6_personItem_150 : decode cX6_personItem 150 = .ok (.invokevirtual 281, 3) := by decide +kernel
theorem dX6_personItem_153 : decode cX6_personItem 153 = .ok (.ifCond .ne (-53), 3) := by decide +kernel
theorem dX6_personItem_156 : decode cX6_personItem 156 = .ok (.aload_n 0, 1) := by decide +kernel
theorem dX6_personItem_157 : decode cX6_personItem 157 = .ok (.aload_n 0, 1) := by decide +kernel
theorem dX6_personItem_158 : decode cX6_personItem 158 = .ok (.getfield 233, 3) := by decide +kernel
theorem dX6_personItem_161 : decode cX6_personItem 161 = .ok (.invokevirtual 236, 3) := by decide +kernel
theorem dX6_personItem_164 : decode cX6_personItem 164 = .ok (.invokestatic 242, 3) := by decide +kernel
theorem dX6_personItem_167 : decode cX6_personItem 167 = .ok (.ifCond .ne (-67), 3) := by decide +kernel
theorem dX6_personItem_170 : decode cX6_personItem 170 = .ok (.return_, 1) := by decide +kernel
theorem dX6_pairItem_0 : decode cX6_pairItem 0 = .ok (.aload_n 0, 1) := by decide +kernel
theorem dX6_pairItem_1 : decode cX6_pairItem 1 = .ok (.iconst 1, 1) := by decide +kernel
theorem dX6_pairItem_2 : decode cX6_pairItem 2 = .ok (.invokevirtual 259, 3) := by decide +kernel
theorem dX6_pairItem_5 : decode cX6_pairItem 5 = .ok (.aload_n 0, 1) := by decide +kernel
theorem dX6_pairItem_6 : decode cX6_pairItem 6 = .ok (.iconst 0, 1) := by decide +kernel
theorem dX6_pairItem_7 : decode cX6_pairItem 7 = .ok (.aload_n 0, 1) := by decide +kernel
theorem dX6_pairItem_8 : decode cX6_pairItem 8 = .ok (.getfield 7, 3) := by decide +kernel
theorem dX6_pairItem_11 : decode cX6_pairItem 11 = .ok (.iconst 1, 1) := by decide +kernel
theorem dX6_pairItem_12 : decode cX6_pairItem 12 = .ok (.iaload, 1) := by decide +kernel
theorem dX6_pairItem_13 : decode cX6_pairItem 13 = .ok (.iconst 1, 1) := by decide +kernel
theorem dX6_pairItem_14 : decode cX6_pairItem 14 = .ok (.isub, 1) := by decide +kernel
theorem dX6_pairItem_15 : decode cX6_pairItem 15 = .ok (.invokevirtual 284, 3) := by decide +kernel
theorem dX6_pairItem_18 : decode cX6_pairItem 18 = .ok (.aload_n 0, 1) := by decide +kernel
theorem dX6_pairItem_19 : decode cX6_pairItem 19 = .ok (.getfield 256, 3) := by decide +kernel
theorem dX6_pairItem_22 : decode cX6_pairItem 22 = .ok (.istore_n 1, 1) := by decide +kernel
theorem dX6_pairItem_23 : decode cX6_pairItem 23 = .ok (.aload_n 0, 1) := by decide +kernel
theorem dX6_pairItem_24 : decode cX6_pairItem 24 = .ok (.aload_n 0, 1) := by decide +kernel
theorem dX6_pairItem_25 : decode cX6_pairItem 25 = .ok (.getfield 233, 3) := by decide +kernel
theorem dX6_pairItem_28 : decode cX6_pairItem 28 = .ok (.invokevirtual 236, 3) := by decide +kernel
theorem dX6_pairItem_31 : decode cX6_pairItem 31 = .ok (.invokestatic 242, 3) := by decide +kernel
theorem dX6_pairItem_34 : decode cX6_pairItem 34 = .ok (.ifCond .eq 14, 3) := by decide +kernel
theorem dX6_pairItem_37 : decode cX6_pairItem 37 = .ok (.aload_n 0, 1) := by decide +kernel
theorem dX6_pairItem_38 : decode cX6_pairItem 38 = .ok (.getfield 245, 3) := by decide +kernel
theorem dX6_pairItem_41 : decode cX6_pairItem 41 = .ok (.ifCond .ne 7, 3) := by decide +kernel
theorem dX6_pairItem_44 : decode cX6_pairItem 44 = .ok (.iconst 1, 1) := by decide +kernel
theorem dX6_pairItem_45 : decode cX6_pairItem 45 = .ok (.goto 4, 3) := by decide +kernel
theorem dX6_pairItem_48 : decode cX6_pairItem 48 = .ok (.iconst 0, 1) := by decide +kernel
theorem dX6_pairItem_49 : decode cX6_pairItem 49 = .ok (.istore_n 2, 1) := by decide +kernel
theorem dX6_pairItem_50 : decode cX6_pairItem 50 = .ok (.iload_n 2, 1) := by decide +kernel
theorem dX6_pairItem_51 : decode cX6_pairItem 51 = .ok (.ifCond .eq 10, 3) := by decide +kernel
theorem dX6_pairItem_54 : decode cX6_pairItem 54 = .ok (.aload_n 0, 1) := by decide +kernel
theorem dX6_pairItem_55 : decode cX6_pairItem 55 = .ok (.invokevirtual 294, 3) := by decide +kernel
theorem dX6_pairItem_58 : decode cX6_pairItem 58 = .ok (.goto 4, 3) := by decide +kernel
theorem dX6_pairItem_61 : decode cX6_pairItem 61 = .ok (.iconst (-1), 1) := by decide +kernel
theorem dX6_pairItem_62 : decode cX6_pairItem 62 = .ok (.istore_n 3, 1) := by decide +kernel
theorem dX6_pairItem_63 : decode cX6_pairItem 63 = .ok (.aload_n 0, 1) := by decide +kernel
theorem dX6_pairItem_64 : decode cX6_pairItem 64 = .ok (.iload_n 2, 1) := by decide +kernel
theorem dX6_pairItem_65 : decode cX6_pairItem 65 = .ok (.ifCond .eq 20, 3) := by decide +kernel
theorem dX6_pairItem_68 : decode cX6_pairItem 68 = .ok (.aload_n 0, 1) := by decide +kernel
theorem dX6_pairItem_69 : decode cX6_pairItem 69 = .ok (.iload_n 3, 1) := by decide +kernel
theorem dX6_pairItem_70 : decode cX6_pairItem 70 = .ok (.invokevirtual 56, 3) := by decide +kernel
theorem dX6_pairItem_73 : decode cX6_pairItem 73 = .ok (.ifCond .eq 12, 3) := by decide +kernel
theorem dX6_pairItem_76 : decode cX6_pairItem 76 = .ok (.iload_n 3, 1) := by decide +kernel
theorem dX6_pairItem_77 : decode cX6_pairItem 77 = .ok (.iload_n 1, 1) := by decide +kernel
theorem dX6_pairItem_78 : decode cX6_pairItem 78 = .ok (.if_icmp .eq 7, 3) := by decide +kernel
theorem dX6_pairItem_81 : decode cX6_pairItem 81 = .ok (.iconst 1, 1) := by decide +kernel
theorem dX6_pairItem_82 : decode cX6_pairItem 82 = .ok (.goto 4, 3) := by decide +kernel
theorem dX6_pairItem_85 : decode cX6_pairItem 85 = .ok (.iconst 0, 1) := by decide +kernel
theorem dX6_pairItem_86 : decode cX6_pairItem 86 = .ok (.invokevirtual 259, 3) := by decide +kernel
theorem dX6_pairItem_89 : decode cX6_pairItem 89 = .ok (.aload_n 0, 1) := by decide +kernel
theorem dX6_pairItem_90 : decode cX6_pairItem 90 = .ok (.getfield 245, 3) := by decide +kernel
theorem dX6_pairItem_93 : decode cX6_pairItem 93 = .ok (.ifCond .ne 18, 3) := by decide +kernel
theorem dX6_pairItem_96 : decode cX6_pairItem 96 = .ok (.aload_n 0, 1) := by decide +kernel
theorem dX6_pairItem_97 : decode cX6_pairItem 97 = .ok (.getfield 7, 3) := by decide +kernel
theorem dX6_pairItem_100 : decode cX6_pairItem 100 = .ok (.iconst 5, 1) := by decide +kernel
theorem dX6_pairItem_101 : decode cX6_pairItem 101 = .ok (.iload_n 1, 1) := by decide +kernel
theorem dX6_pairItem_102 : decode cX6_pairItem 102 = .ok (.iastore, 1) := by decide +kernel
theorem dX6_pairItem_103 : decode cX6_pairItem 103 = .ok (.aload_n 0, 1) := by decide +kernel
theorem dX6_pairItem_104 : decode cX6_pairItem 104 = .ok (.getfield 7, 3) := by decide +kernel
theorem dX6_pairItem_107 : decode cX6_pairItem 107 = .ok (.bipush 6, 2) := by decide +kernel
theorem dX6_pairItem_109 : decode cX6_pairItem 109 = .ok (.iload_n 3, 1) := by decide +kernel
theorem dX6_pairItem_110 : decode cX6_pairItem 110 = .ok (.iastore, 1) := by decide +kernel
theorem dX6_pairItem_111 : decode cX6_pairItem 111 = .ok (.return_, 1) := by decide +kernel
theorem dX6_peeked_0 : decode cX6_peeked 0 = .ok (.iconst 0, 1) := by decide +kernel
theorem dX6_peeked_1 : decode cX6_peeked 1 = .ok (.istore_n 1, 1) := by decide +kernel
theorem dX6_peeked_2 : decode cX6_peeked 2 = .ok (.aload_n 0, 1) := by decide +kernel
theorem dX6_peeked_3 : decode cX6_peeked 3 = .ok (.getfield 233, 3) := by decide +kernel
theorem dX6_peeked_6 : decode cX6_peeked 6 = .ok (.istore_n 2, 1) := by decide +kernel
theorem dX6_peeked_7 : decode cX6_peeked 7 = .ok (.iload_n 2, 1) := by decide +kernel
theorem dX6_peeked_8 : decode cX6_peeked 8 = .ok (.aload_n 0, 1) := by decide +kernel
theorem dX6_peeked_9 : decode cX6_peeked 9 = .ok (.getfield 230, 3) := by decide +kernel
theorem dX6_peeked_12 : decode cX6_peeked 12 = .ok (.if_icmp .ge 36, 3) := by decide +kernel
theorem dX6_peeked_15 : decode cX6_peeked 15 = .ok (.iload_n 1, 1) := by decide +kernel
theorem dX6_peeked_16 : decode cX6_peeked 16 = .ok (.bipush 99, 2) := by decide +kernel
theorem dX6_peeked_18 : decode cX6_peeked 18 = .ok (.if_icmp .le 9, 3) := by decide +kernel
theorem dX6_peeked_21 : decode cX6_peeked 21 = .ok (.sipush 1000, 3) := by decide +kernel
theorem dX6_peeked_24 : decode cX6_peeked 24 = .ok (.goto 17, 3) := by decide +kernel
theorem dX6_peeked_27 : decode cX6_peeked 27 = .ok (.bipush 10, 2) := by decide +kernel
theorem dX6_peeked_29 : decode cX6_peeked 29 = .ok (.iload_n 1, 1) := by decide +kernel
theorem dX6_peeked_30 : decode cX6_peeked 30 = .ok (.imul, 1) := by decide +kernel
theorem dX6_peeked_31 : decode cX6_peeked 31 = .ok (.aload_n 0, 1) := by decide +kernel
theorem dX6_peeked_32 : decode cX6_peeked 32 = .ok (.getfield 34, 3) := by decide +kernel
theorem dX6_peeked_35 : decode cX6_peeked 35 = .ok (.iload_n 2, 1) := by decide +kernel
theorem dX6_peeked_36 : decode cX6_peeked 36 = .ok (.iaload, 1) := by decide +kernel
theorem dX6_peeked_37 : decode cX6_peeked 37 = .ok (.iadd, 1) := by decide +kernel
theorem dX6_peeked_38 : decode cX6_peeked 38 = .ok (.bipush 48, 2) := by decide +kernel
theorem dX6_peeked_40 : decode cX6_peeked 40 = .ok (.isub, 1) := by decide +kernel
theorem dX6_peeked_41 : decode cX6_peeked 41 = .ok (.istore_n 1, 1) := by decide +kernel
theorem dX6_peeked_42 : decode cX6_peeked 42 = .ok (.iinc 2 1, 3) := by decide +kernel
theorem dX6_peeked_45 : decode cX6_peeked 45 = .ok (.goto (-38), 3) := by decide +kernel
theorem dX6_peeked_48 : decode cX6_peeked 48 = .ok (.iload_n 1, 1) := by decide +kernel
theorem dX6_peeked_49 : decode cX6_peeked 49 = .ok (.ireturn, 1) := by decide +kernel
theorem dX6_item_0 : decode cX6_item 0 = .ok (.aload_n 0, 1) := by decide +kernel
theorem dX6_item_1 : decode cX6_item 1 = .ok (.invokevirtual 297, 3) := by decide +kernel
theorem dX6_item_4 : decode cX6_item 4 = .ok (.istore_n 1, 1) := by decide +kernel
theorem dX6_item_5 : decode cX6_item 5 = .ok (.aload_n 0, 1) := by decide +kernel
theorem dX6_item_6 : decode cX6_item 6 = .ok (.invokevirtual 263, 3) := by decide +kernel
theorem dX6_item_9 : decode cX6_item 9 = .ok (.lstore_n 2, 1) := by decide +kernel
theorem dX6_item_10 : decode cX6_item 10 = .ok (.iload_n 1, 1) := by decide +kernel
theorem dX6_item_11 : decode cX6_item 11 = .ok (.ifCond .lt 11, 3) := by decide +kernel
theorem dX6_item_14 : decode cX6_item 14 = .ok (.aload_n 0, 1) := by decide +kernel
theorem dX6_item_15 : decode cX6_item 15 = .ok (.iload_n 1, 1) := by decide +kernel
theorem dX6_item_16 : decode cX6_item 16 = .ok (.invokevirtual 300, 3) := by decide +kernel
theorem dX6_item_19 : decode cX6_item 19 = .ok (.goto 67, 3) := by decide +kernel
theorem dX6_item_22 : decode cX6_item 22 = .ok (.lload_n 2, 1) := by decide +kernel
theorem dX6_item_23 : decode cX6_item 23 = .ok (.ldc2_w 303, 3) := by decide +kernel
theorem dX6_item_26 : decode cX6_item 26 = .ok (.lcmp, 1) := by decide +kernel
theorem dX6_item_27 : decode cX6_item 27 = .ok (.ifCond .ne 10, 3) := by decide +kernel
theorem dX6_item_30 : decode cX6_item 30 = .ok (.aload_n 0, 1) := by decide +kernel
theorem dX6_item_31 : decode cX6_item 31 = .ok (.invokevirtual 305, 3) := by decide +kernel
theorem dX6_item_34 : decode cX6_item 34 = .ok (.goto 52, 3) := by decide +kernel
theorem dX6_item_37 : decode cX6_item 37 = .ok (.aload_n 0, 1) := by decide +kernel
theorem dX6_item_38 : decode cX6_item 38 = .ok (.lload_n 2, 1) := by decide +kernel
theorem dX6_item_39 : decode cX6_item 39 = .ok (.ldc2_w 308, 3) := by decide +kernel
theorem dX6_item_42 : decode cX6_item 42 = .ok (.lcmp, 1) := by decide +kernel
theorem dX6_item_43 : decode cX6_item 43 = .ok (.ifCond .ne 7, 3) := by decide +kernel
theorem dX6_item_46 : decode cX6_item 46 = .ok (.iconst 1, 1) := by decide +kernel
theorem dX6_item_47 : decode cX6_item 47 = .ok (.goto 4, 3) := by decide +kernel
theorem dX6_item_50 : decode cX6_item 50 = .ok (.iconst 0, 1) := by decide +kernel
theorem dX6_item_51 : decode cX6_item 51 = .ok (.invokevirtual 259, 3) := by decide +kernel
theorem dX6_item_54 : decode cX6_item 54 = .ok (.aload_n 0, 1) := by decide +kernel
theorem dX6_item_55 : decode cX6_item 55 = .ok (.iconst 0, 1) := by decide +kernel
theorem dX6_item_56 : decode cX6_item 56 = .ok (.iconst 5, 1) := by decide +kernel
theorem dX6_item_57 : decode cX6_item 57 = .ok (.invokevirtual 284, 3) := by decide +kernel
theorem dX6_item_60 : decode cX6_item 60 = .ok (.aload_n 0, 1) := by decide +kernel
theorem dX6_item_61 : decode cX6_item 61 = .ok (.getfield 7, 3) := by decide +kernel
theorem dX6_item_64 : decode cX6_item 64 = .ok (.iconst 3, 1) := by decide +kernel
theorem dX6_item_65 : decode cX6_item 65 = .ok (.aload_n 0, 1) := by decide +kernel
theorem dX6_item_66 : decode cX6_item 66 = .ok (.getfield 245, 3) := by decide +kernel
theorem dX6_item_69 : decode cX6_item 69 = .ok (.ifCond .eq 12, 3) := by decide +kernel
theorem dX6_item_72 : decode cX6_item 72 = .ok (.aload_n 0, 1) := by decide +kernel
theorem dX6_item_73 : decode cX6_item 73 = .ok (.getfield 7, 3) := by decide +kernel
theorem dX6_item_76 : decode cX6_item 76 = .ok (.iconst 3, 1) := by decide +kernel
theorem dX6_item_77 : decode cX6_item 77 = .ok (.iaload, 1) := by decide +kernel
theorem dX6_item_78 : decode cX6_item 78 = .ok (.goto 7, 3) := by decide +kernel
theorem dX6_item_81 : decode cX6_item 81 = .ok (.aload_n 0, 1) := by decide +kernel
theorem dX6_item_82 : decode cX6_item 82 = .ok (.getfield 256, 3) := by decide +kernel
theorem dX6_item_85 : decode cX6_item 85 = .ok (.iastore, 1) := by decide +kernel
theorem dX6_item_86 : decode cX6_item 86 = .ok (.return_, 1) := by decide +kernel
theorem dX6_text_0 : decode cX6_text 0 = .ok (.aload_n 0, 1) := by decide +kernel
theorem dX6_text_1 : decode cX6_text 1 = .ok (.invokevirtual 310, 3) := by decide +kernel
theorem dX6_text_4 : decode cX6_text 4 = .ok (.aload_n 0, 1) := by decide +kernel
theorem dX6_text_5 : decode cX6_text 5 = .ok (.iconst 0, 1) := by decide +kernel
theorem dX6_text_6 : decode cX6_text 6 = .ok (.putfield 245, 3) := by decide +kernel
theorem dX6_text_9 : decode cX6_text 9 = .ok (.aload_n 0, 1) := by decide +kernel
theorem dX6_text_10 : decode cX6_text 10 = .ok (.iconst 0, 1) := by decide +kernel
theorem dX6_text_11 : decode cX6_text 11 = .ok (.putfield 230, 3) := by decide +kernel
theorem dX6_text_14 : decode cX6_text 14 = .ok (.aload_n 0, 1) := by decide +kernel
theorem dX6_text_15 : decode cX6_text 15 = .ok (.invokevirtual 249, 3) := by decide +kernel
theorem dX6_text_18 : decode cX6_text 18 = .ok (.iconst 1, 1) := by decide +kernel
theorem dX6_text_19 : decode cX6_text 19 = .ok (.istore_n 1, 1) := by decide +kernel
theorem dX6_text_20 : decode cX6_text 20 = .ok (.aload_n 0, 1) := by decide +kernel
theorem dX6_text_21 : decode cX6_text 21 = .ok (.invokevirtual 313, 3) := by decide +kernel
theorem dX6_text_24 : decode cX6_text 24 = .ok (.aload_n 0, 1) := by decide +kernel
theorem dX6_text_25 : decode cX6_text 25 = .ok (.getfield 245, 3) := by decide +kernel
theorem dX6_text_28 : decode cX6_text 28 = .ok (.ifCond .ne 31, 3) := by decide +kernel
theorem dX6_text_31 : decode cX6_text 31 = .ok (.aload_n 0, 1) := by decide +kernel
theorem dX6_text_32 : decode cX6_text 32 = .ok (.aload_n 0, 1) := by decide +kernel
theorem dX6_text_33 : decode cX6_text 33 = .ok (.getfield 233, 3) := by decide +kernel
theorem dX6_text_36 : decode cX6_text 36 = .ok (.invokevirtual 236, 3) := by decide +kernel
theorem dX6_text_39 : decode cX6_text 39 = .ok (.bipush 59, 2) := by decide +kernel
theorem dX6_text_41 : decode cX6_text 41 = .ok (.if_icmp .ne 18, 3) := by decide +kernel
theorem dX6_text_44 : decode cX6_text 44 = .ok (.aload_n 0, 1) := by decide +kernel
theorem dX6_text_45 : decode cX6_text 45 = .ok (.iconst 1, 1) := by decide +kernel
theorem dX6_text_46 : decode cX6_text 46 = .ok (.invokevirtual 259, 3) := by decide +kernel
theorem dX6_text_49 : decode cX6_text 49 = .ok (.aload_n 0, 1) := by decide +kernel
theorem dX6_text_50 : decode cX6_text 50 = .ok (.invokevirtual 313, 3) := by decide +kernel
theorem dX6_text_53 : decode cX6_text 53 = .ok (.iinc 1 1, 3) := by decide +kernel
theorem dX6_text_56 : decode cX6_text 56 = .ok (.goto (-32), 3) := by decide +kernel
theorem dX6_text_59 : decode cX6_text 59 = .ok (.aload_n 0, 1) := by decide +kernel
theorem dX6_text_60 : decode cX6_text 60 = .ok (.aload_n 0, 1) := by decide +kernel
theorem dX6_text_61 : decode cX6_text 61 = .ok (.getfield 245, 3) := by decide +kernel
theorem dX6_text_64 : decode cX6_text 64 = .ok (.ifCond .ne 14, 3) := by decide +kernel
theorem dX6_text_67 : decode cX6_text 67 = .ok (.aload_n 0, 1) := by decide +kernel
theorem dX6_text_68 : decode cX6_text 68 = .ok (.getfield 233, 3) := by decide +kernel
theorem dX6_text_71 : decode cX6_text 71 = .ok (.aload_n 0, 1) := by decide +kernel
theorem dX6_text_72 : decode cX6_text 72 = .ok (.getfield 219, 3) := by decide +kernel
theorem dX6_text_75 : decode cX6_text 75 = .ok (.if_icmp .ge 7, 3) := by decide +kernel
theorem dX6_text_78 : decode cX6_text 78 = .ok (.iconst 1, 1) := by decide +kernel
theorem dX6_text_79 : decode cX6_text 79 = .ok (.goto 4, 3) := by decide +kernel
theorem dX6_text_82 : decode cX6_text 82 = .ok (.iconst 0, 1) := by decide +kernel
theorem dX6_text_83 : decode cX6_text 83 = .ok (.putfield 245, 3) := by decide +kernel
theorem dX6_text_86 : decode cX6_text 86 = .ok (.aload_n 0, 1) := by decide +kernel
theorem dX6_text_87 : decode cX6_text 87 = .ok (.getfield 245, 3) := by decide +kernel
theorem dX6_text_90 : decode cX6_text 90 = .ok (.ifCond .eq 7, 3) := by decide +kernel
theorem dX6_text_93 : decode cX6_text 93 = .ok (.aload_n 0, 1) := by decide +kernel
theorem dX6_text_94 : decode cX6_text 94 = .ok (.invokevirtual 316, 3) := by decide +kernel
theorem dX6_text_97 : decode cX6_text 97 = .ok (.aload_n 0, 1) := by decide +kernel
theorem dX6_text_98 : decode cX6_text 98 = .ok (.iconst 0, 1) := by decide +kernel
theorem dX6_text_99 : decode cX6_text 99 = .ok (.putfield 219, 3) := by decide +kernel
theorem dX6_text_102 : decode cX6_text 102 = .ok (.aload_n 0, 1) := by decide +kernel
theorem dX6_text_103 : decode cX6_text 103 = .ok (.getfield 245, 3) := by decide +kernel
theorem dX6_text_106 : decode cX6_text 106 = .ok (.ifCond .eq 12, 3) := by decide +kernel
theorem dX6_text_109 : decode cX6_text 109 = .ok (.iconst (-1), 1) := by decide +kernel
theorem dX6_text_110 : decode cX6_text 110 = .ok (.aload_n 0, 1) := by decide +kernel
theorem dX6_text_111 : decode cX6_text 111 = .ok (.getfield 233, 3) := by decide +kernel
theorem dX6_text_114 : decode cX6_text 114 = .ok (.isub, 1) := by decide +kernel
theorem dX6_text_115 : decode cX6_text 115 = .ok (.goto 4, 3) := by decide +kernel
theorem dX6_text_118 : decode cX6_text 118 = .ok (.iload_n 1, 1) := by decide +kernel
theorem dX6_text_119 : decode cX6_text 119 = .ok (.ireturn, 1) := by decide +kernel
theorem dX6_isSpot_0 : decode cX6_isSpot 0 = .ok (.iload_n 0, 1) := by decide +kernel
theorem dX6_isSpot_1 : decode cX6_isSpot 1 = .ok (.i2l, 1) := by decide +kernel
theorem dX6_isSpot_2 : decode cX6_isSpot 2 = .ok (.lconst 0, 1) := by decide +kernel
theorem dX6_isSpot_3 : decode cX6_isSpot 3 = .ok (.ldc2_w 64, 3) := by decide +kernel
theorem dX6_isSpot_6 : decode cX6_isSpot 6 = .ok (.invokestatic 52, 3) := by decide +kernel
theorem dX6_isSpot_9 : decode cX6_isSpot 9 = .ok (.ireturn, 1) := by decide +kernel
theorem dX6_hold_0 : decode cX6_hold 0 = .ok (.iload_n 1, 1) := by decide +kernel
theorem dX6_hold_1 : decode cX6_hold 1 = .ok (.invokestatic 319, 3) := by decide +kernel
theorem dX6_hold_4 : decode cX6_hold 4 = .ok (.ifCond .eq 16, 3) := by decide +kernel
theorem dX6_hold_7 : decode cX6_hold 7 = .ok (.iload_n 2, 1) := by decide +kernel
theorem dX6_hold_8 : decode cX6_hold 8 = .ok (.iconst (-1), 1) := by decide +kernel
theorem dX6_hold_9 : decode cX6_hold 9 = .ok (.if_icmp .eq 18, 3) := by decide +kernel
theorem dX6_hold_12 : decode cX6_hold 12 = .ok (.aload_n 0, 1) := by decide +kernel
theorem dX6_hold_13 : decode cX6_hold 13 = .ok (.iload_n 2, 1) := by decide +kernel
theorem dX6_hold_14 : decode cX6_hold 14 = .ok (.invokevirtual 56, 3) := by decide +kernel
theorem dX6_hold_17 : decode cX6_hold 17 = .ok (.ifCond .ne 10, 3) := by decide +kernel
theorem dX6_hold_20 : decode cX6_hold 20 = .ok (.aload_n 0, 1) := by decide +kernel
theorem dX6_hold_21 : decode cX6_hold 21 = .ok (.ldc 49, 2) := by decide +kernel
theorem dX6_hold_23 : decode cX6_hold 23 = .ok (.invokevirtual 73, 3) := by decide +kernel
theorem dX6_hold_26 : decode cX6_hold 26 = .ok (.ireturn, 1) := by decide +kernel
theorem dX6_hold_27 : decode cX6_hold 27 = .ok (.aload_n 0, 1) := by decide +kernel
theorem dX6_hold_28 : decode cX6_hold 28 = .ok (.getfield 7, 3) := by decide +kernel
theorem dX6_hold_31 : decode cX6_hold 31 = .ok (.bipush 71, 2) := by decide +kernel
theorem dX6_hold_33 : decode cX6_hold 33 = .ok (.iload_n 1, 1) := by decide +kernel
theorem dX6_hold_34 : decode cX6_hold 34 = .ok (.iadd, 1) := by decide +kernel
theorem dX6_hold_35 : decode cX6_hold 35 = .ok (.iload_n 2, 1) := by decide +kernel
theorem dX6_hold_36 : decode cX6_hold 36 = .ok (.iastore, 1) := by decide +kernel
theorem dX6_hold_37 : decode cX6_hold 37 = .ok (.iconst 1, 1) := by decide +kernel
theorem dX6_hold_38 : decode cX6_hold 38 = .ok (.ireturn, 1) := by decide +kernel
theorem dX6_above_0 : decode cX6_above 0 = .ok (.iload_n 0, 1) := by decide +kernel
theorem dX6_above_1 : decode cX6_above 1 = .ok (.bipush 6, 2) := by decide +kernel
theorem dX6_above_3 : decode cX6_above 3 = .ok (.if_icmp .ne 7, 3) := by decide +kernel
theorem dX6_above_6 : decode cX6_above 6 = .ok (.iconst 1, 1) := by decide +kernel
theorem dX6_above_7 : decode cX6_above 7 = .ok (.goto 22, 3) := by decide +kernel
theorem dX6_above_10 : decode cX6_above 10 = .ok (.iload_n 0, 1) := by decide +kernel
theorem dX6_above_11 : decode cX6_above 11 = .ok (.iconst 3, 1) := by decide +kernel
theorem dX6_above_12 : decode cX6_above 12 = .ok (.if_icmp .ne 7, 3) := by decide +kernel
theorem dX6_above_15 : decode cX6_above 15 = .ok (.iconst 2, 1) := by decide +kernel
theorem dX6_above_16 : decode cX6_above 16 = .ok (.goto 13, 3) := by decide +kernel
theorem dX6_above_19 : decode cX6_above 19 = .ok (.iload_n 0, 1) := by decide +kernel
theorem dX6_above_20 : decode cX6_above 20 = .ok (.iconst 4, 1) := by decide +kernel
theorem dX6_above_21 : decode cX6_above 21 = .ok (.if_icmp .ne 7, 3) := by decide +kernel
theorem dX6_above_24 : decode cX6_above 24 = .ok (.iconst 3, 1) := by decide +kernel
theorem dX6_above_25 : decode cX6_above 25 = .ok (.goto 4, 3) := by decide +kernel
theorem dX6_above_28 : decode cX6_above 28 = .ok (.iconst 0, 1) := by decide +kernel
theorem dX6_above_29 : decode cX6_above 29 = .ok (.ireturn, 1) := by decide +kernel
theorem dX6_as_0 : decode cX6_as 0 = .ok (.iload_n 1, 1) := by decide +kernel
theorem dX6_as_1 : decode cX6_as 1 = .ok (.invokestatic 319, 3) := by decide +kernel
theorem dX6_as_4 : decode cX6_as 4 = .ok (.ifCond .eq 10, 3) := by decide +kernel
theorem dX6_as_7 : decode cX6_as 7 = .ok (.iload_n 2, 1) := by decide +kernel
theorem dX6_as_8 : decode cX6_as 8 = .ok (.invokestatic 70, 3) := by decide +kernel
theorem dX6_as_11 : decode cX6_as 11 = .ok (.ifCond .ne 10, 3) := by decide +kernel
theorem dX6_as_14 : decode cX6_as 14 = .ok (.aload_n 0, 1) := by decide +kernel
theorem dX6_as_15 : decode cX6_as 15 = .ok (.ldc 49, 2) := by decide +kernel
theorem dX6_as_17 : decode cX6_as 17 = .ok (.invokevirtual 73, 3) := by decide +kernel
theorem dX6_as_20 : decode cX6_as 20 = .ok (.ireturn, 1) := by decide +kernel
theorem dX6_as_21 : decode cX6_as 21 = .ok (.aload_n 0, 1) := by decide +kernel
theorem dX6_as_22 : decode cX6_as 22 = .ok (.getfield 7, 3) := by decide +kernel
theorem dX6_as_25 : decode cX6_as 25 = .ok (.bipush 71, 2) := by decide +kernel
theorem dX6_as_27 : decode cX6_as 27 = .ok (.iload_n 1, 1) := by decide +kernel
theorem dX6_as_28 : decode cX6_as 28 = .ok (.iadd, 1) := by decide +kernel
theorem dX6_as_29 : decode cX6_as 29 = .ok (.iaload, 1) := by decide +kernel
theorem dX6_as_30 : decode cX6_as 30 = .ok (.istore_n 3, 1) := by decide +kernel
theorem dX6_as_31 : decode cX6_as 31 = .ok (.iload_n 3, 1) := by decide +kernel
theorem dX6_as_32 : decode cX6_as 32 = .ok (.ifCond .ge 11, 3) := by decide +kernel
theorem dX6_as_35 : decode cX6_as 35 = .ok (.aload_n 0, 1) := by decide +kernel
theorem dX6_as_36 : decode cX6_as 36 = .ok (.ldc_w 322, 3) := by decide +kernel
theorem dX6_as_39 : decode cX6_as 39 = .ok (.invokevirtual 73, 3) := by decide +kernel
theorem dX6_as_42 : decode cX6_as 42 = .ok (.ireturn, 1) := by decide +kernel
theorem dX6_as_43 : decode cX6_as 43 = .ok (.aload_n 0, 1) := by decide +kernel
theorem dX6_as_44 : decode cX6_as 44 = .ok (.iload_n 3, 1) := by decide +kernel
theorem dX6_as_45 : decode cX6_as 45 = .ok (.iconst 0, 1) := by decide +kernel
theorem dX6_as_46 : decode cX6_as 46 = .ok (.invokevirtual 83, 3) := by decide +kernel
theorem dX6_as_49 : decode cX6_as 49 = .ok (.istore 4, 2) := by decide +kernel
theorem dX6_as_51 : decode cX6_as 51 = .ok (.iload 4, 2) := by decide +kernel
theorem dX6_as_53 : decode cX6_as 53 = .ok (.iload_n 2, 1) := by decide +kernel
theorem dX6_as_54 : decode cX6_as 54 = .ok (.if_icmp .eq 18, 3) := by decide +kernel
theorem dX6_as_57 : decode cX6_as 57 = .ok (.iload 4, 2) := by decide +kernel
theorem dX6_as_59 : decode cX6_as 59 = .ok (.ifCond .eq 13, 3) := by decide +kernel
theorem dX6_as_62 : decode cX6_as 62 = .ok (.iload 4, 2) := by decide +kernel
theorem dX6_as_64 : decode cX6_as 64 = .ok (.invokestatic 323, 3) := by decide +kernel
theorem dX6_as_67 : decode cX6_as 67 = .ok (.istore 4, 2) := by decide +kernel
theorem dX6_as_69 : decode cX6_as 69 = .ok (.goto (-18), 3) := by decide +kernel
theorem dX6_as_72 : decode cX6_as 72 = .ok (.iload 4, 2) := by decide +kernel
theorem dX6_as_74 : decode cX6_as 74 = .ok (.iload_n 2, 1) := by decide +kernel
theorem dX6_as_75 : decode cX6_as 75 = .ok (.if_icmp .ne 7, 3) := by decide +kernel
theorem dX6_as_78 : decode cX6_as 78 = .ok (.iload_n 3, 1) := by decide +kernel
theorem dX6_as_79 : decode cX6_as 79 = .ok (.goto 10, 3) := by decide +kernel
theorem dX6_as_82 : decode cX6_as 82 = .ok (.aload_n 0, 1) := by decide +kernel
theorem dX6_as_83 : decode cX6_as 83 = .ok (.ldc_w 326, 3) := by decide +kernel
theorem dX6_as_86 : decode cX6_as 86 = .ok (.invokevirtual 73, 3) := by decide +kernel
theorem dX6_as_89 : decode cX6_as 89 = .ok (.ireturn, 1) := by decide +kernel
theorem dX6_isOne_0 : decode cX6_isOne 0 = .ok (.iload_n 0, 1) := by decide +kernel
theorem dX6_isOne_1 : decode cX6_isOne 1 = .ok (.i2l, 1) := by decide +kernel
theorem dX6_isOne_2 : decode cX6_isOne 2 = .ok (.lconst 0, 1) := by decide +kernel
theorem dX6_isOne_3 : decode cX6_isOne 3 = .ok (.ldc2_w 327, 3) := by decide +kernel
theorem dX6_isOne_6 : decode cX6_isOne 6 = .ok (.invokestatic 52, 3) := by decide +kernel
theorem dX6_isOne_9 : decode cX6_isOne 9 = .ok (.ireturn, 1) := by decide +kernel
theorem dX6_sheet_0 : decode cX6_sheet 0 = .ok (.iload_n 1, 1) := by decide +kernel
theorem dX6_sheet_1 : decode cX6_sheet 1 = .ok (.invokestatic 329, 3) := by decide +kernel
theorem dX6_sheet_4 : decode cX6_sheet 4 = .ok (.ifCond .eq 25, 3) := by decide +kernel
theorem dX6_sheet_7 : decode cX6_sheet 7 = .ok (.iload_n 2, 1) := by decide +kernel
theorem dX6_sheet_8 : decode cX6_sheet 8 = .ok (.ifCond .eq 28, 3) := by decide +kernel
theorem dX6_sheet_11 : decode cX6_sheet 11 = .ok (.iload_n 2, 1) := by decide +kernel
theorem dX6_sheet_12 : decode cX6_sheet 12 = .ok (.bipush 8, 2) := by decide +kernel
theorem dX6_sheet_14 : decode cX6_sheet 14 = .ok (.if_icmp .eq 22, 3) := by decide +kernel
theorem dX6_sheet_17 : decode cX6_sheet 17 = .ok (.iload_n 2, 1) := by decide +kernel
theorem dX6_sheet_18 : decode cX6_sheet 18 = .ok (.bipush 16, 2) := by decide +kernel
theorem dX6_sheet_20 : decode cX6_sheet 20 = .ok (.if_icmp .eq 16, 3) := by decide +kernel
theorem dX6_sheet_23 : decode cX6_sheet 23 = .ok (.iload_n 2, 1) := by decide +kernel
theorem dX6_sheet_24 : decode cX6_sheet 24 = .ok (.bipush 32, 2) := by decide +kernel
theorem dX6_sheet_26 : decode cX6_sheet 26 = .ok (.if_icmp .eq 10, 3) := by decide +kernel
theorem dX6_sheet_29 : decode cX6_sheet 29 = .ok (.aload_n 0, 1) := by decide +kernel
theorem dX6_sheet_30 : decode cX6_sheet 30 = .ok (.ldc 49, 2) := by decide +kernel
theorem dX6_sheet_32 : decode cX6_sheet 32 = .ok (.invokevirtual 73, 3) := by decide +kernel
theorem dX6_sheet_35 : decode cX6_sheet 35 = .ok (.ireturn, 1) := by decide +kernel
theorem dX6_sheet_36 : decode cX6_sheet 36 = .ok (.iload_n 3, 1) := by decide +kernel
theorem dX6_sheet_37 : decode cX6_sheet 37 = .ok (.ifCond .ge 11, 3) := by decide +kernel
theorem dX6_sheet_40 : decode cX6_sheet 40 = .ok (.aload_n 0, 1) := by decide +kernel
theorem dX6_sheet_41 : decode cX6_sheet 41 = .ok (.ldc_w 332, 3) := by decide +kernel
theorem dX6_sheet_44 : decode cX6_sheet 44 = .ok (.invokevirtual 73, 3) := by decide +kernel
theorem dX6_sheet_47 : decode cX6_sheet 47 = .ok (.ireturn, 1) := by decide +kernel
theorem dX6_sheet_48 : decode cX6_sheet 48 = .ok (.iload_n 3, 1) := by decide +kernel
theorem dX6_sheet_49 : decode cX6_sheet 49 = .ok (.bipush 40, 2) := by decide +kernel
theorem dX6_sheet_51 : decode cX6_sheet 51 = .ok (.if_icmp .le 10, 3) := by decide +kernel
theorem dX6_sheet_54 : decode cX6_sheet 54 = .ok (.aload_n 0, 1) := by decide +kernel
theorem dX6_sheet_55 : decode cX6_sheet 55 = .ok (.ldc 49, 2) := by decide +kernel
theorem dX6_sheet_57 : decode cX6_sheet 57 = .ok (.invokevirtual 73, 3) := by decide +kernel
theorem dX6_sheet_60 : decode cX6_sheet 60 = .ok (.ireturn, 1) := by decide +kernel
theorem dX6_sheet_61 : decode cX6_sheet 61 = .ok (.aload_n 0, 1) := by decide +kernel
theorem dX6_sheet_62 : decode cX6_sheet 62 = .ok (.getfield 37, 3) := by decide +kernel
theorem dX6_sheet_65 : decode cX6_sheet 65 = .ok (.iload_n 1, 1) := by decide +kernel
theorem dX6_sheet_66 : decode cX6_sheet 66 = .ok (.iload_n 2, 1) := by decide +kernel
theorem dX6_sheet_67 : decode cX6_sheet 67 = .ok (.iastore, 1) := by decide +kernel
theorem dX6_sheet_68 : decode cX6_sheet 68 = .ok (.aload_n 0, 1) := by decide +kernel
theorem dX6_sheet_69 : decode cX6_sheet 69 = .ok (.getfield 40, 3) := by decide +kernel
theorem dX6_sheet_72 : decode cX6_sheet 72 = .ok (.iload_n 1, 1) := by decide +kernel
theorem dX6_sheet_73 : decode cX6_sheet 73 = .ok (.iload_n 2, 1) := by decide +kernel
theorem dX6_sheet_74 : decode cX6_sheet 74 = .ok (.ifCond .ne 7, 3) := by decide +kernel
theorem dX6_sheet_77 : decode cX6_sheet 77 = .ok (.iconst 0, 1) := by decide +kernel
theorem dX6_sheet_78 : decode cX6_sheet 78 = .ok (.goto 4, 3) := by decide +kernel
theorem dX6_sheet_81 : decode cX6_sheet 81 = .ok (.iload_n 3, 1) := by decide +kernel
theorem dX6_sheet_82 : decode cX6_sheet 82 = .ok (.iastore, 1) := by decide +kernel
theorem dX6_sheet_83 : decode cX6_sheet 83 = .ok (.iconst 0, 1) := by decide +kernel
theorem dX6_sheet_84 : decode cX6_sheet 84 = .ok (.istore 4, 2) := by decide +kernel
theorem dX6_sheet_86 : decode cX6_sheet 86 = .ok (.iload 4, 2) := by decide +kernel
theorem dX6_sheet_88 : decode cX6_sheet 88 = .ok (.bipush 40, 2) := by decide +kernel
theorem dX6_sheet_90 : decode cX6_sheet 90 = .ok (.if_icmp .ge 22, 3) := by decide +kernel
theorem dX6_sheet_93 : decode cX6_sheet 93 = .ok (.aload_n 0, 1) := by decide +kernel
theorem dX6_sheet_94 : decode cX6_sheet 94 = .ok (.getfield 43, 3) := by decide +kernel
theorem dX6_sheet_97 : decode cX6_sheet 97 = .ok (.bipush 40, 2) := by decide +kernel
theorem dX6_sheet_99 : decode cX6_sheet 99 = .ok (.iload_n 1, 1) := by decide +kernel
theorem dX6_sheet_100 : decode cX6_sheet 100 = .ok (.imul, 1) := by decide +kernel
theorem dX6_sheet_101 : decode cX6_sheet 101 = .ok (.iload 4, 2) := by decide +kernel
theorem dX6_sheet_103 : decode cX6_sheet 103 = .ok (.iadd, 1) := by decide +kernel
theorem dX6_sheet_104 : decode cX6_sheet 104 = .ok (.iconst 0, 1) := by decide +kernel
theorem dX6_sheet_105 : decode cX6_sheet 105 = .ok (.iastore, 1) := by decide +kernel
theorem dX6_sheet_106 : decode cX6_sheet 106 = .ok (.iinc 4 1, 3) := by decide +kernel
theorem dX6_sheet_109 : decode cX6_sheet 109 = .ok (.goto (-23), 3) := by decide +kernel
theorem dX6_sheet_112 : decode cX6_sheet 112 = .ok (.aload_n 0, 1) := by decide +kernel
theorem dX6_sheet_113 : decode cX6_sheet 113 = .ok (.getfield 40, 3) := by decide +kernel
theorem dX6_sheet_116 : decode cX6_sheet 116 = .ok (.iload_n 1, 1) := by decide +kernel
theorem dX6_sheet_117 : decode cX6_sheet 117 = .ok (.iaload, 1) := by decide +kernel
theorem dX6_sheet_118 : decode cX6_sheet 118 = .ok (.ireturn, 1) := by decide +kernel
theorem dX6_narrowed_0 : decode cX6_narrowed 0 = .ok (.iload_n 0, 1) := by decide +kernel
theorem dX6_narrowed_1 : decode cX6_narrowed 1 = .ok (.bipush 8, 2) := by decide +kernel
theorem dX6_narrowed_3 : decode cX6_narrowed 3 = .ok (.if_icmp .ne 8, 3) := by decide +kernel
theorem dX6_narrowed_6 : decode cX6_narrowed 6 = .ok (.iload_n 1, 1) := by decide +kernel
theorem dX6_narrowed_7 : decode cX6_narrowed 7 = .ok (.i2b, 1) := by decide +kernel
theorem dX6_narrowed_8 : decode cX6_narrowed 8 = .ok (.goto 15, 3) := by decide +kernel
theorem dX6_narrowed_11 : decode cX6_narrowed 11 = .ok (.iload_n 0, 1) := by decide +kernel
theorem dX6_narrowed_12 : decode cX6_narrowed 12 = .ok (.bipush 16, 2) := by decide +kernel
theorem dX6_narrowed_14 : decode cX6_narrowed 14 = .ok (.if_icmp .ne 8, 3) := by decide +kernel
theorem dX6_narrowed_17 : decode cX6_narrowed 17 = .ok (.iload_n 1, 1) := by decide +kernel
theorem dX6_narrowed_18 : decode cX6_narrowed 18 = .ok (.i2s, 1) := by decide +kernel
theorem dX6_narrowed_19 : decode cX6_narrowed 19 = .ok (.goto 4, 3) := by decide +kernel
theorem dX6_narrowed_22 : decode cX6_narrowed 22 = .ok (.iload_n 1, 1) := by decide +kernel
theorem dX6_narrowed_23 : decode cX6_narrowed 23 = .ok (.ireturn, 1) := by decide +kernel
theorem dX6_wrong_0 : decode cX6_wrong 0 = .ok (.iload_n 1, 1) := by decide +kernel
theorem dX6_wrong_1 : decode cX6_wrong 1 = .ok (.invokestatic 329, 3) := by decide +kernel
theorem dX6_wrong_4 : decode cX6_wrong 4 = .ok (.ifCond .ne 8, 3) := by decide +kernel
theorem dX6_wrong_7 : decode cX6_wrong 7 = .ok (.ldc 49, 2) := by decide +kernel
theorem dX6_wrong_9 : decode cX6_wrong 9 = .ok (.goto 19, 3) := by decide +kernel
theorem dX6_wrong_12 : decode cX6_wrong 12 = .ok (.aload_n 0, 1) := by decide +kernel
theorem dX6_wrong_13 : decode cX6_wrong 13 = .ok (.getfield 37, 3) := by decide +kernel
theorem dX6_wrong_16 : decode cX6_wrong 16 = .ok (.iload_n 1, 1) := by decide +kernel
theorem dX6_wrong_17 : decode cX6_wrong 17 = .ok (.iaload, 1) := by decide +kernel
theorem dX6_wrong_18 : decode cX6_wrong 18 = .ok (.ifCond .ne 9, 3) := by decide +kernel
theorem dX6_wrong_21 : decode cX6_wrong 21 = .ok (.ldc_w 322, 3) := by decide +kernel
theorem dX6_wrong_24 : decode cX6_wrong 24 = .ok (.goto 4, 3) := by decide +kernel
theorem dX6_wrong_27 : decode cX6_wrong 27 = .ok (.iconst 0, 1) := by decide +kernel
theorem dX6_wrong_28 : decode cX6_wrong 28 = .ok (.ireturn, 1) := by decide +kernel
theorem dX6_write_0 : decode cX6_write 0 = .ok (.aload_n 0, 1) := by decide +kernel
theorem dX6_write_1 : decode cX6_write 1 = .ok (.iload_n 1, 1) := by decide +kernel
theorem dX6_write_2 : decode cX6_write 2 = .ok (.invokevirtual 190, 3) := by decide +kernel
theorem dX6_write_5 : decode cX6_write 5 = .ok (.istore 4, 2) := by decide +kernel
theorem dX6_write_7 : decode cX6_write 7 = .ok (.iload 4, 2) := by decide +kernel
theorem dX6_write_9 : decode cX6_write 9 = .ok (.ifCond .eq 10, 3) := by decide +kernel
theorem dX6_write_12 : decode cX6_write 12 = .ok (.aload_n 0, 1) := by decide +kernel
theorem dX6_write_13 : decode cX6_write 13 = .ok (.iload 4, 2) := by decide +kernel
theorem dX6_write_15 : decode cX6_write 15 = .ok (.invokevirtual 73, 3) := by decide +kernel
theorem dX6_write_18 : decode cX6_write 18 = .ok (.ireturn, 1) := by decide +kernel
theorem dX6_write_19 : decode cX6_write 19 = .ok (.iload_n 2, 1) := by decide +kernel
theorem dX6_write_20 : decode cX6_write 20 = .ok (.i2l, 1) := by decide +kernel
theorem dX6_write_21 : decode cX6_write 21 = .ok (.lconst 0, 1) := by decide +kernel
theorem dX6_write_22 : decode cX6_write 22 = .ok (.aload_n 0, 1) := by decide +kernel
theorem dX6_write_23 : decode cX6_write 23 = .ok (.getfield 40, 3) := by decide +kernel
theorem dX6_write_26 : decode cX6_write 26 = .ok (.iload_n 1, 1) := by decide +kernel
theorem dX6_write_27 : decode cX6_write 27 = .ok (.iaload, 1) := by decide +kernel
theorem dX6_write_28 : decode cX6_write 28 = .ok (.iconst 1, 1) := by decide +kernel
theorem dX6_write_29 : decode cX6_write 29 = .ok (.isub, 1) := by decide +kernel
theorem dX6_write_30 : decode cX6_write 30 = .ok (.i2l, 1) := by decide +kernel
theorem dX6_write_31 : decode cX6_write 31 = .ok (.invokestatic 52, 3) := by decide +kernel
theorem dX6_write_34 : decode cX6_write 34 = .ok (.ifCond .ne 10, 3) := by decide +kernel
theorem dX6_write_37 : decode cX6_write 37 = .ok (.aload_n 0, 1) := by decide +kernel
theorem dX6_write_38 : decode cX6_write 38 = .ok (.ldc 49, 2) := by decide +kernel
theorem dX6_write_40 : decode cX6_write 40 = .ok (.invokevirtual 73, 3) := by decide +kernel
theorem dX6_write_43 : decode cX6_write 43 = .ok (.ireturn, 1) := by decide +kernel
theorem dX6_write_44 : decode cX6_write 44 = .ok (.aload_n 0, 1) := by decide +kernel
theorem dX6_write_45 : decode cX6_write 45 = .ok (.getfield 43, 3) := by decide +kernel
theorem dX6_write_48 : decode cX6_write 48 = .ok (.bipush 40, 2) := by decide +kernel
theorem dX6_write_50 : decode cX6_write 50 = .ok (.iload_n 1, 1) := by decide +kernel
theorem dX6_write_51 : decode cX6_write 51 = .ok (.imul, 1) := by decide +kernel
theorem dX6_write_52 : decode cX6_write 52 = .ok (.iload_n 2, 1) := by decide +kernel
theorem dX6_write_53 : decode cX6_write 53 = .ok (.iadd, 1) := by decide +kernel
theorem dX6_write_54 : decode cX6_write 54 = .ok (.aload_n 0, 1) := by decide +kernel
theorem dX6_write_55 : decode cX6_write 55 = .ok (.getfield 37, 3) := by decide +kernel
theorem dX6_write_58 : decode cX6_write 58 = .ok (.iload_n 1, 1) := by decide +kernel
theorem dX6_write_59 : decode cX6_write 59 = .ok (.iaload, 1) := by decide +kernel
theorem dX6_write_60 : decode cX6_write 60 = .ok (.iload_n 3, 1) := by decide +kernel
theorem dX6_write_61 : decode cX6_write 61 = .ok (.invokestatic 333, 3) := by decide +kernel
theorem dX6_write_64 : decode cX6_write 64 = .ok (.iastore, 1) := by decide +kernel
theorem dX6_write_65 : decode cX6_write 65 = .ok (.iconst 1, 1) := by decide +kernel
theorem dX6_write_66 : decode cX6_write 66 = .ok (.ireturn, 1) := by decide +kernel
theorem dX6_copy_0 : decode cX6_copy 0 = .ok (.iload_n 1, 1) := by decide +kernel
theorem dX6_copy_1 : decode cX6_copy 1 = .ok (.invokestatic 329, 3) := by decide +kernel
theorem dX6_copy_4 : decode cX6_copy 4 = .ok (.ifCond .eq 10, 3) := by decide +kernel
theorem dX6_copy_7 : decode cX6_copy 7 = .ok (.iload_n 3, 1) := by decide +kernel
theorem dX6_copy_8 : decode cX6_copy 8 = .ok (.invokestatic 329, 3) := by decide +kernel
theorem dX6_copy_11 : decode cX6_copy 11 = .ok (.ifCond .ne 10, 3) := by decide +kernel
theorem dX6_copy_14 : decode cX6_copy 14 = .ok (.aload_n 0, 1) := by decide +kernel
theorem dX6_copy_15 : decode cX6_copy 15 = .ok (.ldc 49, 2) := by decide +kernel
theorem dX6_copy_17 : decode cX6_copy 17 = .ok (.invokevirtual 73, 3) := by decide +kernel
theorem dX6_copy_20 : decode cX6_copy 20 = .ok (.ireturn, 1) := by decide +kernel
theorem dX6_copy_21 : decode cX6_copy 21 = .ok (.aload_n 0, 1) := by decide +kernel
theorem dX6_copy_22 : decode cX6_copy 22 = .ok (.getfield 37, 3) := by decide +kernel
theorem dX6_copy_25 : decode cX6_copy 25 = .ok (.iload_n 1, 1) := by decide +kernel
theorem dX6_copy_26 : decode cX6_copy 26 = .ok (.iaload, 1) := by decide +kernel
theorem dX6_copy_27 : decode cX6_copy 27 = .ok (.ifCond .eq 12, 3) := by decide +kernel
theorem dX6_copy_30 : decode cX6_copy 30 = .ok (.aload_n 0, 1) := by decide +kernel
theorem dX6_copy_31 : decode cX6_copy 31 = .ok (.getfield 37, 3) := by decide +kernel
theorem dX6_copy_34 : decode cX6_copy 34 = .ok (.iload_n 3, 1) := by decide +kernel
theorem dX6_copy_35 : decode cX6_copy 35 = .ok (.iaload, 1) := by decide +kernel
theorem dX6_copy_36 : decode cX6_copy 36 = .ok (.ifCond .ne 11, 3) := by decide +kernel
theorem dX6_copy_39 : decode cX6_copy 39 = .ok (.aload_n 0, 1) := by decide +kernel
theorem dX6_copy_40 : decode cX6_copy 40 = .ok (.ldc_w 322, 3) := by decide +kernel
theorem dX6_copy_43 : decode cX6_copy 43 = .ok (.invokevirtual 73, 3) := by decide +kernel
theorem dX6_copy_46 : decode cX6_copy 46 = .ok (.ireturn, 1) := by decide +kernel
theorem dX6_copy_47 : decode cX6_copy 47 = .ok (.aload_n 0, 1) := by decide +kernel
theorem dX6_copy_48 : decode cX6_copy 48 = .ok (.getfield 37, 3) := by decide +kernel
theorem dX6_copy_51 : decode cX6_copy 51 = .ok (.iload_n 1, 1) := by decide +kernel
theorem dX6_copy_52 : decode cX6_copy 52 = .ok (.iaload, 1) := by decide +kernel
theorem dX6_copy_53 : decode cX6_copy 53 = .ok (.aload_n 0, 1) := by decide +kernel
theorem dX6_copy_54 : decode cX6_copy 54 = .ok (.getfield 37, 3) := by decide +kernel
theorem dX6_copy_57 : decode cX6_copy 57 = .ok (.iload_n 3, 1) := by decide +kernel
theorem dX6_copy_58 : decode cX6_copy 58 = .ok (.iaload, 1) := by decide +kernel
theorem dX6_copy_59 : decode cX6_copy 59 = .ok (.if_icmp .eq 11, 3) := by decide +kernel
theorem dX6_copy_62 : decode cX6_copy 62 = .ok (.aload_n 0, 1) := by decide +kernel
theorem dX6_copy_63 : decode cX6_copy 63 = .ok (.ldc_w 326, 3) := by decide +kernel
theorem dX6_copy_66 : decode cX6_copy 66 = .ok (.invokevirtual 73, 3) := by decide +kernel
theorem dX6_copy_69 : decode cX6_copy 69 = .ok (.ireturn, 1) := by decide +kernel
theorem dX6_copy_70 : decode cX6_copy 70 = .ok (.iload_n 2, 1) := by decide +kernel
theorem dX6_copy_71 : decode cX6_copy 71 = .ok (.ifCond .lt 40, 3) := by decide +kernel
theorem dX6_copy_74 : decode cX6_copy 74 = .ok (.iload 4, 2) := by decide +kernel
theorem dX6_copy_76 : decode cX6_copy 76 = .ok (.ifCond .lt 35, 3) := by decide +kernel
theorem dX6_copy_79 : decode cX6_copy 79 = .ok (.iload 5, 2) := by decide +kernel
theorem dX6_copy_81 : decode cX6_copy 81 = .ok (.ifCond .lt 30, 3) := by decide +kernel
theorem dX6_copy_84 : decode cX6_copy 84 = .ok (.iload 5, 2) := by decide +kernel
theorem dX6_copy_86 : decode cX6_copy 86 = .ok (.aload_n 0, 1) := by decide +kernel
theorem dX6_copy_87 : decode cX6_copy 87 = .ok (.getfield 40, 3) := by decide +kernel
theorem dX6_copy_90 : decode cX6_copy 90 = .ok (.iload_n 1, 1) := by decide +kernel
theorem dX6_copy_91 : decode cX6_copy 91 = .ok (.iaload, 1) := by decide +kernel
theorem dX6_copy_92 : decode cX6_copy 92 = .ok (.iload_n 2, 1) := by decide +kernel
theorem dX6_copy_93 : decode cX6_copy 93 = .ok (.isub, 1) := by decide +kernel
theorem dX6_copy_94 : decode cX6_copy 94 = .ok (.if_icmp .gt 17, 3) := by decide +kernel
theorem dX6_copy_97 : decode cX6_copy 97 = .ok (.iload 5, 2) := by decide +kernel
theorem dX6_copy_99 : decode cX6_copy 99 = .ok (.aload_n 0, 1) := by decide +kernel
theorem dX6_copy_100 : decode cX6_copy 100 = .ok (.getfield 40, 3) := by decide +kernel
theorem dX6_copy_103 : decode cX6_copy 103 = .ok (.iload_n 3, 1) := by decide +kernel
theorem dX6_copy_104 : decode cX6_copy 104 = .ok (.iaload, 1) := by decide +kernel
theorem dX6_copy_105 : decode cX6_copy 105 = .ok (.iload 4, 2) := by decide +kernel
theorem dX6_copy_107 : decode cX6_copy 107 = .ok (.isub, 1) := by decide +kernel
theorem dX6_copy_108 : decode cX6_copy 108 = .ok (.if_icmp .le 10, 3) := by decide +kernel
theorem dX6_copy_111 : decode cX6_copy 111 = .ok (.aload_n 0, 1) := by decide +kernel
theorem dX6_copy_112 : decode cX6_copy 112 = .ok (.ldc 49, 2) := by decide +kernel
theorem dX6_copy_114 : decode cX6_copy 114 = .ok (.invokevirtual 73, 3) := by decide +kernel
theorem dX6_copy_117 : decode cX6_copy 117 = .ok (.ireturn, 1) := by decide +kernel
theorem dX6_copy_118 : decode cX6_copy 118 = .ok (.iconst 0, 1) := by decide +kernel
theorem dX6_copy_119 : decode cX6_copy 119 = .ok (.istore 6, 2) := by decide +kernel
theorem dX6_copy_121 : decode cX6_copy 121 = .ok (.iload 6, 2) := by decide +kernel
theorem dX6_copy_123 : decode cX6_copy 123 = .ok (.iload 5, 2) := by decide +kernel
theorem dX6_copy_125 : decode cX6_copy 125 = .ok (.if_icmp .ge 30, 3) := by decide +kernel
theorem dX6_copy_128 : decode cX6_copy 128 = .ok (.aload_n 0, 1) := by decide +kernel
theorem dX6_copy_129 : decode cX6_copy 129 = .ok (.getfield 46, 3) := by decide +kernel
theorem dX6_copy_132 : decode cX6_copy 132 = .ok (.iload 6, 2) := by decide +kernel
theorem dX6_copy_134 : decode cX6_copy 134 = .ok (.aload_n 0, 1) := by decide +kernel
theorem dX6_copy_135 : decode cX6_copy 135 = .ok (.getfield 43, 3) := by decide +kernel
theorem dX6_copy_138 : decode cX6_copy 138 = .ok (.bipush 40, 2) := by decide +kernel
theorem dX6_copy_140 : decode cX6_copy 140 = .ok (.iload_n 1, 1) := by decide +kernel
theorem dX6_copy_141 : decode cX6_copy 141 = .ok (.imul, 1) := by decide +kernel
theorem dX6_copy_142 : decode cX6_copy 142 = .ok (.iload_n 2, 1) := by decide +kernel
theorem dX6_copy_143 : decode cX6_copy 143 = .ok (.iadd, 1) := by decide +kernel
theorem dX6_copy_144 : decode cX6_copy 144 = .ok (.iload 6, 2) := by decide +kernel
theorem dX6_copy_146 : decode cX6_copy 146 = .ok (.iadd, 1) := by decide +kernel
theorem dX6_copy_147 : decode cX6_copy 147 = .ok (.iaload, 1) := by decide +kernel
theorem dX6_copy_148 : decode cX6_copy 148 = .ok (.iastore, 1) := by decide +kernel
theorem dX6_copy_149 : decode cX6_copy 149 = .ok (.iinc 6 1, 3) := by decide +kernel
theorem dX6_copy_152 : decode cX6_copy 152 = .ok (.goto (-31), 3) := by decide +kernel
theorem dX6_copy_155 : decode cX6_copy 155 = .ok (.iconst 0, 1) := by decide +kernel
theorem dX6_copy_156 : decode cX6_copy 156 = .ok (.istore 6, 2) := by decide +kernel
theorem dX6_copy_158 : decode cX6_copy 158 = .ok (.iload 6, 2) := by decide +kernel
theorem dX6_copy_160 : decode cX6_copy 160 = .ok (.iload 5, 2) := by decide +kernel
theorem dX6_copy_162 : decode cX6_copy 162 = .ok (.if_icmp .ge 31, 3) := by decide +kernel
theorem dX6_copy_165 : decode cX6_copy 165 = .ok (.aload_n 0, 1) := by decide +kernel
theorem dX6_copy_166 : decode cX6_copy 166 = .ok (.getfield 43, 3) := by decide +kernel
theorem dX6_copy_169 : decode cX6_copy 169 = .ok (.bipush 40, 2) := by decide +kernel
theorem dX6_copy_171 : decode cX6_copy 171 = .ok (.iload_n 3, 1) := by decide +kernel
theorem dX6_copy_172 : decode cX6_copy 172 = .ok (.imul, 1) := by decide +kernel
theorem dX6_copy_173 : decode cX6_copy 173 = .ok (.iload 4, 2) := by decide +kernel
theorem dX6_copy_175 : decode cX6_copy 175 = .ok (.iadd, 1) := by decide +kernel
theorem dX6_copy_176 : decode cX6_copy 176 = .ok (.iload 6, 2) := by decide +kernel
theorem dX6_copy_178 : decode cX6_copy 178 = .ok (.iadd, 1) := by decide +kernel
theorem dX6_copy_179 : decode cX6_copy 179 = .ok (.aload_n 0, 1) := by decide +kernel
theorem dX6_copy_180 : decode cX6_copy 180 = .ok (.getfield 46, 3) := by decide +kernel
theorem dX6_copy_183 : decode cX6_copy 183 = .ok (.iload 6, 2) := by decide +kernel
theorem dX6_copy_185 : decode cX6_copy 185 = .ok (.iaload, 1) := by decide +kernel
theorem dX6_copy_186 : decode cX6_copy 186 = .ok (.iastore, 1) := by decide +kernel
theorem dX6_copy_187 : decode cX6_copy 187 = .ok (.iinc 6 1, 3) := by decide +kernel
theorem dX6_copy_190 : decode cX6_copy 190 = .ok (.goto (-32), 3) := by decide +kernel
theorem dX6_copy_193 : decode cX6_copy 193 = .ok (.iload 5, 2) := by decide +kernel
theorem dX6_copy_195 : decode cX6_copy 195 = .ok (.ireturn, 1) := by decide +kernel
theorem dX6_load_0 : decode cX6_load 0 = .ok (.aload_n 0, 1) := by decide +kernel
theorem dX6_load_1 : decode cX6_load 1 = .ok (.iload_n 1, 1) := by decide +kernel
theorem dX6_load_2 : decode cX6_load 2 = .ok (.invokevirtual 190, 3) := by decide +kernel
theorem dX6_load_5 : decode cX6_load 5 = .ok (.istore_n 2, 1) := by decide +kernel
theorem dX6_load_6 : decode cX6_load 6 = .ok (.iload_n 2, 1) := by decide +kernel
theorem dX6_load_7 : decode cX6_load 7 = .ok (.ifCond .eq 9, 3) := by decide +kernel
theorem dX6_load_10 : decode cX6_load 10 = .ok (.aload_n 0, 1) := by decide +kernel
theorem dX6_load_11 : decode cX6_load 11 = .ok (.iload_n 2, 1) := by decide +kernel
theorem dX6_load_12 : decode cX6_load 12 = .ok (.invokevirtual 73, 3) := by decide +kernel
theorem dX6_load_15 : decode cX6_load 15 = .ok (.ireturn, 1) := by decide +kernel
theorem dX6_load_16 : decode cX6_load 16 = .ok (.iconst 0, 1) := by decide +kernel
theorem dX6_load_17 : decode cX6_load 17 = .ok (.istore_n 3, 1) := by decide +kernel
theorem dX6_load_18 : decode cX6_load 18 = .ok (.iload_n 3, 1) := by decide +kernel
theorem dX6_load_19 : decode cX6_load 19 = .ok (.aload_n 0, 1) := by decide +kernel
theorem dX6_load_20 : decode cX6_load 20 = .ok (.getfield 40, 3) := by decide +kernel
theorem dX6_load_23 : decode cX6_load 23 = .ok (.iload_n 1, 1) := by decide +kernel
theorem dX6_load_24 : decode cX6_load 24 = .ok (.iaload, 1) := by decide +kernel
theorem dX6_load_25 : decode cX6_load 25 = .ok (.if_icmp .ge 64, 3) := by decide +kernel
theorem dX6_load_28 : decode cX6_load 28 = .ok (.iload_n 3, 1) := by decide +kernel
theorem dX6_load_29 : decode cX6_load 29 = .ok (.aload_n 0, 1) := by decide +kernel
theorem dX6_load_30 : decode cX6_load 30 = .ok (.getfield 7, 3) := by decide +kernel
theorem dX6_load_33 : decode cX6_load 33 = .ok (.iconst 1, 1) := by decide +kernel
theorem dX6_load_34 : decode cX6_load 34 = .ok (.iaload, 1) := by decide +kernel
theorem dX6_load_35 : decode cX6_load 35 = .ok (.if_icmp .ge 54, 3) := by decide +kernel
theorem dX6_load_38 : decode cX6_load 38 = .ok (.aload_n 0, 1) := by decide +kernel
theorem dX6_load_39 : decode cX6_load 39 = .ok (.getfield 43, 3) := by decide +kernel
theorem dX6_load_42 : decode cX6_load 42 = .ok (.bipush 40, 2) := by decide +kernel
theorem dX6_load_44 : decode cX6_load 44 = .ok (.iload_n 1, 1) := by decide +kernel
theorem dX6_load_45 : decode cX6_load 45 = .ok (.imul, 1) := by decide +kernel
theorem dX6_load_46 : decode cX6_load 46 = .ok (.iload_n 3, 1) := by decide +kernel
theorem dX6_load_47 : decode cX6_load 47 = .ok (.iadd, 1) := by decide +kernel
theorem dX6_load_48 : decode cX6_load 48 = .ok (.iaload, 1) := by decide +kernel
theorem dX6_load_49 : decode cX6_load 49 = .ok (.invokestatic 90, 3) := by decide +kernel
theorem dX6_load_52 : decode cX6_load 52 = .ok (.ifCond .eq 37, 3) := by decide +kernel
theorem dX6_load_55 : decode cX6_load 55 = .ok (.aload_n 0, 1) := by decide +kernel
theorem dX6_load_56 : decode cX6_load 56 = .ok (.getfield 7, 3) := by decide +kernel
theorem dX6_load_59 : decode cX6_load 59 = .ok (.iload_n 3, 1) := by decide +kernel
theorem dX6_load_60 : decode cX6_load 60 = .ok (.iconst 2, 1) := by decide +kernel
theorem dX6_load_61 : decode cX6_load 61 = .ok (.aload_n 0, 1) := by decide +kernel
theorem dX6_load_62 : decode cX6_load 62 = .ok (.getfield 7, 3) := by decide +kernel
theorem dX6_load_65 : decode cX6_load 65 = .ok (.iconst 3, 1) := by decide +kernel
theorem dX6_load_66 : decode cX6_load 66 = .ok (.iaload, 1) := by decide +kernel
theorem dX6_load_67 : decode cX6_load 67 = .ok (.iadd, 1) := by decide +kernel
theorem dX6_load_68 : decode cX6_load 68 = .ok (.invokestatic 66, 3) := by decide +kernel
theorem dX6_load_71 : decode cX6_load 71 = .ok (.aload_n 0, 1) := by decide +kernel
theorem dX6_load_72 : decode cX6_load 72 = .ok (.getfield 43, 3) := by decide +kernel
theorem dX6_load_75 : decode cX6_load 75 = .ok (.bipush 40, 2) := by decide +kernel
theorem dX6_load_77 : decode cX6_load 77 = .ok (.iload_n 1, 1) := by decide +kernel
theorem dX6_load_78 : decode cX6_load 78 = .ok (.imul, 1) := by decide +kernel
theorem dX6_load_79 : decode cX6_load 79 = .ok (.iload_n 3, 1) := by decide +kernel
theorem dX6_load_80 : decode cX6_load 80 = .ok (.iadd, 1) := by decide +kernel
theorem dX6_load_81 : decode cX6_load 81 = .ok (.iaload, 1) := by decide +kernel
theorem dX6_load_82 : decode cX6_load 82 = .ok (.iastore, 1) := by decide +kernel
theorem dX6_load_83 : decode cX6_load 83 = .ok (.iinc 3 1, 3) := by decide +kernel
theorem dX6_load_86 : decode cX6_load 86 = .ok (.goto (-68), 3) := by decide +kernel
theorem dX6_load_89 : decode cX6_load 89 = .ok (.iload_n 3, 1) := by decide +kernel
theorem dX6_load_90 : decode cX6_load 90 = .ok (.ireturn, 1) := by decide +kernel
theorem dX6_judge_0 : decode cX6_judge 0 = .ok (.aload_n 0, 1) := by decide +kernel
theorem dX6_judge_1 : decode cX6_judge 1 = .ok (.iload_n 1, 1) := by decide +kernel
theorem dX6_judge_2 : decode cX6_judge 2 = .ok (.invokevirtual 190, 3) := by decide +kernel
theorem dX6_judge_5 : decode cX6_judge 5 = .ok (.istore_n 2, 1) := by decide +kernel
theorem dX6_judge_6 : decode cX6_judge 6 = .ok (.iload_n 2, 1) := by decide +kernel
theorem dX6_judge_7 : decode cX6_judge 7 = .ok (.ifCond .eq 9, 3) := by decide +kernel
theorem dX6_judge_10 : decode cX6_judge 10 = .ok (.aload_n 0, 1) := by decide +kernel
theorem dX6_judge_11 : decode cX6_judge 11 = .ok (.iload_n 2, 1) := by decide +kernel
theorem dX6_judge_12 : decode cX6_judge 12 = .ok (.invokevirtual 73, 3) := by decide +kernel
theorem dX6_judge_15 : decode cX6_judge 15 = .ok (.ireturn, 1) := by decide +kernel
theorem dX6_judge_16 : decode cX6_judge 16 = .ok (.iconst 0, 1) := by decide +kernel
theorem dX6_judge_17 : decode cX6_judge 17 = .ok (.istore_n 3, 1) := by decide +kernel
theorem dX6_judge_18 : decode cX6_judge 18 = .ok (.iload_n 3, 1) := by decide +kernel
theorem dX6_judge_19 : decode cX6_judge 19 = .ok (.aload_n 0, 1) := by decide +kernel
theorem dX6_judge_20 : decode cX6_judge 20 = .ok (.getfield 40, 3) := by decide +kernel
theorem dX6_judge_23 : decode cX6_judge 23 = .ok (.iload_n 1, 1) := by decide +kernel
theorem dX6_judge_24 : decode cX6_judge 24 = .ok (.iaload, 1) := by decide +kernel
theorem dX6_judge_25 : decode cX6_judge 25 = .ok (.if_icmp .ge 50, 3) := by decide +kernel
theorem dX6_judge_28 : decode cX6_judge 28 = .ok (.iload_n 3, 1) := by decide +kernel
theorem dX6_judge_29 : decode cX6_judge 29 = .ok (.aload_n 0, 1) := by decide +kernel
theorem dX6_judge_30 : decode cX6_judge 30 = .ok (.getfield 7, 3) := by decide +kernel
theorem dX6_judge_33 : decode cX6_judge 33 = .ok (.iconst 1, 1) := by decide +kernel
theorem dX6_judge_34 : decode cX6_judge 34 = .ok (.iaload, 1) := by decide +kernel
theorem dX6_judge_35 : decode cX6_judge 35 = .ok (.if_icmp .ge 30, 3) := by decide +kernel
theorem dX6_judge_38 : decode cX6_judge 38 = .ok (.aload_n 0, 1) := by decide +kernel
theorem dX6_judge_39 : decode cX6_judge 39 = .ok (.getfield 43, 3) := by decide +kernel
theorem dX6_judge_42 : decode cX6_judge 42 = .ok (.bipush 40, 2) := by decide +kernel
theorem dX6_judge_44 : decode cX6_judge 44 = .ok (.iload_n 1, 1) := by decide +kernel
theorem dX6_judge_45 : decode cX6_judge 45 = .ok (.imul, 1) := by decide +kernel
theorem dX6_judge_46 : decode cX6_judge 46 = .ok (.iload_n 3, 1) := by decide +kernel
theorem dX6_judge_47 : decode cX6_judge 47 = .ok (.iadd, 1) := by decide +kernel
theorem dX6_judge_48 : decode cX6_judge 48 = .ok (.iaload, 1) := by decide +kernel
theorem dX6_judge_49 : decode cX6_judge 49 = .ok (.aload_n 0, 1) := by decide +kernel
theorem dX6_judge_50 : decode cX6_judge 50 = .ok (.iload_n 3, 1) := by decide +kernel
theorem dX6_judge_51 : decode cX6_judge 51 = .ok (.iconst 2, 1) := by decide +kernel
theorem dX6_judge_52 : decode cX6_judge 52 = .ok (.aload_n 0, 1) := by decide +kernel
theorem dX6_judge_53 : decode cX6_judge 53 = .ok (.getfield 7, 3) := by decide +kernel
theorem dX6_judge_56 : decode cX6_judge 56 = .ok (.iconst 3, 1) := by decide +kernel
theorem dX6_judge_57 : decode cX6_judge 57 = .ok (.iaload, 1) := by decide +kernel
theorem dX6_judge_58 : decode cX6_judge 58 = .ok (.iadd, 1) := by decide +kernel
theorem dX6_judge_59 : decode cX6_judge 59 = .ok (.invokevirtual 83, 3) := by decide +kernel
theorem dX6_judge_62 : decode cX6_judge 62 = .ok (.if_icmp .eq 7, 3) := by decide +kernel
theorem dX6_judge_65 : decode cX6_judge 65 = .ok (.iconst 1, 1) := by decide +kernel
theorem dX6_judge_66 : decode cX6_judge 66 = .ok (.iload_n 3, 1) := by decide +kernel
theorem dX6_judge_67 : decode cX6_judge 67 = .ok (.iadd, 1) := by decide +kernel
theorem dX6_judge_68 : decode cX6_judge 68 = .ok (.ireturn, 1) := by decide +kernel
theorem dX6_judge_69 : decode cX6_judge 69 = .ok (.iinc 3 1, 3) := by decide +kernel
theorem dX6_judge_72 : decode cX6_judge 72 = .ok (.goto (-54), 3) := by decide +kernel
theorem dX6_judge_75 : decode cX6_judge 75 = .ok (.iconst 0, 1) := by decide +kernel
theorem dX6_judge_76 : decode cX6_judge 76 = .ok (.ireturn, 1) := by decide +kernel
theorem dX6_image_0 : decode cX6_image 0 = .ok (.iconst 0, 1) := by decide +kernel
theorem dX6_image_1 : decode cX6_image 1 = .ok (.istore_n 1, 1) := by decide +kernel
theorem dX6_image_2 : decode cX6_image 2 = .ok (.iload_n 1, 1) := by decide +kernel
theorem dX6_image_3 : decode cX6_image 3 = .ok (.bipush 81, 2) := by decide +kernel
theorem dX6_image_5 : decode cX6_image 5 = .ok (.if_icmp .ge 21, 3) := by decide +kernel
theorem dX6_image_8 : decode cX6_image 8 = .ok (.aload_n 0, 1) := by decide +kernel
theorem dX6_image_9 : decode cX6_image 9 = .ok (.getfield 13, 3) := by decide +kernel
theorem dX6_image_12 : decode cX6_image 12 = .ok (.iload_n 1, 1) := by decide +kernel
theorem dX6_image_13 : decode cX6_image 13 = .ok (.aload_n 0, 1) := by decide +kernel
theorem dX6_image_14 : decode cX6_image 14 = .ok (.getfield 7, 3) := by decide +kernel
theorem dX6_image_17 : decode cX6_image 17 = .ok (.iload_n 1, 1) := by decide +kernel
theorem dX6_image_18 : decode cX6_image 18 = .ok (.iaload, 1) := by decide +kernel
theorem dX6_image_19 : decode cX6_image 19 = .ok (.iastore, 1) := by decide +kernel
theorem dX6_image_20 : decode cX6_image 20 = .ok (.iinc 1 1, 3) := by decide +kernel
theorem dX6_image_23 : decode cX6_image 23 = .ok (.goto (-21), 3) := by decide +kernel
theorem dX6_image_26 : decode cX6_image 26 = .ok (.aload_n 0, 1) := by decide +kernel
theorem dX6_image_27 : decode cX6_image 27 = .ok (.iconst 1, 1) := by decide +kernel
theorem dX6_image_28 : decode cX6_image 28 = .ok (.putfield 336, 3) := by decide +kernel
theorem dX6_image_31 : decode cX6_image 31 = .ok (.iconst 1, 1) := by decide +kernel
theorem dX6_image_32 : decode cX6_image 32 = .ok (.ireturn, 1) := by decide +kernel
theorem dX6_undo_0 : decode cX6_undo 0 = .ok (.aload_n 0, 1) := by decide +kernel
theorem dX6_undo_1 : decode cX6_undo 1 = .ok (.getfield 336, 3) := by decide +kernel
theorem dX6_undo_4 : decode cX6_undo 4 = .ok (.ifCond .ne 10, 3) := by decide +kernel
theorem dX6_undo_7 : decode cX6_undo 7 = .ok (.aload_n 0, 1) := by decide +kernel
theorem dX6_undo_8 : decode cX6_undo 8 = .ok (.ldc 162, 2) := by decide +kernel
theorem dX6_undo_10 : decode cX6_undo 10 = .ok (.invokevirtual 73, 3) := by decide +kernel
theorem dX6_undo_13 : decode cX6_undo 13 = .ok (.ireturn, 1) := by decide +kernel
theorem dX6_undo_14 : decode cX6_undo 14 = .ok (.iconst 0, 1) := by decide +kernel
theorem dX6_undo_15 : decode cX6_undo 15 = .ok (.istore_n 1, 1) := by decide +kernel
theorem dX6_undo_16 : decode cX6_undo 16 = .ok (.iload_n 1, 1) := by decide +kernel
theorem dX6_undo_17 : decode cX6_undo 17 = .ok (.bipush 81, 2) := by decide +kernel
theorem dX6_undo_19 : decode cX6_undo 19 = .ok (.if_icmp .ge 21, 3) := by decide +kernel
theorem dX6_undo_22 : decode cX6_undo 22 = .ok (.aload_n 0, 1) := by decide +kernel
theorem dX6_undo_23 : decode cX6_undo 23 = .ok (.getfield 7, 3) := by decide +kernel
theorem dX6_undo_26 : decode cX6_undo 26 = .ok (.iload_n 1, 1) := by decide +kernel
theorem dX6_undo_27 : decode cX6_undo 27 = .ok (.aload_n 0, 1) := by decide +kernel
theorem dX6_undo_28 : decode cX6_undo 28 = .ok (.getfield 13, 3) := by decide +kernel
theorem dX6_undo_31 : decode cX6_undo 31 = .ok (.iload_n 1, 1) := by decide +kernel
theorem dX6_undo_32 : decode cX6_undo 32 = .ok (.iaload, 1) := by decide +kernel
theorem dX6_undo_33 : decode cX6_undo 33 = .ok (.iastore, 1) := by decide +kernel
theorem dX6_undo_34 : decode cX6_undo 34 = .ok (.iinc 1 1, 3) := by decide +kernel
theorem dX6_undo_37 : decode cX6_undo 37 = .ok (.goto (-21), 3) := by decide +kernel
theorem dX6_undo_40 : decode cX6_undo 40 = .ok (.aload_n 0, 1) := by decide +kernel
theorem dX6_undo_41 : decode cX6_undo 41 = .ok (.getfield 7, 3) := by decide +kernel
theorem dX6_undo_44 : decode cX6_undo 44 = .ok (.iconst 0, 1) := by decide +kernel
theorem dX6_undo_45 : decode cX6_undo 45 = .ok (.iaload, 1) := by decide +kernel
theorem dX6_undo_46 : decode cX6_undo 46 = .ok (.ireturn, 1) := by decide +kernel
theorem dX6_tear_0 : decode cX6_tear 0 = .ok (.aload_n 0, 1) := by decide +kernel
theorem dX6_tear_1 : decode cX6_tear 1 = .ok (.getfield 336, 3) := by decide +kernel
theorem dX6_tear_4 : decode cX6_tear 4 = .ok (.ifCond .eq 7, 3) := by decide +kernel
theorem dX6_tear_7 : decode cX6_tear 7 = .ok (.iconst 1, 1) := by decide +kernel
theorem dX6_tear_8 : decode cX6_tear 8 = .ok (.goto 4, 3) := by decide +kernel
theorem dX6_tear_11 : decode cX6_tear 11 = .ok (.iconst 0, 1) := by decide +kernel
theorem dX6_tear_12 : decode cX6_tear 12 = .ok (.istore_n 1, 1) := by decide +kernel
theorem dX6_tear_13 : decode cX6_tear 13 = .ok (.aload_n 0, 1) := by decide +kernel
theorem dX6_tear_14 : decode cX6_tear 14 = .ok (.iconst 0, 1) := by decide +kernel
theorem dX6_tear_15 : decode cX6_tear 15 = .ok (.putfield 336, 3) := by decide +kernel
theorem dX6_tear_18 : decode cX6_tear 18 = .ok (.iload_n 1, 1) := by decide +kernel
theorem dX6_tear_19 : decode cX6_tear 19 = .ok (.ireturn, 1) := by decide +kernel
theorem dX6_heldSpots_0 : decode cX6_heldSpots 0 = .ok (.iconst 0, 1) := by decide +kernel
theorem dX6_heldSpots_1 : decode cX6_heldSpots 1 = .ok (.istore_n 1, 1) := by decide +kernel
theorem dX6_heldSpots_2 : decode cX6_heldSpots 2 = .ok (.iconst 0, 1) := by decide +kernel
theorem dX6_heldSpots_3 : decode cX6_heldSpots 3 = .ok (.istore_n 2, 1) := by decide +kernel
theorem dX6_heldSpots_4 : decode cX6_heldSpots 4 = .ok (.iload_n 2, 1) := by decide +kernel
theorem dX6_heldSpots_5 : decode cX6_heldSpots 5 = .ok (.bipush 10, 2) := by decide +kernel
theorem dX6_heldSpots_7 : decode cX6_heldSpots 7 = .ok (.if_icmp .ge 29, 3) := by decide +kernel
theorem dX6_heldSpots_10 : decode cX6_heldSpots 10 = .ok (.iload_n 1, 1) := by decide +kernel
theorem dX6_heldSpots_11 : decode cX6_heldSpots 11 = .ok (.aload_n 0, 1) := by decide +kernel
theorem dX6_heldSpots_12 : decode cX6_heldSpots 12 = .ok (.getfield 7, 3) := by decide +kernel
theorem dX6_heldSpots_15 : decode cX6_heldSpots 15 = .ok (.bipush 71, 2) := by decide +kernel
theorem dX6_heldSpots_17 : decode cX6_heldSpots 17 = .ok (.iload_n 2, 1) := by decide +kernel
theorem dX6_heldSpots_18 : decode cX6_heldSpots 18 = .ok (.iadd, 1) := by decide +kernel
theorem dX6_heldSpots_19 : decode cX6_heldSpots 19 = .ok (.iaload, 1) := by decide +kernel
theorem dX6_heldSpots_20 : decode cX6_heldSpots 20 = .ok (.ifCond .lt 7, 3) := by decide +kernel
theorem dX6_heldSpots_23 : decode cX6_heldSpots 23 = .ok (.iconst 1, 1) := by decide +kernel
theorem dX6_heldSpots_24 : decode cX6_heldSpots 24 = .ok (.goto 4, 3) := by decide +kernel
theorem dX6_heldSpots_27 : decode cX6_heldSpots 27 = .ok (.iconst 0, 1) := by decide +kernel
theorem dX6_heldSpots_28 : decode cX6_heldSpots 28 = .ok (.iadd, 1) := by decide +kernel
theorem dX6_heldSpots_29 : decode cX6_heldSpots 29 = .ok (.istore_n 1, 1) := by decide +kernel
theorem dX6_heldSpots_30 : decode cX6_heldSpots 30 = .ok (.iinc 2 1, 3) := by decide +kernel
theorem dX6_heldSpots_33 : decode cX6_heldSpots 33 = .ok (.goto (-29), 3) := by decide +kernel
theorem dX6_heldSpots_36 : decode cX6_heldSpots 36 = .ok (.iload_n 1, 1) := by decide +kernel
theorem dX6_heldSpots_37 : decode cX6_heldSpots 37 = .ok (.ireturn, 1) := by decide +kernel
theorem dX6_count_0 : decode cX6_count 0 = .ok (.iload_n 1, 1) := by decide +kernel
theorem dX6_count_1 : decode cX6_count 1 = .ok (.tableswitch 97 0 7 #[47, 54, 61, 68, 75, 80, 85, 92], 47) := by decide +kernel
theorem dX6_count_48 : decode cX6_count 48 = .ok (.aload_n 0, 1) := by decide +kernel
theorem dX6_count_49 : decode cX6_count 49 = .ok (.getfield 7, 3) := by decide +kernel
theorem dX6_count_52 : decode cX6_count 52 = .ok (.iconst 0, 1) := by decide +kernel
theorem dX6_count_53 : decode cX6_count 53 = .ok (.iaload, 1) := by decide +kernel
theorem dX6_count_54 : decode cX6_count 54 = .ok (.ireturn, 1) := by decide +kernel
theorem dX6_count_55 : decode cX6_count 55 = .ok (.aload_n 0, 1) := by decide +kernel
theorem dX6_count_56 : decode cX6_count 56 = .ok (.getfield 7, 3) := by decide +kernel
theorem dX6_count_59 : decode cX6_count 59 = .ok (.iconst 1, 1) := by decide +kernel
theorem dX6_count_60 : decode cX6_count 60 = .ok (.iaload, 1) := by decide +kernel
theorem dX6_count_61 : decode cX6_count 61 = .ok (.ireturn, 1) := by decide +kernel
theorem dX6_count_62 : decode cX6_count 62 = .ok (.aload_n 0, 1) := by decide +kernel
theorem dX6_count_63 : decode cX6_count 63 = .ok (.getfield 7, 3) := by decide +kernel
theorem dX6_count_66 : decode cX6_count 66 = .ok (.iconst 3, 1) := by decide +kernel
theorem dX6_count_67 : decode cX6_count 67 = .ok (.iaload, 1) := by decide +kernel
theorem dX6_count_68 : decode cX6_count 68 = .ok (.ireturn, 1) := by decide +kernel
theorem dX6_count_69 : decode cX6_count 69 = .ok (.aload_n 0, 1) := by decide +kernel
theorem dX6_count_70 : decode cX6_count 70 = .ok (.getfield 7, 3) := by decide +kernel
theorem dX6_count_73 : decode cX6_count 73 = .ok (.iconst 2, 1) := by decide +kernel
theorem dX6_count_74 : decode cX6_count 74 = .ok (.iaload, 1) := by decide +kernel
theorem dX6_count_75 : decode cX6_count 75 = .ok (.ireturn, 1) := by decide +kernel
theorem dX6_count_76 : decode cX6_count 76 = .ok (.aload_n 0, 1) := by decide +kernel
theorem dX6_count_77 : decode cX6_count 77 = .ok (.invokevirtual 148, 3) := by decide +kernel
theorem dX6_count_80 : decode cX6_count 80 = .ok (.ireturn, 1) := by decide +kernel
theorem dX6_count_81 : decode cX6_count 81 = .ok (.aload_n 0, 1) := by decide +kernel
theorem dX6_count_82 : decode cX6_count 82 = .ok (.getfield 219, 3) := by decide +kernel
theorem dX6_count_85 : decode cX6_count 85 = .ok (.ireturn, 1) := by decide +kernel
theorem dX6_count_86 : decode cX6_count 86 = .ok (.aload_n 0, 1) := by decide +kernel
theorem dX6_count_87 : decode cX6_count 87 = .ok (.getfield 7, 3) := by decide +kernel
theorem dX6_count_90 : decode cX6_count 90 = .ok (.iconst 4, 1) := by decide +kernel
theorem dX6_count_91 : decode cX6_count 91 = .ok (.iaload, 1) := by decide +kernel
theorem dX6_count_92 : decode cX6_count 92 = .ok (.ireturn, 1) := by decide +kernel
theorem dX6_count_93 : decode cX6_count 93 = .ok (.aload_n 0, 1) := by decide +kernel
theorem dX6_count_94 : decode cX6_count 94 = .ok (.invokevirtual 339, 3) := by decide +kernel
theorem dX6_count_97 : decode cX6_count 97 = .ok (.ireturn, 1) := by decide +kernel
theorem dX6_count_98 : decode cX6_count 98 = .ok (.aload_n 0, 1) := by decide +kernel
theorem dX6_count_99 : decode cX6_count 99 = .ok (.ldc 49, 2) := by decide +kernel
theorem dX6_count_101 : decode cX6_count 101 = .ok (.invokevirtual 73, 3) := by decide +kernel
theorem dX6_count_104 : decode cX6_count 104 = .ok (.ireturn, 1) := by decide +kernel
theorem dX6_status_0 : decode cX6_status 0 = .ok (.iload_n 1, 1) := by decide +kernel
theorem dX6_status_1 : decode cX6_status 1 = .ok (.i2l, 1) := by decide +kernel
theorem dX6_status_2 : decode cX6_status 2 = .ok (.ldc2_w 342, 3) := by decide +kernel
theorem dX6_status_5 : decode cX6_status 5 = .ok (.ldc2_w 60, 3) := by decide +kernel
theorem dX6_status_8 : decode cX6_status 8 = .ok (.invokestatic 52, 3) := by decide +kernel
theorem dX6_status_11 : decode cX6_status 11 = .ok (.ifCond .ne 10, 3) := by decide +kernel
theorem dX6_status_14 : decode cX6_status 14 = .ok (.aload_n 0, 1) := by decide +kernel
theorem dX6_status_15 : decode cX6_status 15 = .ok (.ldc 49, 2) := by decide +kernel
theorem dX6_status_17 : decode cX6_status 17 = .ok (.invokevirtual 73, 3) := by decide +kernel
theorem dX6_status_20 : decode cX6_status 20 = .ok (.ireturn, 1) := by decide +kernel
theorem dX6_status_21 : decode cX6_status 21 = .ok (.iconst 0, 1) := by decide +kernel
theorem dX6_status_22 : decode cX6_status 22 = .ok (.istore_n 2, 1) := by decide +kernel
theorem dX6_status_23 : decode cX6_status 23 = .ok (.iconst 0, 1) := by decide +kernel
theorem dX6_status_24 : decode cX6_status 24 = .ok (.istore_n 3, 1) := by decide +kernel
theorem dX6_status_25 : decode cX6_status 25 = .ok (.iload_n 3, 1) := by decide +kernel
theorem dX6_status_26 : decode cX6_status 26 = .ok (.bipush 7, 2) := by decide +kernel
theorem dX6_status_28 : decode cX6_status 28 = .ok (.if_icmp .ge 31, 3) := by decide +kernel
theorem dX6_status_31 : decode cX6_status 31 = .ok (.iload_n 2, 1) := by decide +kernel
theorem dX6_status_32 : decode cX6_status 32 = .ok (.iload_n 1, 1) := by decide +kernel
theorem dX6_status_33 : decode cX6_status 33 = .ok (.ifCond .lt 8, 3) := by decide +kernel
theorem dX6_status_36 : decode cX6_status 36 = .ok (.iload_n 3, 1) := by decide +kernel
theorem dX6_status_37 : decode cX6_status 37 = .ok (.iload_n 1, 1) := by decide +kernel
theorem dX6_status_38 : decode cX6_status 38 = .ok (.if_icmp .ne 12, 3) := by decide +kernel
theorem dX6_status_41 : decode cX6_status 41 = .ok (.aload_n 0, 1) := by decide +kernel
theorem dX6_status_42 : decode cX6_status 42 = .ok (.getfield 22, 3) := by decide +kernel
theorem dX6_status_45 : decode cX6_status 45 = .ok (.iload_n 3, 1) := by decide +kernel
theorem dX6_status_46 : decode cX6_status 46 = .ok (.iaload, 1) := by decide +kernel
theorem dX6_status_47 : decode cX6_status 47 = .ok (.goto 4, 3) := by decide +kernel
theorem dX6_status_50 : decode cX6_status 50 = .ok (.iconst 0, 1) := by decide +kernel
theorem dX6_status_51 : decode cX6_status 51 = .ok (.iadd, 1) := by decide +kernel
theorem dX6_status_52 : decode cX6_status 52 = .ok (.istore_n 2, 1) := by decide +kernel
theorem dX6_status_53 : decode cX6_status 53 = .ok (.iinc 3 1, 3) := by decide +kernel
theorem dX6_status_56 : decode cX6_status 56 = .ok (.goto (-31), 3) := by decide +kernel
theorem dX6_status_59 : decode cX6_status 59 = .ok (.iload_n 2, 1) := by decide +kernel
theorem dX6_status_60 : decode cX6_status 60 = .ok (.ireturn, 1) := by decide +kernel
end
section
theorem dJ6_bitCount_0f7a4_0 : decode cJ6_bitCount_0f7a4 0 = .ok (.iload_n 0, 1) := by decide +kernel
theorem dJ6_bitCount_0f7a4_1 : decode cJ6_bitCount_0f7a4 1 = .ok (.iload_n 0, 1) := by decide +kernel
theorem dJ6_bitCount_0f7a4_2 : decode cJ6_bitCount_0f7a4 2 = .ok (.iconst 1, 1) := by decide +kernel
theorem dJ6_bitCount_0f7a4_3 : decode cJ6_bitCount_0f7a4 3 = .ok (.iushr, 1) := by decide +kernel
theorem dJ6_bitCount_0f7a4_4 : decode cJ6_bitCount_0f7a4 4 = .ok (.ldc_w 265, 3) := by decide +kernel
theorem dJ6_bitCount_0f7a4_7 : decode cJ6_bitCount_0f7a4 7 = .ok (.iand, 1) := by decide +kernel
theorem dJ6_bitCount_0f7a4_8 : decode cJ6_bitCount_0f7a4 8 = .ok (.isub, 1) := by decide +kernel
theorem dJ6_bitCount_0f7a4_9 : decode cJ6_bitCount_0f7a4 9 = .ok (.istore_n 0, 1) := by decide +kernel
theorem dJ6_bitCount_0f7a4_10 : decode cJ6_bitCount_0f7a4 10 = .ok (.iload_n 0, 1) := by decide +kernel
theorem dJ6_bitCount_0f7a4_11 : decode cJ6_bitCount_0f7a4 11 = .ok (.ldc_w 266, 3) := by decide +kernel
theorem dJ6_bitCount_0f7a4_14 : decode cJ6_bitCount_0f7a4 14 = .ok (.iand, 1) := by decide +kernel
theorem dJ6_bitCount_0f7a4_15 : decode cJ6_bitCount_0f7a4 15 = .ok (.iload_n 0, 1) := by decide +kernel
theorem dJ6_bitCount_0f7a4_16 : decode cJ6_bitCount_0f7a4 16 = .ok (.iconst 2, 1) := by decide +kernel
theorem dJ6_bitCount_0f7a4_17 : decode cJ6_bitCount_0f7a4 17 = .ok (.iushr, 1) := by decide +kernel
theorem dJ6_bitCount_0f7a4_18 : decode cJ6_bitCount_0f7a4 18 = .ok (.ldc_w 266, 3) := by decide +kernel
theorem dJ6_bitCount_0f7a4_21 : decode cJ6_bitCount_0f7a4 21 = .ok (.iand, 1) := by decide +kernel
theorem dJ6_bitCount_0f7a4_22 : decode cJ6_bitCount_0f7a4 22 = .ok (.iadd, 1) := by decide +kernel
theorem dJ6_bitCount_0f7a4_23 : decode cJ6_bitCount_0f7a4 23 = .ok (.istore_n 0, 1) := by decide +kernel
theorem dJ6_bitCount_0f7a4_24 : decode cJ6_bitCount_0f7a4 24 = .ok (.iload_n 0, 1) := by decide +kernel
theorem dJ6_bitCount_0f7a4_25 : decode cJ6_bitCount_0f7a4 25 = .ok (.iload_n 0, 1) := by decide +kernel
theorem dJ6_bitCount_0f7a4_26 : decode cJ6_bitCount_0f7a4 26 = .ok (.iconst 4, 1) := by decide +kernel
theorem dJ6_bitCount_0f7a4_27 : decode cJ6_bitCount_0f7a4 27 = .ok (.iushr, 1) := by decide +kernel
theorem dJ6_bitCount_0f7a4_28 : decode cJ6_bitCount_0f7a4 28 = .ok (.iadd, 1) := by decide +kernel
theorem dJ6_bitCount_0f7a4_29 : decode cJ6_bitCount_0f7a4 29 = .ok (.ldc_w 267, 3) := by decide +kernel
theorem dJ6_bitCount_0f7a4_32 : decode cJ6_bitCount_0f7a4 32 = .ok (.iand, 1) := by decide +kernel
theorem dJ6_bitCount_0f7a4_33 : decode cJ6_bitCount_0f7a4 33 = .ok (.istore_n 0, 1) := by decide +kernel
theorem dJ6_bitCount_0f7a4_34 : decode cJ6_bitCount_0f7a4 34 = .ok (.iload_n 0, 1) := by decide +kernel
theorem dJ6_bitCount_0f7a4_35 : decode cJ6_bitCount_0f7a4 35 = .ok (.iload_n 0, 1) := by decide +kernel
theorem dJ6_bitCount_0f7a4_36 : decode cJ6_bitCount_0f7a4 36 = .ok (.bipush 8, 2) := by decide +kernel
theorem dJ6_bitCount_0f7a4_38 : decode cJ6_bitCount_0f7a4 38 = .ok (.iushr, 1) := by decide +kernel
theorem dJ6_bitCount_0f7a4_39 : decode cJ6_bitCount_0f7a4 39 = .ok (.iadd, 1) := by decide +kernel
theorem dJ6_bitCount_0f7a4_40 : decode cJ6_bitCount_0f7a4 40 = .ok (.istore_n 0, 1) := by decide +kernel
theorem dJ6_bitCount_0f7a4_41 : decode cJ6_bitCount_0f7a4 41 = .ok (.iload_n 0, 1) := by decide +kernel
theorem dJ6_bitCount_0f7a4_42 : decode cJ6_bitCount_0f7a4 42 = .ok (.iload_n 0, 1) := by decide +kernel
theorem dJ6_bitCount_0f7a4_43 : decode cJ6_bitCount_0f7a4 43 = .ok (.bipush 16, 2) := by decide +kernel
theorem dJ6_bitCount_0f7a4_45 : decode cJ6_bitCount_0f7a4 45 = .ok (.iushr, 1) := by decide +kernel
theorem dJ6_bitCount_0f7a4_46 : decode cJ6_bitCount_0f7a4 46 = .ok (.iadd, 1) := by decide +kernel
theorem dJ6_bitCount_0f7a4_47 : decode cJ6_bitCount_0f7a4 47 = .ok (.istore_n 0, 1) := by decide +kernel
theorem dJ6_bitCount_0f7a4_48 : decode cJ6_bitCount_0f7a4 48 = .ok (.iload_n 0, 1) := by decide +kernel
theorem dJ6_bitCount_0f7a4_49 : decode cJ6_bitCount_0f7a4 49 = .ok (.bipush 63, 2) := by decide +kernel
theorem dJ6_bitCount_0f7a4_51 : decode cJ6_bitCount_0f7a4 51 = .ok (.iand, 1) := by decide +kernel
theorem dJ6_bitCount_0f7a4_52 : decode cJ6_bitCount_0f7a4 52 = .ok (.ireturn, 1) := by decide +kernel
theorem dJ9_abs_0f7a4_0 : decode cJ9_abs_0f7a4 0 = .ok (.iload_n 0, 1) := by decide +kernel
theorem dJ9_abs_0f7a4_1 : decode cJ9_abs_0f7a4 1 = .ok (.ifCond .ge 8, 3) := by decide +kernel
theorem dJ9_abs_0f7a4_4 : decode cJ9_abs_0f7a4 4 = .ok (.iload_n 0, 1) := by decide +kernel
theorem dJ9_abs_0f7a4_5 : decode cJ9_abs_0f7a4 5 = .ok (.ineg, 1) := by decide +kernel
theorem dJ9_abs_0f7a4_6 : decode cJ9_abs_0f7a4 6 = .ok (.goto 4, 3) := by decide +kernel
theorem dJ9_abs_0f7a4_9 : decode cJ9_abs_0f7a4 9 = .ok (.iload_n 0, 1) := by decide +kernel
theorem dJ9_abs_0f7a4_10 : decode cJ9_abs_0f7a4 10 = .ok (.ireturn, 1) := by decide +kernel
theorem dJ9_max_7cf53_0 : decode cJ9_max_7cf53 0 = .ok (.iload_n 0, 1) := by decide +kernel
theorem dJ9_max_7cf53_1 : decode cJ9_max_7cf53 1 = .ok (.iload_n 1, 1) := by decide +kernel
theorem dJ9_max_7cf53_2 : decode cJ9_max_7cf53 2 = .ok (.if_icmp .lt 7, 3) := by decide +kernel
theorem dJ9_max_7cf53_5 : decode cJ9_max_7cf53 5 = .ok (.iload_n 0, 1) := by decide +kernel
theorem dJ9_max_7cf53_6 : decode cJ9_max_7cf53 6 = .ok (.goto 4, 3) := by decide +kernel
theorem dJ9_max_7cf53_9 : decode cJ9_max_7cf53 9 = .ok (.iload_n 1, 1) := by decide +kernel
theorem dJ9_max_7cf53_10 : decode cJ9_max_7cf53 10 = .ok (.ireturn, 1) := by decide +kernel
theorem dJ9_min_7cf53_0 : decode cJ9_min_7cf53 0 = .ok (.iload_n 0, 1) := by decide +kernel
theorem dJ9_min_7cf53_1 : decode cJ9_min_7cf53 1 = .ok (.iload_n 1, 1) := by decide +kernel
theorem dJ9_min_7cf53_2 : decode cJ9_min_7cf53 2 = .ok (.if_icmp .gt 7, 3) := by decide +kernel
theorem dJ9_min_7cf53_5 : decode cJ9_min_7cf53 5 = .ok (.iload_n 0, 1) := by decide +kernel
theorem dJ9_min_7cf53_6 : decode cJ9_min_7cf53 6 = .ok (.goto 4, 3) := by decide +kernel
theorem dJ9_min_7cf53_9 : decode cJ9_min_7cf53 9 = .ok (.iload_n 1, 1) := by decide +kernel
theorem dJ9_min_7cf53_10 : decode cJ9_min_7cf53 10 = .ok (.ireturn, 1) := by decide +kernel
theorem dJ0_length_8abf5_0 : decode cJ0_length_8abf5 0 = .ok (.aload_n 0, 1) := by decide +kernel
theorem dJ0_length_8abf5_1 : decode cJ0_length_8abf5 1 = .ok (.getfield 9, 3) := by decide +kernel
theorem dJ0_length_8abf5_4 : decode cJ0_length_8abf5 4 = .ok (.arraylength, 1) := by decide +kernel
theorem dJ0_length_8abf5_5 : decode cJ0_length_8abf5 5 = .ok (.aload_n 0, 1) := by decide +kernel
theorem dJ0_length_8abf5_6 : decode cJ0_length_8abf5 6 = .ok (.invokevirtual 335, 3) := by decide +kernel
theorem dJ0_length_8abf5_9 : decode cJ0_length_8abf5 9 = .ok (.ishr, 1) := by decide +kernel
theorem dJ0_length_8abf5_10 : decode cJ0_length_8abf5 10 = .ok (.ireturn, 1) := by decide +kernel
theorem dJ0_charAt_5068e_0 : decode cJ0_charAt_5068e 0 = .ok (.aload_n 0, 1) := by decide +kernel
theorem dJ0_charAt_5068e_1 : decode cJ0_charAt_5068e 1 = .ok (.invokevirtual 492, 3) := by decide +kernel
theorem dJ0_charAt_5068e_4 : decode cJ0_charAt_5068e 4 = .ok (.ifCond .eq 12, 3) := by decide +kernel
theorem dJ0_charAt_5068e_7 : decode cJ0_charAt_5068e 7 = .ok (.aload_n 0, 1) := by decide +kernel
theorem dJ0_charAt_5068e_8 : decode cJ0_charAt_5068e 8 = .ok (.getfield 9, 3) := by decide +kernel
theorem dJ0_charAt_5068e_11 : decode cJ0_charAt_5068e 11 = .ok (.iload_n 1, 1) := by decide +kernel
theorem dJ0_charAt_5068e_12 : decode cJ0_charAt_5068e 12 = .ok (.invokestatic 495, 3) := by decide +kernel
theorem dJ0_charAt_5068e_15 : decode cJ0_charAt_5068e 15 = .ok (.ireturn, 1) := by decide +kernel
theorem dJ0_charAt_5068e_16 : decode cJ0_charAt_5068e 16 = .ok (.aload_n 0, 1) := by decide +kernel
theorem dJ0_charAt_5068e_17 : decode cJ0_charAt_5068e 17 = .ok (.getfield 9, 3) := by decide +kernel
theorem dJ0_charAt_5068e_20 : decode cJ0_charAt_5068e 20 = .ok (.iload_n 1, 1) := by decide +kernel
theorem dJ0_charAt_5068e_21 : decode cJ0_charAt_5068e 21 = .ok (.invokestatic 498, 3) := by decide +kernel
theorem dJ0_charAt_5068e_24 : decode cJ0_charAt_5068e 24 = .ok (.ireturn, 1) := by decide +kernel
theorem dJ0_coder_7d493_0 : decode cJ0_coder_7d493 0 = .ok (.getstatic 38, 3) := by decide +kernel
theorem dJ0_coder_7d493_3 : decode cJ0_coder_7d493 3 = .ok (.ifCond .eq 10, 3) := by decide +kernel
theorem dJ0_coder_7d493_6 : decode cJ0_coder_7d493 6 = .ok (.aload_n 0, 1) := by decide +kernel
theorem dJ0_coder_7d493_7 : decode cJ0_coder_7d493 7 = .ok (.getfield 15, 3) := by decide +kernel
theorem dJ0_coder_7d493_10 : decode cJ0_coder_7d493 10 = .ok (.goto 4, 3) := by decide +kernel
theorem dJ0_coder_7d493_13 : decode cJ0_coder_7d493 13 = .ok (.iconst 1, 1) := by decide +kernel
theorem dJ0_coder_7d493_14 : decode cJ0_coder_7d493 14 = .ok (.ireturn, 1) := by decide +kernel
theorem dJ0_isLatin1_aae02_0 : decode cJ0_isLatin1_aae02 0 = .ok (.getstatic 38, 3) := by decide +kernel
theorem dJ0_isLatin1_aae02_3 : decode cJ0_isLatin1_aae02 3 = .ok (.ifCond .eq 14, 3) := by decide +kernel
theorem dJ0_isLatin1_aae02_6 : decode cJ0_isLatin1_aae02 6 = .ok (.aload_n 0, 1) := by decide +kernel
theorem dJ0_isLatin1_aae02_7 : decode cJ0_isLatin1_aae02 7 = .ok (.getfield 15, 3) := by decide +kernel
theorem dJ0_isLatin1_aae02_10 : decode cJ0_isLatin1_aae02 10 = .ok (.ifCond .ne 7, 3) := by decide +kernel
theorem dJ0_isLatin1_aae02_13 : decode cJ0_isLatin1_aae02 13 = .ok (.iconst 1, 1) := by decide +kernel
theorem dJ0_isLatin1_aae02_14 : decode cJ0_isLatin1_aae02 14 = .ok (.goto 4, 3) := by decide +kernel
theorem dJ0_isLatin1_aae02_17 : decode cJ0_isLatin1_aae02 17 = .ok (.iconst 0, 1) := by decide +kernel
theorem dJ0_isLatin1_aae02_18 : decode cJ0_isLatin1_aae02 18 = .ok (.ireturn, 1) := by decide +kernel
theorem dJ0_checkIndex_df160_0 : decode cJ0_checkIndex_df160 0 = .ok (.iload_n 0, 1) := by decide +kernel
theorem dJ0_checkIndex_df160_1 : decode cJ0_checkIndex_df160 1 = .ok (.iload_n 1, 1) := by decide +kernel
theorem dJ0_checkIndex_df160_2 : decode cJ0_checkIndex_df160 2 = .ok (.getstatic 1053, 3) := by decide +kernel
theorem dJ0_checkIndex_df160_5 : decode cJ0_checkIndex_df160 5 = .ok (.invokestatic 1059, 3) := by decide +kernel
theorem dJ0_checkIndex_df160_8 : decode cJ0_checkIndex_df160 8 = .ok (.pop, 1) := by decide +kernel
theorem dJ0_checkIndex_df160_9 : decode cJ0_checkIndex_df160 9 = .ok (.return_, 1) := by decide +kernel
theorem dJ1_charAt_3b067_0 : decode cJ1_charAt_3b067 0 = .ok (.iload_n 1, 1) := by decide +kernel
theorem dJ1_charAt_3b067_1 : decode cJ1_charAt_3b067 1 = .ok (.aload_n 0, 1) := by decide +kernel
theorem dJ1_charAt_3b067_2 : decode cJ1_charAt_3b067 2 = .ok (.arraylength, 1) := by decide +kernel
theorem dJ1_charAt_3b067_3 : decode cJ1_charAt_3b067 3 = .ok (.invokestatic 9, 3) := by decide +kernel
theorem dJ1_charAt_3b067_6 : decode cJ1_charAt_3b067 6 = .ok (.aload_n 0, 1) := by decide +kernel
theorem dJ1_charAt_3b067_7 : decode cJ1_charAt_3b067 7 = .ok (.iload_n 1, 1) := by decide +kernel
theorem dJ1_charAt_3b067_8 : decode cJ1_charAt_3b067 8 = .ok (.baload, 1) := by decide +kernel
theorem dJ1_charAt_3b067_9 : decode cJ1_charAt_3b067 9 = .ok (.sipush 255, 3) := by decide +kernel
theorem dJ1_charAt_3b067_12 : decode cJ1_charAt_3b067 12 = .ok (.iand, 1) := by decide +kernel
theorem dJ1_charAt_3b067_13 : decode cJ1_charAt_3b067 13 = .ok (.i2c, 1) := by decide +kernel
theorem dJ1_charAt_3b067_14 : decode cJ1_charAt_3b067 14 = .ok (.ireturn, 1) := by decide +kernel
theorem dJ2_getChar_3b067_0 : decode cJ2_getChar_3b067 0 = .ok (.getstatic 44, 3) := by decide +kernel
theorem dJ2_getChar_3b067_3 : decode cJ2_getChar_3b067 3 = .ok (.ifCond .ne 25, 3) := by decide +kernel
theorem dJ2_getChar_3b067_6 : decode cJ2_getChar_3b067 6 = .ok (.iload_n 1, 1) := by decide +kernel
theorem dJ2_getChar_3b067_7 : decode cJ2_getChar_3b067 7 = .ok (.ifCond .lt 11, 3) := by decide +kernel
theorem dJ2_getChar_3b067_10 : decode cJ2_getChar_3b067 10 = .ok (.iload_n 1, 1) := by decide +kernel
theorem dJ2_getChar_3b067_11 : decode cJ2_getChar_3b067 11 = .ok (.aload_n 0, 1) := by decide +kernel
theorem dJ2_getChar_3b067_12 : decode cJ2_getChar_3b067 12 = .ok (.invokestatic 48, 3) := by decide +kernel
theorem dJ2_getChar_3b067_15 : decode cJ2_getChar_3b067 15 = .ok (.if_icmp .lt 13, 3) := by decide +kernel
theorem dJ2_getChar_3b067_18 : decode cJ2_getChar_3b067 18 = .ok (.new 52, 3) := by decide +kernel
theorem dJ2_getChar_3b067_21 : decode cJ2_getChar_3b067 21 = .ok (.dup, 1) := by decide +kernel
theorem dJ2_getChar_3b067_22 : decode cJ2_getChar_3b067 22 = .ok (.ldc 54, 2) := by decide +kernel
theorem dJ2_getChar_3b067_24 : decode cJ2_getChar_3b067 24 = .ok (.invokespecial 56, 3) := by decide +kernel
theorem dJ2_getChar_3b067_27 : decode cJ2_getChar_3b067 27 = .ok (.athrow, 1) := by decide +kernel
theorem dJ2_getChar_3b067_28 : decode cJ2_getChar_3b067 28 = .ok (.iload_n 1, 1) := by decide +kernel
theorem dJ2_getChar_3b067_29 : decode cJ2_getChar_3b067 29 = .ok (.iconst 1, 1) := by decide +kernel
theorem dJ2_getChar_3b067_30 : decode cJ2_getChar_3b067 30 = .ok (.ishl, 1) := by decide +kernel
theorem dJ2_getChar_3b067_31 : decode cJ2_getChar_3b067 31 = .ok (.istore_n 1, 1) := by decide +kernel
theorem dJ2_getChar_3b067_32 : decode cJ2_getChar_3b067 32 = .ok (.aload_n 0, 1) := by decide +kernel
theorem dJ2_getChar_3b067_33 : decode cJ2_getChar_3b067 33 = .ok (.iload_n 1, 1) := by decide +kernel
theorem dJ2_getChar_3b067_34 : decode cJ2_getChar_3b067 34 = .ok (.iinc 1 1, 3) := by decide +kernel
theorem dJ2_getChar_3b067_37 : decode cJ2_getChar_3b067 37 = .ok (.baload, 1) := by decide +kernel
theorem dJ2_getChar_3b067_38 : decode cJ2_getChar_3b067 38 = .ok (.sipush 255, 3) := by decide +kernel
theorem dJ2_getChar_3b067_41 : decode cJ2_getChar_3b067 41 = .ok (.iand, 1) := by decide +kernel
theorem dJ2_getChar_3b067_42 : decode cJ2_getChar_3b067 42 = .ok (.getstatic 59, 3) := by decide +kernel
theorem dJ2_getChar_3b067_45 : decode cJ2_getChar_3b067 45 = .ok (.ishl, 1) := by decide +kernel
theorem dJ2_getChar_3b067_46 : decode cJ2_getChar_3b067 46 = .ok (.aload_n 0, 1) := by decide +kernel
theorem dJ2_getChar_3b067_47 : decode cJ2_getChar_3b067 47 = .ok (.iload_n 1, 1) := by decide +kernel
theorem dJ2_getChar_3b067_48 : decode cJ2_getChar_3b067 48 = .ok (.baload, 1) := by decide +kernel
theorem dJ2_getChar_3b067_49 : decode cJ2_getChar_3b067 49 = .ok (.sipush 255, 3) := by decide +kernel
theorem dJ2_getChar_3b067_52 : decode cJ2_getChar_3b067 52 = .ok (.iand, 1) := by decide +kernel
theorem dJ2_getChar_3b067_53 : decode cJ2_getChar_3b067 53 = .ok (.getstatic 63, 3) := by decide +kernel
theorem dJ2_getChar_3b067_56 : decode cJ2_getChar_3b067 56 = .ok (.ishl, 1) := by decide +kernel
theorem dJ2_getChar_3b067_57 : decode cJ2_getChar_3b067 57 = .ok (.ior, 1) := by decide +kernel
theorem dJ2_getChar_3b067_58 : decode cJ2_getChar_3b067 58 = .ok (.i2c, 1) := by decide +kernel
theorem dJ2_getChar_3b067_59 : decode cJ2_getChar_3b067 59 = .ok (.ireturn, 1) := by decide +kernel
theorem dJ2_length_9d52b_0 : decode cJ2_length_9d52b 0 = .ok (.aload_n 0, 1) := by decide +kernel
theorem dJ2_length_9d52b_1 : decode cJ2_length_9d52b 1 = .ok (.arraylength, 1) := by decide +kernel
theorem dJ2_length_9d52b_2 : decode cJ2_length_9d52b 2 = .ok (.iconst 1, 1) := by decide +kernel
theorem dJ2_length_9d52b_3 : decode cJ2_length_9d52b 3 = .ok (.ishr, 1) := by decide +kernel
theorem dJ2_length_9d52b_4 : decode cJ2_length_9d52b 4 = .ok (.ireturn, 1) := by decide +kernel
theorem dJ2_charAt_3b067_0 : decode cJ2_charAt_3b067 0 = .ok (.iload_n 1, 1) := by decide +kernel
theorem dJ2_charAt_3b067_1 : decode cJ2_charAt_3b067 1 = .ok (.aload_n 0, 1) := by decide +kernel
theorem dJ2_charAt_3b067_2 : decode cJ2_charAt_3b067 2 = .ok (.invokestatic 67, 3) := by decide +kernel
theorem dJ2_charAt_3b067_5 : decode cJ2_charAt_3b067 5 = .ok (.aload_n 0, 1) := by decide +kernel
theorem dJ2_charAt_3b067_6 : decode cJ2_charAt_3b067 6 = .ok (.iload_n 1, 1) := by decide +kernel
theorem dJ2_charAt_3b067_7 : decode cJ2_charAt_3b067 7 = .ok (.invokestatic 71, 3) := by decide +kernel
theorem dJ2_charAt_3b067_10 : decode cJ2_charAt_3b067 10 = .ok (.ireturn, 1) := by decide +kernel
theorem dJ2_checkIndex_2214a_0 : decode cJ2_checkIndex_2214a 0 = .ok (.iload_n 0, 1) := by decide +kernel
theorem dJ2_checkIndex_2214a_1 : decode cJ2_checkIndex_2214a 1 = .ok (.aload_n 1, 1) := by decide +kernel
theorem dJ2_checkIndex_2214a_2 : decode cJ2_checkIndex_2214a 2 = .ok (.invokestatic 48, 3) := by decide +kernel
theorem dJ2_checkIndex_2214a_5 : decode cJ2_checkIndex_2214a 5 = .ok (.invokestatic 414, 3) := by decide +kernel
theorem dJ2_checkIndex_2214a_8 : decode cJ2_checkIndex_2214a 8 = .ok (.return_, 1) := by decide +kernel
theorem dJ3_checkIndex_8e157_0 : decode cJ3_checkIndex_8e157 0 = .ok (.iload_n 0, 1) := by decide +kernel
theorem dJ3_checkIndex_8e157_1 : decode cJ3_checkIndex_8e157 1 = .ok (.ifCond .lt 8, 3) := by decide +kernel
theorem dJ3_checkIndex_8e157_4 : decode cJ3_checkIndex_8e157 4 = .ok (.iload_n 0, 1) := by decide +kernel
theorem dJ3_checkIndex_8e157_5 : decode cJ3_checkIndex_8e157 5 = .ok (.iload_n 1, 1) := by decide +kernel
theorem dJ3_checkIndex_8e157_6 : decode cJ3_checkIndex_8e157 6 = .ok (.if_icmp .lt 10, 3) := by decide +kernel
theorem dJ3_checkIndex_8e157_9 : decode cJ3_checkIndex_8e157 9 = .ok (.aload_n 2, 1) := by decide +kernel
theorem dJ3_checkIndex_8e157_10 : decode cJ3_checkIndex_8e157 10 = .ok (.iload_n 0, 1) := by decide +kernel
theorem dJ3_checkIndex_8e157_11 : decode cJ3_checkIndex_8e157 11 = .ok (.iload_n 1, 1) := by decide +kernel
theorem dJ3_checkIndex_8e157_12 : decode cJ3_checkIndex_8e157 12 = .ok (.invokestatic 95, 3) := by decide +kernel
theorem dJ3_checkIndex_8e157_15 : decode cJ3_checkIndex_8e157 15 = .ok (.athrow, 1) := by decide +kernel
theorem dJ3_checkIndex_8e157_16 : decode cJ3_checkIndex_8e157 16 = .ok (.iload_n 0, 1) := by decide +kernel
theorem dJ3_checkIndex_8e157_17 : decode cJ3_checkIndex_8e157 17 = .ok (.ireturn, 1) := by decide +kernel
theorem dL_law_0 : decode cL_law 0 = .ok (.new 7, 3) := by decide +kernel
theorem dL_law_3 : decode cL_law 3 = .ok (.dup, 1) := by decide +kernel
theorem dL_law_4 : decode cL_law 4 = .ok (.invokespecial 9, 3) := by decide +kernel
theorem dL_law_7 : decode cL_law 7 = .ok (.astore_n 1, 1) := by decide +kernel
theorem dL_law_8 : decode cL_law 8 = .ok (.new 10, 3) := by decide +kernel
theorem dL_law_11 : decode cL_law 11 = .ok (.dup, 1) := by decide +kernel
theorem dL_law_12 : decode cL_law 12 = .ok (.invokespecial 12, 3) := by decide +kernel
theorem dL_law_15 : decode cL_law 15 = .ok (.astore_n 2, 1) := by decide +kernel
theorem dL_law_16 : decode cL_law 16 = .ok (.iconst 0, 1) := by decide +kernel
theorem dL_law_17 : decode cL_law 17 = .ok (.istore_n 3, 1) := by decide +kernel
theorem dL_law_18 : decode cL_law 18 = .ok (.iload_n 3, 1) := by decide +kernel
theorem dL_law_19 : decode cL_law 19 = .ok (.aload_n 0, 1) := by decide +kernel
theorem dL_law_20 : decode cL_law 20 = .ok (.arraylength, 1) := by decide +kernel
theorem dL_law_21 : decode cL_law 21 = .ok (.bipush 6, 2) := by decide +kernel
theorem dL_law_23 : decode cL_law 23 = .ok (.isub, 1) := by decide +kernel
theorem dL_law_24 : decode cL_law 24 = .ok (.if_icmp .gt 1556, 3) := by decide +kernel
theorem dL_law_27 : decode cL_law 27 = .ok (.aload_n 0, 1) := by decide +kernel
theorem dL_law_28 : decode cL_law 28 = .ok (.iload_n 3, 1) := by decide +kernel
theorem dL_law_29 : decode cL_law 29 = .ok (.iaload, 1) := by decide +kernel
theorem dL_law_30 : decode cL_law 30 = .ok (.bipush 63, 2) := by decide +kernel
theorem dL_law_32 : decode cL_law 32 = .ok (.iand, 1) := by decide +kernel
theorem dL_law_33 : decode cL_law 33 = .ok (.tableswitch 1541 0 44 #[195, 218, 251, 294, 337, 380, 413, 426, 449, 472, 495, 518, 561, 574, 597, 610, 653, 676, 709, 752, 775, 808, 851, 904, 957, 990, 1023, 1056, 1079, 1113, 1136, 1169, 1182, 1195, 1228, 1261, 1304, 1347, 1410, 1433, 1456, 1469, 1482, 1495, 1518], 195) := by decide +kernel
theorem dL_law_228 : decode cL_law 228 = .ok (.aload_n 1, 1) := by decide +kernel
theorem dL_law_229 : decode cL_law 229 = .ok (.aload_n 0, 1) := by decide +kernel
theorem dL_law_230 : decode cL_law 230 = .ok (.iload_n 3, 1) := by decide +kernel
theorem dL_law_231 : decode cL_law 231 = .ok (.iconst 1, 1) := by decide +kernel
theorem dL_law_232 : decode cL_law 232 = .ok (.iadd, 1) := by decide +kernel
theorem dL_law_233 : decode cL_law 233 = .ok (.iaload, 1) := by decide +kernel
theorem dL_law_234 : decode cL_law 234 = .ok (.invokevirtual 13, 3) := by decide +kernel
theorem dL_law_237 : decode cL_law 237 = .ok (.aload_n 2, 1) := by decide +kernel
theorem dL_law_238 : decode cL_law 238 = .ok (.aload_n 0, 1) := by decide +kernel
theorem dL_law_239 : decode cL_law 239 = .ok (.iload_n 3, 1) := by decide +kernel
theorem dL_law_240 : decode cL_law 240 = .ok (.iconst 1, 1) := by decide +kernel
theorem dL_law_241 : decode cL_law 241 = .ok (.iadd, 1) := by decide +kernel
theorem dL_law_242 : decode cL_law 242 = .ok (.iaload, 1) := by decide +kernel
theorem dL_law_243 : decode cL_law 243 = .ok (.invokevirtual 17, 3) := by decide +kernel
theorem dL_law_246 : decode cL_law 246 = .ok (.if_icmp .eq 1328, 3) := by decide +kernel
theorem dL_law_249 : decode cL_law 249 = .ok (.iconst 0, 1) := by decide +kernel
theorem dL_law_250 : decode cL_law 250 = .ok (.ireturn, 1) := by decide +kernel
theorem dL_law_251 : decode cL_law 251 = .ok (.aload_n 1, 1) := by decide +kernel
theorem dL_law_252 : decode cL_law 252 = .ok (.aload_n 0, 1) := by decide +kernel
theorem dL_law_253 : decode cL_law 253 = .ok (.iload_n 3, 1) := by decide +kernel
theorem dL_law_254 : decode cL_law 254 = .ok (.iconst 1, 1) := by decide +kernel
theorem dL_law_255 : decode cL_law 255 = .ok (.iadd, 1) := by decide +kernel
theorem dL_law_256 : decode cL_law 256 = .ok (.iaload, 1) := by decide +kernel
theorem dL_law_257 : decode cL_law 257 = .ok (.aload_n 0, 1) := by decide +kernel
theorem dL_law_258 : decode cL_law 258 = .ok (.iload_n 3, 1) := by decide +kernel
theorem dL_law_259 : decode cL_law 259 = .ok (.iconst 2, 1) := by decide +kernel
theorem dL_law_260 : decode cL_law 260 = .ok (.iadd, 1) := by decide +kernel
theorem dL_law_261 : decode cL_law 261 = .ok (.iaload, 1) := by decide +kernel
theorem dL_law_262 : decode cL_law 262 = .ok (.invokevirtual 18, 3) := by decide +kernel
theorem dL_law_265 : decode cL_law 265 = .ok (.aload_n 2, 1) := by decide +kernel
theorem dL_law_266 : decode cL_law 266 = .ok (.aload_n 0, 1) := by decide +kernel
theorem dL_law_267 : decode cL_law 267 = .ok (.iload_n 3, 1) := by decide +kernel
theorem dL_law_268 : decode cL_law 268 = .ok (.iconst 1, 1) := by decide +kernel
theorem dL_law_269 : decode cL_law 269 = .ok (.iadd, 1) := by decide +kernel
theorem dL_law_270 : decode cL_law 270 = .ok (.iaload, 1) := by decide +kernel
theorem dL_law_271 : decode cL_law 271 = .ok (.aload_n 0, 1) := by decide +kernel
theorem dL_law_272 : decode cL_law 272 = .ok (.iload_n 3, 1) := by decide +kernel
theorem dL_law_273 : decode cL_law 273 = .ok (.iconst 2, 1) := by decide +kernel
theorem dL_law_274 : decode cL_law 274 = .ok (.iadd, 1) := by decide +kernel
theorem dL_law_275 : decode cL_law 275 = .ok (.iaload, 1) := by decide +kernel
theorem dL_law_276 : decode cL_law 276 = .ok (.invokevirtual 22, 3) := by decide +kernel
theorem dL_law_279 : decode cL_law 279 = .ok (.if_icmp .eq 1295, 3) := by decide +kernel
theorem dL_law_282 : decode cL_law 282 = .ok (.iconst 0, 1) := by decide +kernel
theorem dL_law_283 : decode cL_law 283 = .ok (.ireturn, 1) := by decide +kernel
theorem dL_law_284 : decode cL_law 284 = .ok (.aload_n 1, 1) := by decide +kernel
theorem dL_law_285 : decode cL_law 285 = .ok (.aload_n 0, 1) := by decide +kernel
theorem dL_law_286 : decode cL_law 286 = .ok (.iload_n 3, 1) := by decide +kernel
theorem dL_law_287 : decode cL_law 287 = .ok (.iconst 1, 1) := by decide +kernel
theorem dL_law_288 : decode cL_law 288 = .ok (.iadd, 1) := by decide +kernel
theorem dL_law_289 : decode cL_law 289 = .ok (.iaload, 1) := by decide +kernel
theorem dL_law_290 : decode cL_law 290 = .ok (.aload_n 0, 1) := by decide +kernel
theorem dL_law_291 : decode cL_law 291 = .ok (.iload_n 3, 1) := by decide +kernel
theorem dL_law_292 : decode cL_law 292 = .ok (.iconst 2, 1) := by decide +kernel
theorem dL_law_293 : decode cL_law 293 = .ok (.iadd, 1) := by decide +kernel
theorem dL_law_294 : decode cL_law 294 = .ok (.iaload, 1) := by decide +kernel
theorem dL_law_295 : decode cL_law 295 = .ok (.aload_n 0, 1) := by decide +kernel
theorem dL_law_296 : decode cL_law 296 = .ok (.iload_n 3, 1) := by decide +kernel
theorem dL_law_297 : decode cL_law 297 = .ok (.iconst 3, 1) := by decide +kernel
theorem dL_law_298 : decode cL_law 298 = .ok (.iadd, 1) := by decide +kernel
theorem dL_law_299 : decode cL_law 299 = .ok (.iaload, 1) := by decide +kernel
theorem dL_law_300 : decode cL_law 300 = .ok (.invokevirtual 23, 3) := by decide +kernel
theorem dL_law_303 : decode cL_law 303 = .ok (.aload_n 2, 1) := by decide +kernel
theorem dL_law_304 : decode cL_law 304 = .ok (.aload_n 0, 1) := by decide +kernel
theorem dL_law_305 : decode cL_law 305 = .ok (.iload_n 3, 1) := by decide +kernel
theorem dL_law_306 : decode cL_law 306 = .ok (.iconst 1, 1) := by decide +kernel
theorem dL_law_307 : decode cL_law 307 = .ok (.iadd, 1) := by decide +kernel
theorem dL_law_308 : decode cL_law 308 = .ok (.iaload, 1) := by decide +kernel
theorem dL_law_309 : decode cL_law 309 = .ok (.aload_n 0, 1) := by decide +kernel
theorem dL_law_310 : decode cL_law 310 = .ok (.iload_n 3, 1) := by decide +kernel
theorem dL_law_311 : decode cL_law 311 = .ok (.iconst 2, 1) := by decide +kernel
theorem dL_law_312 : decode cL_law 312 = .ok (.iadd, 1) := by decide +kernel
theorem dL_law_313 : decode cL_law 313 = .ok (.iaload, 1) := by decide +kernel
theorem dL_law_314 : decode cL_law 314 = .ok (.aload_n 0, 1) := by decide +kernel
theorem dL_law_315 : decode cL_law 315 = .ok (.iload_n 3, 1) := by decide +kernel
theorem dL_law_316 : decode cL_law 316 = .ok (.iconst 3, 1) := by decide +kernel
theorem dL_law_317 : decode cL_law 317 = .ok (.iadd, 1) := by decide +kernel
theorem dL_law_318 : decode cL_law 318 = .ok (.iaload, 1) := by decide +kernel
theorem dL_law_319 : decode cL_law 319 = .ok (.invokevirtual 27, 3) := by decide +kernel
theorem dL_law_322 : decode cL_law 322 = .ok (.if_icmp .eq 1252, 3) := by decide +kernel
theorem dL_law_325 : decode cL_law 325 = .ok (.iconst 0, 1) := by decide +kernel
theorem dL_law_326 : decode cL_law 326 = .ok (.ireturn, 1) := by decide +kernel
theorem dL_law_327 : decode cL_law 327 = .ok (.aload_n 1, 1) := by decide +kernel
theorem dL_law_328 : decode cL_law 328 = .ok (.aload_n 0, 1) := by decide +kernel
theorem dL_law_329 : decode cL_law 329 = .ok (.iload_n 3, 1) := by decide +kernel
theorem dL_law_330 : decode cL_law 330 = .ok (.iconst 1, 1) := by decide +kernel
theorem dL_law_331 : decode cL_law 331 = .ok (.iadd, 1) := by decide +kernel
theorem dL_law_332 : decode cL_law 332 = .ok (.iaload, 1) := by decide +kernel
theorem dL_law_333 : decode cL_law 333 = .ok (.aload_n 0, 1) := by decide +kernel
theorem dL_law_334 : decode cL_law 334 = .ok (.iload_n 3, 1) := by decide +kernel
theorem dL_law_335 : decode cL_law 335 = .ok (.iconst 2, 1) := by decide +kernel
theorem dL_law_336 : decode cL_law 336 = .ok (.iadd, 1) := by decide +kernel
theorem dL_law_337 : decode cL_law 337 = .ok (.iaload, 1) := by decide +kernel
theorem dL_law_338 : decode cL_law 338 = .ok (.aload_n 0, 1) := by decide +kernel
theorem dL_law_339 : decode cL_law 339 = .ok (.iload_n 3, 1) := by decide +kernel
theorem dL_law_340 : decode cL_law 340 = .ok (.iconst 3, 1) := by decide +kernel
theorem dL_law_341 : decode cL_law 341 = .ok (.iadd, 1) := by decide +kernel
theorem dL_law_342 : decode cL_law 342 = .ok (.iaload, 1) := by decide +kernel
theorem dL_law_343 : decode cL_law 343 = .ok (.invokevirtual 28, 3) := by decide +kernel
theorem dL_law_346 : decode cL_law 346 = .ok (.aload_n 2, 1) := by decide +kernel
theorem dL_law_347 : decode cL_law 347 = .ok (.aload_n 0, 1) := by decide +kernel
theorem dL_law_348 : decode cL_law 348 = .ok (.iload_n 3, 1) := by decide +kernel
theorem dL_law_349 : decode cL_law 349 = .ok (.iconst 1, 1) := by decide +kernel
theorem dL_law_350 : decode cL_law 350 = .ok (.iadd, 1) := by decide +kernel
theorem dL_law_351 : decode cL_law 351 = .ok (.iaload, 1) := by decide +kernel
theorem dL_law_352 : decode cL_law 352 = .ok (.aload_n 0, 1) := by decide +kernel
theorem dL_law_353 : decode cL_law 353 = .ok (.iload_n 3, 1) := by decide +kernel
theorem dL_law_354 : decode cL_law 354 = .ok (.iconst 2, 1) := by decide +kernel
theorem dL_law_355 : decode cL_law 355 = .ok (.iadd, 1) := by decide +kernel
theorem dL_law_356 : decode cL_law 356 = .ok (.iaload, 1) := by decide +kernel
theorem dL_law_357 : decode cL_law 357 = .ok (.aload_n 0, 1) := by decide +kernel
theorem dL_law_358 : decode cL_law 358 = .ok (.iload_n 3, 1) := by decide +kernel
theorem dL_law_359 : decode cL_law 359 = .ok (.iconst 3, 1) := by decide +kernel
theorem dL_law_360 : decode cL_law 360 = .ok (.iadd, 1) := by decide +kernel
theorem dL_law_361 : decode cL_law 361 = .ok (.iaload, 1) := by decide +kernel
theorem dL_law_362 : decode cL_law 362 = .ok (.invokevirtual 31, 3) := by decide +kernel
theorem dL_law_365 : decode cL_law 365 = .ok (.if_icmp .eq 1209, 3) := by decide +kernel
theorem dL_law_368 : decode cL_law 368 = .ok (.iconst 0, 1) := by decide +kernel
theorem dL_law_369 : decode cL_law 369 = .ok (.ireturn, 1) := by decide +kernel
theorem dL_law_370 : decode cL_law 370 = .ok (.aload_n 1, 1) := by decide +kernel
theorem dL_law_371 : decode cL_law 371 = .ok (.aload_n 0, 1) := by decide +kernel
theorem dL_law_372 : decode cL_law 372 = .ok (.iload_n 3, 1) := by decide +kernel
theorem dL_law_373 : decode cL_law 373 = .ok (.iconst 1, 1) := by decide +kernel
theorem dL_law_374 : decode cL_law 374 = .ok (.iadd, 1) := by decide +kernel
theorem dL_law_375 : decode cL_law 375 = .ok (.iaload, 1) := by decide +kernel
theorem dL_law_376 : decode cL_law 376 = .ok (.aload_n 0, 1) := by decide +kernel
theorem dL_law_377 : decode cL_law 377 = .ok (.iload_n 3, 1) := by decide +kernel
theorem dL_law_378 : decode cL_law 378 = .ok (.iconst 2, 1) := by decide +kernel
theorem dL_law_379 : decode cL_law 379 = .ok (.iadd, 1) := by decide +kernel
theorem dL_law_380 : decode cL_law 380 = .ok (.iaload, 1) := by decide +kernel
theorem dL_law_381 : decode cL_law 381 = .ok (.aload_n 0, 1) := by decide +kernel
theorem dL_law_382 : decode cL_law 382 = .ok (.iload_n 3, 1) := by decide +kernel
theorem dL_law_383 : decode cL_law 383 = .ok (.iconst 3, 1) := by decide +kernel
theorem dL_law_384 : decode cL_law 384 = .ok (.iadd, 1) := by decide +kernel
theorem dL_law_385 : decode cL_law 385 = .ok (.iaload, 1) := by decide +kernel
theorem dL_law_386 : decode cL_law 386 = .ok (.invokevirtual 32, 3) := by decide +kernel
theorem dL_law_389 : decode cL_law 389 = .ok (.aload_n 2, 1) := by decide +kernel
theorem dL_law_390 : decode cL_law 390 = .ok (.aload_n 0, 1) := by decide +kernel
theorem dL_law_391 : decode cL_law 391 = .ok (.iload_n 3, 1) := by decide +kernel
theorem dL_law_392 : decode cL_law 392 = .ok (.iconst 1, 1) := by decide +kernel
theorem dL_law_393 : decode cL_law 393 = .ok (.iadd, 1) := by decide +kernel
theorem dL_law_394 : decode cL_law 394 = .ok (.iaload, 1) := by decide +kernel
theorem dL_law_395 : decode cL_law 395 = .ok (.aload_n 0, 1) := by decide +kernel
theorem dL_law_396 : decode cL_law 396 = .ok (.iload_n 3, 1) := by decide +kernel
theorem dL_law_397 : decode cL_law 397 = .ok (.iconst 2, 1) := by decide +kernel
theorem dL_law_398 : decode cL_law 398 = .ok (.iadd, 1) := by decide +kernel
theorem dL_law_399 : decode cL_law 399 = .ok (.iaload, 1) := by decide +kernel
theorem dL_law_400 : decode cL_law 400 = .ok (.aload_n 0, 1) := by decide +kernel
theorem dL_law_401 : decode cL_law 401 = .ok (.iload_n 3, 1) := by decide +kernel
theorem dL_law_402 : decode cL_law 402 = .ok (.iconst 3, 1) := by decide +kernel
theorem dL_law_403 : decode cL_law 403 = .ok (.iadd, 1) := by decide +kernel
theorem dL_law_404 : decode cL_law 404 = .ok (.iaload, 1) := by decide +kernel
theorem dL_law_405 : decode cL_law 405 = .ok (.invokevirtual 35, 3) := by decide +kernel
theorem dL_law_408 : decode cL_law 408 = .ok (.if_icmp .eq 1166, 3) := by decide +kernel
theorem dL_law_411 : decode cL_law 411 = .ok (.iconst 0, 1) := by decide +kernel
theorem dL_law_412 : decode cL_law 412 = .ok (.ireturn, 1) := by decide +kernel
theorem dL_law_413 : decode cL_law 413 = .ok (.aload_n 1, 1) := by decide +kernel
theorem dL_law_414 : decode cL_law 414 = .ok (.aload_n 0, 1) := by decide +kernel
theorem dL_law_415 : decode cL_law 415 = .ok (.iload_n 3, 1) := by decide +kernel
theorem dL_law_416 : decode cL_law 416 = .ok (.iconst 1, 1) := by decide +kernel
theorem dL_law_417 : decode cL_law 417 = .ok (.iadd, 1) := by decide +kernel
theorem dL_law_418 : decode cL_law 418 = .ok (.iaload, 1) := by decide +kernel
theorem dL_law_419 : decode cL_law 419 = .ok (.aload_n 0, 1) := by decide +kernel
theorem dL_law_420 : decode cL_law 420 = .ok (.iload_n 3, 1) := by decide +kernel
theorem dL_law_421 : decode cL_law 421 = .ok (.iconst 2, 1) := by decide +kernel
theorem dL_law_422 : decode cL_law 422 = .ok (.iadd, 1) := by decide +kernel
theorem dL_law_423 : decode cL_law 423 = .ok (.iaload, 1) := by decide +kernel
theorem dL_law_424 : decode cL_law 424 = .ok (.invokevirtual 36, 3) := by decide +kernel
theorem dL_law_427 : decode cL_law 427 = .ok (.aload_n 2, 1) := by decide +kernel
theorem dL_law_428 : decode cL_law 428 = .ok (.aload_n 0, 1) := by decide +kernel
theorem dL_law_429 : decode cL_law 429 = .ok (.iload_n 3, 1) := by decide +kernel
theorem dL_law_430 : decode cL_law 430 = .ok (.iconst 1, 1) := by decide +kernel
theorem dL_law_431 : decode cL_law 431 = .ok (.iadd, 1) := by decide +kernel
theorem dL_law_432 : decode cL_law 432 = .ok (.iaload, 1) := by decide +kernel
theorem dL_law_433 : decode cL_law 433 = .ok (.aload_n 0, 1) := by decide +kernel
theorem dL_law_434 : decode cL_law 434 = .ok (.iload_n 3, 1) := by decide +kernel
theorem dL_law_435 : decode cL_law 435 = .ok (.iconst 2, 1) := by decide +kernel
theorem dL_law_436 : decode cL_law 436 = .ok (.iadd, 1) := by decide +kernel
theorem dL_law_437 : decode cL_law 437 = .ok (.iaload, 1) := by decide +kernel
theorem dL_law_438 : decode cL_law 438 = .ok (.invokevirtual 39, 3) := by decide +kernel
theorem dL_law_441 : decode cL_law 441 = .ok (.if_icmp .eq 1133, 3) := by decide +kernel
theorem dL_law_444 : decode cL_law 444 = .ok (.iconst 0, 1) := by decide +kernel
theorem dL_law_445 : decode cL_law 445 = .ok (.ireturn, 1) := by decide +kernel
theorem dL_law_446 : decode cL_law 446 = .ok (.aload_n 1, 1) := by decide +kernel
theorem dL_law_447 : decode cL_law 447 = .ok (.invokevirtual 40, 3) := by decide +kernel
theorem dL_law_450 : decode cL_law 450 = .ok (.aload_n 2, 1) := by decide +kernel
theorem dL_law_451 : decode cL_law 451 = .ok (.invokevirtual 44, 3) := by decide +kernel
theorem dL_law_454 : decode cL_law 454 = .ok (.if_icmp .eq 1120, 3) := by decide +kernel
theorem dL_law_457 : decode cL_law 457 = .ok (.iconst 0, 1) := by decide +kernel
theorem dL_law_458 : decode cL_law 458 = .ok (.ireturn, 1) := by decide +kernel
theorem dL_law_459 : decode cL_law 459 = .ok (.aload_n 1, 1) := by decide +kernel
theorem dL_law_460 : decode cL_law 460 = .ok (.aload_n 0, 1) := by decide +kernel
theorem dL_law_461 : decode cL_law 461 = .ok (.iload_n 3, 1) := by decide +kernel
theorem dL_law_462 : decode cL_law 462 = .ok (.iconst 1, 1) := by decide +kernel
theorem dL_law_463 : decode cL_law 463 = .ok (.iadd, 1) := by decide +kernel
theorem dL_law_464 : decode cL_law 464 = .ok (.iaload, 1) := by decide +kernel
theorem dL_law_465 : decode cL_law 465 = .ok (.invokevirtual 45, 3) := by decide +kernel
theorem dL_law_468 : decode cL_law 468 = .ok (.aload_n 2, 1) := by decide +kernel
theorem dL_law_469 : decode cL_law 469 = .ok (.aload_n 0, 1) := by decide +kernel
theorem dL_law_470 : decode cL_law 470 = .ok (.iload_n 3, 1) := by decide +kernel
theorem dL_law_471 : decode cL_law 471 = .ok (.iconst 1, 1) := by decide +kernel
theorem dL_law_472 : decode cL_law 472 = .ok (.iadd, 1) := by decide +kernel
theorem dL_law_473 : decode cL_law 473 = .ok (.iaload, 1) := by decide +kernel
theorem dL_law_474 : decode cL_law 474 = .ok (.invokevirtual 48, 3) := by decide +kernel
theorem dL_law_477 : decode cL_law 477 = .ok (.if_icmp .eq 1097, 3) := by decide +kernel
theorem dL_law_480 : decode cL_law 480 = .ok (.iconst 0, 1) := by decide +kernel
theorem dL_law_481 : decode cL_law 481 = .ok (.ireturn, 1) := by decide +kernel
theorem dL_law_482 : decode cL_law 482 = .ok (.aload_n 1, 1) := by decide +kernel
theorem dL_law_483 : decode cL_law 483 = .ok (.aload_n 0, 1) := by decide +kernel
theorem dL_law_484 : decode cL_law 484 = .ok (.iload_n 3, 1) := by decide +kernel
theorem dL_law_485 : decode cL_law 485 = .ok (.iconst 1, 1) := by decide +kernel
theorem dL_law_486 : decode cL_law 486 = .ok (.iadd, 1) := by decide +kernel
theorem dL_law_487 : decode cL_law 487 = .ok (.iaload, 1) := by decide +kernel
theorem dL_law_488 : decode cL_law 488 = .ok (.invokevirtual 49, 3) := by decide +kernel
theorem dL_law_491 : decode cL_law 491 = .ok (.aload_n 2, 1) := by decide +kernel
theorem dL_law_492 : decode cL_law 492 = .ok (.aload_n 0, 1) := by decide +kernel
theorem dL_law_493 : decode cL_law 493 = .ok (.iload_n 3, 1) := by decide +kernel
theorem dL_law_494 : decode cL_law 494 = .ok (.iconst 1, 1) := by decide +kernel
theorem dL_law_495 : decode cL_law 495 = .ok (.iadd, 1) := by decide +kernel
theorem dL_law_496 : decode cL_law 496 = .ok (.iaload, 1) := by decide +kernel
theorem dL_law_497 : decode cL_law 497 = .ok (.invokevirtual 52, 3) := by decide +kernel
theorem dL_law_500 : decode cL_law 500 = .ok (.if_icmp .eq 1074, 3) := by decide +kernel
theorem dL_law_503 : decode cL_law 503 = .ok (.iconst 0, 1) := by decide +kernel
theorem dL_law_504 : decode cL_law 504 = .ok (.ireturn, 1) := by decide +kernel
theorem dL_law_505 : decode cL_law 505 = .ok (.aload_n 1, 1) := by decide +kernel
theorem dL_law_506 : decode cL_law 506 = .ok (.aload_n 0, 1) := by decide +kernel
theorem dL_law_507 : decode cL_law 507 = .ok (.iload_n 3, 1) := by decide +kernel
theorem dL_law_508 : decode cL_law 508 = .ok (.iconst 1, 1) := by decide +kernel
theorem dL_law_509 : decode cL_law 509 = .ok (.iadd, 1) := by decide +kernel
theorem dL_law_510 : decode cL_law 510 = .ok (.iaload, 1) := by decide +kernel
theorem dL_law_511 : decode cL_law 511 = .ok (.invokevirtual 53, 3) := by decide +kernel
theorem dL_law_514 : decode cL_law 514 = .ok (.aload_n 2, 1) := by decide +kernel
theorem dL_law_515 : decode cL_law 515 = .ok (.aload_n 0, 1) := by decide +kernel
theorem dL_law_516 : decode cL_law 516 = .ok (.iload_n 3, 1) := by decide +kernel
theorem dL_law_517 : decode cL_law 517 = .ok (.iconst 1, 1) := by decide +kernel
theorem dL_law_518 : decode cL_law 518 = .ok (.iadd, 1) := by decide +kernel
theorem dL_law_519 : decode cL_law 519 = .ok (.iaload, 1) := by decide +kernel
theorem dL_law_520 : decode cL_law 520 = .ok (.invokevirtual 56, 3) := by decide +kernel
theorem dL_law_523 : decode cL_law 523 = .ok (.if_icmp .eq 1051, 3) := by decide +kernel
theorem dL_law_526 : decode cL_law 526 = .ok (.iconst 0, 1) := by decide +kernel
theorem dL_law_527 : decode cL_law 527 = .ok (.ireturn, 1) := by decide +kernel
theorem dL_law_528 : decode cL_law 528 = .ok (.aload_n 1, 1) := by decide +kernel
theorem dL_law_529 : decode cL_law 529 = .ok (.aload_n 0, 1) := by decide +kernel
theorem dL_law_530 : decode cL_law 530 = .ok (.iload_n 3, 1) := by decide +kernel
theorem dL_law_531 : decode cL_law 531 = .ok (.iconst 1, 1) := by decide +kernel
theorem dL_law_532 : decode cL_law 532 = .ok (.iadd, 1) := by decide +kernel
theorem dL_law_533 : decode cL_law 533 = .ok (.iaload, 1) := by decide +kernel
theorem dL_law_534 : decode cL_law 534 = .ok (.invokevirtual 57, 3) := by decide +kernel
theorem dL_law_537 : decode cL_law 537 = .ok (.aload_n 2, 1) := by decide +kernel
theorem dL_law_538 : decode cL_law 538 = .ok (.aload_n 0, 1) := by decide +kernel
theorem dL_law_539 : decode cL_law 539 = .ok (.iload_n 3, 1) := by decide +kernel
theorem dL_law_540 : decode cL_law 540 = .ok (.iconst 1, 1) := by decide +kernel
theorem dL_law_541 : decode cL_law 541 = .ok (.iadd, 1) := by decide +kernel
theorem dL_law_542 : decode cL_law 542 = .ok (.iaload, 1) := by decide +kernel
theorem dL_law_543 : decode cL_law 543 = .ok (.invokevirtual 60, 3) := by decide +kernel
theorem dL_law_546 : decode cL_law 546 = .ok (.if_icmp .eq 1028, 3) := by decide +kernel
theorem dL_law_549 : decode cL_law 549 = .ok (.iconst 0, 1) := by decide +kernel
theorem dL_law_550 : decode cL_law 550 = .ok (.ireturn, 1) := by decide +kernel
theorem dL_law_551 : decode cL_law 551 = .ok (.aload_n 1, 1) := by decide +kernel
theorem dL_law_552 : decode cL_law 552 = .ok (.aload_n 0, 1) := by decide +kernel
theorem dL_law_553 : decode cL_law 553 = .ok (.iload_n 3, 1) := by decide +kernel
theorem dL_law_554 : decode cL_law 554 = .ok (.iconst 1, 1) := by decide +kernel
theorem dL_law_555 : decode cL_law 555 = .ok (.iadd, 1) := by decide +kernel
theorem dL_law_556 : decode cL_law 556 = .ok (.iaload, 1) := by decide +kernel
theorem dL_law_557 : decode cL_law 557 = .ok (.aload_n 0, 1) := by decide +kernel
theorem dL_law_558 : decode cL_law 558 = .ok (.iload_n 3, 1) := by decide +kernel
theorem dL_law_559 : decode cL_law 559 = .ok (.iconst 2, 1) := by decide +kernel
theorem dL_law_560 : decode cL_law 560 = .ok (.iadd, 1) := by decide +kernel
theorem dL_law_561 : decode cL_law 561 = .ok (.iaload, 1) := by decide +kernel
theorem dL_law_562 : decode cL_law 562 = .ok (.aload_n 0, 1) := by decide +kernel
theorem dL_law_563 : decode cL_law 563 = .ok (.iload_n 3, 1) := by decide +kernel
theorem dL_law_564 : decode cL_law 564 = .ok (.iconst 3, 1) := by decide +kernel
theorem dL_law_565 : decode cL_law 565 = .ok (.iadd, 1) := by decide +kernel
theorem dL_law_566 : decode cL_law 566 = .ok (.iaload, 1) := by decide +kernel
theorem dL_law_567 : decode cL_law 567 = .ok (.invokevirtual 61, 3) := by decide +kernel
theorem dL_law_570 : decode cL_law 570 = .ok (.aload_n 2, 1) := by decide +kernel
theorem dL_law_571 : decode cL_law 571 = .ok (.aload_n 0, 1) := by decide +kernel
theorem dL_law_572 : decode cL_law 572 = .ok (.iload_n 3, 1) := by decide +kernel
theorem dL_law_573 : decode cL_law 573 = .ok (.iconst 1, 1) := by decide +kernel
theorem dL_law_574 : decode cL_law 574 = .ok (.iadd, 1) := by decide +kernel
theorem dL_law_575 : decode cL_law 575 = .ok (.iaload, 1) := by decide +kernel
theorem dL_law_576 : decode cL_law 576 = .ok (.aload_n 0, 1) := by decide +kernel
theorem dL_law_577 : decode cL_law 577 = .ok (.iload_n 3, 1) := by decide +kernel
theorem dL_law_578 : decode cL_law 578 = .ok (.iconst 2, 1) := by decide +kernel
theorem dL_law_579 : decode cL_law 579 = .ok (.iadd, 1) := by decide +kernel
theorem dL_law_580 : decode cL_law 580 = .ok (.iaload, 1) := by decide +kernel
theorem dL_law_581 : decode cL_law 581 = .ok (.aload_n 0, 1) := by decide +kernel
theorem dL_law_582 : decode cL_law 582 = .ok (.iload_n 3, 1) := by decide +kernel
theorem dL_law_583 : decode cL_law 583 = .ok (.iconst 3, 1) := by decide +kernel
theorem dL_law_584 : decode cL_law 584 = .ok (.iadd, 1) := by decide +kernel
theorem dL_law_585 : decode cL_law 585 = .ok (.iaload, 1) := by decide +kernel
theorem dL_law_586 : decode cL_law 586 = .ok (.invokevirtual 64, 3) := by decide +kernel
theorem dL_law_589 : decode cL_law 589 = .ok (.if_icmp .eq 985, 3) := by decide +kernel
theorem dL_law_592 : decode cL_law 592 = .ok (.iconst 0, 1) := by decide +kernel
theorem dL_law_593 : decode cL_law 593 = .ok (.ireturn, 1) := by decide +kernel
theorem dL_law_594 : decode cL_law 594 = .ok (.aload_n 1, 1) := by decide +kernel
theorem dL_law_595 : decode cL_law 595 = .ok (.invokevirtual 65, 3) := by decide +kernel
theorem dL_law_598 : decode cL_law 598 = .ok (.aload_n 2, 1) := by decide +kernel
theorem dL_law_599 : decode cL_law 599 = .ok (.invokevirtual 68, 3) := by decide +kernel
theorem dL_law_602 : decode cL_law 602 = .ok (.if_icmp .eq 972, 3) := by decide +kernel
theorem dL_law_605 : decode cL_law 605 = .ok (.iconst 0, 1) := by decide +kernel
theorem dL_law_606 : decode cL_law 606 = .ok (.ireturn, 1) := by decide +kernel
theorem dL_law_607 : decode cL_law 607 = .ok (.aload_n 1, 1) := by decide +kernel
theorem dL_law_608 : decode cL_law 608 = .ok (.aload_n 0, 1) := by decide +kernel
theorem dL_law_609 : decode cL_law 609 = .ok (.iload_n 3, 1) := by decide +kernel
theorem dL_law_610 : decode cL_law 610 = .ok (.iconst 1, 1) := by decide +kernel
theorem dL_law_611 : decode cL_law 611 = .ok (.iadd, 1) := by decide +kernel
theorem dL_law_612 : decode cL_law 612 = .ok (.iaload, 1) := by decide +kernel
theorem dL_law_613 : decode cL_law 613 = .ok (.invokevirtual 69, 3) := by decide +kernel
theorem dL_law_616 : decode cL_law 616 = .ok (.aload_n 2, 1) := by decide +kernel
theorem dL_law_617 : decode cL_law 617 = .ok (.aload_n 0, 1) := by decide +kernel
theorem dL_law_618 : decode cL_law 618 = .ok (.iload_n 3, 1) := by decide +kernel
theorem dL_law_619 : decode cL_law 619 = .ok (.iconst 1, 1) := by decide +kernel
theorem dL_law_620 : decode cL_law 620 = .ok (.iadd, 1) := by decide +kernel
theorem dL_law_621 : decode cL_law 621 = .ok (.iaload, 1) := by decide +kernel
theorem dL_law_622 : decode cL_law 622 = .ok (.invokevirtual 72, 3) := by decide +kernel
theorem dL_law_625 : decode cL_law 625 = .ok (.if_icmp .eq 949, 3) := by decide +kernel
theorem dL_law_628 : decode cL_law 628 = .ok (.iconst 0, 1) := by decide +kernel
theorem dL_law_629 : decode cL_law 629 = .ok (.ireturn, 1) := by decide +kernel
theorem dL_law_630 : decode cL_law 630 = .ok (.aload_n 1, 1) := by decide +kernel
theorem dL_law_631 : decode cL_law 631 = .ok (.invokevirtual 73, 3) := by decide +kernel
theorem dL_law_634 : decode cL_law 634 = .ok (.aload_n 2, 1) := by decide +kernel
theorem dL_law_635 : decode cL_law 635 = .ok (.invokevirtual 76, 3) := by decide +kernel
theorem dL_law_638 : decode cL_law 638 = .ok (.if_icmp .eq 936, 3) := by decide +kernel
theorem dL_law_641 : decode cL_law 641 = .ok (.iconst 0, 1) := by decide +kernel
theorem dL_law_642 : decode cL_law 642 = .ok (.ireturn, 1) := by decide +kernel
theorem dL_law_643 : decode cL_law 643 = .ok (.aload_n 1, 1) := by decide +kernel
theorem dL_law_644 : decode cL_law 644 = .ok (.aload_n 0, 1) := by decide +kernel
theorem dL_law_645 : decode cL_law 645 = .ok (.iload_n 3, 1) := by decide +kernel
theorem dL_law_646 : decode cL_law 646 = .ok (.iconst 1, 1) := by decide +kernel
theorem dL_law_647 : decode cL_law 647 = .ok (.iadd, 1) := by decide +kernel
theorem dL_law_648 : decode cL_law 648 = .ok (.iaload, 1) := by decide +kernel
theorem dL_law_649 : decode cL_law 649 = .ok (.aload_n 0, 1) := by decide +kernel
theorem dL_law_650 : decode cL_law 650 = .ok (.iload_n 3, 1) := by decide +kernel
theorem dL_law_651 : decode cL_law 651 = .ok (.iconst 2, 1) := by decide +kernel
theorem dL_law_652 : decode cL_law 652 = .ok (.iadd, 1) := by decide +kernel
theorem dL_law_653 : decode cL_law 653 = .ok (.iaload, 1) := by decide +kernel
theorem dL_law_654 : decode cL_law 654 = .ok (.aload_n 0, 1) := by decide +kernel
theorem dL_law_655 : decode cL_law 655 = .ok (.iload_n 3, 1) := by decide +kernel
theorem dL_law_656 : decode cL_law 656 = .ok (.iconst 3, 1) := by decide +kernel
theorem dL_law_657 : decode cL_law 657 = .ok (.iadd, 1) := by decide +kernel
theorem dL_law_658 : decode cL_law 658 = .ok (.iaload, 1) := by decide +kernel
theorem dL_law_659 : decode cL_law 659 = .ok (.invokevirtual 77, 3) := by decide +kernel
theorem dL_law_662 : decode cL_law 662 = .ok (.aload_n 2, 1) := by decide +kernel
theorem dL_law_663 : decode cL_law 663 = .ok (.aload_n 0, 1) := by decide +kernel
theorem dL_law_664 : decode cL_law 664 = .ok (.iload_n 3, 1) := by decide +kernel
theorem dL_law_665 : decode cL_law 665 = .ok (.iconst 1, 1) := by decide +kernel
theorem dL_law_666 : decode cL_law 666 = .ok (.iadd, 1) := by decide +kernel
theorem dL_law_667 : decode cL_law 667 = .ok (.iaload, 1) := by decide +kernel
theorem dL_law_668 : decode cL_law 668 = .ok (.aload_n 0, 1) := by decide +kernel
theorem dL_law_669 : decode cL_law 669 = .ok (.iload_n 3, 1) := by decide +kernel
theorem dL_law_670 : decode cL_law 670 = .ok (.iconst 2, 1) := by decide +kernel
theorem dL_law_671 : decode cL_law 671 = .ok (.iadd, 1) := by decide +kernel
theorem dL_law_672 : decode cL_law 672 = .ok (.iaload, 1) := by decide +kernel
theorem dL_law_673 : decode cL_law 673 = .ok (.aload_n 0, 1) := by decide +kernel
theorem dL_law_674 : decode cL_law 674 = .ok (.iload_n 3, 1) := by decide +kernel
theorem dL_law_675 : decode cL_law 675 = .ok (.iconst 3, 1) := by decide +kernel
theorem dL_law_676 : decode cL_law 676 = .ok (.iadd, 1) := by decide +kernel
theorem dL_law_677 : decode cL_law 677 = .ok (.iaload, 1) := by decide +kernel
theorem dL_law_678 : decode cL_law 678 = .ok (.invokevirtual 80, 3) := by decide +kernel
theorem dL_law_681 : decode cL_law 681 = .ok (.if_icmp .eq 893, 3) := by decide +kernel
theorem dL_law_684 : decode cL_law 684 = .ok (.iconst 0, 1) := by decide +kernel
theorem dL_law_685 : decode cL_law 685 = .ok (.ireturn, 1) := by decide +kernel
theorem dL_law_686 : decode cL_law 686 = .ok (.aload_n 1, 1) := by decide +kernel
theorem dL_law_687 : decode cL_law 687 = .ok (.aload_n 0, 1) := by decide +kernel
theorem dL_law_688 : decode cL_law 688 = .ok (.iload_n 3, 1) := by decide +kernel
theorem dL_law_689 : decode cL_law 689 = .ok (.iconst 1, 1) := by decide +kernel
theorem dL_law_690 : decode cL_law 690 = .ok (.iadd, 1) := by decide +kernel
theorem dL_law_691 : decode cL_law 691 = .ok (.iaload, 1) := by decide +kernel
theorem dL_law_692 : decode cL_law 692 = .ok (.invokevirtual 81, 3) := by decide +kernel
theorem dL_law_695 : decode cL_law 695 = .ok (.aload_n 2, 1) := by decide +kernel
theorem dL_law_696 : decode cL_law 696 = .ok (.aload_n 0, 1) := by decide +kernel
theorem dL_law_697 : decode cL_law 697 = .ok (.iload_n 3, 1) := by decide +kernel
theorem dL_law_698 : decode cL_law 698 = .ok (.iconst 1, 1) := by decide +kernel
theorem dL_law_699 : decode cL_law 699 = .ok (.iadd, 1) := by decide +kernel
theorem dL_law_700 : decode cL_law 700 = .ok (.iaload, 1) := by decide +kernel
theorem dL_law_701 : decode cL_law 701 = .ok (.invokevirtual 84, 3) := by decide +kernel
theorem dL_law_704 : decode cL_law 704 = .ok (.if_icmp .eq 870, 3) := by decide +kernel
theorem dL_law_707 : decode cL_law 707 = .ok (.iconst 0, 1) := by decide +kernel
theorem dL_law_708 : decode cL_law 708 = .ok (.ireturn, 1) := by decide +kernel
theorem dL_law_709 : decode cL_law 709 = .ok (.aload_n 1, 1) := by decide +kernel
theorem dL_law_710 : decode cL_law 710 = .ok (.aload_n 0, 1) := by decide +kernel
theorem dL_law_711 : decode cL_law 711 = .ok (.iload_n 3, 1) := by decide +kernel
theorem dL_law_712 : decode cL_law 712 = .ok (.iconst 1, 1) := by decide +kernel
theorem dL_law_713 : decode cL_law 713 = .ok (.iadd, 1) := by decide +kernel
theorem dL_law_714 : decode cL_law 714 = .ok (.iaload, 1) := by decide +kernel
theorem dL_law_715 : decode cL_law 715 = .ok (.aload_n 0, 1) := by decide +kernel
theorem dL_law_716 : decode cL_law 716 = .ok (.iload_n 3, 1) := by decide +kernel
theorem dL_law_717 : decode cL_law 717 = .ok (.iconst 2, 1) := by decide +kernel
theorem dL_law_718 : decode cL_law 718 = .ok (.iadd, 1) := by decide +kernel
theorem dL_law_719 : decode cL_law 719 = .ok (.iaload, 1) := by decide +kernel
theorem dL_law_720 : decode cL_law 720 = .ok (.invokevirtual 85, 3) := by decide +kernel
theorem dL_law_723 : decode cL_law 723 = .ok (.aload_n 2, 1) := by decide +kernel
theorem dL_law_724 : decode cL_law 724 = .ok (.aload_n 0, 1) := by decide +kernel
theorem dL_law_725 : decode cL_law 725 = .ok (.iload_n 3, 1) := by decide +kernel
theorem dL_law_726 : decode cL_law 726 = .ok (.iconst 1, 1) := by decide +kernel
theorem dL_law_727 : decode cL_law 727 = .ok (.iadd, 1) := by decide +kernel
theorem dL_law_728 : decode cL_law 728 = .ok (.iaload, 1) := by decide +kernel
theorem dL_law_729 : decode cL_law 729 = .ok (.aload_n 0, 1) := by decide +kernel
theorem dL_law_730 : decode cL_law 730 = .ok (.iload_n 3, 1) := by decide +kernel
theorem dL_law_731 : decode cL_law 731 = .ok (.iconst 2, 1) := by decide +kernel
theorem dL_law_732 : decode cL_law 732 = .ok (.iadd, 1) := by decide +kernel
theorem dL_law_733 : decode cL_law 733 = .ok (.iaload, 1) := by decide +kernel
theorem dL_law_734 : decode cL_law 734 = .ok (.invokevirtual 88, 3) := by decide +kernel
theorem dL_law_737 : decode cL_law 737 = .ok (.if_icmp .eq 837, 3) := by decide +kernel
theorem dL_law_740 : decode cL_law 740 = .ok (.iconst 0, 1) := by decide +kernel
theorem dL_law_741 : decode cL_law 741 = .ok (.ireturn, 1) := by decide +kernel
theorem dL_law_742 : decode cL_law 742 = .ok (.aload_n 1, 1) := by decide +kernel
theorem dL_law_743 : decode cL_law 743 = .ok (.aload_n 0, 1) := by decide +kernel
theorem dL_law_744 : decode cL_law 744 = .ok (.iload_n 3, 1) := by decide +kernel
theorem dL_law_745 : decode cL_law 745 = .ok (.iconst 1, 1) := by decide +kernel
theorem dL_law_746 : decode cL_law 746 = .ok (.iadd, 1) := by decide +kernel
theorem dL_law_747 : decode cL_law 747 = .ok (.iaload, 1) := by decide +kernel
theorem dL_law_748 : decode cL_law 748 = .ok (.aload_n 0, 1) := by decide +kernel
theorem dL_law_749 : decode cL_law 749 = .ok (.iload_n 3, 1) := by decide +kernel
theorem dL_law_750 : decode cL_law 750 = .ok (.iconst 2, 1) := by decide +kernel
theorem dL_law_751 : decode cL_law 751 = .ok (.iadd, 1) := by decide +kernel
theorem dL_law_752 : decode cL_law 752 = .ok (.iaload, 1) := by decide +kernel
theorem dL_law_753 : decode cL_law 753 = .ok (.aload_n 0, 1) := by decide +kernel
theorem dL_law_754 : decode cL_law 754 = .ok (.iload_n 3, 1) := by decide +kernel
theorem dL_law_755 : decode cL_law 755 = .ok (.iconst 3, 1) := by decide +kernel
theorem dL_law_756 : decode cL_law 756 = .ok (.iadd, 1) := by decide +kernel
theorem dL_law_757 : decode cL_law 757 = .ok (.iaload, 1) := by decide +kernel
theorem dL_law_758 : decode cL_law 758 = .ok (.invokevirtual 89, 3) := by decide +kernel
theorem dL_law_761 : decode cL_law 761 = .ok (.aload_n 2, 1) := by decide +kernel
theorem dL_law_762 : decode cL_law 762 = .ok (.aload_n 0, 1) := by decide +kernel
theorem dL_law_763 : decode cL_law 763 = .ok (.iload_n 3, 1) := by decide +kernel
theorem dL_law_764 : decode cL_law 764 = .ok (.iconst 1, 1) := by decide +kernel
theorem dL_law_765 : decode cL_law 765 = .ok (.iadd, 1) := by decide +kernel
theorem dL_law_766 : decode cL_law 766 = .ok (.iaload, 1) := by decide +kernel
theorem dL_law_767 : decode cL_law 767 = .ok (.aload_n 0, 1) := by decide +kernel
theorem dL_law_768 : decode cL_law 768 = .ok (.iload_n 3, 1) := by decide +kernel
theorem dL_law_769 : decode cL_law 769 = .ok (.iconst 2, 1) := by decide +kernel
theorem dL_law_770 : decode cL_law 770 = .ok (.iadd, 1) := by decide +kernel
theorem dL_law_771 : decode cL_law 771 = .ok (.iaload, 1) := by decide +kernel
theorem dL_law_772 : decode cL_law 772 = .ok (.aload_n 0, 1) := by decide +kernel
theorem dL_law_773 : decode cL_law 773 = .ok (.iload_n 3, 1) := by decide +kernel
theorem dL_law_774 : decode cL_law 774 = .ok (.iconst 3, 1) := by decide +kernel
theorem dL_law_775 : decode cL_law 775 = .ok (.iadd, 1) := by decide +kernel
theorem dL_law_776 : decode cL_law 776 = .ok (.iaload, 1) := by decide +kernel
theorem dL_law_777 : decode cL_law 777 = .ok (.invokevirtual 92, 3) := by decide +kernel
theorem dL_law_780 : decode cL_law 780 = .ok (.if_icmp .eq 794, 3) := by decide +kernel
theorem dL_law_783 : decode cL_law 783 = .ok (.iconst 0, 1) := by decide +kernel
theorem dL_law_784 : decode cL_law 784 = .ok (.ireturn, 1) := by decide +kernel
theorem dL_law_785 : decode cL_law 785 = .ok (.aload_n 1, 1) := by decide +kernel
theorem dL_law_786 : decode cL_law 786 = .ok (.aload_n 0, 1) := by decide +kernel
theorem dL_law_787 : decode cL_law 787 = .ok (.iload_n 3, 1) := by decide +kernel
theorem dL_law_788 : decode cL_law 788 = .ok (.iconst 1, 1) := by decide +kernel
theorem dL_law_789 : decode cL_law 789 = .ok (.iadd, 1) := by decide +kernel
theorem dL_law_790 : decode cL_law 790 = .ok (.iaload, 1) := by decide +kernel
theorem dL_law_791 : decode cL_law 791 = .ok (.invokevirtual 93, 3) := by decide +kernel
theorem dL_law_794 : decode cL_law 794 = .ok (.aload_n 2, 1) := by decide +kernel
theorem dL_law_795 : decode cL_law 795 = .ok (.aload_n 0, 1) := by decide +kernel
theorem dL_law_796 : decode cL_law 796 = .ok (.iload_n 3, 1) := by decide +kernel
theorem dL_law_797 : decode cL_law 797 = .ok (.iconst 1, 1) := by decide +kernel
theorem dL_law_798 : decode cL_law 798 = .ok (.iadd, 1) := by decide +kernel
theorem dL_law_799 : decode cL_law 799 = .ok (.iaload, 1) := by decide +kernel
theorem dL_law_800 : decode cL_law 800 = .ok (.invokevirtual 96, 3) := by decide +kernel
theorem dL_law_803 : decode cL_law 803 = .ok (.if_icmp .eq 771, 3) := by decide +kernel
theorem dL_law_806 : decode cL_law 806 = .ok (.iconst 0, 1) := by decide +kernel
theorem dL_law_807 : decode cL_law 807 = .ok (.ireturn, 1) := by decide +kernel
theorem dL_law_808 : decode cL_law 808 = .ok (.aload_n 1, 1) := by decide +kernel
theorem dL_law_809 : decode cL_law 809 = .ok (.aload_n 0, 1) := by decide +kernel
theorem dL_law_810 : decode cL_law 810 = .ok (.iload_n 3, 1) := by decide +kernel
theorem dL_law_811 : decode cL_law 811 = .ok (.iconst 1, 1) := by decide +kernel
theorem dL_law_812 : decode cL_law 812 = .ok (.iadd, 1) := by decide +kernel
theorem dL_law_813 : decode cL_law 813 = .ok (.iaload, 1) := by decide +kernel
theorem dL_law_814 : decode cL_law 814 = .ok (.aload_n 0, 1) := by decide +kernel
theorem dL_law_815 : decode cL_law 815 = .ok (.iload_n 3, 1) := by decide +kernel
theorem dL_law_816 : decode cL_law 816 = .ok (.iconst 2, 1) := by decide +kernel
theorem dL_law_817 : decode cL_law 817 = .ok (.iadd, 1) := by decide +kernel
theorem dL_law_818 : decode cL_law 818 = .ok (.iaload, 1) := by decide +kernel
theorem dL_law_819 : decode cL_law 819 = .ok (.invokevirtual 97, 3) := by decide +kernel
theorem dL_law_822 : decode cL_law 822 = .ok (.aload_n 2, 1) := by decide +kernel
theorem dL_law_823 : decode cL_law 823 = .ok (.aload_n 0, 1) := by decide +kernel
theorem dL_law_824 : decode cL_law 824 = .ok (.iload_n 3, 1) := by decide +kernel
theorem dL_law_825 : decode cL_law 825 = .ok (.iconst 1, 1) := by decide +kernel
theorem dL_law_826 : decode cL_law 826 = .ok (.iadd, 1) := by decide +kernel
theorem dL_law_827 : decode cL_law 827 = .ok (.iaload, 1) := by decide +kernel
theorem dL_law_828 : decode cL_law 828 = .ok (.aload_n 0, 1) := by decide +kernel
theorem dL_law_829 : decode cL_law 829 = .ok (.iload_n 3, 1) := by decide +kernel
theorem dL_law_830 : decode cL_law 830 = .ok (.iconst 2, 1) := by decide +kernel
theorem dL_law_831 : decode cL_law 831 = .ok (.iadd, 1) := by decide +kernel
theorem dL_law_832 : decode cL_law 832 = .ok (.iaload, 1) := by decide +kernel
theorem dL_law_833 : decode cL_law 833 = .ok (.invokevirtual 100, 3) := by decide +kernel
theorem dL_law_836 : decode cL_law 836 = .ok (.if_icmp .eq 738, 3) := by decide +kernel
theorem dL_law_839 : decode cL_law 839 = .ok (.iconst 0, 1) := by decide +kernel
theorem dL_law_840 : decode cL_law 840 = .ok (.ireturn, 1) := by decide +kernel
theorem dL_law_841 : decode cL_law 841 = .ok (.aload_n 1, 1) := by decide +kernel
theorem dL_law_842 : decode cL_law 842 = .ok (.aload_n 0, 1) := by decide +kernel
theorem dL_law_843 : decode cL_law 843 = .ok (.iload_n 3, 1) := by decide +kernel
theorem dL_law_844 : decode cL_law 844 = .ok (.iconst 1, 1) := by decide +kernel
theorem dL_law_845 : decode cL_law 845 = .ok (.iadd, 1) := by decide +kernel
theorem dL_law_846 : decode cL_law 846 = .ok (.iaload, 1) := by decide +kernel
theorem dL_law_847 : decode cL_law 847 = .ok (.aload_n 0, 1) := by decide +kernel
theorem dL_law_848 : decode cL_law 848 = .ok (.iload_n 3, 1) := by decide +kernel
theorem dL_law_849 : decode cL_law 849 = .ok (.iconst 2, 1) := by decide +kernel
theorem dL_law_850 : decode cL_law 850 = .ok (.iadd, 1) := by decide +kernel
theorem dL_law_851 : decode cL_law 851 = .ok (.iaload, 1) := by decide +kernel
theorem dL_law_852 : decode cL_law 852 = .ok (.aload_n 0, 1) := by decide +kernel
theorem dL_law_853 : decode cL_law 853 = .ok (.iload_n 3, 1) := by decide +kernel
theorem dL_law_854 : decode cL_law 854 = .ok (.iconst 3, 1) := by decide +kernel
theorem dL_law_855 : decode cL_law 855 = .ok (.iadd, 1) := by decide +kernel
theorem dL_law_856 : decode cL_law 856 = .ok (.iaload, 1) := by decide +kernel
theorem dL_law_857 : decode cL_law 857 = .ok (.invokevirtual 101, 3) := by decide +kernel
theorem dL_law_860 : decode cL_law 860 = .ok (.aload_n 2, 1) := by decide +kernel
theorem dL_law_861 : decode cL_law 861 = .ok (.aload_n 0, 1) := by decide +kernel
theorem dL_law_862 : decode cL_law 862 = .ok (.iload_n 3, 1) := by decide +kernel
theorem dL_law_863 : decode cL_law 863 = .ok (.iconst 1, 1) := by decide +kernel
theorem dL_law_864 : decode cL_law 864 = .ok (.iadd, 1) := by decide +kernel
theorem dL_law_865 : decode cL_law 865 = .ok (.iaload, 1) := by decide +kernel
theorem dL_law_866 : decode cL_law 866 = .ok (.aload_n 0, 1) := by decide +kernel
theorem dL_law_867 : decode cL_law 867 = .ok (.iload_n 3, 1) := by decide +kernel
theorem dL_law_868 : decode cL_law 868 = .ok (.iconst 2, 1) := by decide +kernel
theorem dL_law_869 : decode cL_law 869 = .ok (.iadd, 1) := by decide +kernel
theorem dL_law_870 : decode cL_law 870 = .ok (.iaload, 1) := by decide +kernel
theorem dL_law_871 : decode cL_law 871 = .ok (.aload_n 0, 1) := by decide +kernel
theorem dL_law_872 : decode cL_law 872 = .ok (.iload_n 3, 1) := by decide +kernel
theorem dL_law_873 : decode cL_law 873 = .ok (.iconst 3, 1) := by decide +kernel
theorem dL_law_874 : decode cL_law 874 = .ok (.iadd, 1) := by decide +kernel
theorem dL_law_875 : decode cL_law 875 = .ok (.iaload, 1) := by decide +kernel
theorem dL_law_876 : decode cL_law 876 = .ok (.invokevirtual 104, 3) := by decide +kernel
theorem dL_law_879 : decode cL_law 879 = .ok (.if_icmp .eq 695, 3) := by decide +kernel
theorem dL_law_882 : decode cL_law 882 = .ok (.iconst 0, 1) := by decide +kernel
theorem dL_law_883 : decode cL_law 883 = .ok (.ireturn, 1) := by decide +kernel
theorem dL_law_884 : decode cL_law 884 = .ok (.aload_n 1, 1) := by decide +kernel
theorem dL_law_885 : decode cL_law 885 = .ok (.aload_n 0, 1) := by decide +kernel
theorem dL_law_886 : decode cL_law 886 = .ok (.iload_n 3, 1) := by decide +kernel
theorem dL_law_887 : decode cL_law 887 = .ok (.iconst 1, 1) := by decide +kernel
theorem dL_law_888 : decode cL_law 888 = .ok (.iadd, 1) := by decide +kernel
theorem dL_law_889 : decode cL_law 889 = .ok (.iaload, 1) := by decide +kernel
theorem dL_law_890 : decode cL_law 890 = .ok (.aload_n 0, 1) := by decide +kernel
theorem dL_law_891 : decode cL_law 891 = .ok (.iload_n 3, 1) := by decide +kernel
theorem dL_law_892 : decode cL_law 892 = .ok (.iconst 2, 1) := by decide +kernel
theorem dL_law_893 : decode cL_law 893 = .ok (.iadd, 1) := by decide +kernel
theorem dL_law_894 : decode cL_law 894 = .ok (.iaload, 1) := by decide +kernel
theorem dL_law_895 : decode cL_law 895 = .ok (.aload_n 0, 1) := by decide +kernel
theorem dL_law_896 : decode cL_law 896 = .ok (.iload_n 3, 1) := by decide +kernel
theorem dL_law_897 : decode cL_law 897 = .ok (.iconst 3, 1) := by decide +kernel
theorem dL_law_898 : decode cL_law 898 = .ok (.iadd, 1) := by decide +kernel
theorem dL_law_899 : decode cL_law 899 = .ok (.iaload, 1) := by decide +kernel
theorem dL_law_900 : decode cL_law 900 = .ok (.aload_n 0, 1) := by decide +kernel
theorem dL_law_901 : decode cL_law 901 = .ok (.iload_n 3, 1) := by decide +kernel
theorem dL_law_902 : decode cL_law 902 = .ok (.iconst 4, 1) := by decide +kernel
theorem dL_law_903 : decode cL_law 903 = .ok (.iadd, 1) := by decide +kernel
theorem dL_law_904 : decode cL_law 904 = .ok (.iaload, 1) := by decide +kernel
theorem dL_law_905 : decode cL_law 905 = .ok (.invokevirtual 105, 3) := by decide +kernel
theorem dL_law_908 : decode cL_law 908 = .ok (.aload_n 2, 1) := by decide +kernel
theorem dL_law_909 : decode cL_law 909 = .ok (.aload_n 0, 1) := by decide +kernel
theorem dL_law_910 : decode cL_law 910 = .ok (.iload_n 3, 1) := by decide +kernel
theorem dL_law_911 : decode cL_law 911 = .ok (.iconst 1, 1) := by decide +kernel
theorem dL_law_912 : decode cL_law 912 = .ok (.iadd, 1) := by decide +kernel
theorem dL_law_913 : decode cL_law 913 = .ok (.iaload, 1) := by decide +kernel
theorem dL_law_914 : decode cL_law 914 = .ok (.aload_n 0, 1) := by decide +kernel
theorem dL_law_915 : decode cL_law 915 = .ok (.iload_n 3, 1) := by decide +kernel
theorem dL_law_916 : decode cL_law 916 = .ok (.iconst 2, 1) := by decide +kernel
theorem dL_law_917 : decode cL_law 917 = .ok (.iadd, 1) := by decide +kernel
theorem dL_law_918 : decode cL_law 918 = .ok (.iaload, 1) := by decide +kernel
theorem dL_law_919 : decode cL_law 919 = .ok (.aload_n 0, 1) := by decide +kernel
theorem dL_law_920 : decode cL_law 920 = .ok (.iload_n 3, 1) := by decide +kernel
theorem dL_law_921 : decode cL_law 921 = .ok (.iconst 3, 1) := by decide +kernel
theorem dL_law_922 : decode cL_law 922 = .ok (.iadd, 1) := by decide +kernel
theorem dL_law_923 : decode cL_law 923 = .ok (.iaload, 1) := by decide +kernel
theorem dL_law_924 : decode cL_law 924 = .ok (.aload_n 0, 1) := by decide +kernel
theorem dL_law_925 : decode cL_law 925 = .ok (.iload_n 3, 1) := by decide +kernel
theorem dL_law_926 : decode cL_law 926 = .ok (.iconst 4, 1) := by decide +kernel
theorem dL_law_927 : decode cL_law 927 = .ok (.iadd, 1) := by decide +kernel
theorem dL_law_928 : decode cL_law 928 = .ok (.iaload, 1) := by decide +kernel
theorem dL_law_929 : decode cL_law 929 = .ok (.invokevirtual 109, 3) := by decide +kernel
theorem dL_law_932 : decode cL_law 932 = .ok (.if_icmp .eq 642, 3) := by decide +kernel
theorem dL_law_935 : decode cL_law 935 = .ok (.iconst 0, 1) := by decide +kernel
theorem dL_law_936 : decode cL_law 936 = .ok (.ireturn, 1) := by decide +kernel
theorem dL_law_937 : decode cL_law 937 = .ok (.aload_n 1, 1) := by decide +kernel
theorem dL_law_938 : decode cL_law 938 = .ok (.aload_n 0, 1) := by decide +kernel
theorem dL_law_939 : decode cL_law 939 = .ok (.iload_n 3, 1) := by decide +kernel
theorem dL_law_940 : decode cL_law 940 = .ok (.iconst 1, 1) := by decide +kernel
theorem dL_law_941 : decode cL_law 941 = .ok (.iadd, 1) := by decide +kernel
theorem dL_law_942 : decode cL_law 942 = .ok (.iaload, 1) := by decide +kernel
theorem dL_law_943 : decode cL_law 943 = .ok (.aload_n 0, 1) := by decide +kernel
theorem dL_law_944 : decode cL_law 944 = .ok (.iload_n 3, 1) := by decide +kernel
theorem dL_law_945 : decode cL_law 945 = .ok (.iconst 2, 1) := by decide +kernel
theorem dL_law_946 : decode cL_law 946 = .ok (.iadd, 1) := by decide +kernel
theorem dL_law_947 : decode cL_law 947 = .ok (.iaload, 1) := by decide +kernel
theorem dL_law_948 : decode cL_law 948 = .ok (.aload_n 0, 1) := by decide +kernel
theorem dL_law_949 : decode cL_law 949 = .ok (.iload_n 3, 1) := by decide +kernel
theorem dL_law_950 : decode cL_law 950 = .ok (.iconst 3, 1) := by decide +kernel
theorem dL_law_951 : decode cL_law 951 = .ok (.iadd, 1) := by decide +kernel
theorem dL_law_952 : decode cL_law 952 = .ok (.iaload, 1) := by decide +kernel
theorem dL_law_953 : decode cL_law 953 = .ok (.aload_n 0, 1) := by decide +kernel
theorem dL_law_954 : decode cL_law 954 = .ok (.iload_n 3, 1) := by decide +kernel
theorem dL_law_955 : decode cL_law 955 = .ok (.iconst 4, 1) := by decide +kernel
theorem dL_law_956 : decode cL_law 956 = .ok (.iadd, 1) := by decide +kernel
theorem dL_law_957 : decode cL_law 957 = .ok (.iaload, 1) := by decide +kernel
theorem dL_law_958 : decode cL_law 958 = .ok (.invokevirtual 110, 3) := by decide +kernel
theorem dL_law_961 : decode cL_law 961 = .ok (.aload_n 2, 1) := by decide +kernel
theorem dL_law_962 : decode cL_law 962 = .ok (.aload_n 0, 1) := by decide +kernel
theorem dL_law_963 : decode cL_law 963 = .ok (.iload_n 3, 1) := by decide +kernel
theorem dL_law_964 : decode cL_law 964 = .ok (.iconst 1, 1) := by decide +kernel
theorem dL_law_965 : decode cL_law 965 = .ok (.iadd, 1) := by decide +kernel
theorem dL_law_966 : decode cL_law 966 = .ok (.iaload, 1) := by decide +kernel
theorem dL_law_967 : decode cL_law 967 = .ok (.aload_n 0, 1) := by decide +kernel
theorem dL_law_968 : decode cL_law 968 = .ok (.iload_n 3, 1) := by decide +kernel
theorem dL_law_969 : decode cL_law 969 = .ok (.iconst 2, 1) := by decide +kernel
theorem dL_law_970 : decode cL_law 970 = .ok (.iadd, 1) := by decide +kernel
theorem dL_law_971 : decode cL_law 971 = .ok (.iaload, 1) := by decide +kernel
theorem dL_law_972 : decode cL_law 972 = .ok (.aload_n 0, 1) := by decide +kernel
theorem dL_law_973 : decode cL_law 973 = .ok (.iload_n 3, 1) := by decide +kernel
theorem dL_law_974 : decode cL_law 974 = .ok (.iconst 3, 1) := by decide +kernel
theorem dL_law_975 : decode cL_law 975 = .ok (.iadd, 1) := by decide +kernel
theorem dL_law_976 : decode cL_law 976 = .ok (.iaload, 1) := by decide +kernel
theorem dL_law_977 : decode cL_law 977 = .ok (.aload_n 0, 1) := by decide +kernel
theorem dL_law_978 : decode cL_law 978 = .ok (.iload_n 3, 1) := by decide +kernel
theorem dL_law_979 : decode cL_law 979 = .ok (.iconst 4, 1) := by decide +kernel
theorem dL_law_980 : decode cL_law 980 = .ok (.iadd, 1) := by decide +kernel
theorem dL_law_981 : decode cL_law 981 = .ok (.iaload, 1) := by decide +kernel
theorem dL_law_982 : decode cL_law 982 = .ok (.invokevirtual 113, 3) := by decide +kernel
theorem dL_law_985 : decode cL_law 985 = .ok (.if_icmp .eq 589, 3) := by decide +kernel
theorem dL_law_988 : decode cL_law 988 = .ok (.iconst 0, 1) := by decide +kernel
theorem dL_law_989 : decode cL_law 989 = .ok (.ireturn, 1) := by decide +kernel
theorem dL_law_990 : decode cL_law 990 = .ok (.aload_n 1, 1) := by decide +kernel
theorem dL_law_991 : decode cL_law 991 = .ok (.aload_n 0, 1) := by decide +kernel
theorem dL_law_992 : decode cL_law 992 = .ok (.iload_n 3, 1) := by decide +kernel
theorem dL_law_993 : decode cL_law 993 = .ok (.iconst 1, 1) := by decide +kernel
theorem dL_law_994 : decode cL_law 994 = .ok (.iadd, 1) := by decide +kernel
theorem dL_law_995 : decode cL_law 995 = .ok (.iaload, 1) := by decide +kernel
theorem dL_law_996 : decode cL_law 996 = .ok (.aload_n 0, 1) := by decide +kernel
theorem dL_law_997 : decode cL_law 997 = .ok (.iload_n 3, 1) := by decide +kernel
theorem dL_law_998 : decode cL_law 998 = .ok (.iconst 2, 1) := by decide +kernel
theorem dL_law_999 : decode cL_law 999 = .ok (.iadd, 1) := by decide +kernel
theorem dL_law_1000 : decode cL_law 1000 = .ok (.iaload, 1) := by decide +kernel
theorem dL_law_1001 : decode cL_law 1001 = .ok (.invokevirtual 114, 3) := by decide +kernel
theorem dL_law_1004 : decode cL_law 1004 = .ok (.aload_n 2, 1) := by decide +kernel
theorem dL_law_1005 : decode cL_law 1005 = .ok (.aload_n 0, 1) := by decide +kernel
theorem dL_law_1006 : decode cL_law 1006 = .ok (.iload_n 3, 1) := by decide +kernel
theorem dL_law_1007 : decode cL_law 1007 = .ok (.iconst 1, 1) := by decide +kernel
theorem dL_law_1008 : decode cL_law 1008 = .ok (.iadd, 1) := by decide +kernel
theorem dL_law_1009 : decode cL_law 1009 = .ok (.iaload, 1) := by decide +kernel
theorem dL_law_1010 : decode cL_law 1010 = .ok (.aload_n 0, 1) := by decide +kernel
theorem dL_law_1011 : decode cL_law 1011 = .ok (.iload_n 3, 1) := by decide +kernel
theorem dL_law_1012 : decode cL_law 1012 = .ok (.iconst 2, 1) := by decide +kernel
theorem dL_law_1013 : decode cL_law 1013 = .ok (.iadd, 1) := by decide +kernel
theorem dL_law_1014 : decode cL_law 1014 = .ok (.iaload, 1) := by decide +kernel
theorem dL_law_1015 : decode cL_law 1015 = .ok (.invokevirtual 117, 3) := by decide +kernel
theorem dL_law_1018 : decode cL_law 1018 = .ok (.if_icmp .eq 556, 3) := by decide +kernel
theorem dL_law_1021 : decode cL_law 1021 = .ok (.iconst 0, 1) := by decide +kernel
theorem dL_law_1022 : decode cL_law 1022 = .ok (.ireturn, 1) := by decide +kernel
theorem dL_law_1023 : decode cL_law 1023 = .ok (.aload_n 1, 1) := by decide +kernel
theorem dL_law_1024 : decode cL_law 1024 = .ok (.aload_n 0, 1) := by decide +kernel
theorem dL_law_1025 : decode cL_law 1025 = .ok (.iload_n 3, 1) := by decide +kernel
theorem dL_law_1026 : decode cL_law 1026 = .ok (.iconst 1, 1) := by decide +kernel
theorem dL_law_1027 : decode cL_law 1027 = .ok (.iadd, 1) := by decide +kernel
theorem dL_law_1028 : decode cL_law 1028 = .ok (.iaload, 1) := by decide +kernel
theorem dL_law_1029 : decode cL_law 1029 = .ok (.aload_n 0, 1) := by decide +kernel
theorem dL_law_1030 : decode cL_law 1030 = .ok (.iload_n 3, 1) := by decide +kernel
theorem dL_law_1031 : decode cL_law 1031 = .ok (.iconst 2, 1) := by decide +kernel
theorem dL_law_1032 : decode cL_law 1032 = .ok (.iadd, 1) := by decide +kernel
theorem dL_law_1033 : decode cL_law 1033 = .ok (.iaload, 1) := by decide +kernel
theorem dL_law_1034 : decode cL_law 1034 = .ok (.invokevirtual 118, 3) := by decide +kernel
theorem dL_law_1037 : decode cL_law 1037 = .ok (.aload_n 2, 1) := by decide +kernel
theorem dL_law_1038 : decode cL_law 1038 = .ok (.aload_n 0, 1) := by decide +kernel
theorem dL_law_1039 : decode cL_law 1039 = .ok (.iload_n 3, 1) := by decide +kernel
theorem dL_law_1040 : decode cL_law 1040 = .ok (.iconst 1, 1) := by decide +kernel
theorem dL_law_1041 : decode cL_law 1041 = .ok (.iadd, 1) := by decide +kernel
theorem dL_law_1042 : decode cL_law 1042 = .ok (.iaload, 1) := by decide +kernel
theorem dL_law_1043 : decode cL_law 1043 = .ok (.aload_n 0, 1) := by decide +kernel
theorem dL_law_1044 : decode cL_law 1044 = .ok (.iload_n 3, 1) := by decide +kernel
theorem dL_law_1045 : decode cL_law 1045 = .ok (.iconst 2, 1) := by decide +kernel
theorem dL_law_1046 : decode cL_law 1046 = .ok (.iadd, 1) := by decide +kernel
theorem dL_law_1047 : decode cL_law 1047 = .ok (.iaload, 1) := by decide +kernel
theorem dL_law_1048 : decode cL_law 1048 = .ok (.invokevirtual 121, 3) := by decide +kernel
theorem dL_law_1051 : decode cL_law 1051 = .ok (.if_icmp .eq 523, 3) := by decide +kernel
theorem dL_law_1054 : decode cL_law 1054 = .ok (.iconst 0, 1) := by decide +kernel
theorem dL_law_1055 : decode cL_law 1055 = .ok (.ireturn, 1) := by decide +kernel
theorem dL_law_1056 : decode cL_law 1056 = .ok (.aload_n 1, 1) := by decide +kernel
theorem dL_law_1057 : decode cL_law 1057 = .ok (.aload_n 0, 1) := by decide +kernel
theorem dL_law_1058 : decode cL_law 1058 = .ok (.iload_n 3, 1) := by decide +kernel
theorem dL_law_1059 : decode cL_law 1059 = .ok (.iconst 1, 1) := by decide +kernel
theorem dL_law_1060 : decode cL_law 1060 = .ok (.iadd, 1) := by decide +kernel
theorem dL_law_1061 : decode cL_law 1061 = .ok (.iaload, 1) := by decide +kernel
theorem dL_law_1062 : decode cL_law 1062 = .ok (.aload_n 0, 1) := by decide +kernel
theorem dL_law_1063 : decode cL_law 1063 = .ok (.iload_n 3, 1) := by decide +kernel
theorem dL_law_1064 : decode cL_law 1064 = .ok (.iconst 2, 1) := by decide +kernel
theorem dL_law_1065 : decode cL_law 1065 = .ok (.iadd, 1) := by decide +kernel
theorem dL_law_1066 : decode cL_law 1066 = .ok (.iaload, 1) := by decide +kernel
theorem dL_law_1067 : decode cL_law 1067 = .ok (.invokevirtual 122, 3) := by decide +kernel
theorem dL_law_1070 : decode cL_law 1070 = .ok (.aload_n 2, 1) := by decide +kernel
theorem dL_law_1071 : decode cL_law 1071 = .ok (.aload_n 0, 1) := by decide +kernel
theorem dL_law_1072 : decode cL_law 1072 = .ok (.iload_n 3, 1) := by decide +kernel
theorem dL_law_1073 : decode cL_law 1073 = .ok (.iconst 1, 1) := by decide +kernel
theorem dL_law_1074 : decode cL_law 1074 = .ok (.iadd, 1) := by decide +kernel
theorem dL_law_1075 : decode cL_law 1075 = .ok (.iaload, 1) := by decide +kernel
theorem dL_law_1076 : decode cL_law 1076 = .ok (.aload_n 0, 1) := by decide +kernel
theorem dL_law_1077 : decode cL_law 1077 = .ok (.iload_n 3, 1) := by decide +kernel
theorem dL_law_1078 : decode cL_law 1078 = .ok (.iconst 2, 1) := by decide +kernel
theorem dL_law_1079 : decode cL_law 1079 = .ok (.iadd, 1) := by decide +kernel
theorem dL_law_1080 : decode cL_law 1080 = .ok (.iaload, 1) := by decide +kernel
theorem dL_law_1081 : decode cL_law 1081 = .ok (.invokevirtual 125, 3) := by decide +kernel
theorem dL_law_1084 : decode cL_law 1084 = .ok (.if_icmp .eq 490, 3) := by decide +kernel
theorem dL_law_1087 : decode cL_law 1087 = .ok (.iconst 0, 1) := by decide +kernel
theorem dL_law_1088 : decode cL_law 1088 = .ok (.ireturn, 1) := by decide +kernel
theorem dL_law_1089 : decode cL_law 1089 = .ok (.aload_n 1, 1) := by decide +kernel
theorem dL_law_1090 : decode cL_law 1090 = .ok (.aload_n 0, 1) := by decide +kernel
theorem dL_law_1091 : decode cL_law 1091 = .ok (.iload_n 3, 1) := by decide +kernel
theorem dL_law_1092 : decode cL_law 1092 = .ok (.iconst 1, 1) := by decide +kernel
theorem dL_law_1093 : decode cL_law 1093 = .ok (.iadd, 1) := by decide +kernel
theorem dL_law_1094 : decode cL_law 1094 = .ok (.iaload, 1) := by decide +kernel
theorem dL_law_1095 : decode cL_law 1095 = .ok (.invokevirtual 126, 3) := by decide +kernel
theorem dL_law_1098 : decode cL_law 1098 = .ok (.aload_n 2, 1) := by decide +kernel
theorem dL_law_1099 : decode cL_law 1099 = .ok (.aload_n 0, 1) := by decide +kernel
theorem dL_law_1100 : decode cL_law 1100 = .ok (.iload_n 3, 1) := by decide +kernel
theorem dL_law_1101 : decode cL_law 1101 = .ok (.iconst 1, 1) := by decide +kernel
theorem dL_law_1102 : decode cL_law 1102 = .ok (.iadd, 1) := by decide +kernel
theorem dL_law_1103 : decode cL_law 1103 = .ok (.iaload, 1) := by decide +kernel
theorem dL_law_1104 : decode cL_law 1104 = .ok (.invokevirtual 129, 3) := by decide +kernel
theorem dL_law_1107 : decode cL_law 1107 = .ok (.if_icmp .eq 467, 3) := by decide +kernel
theorem dL_law_1110 : decode cL_law 1110 = .ok (.iconst 0, 1) := by decide +kernel
theorem dL_law_1111 : decode cL_law 1111 = .ok (.ireturn, 1) := by decide +kernel
theorem dL_law_1112 : decode cL_law 1112 = .ok (.aload_n 1, 1) := by decide +kernel
theorem dL_law_1113 : decode cL_law 1113 = .ok (.aload_n 0, 1) := by decide +kernel
theorem dL_law_1114 : decode cL_law 1114 = .ok (.iload_n 3, 1) := by decide +kernel
theorem dL_law_1115 : decode cL_law 1115 = .ok (.iconst 1, 1) := by decide +kernel
theorem dL_law_1116 : decode cL_law 1116 = .ok (.iadd, 1) := by decide +kernel
theorem dL_law_1117 : decode cL_law 1117 = .ok (.iaload, 1) := by decide +kernel
theorem dL_law_1118 : decode cL_law 1118 = .ok (.aload_n 0, 1) := by decide +kernel
theorem dL_law_1119 : decode cL_law 1119 = .ok (.iload_n 3, 1) := by decide +kernel
theorem dL_law_1120 : decode cL_law 1120 = .ok (.iconst 2, 1) := by decide +kernel
theorem dL_law_1121 : decode cL_law 1121 = .ok (.iadd, 1) := by decide +kernel
theorem dL_law_1122 : decode cL_law 1122 = .ok (.iaload, 1) := by decide +kernel
theorem dL_law_1123 : decode cL_law 1123 = .ok (.invokevirtual 130, 3) := by decide +kernel
theorem dL_law_1126 : decode cL_law 1126 = .ok (.aload_n 2, 1) := by decide +kernel
theorem dL_law_1127 : decode cL_law 1127 = .ok (.aload_n 0, 1) := by decide +kernel
theorem dL_law_1128 : decode cL_law 1128 = .ok (.iload_n 3, 1) := by decide +kernel
theorem dL_law_1129 : decode cL_law 1129 = .ok (.iconst 1, 1) := by decide +kernel
theorem dL_law_1130 : decode cL_law 1130 = .ok (.iadd, 1) := by decide +kernel
theorem dL_law_1131 : decode cL_law 1131 = .ok (.iaload, 1) := by decide +kernel
theorem dL_law_1132 : decode cL_law 1132 = .ok (.aload_n 0, 1) := by decide +kernel
theorem dL_law_1133 : decode cL_law 1133 = .ok (.iload_n 3, 1) := by decide +kernel
theorem dL_law_1134 : decode cL_law 1134 = .ok (.iconst 2, 1) := by decide +kernel
theorem dL_law_1135 : decode cL_law 1135 = .ok (.iadd, 1) := by decide +kernel
theorem dL_law_1136 : decode cL_law 1136 = .ok (.iaload, 1) := by decide +kernel
theorem dL_law_1137 : decode cL_law 1137 = .ok (.invokevirtual 134, 3) := by decide +kernel
theorem dL_law_1140 : decode cL_law 1140 = .ok (.lcmp, 1) := by decide +kernel
theorem dL_law_1141 : decode cL_law 1141 = .ok (.ifCond .eq 433, 3) := by decide +kernel
theorem dL_law_1144 : decode cL_law 1144 = .ok (.iconst 0, 1) := by decide +kernel
theorem dL_law_1145 : decode cL_law 1145 = .ok (.ireturn, 1) := by decide +kernel
theorem dL_law_1146 : decode cL_law 1146 = .ok (.aload_n 1, 1) := by decide +kernel
theorem dL_law_1147 : decode cL_law 1147 = .ok (.aload_n 0, 1) := by decide +kernel
theorem dL_law_1148 : decode cL_law 1148 = .ok (.iload_n 3, 1) := by decide +kernel
theorem dL_law_1149 : decode cL_law 1149 = .ok (.iconst 1, 1) := by decide +kernel
theorem dL_law_1150 : decode cL_law 1150 = .ok (.iadd, 1) := by decide +kernel
theorem dL_law_1151 : decode cL_law 1151 = .ok (.iaload, 1) := by decide +kernel
theorem dL_law_1152 : decode cL_law 1152 = .ok (.invokevirtual 135, 3) := by decide +kernel
theorem dL_law_1155 : decode cL_law 1155 = .ok (.aload_n 2, 1) := by decide +kernel
theorem dL_law_1156 : decode cL_law 1156 = .ok (.aload_n 0, 1) := by decide +kernel
theorem dL_law_1157 : decode cL_law 1157 = .ok (.iload_n 3, 1) := by decide +kernel
theorem dL_law_1158 : decode cL_law 1158 = .ok (.iconst 1, 1) := by decide +kernel
theorem dL_law_1159 : decode cL_law 1159 = .ok (.iadd, 1) := by decide +kernel
theorem dL_law_1160 : decode cL_law 1160 = .ok (.iaload, 1) := by decide +kernel
theorem dL_law_1161 : decode cL_law 1161 = .ok (.invokevirtual 138, 3) := by decide +kernel
theorem dL_law_1164 : decode cL_law 1164 = .ok (.if_icmp .eq 410, 3) := by decide +kernel
theorem dL_law_1167 : decode cL_law 1167 = .ok (.iconst 0, 1) := by decide +kernel
theorem dL_law_1168 : decode cL_law 1168 = .ok (.ireturn, 1) := by decide +kernel
theorem dL_law_1169 : decode cL_law 1169 = .ok (.aload_n 1, 1) := by decide +kernel
theorem dL_law_1170 : decode cL_law 1170 = .ok (.aload_n 0, 1) := by decide +kernel
theorem dL_law_1171 : decode cL_law 1171 = .ok (.iload_n 3, 1) := by decide +kernel
theorem dL_law_1172 : decode cL_law 1172 = .ok (.iconst 1, 1) := by decide +kernel
theorem dL_law_1173 : decode cL_law 1173 = .ok (.iadd, 1) := by decide +kernel
theorem dL_law_1174 : decode cL_law 1174 = .ok (.iaload, 1) := by decide +kernel
theorem dL_law_1175 : decode cL_law 1175 = .ok (.aload_n 0, 1) := by decide +kernel
theorem dL_law_1176 : decode cL_law 1176 = .ok (.iload_n 3, 1) := by decide +kernel
theorem dL_law_1177 : decode cL_law 1177 = .ok (.iconst 2, 1) := by decide +kernel
theorem dL_law_1178 : decode cL_law 1178 = .ok (.iadd, 1) := by decide +kernel
theorem dL_law_1179 : decode cL_law 1179 = .ok (.iaload, 1) := by decide +kernel
theorem dL_law_1180 : decode cL_law 1180 = .ok (.invokevirtual 139, 3) := by decide +kernel
theorem dL_law_1183 : decode cL_law 1183 = .ok (.aload_n 2, 1) := by decide +kernel
theorem dL_law_1184 : decode cL_law 1184 = .ok (.aload_n 0, 1) := by decide +kernel
theorem dL_law_1185 : decode cL_law 1185 = .ok (.iload_n 3, 1) := by decide +kernel
theorem dL_law_1186 : decode cL_law 1186 = .ok (.iconst 1, 1) := by decide +kernel
theorem dL_law_1187 : decode cL_law 1187 = .ok (.iadd, 1) := by decide +kernel
theorem dL_law_1188 : decode cL_law 1188 = .ok (.iaload, 1) := by decide +kernel
theorem dL_law_1189 : decode cL_law 1189 = .ok (.aload_n 0, 1) := by decide +kernel
theorem dL_law_1190 : decode cL_law 1190 = .ok (.iload_n 3, 1) := by decide +kernel
theorem dL_law_1191 : decode cL_law 1191 = .ok (.iconst 2, 1) := by decide +kernel
theorem dL_law_1192 : decode cL_law 1192 = .ok (.iadd, 1) := by decide +kernel
theorem dL_law_1193 : decode cL_law 1193 = .ok (.iaload, 1) := by decide +kernel
theorem dL_law_1194 : decode cL_law 1194 = .ok (.invokevirtual 142, 3) := by decide +kernel
theorem dL_law_1197 : decode cL_law 1197 = .ok (.if_icmp .eq 377, 3) := by decide +kernel
theorem dL_law_1200 : decode cL_law 1200 = .ok (.iconst 0, 1) := by decide +kernel
theorem dL_law_1201 : decode cL_law 1201 = .ok (.ireturn, 1) := by decide +kernel
theorem dL_law_1202 : decode cL_law 1202 = .ok (.aload_n 1, 1) := by decide +kernel
theorem dL_law_1203 : decode cL_law 1203 = .ok (.invokevirtual 143, 3) := by decide +kernel
theorem dL_law_1206 : decode cL_law 1206 = .ok (.aload_n 2, 1) := by decide +kernel
theorem dL_law_1207 : decode cL_law 1207 = .ok (.invokevirtual 146, 3) := by decide +kernel
theorem dL_law_1210 : decode cL_law 1210 = .ok (.if_icmp .eq 364, 3) := by decide +kernel
theorem dL_law_1213 : decode cL_law 1213 = .ok (.iconst 0, 1) := by decide +kernel
theorem dL_law_1214 : decode cL_law 1214 = .ok (.ireturn, 1) := by decide +kernel
theorem dL_law_1215 : decode cL_law 1215 = .ok (.aload_n 1, 1) := by decide +kernel
theorem dL_law_1216 : decode cL_law 1216 = .ok (.invokevirtual 147, 3) := by decide +kernel
theorem dL_law_1219 : decode cL_law 1219 = .ok (.aload_n 2, 1) := by decide +kernel
theorem dL_law_1220 : decode cL_law 1220 = .ok (.invokevirtual 150, 3) := by decide +kernel
theorem dL_law_1223 : decode cL_law 1223 = .ok (.if_icmp .eq 351, 3) := by decide +kernel
theorem dL_law_1226 : decode cL_law 1226 = .ok (.iconst 0, 1) := by decide +kernel
theorem dL_law_1227 : decode cL_law 1227 = .ok (.ireturn, 1) := by decide +kernel
theorem dL_law_1228 : decode cL_law 1228 = .ok (.aload_n 1, 1) := by decide +kernel
theorem dL_law_1229 : decode cL_law 1229 = .ok (.aload_n 0, 1) := by decide +kernel
theorem dL_law_1230 : decode cL_law 1230 = .ok (.iload_n 3, 1) := by decide +kernel
theorem dL_law_1231 : decode cL_law 1231 = .ok (.iconst 1, 1) := by decide +kernel
theorem dL_law_1232 : decode cL_law 1232 = .ok (.iadd, 1) := by decide +kernel
theorem dL_law_1233 : decode cL_law 1233 = .ok (.iaload, 1) := by decide +kernel
theorem dL_law_1234 : decode cL_law 1234 = .ok (.aload_n 0, 1) := by decide +kernel
theorem dL_law_1235 : decode cL_law 1235 = .ok (.iload_n 3, 1) := by decide +kernel
theorem dL_law_1236 : decode cL_law 1236 = .ok (.iconst 2, 1) := by decide +kernel
theorem dL_law_1237 : decode cL_law 1237 = .ok (.iadd, 1) := by decide +kernel
theorem dL_law_1238 : decode cL_law 1238 = .ok (.iaload, 1) := by decide +kernel
theorem dL_law_1239 : decode cL_law 1239 = .ok (.invokevirtual 151, 3) := by decide +kernel
theorem dL_law_1242 : decode cL_law 1242 = .ok (.aload_n 2, 1) := by decide +kernel
theorem dL_law_1243 : decode cL_law 1243 = .ok (.aload_n 0, 1) := by decide +kernel
theorem dL_law_1244 : decode cL_law 1244 = .ok (.iload_n 3, 1) := by decide +kernel
theorem dL_law_1245 : decode cL_law 1245 = .ok (.iconst 1, 1) := by decide +kernel
theorem dL_law_1246 : decode cL_law 1246 = .ok (.iadd, 1) := by decide +kernel
theorem dL_law_1247 : decode cL_law 1247 = .ok (.iaload, 1) := by decide +kernel
theorem dL_law_1248 : decode cL_law 1248 = .ok (.aload_n 0, 1) := by decide +kernel
theorem dL_law_1249 : decode cL_law 1249 = .ok (.iload_n 3, 1) := by decide +kernel
theorem dL_law_1250 : decode cL_law 1250 = .ok (.iconst 2, 1) := by decide +kernel
theorem dL_law_1251 : decode cL_law 1251 = .ok (.iadd, 1) := by decide +kernel
theorem dL_law_1252 : decode cL_law 1252 = .ok (.iaload, 1) := by decide +kernel
theorem dL_law_1253 : decode cL_law 1253 = .ok (.invokevirtual 154, 3) := by decide +kernel
theorem dL_law_1256 : decode cL_law 1256 = .ok (.if_icmp .eq 318, 3) := by decide +kernel
theorem dL_law_1259 : decode cL_law 1259 = .ok (.iconst 0, 1) := by decide +kernel
theorem dL_law_1260 : decode cL_law 1260 = .ok (.ireturn, 1) := by decide +kernel
theorem dL_law_1261 : decode cL_law 1261 = .ok (.aload_n 1, 1) := by decide +kernel
theorem dL_law_1262 : decode cL_law 1262 = .ok (.aload_n 0, 1) := by decide +kernel
theorem dL_law_1263 : decode cL_law 1263 = .ok (.iload_n 3, 1) := by decide +kernel
theorem dL_law_1264 : decode cL_law 1264 = .ok (.iconst 1, 1) := by decide +kernel
theorem dL_law_1265 : decode cL_law 1265 = .ok (.iadd, 1) := by decide +kernel
theorem dL_law_1266 : decode cL_law 1266 = .ok (.iaload, 1) := by decide +kernel
theorem dL_law_1267 : decode cL_law 1267 = .ok (.aload_n 0, 1) := by decide +kernel
theorem dL_law_1268 : decode cL_law 1268 = .ok (.iload_n 3, 1) := by decide +kernel
theorem dL_law_1269 : decode cL_law 1269 = .ok (.iconst 2, 1) := by decide +kernel
theorem dL_law_1270 : decode cL_law 1270 = .ok (.iadd, 1) := by decide +kernel
theorem dL_law_1271 : decode cL_law 1271 = .ok (.iaload, 1) := by decide +kernel
theorem dL_law_1272 : decode cL_law 1272 = .ok (.invokevirtual 155, 3) := by decide +kernel
theorem dL_law_1275 : decode cL_law 1275 = .ok (.aload_n 2, 1) := by decide +kernel
theorem dL_law_1276 : decode cL_law 1276 = .ok (.aload_n 0, 1) := by decide +kernel
theorem dL_law_1277 : decode cL_law 1277 = .ok (.iload_n 3, 1) := by decide +kernel
theorem dL_law_1278 : decode cL_law 1278 = .ok (.iconst 1, 1) := by decide +kernel
theorem dL_law_1279 : decode cL_law 1279 = .ok (.iadd, 1) := by decide +kernel
theorem dL_law_1280 : decode cL_law 1280 = .ok (.iaload, 1) := by decide +kernel
theorem dL_law_1281 : decode cL_law 1281 = .ok (.aload_n 0, 1) := by decide +kernel
theorem dL_law_1282 : decode cL_law 1282 = .ok (.iload_n 3, 1) := by decide +kernel
theorem dL_law_1283 : decode cL_law 1283 = .ok (.iconst 2, 1) := by decide +kernel
theorem dL_law_1284 : decode cL_law 1284 = .ok (.iadd, 1) := by decide +kernel
theorem dL_law_1285 : decode cL_law 1285 = .ok (.iaload, 1) := by decide +kernel
theorem dL_law_1286 : decode cL_law 1286 = .ok (.invokevirtual 158, 3) := by decide +kernel
theorem dL_law_1289 : decode cL_law 1289 = .ok (.if_icmp .eq 285, 3) := by decide +kernel
theorem dL_law_1292 : decode cL_law 1292 = .ok (.iconst 0, 1) := by decide +kernel
theorem dL_law_1293 : decode cL_law 1293 = .ok (.ireturn, 1) := by decide +kernel
theorem dL_law_1294 : decode cL_law 1294 = .ok (.aload_n 1, 1) := by decide +kernel
theorem dL_law_1295 : decode cL_law 1295 = .ok (.aload_n 0, 1) := by decide +kernel
theorem dL_law_1296 : decode cL_law 1296 = .ok (.iload_n 3, 1) := by decide +kernel
theorem dL_law_1297 : decode cL_law 1297 = .ok (.iconst 1, 1) := by decide +kernel
theorem dL_law_1298 : decode cL_law 1298 = .ok (.iadd, 1) := by decide +kernel
theorem dL_law_1299 : decode cL_law 1299 = .ok (.iaload, 1) := by decide +kernel
theorem dL_law_1300 : decode cL_law 1300 = .ok (.aload_n 0, 1) := by decide +kernel
theorem dL_law_1301 : decode cL_law 1301 = .ok (.iload_n 3, 1) := by decide +kernel
theorem dL_law_1302 : decode cL_law 1302 = .ok (.iconst 2, 1) := by decide +kernel
theorem dL_law_1303 : decode cL_law 1303 = .ok (.iadd, 1) := by decide +kernel
theorem dL_law_1304 : decode cL_law 1304 = .ok (.iaload, 1) := by decide +kernel
theorem dL_law_1305 : decode cL_law 1305 = .ok (.aload_n 0, 1) := by decide +kernel
theorem dL_law_1306 : decode cL_law 1306 = .ok (.iload_n 3, 1) := by decide +kernel
theorem dL_law_1307 : decode cL_law 1307 = .ok (.iconst 3, 1) := by decide +kernel
theorem dL_law_1308 : decode cL_law 1308 = .ok (.iadd, 1) := by decide +kernel
theorem dL_law_1309 : decode cL_law 1309 = .ok (.iaload, 1) := by decide +kernel
theorem dL_law_1310 : decode cL_law 1310 = .ok (.invokevirtual 159, 3) := by decide +kernel
theorem dL_law_1313 : decode cL_law 1313 = .ok (.aload_n 2, 1) := by decide +kernel
theorem dL_law_1314 : decode cL_law 1314 = .ok (.aload_n 0, 1) := by decide +kernel
theorem dL_law_1315 : decode cL_law 1315 = .ok (.iload_n 3, 1) := by decide +kernel
theorem dL_law_1316 : decode cL_law 1316 = .ok (.iconst 1, 1) := by decide +kernel
theorem dL_law_1317 : decode cL_law 1317 = .ok (.iadd, 1) := by decide +kernel
theorem dL_law_1318 : decode cL_law 1318 = .ok (.iaload, 1) := by decide +kernel
theorem dL_law_1319 : decode cL_law 1319 = .ok (.aload_n 0, 1) := by decide +kernel
theorem dL_law_1320 : decode cL_law 1320 = .ok (.iload_n 3, 1) := by decide +kernel
theorem dL_law_1321 : decode cL_law 1321 = .ok (.iconst 2, 1) := by decide +kernel
theorem dL_law_1322 : decode cL_law 1322 = .ok (.iadd, 1) := by decide +kernel
theorem dL_law_1323 : decode cL_law 1323 = .ok (.iaload, 1) := by decide +kernel
theorem dL_law_1324 : decode cL_law 1324 = .ok (.aload_n 0, 1) := by decide +kernel
theorem dL_law_1325 : decode cL_law 1325 = .ok (.iload_n 3, 1) := by decide +kernel
theorem dL_law_1326 : decode cL_law 1326 = .ok (.iconst 3, 1) := by decide +kernel
theorem dL_law_1327 : decode cL_law 1327 = .ok (.iadd, 1) := by decide +kernel
theorem dL_law_1328 : decode cL_law 1328 = .ok (.iaload, 1) := by decide +kernel
theorem dL_law_1329 : decode cL_law 1329 = .ok (.invokevirtual 162, 3) := by decide +kernel
theorem dL_law_1332 : decode cL_law 1332 = .ok (.if_icmp .eq 242, 3) := by decide +kernel
theorem dL_law_1335 : decode cL_law 1335 = .ok (.iconst 0, 1) := by decide +kernel
theorem dL_law_1336 : decode cL_law 1336 = .ok (.ireturn, 1) := by decide +kernel
theorem dL_law_1337 : decode cL_law 1337 = .ok (.aload_n 1, 1) := by decide +kernel
theorem dL_law_1338 : decode cL_law 1338 = .ok (.aload_n 0, 1) := by decide +kernel
theorem dL_law_1339 : decode cL_law 1339 = .ok (.iload_n 3, 1) := by decide +kernel
theorem dL_law_1340 : decode cL_law 1340 = .ok (.iconst 1, 1) := by decide +kernel
theorem dL_law_1341 : decode cL_law 1341 = .ok (.iadd, 1) := by decide +kernel
theorem dL_law_1342 : decode cL_law 1342 = .ok (.iaload, 1) := by decide +kernel
theorem dL_law_1343 : decode cL_law 1343 = .ok (.aload_n 0, 1) := by decide +kernel
theorem dL_law_1344 : decode cL_law 1344 = .ok (.iload_n 3, 1) := by decide +kernel
theorem dL_law_1345 : decode cL_law 1345 = .ok (.iconst 2, 1) := by decide +kernel
theorem dL_law_1346 : decode cL_law 1346 = .ok (.iadd, 1) := by decide +kernel
theorem dL_law_1347 : decode cL_law 1347 = .ok (.iaload, 1) := by decide +kernel
theorem dL_law_1348 : decode cL_law 1348 = .ok (.aload_n 0, 1) := by decide +kernel
theorem dL_law_1349 : decode cL_law 1349 = .ok (.iload_n 3, 1) := by decide +kernel
theorem dL_law_1350 : decode cL_law 1350 = .ok (.iconst 3, 1) := by decide +kernel
theorem dL_law_1351 : decode cL_law 1351 = .ok (.iadd, 1) := by decide +kernel
theorem dL_law_1352 : decode cL_law 1352 = .ok (.iaload, 1) := by decide +kernel
theorem dL_law_1353 : decode cL_law 1353 = .ok (.invokevirtual 163, 3) := by decide +kernel
theorem dL_law_1356 : decode cL_law 1356 = .ok (.aload_n 2, 1) := by decide +kernel
theorem dL_law_1357 : decode cL_law 1357 = .ok (.aload_n 0, 1) := by decide +kernel
theorem dL_law_1358 : decode cL_law 1358 = .ok (.iload_n 3, 1) := by decide +kernel
theorem dL_law_1359 : decode cL_law 1359 = .ok (.iconst 1, 1) := by decide +kernel
theorem dL_law_1360 : decode cL_law 1360 = .ok (.iadd, 1) := by decide +kernel
theorem dL_law_1361 : decode cL_law 1361 = .ok (.iaload, 1) := by decide +kernel
theorem dL_law_1362 : decode cL_law 1362 = .ok (.aload_n 0, 1) := by decide +kernel
theorem dL_law_1363 : decode cL_law 1363 = .ok (.iload_n 3, 1) := by decide +kernel
theorem dL_law_1364 : decode cL_law 1364 = .ok (.iconst 2, 1) := by decide +kernel
theorem dL_law_1365 : decode cL_law 1365 = .ok (.iadd, 1) := by decide +kernel
theorem dL_law_1366 : decode cL_law 1366 = .ok (.iaload, 1) := by decide +kernel
theorem dL_law_1367 : decode cL_law 1367 = .ok (.aload_n 0, 1) := by decide +kernel
theorem dL_law_1368 : decode cL_law 1368 = .ok (.iload_n 3, 1) := by decide +kernel
theorem dL_law_1369 : decode cL_law 1369 = .ok (.iconst 3, 1) := by decide +kernel
theorem dL_law_1370 : decode cL_law 1370 = .ok (.iadd, 1) := by decide +kernel
theorem dL_law_1371 : decode cL_law 1371 = .ok (.iaload, 1) := by decide +kernel
theorem dL_law_1372 : decode cL_law 1372 = .ok (.invokevirtual 166, 3) := by decide +kernel
theorem dL_law_1375 : decode cL_law 1375 = .ok (.if_icmp .eq 199, 3) := by decide +kernel
theorem dL_law_1378 : decode cL_law 1378 = .ok (.iconst 0, 1) := by decide +kernel
theorem dL_law_1379 : decode cL_law 1379 = .ok (.ireturn, 1) := by decide +kernel
theorem dL_law_1380 : decode cL_law 1380 = .ok (.aload_n 1, 1) := by decide +kernel
theorem dL_law_1381 : decode cL_law 1381 = .ok (.aload_n 0, 1) := by decide +kernel
theorem dL_law_1382 : decode cL_law 1382 = .ok (.iload_n 3, 1) := by decide +kernel
theorem dL_law_1383 : decode cL_law 1383 = .ok (.iconst 1, 1) := by decide +kernel
theorem dL_law_1384 : decode cL_law 1384 = .ok (.iadd, 1) := by decide +kernel
theorem dL_law_1385 : decode cL_law 1385 = .ok (.iaload, 1) := by decide +kernel
theorem dL_law_1386 : decode cL_law 1386 = .ok (.aload_n 0, 1) := by decide +kernel
theorem dL_law_1387 : decode cL_law 1387 = .ok (.iload_n 3, 1) := by decide +kernel
theorem dL_law_1388 : decode cL_law 1388 = .ok (.iconst 2, 1) := by decide +kernel
theorem dL_law_1389 : decode cL_law 1389 = .ok (.iadd, 1) := by decide +kernel
theorem dL_law_1390 : decode cL_law 1390 = .ok (.iaload, 1) := by decide +kernel
theorem dL_law_1391 : decode cL_law 1391 = .ok (.aload_n 0, 1) := by decide +kernel
theorem dL_law_1392 : decode cL_law 1392 = .ok (.iload_n 3, 1) := by decide +kernel
theorem dL_law_1393 : decode cL_law 1393 = .ok (.iconst 3, 1) := by decide +kernel
theorem dL_law_1394 : decode cL_law 1394 = .ok (.iadd, 1) := by decide +kernel
theorem dL_law_1395 : decode cL_law 1395 = .ok (.iaload, 1) := by decide +kernel
theorem dL_law_1396 : decode cL_law 1396 = .ok (.aload_n 0, 1) := by decide +kernel
theorem dL_law_1397 : decode cL_law 1397 = .ok (.iload_n 3, 1) := by decide +kernel
theorem dL_law_1398 : decode cL_law 1398 = .ok (.iconst 4, 1) := by decide +kernel
theorem dL_law_1399 : decode cL_law 1399 = .ok (.iadd, 1) := by decide +kernel
theorem dL_law_1400 : decode cL_law 1400 = .ok (.iaload, 1) := by decide +kernel
theorem dL_law_1401 : decode cL_law 1401 = .ok (.aload_n 0, 1) := by decide +kernel
theorem dL_law_1402 : decode cL_law 1402 = .ok (.iload_n 3, 1) := by decide +kernel
theorem dL_law_1403 : decode cL_law 1403 = .ok (.iconst 5, 1) := by decide +kernel
theorem dL_law_1404 : decode cL_law 1404 = .ok (.iadd, 1) := by decide +kernel
theorem dL_law_1405 : decode cL_law 1405 = .ok (.iaload, 1) := by decide +kernel
theorem dL_law_1406 : decode cL_law 1406 = .ok (.invokevirtual 167, 3) := by decide +kernel
theorem dL_law_1409 : decode cL_law 1409 = .ok (.aload_n 2, 1) := by decide +kernel
theorem dL_law_1410 : decode cL_law 1410 = .ok (.aload_n 0, 1) := by decide +kernel
theorem dL_law_1411 : decode cL_law 1411 = .ok (.iload_n 3, 1) := by decide +kernel
theorem dL_law_1412 : decode cL_law 1412 = .ok (.iconst 1, 1) := by decide +kernel
theorem dL_law_1413 : decode cL_law 1413 = .ok (.iadd, 1) := by decide +kernel
theorem dL_law_1414 : decode cL_law 1414 = .ok (.iaload, 1) := by decide +kernel
theorem dL_law_1415 : decode cL_law 1415 = .ok (.aload_n 0, 1) := by decide +kernel
theorem dL_law_1416 : decode cL_law 1416 = .ok (.iload_n 3, 1) := by decide +kernel
theorem dL_law_1417 : decode cL_law 1417 = .ok (.iconst 2, 1) := by decide +kernel
theorem dL_law_1418 : decode cL_law 1418 = .ok (.iadd, 1) := by decide +kernel
theorem dL_law_1419 : decode cL_law 1419 = .ok (.iaload, 1) := by decide +kernel
theorem dL_law_1420 : decode cL_law 1420 = .ok (.aload_n 0, 1) := by decide +kernel
theorem dL_law_1421 : decode cL_law 1421 = .ok (.iload_n 3, 1) := by decide +kernel
theorem dL_law_1422 : decode cL_law 1422 = .ok (.iconst 3, 1) := by decide +kernel
theorem dL_law_1423 : decode cL_law 1423 = .ok (.iadd, 1) := by decide +kernel
theorem dL_law_1424 : decode cL_law 1424 = .ok (.iaload, 1) := by decide +kernel
theorem dL_law_1425 : decode cL_law 1425 = .ok (.aload_n 0, 1) := by decide +kernel
theorem dL_law_1426 : decode cL_law 1426 = .ok (.iload_n 3, 1) := by decide +kernel
theorem dL_law_1427 : decode cL_law 1427 = .ok (.iconst 4, 1) := by decide +kernel
theorem dL_law_1428 : decode cL_law 1428 = .ok (.iadd, 1) := by decide +kernel
theorem dL_law_1429 : decode cL_law 1429 = .ok (.iaload, 1) := by decide +kernel
theorem dL_law_1430 : decode cL_law 1430 = .ok (.aload_n 0, 1) := by decide +kernel
theorem dL_law_1431 : decode cL_law 1431 = .ok (.iload_n 3, 1) := by decide +kernel
theorem dL_law_1432 : decode cL_law 1432 = .ok (.iconst 5, 1) := by decide +kernel
theorem dL_law_1433 : decode cL_law 1433 = .ok (.iadd, 1) := by decide +kernel
theorem dL_law_1434 : decode cL_law 1434 = .ok (.iaload, 1) := by decide +kernel
theorem dL_law_1435 : decode cL_law 1435 = .ok (.invokevirtual 171, 3) := by decide +kernel
theorem dL_law_1438 : decode cL_law 1438 = .ok (.if_icmp .eq 136, 3) := by decide +kernel
theorem dL_law_1441 : decode cL_law 1441 = .ok (.iconst 0, 1) := by decide +kernel
theorem dL_law_1442 : decode cL_law 1442 = .ok (.ireturn, 1) := by decide +kernel
theorem dL_law_1443 : decode cL_law 1443 = .ok (.aload_n 1, 1) := by decide +kernel
theorem dL_law_1444 : decode cL_law 1444 = .ok (.aload_n 0, 1) := by decide +kernel
theorem dL_law_1445 : decode cL_law 1445 = .ok (.iload_n 3, 1) := by decide +kernel
theorem dL_law_1446 : decode cL_law 1446 = .ok (.iconst 1, 1) := by decide +kernel
theorem dL_law_1447 : decode cL_law 1447 = .ok (.iadd, 1) := by decide +kernel
theorem dL_law_1448 : decode cL_law 1448 = .ok (.iaload, 1) := by decide +kernel
theorem dL_law_1449 : decode cL_law 1449 = .ok (.invokevirtual 172, 3) := by decide +kernel
theorem dL_law_1452 : decode cL_law 1452 = .ok (.aload_n 2, 1) := by decide +kernel
theorem dL_law_1453 : decode cL_law 1453 = .ok (.aload_n 0, 1) := by decide +kernel
theorem dL_law_1454 : decode cL_law 1454 = .ok (.iload_n 3, 1) := by decide +kernel
theorem dL_law_1455 : decode cL_law 1455 = .ok (.iconst 1, 1) := by decide +kernel
theorem dL_law_1456 : decode cL_law 1456 = .ok (.iadd, 1) := by decide +kernel
theorem dL_law_1457 : decode cL_law 1457 = .ok (.iaload, 1) := by decide +kernel
theorem dL_law_1458 : decode cL_law 1458 = .ok (.invokevirtual 175, 3) := by decide +kernel
theorem dL_law_1461 : decode cL_law 1461 = .ok (.if_icmp .eq 113, 3) := by decide +kernel
theorem dL_law_1464 : decode cL_law 1464 = .ok (.iconst 0, 1) := by decide +kernel
theorem dL_law_1465 : decode cL_law 1465 = .ok (.ireturn, 1) := by decide +kernel
theorem dL_law_1466 : decode cL_law 1466 = .ok (.aload_n 1, 1) := by decide +kernel
theorem dL_law_1467 : decode cL_law 1467 = .ok (.aload_n 0, 1) := by decide +kernel
theorem dL_law_1468 : decode cL_law 1468 = .ok (.iload_n 3, 1) := by decide +kernel
theorem dL_law_1469 : decode cL_law 1469 = .ok (.iconst 1, 1) := by decide +kernel
theorem dL_law_1470 : decode cL_law 1470 = .ok (.iadd, 1) := by decide +kernel
theorem dL_law_1471 : decode cL_law 1471 = .ok (.iaload, 1) := by decide +kernel
theorem dL_law_1472 : decode cL_law 1472 = .ok (.invokevirtual 176, 3) := by decide +kernel
theorem dL_law_1475 : decode cL_law 1475 = .ok (.aload_n 2, 1) := by decide +kernel
theorem dL_law_1476 : decode cL_law 1476 = .ok (.aload_n 0, 1) := by decide +kernel
theorem dL_law_1477 : decode cL_law 1477 = .ok (.iload_n 3, 1) := by decide +kernel
theorem dL_law_1478 : decode cL_law 1478 = .ok (.iconst 1, 1) := by decide +kernel
theorem dL_law_1479 : decode cL_law 1479 = .ok (.iadd, 1) := by decide +kernel
theorem dL_law_1480 : decode cL_law 1480 = .ok (.iaload, 1) := by decide +kernel
theorem dL_law_1481 : decode cL_law 1481 = .ok (.invokevirtual 179, 3) := by decide +kernel
theorem dL_law_1484 : decode cL_law 1484 = .ok (.if_icmp .eq 90, 3) := by decide +kernel
theorem dL_law_1487 : decode cL_law 1487 = .ok (.iconst 0, 1) := by decide +kernel
theorem dL_law_1488 : decode cL_law 1488 = .ok (.ireturn, 1) := by decide +kernel
theorem dL_law_1489 : decode cL_law 1489 = .ok (.aload_n 1, 1) := by decide +kernel
theorem dL_law_1490 : decode cL_law 1490 = .ok (.invokevirtual 180, 3) := by decide +kernel
theorem dL_law_1493 : decode cL_law 1493 = .ok (.aload_n 2, 1) := by decide +kernel
theorem dL_law_1494 : decode cL_law 1494 = .ok (.invokevirtual 183, 3) := by decide +kernel
theorem dL_law_1497 : decode cL_law 1497 = .ok (.if_icmp .eq 77, 3) := by decide +kernel
theorem dL_law_1500 : decode cL_law 1500 = .ok (.iconst 0, 1) := by decide +kernel
theorem dL_law_1501 : decode cL_law 1501 = .ok (.ireturn, 1) := by decide +kernel
theorem dL_law_1502 : decode cL_law 1502 = .ok (.aload_n 1, 1) := by decide +kernel
theorem dL_law_1503 : decode cL_law 1503 = .ok (.invokevirtual 184, 3) := by decide +kernel
theorem dL_law_1506 : decode cL_law 1506 = .ok (.aload_n 2, 1) := by decide +kernel
theorem dL_law_1507 : decode cL_law 1507 = .ok (.invokevirtual 187, 3) := by decide +kernel
theorem dL_law_1510 : decode cL_law 1510 = .ok (.if_icmp .eq 64, 3) := by decide +kernel
theorem dL_law_1513 : decode cL_law 1513 = .ok (.iconst 0, 1) := by decide +kernel
theorem dL_law_1514 : decode cL_law 1514 = .ok (.ireturn, 1) := by decide +kernel
theorem dL_law_1515 : decode cL_law 1515 = .ok (.aload_n 1, 1) := by decide +kernel
theorem dL_law_1516 : decode cL_law 1516 = .ok (.invokevirtual 188, 3) := by decide +kernel
theorem dL_law_1519 : decode cL_law 1519 = .ok (.aload_n 2, 1) := by decide +kernel
theorem dL_law_1520 : decode cL_law 1520 = .ok (.invokevirtual 191, 3) := by decide +kernel
theorem dL_law_1523 : decode cL_law 1523 = .ok (.if_icmp .eq 51, 3) := by decide +kernel
theorem dL_law_1526 : decode cL_law 1526 = .ok (.iconst 0, 1) := by decide +kernel
theorem dL_law_1527 : decode cL_law 1527 = .ok (.ireturn, 1) := by decide +kernel
theorem dL_law_1528 : decode cL_law 1528 = .ok (.aload_n 1, 1) := by decide +kernel
theorem dL_law_1529 : decode cL_law 1529 = .ok (.aload_n 0, 1) := by decide +kernel
theorem dL_law_1530 : decode cL_law 1530 = .ok (.iload_n 3, 1) := by decide +kernel
theorem dL_law_1531 : decode cL_law 1531 = .ok (.iconst 1, 1) := by decide +kernel
theorem dL_law_1532 : decode cL_law 1532 = .ok (.iadd, 1) := by decide +kernel
theorem dL_law_1533 : decode cL_law 1533 = .ok (.iaload, 1) := by decide +kernel
theorem dL_law_1534 : decode cL_law 1534 = .ok (.invokevirtual 192, 3) := by decide +kernel
theorem dL_law_1537 : decode cL_law 1537 = .ok (.aload_n 2, 1) := by decide +kernel
theorem dL_law_1538 : decode cL_law 1538 = .ok (.aload_n 0, 1) := by decide +kernel
theorem dL_law_1539 : decode cL_law 1539 = .ok (.iload_n 3, 1) := by decide +kernel
theorem dL_law_1540 : decode cL_law 1540 = .ok (.iconst 1, 1) := by decide +kernel
theorem dL_law_1541 : decode cL_law 1541 = .ok (.iadd, 1) := by decide +kernel
theorem dL_law_1542 : decode cL_law 1542 = .ok (.iaload, 1) := by decide +kernel
theorem dL_law_1543 : decode cL_law 1543 = .ok (.invokevirtual 195, 3) := by decide +kernel
theorem dL_law_1546 : decode cL_law 1546 = .ok (.if_icmp .eq 28, 3) := by decide +kernel
theorem dL_law_1549 : decode cL_law 1549 = .ok (.iconst 0, 1) := by decide +kernel
theorem dL_law_1550 : decode cL_law 1550 = .ok (.ireturn, 1) := by decide +kernel
theorem dL_law_1551 : decode cL_law 1551 = .ok (.aload_n 1, 1) := by decide +kernel
theorem dL_law_1552 : decode cL_law 1552 = .ok (.aload_n 0, 1) := by decide +kernel
theorem dL_law_1553 : decode cL_law 1553 = .ok (.iload_n 3, 1) := by decide +kernel
theorem dL_law_1554 : decode cL_law 1554 = .ok (.iconst 1, 1) := by decide +kernel
theorem dL_law_1555 : decode cL_law 1555 = .ok (.iadd, 1) := by decide +kernel
theorem dL_law_1556 : decode cL_law 1556 = .ok (.iaload, 1) := by decide +kernel
theorem dL_law_1557 : decode cL_law 1557 = .ok (.invokevirtual 196, 3) := by decide +kernel
theorem dL_law_1560 : decode cL_law 1560 = .ok (.aload_n 2, 1) := by decide +kernel
theorem dL_law_1561 : decode cL_law 1561 = .ok (.aload_n 0, 1) := by decide +kernel
theorem dL_law_1562 : decode cL_law 1562 = .ok (.iload_n 3, 1) := by decide +kernel
theorem dL_law_1563 : decode cL_law 1563 = .ok (.iconst 1, 1) := by decide +kernel
theorem dL_law_1564 : decode cL_law 1564 = .ok (.iadd, 1) := by decide +kernel
theorem dL_law_1565 : decode cL_law 1565 = .ok (.iaload, 1) := by decide +kernel
theorem dL_law_1566 : decode cL_law 1566 = .ok (.invokevirtual 199, 3) := by decide +kernel
theorem dL_law_1569 : decode cL_law 1569 = .ok (.if_icmp .eq 5, 3) := by decide +kernel
theorem dL_law_1572 : decode cL_law 1572 = .ok (.iconst 0, 1) := by decide +kernel
theorem dL_law_1573 : decode cL_law 1573 = .ok (.ireturn, 1) := by decide +kernel
theorem dL_law_1574 : decode cL_law 1574 = .ok (.iinc 3 6, 3) := by decide +kernel
theorem dL_law_1577 : decode cL_law 1577 = .ok (.goto (-1559), 3) := by decide +kernel
theorem dL_law_1580 : decode cL_law 1580 = .ok (.iconst 1, 1) := by decide +kernel
theorem dL_law_1581 : decode cL_law 1581 = .ok (.ireturn, 1) := by decide +kernel
end
