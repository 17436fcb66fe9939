section
-- ===== PART A: goes FIRST, ahead of the names: the tables' words, and 'selects' of the private methods out of them =====
/-- a private method of a class that the tables say can be made, by its rows of tables_1 -/
def lw_okq (q : MethodName × Nat) : Prop := (q.1.cls ≠ "java/lang/invoke/MethodHandle" ∧ q.1.cls ≠ "java/lang/invoke/VarHandle") ∧ Cond.instantiable q.1.cls q.2 ∈ tables_1 ∧ Cond.privateMethod q.1 ∈ tables_1 ∧ Cond.instanceMethod q.1 ∈ tables_1
theorem lw_p0 : lw_okq (⟨"PumpTalk", "found", "(I)I"⟩, 8) := ⟨⟨by decide +kernel, by decide +kernel⟩, List.mem_of_getElem? (i := 16) (by decide +kernel), List.mem_of_getElem? (i := 167) (by decide +kernel), List.mem_of_getElem? (i := 168) (by decide +kernel)⟩
theorem lw_p1 : lw_okq (⟨"PumpTalk", "isNoPair", "(II)Z"⟩, 8) := ⟨⟨by decide +kernel, by decide +kernel⟩, List.mem_of_getElem? (i := 16) (by decide +kernel), List.mem_of_getElem? (i := 257) (by decide +kernel), List.mem_of_getElem? (i := 258) (by decide +kernel)⟩
theorem lw_p2 : lw_okq (⟨"PumpTalk$Square", "exchange", "()I"⟩, 11) := ⟨⟨by decide +kernel, by decide +kernel⟩, List.mem_of_getElem? (i := 24) (by decide +kernel), List.mem_of_getElem? (i := 308) (by decide +kernel), List.mem_of_getElem? (i := 309) (by decide +kernel)⟩
theorem lw_p3 : lw_okq (⟨"PumpTalk", "gain", "(III)I"⟩, 8) := ⟨⟨by decide +kernel, by decide +kernel⟩, List.mem_of_getElem? (i := 16) (by decide +kernel), List.mem_of_getElem? (i := 370) (by decide +kernel), List.mem_of_getElem? (i := 371) (by decide +kernel)⟩
theorem lw_p4 : lw_okq (⟨"PumpTalk", "weighPairs", "(I)V"⟩, 8) := ⟨⟨by decide +kernel, by decide +kernel⟩, List.mem_of_getElem? (i := 16) (by decide +kernel), List.mem_of_getElem? (i := 395) (by decide +kernel), List.mem_of_getElem? (i := 396) (by decide +kernel)⟩
theorem lw_p5 : lw_okq (⟨"PumpTalk$Matching", "together", "(III)I"⟩, 2) := ⟨⟨by decide +kernel, by decide +kernel⟩, List.mem_of_getElem? (i := 101) (by decide +kernel), List.mem_of_getElem? (i := 414) (by decide +kernel), List.mem_of_getElem? (i := 415) (by decide +kernel)⟩
theorem lw_p6 : lw_okq (⟨"PumpTalk$Matching", "leastMate", "(III)I"⟩, 2) := ⟨⟨by decide +kernel, by decide +kernel⟩, List.mem_of_getElem? (i := 101) (by decide +kernel), List.mem_of_getElem? (i := 433) (by decide +kernel), List.mem_of_getElem? (i := 434) (by decide +kernel)⟩
theorem lw_p7 : lw_okq (⟨"PumpTalk", "bestTrait", "(IIII)I"⟩, 8) := ⟨⟨by decide +kernel, by decide +kernel⟩, List.mem_of_getElem? (i := 16) (by decide +kernel), List.mem_of_getElem? (i := 441) (by decide +kernel), List.mem_of_getElem? (i := 442) (by decide +kernel)⟩
theorem lw_p8 : lw_okq (⟨"PumpTalk", "gainAs", "(IIIII)I"⟩, 8) := ⟨⟨by decide +kernel, by decide +kernel⟩, List.mem_of_getElem? (i := 16) (by decide +kernel), List.mem_of_getElem? (i := 445) (by decide +kernel), List.mem_of_getElem? (i := 446) (by decide +kernel)⟩
theorem lw_p9 : lw_okq (⟨"PumpTalk", "lackOfFit", "(II)I"⟩, 8) := ⟨⟨by decide +kernel, by decide +kernel⟩, List.mem_of_getElem? (i := 16) (by decide +kernel), List.mem_of_getElem? (i := 461) (by decide +kernel), List.mem_of_getElem? (i := 462) (by decide +kernel)⟩
theorem lw_p10 : lw_okq (⟨"PumpTalk", "lackOfSheet", "(I)I"⟩, 8) := ⟨⟨by decide +kernel, by decide +kernel⟩, List.mem_of_getElem? (i := 16) (by decide +kernel), List.mem_of_getElem? (i := 465) (by decide +kernel), List.mem_of_getElem? (i := 466) (by decide +kernel)⟩
theorem lw_p11 : lw_okq (⟨"PumpTalk", "isAsTold", "(LPumpTalk$Sheet;III)Z"⟩, 8) := ⟨⟨by decide +kernel, by decide +kernel⟩, List.mem_of_getElem? (i := 16) (by decide +kernel), List.mem_of_getElem? (i := 477) (by decide +kernel), List.mem_of_getElem? (i := 478) (by decide +kernel)⟩
theorem lw_p12 : lw_okq (⟨"PumpTalk$Reader", "advance", "()V"⟩, 6) := ⟨⟨by decide +kernel, by decide +kernel⟩, List.mem_of_getElem? (i := 75) (by decide +kernel), List.mem_of_getElem? (i := 531) (by decide +kernel), List.mem_of_getElem? (i := 532) (by decide +kernel)⟩
theorem lw_p13 : lw_okq (⟨"PumpTalk$Reader", "sortAt", "(I)I"⟩, 6) := ⟨⟨by decide +kernel, by decide +kernel⟩, List.mem_of_getElem? (i := 75) (by decide +kernel), List.mem_of_getElem? (i := 535) (by decide +kernel), List.mem_of_getElem? (i := 536) (by decide +kernel)⟩
theorem lw_p14 : lw_okq (⟨"PumpTalk$Reader", "readNumber", "()V"⟩, 6) := ⟨⟨by decide +kernel, by decide +kernel⟩, List.mem_of_getElem? (i := 75) (by decide +kernel), List.mem_of_getElem? (i := 539) (by decide +kernel), List.mem_of_getElem? (i := 540) (by decide +kernel)⟩
theorem lw_p15 : lw_okq (⟨"PumpTalk$Reader", "readItem", "(LPumpTalk$Square;)Z"⟩, 6) := ⟨⟨by decide +kernel, by decide +kernel⟩, List.mem_of_getElem? (i := 75) (by decide +kernel), List.mem_of_getElem? (i := 543) (by decide +kernel), List.mem_of_getElem? (i := 544) (by decide +kernel)⟩
def lw_privs_1 : List (MethodName × Nat) := [(⟨"PumpTalk", "found", "(I)I"⟩, 8), (⟨"PumpTalk", "isNoPair", "(II)Z"⟩, 8), (⟨"PumpTalk$Square", "exchange", "()I"⟩, 11), (⟨"PumpTalk", "gain", "(III)I"⟩, 8), (⟨"PumpTalk", "weighPairs", "(I)V"⟩, 8), (⟨"PumpTalk$Matching", "together", "(III)I"⟩, 2), (⟨"PumpTalk$Matching", "leastMate", "(III)I"⟩, 2), (⟨"PumpTalk", "bestTrait", "(IIII)I"⟩, 8), (⟨"PumpTalk", "gainAs", "(IIIII)I"⟩, 8), (⟨"PumpTalk", "lackOfFit", "(II)I"⟩, 8), (⟨"PumpTalk", "lackOfSheet", "(I)I"⟩, 8), (⟨"PumpTalk", "isAsTold", "(LPumpTalk$Sheet;III)Z"⟩, 8), (⟨"PumpTalk$Reader", "advance", "()V"⟩, 6), (⟨"PumpTalk$Reader", "sortAt", "(I)I"⟩, 6), (⟨"PumpTalk$Reader", "readNumber", "()V"⟩, 6), (⟨"PumpTalk$Reader", "readItem", "(LPumpTalk$Square;)Z"⟩, 6)]
theorem lw_r1 : ∀ q ∈ lw_privs_1, lw_okq q := List.forall_mem_cons.mpr ⟨lw_p0, List.forall_mem_cons.mpr ⟨lw_p1, List.forall_mem_cons.mpr ⟨lw_p2, List.forall_mem_cons.mpr ⟨lw_p3, List.forall_mem_cons.mpr ⟨lw_p4, List.forall_mem_cons.mpr ⟨lw_p5, List.forall_mem_cons.mpr ⟨lw_p6, List.forall_mem_cons.mpr ⟨lw_p7, List.forall_mem_cons.mpr ⟨lw_p8, List.forall_mem_cons.mpr ⟨lw_p9, List.forall_mem_cons.mpr ⟨lw_p10, List.forall_mem_cons.mpr ⟨lw_p11, List.forall_mem_cons.mpr ⟨lw_p12, List.forall_mem_cons.mpr ⟨lw_p13, List.forall_mem_cons.mpr ⟨lw_p14, List.forall_mem_cons.mpr ⟨lw_p15, fun _ h => absurd h List.not_mem_nil⟩⟩⟩⟩⟩⟩⟩⟩⟩⟩⟩⟩⟩⟩⟩⟩
theorem lw_p16 : lw_okq (⟨"PumpTalk$Reader", "isWord", "(Ljava/lang/String;)Z"⟩, 6) := ⟨⟨by decide +kernel, by decide +kernel⟩, List.mem_of_getElem? (i := 75) (by decide +kernel), List.mem_of_getElem? (i := 557) (by decide +kernel), List.mem_of_getElem? (i := 558) (by decide +kernel)⟩
theorem lw_p17 : lw_okq (⟨"PumpTalk$Reader", "readPerson", "(LPumpTalk$Square;I)Z"⟩, 6) := ⟨⟨by decide +kernel, by decide +kernel⟩, List.mem_of_getElem? (i := 75) (by decide +kernel), List.mem_of_getElem? (i := 609) (by decide +kernel), List.mem_of_getElem? (i := 610) (by decide +kernel)⟩
theorem lw_p18 : lw_okq (⟨"PumpTalk$Reader", "isNumberUpTo", "(I)Z"⟩, 6) := ⟨⟨by decide +kernel, by decide +kernel⟩, List.mem_of_getElem? (i := 75) (by decide +kernel), List.mem_of_getElem? (i := 616) (by decide +kernel), List.mem_of_getElem? (i := 617) (by decide +kernel)⟩
theorem lw_p19 : lw_okq (⟨"PumpTalk$Reader", "readViews", "(LPumpTalk$Square;I)Z"⟩, 6) := ⟨⟨by decide +kernel, by decide +kernel⟩, List.mem_of_getElem? (i := 75) (by decide +kernel), List.mem_of_getElem? (i := 622) (by decide +kernel), List.mem_of_getElem? (i := 623) (by decide +kernel)⟩
theorem lw_p20 : lw_okq (⟨"PumpTalk$Reader", "isSign", "(I)Z"⟩, 6) := ⟨⟨by decide +kernel, by decide +kernel⟩, List.mem_of_getElem? (i := 75) (by decide +kernel), List.mem_of_getElem? (i := 626) (by decide +kernel), List.mem_of_getElem? (i := 627) (by decide +kernel)⟩
theorem lw_p21 : lw_okq (⟨"PumpTalk$Reader", "readPair", "(LPumpTalk$Square;)Z"⟩, 6) := ⟨⟨by decide +kernel, by decide +kernel⟩, List.mem_of_getElem? (i := 75) (by decide +kernel), List.mem_of_getElem? (i := 632) (by decide +kernel), List.mem_of_getElem? (i := 633) (by decide +kernel)⟩
theorem lw_p22 : lw_okq (⟨"PumpTalk$Reader", "readSubject", "(LPumpTalk$Square;)Z"⟩, 6) := ⟨⟨by decide +kernel, by decide +kernel⟩, List.mem_of_getElem? (i := 75) (by decide +kernel), List.mem_of_getElem? (i := 638) (by decide +kernel), List.mem_of_getElem? (i := 639) (by decide +kernel)⟩
theorem lw_p23 : lw_okq (⟨"PumpTalkModel", "finds", "(I)I"⟩, 22) := ⟨⟨by decide +kernel, by decide +kernel⟩, List.mem_of_getElem? (i := 716) (by decide +kernel), List.mem_of_getElem? (i := 801) (by decide +kernel), List.mem_of_getElem? (i := 802) (by decide +kernel)⟩
theorem lw_p24 : lw_okq (⟨"PumpTalkModel", "adds", "(I)I"⟩, 22) := ⟨⟨by decide +kernel, by decide +kernel⟩, List.mem_of_getElem? (i := 716) (by decide +kernel), List.mem_of_getElem? (i := 806) (by decide +kernel), List.mem_of_getElem? (i := 807) (by decide +kernel)⟩
theorem lw_p25 : lw_okq (⟨"PumpTalkModel", "isPerson", "(I)Z"⟩, 22) := ⟨⟨by decide +kernel, by decide +kernel⟩, List.mem_of_getElem? (i := 716) (by decide +kernel), List.mem_of_getElem? (i := 817) (by decide +kernel), List.mem_of_getElem? (i := 818) (by decide +kernel)⟩
theorem lw_p26 : lw_okq (⟨"PumpTalkModel", "its", "(II)I"⟩, 22) := ⟨⟨by decide +kernel, by decide +kernel⟩, List.mem_of_getElem? (i := 716) (by decide +kernel), List.mem_of_getElem? (i := 822) (by decide +kernel), List.mem_of_getElem? (i := 823) (by decide +kernel)⟩
theorem lw_p27 : lw_okq (⟨"PumpTalkModel", "becomes", "(II)I"⟩, 22) := ⟨⟨by decide +kernel, by decide +kernel⟩, List.mem_of_getElem? (i := 716) (by decide +kernel), List.mem_of_getElem? (i := 837) (by decide +kernel), List.mem_of_getElem? (i := 838) (by decide +kernel)⟩
theorem lw_p28 : lw_okq (⟨"PumpTalkModel", "moves", "(II)I"⟩, 22) := ⟨⟨by decide +kernel, by decide +kernel⟩, List.mem_of_getElem? (i := 716) (by decide +kernel), List.mem_of_getElem? (i := 846) (by decide +kernel), List.mem_of_getElem? (i := 847) (by decide +kernel)⟩
theorem lw_p29 : lw_okq (⟨"PumpTalkModel", "strokes", "(II)I"⟩, 22) := ⟨⟨by decide +kernel, by decide +kernel⟩, List.mem_of_getElem? (i := 716) (by decide +kernel), List.mem_of_getElem? (i := 850) (by decide +kernel), List.mem_of_getElem? (i := 851) (by decide +kernel)⟩
theorem lw_p30 : lw_okq (⟨"PumpTalkModel", "apartOn", "(III)I"⟩, 22) := ⟨⟨by decide +kernel, by decide +kernel⟩, List.mem_of_getElem? (i := 716) (by decide +kernel), List.mem_of_getElem? (i := 862) (by decide +kernel), List.mem_of_getElem? (i := 863) (by decide +kernel)⟩
theorem lw_p31 : lw_okq (⟨"PumpTalkModel", "areTwo", "(II)Z"⟩, 22) := ⟨⟨by decide +kernel, by decide +kernel⟩, List.mem_of_getElem? (i := 716) (by decide +kernel), List.mem_of_getElem? (i := 870) (by decide +kernel), List.mem_of_getElem? (i := 871) (by decide +kernel)⟩
def lw_privs_2 : List (MethodName × Nat) := [(⟨"PumpTalk$Reader", "isWord", "(Ljava/lang/String;)Z"⟩, 6), (⟨"PumpTalk$Reader", "readPerson", "(LPumpTalk$Square;I)Z"⟩, 6), (⟨"PumpTalk$Reader", "isNumberUpTo", "(I)Z"⟩, 6), (⟨"PumpTalk$Reader", "readViews", "(LPumpTalk$Square;I)Z"⟩, 6), (⟨"PumpTalk$Reader", "isSign", "(I)Z"⟩, 6), (⟨"PumpTalk$Reader", "readPair", "(LPumpTalk$Square;)Z"⟩, 6), (⟨"PumpTalk$Reader", "readSubject", "(LPumpTalk$Square;)Z"⟩, 6), (⟨"PumpTalkModel", "finds", "(I)I"⟩, 22), (⟨"PumpTalkModel", "adds", "(I)I"⟩, 22), (⟨"PumpTalkModel", "isPerson", "(I)Z"⟩, 22), (⟨"PumpTalkModel", "its", "(II)I"⟩, 22), (⟨"PumpTalkModel", "becomes", "(II)I"⟩, 22), (⟨"PumpTalkModel", "moves", "(II)I"⟩, 22), (⟨"PumpTalkModel", "strokes", "(II)I"⟩, 22), (⟨"PumpTalkModel", "apartOn", "(III)I"⟩, 22), (⟨"PumpTalkModel", "areTwo", "(II)Z"⟩, 22)]
theorem lw_r2 : ∀ q ∈ lw_privs_2, lw_okq q := List.forall_mem_cons.mpr ⟨lw_p16, List.forall_mem_cons.mpr ⟨lw_p17, List.forall_mem_cons.mpr ⟨lw_p18, List.forall_mem_cons.mpr ⟨lw_p19, List.forall_mem_cons.mpr ⟨lw_p20, List.forall_mem_cons.mpr ⟨lw_p21, List.forall_mem_cons.mpr ⟨lw_p22, List.forall_mem_cons.mpr ⟨lw_p23, List.forall_mem_cons.mpr ⟨lw_p24, List.forall_mem_cons.mpr ⟨lw_p25, List.forall_mem_cons.mpr ⟨lw_p26, List.forall_mem_cons.mpr ⟨lw_p27, List.forall_mem_cons.mpr ⟨lw_p28, List.forall_mem_cons.mpr ⟨lw_p29, List.forall_mem_cons.mpr ⟨lw_p30, List.forall_mem_cons.mpr ⟨lw_p31, fun _ h => absurd h List.not_mem_nil⟩⟩⟩⟩⟩⟩⟩⟩⟩⟩⟩⟩⟩⟩⟩⟩
theorem lw_p32 : lw_okq (⟨"PumpTalkModel", "disputed", "()I"⟩, 22) := ⟨⟨by decide +kernel, by decide +kernel⟩, List.mem_of_getElem? (i := 716) (by decide +kernel), List.mem_of_getElem? (i := 874) (by decide +kernel), List.mem_of_getElem? (i := 875) (by decide +kernel)⟩
theorem lw_p33 : lw_okq (⟨"PumpTalkModel", "isSomebody", "()Z"⟩, 22) := ⟨⟨by decide +kernel, by decide +kernel⟩, List.mem_of_getElem? (i := 716) (by decide +kernel), List.mem_of_getElem? (i := 878) (by decide +kernel), List.mem_of_getElem? (i := 879) (by decide +kernel)⟩
theorem lw_p34 : lw_okq (⟨"PumpTalkModel", "goesOn", "(I)V"⟩, 22) := ⟨⟨by decide +kernel, by decide +kernel⟩, List.mem_of_getElem? (i := 716) (by decide +kernel), List.mem_of_getElem? (i := 900) (by decide +kernel), List.mem_of_getElem? (i := 901) (by decide +kernel)⟩
theorem lw_p35 : lw_okq (⟨"PumpTalkModel", "minute", "()V"⟩, 22) := ⟨⟨by decide +kernel, by decide +kernel⟩, List.mem_of_getElem? (i := 716) (by decide +kernel), List.mem_of_getElem? (i := 904) (by decide +kernel), List.mem_of_getElem? (i := 905) (by decide +kernel)⟩
theorem lw_p36 : lw_okq (⟨"PumpTalkModel", "replies", "(I)V"⟩, 22) := ⟨⟨by decide +kernel, by decide +kernel⟩, List.mem_of_getElem? (i := 716) (by decide +kernel), List.mem_of_getElem? (i := 908) (by decide +kernel), List.mem_of_getElem? (i := 909) (by decide +kernel)⟩
theorem lw_p37 : lw_okq (⟨"PumpTalkModel", "voices", "()I"⟩, 22) := ⟨⟨by decide +kernel, by decide +kernel⟩, List.mem_of_getElem? (i := 716) (by decide +kernel), List.mem_of_getElem? (i := 920) (by decide +kernel), List.mem_of_getElem? (i := 921) (by decide +kernel)⟩
theorem lw_p38 : lw_okq (⟨"PumpTalkModel", "behind", "(II)I"⟩, 22) := ⟨⟨by decide +kernel, by decide +kernel⟩, List.mem_of_getElem? (i := 716) (by decide +kernel), List.mem_of_getElem? (i := 929) (by decide +kernel), List.mem_of_getElem? (i := 930) (by decide +kernel)⟩
theorem lw_p39 : lw_okq (⟨"PumpTalkModel", "laysAside", "()V"⟩, 22) := ⟨⟨by decide +kernel, by decide +kernel⟩, List.mem_of_getElem? (i := 716) (by decide +kernel), List.mem_of_getElem? (i := 933) (by decide +kernel), List.mem_of_getElem? (i := 934) (by decide +kernel)⟩
theorem lw_p40 : lw_okq (⟨"PumpTalkModel", "takesBack", "(I)I"⟩, 22) := ⟨⟨by decide +kernel, by decide +kernel⟩, List.mem_of_getElem? (i := 716) (by decide +kernel), List.mem_of_getElem? (i := 937) (by decide +kernel), List.mem_of_getElem? (i := 938) (by decide +kernel)⟩
theorem lw_p41 : lw_okq (⟨"PumpTalkModel", "orNone", "(I)I"⟩, 22) := ⟨⟨by decide +kernel, by decide +kernel⟩, List.mem_of_getElem? (i := 716) (by decide +kernel), List.mem_of_getElem? (i := 949) (by decide +kernel), List.mem_of_getElem? (i := 950) (by decide +kernel)⟩
theorem lw_p42 : lw_okq (⟨"PumpTalkModel", "isAsAside", "()Z"⟩, 22) := ⟨⟨by decide +kernel, by decide +kernel⟩, List.mem_of_getElem? (i := 716) (by decide +kernel), List.mem_of_getElem? (i := 963) (by decide +kernel), List.mem_of_getElem? (i := 964) (by decide +kernel)⟩
theorem lw_p43 : lw_okq (⟨"PumpTalkModel", "given", "(III)I"⟩, 22) := ⟨⟨by decide +kernel, by decide +kernel⟩, List.mem_of_getElem? (i := 716) (by decide +kernel), List.mem_of_getElem? (i := 975) (by decide +kernel), List.mem_of_getElem? (i := 976) (by decide +kernel)⟩
theorem lw_p44 : lw_okq (⟨"PumpTalkModel", "mostBy", "(IIIIII)I"⟩, 22) := ⟨⟨by decide +kernel, by decide +kernel⟩, List.mem_of_getElem? (i := 716) (by decide +kernel), List.mem_of_getElem? (i := 991) (by decide +kernel), List.mem_of_getElem? (i := 992) (by decide +kernel)⟩
theorem lw_p45 : lw_okq (⟨"PumpTalkModel", "findMatches", "(I)V"⟩, 22) := ⟨⟨by decide +kernel, by decide +kernel⟩, List.mem_of_getElem? (i := 716) (by decide +kernel), List.mem_of_getElem? (i := 1000) (by decide +kernel), List.mem_of_getElem? (i := 1001) (by decide +kernel)⟩
theorem lw_p46 : lw_okq (⟨"PumpTalkModel", "wrongOne", "(II)I"⟩, 22) := ⟨⟨by decide +kernel, by decide +kernel⟩, List.mem_of_getElem? (i := 716) (by decide +kernel), List.mem_of_getElem? (i := 1025) (by decide +kernel), List.mem_of_getElem? (i := 1026) (by decide +kernel)⟩
theorem lw_p47 : lw_okq (⟨"PumpTalkModel", "wrong", "(I)I"⟩, 22) := ⟨⟨by decide +kernel, by decide +kernel⟩, List.mem_of_getElem? (i := 716) (by decide +kernel), List.mem_of_getElem? (i := 1029) (by decide +kernel), List.mem_of_getElem? (i := 1030) (by decide +kernel)⟩
def lw_privs_3 : List (MethodName × Nat) := [(⟨"PumpTalkModel", "disputed", "()I"⟩, 22), (⟨"PumpTalkModel", "isSomebody", "()Z"⟩, 22), (⟨"PumpTalkModel", "goesOn", "(I)V"⟩, 22), (⟨"PumpTalkModel", "minute", "()V"⟩, 22), (⟨"PumpTalkModel", "replies", "(I)V"⟩, 22), (⟨"PumpTalkModel", "voices", "()I"⟩, 22), (⟨"PumpTalkModel", "behind", "(II)I"⟩, 22), (⟨"PumpTalkModel", "laysAside", "()V"⟩, 22), (⟨"PumpTalkModel", "takesBack", "(I)I"⟩, 22), (⟨"PumpTalkModel", "orNone", "(I)I"⟩, 22), (⟨"PumpTalkModel", "isAsAside", "()Z"⟩, 22), (⟨"PumpTalkModel", "given", "(III)I"⟩, 22), (⟨"PumpTalkModel", "mostBy", "(IIIIII)I"⟩, 22), (⟨"PumpTalkModel", "findMatches", "(I)V"⟩, 22), (⟨"PumpTalkModel", "wrongOne", "(II)I"⟩, 22), (⟨"PumpTalkModel", "wrong", "(I)I"⟩, 22)]
theorem lw_r3 : ∀ q ∈ lw_privs_3, lw_okq q := List.forall_mem_cons.mpr ⟨lw_p32, List.forall_mem_cons.mpr ⟨lw_p33, List.forall_mem_cons.mpr ⟨lw_p34, List.forall_mem_cons.mpr ⟨lw_p35, List.forall_mem_cons.mpr ⟨lw_p36, List.forall_mem_cons.mpr ⟨lw_p37, List.forall_mem_cons.mpr ⟨lw_p38, List.forall_mem_cons.mpr ⟨lw_p39, List.forall_mem_cons.mpr ⟨lw_p40, List.forall_mem_cons.mpr ⟨lw_p41, List.forall_mem_cons.mpr ⟨lw_p42, List.forall_mem_cons.mpr ⟨lw_p43, List.forall_mem_cons.mpr ⟨lw_p44, List.forall_mem_cons.mpr ⟨lw_p45, List.forall_mem_cons.mpr ⟨lw_p46, List.forall_mem_cons.mpr ⟨lw_p47, fun _ h => absurd h List.not_mem_nil⟩⟩⟩⟩⟩⟩⟩⟩⟩⟩⟩⟩⟩⟩⟩⟩
theorem lw_p48 : lw_okq (⟨"PumpTalkModel", "findFits", "(II)V"⟩, 22) := ⟨⟨by decide +kernel, by decide +kernel⟩, List.mem_of_getElem? (i := 716) (by decide +kernel), List.mem_of_getElem? (i := 1038) (by decide +kernel), List.mem_of_getElem? (i := 1039) (by decide +kernel)⟩
theorem lw_p49 : lw_okq (⟨"PumpTalkModel", "isTold", "(I)Z"⟩, 22) := ⟨⟨by decide +kernel, by decide +kernel⟩, List.mem_of_getElem? (i := 716) (by decide +kernel), List.mem_of_getElem? (i := 1042) (by decide +kernel), List.mem_of_getElem? (i := 1043) (by decide +kernel)⟩
theorem lw_p50 : lw_okq (⟨"PumpTalkModel", "draw", "()I"⟩, 22) := ⟨⟨by decide +kernel, by decide +kernel⟩, List.mem_of_getElem? (i := 716) (by decide +kernel), List.mem_of_getElem? (i := 1059) (by decide +kernel), List.mem_of_getElem? (i := 1060) (by decide +kernel)⟩
theorem lw_p51 : lw_okq (⟨"PumpTalkModel", "saves", "()V"⟩, 22) := ⟨⟨by decide +kernel, by decide +kernel⟩, List.mem_of_getElem? (i := 716) (by decide +kernel), List.mem_of_getElem? (i := 1086) (by decide +kernel), List.mem_of_getElem? (i := 1087) (by decide +kernel)⟩
theorem lw_p52 : lw_okq (⟨"PumpTalkModel", "token", "()V"⟩, 22) := ⟨⟨by decide +kernel, by decide +kernel⟩, List.mem_of_getElem? (i := 716) (by decide +kernel), List.mem_of_getElem? (i := 1090) (by decide +kernel), List.mem_of_getElem? (i := 1091) (by decide +kernel)⟩
theorem lw_p53 : lw_okq (⟨"PumpTalkModel", "byteAt", "(I)I"⟩, 22) := ⟨⟨by decide +kernel, by decide +kernel⟩, List.mem_of_getElem? (i := 716) (by decide +kernel), List.mem_of_getElem? (i := 1094) (by decide +kernel), List.mem_of_getElem? (i := 1095) (by decide +kernel)⟩
theorem lw_p54 : lw_okq (⟨"PumpTalkModel", "item", "()V"⟩, 22) := ⟨⟨by decide +kernel, by decide +kernel⟩, List.mem_of_getElem? (i := 716) (by decide +kernel), List.mem_of_getElem? (i := 1108) (by decide +kernel), List.mem_of_getElem? (i := 1109) (by decide +kernel)⟩
theorem lw_p55 : lw_okq (⟨"PumpTalkModel", "kindHere", "()I"⟩, 22) := ⟨⟨by decide +kernel, by decide +kernel⟩, List.mem_of_getElem? (i := 716) (by decide +kernel), List.mem_of_getElem? (i := 1112) (by decide +kernel), List.mem_of_getElem? (i := 1113) (by decide +kernel)⟩
theorem lw_p56 : lw_okq (⟨"PumpTalkModel", "word", "()J"⟩, 22) := ⟨⟨by decide +kernel, by decide +kernel⟩, List.mem_of_getElem? (i := 716) (by decide +kernel), List.mem_of_getElem? (i := 1116) (by decide +kernel), List.mem_of_getElem? (i := 1117) (by decide +kernel)⟩
theorem lw_p57 : lw_okq (⟨"PumpTalkModel", "personItem", "(I)V"⟩, 22) := ⟨⟨by decide +kernel, by decide +kernel⟩, List.mem_of_getElem? (i := 716) (by decide +kernel), List.mem_of_getElem? (i := 1129) (by decide +kernel), List.mem_of_getElem? (i := 1130) (by decide +kernel)⟩
theorem lw_p58 : lw_okq (⟨"PumpTalkModel", "must", "(Z)V"⟩, 22) := ⟨⟨by decide +kernel, by decide +kernel⟩, List.mem_of_getElem? (i := 716) (by decide +kernel), List.mem_of_getElem? (i := 1133) (by decide +kernel), List.mem_of_getElem? (i := 1134) (by decide +kernel)⟩
theorem lw_p59 : lw_okq (⟨"PumpTalkModel", "number", "(II)V"⟩, 22) := ⟨⟨by decide +kernel, by decide +kernel⟩, List.mem_of_getElem? (i := 716) (by decide +kernel), List.mem_of_getElem? (i := 1138) (by decide +kernel), List.mem_of_getElem? (i := 1139) (by decide +kernel)⟩
theorem lw_p60 : lw_okq (⟨"PumpTalkModel", "viewHere", "()I"⟩, 22) := ⟨⟨by decide +kernel, by decide +kernel⟩, List.mem_of_getElem? (i := 716) (by decide +kernel), List.mem_of_getElem? (i := 1143) (by decide +kernel), List.mem_of_getElem? (i := 1144) (by decide +kernel)⟩
theorem lw_p61 : lw_okq (⟨"PumpTalkModel", "isHere", "(I)Z"⟩, 22) := ⟨⟨by decide +kernel, by decide +kernel⟩, List.mem_of_getElem? (i := 716) (by decide +kernel), List.mem_of_getElem? (i := 1147) (by decide +kernel), List.mem_of_getElem? (i := 1148) (by decide +kernel)⟩
theorem lw_p62 : lw_okq (⟨"PumpTalkModel", "pairItem", "()V"⟩, 22) := ⟨⟨by decide +kernel, by decide +kernel⟩, List.mem_of_getElem? (i := 716) (by decide +kernel), List.mem_of_getElem? (i := 1152) (by decide +kernel), List.mem_of_getElem? (i := 1153) (by decide +kernel)⟩
theorem lw_p63 : lw_okq (⟨"PumpTalkModel", "peeked", "()I"⟩, 22) := ⟨⟨by decide +kernel, by decide +kernel⟩, List.mem_of_getElem? (i := 716) (by decide +kernel), List.mem_of_getElem? (i := 1156) (by decide +kernel), List.mem_of_getElem? (i := 1157) (by decide +kernel)⟩
def lw_privs_4 : List (MethodName × Nat) := [(⟨"PumpTalkModel", "findFits", "(II)V"⟩, 22), (⟨"PumpTalkModel", "isTold", "(I)Z"⟩, 22), (⟨"PumpTalkModel", "draw", "()I"⟩, 22), (⟨"PumpTalkModel", "saves", "()V"⟩, 22), (⟨"PumpTalkModel", "token", "()V"⟩, 22), (⟨"PumpTalkModel", "byteAt", "(I)I"⟩, 22), (⟨"PumpTalkModel", "item", "()V"⟩, 22), (⟨"PumpTalkModel", "kindHere", "()I"⟩, 22), (⟨"PumpTalkModel", "word", "()J"⟩, 22), (⟨"PumpTalkModel", "personItem", "(I)V"⟩, 22), (⟨"PumpTalkModel", "must", "(Z)V"⟩, 22), (⟨"PumpTalkModel", "number", "(II)V"⟩, 22), (⟨"PumpTalkModel", "viewHere", "()I"⟩, 22), (⟨"PumpTalkModel", "isHere", "(I)Z"⟩, 22), (⟨"PumpTalkModel", "pairItem", "()V"⟩, 22), (⟨"PumpTalkModel", "peeked", "()I"⟩, 22)]
theorem lw_r4 : ∀ q ∈ lw_privs_4, lw_okq q := List.forall_mem_cons.mpr ⟨lw_p48, List.forall_mem_cons.mpr ⟨lw_p49, List.forall_mem_cons.mpr ⟨lw_p50, List.forall_mem_cons.mpr ⟨lw_p51, List.forall_mem_cons.mpr ⟨lw_p52, List.forall_mem_cons.mpr ⟨lw_p53, List.forall_mem_cons.mpr ⟨lw_p54, List.forall_mem_cons.mpr ⟨lw_p55, List.forall_mem_cons.mpr ⟨lw_p56, List.forall_mem_cons.mpr ⟨lw_p57, List.forall_mem_cons.mpr ⟨lw_p58, List.forall_mem_cons.mpr ⟨lw_p59, List.forall_mem_cons.mpr ⟨lw_p60, List.forall_mem_cons.mpr ⟨lw_p61, List.forall_mem_cons.mpr ⟨lw_p62, List.forall_mem_cons.mpr ⟨lw_p63, fun _ h => absurd h List.not_mem_nil⟩⟩⟩⟩⟩⟩⟩⟩⟩⟩⟩⟩⟩⟩⟩⟩
theorem lw_p64 : lw_okq (⟨"PumpTalkModel", "putsBack", "()V"⟩, 22) := ⟨⟨by decide +kernel, by decide +kernel⟩, List.mem_of_getElem? (i := 716) (by decide +kernel), List.mem_of_getElem? (i := 1161) (by decide +kernel), List.mem_of_getElem? (i := 1162) (by decide +kernel)⟩
theorem lw_p65 : lw_okq (⟨"PumpTalkModel", "heldSpots", "()I"⟩, 22) := ⟨⟨by decide +kernel, by decide +kernel⟩, List.mem_of_getElem? (i := 716) (by decide +kernel), List.mem_of_getElem? (i := 1220) (by decide +kernel), List.mem_of_getElem? (i := 1221) (by decide +kernel)⟩
def lw_privs_5 : List (MethodName × Nat) := [(⟨"PumpTalkModel", "putsBack", "()V"⟩, 22), (⟨"PumpTalkModel", "heldSpots", "()I"⟩, 22)]
theorem lw_r5 : ∀ q ∈ lw_privs_5, lw_okq q := List.forall_mem_cons.mpr ⟨lw_p64, List.forall_mem_cons.mpr ⟨lw_p65, fun _ h => absurd h List.not_mem_nil⟩⟩
def lw_privs : List (MethodName × Nat) := lw_privs_1 ++ (lw_privs_2 ++ (lw_privs_3 ++ (lw_privs_4 ++ (lw_privs_5))))
def lw_tbl : List Cond := k2_sels lw_privs ++ tables_1
theorem lw_privs_ok : ∀ q ∈ lw_privs, lw_okq q := by
  show ∀ q ∈ lw_privs_1 ++ (lw_privs_2 ++ (lw_privs_3 ++ (lw_privs_4 ++ (lw_privs_5)))), lw_okq q
  exact List.forall_mem_append.mpr ⟨lw_r1, List.forall_mem_append.mpr ⟨lw_r2, List.forall_mem_append.mpr ⟨lw_r3, List.forall_mem_append.mpr ⟨lw_r4, lw_r5⟩⟩⟩⟩
def RX0 : String := "PumpTalk$Kinds"
def TX0 : u_T := fun k => match k with
  | _ => ("", "", "", false)
def tyX0 : Nat → FieldType := fun k => match k with
  | _ => .int
abbrev wsX00 : List Cond := u_ws RX0 TX0 0
theorem nmX0 : ∀ a, a < 0 → ∀ b, b < 0 → a ≠ b → (TX0 a).2.1 ≠ (TX0 b).2.1 := by decide +kernel
theorem tyX0_ok : ∀ k, k < 0 → parseFieldDescriptor (TX0 k).2.2.1 = some (tyX0 k) := by decide +kernel
abbrev cX0_isUnder : ByteArray := prog_2_method_2_code
def yX0_isUnder : MethodName := ⟨RX0, "isUnder", "(II)Z"⟩
abbrev cX0_moves : ByteArray := prog_2_method_3_code
def yX0_moves : MethodName := ⟨RX0, "moves", "(III)I"⟩
abbrev cX0_strokes : ByteArray := prog_2_method_4_code
def yX0_strokes : MethodName := ⟨RX0, "strokes", "(IIII)I"⟩
abbrev cX0_nameOf : ByteArray := prog_2_method_5_code
def yX0_nameOf : MethodName := ⟨RX0, "nameOf", "(I)Ljava/lang/String;"⟩
def RX1 : String := "PumpTalk$Matching"
def TX1 : u_T := fun k => match k with
  | 0 => ("PumpTalk$Matching", "gains", "[I", true)
  | _ => ("PumpTalk$Matching", "most", "[I", true)
def tyX1 : Nat → FieldType := fun k => match k with
  | 0 => .array .int
  | _ => .array .int
abbrev wsX10 : List Cond := u_ws RX1 TX1 2
theorem nmX1 : ∀ a, a < 2 → ∀ b, b < 2 → a ≠ b → (TX1 a).2.1 ≠ (TX1 b).2.1 := by decide +kernel
theorem tyX1_ok : ∀ k, k < 2 → parseFieldDescriptor (TX1 k).2.2.1 = some (tyX1 k) := by decide +kernel
abbrev cX1_init : ByteArray := prog_3_method_1_code
def yX1_init : MethodName := ⟨RX1, "<init>", "()V"⟩
abbrev cX1_weigh : ByteArray := prog_3_method_2_code
def yX1_weigh : MethodName := ⟨RX1, "weigh", "(III)V"⟩
abbrev cX1_solve : ByteArray := prog_3_method_3_code
def yX1_solve : MethodName := ⟨RX1, "solve", "(I)V"⟩
abbrev cX1_total : ByteArray := prog_3_method_4_code
def yX1_total : MethodName := ⟨RX1, "total", "(I)I"⟩
abbrev cX1_mateOf : ByteArray := prog_3_method_5_code
def yX1_mateOf : MethodName := ⟨RX1, "mateOf", "(II)I"⟩
abbrev cX1_leastMate : ByteArray := prog_3_method_6_code
def yX1_leastMate : MethodName := ⟨RX1, "leastMate", "(III)I"⟩
abbrev cX1_together : ByteArray := prog_3_method_7_code
def yX1_together : MethodName := ⟨RX1, "together", "(III)I"⟩
abbrev cX1_everybody : ByteArray := prog_3_method_8_code
def yX1_everybody : MethodName := ⟨RX1, "everybody", "(I)I"⟩
abbrev cX1_leastOf : ByteArray := prog_3_method_9_code
def yX1_leastOf : MethodName := ⟨RX1, "leastOf", "(I)I"⟩
def RX2 : String := "PumpTalk$Reader"
def TX2 : u_T := fun k => match k with
  | 0 => ("PumpTalk$Reader", "bytes", "[I", true)
  | 1 => ("PumpTalk$Reader", "length", "I", false)
  | 2 => ("PumpTalk$Reader", "sort", "I", false)
  | 3 => ("PumpTalk$Reader", "start", "I", false)
  | 4 => ("PumpTalk$Reader", "behind", "I", false)
  | _ => ("PumpTalk$Reader", "number", "I", false)
def tyX2 : Nat → FieldType := fun k => match k with
  | 0 => .array .int
  | 1 => .int
  | 2 => .int
  | 3 => .int
  | 4 => .int
  | _ => .int
abbrev wsX20 : List Cond := u_ws RX2 TX2 6
theorem nmX2 : ∀ a, a < 6 → ∀ b, b < 6 → a ≠ b → (TX2 a).2.1 ≠ (TX2 b).2.1 := by decide +kernel
theorem tyX2_ok : ∀ k, k < 6 → parseFieldDescriptor (TX2 k).2.2.1 = some (tyX2 k) := by decide +kernel
abbrev cX2_init : ByteArray := prog_4_method_1_code
def yX2_init : MethodName := ⟨RX2, "<init>", "()V"⟩
abbrev cX2_append : ByteArray := prog_4_method_2_code
def yX2_append : MethodName := ⟨RX2, "append", "(I)V"⟩
abbrev cX2_readInto : ByteArray := prog_4_method_3_code
def yX2_readInto : MethodName := ⟨RX2, "readInto", "(LPumpTalk$Square;)I"⟩
abbrev cX2_readItem : ByteArray := prog_4_method_4_code
def yX2_readItem : MethodName := ⟨RX2, "readItem", "(LPumpTalk$Square;)Z"⟩
abbrev cX2_readPerson : ByteArray := prog_4_method_5_code
def yX2_readPerson : MethodName := ⟨RX2, "readPerson", "(LPumpTalk$Square;I)Z"⟩
abbrev cX2_readViews : ByteArray := prog_4_method_6_code
def yX2_readViews : MethodName := ⟨RX2, "readViews", "(LPumpTalk$Square;I)Z"⟩
abbrev cX2_readPair : ByteArray := prog_4_method_7_code
def yX2_readPair : MethodName := ⟨RX2, "readPair", "(LPumpTalk$Square;)Z"⟩
abbrev cX2_readSubject : ByteArray := prog_4_method_8_code
def yX2_readSubject : MethodName := ⟨RX2, "readSubject", "(LPumpTalk$Square;)Z"⟩
abbrev cX2_isNumberUpTo : ByteArray := prog_4_method_9_code
def yX2_isNumberUpTo : MethodName := ⟨RX2, "isNumberUpTo", "(I)Z"⟩
abbrev cX2_isSign : ByteArray := prog_4_method_10_code
def yX2_isSign : MethodName := ⟨RX2, "isSign", "(I)Z"⟩
abbrev cX2_isWord : ByteArray := prog_4_method_11_code
def yX2_isWord : MethodName := ⟨RX2, "isWord", "(Ljava/lang/String;)Z"⟩
abbrev cX2_advance : ByteArray := prog_4_method_12_code
def yX2_advance : MethodName := ⟨RX2, "advance", "()V"⟩
abbrev cX2_readNumber : ByteArray := prog_4_method_13_code
def yX2_readNumber : MethodName := ⟨RX2, "readNumber", "()V"⟩
abbrev cX2_sortAt : ByteArray := prog_4_method_14_code
def yX2_sortAt : MethodName := ⟨RX2, "sortAt", "(I)I"⟩
def RX3 : String := "PumpTalk$Sheet"
def TX3 : u_T := fun k => match k with
  | 0 => ("PumpTalk$Sheet", "numbers", "[I", true)
  | 1 => ("PumpTalk$Sheet", "bits", "I", false)
  | _ => ("PumpTalk$Sheet", "size", "I", false)
def tyX3 : Nat → FieldType := fun k => match k with
  | 0 => .array .int
  | 1 => .int
  | _ => .int
abbrev wsX30 : List Cond := u_ws RX3 TX3 3
theorem nmX3 : ∀ a, a < 3 → ∀ b, b < 3 → a ≠ b → (TX3 a).2.1 ≠ (TX3 b).2.1 := by decide +kernel
theorem tyX3_ok : ∀ k, k < 3 → parseFieldDescriptor (TX3 k).2.2.1 = some (tyX3 k) := by decide +kernel
abbrev cX3_init : ByteArray := prog_5_method_1_code
def yX3_init : MethodName := ⟨RX3, "<init>", "()V"⟩
abbrev cX3_isMissing : ByteArray := prog_5_method_2_code
def yX3_isMissing : MethodName := ⟨RX3, "isMissing", "()Z"⟩
abbrev cX3_renew : ByteArray := prog_5_method_3_code
def yX3_renew : MethodName := ⟨RX3, "renew", "(II)I"⟩
abbrev cX3_put : ByteArray := prog_5_method_4_code
def yX3_put : MethodName := ⟨RX3, "put", "(II)V"⟩
abbrev cX3_hasRange : ByteArray := prog_5_method_5_code
def yX3_hasRange : MethodName := ⟨RX3, "hasRange", "(II)Z"⟩
def RX4 : String := "PumpTalk$Square"
def TX4 : u_T := fun k => match k with
  | 0 => ("PumpTalk$Square", "kindOf", "[I", true)
  | 1 => ("PumpTalk$Square", "voiceOf", "[I", true)
  | 2 => ("PumpTalk$Square", "views", "[I", true)
  | 3 => ("PumpTalk$Square", "spots", "[I", true)
  | 4 => ("PumpTalk$Square", "people", "I", false)
  | 5 => ("PumpTalk$Square", "minute", "I", false)
  | 6 => ("PumpTalk$Square", "water", "I", false)
  | 7 => ("PumpTalk$Square", "topic", "I", false)
  | 8 => ("PumpTalk$Square", "first", "I", false)
  | 9 => ("PumpTalk$Square", "second", "I", false)
  | _ => ("PumpTalk$Square", "z", "I", false)
def tyX4 : Nat → FieldType := fun k => match k with
  | 0 => .array .int
  | 1 => .array .int
  | 2 => .array .int
  | 3 => .array .int
  | 4 => .int
  | 5 => .int
  | 6 => .int
  | 7 => .int
  | 8 => .int
  | 9 => .int
  | _ => .int
abbrev wsX40 : List Cond := u_ws RX4 TX4 11
theorem nmX4 : ∀ a, a < 11 → ∀ b, b < 11 → a ≠ b → (TX4 a).2.1 ≠ (TX4 b).2.1 := by decide +kernel
theorem tyX4_ok : ∀ k, k < 11 → parseFieldDescriptor (TX4 k).2.2.1 = some (tyX4 k) := by decide +kernel
abbrev cX4_init : ByteArray := prog_6_method_1_code
def yX4_init : MethodName := ⟨RX4, "<init>", "()V"⟩
abbrev cX4_takeOver : ByteArray := prog_6_method_2_code
def yX4_takeOver : MethodName := ⟨RX4, "takeOver", "(LPumpTalk$Square;)V"⟩
abbrev cX4_isThere : ByteArray := prog_6_method_3_code
def yX4_isThere : MethodName := ⟨RX4, "isThere", "(I)Z"⟩
abbrev cX4_isCrowded : ByteArray := prog_6_method_4_code
def yX4_isCrowded : MethodName := ⟨RX4, "isCrowded", "()Z"⟩
abbrev cX4_addPerson : ByteArray := prog_6_method_5_code
def yX4_addPerson : MethodName := ⟨RX4, "addPerson", "(I)I"⟩
abbrev cX4_trait : ByteArray := prog_6_method_6_code
def yX4_trait : MethodName := ⟨RX4, "trait", "(II)I"⟩
abbrev cX4_setTrait : ByteArray := prog_6_method_7_code
def yX4_setTrait : MethodName := ⟨RX4, "setTrait", "(III)V"⟩
abbrev cX4_viewOn : ByteArray := prog_6_method_8_code
def yX4_viewOn : MethodName := ⟨RX4, "viewOn", "(II)I"⟩
abbrev cX4_setView : ByteArray := prog_6_method_9_code
def yX4_setView : MethodName := ⟨RX4, "setView", "(III)V"⟩
abbrev cX4_distance : ByteArray := prog_6_method_10_code
def yX4_distance : MethodName := ⟨RX4, "distance", "(III)I"⟩
abbrev cX4_movesOf : ByteArray := prog_6_method_11_code
def yX4_movesOf : MethodName := ⟨RX4, "movesOf", "(II)I"⟩
abbrev cX4_strokesOf : ByteArray := prog_6_method_12_code
def yX4_strokesOf : MethodName := ⟨RX4, "strokesOf", "(II)I"⟩
abbrev cX4_seat : ByteArray := prog_6_method_13_code
def yX4_seat : MethodName := ⟨RX4, "seat", "(II)V"⟩
abbrev cX4_leave : ByteArray := prog_6_method_14_code
def yX4_leave : MethodName := ⟨RX4, "leave", "()V"⟩
abbrev cX4_isManned : ByteArray := prog_6_method_15_code
def yX4_isManned : MethodName := ⟨RX4, "isManned", "()Z"⟩
abbrev cX4_isAtHandle : ByteArray := prog_6_method_16_code
def yX4_isAtHandle : MethodName := ⟨RX4, "isAtHandle", "(I)Z"⟩
abbrev cX4_quarrelSet : ByteArray := prog_6_method_17_code
def yX4_quarrelSet : MethodName := ⟨RX4, "quarrelSet", "()I"⟩
abbrev cX4_allVoices : ByteArray := prog_6_method_18_code
def yX4_allVoices : MethodName := ⟨RX4, "allVoices", "()I"⟩
abbrev cX4_fullSpots : ByteArray := prog_6_method_19_code
def yX4_fullSpots : MethodName := ⟨RX4, "fullSpots", "()I"⟩
abbrev cX4_thinksLike : ByteArray := prog_6_method_20_code
def yX4_thinksLike : MethodName := ⟨RX4, "thinksLike", "(LPumpTalk$Square;)Z"⟩
abbrev cX4_draw : ByteArray := prog_6_method_21_code
def yX4_draw : MethodName := ⟨RX4, "draw", "()I"⟩
abbrev cX4_passMinute : ByteArray := prog_6_method_22_code
def yX4_passMinute : MethodName := ⟨RX4, "passMinute", "()I"⟩
abbrev cX4_passMinutes : ByteArray := prog_6_method_23_code
def yX4_passMinutes : MethodName := ⟨RX4, "passMinutes", "(I)V"⟩
abbrev cX4_pumpBy : ByteArray := prog_6_method_24_code
def yX4_pumpBy : MethodName := ⟨RX4, "pumpBy", "(III)I"⟩
abbrev cX4_exchange : ByteArray := prog_6_method_25_code
def yX4_exchange : MethodName := ⟨RX4, "exchange", "()I"⟩
abbrev cX4_heldView : ByteArray := prog_6_method_26_code
def yX4_heldView : MethodName := ⟨RX4, "heldView", "(I)I"⟩
def RX5 : String := "PumpTalk"
def TX5 : u_T := fun k => match k with
  | 0 => ("PumpTalk", "square", "LPumpTalk$Square;", true)
  | 1 => ("PumpTalk", "trial", "LPumpTalk$Square;", true)
  | 2 => ("PumpTalk", "kept", "LPumpTalk$Square;", true)
  | 3 => ("PumpTalk", "isKept", "Z", false)
  | 4 => ("PumpTalk", "reader", "LPumpTalk$Reader;", true)
  | 5 => ("PumpTalk", "matching", "LPumpTalk$Matching;", true)
  | 6 => ("PumpTalk", "sheets", "[LPumpTalk$Sheet;", true)
  | _ => ("PumpTalk", "tally", "[I", true)
def tyX5 : Nat → FieldType := fun k => match k with
  | 0 => .object "PumpTalk$Square"
  | 1 => .object "PumpTalk$Square"
  | 2 => .object "PumpTalk$Square"
  | 3 => .boolean
  | 4 => .object "PumpTalk$Reader"
  | 5 => .object "PumpTalk$Matching"
  | 6 => .array (.object "PumpTalk$Sheet")
  | _ => .array .int
abbrev wsX50 : List Cond := u_ws RX5 TX5 8
theorem nmX5 : ∀ a, a < 8 → ∀ b, b < 8 → a ≠ b → (TX5 a).2.1 ≠ (TX5 b).2.1 := by decide +kernel
theorem tyX5_ok : ∀ k, k < 8 → parseFieldDescriptor (TX5 k).2.2.1 = some (tyX5 k) := by decide +kernel
abbrev cX5_init : ByteArray := prog_1_method_1_code
def yX5_init : MethodName := ⟨RX5, "<init>", "()V"⟩
abbrev cX5_person : ByteArray := prog_1_method_2_code
def yX5_person : MethodName := ⟨RX5, "person", "(I)I"⟩
abbrev cX5_of : ByteArray := prog_1_method_3_code
def yX5_of : MethodName := ⟨RX5, "of", "(II)I"⟩
abbrev cX5_change : ByteArray := prog_1_method_4_code
def yX5_change : MethodName := ⟨RX5, "change", "(III)I"⟩
abbrev cX5_reply : ByteArray := prog_1_method_5_code
def yX5_reply : MethodName := ⟨RX5, "reply", "(III)I"⟩
abbrev cX5_apart : ByteArray := prog_1_method_6_code
def yX5_apart : MethodName := ⟨RX5, "apart", "(III)I"⟩
abbrev cX5_pair : ByteArray := prog_1_method_7_code
def yX5_pair : MethodName := ⟨RX5, "pair", "(II)I"⟩
abbrev cX5_rest : ByteArray := prog_1_method_8_code
def yX5_rest : MethodName := ⟨RX5, "rest", "()I"⟩
abbrev cX5_subject : ByteArray := prog_1_method_9_code
def yX5_subject : MethodName := ⟨RX5, "subject", "(I)I"⟩
abbrev cX5_go : ByteArray := prog_1_method_10_code
def yX5_go : MethodName := ⟨RX5, "go", "(I)I"⟩
abbrev cX5_now : ByteArray := prog_1_method_11_code
def yX5_now : MethodName := ⟨RX5, "now", "(I)I"⟩
abbrev cX5_ahead : ByteArray := prog_1_method_12_code
def yX5_ahead : MethodName := ⟨RX5, "ahead", "(I)I"⟩
abbrev cX5_view : ByteArray := prog_1_method_13_code
def yX5_view : MethodName := ⟨RX5, "view", "(III)I"⟩
abbrev cX5_dry : ByteArray := prog_1_method_14_code
def yX5_dry : MethodName := ⟨RX5, "dry", "()I"⟩
abbrev cX5_filled : ByteArray := prog_1_method_15_code
def yX5_filled : MethodName := ⟨RX5, "filled", "(I)I"⟩
abbrev cX5_round : ByteArray := prog_1_method_16_code
def yX5_round : MethodName := ⟨RX5, "round", "()I"⟩
abbrev cX5_gives : ByteArray := prog_1_method_17_code
def yX5_gives : MethodName := ⟨RX5, "gives", "(III)I"⟩
abbrev cX5_best : ByteArray := prog_1_method_18_code
def yX5_best : MethodName := ⟨RX5, "best", "(I)I"⟩
abbrev cX5_partner : ByteArray := prog_1_method_19_code
def yX5_partner : MethodName := ⟨RX5, "partner", "(II)I"⟩
abbrev cX5_subjectFor : ByteArray := prog_1_method_20_code
def yX5_subjectFor : MethodName := ⟨RX5, "subjectFor", "(III)I"⟩
abbrev cX5_matched : ByteArray := prog_1_method_21_code
def yX5_matched : MethodName := ⟨RX5, "matched", "(I)I"⟩
abbrev cX5_matchOf : ByteArray := prog_1_method_22_code
def yX5_matchOf : MethodName := ⟨RX5, "matchOf", "(II)I"⟩
abbrev cX5_kindFor : ByteArray := prog_1_method_23_code
def yX5_kindFor : MethodName := ⟨RX5, "kindFor", "(III)I"⟩
abbrev cX5_viewFor : ByteArray := prog_1_method_24_code
def yX5_viewFor : MethodName := ⟨RX5, "viewFor", "(IIII)I"⟩
abbrev cX5_voiceFor : ByteArray := prog_1_method_25_code
def yX5_voiceFor : MethodName := ⟨RX5, "voiceFor", "(IIII)I"⟩
abbrev cX5_fits : ByteArray := prog_1_method_26_code
def yX5_fits : MethodName := ⟨RX5, "fits", "(II)I"⟩
abbrev cX5_thought : ByteArray := prog_1_method_27_code
def yX5_thought : MethodName := ⟨RX5, "thought", "(II)I"⟩
abbrev cX5_kinds : ByteArray := prog_1_method_28_code
def yX5_kinds : MethodName := ⟨RX5, "kinds", "(II)I"⟩
abbrev cX5_quarrels : ByteArray := prog_1_method_29_code
def yX5_quarrels : MethodName := ⟨RX5, "quarrels", "(I)I"⟩
abbrev cX5_odds : ByteArray := prog_1_method_30_code
def yX5_odds : MethodName := ⟨RX5, "odds", "(II)J"⟩
abbrev cX5_seed : ByteArray := prog_1_method_31_code
def yX5_seed : MethodName := ⟨RX5, "seed", "(I)I"⟩
abbrev cX5_feed : ByteArray := prog_1_method_32_code
def yX5_feed : MethodName := ⟨RX5, "feed", "(II)I"⟩
abbrev cX5_wipe : ByteArray := prog_1_method_33_code
def yX5_wipe : MethodName := ⟨RX5, "wipe", "()I"⟩
abbrev cX5_text : ByteArray := prog_1_method_34_code
def yX5_text : MethodName := ⟨RX5, "text", "()I"⟩
abbrev cX5_hold : ByteArray := prog_1_method_35_code
def yX5_hold : MethodName := ⟨RX5, "hold", "(II)I"⟩
abbrev cX5_as : ByteArray := prog_1_method_36_code
def yX5_as : MethodName := ⟨RX5, "as", "(II)I"⟩
abbrev cX5_sheet : ByteArray := prog_1_method_37_code
def yX5_sheet : MethodName := ⟨RX5, "sheet", "(III)I"⟩
abbrev cX5_write : ByteArray := prog_1_method_38_code
def yX5_write : MethodName := ⟨RX5, "write", "(III)I"⟩
abbrev cX5_copy : ByteArray := prog_1_method_39_code
def yX5_copy : MethodName := ⟨RX5, "copy", "(IIIII)I"⟩
abbrev cX5_load : ByteArray := prog_1_method_40_code
def yX5_load : MethodName := ⟨RX5, "load", "(I)I"⟩
abbrev cX5_judge : ByteArray := prog_1_method_41_code
def yX5_judge : MethodName := ⟨RX5, "judge", "(I)I"⟩
abbrev cX5_image : ByteArray := prog_1_method_42_code
def yX5_image : MethodName := ⟨RX5, "image", "()I"⟩
abbrev cX5_undo : ByteArray := prog_1_method_43_code
def yX5_undo : MethodName := ⟨RX5, "undo", "()I"⟩
abbrev cX5_tear : ByteArray := prog_1_method_44_code
def yX5_tear : MethodName := ⟨RX5, "tear", "()I"⟩
abbrev cX5_count : ByteArray := prog_1_method_45_code
def yX5_count : MethodName := ⟨RX5, "count", "(I)I"⟩
abbrev cX5_status : ByteArray := prog_1_method_46_code
def yX5_status : MethodName := ⟨RX5, "status", "(I)I"⟩
abbrev cX5_found : ByteArray := prog_1_method_47_code
def yX5_found : MethodName := ⟨RX5, "found", "(I)I"⟩
abbrev cX5_isOutside : ByteArray := prog_1_method_48_code
def yX5_isOutside : MethodName := ⟨RX5, "isOutside", "(III)Z"⟩
abbrev cX5_isNoSubject : ByteArray := prog_1_method_49_code
def yX5_isNoSubject : MethodName := ⟨RX5, "isNoSubject", "(I)Z"⟩
abbrev cX5_isNoSheet : ByteArray := prog_1_method_50_code
def yX5_isNoSheet : MethodName := ⟨RX5, "isNoSheet", "(I)Z"⟩
abbrev cX5_isNoPair : ByteArray := prog_1_method_51_code
def yX5_isNoPair : MethodName := ⟨RX5, "isNoPair", "(II)Z"⟩
abbrev cX5_isWrongTrait : ByteArray := prog_1_method_52_code
def yX5_isWrongTrait : MethodName := ⟨RX5, "isWrongTrait", "(II)Z"⟩
abbrev cX5_leastTrait : ByteArray := prog_1_method_53_code
def yX5_leastTrait : MethodName := ⟨RX5, "leastTrait", "(I)I"⟩
abbrev cX5_mostTrait : ByteArray := prog_1_method_54_code
def yX5_mostTrait : MethodName := ⟨RX5, "mostTrait", "(I)I"⟩
abbrev cX5_lackOfSheet : ByteArray := prog_1_method_55_code
def yX5_lackOfSheet : MethodName := ⟨RX5, "lackOfSheet", "(I)I"⟩
abbrev cX5_lackOfFit : ByteArray := prog_1_method_56_code
def yX5_lackOfFit : MethodName := ⟨RX5, "lackOfFit", "(II)I"⟩
abbrev cX5_gain : ByteArray := prog_1_method_57_code
def yX5_gain : MethodName := ⟨RX5, "gain", "(III)I"⟩
abbrev cX5_gainAs : ByteArray := prog_1_method_58_code
def yX5_gainAs : MethodName := ⟨RX5, "gainAs", "(IIIII)I"⟩
abbrev cX5_bestTrait : ByteArray := prog_1_method_59_code
def yX5_bestTrait : MethodName := ⟨RX5, "bestTrait", "(IIII)I"⟩
abbrev cX5_weighPairs : ByteArray := prog_1_method_60_code
def yX5_weighPairs : MethodName := ⟨RX5, "weighPairs", "(I)V"⟩
abbrev cX5_isAsTold : ByteArray := prog_1_method_61_code
def yX5_isAsTold : MethodName := ⟨RX5, "isAsTold", "(LPumpTalk$Sheet;III)Z"⟩
abbrev cX5_pairNumber : ByteArray := prog_1_method_62_code
def yX5_pairNumber : MethodName := ⟨RX5, "pairNumber", "(II)I"⟩
abbrev cX5_power : ByteArray := prog_1_method_63_code
def yX5_power : MethodName := ⟨RX5, "power", "(JI)J"⟩
def RX6 : String := "PumpTalkModel"
def TX6 : u_T := fun k => match k with
  | 0 => ("PumpTalkModel", "s", "[I", true)
  | 1 => ("PumpTalkModel", "keptS", "[I", true)
  | 2 => ("PumpTalkModel", "other", "[I", true)
  | 3 => ("PumpTalkModel", "aside", "[I", true)
  | 4 => ("PumpTalkModel", "statuses", "[I", true)
  | 5 => ("PumpTalkModel", "isKept", "Z", false)
  | 6 => ("PumpTalkModel", "came", "I", false)
  | 7 => ("PumpTalkModel", "pairGives", "[I", true)
  | 8 => ("PumpTalkModel", "mosts", "[I", true)
  | 9 => ("PumpTalkModel", "with", "[I", true)
  | 10 => ("PumpTalkModel", "fitMany", "I", false)
  | 11 => ("PumpTalkModel", "fitLeast", "I", false)
  | 12 => ("PumpTalkModel", "tape", "[I", true)
  | 13 => ("PumpTalkModel", "taped", "I", false)
  | 14 => ("PumpTalkModel", "from", "I", false)
  | 15 => ("PumpTalkModel", "to", "I", false)
  | 16 => ("PumpTalkModel", "value", "I", false)
  | 17 => ("PumpTalkModel", "isWrong", "Z", false)
  | 18 => ("PumpTalkModel", "bitsOf", "[I", true)
  | 19 => ("PumpTalkModel", "sizeOf", "[I", true)
  | 20 => ("PumpTalkModel", "numbers", "[I", true)
  | _ => ("PumpTalkModel", "moved", "[I", true)
def tyX6 : Nat → FieldType := fun k => match k with
  | 0 => .array .int
  | 1 => .array .int
  | 2 => .array .int
  | 3 => .array .int
  | 4 => .array .int
  | 5 => .boolean
  | 6 => .int
  | 7 => .array .int
  | 8 => .array .int
  | 9 => .array .int
  | 10 => .int
  | 11 => .int
  | 12 => .array .int
  | 13 => .int
  | 14 => .int
  | 15 => .int
  | 16 => .int
  | 17 => .boolean
  | 18 => .array .int
  | 19 => .array .int
  | 20 => .array .int
  | _ => .array .int
abbrev wsX60 : List Cond := u_ws RX6 TX6 22
theorem nmX6 : ∀ a, a < 22 → ∀ b, b < 22 → a ≠ b → (TX6 a).2.1 ≠ (TX6 b).2.1 := by decide +kernel
theorem tyX6_ok : ∀ k, k < 22 → parseFieldDescriptor (TX6 k).2.2.1 = some (tyX6 k) := by decide +kernel
abbrev cX6_init : ByteArray := prog_8_method_1_code
def yX6_init : MethodName := ⟨RX6, "<init>", "()V"⟩
abbrev cX6_in : ByteArray := prog_8_method_2_code
def yX6_in : MethodName := ⟨RX6, "in", "(JJJ)Z"⟩
abbrev cX6_finds : ByteArray := prog_8_method_3_code
def yX6_finds : MethodName := ⟨RX6, "finds", "(I)I"⟩
abbrev cX6_saves : ByteArray := prog_8_method_4_code
def yX6_saves : MethodName := ⟨RX6, "saves", "()V"⟩
abbrev cX6_putsBack : ByteArray := prog_8_method_5_code
def yX6_putsBack : MethodName := ⟨RX6, "putsBack", "()V"⟩
abbrev cX6_laysAside : ByteArray := prog_8_method_6_code
def yX6_laysAside : MethodName := ⟨RX6, "laysAside", "()V"⟩
abbrev cX6_takesBack : ByteArray := prog_8_method_7_code
def yX6_takesBack : MethodName := ⟨RX6, "takesBack", "(I)I"⟩
abbrev cX6_becomes : ByteArray := prog_8_method_8_code
def yX6_becomes : MethodName := ⟨RX6, "becomes", "(II)I"⟩
abbrev cX6_isSubject : ByteArray := prog_8_method_9_code
def yX6_isSubject : MethodName := ⟨RX6, "isSubject", "(I)Z"⟩
abbrev cX6_isPerson : ByteArray := prog_8_method_10_code
def yX6_isPerson : MethodName := ⟨RX6, "isPerson", "(I)Z"⟩
abbrev cX6_areTwo : ByteArray := prog_8_method_11_code
def yX6_areTwo : MethodName := ⟨RX6, "areTwo", "(II)Z"⟩
abbrev cX6_isKind : ByteArray := prog_8_method_12_code
def yX6_isKind : MethodName := ⟨RX6, "isKind", "(I)Z"⟩
abbrev cX6_isView : ByteArray := prog_8_method_13_code
def yX6_isView : MethodName := ⟨RX6, "isView", "(I)Z"⟩
abbrev cX6_place : ByteArray := prog_8_method_14_code
def yX6_place : MethodName := ⟨RX6, "place", "(II)I"⟩
abbrev cX6_its : ByteArray := prog_8_method_15_code
def yX6_its : MethodName := ⟨RX6, "its", "(II)I"⟩
abbrev cX6_isSomebody : ByteArray := prog_8_method_16_code
def yX6_isSomebody : MethodName := ⟨RX6, "isSomebody", "()Z"⟩
abbrev cX6_adds : ByteArray := prog_8_method_17_code
def yX6_adds : MethodName := ⟨RX6, "adds", "(I)I"⟩
abbrev cX6_person : ByteArray := prog_8_method_18_code
def yX6_person : MethodName := ⟨RX6, "person", "(I)I"⟩
abbrev cX6_of : ByteArray := prog_8_method_19_code
def yX6_of : MethodName := ⟨RX6, "of", "(II)I"⟩
abbrev cX6_change : ByteArray := prog_8_method_20_code
def yX6_change : MethodName := ⟨RX6, "change", "(III)I"⟩
abbrev cX6_moves : ByteArray := prog_8_method_21_code
def yX6_moves : MethodName := ⟨RX6, "moves", "(II)I"⟩
abbrev cX6_strokes : ByteArray := prog_8_method_22_code
def yX6_strokes : MethodName := ⟨RX6, "strokes", "(II)I"⟩
abbrev cX6_reply : ByteArray := prog_8_method_23_code
def yX6_reply : MethodName := ⟨RX6, "reply", "(III)I"⟩
abbrev cX6_apartOn : ByteArray := prog_8_method_24_code
def yX6_apartOn : MethodName := ⟨RX6, "apartOn", "(III)I"⟩
abbrev cX6_apart : ByteArray := prog_8_method_25_code
def yX6_apart : MethodName := ⟨RX6, "apart", "(III)I"⟩
abbrev cX6_disputed : ByteArray := prog_8_method_26_code
def yX6_disputed : MethodName := ⟨RX6, "disputed", "()I"⟩
abbrev cX6_ones : ByteArray := prog_8_method_27_code
def yX6_ones : MethodName := ⟨RX6, "ones", "(I)I"⟩
abbrev cX6_pair : ByteArray := prog_8_method_28_code
def yX6_pair : MethodName := ⟨RX6, "pair", "(II)I"⟩
abbrev cX6_rest : ByteArray := prog_8_method_29_code
def yX6_rest : MethodName := ⟨RX6, "rest", "()I"⟩
abbrev cX6_subject : ByteArray := prog_8_method_30_code
def yX6_subject : MethodName := ⟨RX6, "subject", "(I)I"⟩
abbrev cX6_heldView : ByteArray := prog_8_method_31_code
def yX6_heldView : MethodName := ⟨RX6, "heldView", "(I)I"⟩
abbrev cX6_replies : ByteArray := prog_8_method_32_code
def yX6_replies : MethodName := ⟨RX6, "replies", "(I)V"⟩
abbrev cX6_minute : ByteArray := prog_8_method_33_code
def yX6_minute : MethodName := ⟨RX6, "minute", "()V"⟩
abbrev cX6_goesOn : ByteArray := prog_8_method_34_code
def yX6_goesOn : MethodName := ⟨RX6, "goesOn", "(I)V"⟩
abbrev cX6_go : ByteArray := prog_8_method_35_code
def yX6_go : MethodName := ⟨RX6, "go", "(I)I"⟩
abbrev cX6_voices : ByteArray := prog_8_method_36_code
def yX6_voices : MethodName := ⟨RX6, "voices", "()I"⟩
abbrev cX6_now : ByteArray := prog_8_method_37_code
def yX6_now : MethodName := ⟨RX6, "now", "(I)I"⟩
abbrev cX6_behind : ByteArray := prog_8_method_38_code
def yX6_behind : MethodName := ⟨RX6, "behind", "(II)I"⟩
abbrev cX6_ahead : ByteArray := prog_8_method_39_code
def yX6_ahead : MethodName := ⟨RX6, "ahead", "(I)I"⟩
abbrev cX6_view : ByteArray := prog_8_method_40_code
def yX6_view : MethodName := ⟨RX6, "view", "(III)I"⟩
abbrev cX6_orNone : ByteArray := prog_8_method_41_code
def yX6_orNone : MethodName := ⟨RX6, "orNone", "(I)I"⟩
abbrev cX6_dry : ByteArray := prog_8_method_42_code
def yX6_dry : MethodName := ⟨RX6, "dry", "()I"⟩
abbrev cX6_filled : ByteArray := prog_8_method_43_code
def yX6_filled : MethodName := ⟨RX6, "filled", "(I)I"⟩
abbrev cX6_isAsAside : ByteArray := prog_8_method_44_code
def yX6_isAsAside : MethodName := ⟨RX6, "isAsAside", "()Z"⟩
abbrev cX6_round : ByteArray := prog_8_method_45_code
def yX6_round : MethodName := ⟨RX6, "round", "()I"⟩
abbrev cX6_isSoon : ByteArray := prog_8_method_46_code
def yX6_isSoon : MethodName := ⟨RX6, "isSoon", "(I)Z"⟩
abbrev cX6_given : ByteArray := prog_8_method_47_code
def yX6_given : MethodName := ⟨RX6, "given", "(III)I"⟩
abbrev cX6_gives : ByteArray := prog_8_method_48_code
def yX6_gives : MethodName := ⟨RX6, "gives", "(III)I"⟩
abbrev cX6_best : ByteArray := prog_8_method_49_code
def yX6_best : MethodName := ⟨RX6, "best", "(I)I"⟩
abbrev cX6_partner : ByteArray := prog_8_method_50_code
def yX6_partner : MethodName := ⟨RX6, "partner", "(II)I"⟩
abbrev cX6_mostBy : ByteArray := prog_8_method_51_code
def yX6_mostBy : MethodName := ⟨RX6, "mostBy", "(IIIIII)I"⟩
abbrev cX6_subjectFor : ByteArray := prog_8_method_52_code
def yX6_subjectFor : MethodName := ⟨RX6, "subjectFor", "(III)I"⟩
abbrev cX6_findMatches : ByteArray := prog_8_method_53_code
def yX6_findMatches : MethodName := ⟨RX6, "findMatches", "(I)V"⟩
abbrev cX6_matched : ByteArray := prog_8_method_54_code
def yX6_matched : MethodName := ⟨RX6, "matched", "(I)I"⟩
abbrev cX6_matchOf : ByteArray := prog_8_method_55_code
def yX6_matchOf : MethodName := ⟨RX6, "matchOf", "(II)I"⟩
abbrev cX6_kindFor : ByteArray := prog_8_method_56_code
def yX6_kindFor : MethodName := ⟨RX6, "kindFor", "(III)I"⟩
abbrev cX6_viewFor : ByteArray := prog_8_method_57_code
def yX6_viewFor : MethodName := ⟨RX6, "viewFor", "(IIII)I"⟩
abbrev cX6_voiceFor : ByteArray := prog_8_method_58_code
def yX6_voiceFor : MethodName := ⟨RX6, "voiceFor", "(IIII)I"⟩
abbrev cX6_isTold : ByteArray := prog_8_method_59_code
def yX6_isTold : MethodName := ⟨RX6, "isTold", "(I)Z"⟩
abbrev cX6_wrongOne : ByteArray := prog_8_method_60_code
def yX6_wrongOne : MethodName := ⟨RX6, "wrongOne", "(II)I"⟩
abbrev cX6_findFits : ByteArray := prog_8_method_61_code
def yX6_findFits : MethodName := ⟨RX6, "findFits", "(II)V"⟩
abbrev cX6_fits : ByteArray := prog_8_method_62_code
def yX6_fits : MethodName := ⟨RX6, "fits", "(II)I"⟩
abbrev cX6_thought : ByteArray := prog_8_method_63_code
def yX6_thought : MethodName := ⟨RX6, "thought", "(II)I"⟩
abbrev cX6_kinds : ByteArray := prog_8_method_64_code
def yX6_kinds : MethodName := ⟨RX6, "kinds", "(II)I"⟩
abbrev cX6_draw : ByteArray := prog_8_method_65_code
def yX6_draw : MethodName := ⟨RX6, "draw", "()I"⟩
abbrev cX6_quarrels : ByteArray := prog_8_method_66_code
def yX6_quarrels : MethodName := ⟨RX6, "quarrels", "(I)I"⟩
abbrev cX6_odds : ByteArray := prog_8_method_67_code
def yX6_odds : MethodName := ⟨RX6, "odds", "(II)J"⟩
abbrev cX6_seed : ByteArray := prog_8_method_68_code
def yX6_seed : MethodName := ⟨RX6, "seed", "(I)I"⟩
abbrev cX6_feed : ByteArray := prog_8_method_69_code
def yX6_feed : MethodName := ⟨RX6, "feed", "(II)I"⟩
abbrev cX6_wipe : ByteArray := prog_8_method_70_code
def yX6_wipe : MethodName := ⟨RX6, "wipe", "()I"⟩
abbrev cX6_byteAt : ByteArray := prog_8_method_71_code
def yX6_byteAt : MethodName := ⟨RX6, "byteAt", "(I)I"⟩
abbrev cX6_isLetter : ByteArray := prog_8_method_72_code
def yX6_isLetter : MethodName := ⟨RX6, "isLetter", "(I)Z"⟩
abbrev cX6_isDigit : ByteArray := prog_8_method_73_code
def yX6_isDigit : MethodName := ⟨RX6, "isDigit", "(I)Z"⟩
abbrev cX6_token : ByteArray := prog_8_method_74_code
def yX6_token : MethodName := ⟨RX6, "token", "()V"⟩
abbrev cX6_must : ByteArray := prog_8_method_75_code
def yX6_must : MethodName := ⟨RX6, "must", "(Z)V"⟩
abbrev cX6_word : ByteArray := prog_8_method_76_code
def yX6_word : MethodName := ⟨RX6, "word", "()J"⟩
abbrev cX6_number : ByteArray := prog_8_method_77_code
def yX6_number : MethodName := ⟨RX6, "number", "(II)V"⟩
abbrev cX6_kindHere : ByteArray := prog_8_method_78_code
def yX6_kindHere : MethodName := ⟨RX6, "kindHere", "()I"⟩
abbrev cX6_isHere : ByteArray := prog_8_method_79_code
def yX6_isHere : MethodName := ⟨RX6, "isHere", "(I)Z"⟩
abbrev cX6_viewHere : ByteArray := prog_8_method_80_code
def yX6_viewHere : MethodName := ⟨RX6, "viewHere", "()I"⟩
abbrev cX6_personItem : ByteArray := prog_8_method_81_code
def yX6_personItem : MethodName := ⟨RX6, "personItem", "(I)V"⟩
abbrev cX6_pairItem : ByteArray := prog_8_method_82_code
def yX6_pairItem : MethodName := ⟨RX6, "pairItem", "()V"⟩
abbrev cX6_peeked : ByteArray := prog_8_method_83_code
def yX6_peeked : MethodName := ⟨RX6, "peeked", "()I"⟩
abbrev cX6_item : ByteArray := prog_8_method_84_code
def yX6_item : MethodName := ⟨RX6, "item", "()V"⟩
abbrev cX6_text : ByteArray := prog_8_method_85_code
def yX6_text : MethodName := ⟨RX6, "text", "()I"⟩
abbrev cX6_isSpot : ByteArray := prog_8_method_86_code
def yX6_isSpot : MethodName := ⟨RX6, "isSpot", "(I)Z"⟩
abbrev cX6_hold : ByteArray := prog_8_method_87_code
def yX6_hold : MethodName := ⟨RX6, "hold", "(II)I"⟩
abbrev cX6_above : ByteArray := prog_8_method_88_code
def yX6_above : MethodName := ⟨RX6, "above", "(I)I"⟩
abbrev cX6_as : ByteArray := prog_8_method_89_code
def yX6_as : MethodName := ⟨RX6, "as", "(II)I"⟩
abbrev cX6_isOne : ByteArray := prog_8_method_90_code
def yX6_isOne : MethodName := ⟨RX6, "isOne", "(I)Z"⟩
abbrev cX6_sheet : ByteArray := prog_8_method_91_code
def yX6_sheet : MethodName := ⟨RX6, "sheet", "(III)I"⟩
abbrev cX6_narrowed : ByteArray := prog_8_method_92_code
def yX6_narrowed : MethodName := ⟨RX6, "narrowed", "(II)I"⟩
abbrev cX6_wrong : ByteArray := prog_8_method_93_code
def yX6_wrong : MethodName := ⟨RX6, "wrong", "(I)I"⟩
abbrev cX6_write : ByteArray := prog_8_method_94_code
def yX6_write : MethodName := ⟨RX6, "write", "(III)I"⟩
abbrev cX6_copy : ByteArray := prog_8_method_95_code
def yX6_copy : MethodName := ⟨RX6, "copy", "(IIIII)I"⟩
abbrev cX6_load : ByteArray := prog_8_method_96_code
def yX6_load : MethodName := ⟨RX6, "load", "(I)I"⟩
abbrev cX6_judge : ByteArray := prog_8_method_97_code
def yX6_judge : MethodName := ⟨RX6, "judge", "(I)I"⟩
abbrev cX6_image : ByteArray := prog_8_method_98_code
def yX6_image : MethodName := ⟨RX6, "image", "()I"⟩
abbrev cX6_undo : ByteArray := prog_8_method_99_code
def yX6_undo : MethodName := ⟨RX6, "undo", "()I"⟩
abbrev cX6_tear : ByteArray := prog_8_method_100_code
def yX6_tear : MethodName := ⟨RX6, "tear", "()I"⟩
abbrev cX6_heldSpots : ByteArray := prog_8_method_101_code
def yX6_heldSpots : MethodName := ⟨RX6, "heldSpots", "()I"⟩
abbrev cX6_count : ByteArray := prog_8_method_102_code
def yX6_count : MethodName := ⟨RX6, "count", "(I)I"⟩
abbrev cX6_status : ByteArray := prog_8_method_103_code
def yX6_status : MethodName := ⟨RX6, "status", "(I)I"⟩
def RJ6 : String := "java/lang/Integer"
def TJ6 : u_T := fun k => match k with
  | _ => ("", "", "", false)
def tyJ6 : Nat → FieldType := fun k => match k with
  | _ => .int
abbrev wsJ60 : List Cond := u_ws RJ6 TJ6 0
theorem nmJ6 : ∀ a, a < 0 → ∀ b, b < 0 → a ≠ b → (TJ6 a).2.1 ≠ (TJ6 b).2.1 := by decide +kernel
theorem tyJ6_ok : ∀ k, k < 0 → parseFieldDescriptor (TJ6 k).2.2.1 = some (tyJ6 k) := by decide +kernel
abbrev cJ6_bitCount_0f7a4 : ByteArray := prog_9_method_49_code
def yJ6_bitCount_0f7a4 : MethodName := ⟨RJ6, "bitCount", "(I)I"⟩
def RJ9 : String := "java/lang/Math"
def TJ9 : u_T := fun k => match k with
  | _ => ("", "", "", false)
def tyJ9 : Nat → FieldType := fun k => match k with
  | _ => .int
abbrev wsJ90 : List Cond := u_ws RJ9 TJ9 0
theorem nmJ9 : ∀ a, a < 0 → ∀ b, b < 0 → a ≠ b → (TJ9 a).2.1 ≠ (TJ9 b).2.1 := by decide +kernel
theorem tyJ9_ok : ∀ k, k < 0 → parseFieldDescriptor (TJ9 k).2.2.1 = some (tyJ9 k) := by decide +kernel
abbrev cJ9_abs_0f7a4 : ByteArray := prog_10_method_59_code
def yJ9_abs_0f7a4 : MethodName := ⟨RJ9, "abs", "(I)I"⟩
abbrev cJ9_max_7cf53 : ByteArray := prog_10_method_65_code
def yJ9_max_7cf53 : MethodName := ⟨RJ9, "max", "(II)I"⟩
abbrev cJ9_min_7cf53 : ByteArray := prog_10_method_69_code
def yJ9_min_7cf53 : MethodName := ⟨RJ9, "min", "(II)I"⟩
def RJ0 : String := "java/lang/String"
def TJ0 : u_T := fun k => match k with
  | _ => ("", "", "", false)
def tyJ0 : Nat → FieldType := fun k => match k with
  | _ => .int
abbrev wsJ00 : List Cond := u_ws RJ0 TJ0 0
theorem nmJ0 : ∀ a, a < 0 → ∀ b, b < 0 → a ≠ b → (TJ0 a).2.1 ≠ (TJ0 b).2.1 := by decide +kernel
theorem tyJ0_ok : ∀ k, k < 0 → parseFieldDescriptor (TJ0 k).2.2.1 = some (tyJ0 k) := by decide +kernel
abbrev cJ0_length_8abf5 : ByteArray := prog_11_method_54_code
def yJ0_length_8abf5 : MethodName := ⟨RJ0, "length", "()I"⟩
abbrev cJ0_charAt_5068e : ByteArray := prog_11_method_56_code
def yJ0_charAt_5068e : MethodName := ⟨RJ0, "charAt", "(I)C"⟩
abbrev cJ0_coder_7d493 : ByteArray := prog_11_method_152_code
def yJ0_coder_7d493 : MethodName := ⟨RJ0, "coder", "()B"⟩
abbrev cJ0_isLatin1_aae02 : ByteArray := prog_11_method_154_code
def yJ0_isLatin1_aae02 : MethodName := ⟨RJ0, "isLatin1", "()Z"⟩
abbrev cJ0_checkIndex_df160 : ByteArray := prog_11_method_155_code
def yJ0_checkIndex_df160 : MethodName := ⟨RJ0, "checkIndex", "(II)V"⟩
def RJ1 : String := "java/lang/StringLatin1"
def TJ1 : u_T := fun k => match k with
  | _ => ("", "", "", false)
def tyJ1 : Nat → FieldType := fun k => match k with
  | _ => .int
abbrev wsJ10 : List Cond := u_ws RJ1 TJ1 0
theorem nmJ1 : ∀ a, a < 0 → ∀ b, b < 0 → a ≠ b → (TJ1 a).2.1 ≠ (TJ1 b).2.1 := by decide +kernel
theorem tyJ1_ok : ∀ k, k < 0 → parseFieldDescriptor (TJ1 k).2.2.1 = some (tyJ1 k) := by decide +kernel
abbrev cJ1_charAt_3b067 : ByteArray := prog_12_method_2_code
def yJ1_charAt_3b067 : MethodName := ⟨RJ1, "charAt", "([BI)C"⟩
def RJ2 : String := "java/lang/StringUTF16"
def TJ2 : u_T := fun k => match k with
  | _ => ("", "", "", false)
def tyJ2 : Nat → FieldType := fun k => match k with
  | _ => .int
abbrev wsJ20 : List Cond := u_ws RJ2 TJ2 0
theorem nmJ2 : ∀ a, a < 0 → ∀ b, b < 0 → a ≠ b → (TJ2 a).2.1 ≠ (TJ2 b).2.1 := by decide +kernel
theorem tyJ2_ok : ∀ k, k < 0 → parseFieldDescriptor (TJ2 k).2.2.1 = some (tyJ2 k) := by decide +kernel
abbrev cJ2_getChar_3b067 : ByteArray := prog_13_method_5_code
def yJ2_getChar_3b067 : MethodName := ⟨RJ2, "getChar", "([BI)C"⟩
abbrev cJ2_length_9d52b : ByteArray := prog_13_method_6_code
def yJ2_length_9d52b : MethodName := ⟨RJ2, "length", "([B)I"⟩
abbrev cJ2_charAt_3b067 : ByteArray := prog_13_method_83_code
def yJ2_charAt_3b067 : MethodName := ⟨RJ2, "charAt", "([BI)C"⟩
abbrev cJ2_checkIndex_2214a : ByteArray := prog_13_method_91_code
def yJ2_checkIndex_2214a : MethodName := ⟨RJ2, "checkIndex", "(I[B)V"⟩
def RJ10 : String := "java/lang/System"
def TJ10 : u_T := fun k => match k with
  | _ => ("", "", "", false)
def tyJ10 : Nat → FieldType := fun k => match k with
  | _ => .int
abbrev wsJ100 : List Cond := u_ws RJ10 TJ10 0
theorem nmJ10 : ∀ a, a < 0 → ∀ b, b < 0 → a ≠ b → (TJ10 a).2.1 ≠ (TJ10 b).2.1 := by decide +kernel
theorem tyJ10_ok : ∀ k, k < 0 → parseFieldDescriptor (TJ10 k).2.2.1 = some (tyJ10 k) := by decide +kernel
def RJ3 : String := "jdk/internal/util/Preconditions"
def TJ3 : u_T := fun k => match k with
  | _ => ("", "", "", false)
def tyJ3 : Nat → FieldType := fun k => match k with
  | _ => .int
abbrev wsJ30 : List Cond := u_ws RJ3 TJ3 0
theorem nmJ3 : ∀ a, a < 0 → ∀ b, b < 0 → a ≠ b → (TJ3 a).2.1 ≠ (TJ3 b).2.1 := by decide +kernel
theorem tyJ3_ok : ∀ k, k < 0 → parseFieldDescriptor (TJ3 k).2.2.1 = some (tyJ3 k) := by decide +kernel
abbrev cJ3_checkIndex_8e157 : ByteArray := prog_15_method_11_code
def yJ3_checkIndex_8e157 : MethodName := ⟨RJ3, "checkIndex", "(IILjava/util/function/BiFunction;)I"⟩
def RL : String := "PumpTalkLaw"
abbrev cL_law : ByteArray := code
def yL_law : MethodName := ⟨RL, "law", "([I)Z"⟩
abbrev vwCl : List vw_C := [(RX1, TX1, 2), (RX2, TX2, 6), (RX3, TX3, 3), (RX4, TX4, 11), (RX5, TX5, 8), (RX6, TX6, 22)]
end
section
def TB : List Cond := lw_tbl.filter goodWord
theorem tb_mem {w : Cond} (k : Nat) (h : lw_tbl[k]? = some w) (hg : goodWord w = true) : w ∈ TB := List.mem_filter.mpr ⟨List.mem_of_getElem? h, hg⟩
theorem tb_good {w : Cond} (h : w ∈ TB) : (w.onTables && w.keeps) = true ∨ ∃ ty, w = .arrayClass ty := good_of_word (List.mem_filter.mp h).2
theorem tb_sub {w : Cond} (h : w ∈ TB) : w ∈ lw_tbl := (List.mem_filter.mp h).1
theorem q0 : Cond.selects "PumpTalk" yX5_found yX5_found ∈ TB := tb_mem 0 (by decide +kernel) rfl
theorem q1 : Cond.selects "PumpTalk" yX5_isNoPair yX5_isNoPair ∈ TB := tb_mem 1 (by decide +kernel) rfl
theorem q2 : Cond.selects "PumpTalk$Square" yX4_exchange yX4_exchange ∈ TB := tb_mem 2 (by decide +kernel) rfl
theorem q3 : Cond.selects "PumpTalk" yX5_gain yX5_gain ∈ TB := tb_mem 3 (by decide +kernel) rfl
theorem q4 : Cond.selects "PumpTalk" yX5_weighPairs yX5_weighPairs ∈ TB := tb_mem 4 (by decide +kernel) rfl
theorem q5 : Cond.selects "PumpTalk$Matching" yX1_together yX1_together ∈ TB := tb_mem 5 (by decide +kernel) rfl
theorem q6 : Cond.selects "PumpTalk$Matching" yX1_leastMate yX1_leastMate ∈ TB := tb_mem 6 (by decide +kernel) rfl
theorem q7 : Cond.selects "PumpTalk" yX5_bestTrait yX5_bestTrait ∈ TB := tb_mem 7 (by decide +kernel) rfl
theorem q8 : Cond.selects "PumpTalk" yX5_gainAs yX5_gainAs ∈ TB := tb_mem 8 (by decide +kernel) rfl
theorem q9 : Cond.selects "PumpTalk" yX5_lackOfFit yX5_lackOfFit ∈ TB := tb_mem 9 (by decide +kernel) rfl
theorem q10 : Cond.selects "PumpTalk" yX5_lackOfSheet yX5_lackOfSheet ∈ TB := tb_mem 10 (by decide +kernel) rfl
theorem q11 : Cond.selects "PumpTalk" yX5_isAsTold yX5_isAsTold ∈ TB := tb_mem 11 (by decide +kernel) rfl
theorem q12 : Cond.selects "PumpTalk$Reader" yX2_advance yX2_advance ∈ TB := tb_mem 12 (by decide +kernel) rfl
theorem q13 : Cond.selects "PumpTalk$Reader" yX2_sortAt yX2_sortAt ∈ TB := tb_mem 13 (by decide +kernel) rfl
theorem q14 : Cond.selects "PumpTalk$Reader" yX2_readNumber yX2_readNumber ∈ TB := tb_mem 14 (by decide +kernel) rfl
theorem q15 : Cond.selects "PumpTalk$Reader" yX2_readItem yX2_readItem ∈ TB := tb_mem 15 (by decide +kernel) rfl
theorem q16 : Cond.selects "PumpTalk$Reader" yX2_isWord yX2_isWord ∈ TB := tb_mem 16 (by decide +kernel) rfl
theorem q17 : Cond.selects "PumpTalk$Reader" yX2_readPerson yX2_readPerson ∈ TB := tb_mem 17 (by decide +kernel) rfl
theorem q18 : Cond.selects "PumpTalk$Reader" yX2_isNumberUpTo yX2_isNumberUpTo ∈ TB := tb_mem 18 (by decide +kernel) rfl
theorem q19 : Cond.selects "PumpTalk$Reader" yX2_readViews yX2_readViews ∈ TB := tb_mem 19 (by decide +kernel) rfl
theorem q20 : Cond.selects "PumpTalk$Reader" yX2_isSign yX2_isSign ∈ TB := tb_mem 20 (by decide +kernel) rfl
theorem q21 : Cond.selects "PumpTalk$Reader" yX2_readPair yX2_readPair ∈ TB := tb_mem 21 (by decide +kernel) rfl
theorem q22 : Cond.selects "PumpTalk$Reader" yX2_readSubject yX2_readSubject ∈ TB := tb_mem 22 (by decide +kernel) rfl
theorem q23 : Cond.selects "PumpTalkModel" yX6_finds yX6_finds ∈ TB := tb_mem 23 (by decide +kernel) rfl
theorem q24 : Cond.selects "PumpTalkModel" yX6_adds yX6_adds ∈ TB := tb_mem 24 (by decide +kernel) rfl
theorem q25 : Cond.selects "PumpTalkModel" yX6_isPerson yX6_isPerson ∈ TB := tb_mem 25 (by decide +kernel) rfl
theorem q26 : Cond.selects "PumpTalkModel" yX6_its yX6_its ∈ TB := tb_mem 26 (by decide +kernel) rfl
theorem q27 : Cond.selects "PumpTalkModel" yX6_becomes yX6_becomes ∈ TB := tb_mem 27 (by decide +kernel) rfl
theorem q28 : Cond.selects "PumpTalkModel" yX6_moves yX6_moves ∈ TB := tb_mem 28 (by decide +kernel) rfl
theorem q29 : Cond.selects "PumpTalkModel" yX6_strokes yX6_strokes ∈ TB := tb_mem 29 (by decide +kernel) rfl
theorem q30 : Cond.selects "PumpTalkModel" yX6_apartOn yX6_apartOn ∈ TB := tb_mem 30 (by decide +kernel) rfl
theorem q31 : Cond.selects "PumpTalkModel" yX6_areTwo yX6_areTwo ∈ TB := tb_mem 31 (by decide +kernel) rfl
theorem q32 : Cond.selects "PumpTalkModel" yX6_disputed yX6_disputed ∈ TB := tb_mem 32 (by decide +kernel) rfl
theorem q33 : Cond.selects "PumpTalkModel" yX6_isSomebody yX6_isSomebody ∈ TB := tb_mem 33 (by decide +kernel) rfl
theorem q34 : Cond.selects "PumpTalkModel" yX6_goesOn yX6_goesOn ∈ TB := tb_mem 34 (by decide +kernel) rfl
theorem q35 : Cond.selects "PumpTalkModel" yX6_minute yX6_minute ∈ TB := tb_mem 35 (by decide +kernel) rfl
theorem q36 : Cond.selects "PumpTalkModel" yX6_replies yX6_replies ∈ TB := tb_mem 36 (by decide +kernel) rfl
theorem q37 : Cond.selects "PumpTalkModel" yX6_voices yX6_voices ∈ TB := tb_mem 37 (by decide +kernel) rfl
theorem q38 : Cond.selects "PumpTalkModel" yX6_behind yX6_behind ∈ TB := tb_mem 38 (by decide +kernel) rfl
theorem q39 : Cond.selects "PumpTalkModel" yX6_laysAside yX6_laysAside ∈ TB := tb_mem 39 (by decide +kernel) rfl
theorem q40 : Cond.selects "PumpTalkModel" yX6_takesBack yX6_takesBack ∈ TB := tb_mem 40 (by decide +kernel) rfl
theorem q41 : Cond.selects "PumpTalkModel" yX6_orNone yX6_orNone ∈ TB := tb_mem 41 (by decide +kernel) rfl
theorem q42 : Cond.selects "PumpTalkModel" yX6_isAsAside yX6_isAsAside ∈ TB := tb_mem 42 (by decide +kernel) rfl
theorem q43 : Cond.selects "PumpTalkModel" yX6_given yX6_given ∈ TB := tb_mem 43 (by decide +kernel) rfl
theorem q44 : Cond.selects "PumpTalkModel" yX6_mostBy yX6_mostBy ∈ TB := tb_mem 44 (by decide +kernel) rfl
theorem q45 : Cond.selects "PumpTalkModel" yX6_findMatches yX6_findMatches ∈ TB := tb_mem 45 (by decide +kernel) rfl
theorem q46 : Cond.selects "PumpTalkModel" yX6_wrongOne yX6_wrongOne ∈ TB := tb_mem 46 (by decide +kernel) rfl
theorem q47 : Cond.selects "PumpTalkModel" yX6_wrong yX6_wrong ∈ TB := tb_mem 47 (by decide +kernel) rfl
theorem q48 : Cond.selects "PumpTalkModel" yX6_findFits yX6_findFits ∈ TB := tb_mem 48 (by decide +kernel) rfl
theorem q49 : Cond.selects "PumpTalkModel" yX6_isTold yX6_isTold ∈ TB := tb_mem 49 (by decide +kernel) rfl
theorem q50 : Cond.selects "PumpTalkModel" yX6_draw yX6_draw ∈ TB := tb_mem 50 (by decide +kernel) rfl
theorem q51 : Cond.selects "PumpTalkModel" yX6_saves yX6_saves ∈ TB := tb_mem 51 (by decide +kernel) rfl
theorem q52 : Cond.selects "PumpTalkModel" yX6_token yX6_token ∈ TB := tb_mem 52 (by decide +kernel) rfl
theorem q53 : Cond.selects "PumpTalkModel" yX6_byteAt yX6_byteAt ∈ TB := tb_mem 53 (by decide +kernel) rfl
theorem q54 : Cond.selects "PumpTalkModel" yX6_item yX6_item ∈ TB := tb_mem 54 (by decide +kernel) rfl
theorem q55 : Cond.selects "PumpTalkModel" yX6_kindHere yX6_kindHere ∈ TB := tb_mem 55 (by decide +kernel) rfl
theorem q56 : Cond.selects "PumpTalkModel" yX6_word yX6_word ∈ TB := tb_mem 56 (by decide +kernel) rfl
theorem q57 : Cond.selects "PumpTalkModel" yX6_personItem yX6_personItem ∈ TB := tb_mem 57 (by decide +kernel) rfl
theorem q58 : Cond.selects "PumpTalkModel" yX6_must yX6_must ∈ TB := tb_mem 58 (by decide +kernel) rfl
theorem q59 : Cond.selects "PumpTalkModel" yX6_number yX6_number ∈ TB := tb_mem 59 (by decide +kernel) rfl
theorem q60 : Cond.selects "PumpTalkModel" yX6_viewHere yX6_viewHere ∈ TB := tb_mem 60 (by decide +kernel) rfl
theorem q61 : Cond.selects "PumpTalkModel" yX6_isHere yX6_isHere ∈ TB := tb_mem 61 (by decide +kernel) rfl
theorem q62 : Cond.selects "PumpTalkModel" yX6_pairItem yX6_pairItem ∈ TB := tb_mem 62 (by decide +kernel) rfl
theorem q63 : Cond.selects "PumpTalkModel" yX6_peeked yX6_peeked ∈ TB := tb_mem 63 (by decide +kernel) rfl
theorem q64 : Cond.selects "PumpTalkModel" yX6_putsBack yX6_putsBack ∈ TB := tb_mem 64 (by decide +kernel) rfl
theorem q65 : Cond.selects "PumpTalkModel" yX6_heldSpots yX6_heldSpots ∈ TB := tb_mem 65 (by decide +kernel) rfl
theorem q66 : Cond.initialized "PumpTalkLaw" ∈ TB := tb_mem 66 (by decide +kernel) rfl
theorem q67 : Cond.initialized "PumpTalk" ∈ TB := tb_mem 67 (by decide +kernel) rfl
theorem q68 : Cond.initialized "PumpTalk$Square" ∈ TB := tb_mem 68 (by decide +kernel) rfl
theorem q69 : Cond.initialized "PumpTalk$Reader" ∈ TB := tb_mem 69 (by decide +kernel) rfl
theorem q70 : Cond.initialized "PumpTalk$Matching" ∈ TB := tb_mem 70 (by decide +kernel) rfl
theorem q71 : Cond.initialized "PumpTalk$Sheet" ∈ TB := tb_mem 71 (by decide +kernel) rfl
theorem q72 : Cond.initialized "PumpTalkModel" ∈ TB := tb_mem 72 (by decide +kernel) rfl
theorem q73 : Cond.initialized "PumpTalk$Kinds" ∈ TB := tb_mem 73 (by decide +kernel) rfl
theorem q74 : Cond.initialized "java/lang/Math" ∈ TB := tb_mem 74 (by decide +kernel) rfl
theorem q75 : Cond.initialized "java/lang/Integer" ∈ TB := tb_mem 75 (by decide +kernel) rfl
theorem q76 : Cond.initialized "java/lang/System" ∈ TB := tb_mem 76 (by decide +kernel) rfl
theorem q77 : Cond.initialized "java/lang/String" ∈ TB := tb_mem 77 (by decide +kernel) rfl
theorem q78 : Cond.initialized "java/lang/StringLatin1" ∈ TB := tb_mem 78 (by decide +kernel) rfl
theorem q79 : Cond.initialized "jdk/internal/util/Preconditions" ∈ TB := tb_mem 79 (by decide +kernel) rfl
theorem q80 : Cond.initialized "java/lang/StringUTF16" ∈ TB := tb_mem 80 (by decide +kernel) rfl
theorem q81 : Cond.classLink "PumpTalkLaw" 7 "PumpTalk" ∈ TB := tb_mem 81 (by decide +kernel) rfl
theorem q82 : Cond.instantiable "PumpTalk" 8 ∈ TB := tb_mem 82 (by decide +kernel) rfl
theorem q83 : Cond.methodLink "PumpTalkLaw" 9 yX5_init ∈ TB := tb_mem 83 (by decide +kernel) rfl
theorem q84 : Cond.instanceMethod yX5_init ∈ TB := tb_mem 84 (by decide +kernel) rfl
theorem q85 : Cond.code yX5_init cX5_init 2 (none : Option Jvm.ClassFile.FieldType) ∈ TB := tb_mem 85 (by decide +kernel) rfl
theorem q86 : Cond.methodLink "PumpTalk" 3 ⟨"java/lang/Object", "<init>", "()V"⟩ ∈ TB := tb_mem 86 (by decide +kernel) rfl
theorem q87 : Cond.instanceMethod ⟨"java/lang/Object", "<init>", "()V"⟩ ∈ TB := tb_mem 87 (by decide +kernel) rfl
theorem q88 : Cond.code ⟨"java/lang/Object", "<init>", "()V"⟩ object_method_1_code 1 (none : Option Jvm.ClassFile.FieldType) ∈ TB := tb_mem 88 (by decide +kernel) rfl
theorem q89 : Cond.classLink "PumpTalk" 9 "PumpTalk$Square" ∈ TB := tb_mem 89 (by decide +kernel) rfl
theorem q90 : Cond.instantiable "PumpTalk$Square" 11 ∈ TB := tb_mem 90 (by decide +kernel) rfl
theorem q91 : Cond.methodLink "PumpTalk" 11 yX4_init ∈ TB := tb_mem 91 (by decide +kernel) rfl
theorem q92 : Cond.instanceMethod yX4_init ∈ TB := tb_mem 92 (by decide +kernel) rfl
theorem q93 : Cond.code yX4_init cX4_init 2 (none : Option Jvm.ClassFile.FieldType) ∈ TB := tb_mem 93 (by decide +kernel) rfl
theorem q94 : Cond.methodLink "PumpTalk$Square" 3 ⟨"java/lang/Object", "<init>", "()V"⟩ ∈ TB := tb_mem 94 (by decide +kernel) rfl
theorem q95 : Cond.fieldLink "PumpTalk$Square" 9 "PumpTalk$Square" "kindOf" "[I" ∈ TB := tb_mem 95 (by decide +kernel) rfl
theorem q96 : Cond.fieldLink "PumpTalk$Square" 15 "PumpTalk$Square" "voiceOf" "[I" ∈ TB := tb_mem 96 (by decide +kernel) rfl
theorem q97 : Cond.fieldLink "PumpTalk$Square" 18 "PumpTalk$Square" "views" "[I" ∈ TB := tb_mem 97 (by decide +kernel) rfl
theorem q98 : Cond.fieldLink "PumpTalk$Square" 21 "PumpTalk$Square" "spots" "[I" ∈ TB := tb_mem 98 (by decide +kernel) rfl
theorem q99 : Cond.fieldLink "PumpTalk" 223 "PumpTalk$Square" "spots" "[I" ∈ TB := tb_mem 99 (by decide +kernel) rfl
theorem q100 : Cond.fieldLink "PumpTalk$Square" 24 "PumpTalk$Square" "people" "I" ∈ TB := tb_mem 100 (by decide +kernel) rfl
theorem q101 : Cond.fieldLink "PumpTalk$Reader" 93 "PumpTalk$Square" "people" "I" ∈ TB := tb_mem 101 (by decide +kernel) rfl
theorem q102 : Cond.fieldLink "PumpTalk" 169 "PumpTalk$Square" "people" "I" ∈ TB := tb_mem 102 (by decide +kernel) rfl
theorem q103 : Cond.fieldLink "PumpTalk$Square" 28 "PumpTalk$Square" "minute" "I" ∈ TB := tb_mem 103 (by decide +kernel) rfl
theorem q104 : Cond.fieldLink "PumpTalk" 126 "PumpTalk$Square" "minute" "I" ∈ TB := tb_mem 104 (by decide +kernel) rfl
theorem q105 : Cond.fieldLink "PumpTalk$Square" 31 "PumpTalk$Square" "water" "I" ∈ TB := tb_mem 105 (by decide +kernel) rfl
theorem q106 : Cond.fieldLink "PumpTalk" 135 "PumpTalk$Square" "water" "I" ∈ TB := tb_mem 106 (by decide +kernel) rfl
theorem q107 : Cond.fieldLink "PumpTalk$Square" 34 "PumpTalk$Square" "topic" "I" ∈ TB := tb_mem 107 (by decide +kernel) rfl
theorem q108 : Cond.fieldLink "PumpTalk$Reader" 100 "PumpTalk$Square" "topic" "I" ∈ TB := tb_mem 108 (by decide +kernel) rfl
theorem q109 : Cond.fieldLink "PumpTalk" 122 "PumpTalk$Square" "topic" "I" ∈ TB := tb_mem 109 (by decide +kernel) rfl
theorem q110 : Cond.fieldLink "PumpTalk$Square" 37 "PumpTalk$Square" "first" "I" ∈ TB := tb_mem 110 (by decide +kernel) rfl
theorem q111 : Cond.fieldLink "PumpTalk" 138 "PumpTalk$Square" "first" "I" ∈ TB := tb_mem 111 (by decide +kernel) rfl
theorem q112 : Cond.fieldLink "PumpTalk$Square" 40 "PumpTalk$Square" "second" "I" ∈ TB := tb_mem 112 (by decide +kernel) rfl
theorem q113 : Cond.fieldLink "PumpTalk" 141 "PumpTalk$Square" "second" "I" ∈ TB := tb_mem 113 (by decide +kernel) rfl
theorem q114 : Cond.fieldLink "PumpTalk$Square" 43 "PumpTalk$Square" "z" "I" ∈ TB := tb_mem 114 (by decide +kernel) rfl
theorem q115 : Cond.fieldLink "PumpTalk" 210 "PumpTalk$Square" "z" "I" ∈ TB := tb_mem 115 (by decide +kernel) rfl
theorem q116 : Cond.laysFinal "PumpTalk$Square" "PumpTalk$Square" "kindOf" "[I" ∈ TB := tb_mem 116 (by decide +kernel) rfl
theorem q117 : Cond.soleField "PumpTalk$Square" "kindOf" ∈ TB := tb_mem 117 (by decide +kernel) rfl
theorem q118 : Cond.laysFinal "PumpTalk$Square" "PumpTalk$Square" "voiceOf" "[I" ∈ TB := tb_mem 118 (by decide +kernel) rfl
theorem q119 : Cond.soleField "PumpTalk$Square" "voiceOf" ∈ TB := tb_mem 119 (by decide +kernel) rfl
theorem q120 : Cond.laysFinal "PumpTalk$Square" "PumpTalk$Square" "views" "[I" ∈ TB := tb_mem 120 (by decide +kernel) rfl
theorem q121 : Cond.soleField "PumpTalk$Square" "views" ∈ TB := tb_mem 121 (by decide +kernel) rfl
theorem q122 : Cond.laysFinal "PumpTalk$Square" "PumpTalk$Square" "spots" "[I" ∈ TB := tb_mem 122 (by decide +kernel) rfl
theorem q123 : Cond.soleField "PumpTalk$Square" "spots" ∈ TB := tb_mem 123 (by decide +kernel) rfl
theorem q124 : Cond.lays "PumpTalk$Square" "PumpTalk$Square" "people" "I" ∈ TB := tb_mem 124 (by decide +kernel) rfl
theorem q125 : Cond.soleField "PumpTalk$Square" "people" ∈ TB := tb_mem 125 (by decide +kernel) rfl
theorem q126 : Cond.lays "PumpTalk$Square" "PumpTalk$Square" "minute" "I" ∈ TB := tb_mem 126 (by decide +kernel) rfl
theorem q127 : Cond.soleField "PumpTalk$Square" "minute" ∈ TB := tb_mem 127 (by decide +kernel) rfl
theorem q128 : Cond.lays "PumpTalk$Square" "PumpTalk$Square" "water" "I" ∈ TB := tb_mem 128 (by decide +kernel) rfl
theorem q129 : Cond.soleField "PumpTalk$Square" "water" ∈ TB := tb_mem 129 (by decide +kernel) rfl
theorem q130 : Cond.lays "PumpTalk$Square" "PumpTalk$Square" "topic" "I" ∈ TB := tb_mem 130 (by decide +kernel) rfl
theorem q131 : Cond.soleField "PumpTalk$Square" "topic" ∈ TB := tb_mem 131 (by decide +kernel) rfl
theorem q132 : Cond.lays "PumpTalk$Square" "PumpTalk$Square" "first" "I" ∈ TB := tb_mem 132 (by decide +kernel) rfl
theorem q133 : Cond.soleField "PumpTalk$Square" "first" ∈ TB := tb_mem 133 (by decide +kernel) rfl
theorem q134 : Cond.lays "PumpTalk$Square" "PumpTalk$Square" "second" "I" ∈ TB := tb_mem 134 (by decide +kernel) rfl
theorem q135 : Cond.soleField "PumpTalk$Square" "second" ∈ TB := tb_mem 135 (by decide +kernel) rfl
theorem q136 : Cond.lays "PumpTalk$Square" "PumpTalk$Square" "z" "I" ∈ TB := tb_mem 136 (by decide +kernel) rfl
theorem q137 : Cond.soleField "PumpTalk$Square" "z" ∈ TB := tb_mem 137 (by decide +kernel) rfl
theorem q139 : Cond.arrayClass .int ∈ TB := tb_mem 139 (by decide +kernel) rfl
theorem q140 : Cond.classLink "PumpTalk" 26 "PumpTalk$Reader" ∈ TB := tb_mem 140 (by decide +kernel) rfl
theorem q141 : Cond.instantiable "PumpTalk$Reader" 6 ∈ TB := tb_mem 141 (by decide +kernel) rfl
theorem q143 : Cond.instanceMethod yX2_init ∈ TB := tb_mem 143 (by decide +kernel) rfl
theorem q144 : Cond.code yX2_init cX2_init 1 (none : Option Jvm.ClassFile.FieldType) ∈ TB := tb_mem 144 (by decide +kernel) rfl
theorem q145 : Cond.methodLink "PumpTalk$Reader" 3 ⟨"java/lang/Object", "<init>", "()V"⟩ ∈ TB := tb_mem 145 (by decide +kernel) rfl
theorem q146 : Cond.fieldLink "PumpTalk$Reader" 9 "PumpTalk$Reader" "bytes" "[I" ∈ TB := tb_mem 146 (by decide +kernel) rfl
theorem q147 : Cond.fieldLink "PumpTalk$Reader" 15 "PumpTalk$Reader" "length" "I" ∈ TB := tb_mem 147 (by decide +kernel) rfl
theorem q148 : Cond.fieldLink "PumpTalk" 213 "PumpTalk$Reader" "length" "I" ∈ TB := tb_mem 148 (by decide +kernel) rfl
theorem q149 : Cond.fieldLink "PumpTalk$Reader" 19 "PumpTalk$Reader" "sort" "I" ∈ TB := tb_mem 149 (by decide +kernel) rfl
theorem q150 : Cond.fieldLink "PumpTalk$Reader" 22 "PumpTalk$Reader" "start" "I" ∈ TB := tb_mem 150 (by decide +kernel) rfl
theorem q151 : Cond.fieldLink "PumpTalk$Reader" 25 "PumpTalk$Reader" "behind" "I" ∈ TB := tb_mem 151 (by decide +kernel) rfl
theorem q152 : Cond.fieldLink "PumpTalk$Reader" 28 "PumpTalk$Reader" "number" "I" ∈ TB := tb_mem 152 (by decide +kernel) rfl
theorem q153 : Cond.laysFinal "PumpTalk$Reader" "PumpTalk$Reader" "bytes" "[I" ∈ TB := tb_mem 153 (by decide +kernel) rfl
theorem q154 : Cond.soleField "PumpTalk$Reader" "bytes" ∈ TB := tb_mem 154 (by decide +kernel) rfl
theorem q155 : Cond.lays "PumpTalk$Reader" "PumpTalk$Reader" "length" "I" ∈ TB := tb_mem 155 (by decide +kernel) rfl
theorem q156 : Cond.soleField "PumpTalk$Reader" "length" ∈ TB := tb_mem 156 (by decide +kernel) rfl
theorem q157 : Cond.lays "PumpTalk$Reader" "PumpTalk$Reader" "sort" "I" ∈ TB := tb_mem 157 (by decide +kernel) rfl
theorem q158 : Cond.soleField "PumpTalk$Reader" "sort" ∈ TB := tb_mem 158 (by decide +kernel) rfl
theorem q159 : Cond.lays "PumpTalk$Reader" "PumpTalk$Reader" "start" "I" ∈ TB := tb_mem 159 (by decide +kernel) rfl
theorem q160 : Cond.soleField "PumpTalk$Reader" "start" ∈ TB := tb_mem 160 (by decide +kernel) rfl
theorem q161 : Cond.lays "PumpTalk$Reader" "PumpTalk$Reader" "behind" "I" ∈ TB := tb_mem 161 (by decide +kernel) rfl
theorem q162 : Cond.soleField "PumpTalk$Reader" "behind" ∈ TB := tb_mem 162 (by decide +kernel) rfl
theorem q163 : Cond.lays "PumpTalk$Reader" "PumpTalk$Reader" "number" "I" ∈ TB := tb_mem 163 (by decide +kernel) rfl
theorem q164 : Cond.soleField "PumpTalk$Reader" "number" ∈ TB := tb_mem 164 (by decide +kernel) rfl
theorem q166 : Cond.classLink "PumpTalk" 33 "PumpTalk$Matching" ∈ TB := tb_mem 166 (by decide +kernel) rfl
theorem q167 : Cond.instantiable "PumpTalk$Matching" 2 ∈ TB := tb_mem 167 (by decide +kernel) rfl
theorem q169 : Cond.instanceMethod yX1_init ∈ TB := tb_mem 169 (by decide +kernel) rfl
theorem q170 : Cond.code yX1_init cX1_init 1 (none : Option Jvm.ClassFile.FieldType) ∈ TB := tb_mem 170 (by decide +kernel) rfl
theorem q171 : Cond.methodLink "PumpTalk$Matching" 3 ⟨"java/lang/Object", "<init>", "()V"⟩ ∈ TB := tb_mem 171 (by decide +kernel) rfl
theorem q172 : Cond.fieldLink "PumpTalk$Matching" 9 "PumpTalk$Matching" "gains" "[I" ∈ TB := tb_mem 172 (by decide +kernel) rfl
theorem q173 : Cond.fieldLink "PumpTalk$Matching" 15 "PumpTalk$Matching" "most" "[I" ∈ TB := tb_mem 173 (by decide +kernel) rfl
theorem q174 : Cond.laysFinal "PumpTalk$Matching" "PumpTalk$Matching" "gains" "[I" ∈ TB := tb_mem 174 (by decide +kernel) rfl
theorem q175 : Cond.soleField "PumpTalk$Matching" "gains" ∈ TB := tb_mem 175 (by decide +kernel) rfl
theorem q176 : Cond.laysFinal "PumpTalk$Matching" "PumpTalk$Matching" "most" "[I" ∈ TB := tb_mem 176 (by decide +kernel) rfl
theorem q177 : Cond.soleField "PumpTalk$Matching" "most" ∈ TB := tb_mem 177 (by decide +kernel) rfl
theorem q179 : Cond.classLink "PumpTalk" 40 "PumpTalk$Sheet" ∈ TB := tb_mem 179 (by decide +kernel) rfl
theorem q181 : Cond.instantiable "PumpTalk$Sheet" 3 ∈ TB := tb_mem 181 (by decide +kernel) rfl
theorem q183 : Cond.instanceMethod yX3_init ∈ TB := tb_mem 183 (by decide +kernel) rfl
theorem q184 : Cond.code yX3_init cX3_init 1 (none : Option Jvm.ClassFile.FieldType) ∈ TB := tb_mem 184 (by decide +kernel) rfl
theorem q185 : Cond.methodLink "PumpTalk$Sheet" 3 ⟨"java/lang/Object", "<init>", "()V"⟩ ∈ TB := tb_mem 185 (by decide +kernel) rfl
theorem q186 : Cond.fieldLink "PumpTalk$Sheet" 9 "PumpTalk$Sheet" "numbers" "[I" ∈ TB := tb_mem 186 (by decide +kernel) rfl
theorem q187 : Cond.fieldLink "PumpTalk" 258 "PumpTalk$Sheet" "numbers" "[I" ∈ TB := tb_mem 187 (by decide +kernel) rfl
theorem q188 : Cond.fieldLink "PumpTalk$Sheet" 15 "PumpTalk$Sheet" "bits" "I" ∈ TB := tb_mem 188 (by decide +kernel) rfl
theorem q189 : Cond.fieldLink "PumpTalk" 252 "PumpTalk$Sheet" "bits" "I" ∈ TB := tb_mem 189 (by decide +kernel) rfl
theorem q190 : Cond.fieldLink "PumpTalk$Sheet" 19 "PumpTalk$Sheet" "size" "I" ∈ TB := tb_mem 190 (by decide +kernel) rfl
theorem q191 : Cond.fieldLink "PumpTalk" 243 "PumpTalk$Sheet" "size" "I" ∈ TB := tb_mem 191 (by decide +kernel) rfl
theorem q192 : Cond.laysFinal "PumpTalk$Sheet" "PumpTalk$Sheet" "numbers" "[I" ∈ TB := tb_mem 192 (by decide +kernel) rfl
theorem q193 : Cond.soleField "PumpTalk$Sheet" "numbers" ∈ TB := tb_mem 193 (by decide +kernel) rfl
theorem q194 : Cond.lays "PumpTalk$Sheet" "PumpTalk$Sheet" "bits" "I" ∈ TB := tb_mem 194 (by decide +kernel) rfl
theorem q195 : Cond.soleField "PumpTalk$Sheet" "bits" ∈ TB := tb_mem 195 (by decide +kernel) rfl
theorem q196 : Cond.lays "PumpTalk$Sheet" "PumpTalk$Sheet" "size" "I" ∈ TB := tb_mem 196 (by decide +kernel) rfl
theorem q197 : Cond.soleField "PumpTalk$Sheet" "size" ∈ TB := tb_mem 197 (by decide +kernel) rfl
theorem q199 : Cond.fieldLink "PumpTalk" 12 "PumpTalk" "square" "LPumpTalk$Square;" ∈ TB := tb_mem 199 (by decide +kernel) rfl
theorem q200 : Cond.fieldLink "PumpTalk" 16 "PumpTalk" "trial" "LPumpTalk$Square;" ∈ TB := tb_mem 200 (by decide +kernel) rfl
theorem q201 : Cond.fieldLink "PumpTalk" 19 "PumpTalk" "kept" "LPumpTalk$Square;" ∈ TB := tb_mem 201 (by decide +kernel) rfl
theorem q202 : Cond.fieldLink "PumpTalk" 22 "PumpTalk" "isKept" "Z" ∈ TB := tb_mem 202 (by decide +kernel) rfl
theorem q203 : Cond.fieldLink "PumpTalk" 29 "PumpTalk" "reader" "LPumpTalk$Reader;" ∈ TB := tb_mem 203 (by decide +kernel) rfl
theorem q204 : Cond.fieldLink "PumpTalk" 36 "PumpTalk" "matching" "LPumpTalk$Matching;" ∈ TB := tb_mem 204 (by decide +kernel) rfl
theorem q205 : Cond.fieldLink "PumpTalk" 42 "PumpTalk" "sheets" "[LPumpTalk$Sheet;" ∈ TB := tb_mem 205 (by decide +kernel) rfl
theorem q206 : Cond.fieldLink "PumpTalk" 46 "PumpTalk" "tally" "[I" ∈ TB := tb_mem 206 (by decide +kernel) rfl
theorem q207 : Cond.laysFinal "PumpTalk" "PumpTalk" "square" "LPumpTalk$Square;" ∈ TB := tb_mem 207 (by decide +kernel) rfl
theorem q208 : Cond.soleField "PumpTalk" "square" ∈ TB := tb_mem 208 (by decide +kernel) rfl
theorem q209 : Cond.laysFinal "PumpTalk" "PumpTalk" "trial" "LPumpTalk$Square;" ∈ TB := tb_mem 209 (by decide +kernel) rfl
theorem q210 : Cond.soleField "PumpTalk" "trial" ∈ TB := tb_mem 210 (by decide +kernel) rfl
theorem q211 : Cond.laysFinal "PumpTalk" "PumpTalk" "kept" "LPumpTalk$Square;" ∈ TB := tb_mem 211 (by decide +kernel) rfl
theorem q212 : Cond.soleField "PumpTalk" "kept" ∈ TB := tb_mem 212 (by decide +kernel) rfl
theorem q213 : Cond.lays "PumpTalk" "PumpTalk" "isKept" "Z" ∈ TB := tb_mem 213 (by decide +kernel) rfl
theorem q214 : Cond.soleField "PumpTalk" "isKept" ∈ TB := tb_mem 214 (by decide +kernel) rfl
theorem q215 : Cond.laysFinal "PumpTalk" "PumpTalk" "reader" "LPumpTalk$Reader;" ∈ TB := tb_mem 215 (by decide +kernel) rfl
theorem q216 : Cond.soleField "PumpTalk" "reader" ∈ TB := tb_mem 216 (by decide +kernel) rfl
theorem q217 : Cond.laysFinal "PumpTalk" "PumpTalk" "matching" "LPumpTalk$Matching;" ∈ TB := tb_mem 217 (by decide +kernel) rfl
theorem q218 : Cond.soleField "PumpTalk" "matching" ∈ TB := tb_mem 218 (by decide +kernel) rfl
theorem q219 : Cond.laysFinal "PumpTalk" "PumpTalk" "sheets" "[LPumpTalk$Sheet;" ∈ TB := tb_mem 219 (by decide +kernel) rfl
theorem q220 : Cond.soleField "PumpTalk" "sheets" ∈ TB := tb_mem 220 (by decide +kernel) rfl
theorem q221 : Cond.laysFinal "PumpTalk" "PumpTalk" "tally" "[I" ∈ TB := tb_mem 221 (by decide +kernel) rfl
theorem q222 : Cond.soleField "PumpTalk" "tally" ∈ TB := tb_mem 222 (by decide +kernel) rfl
theorem q224 : Cond.methodLink "PumpTalkLaw" 13 yX5_person ∈ TB := tb_mem 224 (by decide +kernel) rfl
theorem q225 : Cond.instanceMethod yX5_person ∈ TB := tb_mem 225 (by decide +kernel) rfl
theorem q226 : Cond.selects "PumpTalk" yX5_person yX5_person ∈ TB := tb_mem 226 (by decide +kernel) rfl
theorem q227 : Cond.code yX5_person cX5_person 2 (some .int) ∈ TB := tb_mem 227 (by decide +kernel) rfl
theorem q228 : Cond.methodLink "PumpTalk" 51 yX5_isOutside ∈ TB := tb_mem 228 (by decide +kernel) rfl
theorem q229 : Cond.static yX5_isOutside ∈ TB := tb_mem 229 (by decide +kernel) rfl
theorem q230 : Cond.code yX5_isOutside cX5_isOutside 3 (some .boolean) ∈ TB := tb_mem 230 (by decide +kernel) rfl
theorem q231 : Cond.constant "PumpTalk" 55 (-1000001) ∈ TB := tb_mem 231 (by decide +kernel) rfl
theorem q232 : Cond.methodLink "PumpTalk" 56 yX5_found ∈ TB := tb_mem 232 (by decide +kernel) rfl
theorem q234 : Cond.instanceMethod yX5_found ∈ TB := tb_mem 234 (by decide +kernel) rfl
theorem q235 : Cond.code yX5_found cX5_found 3 (some .int) ∈ TB := tb_mem 235 (by decide +kernel) rfl
theorem q236 : Cond.methodLink "PumpTalk" 60 yX4_isCrowded ∈ TB := tb_mem 236 (by decide +kernel) rfl
theorem q237 : Cond.instanceMethod yX4_isCrowded ∈ TB := tb_mem 237 (by decide +kernel) rfl
theorem q238 : Cond.selects "PumpTalk$Square" yX4_isCrowded yX4_isCrowded ∈ TB := tb_mem 238 (by decide +kernel) rfl
theorem q239 : Cond.code yX4_isCrowded cX4_isCrowded 1 (some .boolean) ∈ TB := tb_mem 239 (by decide +kernel) rfl
theorem q240 : Cond.constant "PumpTalk" 64 (-1000002) ∈ TB := tb_mem 240 (by decide +kernel) rfl
theorem q241 : Cond.methodLink "PumpTalk" 65 yX4_addPerson ∈ TB := tb_mem 241 (by decide +kernel) rfl
theorem q242 : Cond.instanceMethod yX4_addPerson ∈ TB := tb_mem 242 (by decide +kernel) rfl
theorem q243 : Cond.selects "PumpTalk$Square" yX4_addPerson yX4_addPerson ∈ TB := tb_mem 243 (by decide +kernel) rfl
theorem q244 : Cond.code yX4_addPerson cX4_addPerson 4 (some .int) ∈ TB := tb_mem 244 (by decide +kernel) rfl
theorem q245 : Cond.methodLink "PumpTalk$Square" 52 yX4_setView ∈ TB := tb_mem 245 (by decide +kernel) rfl
theorem q246 : Cond.instanceMethod yX4_setView ∈ TB := tb_mem 246 (by decide +kernel) rfl
theorem q247 : Cond.selects "PumpTalk$Square" yX4_setView yX4_setView ∈ TB := tb_mem 247 (by decide +kernel) rfl
theorem q248 : Cond.code yX4_setView cX4_setView 4 (none : Option Jvm.ClassFile.FieldType) ∈ TB := tb_mem 248 (by decide +kernel) rfl
theorem q249 : Cond.methodLink "PumpTalkLaw" 18 yX5_of ∈ TB := tb_mem 249 (by decide +kernel) rfl
theorem q250 : Cond.instanceMethod yX5_of ∈ TB := tb_mem 250 (by decide +kernel) rfl
theorem q251 : Cond.selects "PumpTalk" yX5_of yX5_of ∈ TB := tb_mem 251 (by decide +kernel) rfl
theorem q252 : Cond.code yX5_of cX5_of 3 (some .int) ∈ TB := tb_mem 252 (by decide +kernel) rfl
theorem q253 : Cond.methodLink "PumpTalk" 68 yX4_isThere ∈ TB := tb_mem 253 (by decide +kernel) rfl
theorem q254 : Cond.instanceMethod yX4_isThere ∈ TB := tb_mem 254 (by decide +kernel) rfl
theorem q255 : Cond.selects "PumpTalk$Square" yX4_isThere yX4_isThere ∈ TB := tb_mem 255 (by decide +kernel) rfl
theorem q256 : Cond.code yX4_isThere cX4_isThere 2 (some .boolean) ∈ TB := tb_mem 256 (by decide +kernel) rfl
theorem q257 : Cond.methodLink "PumpTalk" 72 yX4_isAtHandle ∈ TB := tb_mem 257 (by decide +kernel) rfl
theorem q258 : Cond.instanceMethod yX4_isAtHandle ∈ TB := tb_mem 258 (by decide +kernel) rfl
theorem q259 : Cond.selects "PumpTalk$Square" yX4_isAtHandle yX4_isAtHandle ∈ TB := tb_mem 259 (by decide +kernel) rfl
theorem q260 : Cond.code yX4_isAtHandle cX4_isAtHandle 2 (some .boolean) ∈ TB := tb_mem 260 (by decide +kernel) rfl
theorem q261 : Cond.methodLink "PumpTalk" 75 yX4_trait ∈ TB := tb_mem 261 (by decide +kernel) rfl
theorem q262 : Cond.instanceMethod yX4_trait ∈ TB := tb_mem 262 (by decide +kernel) rfl
theorem q263 : Cond.selects "PumpTalk$Square" yX4_trait yX4_trait ∈ TB := tb_mem 263 (by decide +kernel) rfl
theorem q264 : Cond.code yX4_trait cX4_trait 3 (some .int) ∈ TB := tb_mem 264 (by decide +kernel) rfl
theorem q265 : Cond.methodLink "PumpTalk$Square" 56 yX4_viewOn ∈ TB := tb_mem 265 (by decide +kernel) rfl
theorem q266 : Cond.instanceMethod yX4_viewOn ∈ TB := tb_mem 266 (by decide +kernel) rfl
theorem q267 : Cond.selects "PumpTalk$Square" yX4_viewOn yX4_viewOn ∈ TB := tb_mem 267 (by decide +kernel) rfl
theorem q268 : Cond.code yX4_viewOn cX4_viewOn 3 (some .int) ∈ TB := tb_mem 268 (by decide +kernel) rfl
theorem q269 : Cond.methodLink "PumpTalkLaw" 23 yX5_change ∈ TB := tb_mem 269 (by decide +kernel) rfl
theorem q270 : Cond.instanceMethod yX5_change ∈ TB := tb_mem 270 (by decide +kernel) rfl
theorem q271 : Cond.selects "PumpTalk" yX5_change yX5_change ∈ TB := tb_mem 271 (by decide +kernel) rfl
theorem q272 : Cond.code yX5_change cX5_change 5 (some .int) ∈ TB := tb_mem 272 (by decide +kernel) rfl
theorem q273 : Cond.methodLink "PumpTalk" 79 yX5_isWrongTrait ∈ TB := tb_mem 273 (by decide +kernel) rfl
theorem q274 : Cond.static yX5_isWrongTrait ∈ TB := tb_mem 274 (by decide +kernel) rfl
theorem q275 : Cond.code yX5_isWrongTrait cX5_isWrongTrait 2 (some .boolean) ∈ TB := tb_mem 275 (by decide +kernel) rfl
theorem q276 : Cond.methodLink "PumpTalk" 273 yX5_leastTrait ∈ TB := tb_mem 276 (by decide +kernel) rfl
theorem q277 : Cond.static yX5_leastTrait ∈ TB := tb_mem 277 (by decide +kernel) rfl
theorem q278 : Cond.code yX5_leastTrait cX5_leastTrait 1 (some .int) ∈ TB := tb_mem 278 (by decide +kernel) rfl
theorem q279 : Cond.methodLink "PumpTalk" 276 yX5_mostTrait ∈ TB := tb_mem 279 (by decide +kernel) rfl
theorem q280 : Cond.static yX5_mostTrait ∈ TB := tb_mem 280 (by decide +kernel) rfl
theorem q281 : Cond.code yX5_mostTrait cX5_mostTrait 1 (some .int) ∈ TB := tb_mem 281 (by decide +kernel) rfl
theorem q282 : Cond.methodLink "PumpTalk" 83 yX4_setTrait ∈ TB := tb_mem 282 (by decide +kernel) rfl
theorem q283 : Cond.instanceMethod yX4_setTrait ∈ TB := tb_mem 283 (by decide +kernel) rfl
theorem q284 : Cond.selects "PumpTalk$Square" yX4_setTrait yX4_setTrait ∈ TB := tb_mem 284 (by decide +kernel) rfl
theorem q285 : Cond.code yX4_setTrait cX4_setTrait 4 (none : Option Jvm.ClassFile.FieldType) ∈ TB := tb_mem 285 (by decide +kernel) rfl
theorem q286 : Cond.methodLink "PumpTalkLaw" 28 yX5_reply ∈ TB := tb_mem 286 (by decide +kernel) rfl
theorem q287 : Cond.instanceMethod yX5_reply ∈ TB := tb_mem 287 (by decide +kernel) rfl
theorem q288 : Cond.selects "PumpTalk" yX5_reply yX5_reply ∈ TB := tb_mem 288 (by decide +kernel) rfl
theorem q289 : Cond.code yX5_reply cX5_reply 4 (some .int) ∈ TB := tb_mem 289 (by decide +kernel) rfl
theorem q290 : Cond.methodLink "PumpTalk" 87 yX4_movesOf ∈ TB := tb_mem 290 (by decide +kernel) rfl
theorem q291 : Cond.instanceMethod yX4_movesOf ∈ TB := tb_mem 291 (by decide +kernel) rfl
theorem q292 : Cond.selects "PumpTalk$Square" yX4_movesOf yX4_movesOf ∈ TB := tb_mem 292 (by decide +kernel) rfl
theorem q293 : Cond.code yX4_movesOf cX4_movesOf 3 (some .int) ∈ TB := tb_mem 293 (by decide +kernel) rfl
theorem q294 : Cond.methodLink "PumpTalk$Square" 66 yX0_moves ∈ TB := tb_mem 294 (by decide +kernel) rfl
theorem q295 : Cond.static yX0_moves ∈ TB := tb_mem 295 (by decide +kernel) rfl
theorem q296 : Cond.code yX0_moves cX0_moves 4 (some .int) ∈ TB := tb_mem 296 (by decide +kernel) rfl
theorem q297 : Cond.methodLink "PumpTalk" 90 yX4_strokesOf ∈ TB := tb_mem 297 (by decide +kernel) rfl
theorem q298 : Cond.instanceMethod yX4_strokesOf ∈ TB := tb_mem 298 (by decide +kernel) rfl
theorem q299 : Cond.selects "PumpTalk$Square" yX4_strokesOf yX4_strokesOf ∈ TB := tb_mem 299 (by decide +kernel) rfl
theorem q300 : Cond.code yX4_strokesOf cX4_strokesOf 3 (some .int) ∈ TB := tb_mem 300 (by decide +kernel) rfl
theorem q301 : Cond.methodLink "PumpTalk$Square" 72 yX0_strokes ∈ TB := tb_mem 301 (by decide +kernel) rfl
theorem q302 : Cond.static yX0_strokes ∈ TB := tb_mem 302 (by decide +kernel) rfl
theorem q303 : Cond.code yX0_strokes cX0_strokes 6 (some .int) ∈ TB := tb_mem 303 (by decide +kernel) rfl
theorem q304 : Cond.methodLink "PumpTalkLaw" 32 yX5_apart ∈ TB := tb_mem 304 (by decide +kernel) rfl
theorem q305 : Cond.instanceMethod yX5_apart ∈ TB := tb_mem 305 (by decide +kernel) rfl
theorem q306 : Cond.selects "PumpTalk" yX5_apart yX5_apart ∈ TB := tb_mem 306 (by decide +kernel) rfl
theorem q307 : Cond.code yX5_apart cX5_apart 4 (some .int) ∈ TB := tb_mem 307 (by decide +kernel) rfl
theorem q308 : Cond.methodLink "PumpTalk" 93 yX5_isNoSubject ∈ TB := tb_mem 308 (by decide +kernel) rfl
theorem q309 : Cond.static yX5_isNoSubject ∈ TB := tb_mem 309 (by decide +kernel) rfl
theorem q310 : Cond.code yX5_isNoSubject cX5_isNoSubject 1 (some .boolean) ∈ TB := tb_mem 310 (by decide +kernel) rfl
theorem q311 : Cond.methodLink "PumpTalk" 96 yX4_distance ∈ TB := tb_mem 311 (by decide +kernel) rfl
theorem q312 : Cond.instanceMethod yX4_distance ∈ TB := tb_mem 312 (by decide +kernel) rfl
theorem q313 : Cond.selects "PumpTalk$Square" yX4_distance yX4_distance ∈ TB := tb_mem 313 (by decide +kernel) rfl
theorem q314 : Cond.code yX4_distance cX4_distance 4 (some .int) ∈ TB := tb_mem 314 (by decide +kernel) rfl
theorem q315 : Cond.methodLink "PumpTalk$Square" 60 yJ9_abs_0f7a4 ∈ TB := tb_mem 315 (by decide +kernel) rfl
theorem q316 : Cond.static yJ9_abs_0f7a4 ∈ TB := tb_mem 316 (by decide +kernel) rfl
theorem q317 : Cond.code yJ9_abs_0f7a4 cJ9_abs_0f7a4 1 (some .int) ∈ TB := tb_mem 317 (by decide +kernel) rfl
theorem q318 : Cond.methodLink "PumpTalkLaw" 36 yX5_pair ∈ TB := tb_mem 318 (by decide +kernel) rfl
theorem q319 : Cond.instanceMethod yX5_pair ∈ TB := tb_mem 319 (by decide +kernel) rfl
theorem q320 : Cond.selects "PumpTalk" yX5_pair yX5_pair ∈ TB := tb_mem 320 (by decide +kernel) rfl
theorem q321 : Cond.code yX5_pair cX5_pair 3 (some .int) ∈ TB := tb_mem 321 (by decide +kernel) rfl
theorem q322 : Cond.methodLink "PumpTalk" 100 yX5_isNoPair ∈ TB := tb_mem 322 (by decide +kernel) rfl
theorem q324 : Cond.instanceMethod yX5_isNoPair ∈ TB := tb_mem 324 (by decide +kernel) rfl
theorem q325 : Cond.code yX5_isNoPair cX5_isNoPair 3 (some .boolean) ∈ TB := tb_mem 325 (by decide +kernel) rfl
theorem q326 : Cond.methodLink "PumpTalk" 103 yX4_seat ∈ TB := tb_mem 326 (by decide +kernel) rfl
theorem q327 : Cond.instanceMethod yX4_seat ∈ TB := tb_mem 327 (by decide +kernel) rfl
theorem q328 : Cond.selects "PumpTalk$Square" yX4_seat yX4_seat ∈ TB := tb_mem 328 (by decide +kernel) rfl
theorem q329 : Cond.code yX4_seat cX4_seat 3 (none : Option Jvm.ClassFile.FieldType) ∈ TB := tb_mem 329 (by decide +kernel) rfl
theorem q330 : Cond.methodLink "PumpTalk" 107 yX4_quarrelSet ∈ TB := tb_mem 330 (by decide +kernel) rfl
theorem q331 : Cond.instanceMethod yX4_quarrelSet ∈ TB := tb_mem 331 (by decide +kernel) rfl
theorem q332 : Cond.selects "PumpTalk$Square" yX4_quarrelSet yX4_quarrelSet ∈ TB := tb_mem 332 (by decide +kernel) rfl
theorem q333 : Cond.code yX4_quarrelSet cX4_quarrelSet 3 (some .int) ∈ TB := tb_mem 333 (by decide +kernel) rfl
theorem q334 : Cond.methodLink "PumpTalk$Square" 80 yX4_isManned ∈ TB := tb_mem 334 (by decide +kernel) rfl
theorem q335 : Cond.instanceMethod yX4_isManned ∈ TB := tb_mem 335 (by decide +kernel) rfl
theorem q336 : Cond.selects "PumpTalk$Square" yX4_isManned yX4_isManned ∈ TB := tb_mem 336 (by decide +kernel) rfl
theorem q337 : Cond.code yX4_isManned cX4_isManned 1 (some .boolean) ∈ TB := tb_mem 337 (by decide +kernel) rfl
theorem q338 : Cond.methodLink "PumpTalk$Square" 76 yX4_isThere ∈ TB := tb_mem 338 (by decide +kernel) rfl
theorem q339 : Cond.methodLink "PumpTalk$Square" 84 yX4_distance ∈ TB := tb_mem 339 (by decide +kernel) rfl
theorem q340 : Cond.methodLink "PumpTalk" 111 yJ6_bitCount_0f7a4 ∈ TB := tb_mem 340 (by decide +kernel) rfl
theorem q341 : Cond.static yJ6_bitCount_0f7a4 ∈ TB := tb_mem 341 (by decide +kernel) rfl
theorem q342 : Cond.code yJ6_bitCount_0f7a4 cJ6_bitCount_0f7a4 1 (some .int) ∈ TB := tb_mem 342 (by decide +kernel) rfl
theorem q343 : Cond.constant "java/lang/Integer" 265 1431655765 ∈ TB := tb_mem 343 (by decide +kernel) rfl
theorem q344 : Cond.constant "java/lang/Integer" 266 858993459 ∈ TB := tb_mem 344 (by decide +kernel) rfl
theorem q345 : Cond.constant "java/lang/Integer" 267 252645135 ∈ TB := tb_mem 345 (by decide +kernel) rfl
theorem q346 : Cond.methodLink "PumpTalkLaw" 40 yX5_rest ∈ TB := tb_mem 346 (by decide +kernel) rfl
theorem q347 : Cond.instanceMethod yX5_rest ∈ TB := tb_mem 347 (by decide +kernel) rfl
theorem q348 : Cond.selects "PumpTalk" yX5_rest yX5_rest ∈ TB := tb_mem 348 (by decide +kernel) rfl
theorem q349 : Cond.code yX5_rest cX5_rest 2 (some .int) ∈ TB := tb_mem 349 (by decide +kernel) rfl
theorem q350 : Cond.methodLink "PumpTalk" 116 yX4_isManned ∈ TB := tb_mem 350 (by decide +kernel) rfl
theorem q351 : Cond.methodLink "PumpTalk" 119 yX4_leave ∈ TB := tb_mem 351 (by decide +kernel) rfl
theorem q352 : Cond.instanceMethod yX4_leave ∈ TB := tb_mem 352 (by decide +kernel) rfl
theorem q353 : Cond.selects "PumpTalk$Square" yX4_leave yX4_leave ∈ TB := tb_mem 353 (by decide +kernel) rfl
theorem q354 : Cond.code yX4_leave cX4_leave 1 (none : Option Jvm.ClassFile.FieldType) ∈ TB := tb_mem 354 (by decide +kernel) rfl
theorem q355 : Cond.methodLink "PumpTalkLaw" 45 yX5_subject ∈ TB := tb_mem 355 (by decide +kernel) rfl
theorem q356 : Cond.instanceMethod yX5_subject ∈ TB := tb_mem 356 (by decide +kernel) rfl
theorem q357 : Cond.selects "PumpTalk" yX5_subject yX5_subject ∈ TB := tb_mem 357 (by decide +kernel) rfl
theorem q358 : Cond.code yX5_subject cX5_subject 3 (some .int) ∈ TB := tb_mem 358 (by decide +kernel) rfl
theorem q359 : Cond.methodLink "PumpTalkLaw" 49 yX5_go ∈ TB := tb_mem 359 (by decide +kernel) rfl
theorem q360 : Cond.instanceMethod yX5_go ∈ TB := tb_mem 360 (by decide +kernel) rfl
theorem q361 : Cond.selects "PumpTalk" yX5_go yX5_go ∈ TB := tb_mem 361 (by decide +kernel) rfl
theorem q362 : Cond.code yX5_go cX5_go 2 (some .int) ∈ TB := tb_mem 362 (by decide +kernel) rfl
theorem q363 : Cond.constant "PumpTalk" 129 99999 ∈ TB := tb_mem 363 (by decide +kernel) rfl
theorem q364 : Cond.constant "PumpTalk" 130 (-1000005) ∈ TB := tb_mem 364 (by decide +kernel) rfl
theorem q365 : Cond.methodLink "PumpTalk" 131 yX4_passMinutes ∈ TB := tb_mem 365 (by decide +kernel) rfl
theorem q366 : Cond.instanceMethod yX4_passMinutes ∈ TB := tb_mem 366 (by decide +kernel) rfl
theorem q367 : Cond.selects "PumpTalk$Square" yX4_passMinutes yX4_passMinutes ∈ TB := tb_mem 367 (by decide +kernel) rfl
theorem q368 : Cond.code yX4_passMinutes cX4_passMinutes 3 (none : Option Jvm.ClassFile.FieldType) ∈ TB := tb_mem 368 (by decide +kernel) rfl
theorem q369 : Cond.methodLink "PumpTalk$Square" 97 yX4_passMinute ∈ TB := tb_mem 369 (by decide +kernel) rfl
theorem q370 : Cond.instanceMethod yX4_passMinute ∈ TB := tb_mem 370 (by decide +kernel) rfl
theorem q371 : Cond.selects "PumpTalk$Square" yX4_passMinute yX4_passMinute ∈ TB := tb_mem 371 (by decide +kernel) rfl
theorem q372 : Cond.code yX4_passMinute cX4_passMinute 2 (some .int) ∈ TB := tb_mem 372 (by decide +kernel) rfl
theorem q373 : Cond.methodLink "PumpTalk$Square" 88 yX4_exchange ∈ TB := tb_mem 373 (by decide +kernel) rfl
theorem q375 : Cond.instanceMethod yX4_exchange ∈ TB := tb_mem 375 (by decide +kernel) rfl
theorem q376 : Cond.code yX4_exchange cX4_exchange 7 (some .int) ∈ TB := tb_mem 376 (by decide +kernel) rfl
theorem q377 : Cond.methodLink "PumpTalk$Square" 104 yX4_heldView ∈ TB := tb_mem 377 (by decide +kernel) rfl
theorem q378 : Cond.static yX4_heldView ∈ TB := tb_mem 378 (by decide +kernel) rfl
theorem q379 : Cond.code yX4_heldView cX4_heldView 1 (some .int) ∈ TB := tb_mem 379 (by decide +kernel) rfl
theorem q380 : Cond.constant "PumpTalk$Square" 92 999999 ∈ TB := tb_mem 380 (by decide +kernel) rfl
theorem q381 : Cond.methodLink "PumpTalk$Square" 93 yJ9_min_7cf53 ∈ TB := tb_mem 381 (by decide +kernel) rfl
theorem q382 : Cond.static yJ9_min_7cf53 ∈ TB := tb_mem 382 (by decide +kernel) rfl
theorem q383 : Cond.code yJ9_min_7cf53 cJ9_min_7cf53 2 (some .int) ∈ TB := tb_mem 383 (by decide +kernel) rfl
theorem q384 : Cond.constant "PumpTalk$Square" 96 99999 ∈ TB := tb_mem 384 (by decide +kernel) rfl
theorem q385 : Cond.methodLink "PumpTalkLaw" 53 yX5_now ∈ TB := tb_mem 385 (by decide +kernel) rfl
theorem q386 : Cond.instanceMethod yX5_now ∈ TB := tb_mem 386 (by decide +kernel) rfl
theorem q387 : Cond.selects "PumpTalk" yX5_now yX5_now ∈ TB := tb_mem 387 (by decide +kernel) rfl
theorem q388 : Cond.code yX5_now cX5_now 2 (some .int) ∈ TB := tb_mem 388 (by decide +kernel) rfl
theorem q389 : Cond.methodLink "PumpTalk" 144 yX5_pairNumber ∈ TB := tb_mem 389 (by decide +kernel) rfl
theorem q390 : Cond.static yX5_pairNumber ∈ TB := tb_mem 390 (by decide +kernel) rfl
theorem q391 : Cond.code yX5_pairNumber cX5_pairNumber 2 (some .int) ∈ TB := tb_mem 391 (by decide +kernel) rfl
theorem q392 : Cond.methodLink "PumpTalk" 147 yX4_allVoices ∈ TB := tb_mem 392 (by decide +kernel) rfl
theorem q393 : Cond.instanceMethod yX4_allVoices ∈ TB := tb_mem 393 (by decide +kernel) rfl
theorem q394 : Cond.selects "PumpTalk$Square" yX4_allVoices yX4_allVoices ∈ TB := tb_mem 394 (by decide +kernel) rfl
theorem q395 : Cond.code yX4_allVoices cX4_allVoices 3 (some .int) ∈ TB := tb_mem 395 (by decide +kernel) rfl
theorem q396 : Cond.methodLink "PumpTalkLaw" 57 yX5_ahead ∈ TB := tb_mem 396 (by decide +kernel) rfl
theorem q397 : Cond.instanceMethod yX5_ahead ∈ TB := tb_mem 397 (by decide +kernel) rfl
theorem q398 : Cond.selects "PumpTalk" yX5_ahead yX5_ahead ∈ TB := tb_mem 398 (by decide +kernel) rfl
theorem q399 : Cond.code yX5_ahead cX5_ahead 2 (some .int) ∈ TB := tb_mem 399 (by decide +kernel) rfl
theorem q400 : Cond.methodLink "PumpTalk" 150 yX4_takeOver ∈ TB := tb_mem 400 (by decide +kernel) rfl
theorem q401 : Cond.instanceMethod yX4_takeOver ∈ TB := tb_mem 401 (by decide +kernel) rfl
theorem q402 : Cond.selects "PumpTalk$Square" yX4_takeOver yX4_takeOver ∈ TB := tb_mem 402 (by decide +kernel) rfl
theorem q403 : Cond.code yX4_takeOver cX4_takeOver 2 (none : Option Jvm.ClassFile.FieldType) ∈ TB := tb_mem 403 (by decide +kernel) rfl
theorem q404 : Cond.methodLink "PumpTalk$Square" 46 ⟨"java/lang/System", "arraycopy", "(Ljava/lang/Object;ILjava/lang/Object;II)V"⟩ ∈ TB := tb_mem 404 (by decide +kernel) rfl
theorem q405 : Cond.static ⟨"java/lang/System", "arraycopy", "(Ljava/lang/Object;ILjava/lang/Object;II)V"⟩ ∈ TB := tb_mem 405 (by decide +kernel) rfl
theorem q406 : Cond.native ⟨"java/lang/System", "arraycopy", "(Ljava/lang/Object;ILjava/lang/Object;II)V"⟩ ∈ TB := tb_mem 406 (by decide +kernel) rfl
theorem q407 : Cond.methodLink "PumpTalkLaw" 61 yX5_view ∈ TB := tb_mem 407 (by decide +kernel) rfl
theorem q408 : Cond.instanceMethod yX5_view ∈ TB := tb_mem 408 (by decide +kernel) rfl
theorem q409 : Cond.selects "PumpTalk" yX5_view yX5_view ∈ TB := tb_mem 409 (by decide +kernel) rfl
theorem q410 : Cond.code yX5_view cX5_view 4 (some .int) ∈ TB := tb_mem 410 (by decide +kernel) rfl
theorem q411 : Cond.methodLink "PumpTalk" 154 yX4_viewOn ∈ TB := tb_mem 411 (by decide +kernel) rfl
theorem q412 : Cond.methodLink "PumpTalkLaw" 65 yX5_dry ∈ TB := tb_mem 412 (by decide +kernel) rfl
theorem q413 : Cond.instanceMethod yX5_dry ∈ TB := tb_mem 413 (by decide +kernel) rfl
theorem q414 : Cond.selects "PumpTalk" yX5_dry yX5_dry ∈ TB := tb_mem 414 (by decide +kernel) rfl
theorem q415 : Cond.code yX5_dry cX5_dry 2 (some .int) ∈ TB := tb_mem 415 (by decide +kernel) rfl
theorem q416 : Cond.methodLink "PumpTalk" 157 yX4_passMinute ∈ TB := tb_mem 416 (by decide +kernel) rfl
theorem q417 : Cond.constant "PumpTalk" 160 (-1000004) ∈ TB := tb_mem 417 (by decide +kernel) rfl
theorem q418 : Cond.methodLink "PumpTalkLaw" 69 yX5_filled ∈ TB := tb_mem 418 (by decide +kernel) rfl
theorem q419 : Cond.instanceMethod yX5_filled ∈ TB := tb_mem 419 (by decide +kernel) rfl
theorem q420 : Cond.selects "PumpTalk" yX5_filled yX5_filled ∈ TB := tb_mem 420 (by decide +kernel) rfl
theorem q421 : Cond.code yX5_filled cX5_filled 3 (some .int) ∈ TB := tb_mem 421 (by decide +kernel) rfl
theorem q422 : Cond.constant "PumpTalk" 161 999999 ∈ TB := tb_mem 422 (by decide +kernel) rfl
theorem q423 : Cond.methodLink "PumpTalkLaw" 73 yX5_round ∈ TB := tb_mem 423 (by decide +kernel) rfl
theorem q424 : Cond.instanceMethod yX5_round ∈ TB := tb_mem 424 (by decide +kernel) rfl
theorem q425 : Cond.selects "PumpTalk" yX5_round yX5_round ∈ TB := tb_mem 425 (by decide +kernel) rfl
theorem q426 : Cond.code yX5_round cX5_round 2 (some .int) ∈ TB := tb_mem 426 (by decide +kernel) rfl
theorem q427 : Cond.methodLink "PumpTalk" 162 yX4_thinksLike ∈ TB := tb_mem 427 (by decide +kernel) rfl
theorem q428 : Cond.instanceMethod yX4_thinksLike ∈ TB := tb_mem 428 (by decide +kernel) rfl
theorem q429 : Cond.selects "PumpTalk$Square" yX4_thinksLike yX4_thinksLike ∈ TB := tb_mem 429 (by decide +kernel) rfl
theorem q430 : Cond.code yX4_thinksLike cX4_thinksLike 3 (some .boolean) ∈ TB := tb_mem 430 (by decide +kernel) rfl
theorem q431 : Cond.methodLink "PumpTalkLaw" 77 yX5_gives ∈ TB := tb_mem 431 (by decide +kernel) rfl
theorem q432 : Cond.instanceMethod yX5_gives ∈ TB := tb_mem 432 (by decide +kernel) rfl
theorem q433 : Cond.selects "PumpTalk" yX5_gives yX5_gives ∈ TB := tb_mem 433 (by decide +kernel) rfl
theorem q434 : Cond.code yX5_gives cX5_gives 4 (some .int) ∈ TB := tb_mem 434 (by decide +kernel) rfl
theorem q435 : Cond.methodLink "PumpTalk" 166 yX5_gain ∈ TB := tb_mem 435 (by decide +kernel) rfl
theorem q437 : Cond.instanceMethod yX5_gain ∈ TB := tb_mem 437 (by decide +kernel) rfl
theorem q438 : Cond.code yX5_gain cX5_gain 4 (some .int) ∈ TB := tb_mem 438 (by decide +kernel) rfl
theorem q439 : Cond.methodLink "PumpTalk" 172 yX4_pumpBy ∈ TB := tb_mem 439 (by decide +kernel) rfl
theorem q440 : Cond.instanceMethod yX4_pumpBy ∈ TB := tb_mem 440 (by decide +kernel) rfl
theorem q441 : Cond.selects "PumpTalk$Square" yX4_pumpBy yX4_pumpBy ∈ TB := tb_mem 441 (by decide +kernel) rfl
theorem q442 : Cond.code yX4_pumpBy cX4_pumpBy 6 (some .int) ∈ TB := tb_mem 442 (by decide +kernel) rfl
theorem q443 : Cond.methodLink "PumpTalk$Square" 100 yX4_seat ∈ TB := tb_mem 443 (by decide +kernel) rfl
theorem q444 : Cond.methodLink "PumpTalkLaw" 81 yX5_best ∈ TB := tb_mem 444 (by decide +kernel) rfl
theorem q445 : Cond.instanceMethod yX5_best ∈ TB := tb_mem 445 (by decide +kernel) rfl
theorem q446 : Cond.selects "PumpTalk" yX5_best yX5_best ∈ TB := tb_mem 446 (by decide +kernel) rfl
theorem q447 : Cond.code yX5_best cX5_best 7 (some .int) ∈ TB := tb_mem 447 (by decide +kernel) rfl
theorem q448 : Cond.methodLink "PumpTalkLaw" 85 yX5_partner ∈ TB := tb_mem 448 (by decide +kernel) rfl
theorem q449 : Cond.instanceMethod yX5_partner ∈ TB := tb_mem 449 (by decide +kernel) rfl
theorem q450 : Cond.selects "PumpTalk" yX5_partner yX5_partner ∈ TB := tb_mem 450 (by decide +kernel) rfl
theorem q451 : Cond.code yX5_partner cX5_partner 7 (some .int) ∈ TB := tb_mem 451 (by decide +kernel) rfl
theorem q452 : Cond.methodLink "PumpTalkLaw" 89 yX5_subjectFor ∈ TB := tb_mem 452 (by decide +kernel) rfl
theorem q453 : Cond.instanceMethod yX5_subjectFor ∈ TB := tb_mem 453 (by decide +kernel) rfl
theorem q454 : Cond.selects "PumpTalk" yX5_subjectFor yX5_subjectFor ∈ TB := tb_mem 454 (by decide +kernel) rfl
theorem q455 : Cond.code yX5_subjectFor cX5_subjectFor 8 (some .int) ∈ TB := tb_mem 455 (by decide +kernel) rfl
theorem q456 : Cond.methodLink "PumpTalkLaw" 93 yX5_matched ∈ TB := tb_mem 456 (by decide +kernel) rfl
theorem q457 : Cond.instanceMethod yX5_matched ∈ TB := tb_mem 457 (by decide +kernel) rfl
theorem q458 : Cond.selects "PumpTalk" yX5_matched yX5_matched ∈ TB := tb_mem 458 (by decide +kernel) rfl
theorem q459 : Cond.code yX5_matched cX5_matched 2 (some .int) ∈ TB := tb_mem 459 (by decide +kernel) rfl
theorem q460 : Cond.methodLink "PumpTalk" 175 yX5_weighPairs ∈ TB := tb_mem 460 (by decide +kernel) rfl
theorem q462 : Cond.instanceMethod yX5_weighPairs ∈ TB := tb_mem 462 (by decide +kernel) rfl
theorem q463 : Cond.code yX5_weighPairs cX5_weighPairs 4 (none : Option Jvm.ClassFile.FieldType) ∈ TB := tb_mem 463 (by decide +kernel) rfl
theorem q464 : Cond.methodLink "PumpTalk" 279 yX1_weigh ∈ TB := tb_mem 464 (by decide +kernel) rfl
theorem q465 : Cond.instanceMethod yX1_weigh ∈ TB := tb_mem 465 (by decide +kernel) rfl
theorem q466 : Cond.selects "PumpTalk$Matching" yX1_weigh yX1_weigh ∈ TB := tb_mem 466 (by decide +kernel) rfl
theorem q467 : Cond.code yX1_weigh cX1_weigh 4 (none : Option Jvm.ClassFile.FieldType) ∈ TB := tb_mem 467 (by decide +kernel) rfl
theorem q469 : Cond.methodLink "PumpTalk" 282 yX1_solve ∈ TB := tb_mem 469 (by decide +kernel) rfl
theorem q470 : Cond.instanceMethod yX1_solve ∈ TB := tb_mem 470 (by decide +kernel) rfl
theorem q471 : Cond.selects "PumpTalk$Matching" yX1_solve yX1_solve ∈ TB := tb_mem 471 (by decide +kernel) rfl
theorem q472 : Cond.code yX1_solve cX1_solve 7 (none : Option Jvm.ClassFile.FieldType) ∈ TB := tb_mem 472 (by decide +kernel) rfl
theorem q473 : Cond.methodLink "PumpTalk$Matching" 22 yX1_everybody ∈ TB := tb_mem 473 (by decide +kernel) rfl
theorem q474 : Cond.static yX1_everybody ∈ TB := tb_mem 474 (by decide +kernel) rfl
theorem q475 : Cond.code yX1_everybody cX1_everybody 1 (some .int) ∈ TB := tb_mem 475 (by decide +kernel) rfl
theorem q476 : Cond.methodLink "PumpTalk$Matching" 26 yX1_leastOf ∈ TB := tb_mem 476 (by decide +kernel) rfl
theorem q477 : Cond.static yX1_leastOf ∈ TB := tb_mem 477 (by decide +kernel) rfl
theorem q478 : Cond.code yX1_leastOf cX1_leastOf 2 (some .int) ∈ TB := tb_mem 478 (by decide +kernel) rfl
theorem q479 : Cond.methodLink "PumpTalk$Matching" 29 yX1_together ∈ TB := tb_mem 479 (by decide +kernel) rfl
theorem q481 : Cond.instanceMethod yX1_together ∈ TB := tb_mem 481 (by decide +kernel) rfl
theorem q482 : Cond.code yX1_together cX1_together 4 (some .int) ∈ TB := tb_mem 482 (by decide +kernel) rfl
theorem q483 : Cond.methodLink "PumpTalk$Matching" 33 yJ9_max_7cf53 ∈ TB := tb_mem 483 (by decide +kernel) rfl
theorem q484 : Cond.static yJ9_max_7cf53 ∈ TB := tb_mem 484 (by decide +kernel) rfl
theorem q485 : Cond.code yJ9_max_7cf53 cJ9_max_7cf53 2 (some .int) ∈ TB := tb_mem 485 (by decide +kernel) rfl
theorem q486 : Cond.methodLink "PumpTalk" 178 yX1_total ∈ TB := tb_mem 486 (by decide +kernel) rfl
theorem q487 : Cond.instanceMethod yX1_total ∈ TB := tb_mem 487 (by decide +kernel) rfl
theorem q488 : Cond.selects "PumpTalk$Matching" yX1_total yX1_total ∈ TB := tb_mem 488 (by decide +kernel) rfl
theorem q489 : Cond.code yX1_total cX1_total 2 (some .int) ∈ TB := tb_mem 489 (by decide +kernel) rfl
theorem q490 : Cond.methodLink "PumpTalkLaw" 97 yX5_matchOf ∈ TB := tb_mem 490 (by decide +kernel) rfl
theorem q491 : Cond.instanceMethod yX5_matchOf ∈ TB := tb_mem 491 (by decide +kernel) rfl
theorem q492 : Cond.selects "PumpTalk" yX5_matchOf yX5_matchOf ∈ TB := tb_mem 492 (by decide +kernel) rfl
theorem q493 : Cond.code yX5_matchOf cX5_matchOf 3 (some .int) ∈ TB := tb_mem 493 (by decide +kernel) rfl
theorem q494 : Cond.methodLink "PumpTalk" 181 yX1_mateOf ∈ TB := tb_mem 494 (by decide +kernel) rfl
theorem q495 : Cond.instanceMethod yX1_mateOf ∈ TB := tb_mem 495 (by decide +kernel) rfl
theorem q496 : Cond.selects "PumpTalk$Matching" yX1_mateOf yX1_mateOf ∈ TB := tb_mem 496 (by decide +kernel) rfl
theorem q497 : Cond.code yX1_mateOf cX1_mateOf 8 (some .int) ∈ TB := tb_mem 497 (by decide +kernel) rfl
theorem q498 : Cond.methodLink "PumpTalk$Matching" 38 yX1_leastMate ∈ TB := tb_mem 498 (by decide +kernel) rfl
theorem q500 : Cond.instanceMethod yX1_leastMate ∈ TB := tb_mem 500 (by decide +kernel) rfl
theorem q501 : Cond.code yX1_leastMate cX1_leastMate 5 (some .int) ∈ TB := tb_mem 501 (by decide +kernel) rfl
theorem q502 : Cond.methodLink "PumpTalkLaw" 101 yX5_kindFor ∈ TB := tb_mem 502 (by decide +kernel) rfl
theorem q503 : Cond.instanceMethod yX5_kindFor ∈ TB := tb_mem 503 (by decide +kernel) rfl
theorem q504 : Cond.selects "PumpTalk" yX5_kindFor yX5_kindFor ∈ TB := tb_mem 504 (by decide +kernel) rfl
theorem q505 : Cond.code yX5_kindFor cX5_kindFor 4 (some .int) ∈ TB := tb_mem 505 (by decide +kernel) rfl
theorem q506 : Cond.methodLink "PumpTalk" 184 yX5_bestTrait ∈ TB := tb_mem 506 (by decide +kernel) rfl
theorem q508 : Cond.instanceMethod yX5_bestTrait ∈ TB := tb_mem 508 (by decide +kernel) rfl
theorem q509 : Cond.code yX5_bestTrait cX5_bestTrait 9 (some .int) ∈ TB := tb_mem 509 (by decide +kernel) rfl
theorem q510 : Cond.methodLink "PumpTalk" 188 yX5_gainAs ∈ TB := tb_mem 510 (by decide +kernel) rfl
theorem q512 : Cond.instanceMethod yX5_gainAs ∈ TB := tb_mem 512 (by decide +kernel) rfl
theorem q513 : Cond.code yX5_gainAs cX5_gainAs 6 (some .int) ∈ TB := tb_mem 513 (by decide +kernel) rfl
theorem q514 : Cond.methodLink "PumpTalkLaw" 105 yX5_viewFor ∈ TB := tb_mem 514 (by decide +kernel) rfl
theorem q515 : Cond.instanceMethod yX5_viewFor ∈ TB := tb_mem 515 (by decide +kernel) rfl
theorem q516 : Cond.selects "PumpTalk" yX5_viewFor yX5_viewFor ∈ TB := tb_mem 516 (by decide +kernel) rfl
theorem q517 : Cond.code yX5_viewFor cX5_viewFor 5 (some .int) ∈ TB := tb_mem 517 (by decide +kernel) rfl
theorem q518 : Cond.methodLink "PumpTalkLaw" 110 yX5_voiceFor ∈ TB := tb_mem 518 (by decide +kernel) rfl
theorem q519 : Cond.instanceMethod yX5_voiceFor ∈ TB := tb_mem 519 (by decide +kernel) rfl
theorem q520 : Cond.selects "PumpTalk" yX5_voiceFor yX5_voiceFor ∈ TB := tb_mem 520 (by decide +kernel) rfl
theorem q521 : Cond.code yX5_voiceFor cX5_voiceFor 6 (some .int) ∈ TB := tb_mem 521 (by decide +kernel) rfl
theorem q522 : Cond.methodLink "PumpTalkLaw" 114 yX5_fits ∈ TB := tb_mem 522 (by decide +kernel) rfl
theorem q523 : Cond.instanceMethod yX5_fits ∈ TB := tb_mem 523 (by decide +kernel) rfl
theorem q524 : Cond.selects "PumpTalk" yX5_fits yX5_fits ∈ TB := tb_mem 524 (by decide +kernel) rfl
theorem q525 : Cond.code yX5_fits cX5_fits 6 (some .int) ∈ TB := tb_mem 525 (by decide +kernel) rfl
theorem q526 : Cond.methodLink "PumpTalk" 192 yX5_lackOfFit ∈ TB := tb_mem 526 (by decide +kernel) rfl
theorem q528 : Cond.instanceMethod yX5_lackOfFit ∈ TB := tb_mem 528 (by decide +kernel) rfl
theorem q529 : Cond.code yX5_lackOfFit cX5_lackOfFit 4 (some .int) ∈ TB := tb_mem 529 (by decide +kernel) rfl
theorem q530 : Cond.methodLink "PumpTalk" 240 yX5_lackOfSheet ∈ TB := tb_mem 530 (by decide +kernel) rfl
theorem q532 : Cond.instanceMethod yX5_lackOfSheet ∈ TB := tb_mem 532 (by decide +kernel) rfl
theorem q533 : Cond.code yX5_lackOfSheet cX5_lackOfSheet 2 (some .int) ∈ TB := tb_mem 533 (by decide +kernel) rfl
theorem q534 : Cond.methodLink "PumpTalk" 233 yX5_isNoSheet ∈ TB := tb_mem 534 (by decide +kernel) rfl
theorem q535 : Cond.static yX5_isNoSheet ∈ TB := tb_mem 535 (by decide +kernel) rfl
theorem q536 : Cond.code yX5_isNoSheet cX5_isNoSheet 1 (some .boolean) ∈ TB := tb_mem 536 (by decide +kernel) rfl
theorem q537 : Cond.methodLink "PumpTalk" 249 yX3_isMissing ∈ TB := tb_mem 537 (by decide +kernel) rfl
theorem q538 : Cond.instanceMethod yX3_isMissing ∈ TB := tb_mem 538 (by decide +kernel) rfl
theorem q539 : Cond.selects "PumpTalk$Sheet" yX3_isMissing yX3_isMissing ∈ TB := tb_mem 539 (by decide +kernel) rfl
theorem q540 : Cond.code yX3_isMissing cX3_isMissing 1 (some .boolean) ∈ TB := tb_mem 540 (by decide +kernel) rfl
theorem q541 : Cond.constant "PumpTalk" 226 (-1000006) ∈ TB := tb_mem 541 (by decide +kernel) rfl
theorem q542 : Cond.methodLink "PumpTalk" 195 yX5_isAsTold ∈ TB := tb_mem 542 (by decide +kernel) rfl
theorem q544 : Cond.instanceMethod yX5_isAsTold ∈ TB := tb_mem 544 (by decide +kernel) rfl
theorem q545 : Cond.code yX5_isAsTold cX5_isAsTold 6 (some .boolean) ∈ TB := tb_mem 545 (by decide +kernel) rfl
theorem q546 : Cond.methodLink "PumpTalkLaw" 118 yX5_thought ∈ TB := tb_mem 546 (by decide +kernel) rfl
theorem q547 : Cond.instanceMethod yX5_thought ∈ TB := tb_mem 547 (by decide +kernel) rfl
theorem q548 : Cond.selects "PumpTalk" yX5_thought yX5_thought ∈ TB := tb_mem 548 (by decide +kernel) rfl
theorem q549 : Cond.code yX5_thought cX5_thought 5 (some .int) ∈ TB := tb_mem 549 (by decide +kernel) rfl
theorem q550 : Cond.methodLink "PumpTalkLaw" 122 yX5_kinds ∈ TB := tb_mem 550 (by decide +kernel) rfl
theorem q551 : Cond.instanceMethod yX5_kinds ∈ TB := tb_mem 551 (by decide +kernel) rfl
theorem q552 : Cond.selects "PumpTalk" yX5_kinds yX5_kinds ∈ TB := tb_mem 552 (by decide +kernel) rfl
theorem q553 : Cond.code yX5_kinds cX5_kinds 6 (some .int) ∈ TB := tb_mem 553 (by decide +kernel) rfl
theorem q554 : Cond.methodLink "PumpTalkLaw" 126 yX5_quarrels ∈ TB := tb_mem 554 (by decide +kernel) rfl
theorem q555 : Cond.instanceMethod yX5_quarrels ∈ TB := tb_mem 555 (by decide +kernel) rfl
theorem q556 : Cond.selects "PumpTalk" yX5_quarrels yX5_quarrels ∈ TB := tb_mem 556 (by decide +kernel) rfl
theorem q557 : Cond.code yX5_quarrels cX5_quarrels 5 (some .int) ∈ TB := tb_mem 557 (by decide +kernel) rfl
theorem q558 : Cond.methodLink "PumpTalk" 199 yX4_draw ∈ TB := tb_mem 558 (by decide +kernel) rfl
theorem q559 : Cond.instanceMethod yX4_draw ∈ TB := tb_mem 559 (by decide +kernel) rfl
theorem q560 : Cond.selects "PumpTalk$Square" yX4_draw yX4_draw ∈ TB := tb_mem 560 (by decide +kernel) rfl
theorem q561 : Cond.code yX4_draw cX4_draw 1 (some .int) ∈ TB := tb_mem 561 (by decide +kernel) rfl
theorem q562 : Cond.constant "PumpTalk$Square" 87 1103515245 ∈ TB := tb_mem 562 (by decide +kernel) rfl
theorem q563 : Cond.methodLink "PumpTalkLaw" 130 yX5_odds ∈ TB := tb_mem 563 (by decide +kernel) rfl
theorem q564 : Cond.instanceMethod yX5_odds ∈ TB := tb_mem 564 (by decide +kernel) rfl
theorem q565 : Cond.selects "PumpTalk" yX5_odds yX5_odds ∈ TB := tb_mem 565 (by decide +kernel) rfl
theorem q566 : Cond.code yX5_odds cX5_odds 7 (some .long) ∈ TB := tb_mem 566 (by decide +kernel) rfl
theorem q567 : Cond.constantLong "PumpTalk" 202 64 ∈ TB := tb_mem 567 (by decide +kernel) rfl
theorem q568 : Cond.constantLong "PumpTalk" 204 2 ∈ TB := tb_mem 568 (by decide +kernel) rfl
theorem q569 : Cond.methodLink "PumpTalk" 206 yX5_power ∈ TB := tb_mem 569 (by decide +kernel) rfl
theorem q570 : Cond.static yX5_power ∈ TB := tb_mem 570 (by decide +kernel) rfl
theorem q571 : Cond.code yX5_power cX5_power 6 (some .long) ∈ TB := tb_mem 571 (by decide +kernel) rfl
theorem q572 : Cond.methodLink "PumpTalkLaw" 135 yX5_seed ∈ TB := tb_mem 572 (by decide +kernel) rfl
theorem q573 : Cond.instanceMethod yX5_seed ∈ TB := tb_mem 573 (by decide +kernel) rfl
theorem q574 : Cond.selects "PumpTalk" yX5_seed yX5_seed ∈ TB := tb_mem 574 (by decide +kernel) rfl
theorem q575 : Cond.code yX5_seed cX5_seed 3 (some .int) ∈ TB := tb_mem 575 (by decide +kernel) rfl
theorem q576 : Cond.methodLink "PumpTalkLaw" 139 yX5_feed ∈ TB := tb_mem 576 (by decide +kernel) rfl
theorem q577 : Cond.instanceMethod yX5_feed ∈ TB := tb_mem 577 (by decide +kernel) rfl
theorem q578 : Cond.selects "PumpTalk" yX5_feed yX5_feed ∈ TB := tb_mem 578 (by decide +kernel) rfl
theorem q579 : Cond.code yX5_feed cX5_feed 4 (some .int) ∈ TB := tb_mem 579 (by decide +kernel) rfl
theorem q580 : Cond.methodLink "PumpTalk" 216 yX2_append ∈ TB := tb_mem 580 (by decide +kernel) rfl
theorem q581 : Cond.instanceMethod yX2_append ∈ TB := tb_mem 581 (by decide +kernel) rfl
theorem q582 : Cond.selects "PumpTalk$Reader" yX2_append yX2_append ∈ TB := tb_mem 582 (by decide +kernel) rfl
theorem q583 : Cond.code yX2_append cX2_append 2 (none : Option Jvm.ClassFile.FieldType) ∈ TB := tb_mem 583 (by decide +kernel) rfl
theorem q584 : Cond.methodLink "PumpTalkLaw" 143 yX5_wipe ∈ TB := tb_mem 584 (by decide +kernel) rfl
theorem q585 : Cond.instanceMethod yX5_wipe ∈ TB := tb_mem 585 (by decide +kernel) rfl
theorem q586 : Cond.selects "PumpTalk" yX5_wipe yX5_wipe ∈ TB := tb_mem 586 (by decide +kernel) rfl
theorem q587 : Cond.code yX5_wipe cX5_wipe 2 (some .int) ∈ TB := tb_mem 587 (by decide +kernel) rfl
theorem q588 : Cond.methodLink "PumpTalkLaw" 147 yX5_text ∈ TB := tb_mem 588 (by decide +kernel) rfl
theorem q589 : Cond.instanceMethod yX5_text ∈ TB := tb_mem 589 (by decide +kernel) rfl
theorem q590 : Cond.selects "PumpTalk" yX5_text yX5_text ∈ TB := tb_mem 590 (by decide +kernel) rfl
theorem q591 : Cond.code yX5_text cX5_text 2 (some .int) ∈ TB := tb_mem 591 (by decide +kernel) rfl
theorem q592 : Cond.methodLink "PumpTalk" 219 yX2_readInto ∈ TB := tb_mem 592 (by decide +kernel) rfl
theorem q593 : Cond.instanceMethod yX2_readInto ∈ TB := tb_mem 593 (by decide +kernel) rfl
theorem q594 : Cond.selects "PumpTalk$Reader" yX2_readInto yX2_readInto ∈ TB := tb_mem 594 (by decide +kernel) rfl
theorem q595 : Cond.code yX2_readInto cX2_readInto 3 (some .int) ∈ TB := tb_mem 595 (by decide +kernel) rfl
theorem q596 : Cond.methodLink "PumpTalk$Reader" 31 yX2_advance ∈ TB := tb_mem 596 (by decide +kernel) rfl
theorem q598 : Cond.instanceMethod yX2_advance ∈ TB := tb_mem 598 (by decide +kernel) rfl
theorem q599 : Cond.code yX2_advance cX2_advance 1 (none : Option Jvm.ClassFile.FieldType) ∈ TB := tb_mem 599 (by decide +kernel) rfl
theorem q600 : Cond.methodLink "PumpTalk$Reader" 112 yX2_sortAt ∈ TB := tb_mem 600 (by decide +kernel) rfl
theorem q602 : Cond.instanceMethod yX2_sortAt ∈ TB := tb_mem 602 (by decide +kernel) rfl
theorem q603 : Cond.code yX2_sortAt cX2_sortAt 3 (some .int) ∈ TB := tb_mem 603 (by decide +kernel) rfl
theorem q604 : Cond.methodLink "PumpTalk$Reader" 115 yX2_readNumber ∈ TB := tb_mem 604 (by decide +kernel) rfl
theorem q606 : Cond.instanceMethod yX2_readNumber ∈ TB := tb_mem 606 (by decide +kernel) rfl
theorem q607 : Cond.code yX2_readNumber cX2_readNumber 2 (none : Option Jvm.ClassFile.FieldType) ∈ TB := tb_mem 607 (by decide +kernel) rfl
theorem q608 : Cond.methodLink "PumpTalk$Reader" 34 yX2_readItem ∈ TB := tb_mem 608 (by decide +kernel) rfl
theorem q610 : Cond.instanceMethod yX2_readItem ∈ TB := tb_mem 610 (by decide +kernel) rfl
theorem q611 : Cond.code yX2_readItem cX2_readItem 3 (some .boolean) ∈ TB := tb_mem 611 (by decide +kernel) rfl
theorem q612 : Cond.methodLink "PumpTalk$Reader" 42 yX0_nameOf ∈ TB := tb_mem 612 (by decide +kernel) rfl
theorem q613 : Cond.static yX0_nameOf ∈ TB := tb_mem 613 (by decide +kernel) rfl
theorem q614 : Cond.code yX0_nameOf cX0_nameOf 1 (some (.object "java/lang/String")) ∈ TB := tb_mem 614 (by decide +kernel) rfl
theorem q622 : Cond.methodLink "PumpTalk$Reader" 48 yX2_isWord ∈ TB := tb_mem 622 (by decide +kernel) rfl
theorem q624 : Cond.instanceMethod yX2_isWord ∈ TB := tb_mem 624 (by decide +kernel) rfl
theorem q625 : Cond.code yX2_isWord cX2_isWord 3 (some .boolean) ∈ TB := tb_mem 625 (by decide +kernel) rfl
theorem q626 : Cond.methodLink "PumpTalk$Reader" 103 yJ0_length_8abf5 ∈ TB := tb_mem 626 (by decide +kernel) rfl
theorem q627 : Cond.instanceMethod yJ0_length_8abf5 ∈ TB := tb_mem 627 (by decide +kernel) rfl
theorem q628 : Cond.selects "java/lang/String" yJ0_length_8abf5 yJ0_length_8abf5 ∈ TB := tb_mem 628 (by decide +kernel) rfl
theorem q629 : Cond.code yJ0_length_8abf5 cJ0_length_8abf5 1 (some .int) ∈ TB := tb_mem 629 (by decide +kernel) rfl
theorem q630 : Cond.methodLink "java/lang/String" 335 yJ0_coder_7d493 ∈ TB := tb_mem 630 (by decide +kernel) rfl
theorem q631 : Cond.instanceMethod yJ0_coder_7d493 ∈ TB := tb_mem 631 (by decide +kernel) rfl
theorem q632 : Cond.selects "java/lang/String" yJ0_coder_7d493 yJ0_coder_7d493 ∈ TB := tb_mem 632 (by decide +kernel) rfl
theorem q633 : Cond.code yJ0_coder_7d493 cJ0_coder_7d493 1 (some .byte) ∈ TB := tb_mem 633 (by decide +kernel) rfl
theorem q634 : Cond.fieldLink "java/lang/String" 38 "java/lang/String" "COMPACT_STRINGS" "Z" ∈ TB := tb_mem 634 (by decide +kernel) rfl
theorem q636 : Cond.methodLink "PumpTalk$Reader" 108 yJ0_charAt_5068e ∈ TB := tb_mem 636 (by decide +kernel) rfl
theorem q637 : Cond.instanceMethod yJ0_charAt_5068e ∈ TB := tb_mem 637 (by decide +kernel) rfl
theorem q638 : Cond.selects "java/lang/String" yJ0_charAt_5068e yJ0_charAt_5068e ∈ TB := tb_mem 638 (by decide +kernel) rfl
theorem q639 : Cond.code yJ0_charAt_5068e cJ0_charAt_5068e 2 (some .char) ∈ TB := tb_mem 639 (by decide +kernel) rfl
theorem q640 : Cond.methodLink "java/lang/String" 492 yJ0_isLatin1_aae02 ∈ TB := tb_mem 640 (by decide +kernel) rfl
theorem q641 : Cond.instanceMethod yJ0_isLatin1_aae02 ∈ TB := tb_mem 641 (by decide +kernel) rfl
theorem q642 : Cond.selects "java/lang/String" yJ0_isLatin1_aae02 yJ0_isLatin1_aae02 ∈ TB := tb_mem 642 (by decide +kernel) rfl
theorem q643 : Cond.code yJ0_isLatin1_aae02 cJ0_isLatin1_aae02 1 (some .boolean) ∈ TB := tb_mem 643 (by decide +kernel) rfl
theorem q644 : Cond.methodLink "java/lang/String" 495 yJ1_charAt_3b067 ∈ TB := tb_mem 644 (by decide +kernel) rfl
theorem q645 : Cond.static yJ1_charAt_3b067 ∈ TB := tb_mem 645 (by decide +kernel) rfl
theorem q646 : Cond.code yJ1_charAt_3b067 cJ1_charAt_3b067 2 (some .char) ∈ TB := tb_mem 646 (by decide +kernel) rfl
theorem q647 : Cond.methodLink "java/lang/StringLatin1" 9 yJ0_checkIndex_df160 ∈ TB := tb_mem 647 (by decide +kernel) rfl
theorem q648 : Cond.static yJ0_checkIndex_df160 ∈ TB := tb_mem 648 (by decide +kernel) rfl
theorem q649 : Cond.code yJ0_checkIndex_df160 cJ0_checkIndex_df160 2 (none : Option Jvm.ClassFile.FieldType) ∈ TB := tb_mem 649 (by decide +kernel) rfl
theorem q650 : Cond.fieldLink "java/lang/String" 1053 "jdk/internal/util/Preconditions" "SIOOBE_FORMATTER" "Ljava/util/function/BiFunction;" ∈ TB := tb_mem 650 (by decide +kernel) rfl
theorem q652 : Cond.methodLink "java/lang/String" 1059 yJ3_checkIndex_8e157 ∈ TB := tb_mem 652 (by decide +kernel) rfl
theorem q653 : Cond.static yJ3_checkIndex_8e157 ∈ TB := tb_mem 653 (by decide +kernel) rfl
theorem q654 : Cond.code yJ3_checkIndex_8e157 cJ3_checkIndex_8e157 3 (some .int) ∈ TB := tb_mem 654 (by decide +kernel) rfl
theorem q655 : Cond.methodLink "java/lang/String" 498 yJ2_charAt_3b067 ∈ TB := tb_mem 655 (by decide +kernel) rfl
theorem q656 : Cond.static yJ2_charAt_3b067 ∈ TB := tb_mem 656 (by decide +kernel) rfl
theorem q657 : Cond.code yJ2_charAt_3b067 cJ2_charAt_3b067 2 (some .char) ∈ TB := tb_mem 657 (by decide +kernel) rfl
theorem q658 : Cond.methodLink "java/lang/StringUTF16" 67 yJ2_checkIndex_2214a ∈ TB := tb_mem 658 (by decide +kernel) rfl
theorem q659 : Cond.static yJ2_checkIndex_2214a ∈ TB := tb_mem 659 (by decide +kernel) rfl
theorem q660 : Cond.code yJ2_checkIndex_2214a cJ2_checkIndex_2214a 2 (none : Option Jvm.ClassFile.FieldType) ∈ TB := tb_mem 660 (by decide +kernel) rfl
theorem q661 : Cond.methodLink "java/lang/StringUTF16" 48 yJ2_length_9d52b ∈ TB := tb_mem 661 (by decide +kernel) rfl
theorem q662 : Cond.static yJ2_length_9d52b ∈ TB := tb_mem 662 (by decide +kernel) rfl
theorem q663 : Cond.code yJ2_length_9d52b cJ2_length_9d52b 1 (some .int) ∈ TB := tb_mem 663 (by decide +kernel) rfl
theorem q664 : Cond.methodLink "java/lang/StringUTF16" 414 yJ0_checkIndex_df160 ∈ TB := tb_mem 664 (by decide +kernel) rfl
theorem q665 : Cond.methodLink "java/lang/StringUTF16" 71 yJ2_getChar_3b067 ∈ TB := tb_mem 665 (by decide +kernel) rfl
theorem q666 : Cond.static yJ2_getChar_3b067 ∈ TB := tb_mem 666 (by decide +kernel) rfl
theorem q667 : Cond.code yJ2_getChar_3b067 cJ2_getChar_3b067 2 (some .char) ∈ TB := tb_mem 667 (by decide +kernel) rfl
theorem q668 : Cond.fieldLink "java/lang/StringUTF16" 44 "java/lang/StringUTF16" "$assertionsDisabled" "Z" ∈ TB := tb_mem 668 (by decide +kernel) rfl
theorem q670 : Cond.fieldLink "java/lang/StringUTF16" 59 "java/lang/StringUTF16" "HI_BYTE_SHIFT" "I" ∈ TB := tb_mem 670 (by decide +kernel) rfl
theorem q672 : Cond.fieldLink "java/lang/StringUTF16" 63 "java/lang/StringUTF16" "LO_BYTE_SHIFT" "I" ∈ TB := tb_mem 672 (by decide +kernel) rfl
theorem q674 : Cond.methodLink "PumpTalk$Reader" 52 yX2_readPerson ∈ TB := tb_mem 674 (by decide +kernel) rfl
theorem q676 : Cond.instanceMethod yX2_readPerson ∈ TB := tb_mem 676 (by decide +kernel) rfl
theorem q677 : Cond.code yX2_readPerson cX2_readPerson 4 (some .boolean) ∈ TB := tb_mem 677 (by decide +kernel) rfl
theorem q678 : Cond.methodLink "PumpTalk$Reader" 66 yX4_isCrowded ∈ TB := tb_mem 678 (by decide +kernel) rfl
theorem q679 : Cond.methodLink "PumpTalk$Reader" 72 yX4_addPerson ∈ TB := tb_mem 679 (by decide +kernel) rfl
theorem q681 : Cond.methodLink "PumpTalk$Reader" 78 yX2_isNumberUpTo ∈ TB := tb_mem 681 (by decide +kernel) rfl
theorem q683 : Cond.instanceMethod yX2_isNumberUpTo ∈ TB := tb_mem 683 (by decide +kernel) rfl
theorem q684 : Cond.code yX2_isNumberUpTo cX2_isNumberUpTo 2 (some .boolean) ∈ TB := tb_mem 684 (by decide +kernel) rfl
theorem q685 : Cond.methodLink "PumpTalk$Reader" 81 yX4_setTrait ∈ TB := tb_mem 685 (by decide +kernel) rfl
theorem q687 : Cond.methodLink "PumpTalk$Reader" 87 yX2_readViews ∈ TB := tb_mem 687 (by decide +kernel) rfl
theorem q689 : Cond.instanceMethod yX2_readViews ∈ TB := tb_mem 689 (by decide +kernel) rfl
theorem q690 : Cond.code yX2_readViews cX2_readViews 5 (some .boolean) ∈ TB := tb_mem 690 (by decide +kernel) rfl
theorem q691 : Cond.methodLink "PumpTalk$Reader" 38 yX2_isSign ∈ TB := tb_mem 691 (by decide +kernel) rfl
theorem q693 : Cond.instanceMethod yX2_isSign ∈ TB := tb_mem 693 (by decide +kernel) rfl
theorem q694 : Cond.code yX2_isSign cX2_isSign 2 (some .boolean) ∈ TB := tb_mem 694 (by decide +kernel) rfl
theorem q695 : Cond.methodLink "PumpTalk$Reader" 90 yX4_setView ∈ TB := tb_mem 695 (by decide +kernel) rfl
theorem q697 : Cond.methodLink "PumpTalk$Reader" 58 yX2_readPair ∈ TB := tb_mem 697 (by decide +kernel) rfl
theorem q699 : Cond.instanceMethod yX2_readPair ∈ TB := tb_mem 699 (by decide +kernel) rfl
theorem q700 : Cond.code yX2_readPair cX2_readPair 3 (some .boolean) ∈ TB := tb_mem 700 (by decide +kernel) rfl
theorem q701 : Cond.methodLink "PumpTalk$Reader" 96 yX4_seat ∈ TB := tb_mem 701 (by decide +kernel) rfl
theorem q703 : Cond.methodLink "PumpTalk$Reader" 63 yX2_readSubject ∈ TB := tb_mem 703 (by decide +kernel) rfl
theorem q705 : Cond.instanceMethod yX2_readSubject ∈ TB := tb_mem 705 (by decide +kernel) rfl
theorem q706 : Cond.code yX2_readSubject cX2_readSubject 2 (some .boolean) ∈ TB := tb_mem 706 (by decide +kernel) rfl
theorem q707 : Cond.arrayClass .byte ∈ TB := tb_mem 707 (by decide +kernel) rfl
theorem q708 : Cond.methodLink "PumpTalkLaw" 151 yX5_hold ∈ TB := tb_mem 708 (by decide +kernel) rfl
theorem q709 : Cond.instanceMethod yX5_hold ∈ TB := tb_mem 709 (by decide +kernel) rfl
theorem q710 : Cond.selects "PumpTalk" yX5_hold yX5_hold ∈ TB := tb_mem 710 (by decide +kernel) rfl
theorem q711 : Cond.code yX5_hold cX5_hold 3 (some .int) ∈ TB := tb_mem 711 (by decide +kernel) rfl
theorem q712 : Cond.methodLink "PumpTalkLaw" 155 yX5_as ∈ TB := tb_mem 712 (by decide +kernel) rfl
theorem q713 : Cond.instanceMethod yX5_as ∈ TB := tb_mem 713 (by decide +kernel) rfl
theorem q714 : Cond.selects "PumpTalk" yX5_as yX5_as ∈ TB := tb_mem 714 (by decide +kernel) rfl
theorem q715 : Cond.code yX5_as cX5_as 4 (some .int) ∈ TB := tb_mem 715 (by decide +kernel) rfl
theorem q716 : Cond.methodLink "PumpTalk" 227 yX0_isUnder ∈ TB := tb_mem 716 (by decide +kernel) rfl
theorem q717 : Cond.static yX0_isUnder ∈ TB := tb_mem 717 (by decide +kernel) rfl
theorem q718 : Cond.code yX0_isUnder cX0_isUnder 4 (some .boolean) ∈ TB := tb_mem 718 (by decide +kernel) rfl
theorem q719 : Cond.fieldLink "PumpTalk$Kinds" 9 "PumpTalk$Kinds" "ABOVE" "[I" ∈ TB := tb_mem 719 (by decide +kernel) rfl
theorem q721 : Cond.constant "PumpTalk" 232 (-1000003) ∈ TB := tb_mem 721 (by decide +kernel) rfl
theorem q722 : Cond.methodLink "PumpTalkLaw" 159 yX5_sheet ∈ TB := tb_mem 722 (by decide +kernel) rfl
theorem q723 : Cond.instanceMethod yX5_sheet ∈ TB := tb_mem 723 (by decide +kernel) rfl
theorem q724 : Cond.selects "PumpTalk" yX5_sheet yX5_sheet ∈ TB := tb_mem 724 (by decide +kernel) rfl
theorem q725 : Cond.code yX5_sheet cX5_sheet 4 (some .int) ∈ TB := tb_mem 725 (by decide +kernel) rfl
theorem q726 : Cond.constant "PumpTalk" 236 (-1000007) ∈ TB := tb_mem 726 (by decide +kernel) rfl
theorem q727 : Cond.methodLink "PumpTalk" 237 yX3_renew ∈ TB := tb_mem 727 (by decide +kernel) rfl
theorem q728 : Cond.instanceMethod yX3_renew ∈ TB := tb_mem 728 (by decide +kernel) rfl
theorem q729 : Cond.selects "PumpTalk$Sheet" yX3_renew yX3_renew ∈ TB := tb_mem 729 (by decide +kernel) rfl
theorem q730 : Cond.code yX3_renew cX3_renew 4 (some .int) ∈ TB := tb_mem 730 (by decide +kernel) rfl
theorem q731 : Cond.methodLink "PumpTalkLaw" 163 yX5_write ∈ TB := tb_mem 731 (by decide +kernel) rfl
theorem q732 : Cond.instanceMethod yX5_write ∈ TB := tb_mem 732 (by decide +kernel) rfl
theorem q733 : Cond.selects "PumpTalk" yX5_write yX5_write ∈ TB := tb_mem 733 (by decide +kernel) rfl
theorem q734 : Cond.code yX5_write cX5_write 5 (some .int) ∈ TB := tb_mem 734 (by decide +kernel) rfl
theorem q735 : Cond.methodLink "PumpTalk" 246 yX3_put ∈ TB := tb_mem 735 (by decide +kernel) rfl
theorem q736 : Cond.instanceMethod yX3_put ∈ TB := tb_mem 736 (by decide +kernel) rfl
theorem q737 : Cond.selects "PumpTalk$Sheet" yX3_put yX3_put ∈ TB := tb_mem 737 (by decide +kernel) rfl
theorem q738 : Cond.code yX3_put cX3_put 4 (none : Option Jvm.ClassFile.FieldType) ∈ TB := tb_mem 738 (by decide +kernel) rfl
theorem q739 : Cond.methodLink "PumpTalkLaw" 167 yX5_copy ∈ TB := tb_mem 739 (by decide +kernel) rfl
theorem q740 : Cond.instanceMethod yX5_copy ∈ TB := tb_mem 740 (by decide +kernel) rfl
theorem q741 : Cond.selects "PumpTalk" yX5_copy yX5_copy ∈ TB := tb_mem 741 (by decide +kernel) rfl
theorem q742 : Cond.code yX5_copy cX5_copy 6 (some .int) ∈ TB := tb_mem 742 (by decide +kernel) rfl
theorem q743 : Cond.methodLink "PumpTalk" 255 yX3_hasRange ∈ TB := tb_mem 743 (by decide +kernel) rfl
theorem q744 : Cond.instanceMethod yX3_hasRange ∈ TB := tb_mem 744 (by decide +kernel) rfl
theorem q745 : Cond.selects "PumpTalk$Sheet" yX3_hasRange yX3_hasRange ∈ TB := tb_mem 745 (by decide +kernel) rfl
theorem q746 : Cond.code yX3_hasRange cX3_hasRange 3 (some .boolean) ∈ TB := tb_mem 746 (by decide +kernel) rfl
theorem q747 : Cond.methodLink "PumpTalk" 261 ⟨"java/lang/System", "arraycopy", "(Ljava/lang/Object;ILjava/lang/Object;II)V"⟩ ∈ TB := tb_mem 747 (by decide +kernel) rfl
theorem q748 : Cond.methodLink "PumpTalkLaw" 172 yX5_load ∈ TB := tb_mem 748 (by decide +kernel) rfl
theorem q749 : Cond.instanceMethod yX5_load ∈ TB := tb_mem 749 (by decide +kernel) rfl
theorem q750 : Cond.selects "PumpTalk" yX5_load yX5_load ∈ TB := tb_mem 750 (by decide +kernel) rfl
theorem q751 : Cond.code yX5_load cX5_load 5 (some .int) ∈ TB := tb_mem 751 (by decide +kernel) rfl
theorem q752 : Cond.methodLink "PumpTalk" 267 yX4_setView ∈ TB := tb_mem 752 (by decide +kernel) rfl
theorem q753 : Cond.methodLink "PumpTalkLaw" 176 yX5_judge ∈ TB := tb_mem 753 (by decide +kernel) rfl
theorem q754 : Cond.instanceMethod yX5_judge ∈ TB := tb_mem 754 (by decide +kernel) rfl
theorem q755 : Cond.selects "PumpTalk" yX5_judge yX5_judge ∈ TB := tb_mem 755 (by decide +kernel) rfl
theorem q756 : Cond.code yX5_judge cX5_judge 5 (some .int) ∈ TB := tb_mem 756 (by decide +kernel) rfl
theorem q757 : Cond.methodLink "PumpTalkLaw" 180 yX5_image ∈ TB := tb_mem 757 (by decide +kernel) rfl
theorem q758 : Cond.instanceMethod yX5_image ∈ TB := tb_mem 758 (by decide +kernel) rfl
theorem q759 : Cond.selects "PumpTalk" yX5_image yX5_image ∈ TB := tb_mem 759 (by decide +kernel) rfl
theorem q760 : Cond.code yX5_image cX5_image 1 (some .int) ∈ TB := tb_mem 760 (by decide +kernel) rfl
theorem q761 : Cond.methodLink "PumpTalkLaw" 184 yX5_undo ∈ TB := tb_mem 761 (by decide +kernel) rfl
theorem q762 : Cond.instanceMethod yX5_undo ∈ TB := tb_mem 762 (by decide +kernel) rfl
theorem q763 : Cond.selects "PumpTalk" yX5_undo yX5_undo ∈ TB := tb_mem 763 (by decide +kernel) rfl
theorem q764 : Cond.code yX5_undo cX5_undo 1 (some .int) ∈ TB := tb_mem 764 (by decide +kernel) rfl
theorem q765 : Cond.methodLink "PumpTalkLaw" 188 yX5_tear ∈ TB := tb_mem 765 (by decide +kernel) rfl
theorem q766 : Cond.instanceMethod yX5_tear ∈ TB := tb_mem 766 (by decide +kernel) rfl
theorem q767 : Cond.selects "PumpTalk" yX5_tear yX5_tear ∈ TB := tb_mem 767 (by decide +kernel) rfl
theorem q768 : Cond.code yX5_tear cX5_tear 2 (some .int) ∈ TB := tb_mem 768 (by decide +kernel) rfl
theorem q769 : Cond.methodLink "PumpTalkLaw" 192 yX5_count ∈ TB := tb_mem 769 (by decide +kernel) rfl
theorem q770 : Cond.instanceMethod yX5_count ∈ TB := tb_mem 770 (by decide +kernel) rfl
theorem q771 : Cond.selects "PumpTalk" yX5_count yX5_count ∈ TB := tb_mem 771 (by decide +kernel) rfl
theorem q772 : Cond.code yX5_count cX5_count 2 (some .int) ∈ TB := tb_mem 772 (by decide +kernel) rfl
theorem q773 : Cond.methodLink "PumpTalk" 270 yX4_fullSpots ∈ TB := tb_mem 773 (by decide +kernel) rfl
theorem q774 : Cond.instanceMethod yX4_fullSpots ∈ TB := tb_mem 774 (by decide +kernel) rfl
theorem q775 : Cond.selects "PumpTalk$Square" yX4_fullSpots yX4_fullSpots ∈ TB := tb_mem 775 (by decide +kernel) rfl
theorem q776 : Cond.code yX4_fullSpots cX4_fullSpots 3 (some .int) ∈ TB := tb_mem 776 (by decide +kernel) rfl
theorem q777 : Cond.methodLink "PumpTalkLaw" 196 yX5_status ∈ TB := tb_mem 777 (by decide +kernel) rfl
theorem q778 : Cond.instanceMethod yX5_status ∈ TB := tb_mem 778 (by decide +kernel) rfl
theorem q779 : Cond.selects "PumpTalk" yX5_status yX5_status ∈ TB := tb_mem 779 (by decide +kernel) rfl
theorem q780 : Cond.code yX5_status cX5_status 4 (some .int) ∈ TB := tb_mem 780 (by decide +kernel) rfl
theorem q781 : Cond.classLink "PumpTalkLaw" 10 "PumpTalkModel" ∈ TB := tb_mem 781 (by decide +kernel) rfl
theorem q782 : Cond.instantiable "PumpTalkModel" 22 ∈ TB := tb_mem 782 (by decide +kernel) rfl
theorem q783 : Cond.methodLink "PumpTalkLaw" 12 yX6_init ∈ TB := tb_mem 783 (by decide +kernel) rfl
theorem q784 : Cond.instanceMethod yX6_init ∈ TB := tb_mem 784 (by decide +kernel) rfl
theorem q785 : Cond.code yX6_init cX6_init 2 (none : Option Jvm.ClassFile.FieldType) ∈ TB := tb_mem 785 (by decide +kernel) rfl
theorem q786 : Cond.methodLink "PumpTalkModel" 1 ⟨"java/lang/Object", "<init>", "()V"⟩ ∈ TB := tb_mem 786 (by decide +kernel) rfl
theorem q787 : Cond.fieldLink "PumpTalkModel" 7 "PumpTalkModel" "s" "[I" ∈ TB := tb_mem 787 (by decide +kernel) rfl
theorem q788 : Cond.fieldLink "PumpTalkModel" 13 "PumpTalkModel" "keptS" "[I" ∈ TB := tb_mem 788 (by decide +kernel) rfl
theorem q789 : Cond.fieldLink "PumpTalkModel" 16 "PumpTalkModel" "other" "[I" ∈ TB := tb_mem 789 (by decide +kernel) rfl
theorem q790 : Cond.fieldLink "PumpTalkModel" 19 "PumpTalkModel" "aside" "[I" ∈ TB := tb_mem 790 (by decide +kernel) rfl
theorem q791 : Cond.fieldLink "PumpTalkModel" 22 "PumpTalkModel" "statuses" "[I" ∈ TB := tb_mem 791 (by decide +kernel) rfl
theorem q792 : Cond.fieldLink "PumpTalkModel" 336 "PumpTalkModel" "isKept" "Z" ∈ TB := tb_mem 792 (by decide +kernel) rfl
theorem q793 : Cond.fieldLink "PumpTalkModel" 126 "PumpTalkModel" "came" "I" ∈ TB := tb_mem 793 (by decide +kernel) rfl
theorem q794 : Cond.fieldLink "PumpTalkModel" 25 "PumpTalkModel" "pairGives" "[I" ∈ TB := tb_mem 794 (by decide +kernel) rfl
theorem q795 : Cond.fieldLink "PumpTalkModel" 28 "PumpTalkModel" "mosts" "[I" ∈ TB := tb_mem 795 (by decide +kernel) rfl
theorem q796 : Cond.fieldLink "PumpTalkModel" 31 "PumpTalkModel" "with" "[I" ∈ TB := tb_mem 796 (by decide +kernel) rfl
theorem q797 : Cond.fieldLink "PumpTalkModel" 193 "PumpTalkModel" "fitMany" "I" ∈ TB := tb_mem 797 (by decide +kernel) rfl
theorem q798 : Cond.fieldLink "PumpTalkModel" 196 "PumpTalkModel" "fitLeast" "I" ∈ TB := tb_mem 798 (by decide +kernel) rfl
theorem q799 : Cond.fieldLink "PumpTalkModel" 34 "PumpTalkModel" "tape" "[I" ∈ TB := tb_mem 799 (by decide +kernel) rfl
theorem q800 : Cond.fieldLink "PumpTalkModel" 219 "PumpTalkModel" "taped" "I" ∈ TB := tb_mem 800 (by decide +kernel) rfl
theorem q801 : Cond.fieldLink "PumpTalkModel" 233 "PumpTalkModel" "from" "I" ∈ TB := tb_mem 801 (by decide +kernel) rfl
theorem q802 : Cond.fieldLink "PumpTalkModel" 230 "PumpTalkModel" "to" "I" ∈ TB := tb_mem 802 (by decide +kernel) rfl
theorem q803 : Cond.fieldLink "PumpTalkModel" 256 "PumpTalkModel" "value" "I" ∈ TB := tb_mem 803 (by decide +kernel) rfl
theorem q804 : Cond.fieldLink "PumpTalkModel" 245 "PumpTalkModel" "isWrong" "Z" ∈ TB := tb_mem 804 (by decide +kernel) rfl
theorem q805 : Cond.fieldLink "PumpTalkModel" 37 "PumpTalkModel" "bitsOf" "[I" ∈ TB := tb_mem 805 (by decide +kernel) rfl
theorem q806 : Cond.fieldLink "PumpTalkModel" 40 "PumpTalkModel" "sizeOf" "[I" ∈ TB := tb_mem 806 (by decide +kernel) rfl
theorem q807 : Cond.fieldLink "PumpTalkModel" 43 "PumpTalkModel" "numbers" "[I" ∈ TB := tb_mem 807 (by decide +kernel) rfl
theorem q808 : Cond.fieldLink "PumpTalkModel" 46 "PumpTalkModel" "moved" "[I" ∈ TB := tb_mem 808 (by decide +kernel) rfl
theorem q809 : Cond.laysFinal "PumpTalkModel" "PumpTalkModel" "s" "[I" ∈ TB := tb_mem 809 (by decide +kernel) rfl
theorem q810 : Cond.soleField "PumpTalkModel" "s" ∈ TB := tb_mem 810 (by decide +kernel) rfl
theorem q811 : Cond.laysFinal "PumpTalkModel" "PumpTalkModel" "keptS" "[I" ∈ TB := tb_mem 811 (by decide +kernel) rfl
theorem q812 : Cond.soleField "PumpTalkModel" "keptS" ∈ TB := tb_mem 812 (by decide +kernel) rfl
theorem q813 : Cond.laysFinal "PumpTalkModel" "PumpTalkModel" "other" "[I" ∈ TB := tb_mem 813 (by decide +kernel) rfl
theorem q814 : Cond.soleField "PumpTalkModel" "other" ∈ TB := tb_mem 814 (by decide +kernel) rfl
theorem q815 : Cond.laysFinal "PumpTalkModel" "PumpTalkModel" "aside" "[I" ∈ TB := tb_mem 815 (by decide +kernel) rfl
theorem q816 : Cond.soleField "PumpTalkModel" "aside" ∈ TB := tb_mem 816 (by decide +kernel) rfl
theorem q817 : Cond.laysFinal "PumpTalkModel" "PumpTalkModel" "statuses" "[I" ∈ TB := tb_mem 817 (by decide +kernel) rfl
theorem q818 : Cond.soleField "PumpTalkModel" "statuses" ∈ TB := tb_mem 818 (by decide +kernel) rfl
theorem q819 : Cond.lays "PumpTalkModel" "PumpTalkModel" "isKept" "Z" ∈ TB := tb_mem 819 (by decide +kernel) rfl
theorem q820 : Cond.soleField "PumpTalkModel" "isKept" ∈ TB := tb_mem 820 (by decide +kernel) rfl
theorem q821 : Cond.lays "PumpTalkModel" "PumpTalkModel" "came" "I" ∈ TB := tb_mem 821 (by decide +kernel) rfl
theorem q822 : Cond.soleField "PumpTalkModel" "came" ∈ TB := tb_mem 822 (by decide +kernel) rfl
theorem q823 : Cond.laysFinal "PumpTalkModel" "PumpTalkModel" "pairGives" "[I" ∈ TB := tb_mem 823 (by decide +kernel) rfl
theorem q824 : Cond.soleField "PumpTalkModel" "pairGives" ∈ TB := tb_mem 824 (by decide +kernel) rfl
theorem q825 : Cond.laysFinal "PumpTalkModel" "PumpTalkModel" "mosts" "[I" ∈ TB := tb_mem 825 (by decide +kernel) rfl
theorem q826 : Cond.soleField "PumpTalkModel" "mosts" ∈ TB := tb_mem 826 (by decide +kernel) rfl
theorem q827 : Cond.laysFinal "PumpTalkModel" "PumpTalkModel" "with" "[I" ∈ TB := tb_mem 827 (by decide +kernel) rfl
theorem q828 : Cond.soleField "PumpTalkModel" "with" ∈ TB := tb_mem 828 (by decide +kernel) rfl
theorem q829 : Cond.lays "PumpTalkModel" "PumpTalkModel" "fitMany" "I" ∈ TB := tb_mem 829 (by decide +kernel) rfl
theorem q830 : Cond.soleField "PumpTalkModel" "fitMany" ∈ TB := tb_mem 830 (by decide +kernel) rfl
theorem q831 : Cond.lays "PumpTalkModel" "PumpTalkModel" "fitLeast" "I" ∈ TB := tb_mem 831 (by decide +kernel) rfl
theorem q832 : Cond.soleField "PumpTalkModel" "fitLeast" ∈ TB := tb_mem 832 (by decide +kernel) rfl
theorem q833 : Cond.laysFinal "PumpTalkModel" "PumpTalkModel" "tape" "[I" ∈ TB := tb_mem 833 (by decide +kernel) rfl
theorem q834 : Cond.soleField "PumpTalkModel" "tape" ∈ TB := tb_mem 834 (by decide +kernel) rfl
theorem q835 : Cond.lays "PumpTalkModel" "PumpTalkModel" "taped" "I" ∈ TB := tb_mem 835 (by decide +kernel) rfl
theorem q836 : Cond.soleField "PumpTalkModel" "taped" ∈ TB := tb_mem 836 (by decide +kernel) rfl
theorem q837 : Cond.lays "PumpTalkModel" "PumpTalkModel" "from" "I" ∈ TB := tb_mem 837 (by decide +kernel) rfl
theorem q838 : Cond.soleField "PumpTalkModel" "from" ∈ TB := tb_mem 838 (by decide +kernel) rfl
theorem q839 : Cond.lays "PumpTalkModel" "PumpTalkModel" "to" "I" ∈ TB := tb_mem 839 (by decide +kernel) rfl
theorem q840 : Cond.soleField "PumpTalkModel" "to" ∈ TB := tb_mem 840 (by decide +kernel) rfl
theorem q841 : Cond.lays "PumpTalkModel" "PumpTalkModel" "value" "I" ∈ TB := tb_mem 841 (by decide +kernel) rfl
theorem q842 : Cond.soleField "PumpTalkModel" "value" ∈ TB := tb_mem 842 (by decide +kernel) rfl
theorem q843 : Cond.lays "PumpTalkModel" "PumpTalkModel" "isWrong" "Z" ∈ TB := tb_mem 843 (by decide +kernel) rfl
theorem q844 : Cond.soleField "PumpTalkModel" "isWrong" ∈ TB := tb_mem 844 (by decide +kernel) rfl
theorem q845 : Cond.laysFinal "PumpTalkModel" "PumpTalkModel" "bitsOf" "[I" ∈ TB := tb_mem 845 (by decide +kernel) rfl
theorem q846 : Cond.soleField "PumpTalkModel" "bitsOf" ∈ TB := tb_mem 846 (by decide +kernel) rfl
theorem q847 : Cond.laysFinal "PumpTalkModel" "PumpTalkModel" "sizeOf" "[I" ∈ TB := tb_mem 847 (by decide +kernel) rfl
theorem q848 : Cond.soleField "PumpTalkModel" "sizeOf" ∈ TB := tb_mem 848 (by decide +kernel) rfl
theorem q849 : Cond.laysFinal "PumpTalkModel" "PumpTalkModel" "numbers" "[I" ∈ TB := tb_mem 849 (by decide +kernel) rfl
theorem q850 : Cond.soleField "PumpTalkModel" "numbers" ∈ TB := tb_mem 850 (by decide +kernel) rfl
theorem q851 : Cond.laysFinal "PumpTalkModel" "PumpTalkModel" "moved" "[I" ∈ TB := tb_mem 851 (by decide +kernel) rfl
theorem q852 : Cond.soleField "PumpTalkModel" "moved" ∈ TB := tb_mem 852 (by decide +kernel) rfl
theorem q854 : Cond.methodLink "PumpTalkLaw" 17 yX6_person ∈ TB := tb_mem 854 (by decide +kernel) rfl
theorem q855 : Cond.instanceMethod yX6_person ∈ TB := tb_mem 855 (by decide +kernel) rfl
theorem q856 : Cond.selects "PumpTalkModel" yX6_person yX6_person ∈ TB := tb_mem 856 (by decide +kernel) rfl
theorem q857 : Cond.code yX6_person cX6_person 2 (some .int) ∈ TB := tb_mem 857 (by decide +kernel) rfl
theorem q858 : Cond.methodLink "PumpTalkModel" 70 yX6_isKind ∈ TB := tb_mem 858 (by decide +kernel) rfl
theorem q859 : Cond.static yX6_isKind ∈ TB := tb_mem 859 (by decide +kernel) rfl
theorem q860 : Cond.code yX6_isKind cX6_isKind 1 (some .boolean) ∈ TB := tb_mem 860 (by decide +kernel) rfl
theorem q861 : Cond.constantLong "PumpTalkModel" 60 6 ∈ TB := tb_mem 861 (by decide +kernel) rfl
theorem q862 : Cond.methodLink "PumpTalkModel" 52 yX6_in ∈ TB := tb_mem 862 (by decide +kernel) rfl
theorem q863 : Cond.static yX6_in ∈ TB := tb_mem 863 (by decide +kernel) rfl
theorem q864 : Cond.code yX6_in cX6_in 6 (some .boolean) ∈ TB := tb_mem 864 (by decide +kernel) rfl
theorem q865 : Cond.constant "PumpTalkModel" 49 (-1000001) ∈ TB := tb_mem 865 (by decide +kernel) rfl
theorem q866 : Cond.methodLink "PumpTalkModel" 73 yX6_finds ∈ TB := tb_mem 866 (by decide +kernel) rfl
theorem q868 : Cond.instanceMethod yX6_finds ∈ TB := tb_mem 868 (by decide +kernel) rfl
theorem q869 : Cond.code yX6_finds cX6_finds 2 (some .int) ∈ TB := tb_mem 869 (by decide +kernel) rfl
theorem q870 : Cond.constant "PumpTalkModel" 77 (-1000002) ∈ TB := tb_mem 870 (by decide +kernel) rfl
theorem q871 : Cond.methodLink "PumpTalkModel" 78 yX6_adds ∈ TB := tb_mem 871 (by decide +kernel) rfl
theorem q873 : Cond.instanceMethod yX6_adds ∈ TB := tb_mem 873 (by decide +kernel) rfl
theorem q874 : Cond.code yX6_adds cX6_adds 4 (some .int) ∈ TB := tb_mem 874 (by decide +kernel) rfl
theorem q875 : Cond.methodLink "PumpTalkModel" 66 yX6_place ∈ TB := tb_mem 875 (by decide +kernel) rfl
theorem q876 : Cond.static yX6_place ∈ TB := tb_mem 876 (by decide +kernel) rfl
theorem q877 : Cond.code yX6_place cX6_place 2 (some .int) ∈ TB := tb_mem 877 (by decide +kernel) rfl
theorem q878 : Cond.methodLink "PumpTalkLaw" 22 yX6_of ∈ TB := tb_mem 878 (by decide +kernel) rfl
theorem q879 : Cond.instanceMethod yX6_of ∈ TB := tb_mem 879 (by decide +kernel) rfl
theorem q880 : Cond.selects "PumpTalkModel" yX6_of yX6_of ∈ TB := tb_mem 880 (by decide +kernel) rfl
theorem q881 : Cond.code yX6_of cX6_of 3 (some .int) ∈ TB := tb_mem 881 (by decide +kernel) rfl
theorem q882 : Cond.methodLink "PumpTalkModel" 56 yX6_isPerson ∈ TB := tb_mem 882 (by decide +kernel) rfl
theorem q884 : Cond.instanceMethod yX6_isPerson ∈ TB := tb_mem 884 (by decide +kernel) rfl
theorem q885 : Cond.code yX6_isPerson cX6_isPerson 2 (some .boolean) ∈ TB := tb_mem 885 (by decide +kernel) rfl
theorem q886 : Cond.constantLong "PumpTalkModel" 81 8 ∈ TB := tb_mem 886 (by decide +kernel) rfl
theorem q887 : Cond.methodLink "PumpTalkModel" 83 yX6_its ∈ TB := tb_mem 887 (by decide +kernel) rfl
theorem q889 : Cond.instanceMethod yX6_its ∈ TB := tb_mem 889 (by decide +kernel) rfl
theorem q890 : Cond.code yX6_its cX6_its 3 (some .int) ∈ TB := tb_mem 890 (by decide +kernel) rfl
theorem q891 : Cond.methodLink "PumpTalkLaw" 27 yX6_change ∈ TB := tb_mem 891 (by decide +kernel) rfl
theorem q892 : Cond.instanceMethod yX6_change ∈ TB := tb_mem 892 (by decide +kernel) rfl
theorem q893 : Cond.selects "PumpTalkModel" yX6_change yX6_change ∈ TB := tb_mem 893 (by decide +kernel) rfl
theorem q894 : Cond.code yX6_change cX6_change 5 (some .int) ∈ TB := tb_mem 894 (by decide +kernel) rfl
theorem q895 : Cond.constantLong "PumpTalkModel" 64 9 ∈ TB := tb_mem 895 (by decide +kernel) rfl
theorem q896 : Cond.constantLong "PumpTalkModel" 86 2 ∈ TB := tb_mem 896 (by decide +kernel) rfl
theorem q897 : Cond.constantLong "PumpTalkModel" 88 7 ∈ TB := tb_mem 897 (by decide +kernel) rfl
theorem q898 : Cond.methodLink "PumpTalkModel" 90 yX6_isView ∈ TB := tb_mem 898 (by decide +kernel) rfl
theorem q899 : Cond.static yX6_isView ∈ TB := tb_mem 899 (by decide +kernel) rfl
theorem q900 : Cond.code yX6_isView cX6_isView 1 (some .boolean) ∈ TB := tb_mem 900 (by decide +kernel) rfl
theorem q901 : Cond.constantLong "PumpTalkModel" 62 (-9) ∈ TB := tb_mem 901 (by decide +kernel) rfl
theorem q902 : Cond.methodLink "PumpTalkModel" 93 yX6_becomes ∈ TB := tb_mem 902 (by decide +kernel) rfl
theorem q904 : Cond.instanceMethod yX6_becomes ∈ TB := tb_mem 904 (by decide +kernel) rfl
theorem q905 : Cond.code yX6_becomes cX6_becomes 4 (some .int) ∈ TB := tb_mem 905 (by decide +kernel) rfl
theorem q906 : Cond.methodLink "PumpTalkLaw" 31 yX6_reply ∈ TB := tb_mem 906 (by decide +kernel) rfl
theorem q907 : Cond.instanceMethod yX6_reply ∈ TB := tb_mem 907 (by decide +kernel) rfl
theorem q908 : Cond.selects "PumpTalkModel" yX6_reply yX6_reply ∈ TB := tb_mem 908 (by decide +kernel) rfl
theorem q909 : Cond.code yX6_reply cX6_reply 4 (some .int) ∈ TB := tb_mem 909 (by decide +kernel) rfl
theorem q910 : Cond.constantLong "PumpTalkModel" 96 18 ∈ TB := tb_mem 910 (by decide +kernel) rfl
theorem q911 : Cond.methodLink "PumpTalkModel" 98 yX6_moves ∈ TB := tb_mem 911 (by decide +kernel) rfl
theorem q913 : Cond.instanceMethod yX6_moves ∈ TB := tb_mem 913 (by decide +kernel) rfl
theorem q914 : Cond.code yX6_moves cX6_moves 4 (some .int) ∈ TB := tb_mem 914 (by decide +kernel) rfl
theorem q915 : Cond.methodLink "PumpTalkModel" 101 yX6_strokes ∈ TB := tb_mem 915 (by decide +kernel) rfl
theorem q917 : Cond.instanceMethod yX6_strokes ∈ TB := tb_mem 917 (by decide +kernel) rfl
theorem q918 : Cond.code yX6_strokes cX6_strokes 5 (some .int) ∈ TB := tb_mem 918 (by decide +kernel) rfl
theorem q919 : Cond.methodLink "PumpTalkLaw" 35 yX6_apart ∈ TB := tb_mem 919 (by decide +kernel) rfl
theorem q920 : Cond.instanceMethod yX6_apart ∈ TB := tb_mem 920 (by decide +kernel) rfl
theorem q921 : Cond.selects "PumpTalkModel" yX6_apart yX6_apart ∈ TB := tb_mem 921 (by decide +kernel) rfl
theorem q922 : Cond.code yX6_apart cX6_apart 4 (some .int) ∈ TB := tb_mem 922 (by decide +kernel) rfl
theorem q923 : Cond.methodLink "PumpTalkModel" 104 yX6_isSubject ∈ TB := tb_mem 923 (by decide +kernel) rfl
theorem q924 : Cond.static yX6_isSubject ∈ TB := tb_mem 924 (by decide +kernel) rfl
theorem q925 : Cond.code yX6_isSubject cX6_isSubject 1 (some .boolean) ∈ TB := tb_mem 925 (by decide +kernel) rfl
theorem q926 : Cond.constantLong "PumpTalkModel" 50 5 ∈ TB := tb_mem 926 (by decide +kernel) rfl
theorem q927 : Cond.methodLink "PumpTalkModel" 107 yX6_apartOn ∈ TB := tb_mem 927 (by decide +kernel) rfl
theorem q929 : Cond.instanceMethod yX6_apartOn ∈ TB := tb_mem 929 (by decide +kernel) rfl
theorem q930 : Cond.code yX6_apartOn cX6_apartOn 5 (some .int) ∈ TB := tb_mem 930 (by decide +kernel) rfl
theorem q931 : Cond.methodLink "PumpTalkLaw" 39 yX6_pair ∈ TB := tb_mem 931 (by decide +kernel) rfl
theorem q932 : Cond.instanceMethod yX6_pair ∈ TB := tb_mem 932 (by decide +kernel) rfl
theorem q933 : Cond.selects "PumpTalkModel" yX6_pair yX6_pair ∈ TB := tb_mem 933 (by decide +kernel) rfl
theorem q934 : Cond.code yX6_pair cX6_pair 3 (some .int) ∈ TB := tb_mem 934 (by decide +kernel) rfl
theorem q935 : Cond.methodLink "PumpTalkModel" 115 yX6_areTwo ∈ TB := tb_mem 935 (by decide +kernel) rfl
theorem q937 : Cond.instanceMethod yX6_areTwo ∈ TB := tb_mem 937 (by decide +kernel) rfl
theorem q938 : Cond.code yX6_areTwo cX6_areTwo 3 (some .boolean) ∈ TB := tb_mem 938 (by decide +kernel) rfl
theorem q939 : Cond.methodLink "PumpTalkModel" 119 yX6_disputed ∈ TB := tb_mem 939 (by decide +kernel) rfl
theorem q941 : Cond.instanceMethod yX6_disputed ∈ TB := tb_mem 941 (by decide +kernel) rfl
theorem q942 : Cond.code yX6_disputed cX6_disputed 3 (some .int) ∈ TB := tb_mem 942 (by decide +kernel) rfl
theorem q943 : Cond.methodLink "PumpTalkModel" 111 yX6_isSomebody ∈ TB := tb_mem 943 (by decide +kernel) rfl
theorem q945 : Cond.instanceMethod yX6_isSomebody ∈ TB := tb_mem 945 (by decide +kernel) rfl
theorem q946 : Cond.code yX6_isSomebody cX6_isSomebody 1 (some .boolean) ∈ TB := tb_mem 946 (by decide +kernel) rfl
theorem q947 : Cond.methodLink "PumpTalkModel" 123 yX6_ones ∈ TB := tb_mem 947 (by decide +kernel) rfl
theorem q948 : Cond.static yX6_ones ∈ TB := tb_mem 948 (by decide +kernel) rfl
theorem q949 : Cond.code yX6_ones cX6_ones 3 (some .int) ∈ TB := tb_mem 949 (by decide +kernel) rfl
theorem q950 : Cond.methodLink "PumpTalkLaw" 44 yX6_rest ∈ TB := tb_mem 950 (by decide +kernel) rfl
theorem q951 : Cond.instanceMethod yX6_rest ∈ TB := tb_mem 951 (by decide +kernel) rfl
theorem q952 : Cond.selects "PumpTalkModel" yX6_rest yX6_rest ∈ TB := tb_mem 952 (by decide +kernel) rfl
theorem q953 : Cond.code yX6_rest cX6_rest 2 (some .int) ∈ TB := tb_mem 953 (by decide +kernel) rfl
theorem q954 : Cond.methodLink "PumpTalkLaw" 48 yX6_subject ∈ TB := tb_mem 954 (by decide +kernel) rfl
theorem q955 : Cond.instanceMethod yX6_subject ∈ TB := tb_mem 955 (by decide +kernel) rfl
theorem q956 : Cond.selects "PumpTalkModel" yX6_subject yX6_subject ∈ TB := tb_mem 956 (by decide +kernel) rfl
theorem q957 : Cond.code yX6_subject cX6_subject 2 (some .int) ∈ TB := tb_mem 957 (by decide +kernel) rfl
theorem q958 : Cond.methodLink "PumpTalkLaw" 52 yX6_go ∈ TB := tb_mem 958 (by decide +kernel) rfl
theorem q959 : Cond.instanceMethod yX6_go ∈ TB := tb_mem 959 (by decide +kernel) rfl
theorem q960 : Cond.selects "PumpTalkModel" yX6_go yX6_go ∈ TB := tb_mem 960 (by decide +kernel) rfl
theorem q961 : Cond.code yX6_go cX6_go 2 (some .int) ∈ TB := tb_mem 961 (by decide +kernel) rfl
theorem q962 : Cond.constantLong "PumpTalkModel" 141 100 ∈ TB := tb_mem 962 (by decide +kernel) rfl
theorem q963 : Cond.constant "PumpTalkModel" 143 99999 ∈ TB := tb_mem 963 (by decide +kernel) rfl
theorem q964 : Cond.constant "PumpTalkModel" 144 (-1000005) ∈ TB := tb_mem 964 (by decide +kernel) rfl
theorem q965 : Cond.methodLink "PumpTalkModel" 145 yX6_goesOn ∈ TB := tb_mem 965 (by decide +kernel) rfl
theorem q967 : Cond.instanceMethod yX6_goesOn ∈ TB := tb_mem 967 (by decide +kernel) rfl
theorem q968 : Cond.code yX6_goesOn cX6_goesOn 3 (none : Option Jvm.ClassFile.FieldType) ∈ TB := tb_mem 968 (by decide +kernel) rfl
theorem q969 : Cond.methodLink "PumpTalkModel" 138 yX6_minute ∈ TB := tb_mem 969 (by decide +kernel) rfl
theorem q971 : Cond.instanceMethod yX6_minute ∈ TB := tb_mem 971 (by decide +kernel) rfl
theorem q972 : Cond.code yX6_minute cX6_minute 2 (none : Option Jvm.ClassFile.FieldType) ∈ TB := tb_mem 972 (by decide +kernel) rfl
theorem q973 : Cond.methodLink "PumpTalkModel" 134 yX6_replies ∈ TB := tb_mem 973 (by decide +kernel) rfl
theorem q975 : Cond.instanceMethod yX6_replies ∈ TB := tb_mem 975 (by decide +kernel) rfl
theorem q976 : Cond.code yX6_replies cX6_replies 7 (none : Option Jvm.ClassFile.FieldType) ∈ TB := tb_mem 976 (by decide +kernel) rfl
theorem q977 : Cond.constant "PumpTalkModel" 130 999999 ∈ TB := tb_mem 977 (by decide +kernel) rfl
theorem q978 : Cond.methodLink "PumpTalkModel" 131 yX6_heldView ∈ TB := tb_mem 978 (by decide +kernel) rfl
theorem q979 : Cond.static yX6_heldView ∈ TB := tb_mem 979 (by decide +kernel) rfl
theorem q980 : Cond.code yX6_heldView cX6_heldView 1 (some .int) ∈ TB := tb_mem 980 (by decide +kernel) rfl
theorem q981 : Cond.methodLink "PumpTalkLaw" 56 yX6_now ∈ TB := tb_mem 981 (by decide +kernel) rfl
theorem q982 : Cond.instanceMethod yX6_now ∈ TB := tb_mem 982 (by decide +kernel) rfl
theorem q983 : Cond.selects "PumpTalkModel" yX6_now yX6_now ∈ TB := tb_mem 983 (by decide +kernel) rfl
theorem q984 : Cond.code yX6_now cX6_now 2 (some .int) ∈ TB := tb_mem 984 (by decide +kernel) rfl
theorem q985 : Cond.methodLink "PumpTalkModel" 148 yX6_voices ∈ TB := tb_mem 985 (by decide +kernel) rfl
theorem q987 : Cond.instanceMethod yX6_voices ∈ TB := tb_mem 987 (by decide +kernel) rfl
theorem q988 : Cond.code yX6_voices cX6_voices 3 (some .int) ∈ TB := tb_mem 988 (by decide +kernel) rfl
theorem q989 : Cond.methodLink "PumpTalkLaw" 60 yX6_ahead ∈ TB := tb_mem 989 (by decide +kernel) rfl
theorem q990 : Cond.instanceMethod yX6_ahead ∈ TB := tb_mem 990 (by decide +kernel) rfl
theorem q991 : Cond.selects "PumpTalkModel" yX6_ahead yX6_ahead ∈ TB := tb_mem 991 (by decide +kernel) rfl
theorem q992 : Cond.code yX6_ahead cX6_ahead 2 (some .int) ∈ TB := tb_mem 992 (by decide +kernel) rfl
theorem q993 : Cond.constantLong "PumpTalkModel" 157 200 ∈ TB := tb_mem 993 (by decide +kernel) rfl
theorem q994 : Cond.methodLink "PumpTalkModel" 159 yX6_behind ∈ TB := tb_mem 994 (by decide +kernel) rfl
theorem q996 : Cond.instanceMethod yX6_behind ∈ TB := tb_mem 996 (by decide +kernel) rfl
theorem q997 : Cond.code yX6_behind cX6_behind 3 (some .int) ∈ TB := tb_mem 997 (by decide +kernel) rfl
theorem q998 : Cond.methodLink "PumpTalkModel" 151 yX6_laysAside ∈ TB := tb_mem 998 (by decide +kernel) rfl
theorem q1000 : Cond.instanceMethod yX6_laysAside ∈ TB := tb_mem 1000 (by decide +kernel) rfl
theorem q1001 : Cond.code yX6_laysAside cX6_laysAside 2 (none : Option Jvm.ClassFile.FieldType) ∈ TB := tb_mem 1001 (by decide +kernel) rfl
theorem q1002 : Cond.methodLink "PumpTalkModel" 154 yX6_takesBack ∈ TB := tb_mem 1002 (by decide +kernel) rfl
theorem q1004 : Cond.instanceMethod yX6_takesBack ∈ TB := tb_mem 1004 (by decide +kernel) rfl
theorem q1005 : Cond.code yX6_takesBack cX6_takesBack 3 (some .int) ∈ TB := tb_mem 1005 (by decide +kernel) rfl
theorem q1006 : Cond.methodLink "PumpTalkLaw" 64 yX6_view ∈ TB := tb_mem 1006 (by decide +kernel) rfl
theorem q1007 : Cond.instanceMethod yX6_view ∈ TB := tb_mem 1007 (by decide +kernel) rfl
theorem q1008 : Cond.selects "PumpTalkModel" yX6_view yX6_view ∈ TB := tb_mem 1008 (by decide +kernel) rfl
theorem q1009 : Cond.code yX6_view cX6_view 4 (some .int) ∈ TB := tb_mem 1009 (by decide +kernel) rfl
theorem q1010 : Cond.methodLink "PumpTalkLaw" 68 yX6_dry ∈ TB := tb_mem 1010 (by decide +kernel) rfl
theorem q1011 : Cond.instanceMethod yX6_dry ∈ TB := tb_mem 1011 (by decide +kernel) rfl
theorem q1012 : Cond.selects "PumpTalkModel" yX6_dry yX6_dry ∈ TB := tb_mem 1012 (by decide +kernel) rfl
theorem q1013 : Cond.code yX6_dry cX6_dry 2 (some .int) ∈ TB := tb_mem 1013 (by decide +kernel) rfl
theorem q1014 : Cond.methodLink "PumpTalkModel" 163 yX6_orNone ∈ TB := tb_mem 1014 (by decide +kernel) rfl
theorem q1016 : Cond.instanceMethod yX6_orNone ∈ TB := tb_mem 1016 (by decide +kernel) rfl
theorem q1017 : Cond.code yX6_orNone cX6_orNone 2 (some .int) ∈ TB := tb_mem 1017 (by decide +kernel) rfl
theorem q1018 : Cond.constant "PumpTalkModel" 162 (-1000004) ∈ TB := tb_mem 1018 (by decide +kernel) rfl
theorem q1019 : Cond.methodLink "PumpTalkLaw" 72 yX6_filled ∈ TB := tb_mem 1019 (by decide +kernel) rfl
theorem q1020 : Cond.instanceMethod yX6_filled ∈ TB := tb_mem 1020 (by decide +kernel) rfl
theorem q1021 : Cond.selects "PumpTalkModel" yX6_filled yX6_filled ∈ TB := tb_mem 1021 (by decide +kernel) rfl
theorem q1022 : Cond.code yX6_filled cX6_filled 3 (some .int) ∈ TB := tb_mem 1022 (by decide +kernel) rfl
theorem q1023 : Cond.constantLong "PumpTalkModel" 166 999999 ∈ TB := tb_mem 1023 (by decide +kernel) rfl
theorem q1024 : Cond.methodLink "PumpTalkLaw" 76 yX6_round ∈ TB := tb_mem 1024 (by decide +kernel) rfl
theorem q1025 : Cond.instanceMethod yX6_round ∈ TB := tb_mem 1025 (by decide +kernel) rfl
theorem q1026 : Cond.selects "PumpTalkModel" yX6_round yX6_round ∈ TB := tb_mem 1026 (by decide +kernel) rfl
theorem q1027 : Cond.code yX6_round cX6_round 2 (some .int) ∈ TB := tb_mem 1027 (by decide +kernel) rfl
theorem q1028 : Cond.methodLink "PumpTalkModel" 168 yX6_isAsAside ∈ TB := tb_mem 1028 (by decide +kernel) rfl
theorem q1030 : Cond.instanceMethod yX6_isAsAside ∈ TB := tb_mem 1030 (by decide +kernel) rfl
theorem q1031 : Cond.code yX6_isAsAside cX6_isAsAside 3 (some .boolean) ∈ TB := tb_mem 1031 (by decide +kernel) rfl
theorem q1032 : Cond.methodLink "PumpTalkLaw" 80 yX6_gives ∈ TB := tb_mem 1032 (by decide +kernel) rfl
theorem q1033 : Cond.instanceMethod yX6_gives ∈ TB := tb_mem 1033 (by decide +kernel) rfl
theorem q1034 : Cond.selects "PumpTalkModel" yX6_gives yX6_gives ∈ TB := tb_mem 1034 (by decide +kernel) rfl
theorem q1035 : Cond.code yX6_gives cX6_gives 4 (some .int) ∈ TB := tb_mem 1035 (by decide +kernel) rfl
theorem q1036 : Cond.methodLink "PumpTalkModel" 173 yX6_isSoon ∈ TB := tb_mem 1036 (by decide +kernel) rfl
theorem q1037 : Cond.static yX6_isSoon ∈ TB := tb_mem 1037 (by decide +kernel) rfl
theorem q1038 : Cond.code yX6_isSoon cX6_isSoon 1 (some .boolean) ∈ TB := tb_mem 1038 (by decide +kernel) rfl
theorem q1039 : Cond.constantLong "PumpTalkModel" 171 60 ∈ TB := tb_mem 1039 (by decide +kernel) rfl
theorem q1040 : Cond.methodLink "PumpTalkModel" 176 yX6_given ∈ TB := tb_mem 1040 (by decide +kernel) rfl
theorem q1042 : Cond.instanceMethod yX6_given ∈ TB := tb_mem 1042 (by decide +kernel) rfl
theorem q1043 : Cond.code yX6_given cX6_given 4 (some .int) ∈ TB := tb_mem 1043 (by decide +kernel) rfl
theorem q1044 : Cond.methodLink "PumpTalkLaw" 84 yX6_best ∈ TB := tb_mem 1044 (by decide +kernel) rfl
theorem q1045 : Cond.instanceMethod yX6_best ∈ TB := tb_mem 1045 (by decide +kernel) rfl
theorem q1046 : Cond.selects "PumpTalkModel" yX6_best yX6_best ∈ TB := tb_mem 1046 (by decide +kernel) rfl
theorem q1047 : Cond.code yX6_best cX6_best 7 (some .int) ∈ TB := tb_mem 1047 (by decide +kernel) rfl
theorem q1048 : Cond.methodLink "PumpTalkLaw" 88 yX6_partner ∈ TB := tb_mem 1048 (by decide +kernel) rfl
theorem q1049 : Cond.instanceMethod yX6_partner ∈ TB := tb_mem 1049 (by decide +kernel) rfl
theorem q1050 : Cond.selects "PumpTalkModel" yX6_partner yX6_partner ∈ TB := tb_mem 1050 (by decide +kernel) rfl
theorem q1051 : Cond.code yX6_partner cX6_partner 7 (some .int) ∈ TB := tb_mem 1051 (by decide +kernel) rfl
theorem q1052 : Cond.methodLink "PumpTalkLaw" 92 yX6_subjectFor ∈ TB := tb_mem 1052 (by decide +kernel) rfl
theorem q1053 : Cond.instanceMethod yX6_subjectFor ∈ TB := tb_mem 1053 (by decide +kernel) rfl
theorem q1054 : Cond.selects "PumpTalkModel" yX6_subjectFor yX6_subjectFor ∈ TB := tb_mem 1054 (by decide +kernel) rfl
theorem q1055 : Cond.code yX6_subjectFor cX6_subjectFor 4 (some .int) ∈ TB := tb_mem 1055 (by decide +kernel) rfl
theorem q1056 : Cond.methodLink "PumpTalkModel" 179 yX6_mostBy ∈ TB := tb_mem 1056 (by decide +kernel) rfl
theorem q1058 : Cond.instanceMethod yX6_mostBy ∈ TB := tb_mem 1058 (by decide +kernel) rfl
theorem q1059 : Cond.code yX6_mostBy cX6_mostBy 12 (some .int) ∈ TB := tb_mem 1059 (by decide +kernel) rfl
theorem q1060 : Cond.methodLink "PumpTalkLaw" 96 yX6_matched ∈ TB := tb_mem 1060 (by decide +kernel) rfl
theorem q1061 : Cond.instanceMethod yX6_matched ∈ TB := tb_mem 1061 (by decide +kernel) rfl
theorem q1062 : Cond.selects "PumpTalkModel" yX6_matched yX6_matched ∈ TB := tb_mem 1062 (by decide +kernel) rfl
theorem q1063 : Cond.code yX6_matched cX6_matched 2 (some .int) ∈ TB := tb_mem 1063 (by decide +kernel) rfl
theorem q1064 : Cond.constantLong "PumpTalkModel" 183 30 ∈ TB := tb_mem 1064 (by decide +kernel) rfl
theorem q1065 : Cond.methodLink "PumpTalkModel" 185 yX6_findMatches ∈ TB := tb_mem 1065 (by decide +kernel) rfl
theorem q1067 : Cond.instanceMethod yX6_findMatches ∈ TB := tb_mem 1067 (by decide +kernel) rfl
theorem q1068 : Cond.code yX6_findMatches cX6_findMatches 7 (none : Option Jvm.ClassFile.FieldType) ∈ TB := tb_mem 1068 (by decide +kernel) rfl
theorem q1069 : Cond.methodLink "PumpTalkLaw" 100 yX6_matchOf ∈ TB := tb_mem 1069 (by decide +kernel) rfl
theorem q1070 : Cond.instanceMethod yX6_matchOf ∈ TB := tb_mem 1070 (by decide +kernel) rfl
theorem q1071 : Cond.selects "PumpTalkModel" yX6_matchOf yX6_matchOf ∈ TB := tb_mem 1071 (by decide +kernel) rfl
theorem q1072 : Cond.code yX6_matchOf cX6_matchOf 8 (some .int) ∈ TB := tb_mem 1072 (by decide +kernel) rfl
theorem q1073 : Cond.methodLink "PumpTalkLaw" 104 yX6_kindFor ∈ TB := tb_mem 1073 (by decide +kernel) rfl
theorem q1074 : Cond.instanceMethod yX6_kindFor ∈ TB := tb_mem 1074 (by decide +kernel) rfl
theorem q1075 : Cond.selects "PumpTalkModel" yX6_kindFor yX6_kindFor ∈ TB := tb_mem 1075 (by decide +kernel) rfl
theorem q1076 : Cond.code yX6_kindFor cX6_kindFor 4 (some .int) ∈ TB := tb_mem 1076 (by decide +kernel) rfl
theorem q1077 : Cond.methodLink "PumpTalkLaw" 109 yX6_viewFor ∈ TB := tb_mem 1077 (by decide +kernel) rfl
theorem q1078 : Cond.instanceMethod yX6_viewFor ∈ TB := tb_mem 1078 (by decide +kernel) rfl
theorem q1079 : Cond.selects "PumpTalkModel" yX6_viewFor yX6_viewFor ∈ TB := tb_mem 1079 (by decide +kernel) rfl
theorem q1080 : Cond.code yX6_viewFor cX6_viewFor 5 (some .int) ∈ TB := tb_mem 1080 (by decide +kernel) rfl
theorem q1081 : Cond.methodLink "PumpTalkLaw" 113 yX6_voiceFor ∈ TB := tb_mem 1081 (by decide +kernel) rfl
theorem q1082 : Cond.instanceMethod yX6_voiceFor ∈ TB := tb_mem 1082 (by decide +kernel) rfl
theorem q1083 : Cond.selects "PumpTalkModel" yX6_voiceFor yX6_voiceFor ∈ TB := tb_mem 1083 (by decide +kernel) rfl
theorem q1084 : Cond.code yX6_voiceFor cX6_voiceFor 8 (some .int) ∈ TB := tb_mem 1084 (by decide +kernel) rfl
theorem q1085 : Cond.constantLong "PumpTalkModel" 188 9999 ∈ TB := tb_mem 1085 (by decide +kernel) rfl
theorem q1086 : Cond.methodLink "PumpTalkLaw" 117 yX6_fits ∈ TB := tb_mem 1086 (by decide +kernel) rfl
theorem q1087 : Cond.instanceMethod yX6_fits ∈ TB := tb_mem 1087 (by decide +kernel) rfl
theorem q1088 : Cond.selects "PumpTalkModel" yX6_fits yX6_fits ∈ TB := tb_mem 1088 (by decide +kernel) rfl
theorem q1089 : Cond.code yX6_fits cX6_fits 4 (some .int) ∈ TB := tb_mem 1089 (by decide +kernel) rfl
theorem q1090 : Cond.methodLink "PumpTalkModel" 202 yX6_wrongOne ∈ TB := tb_mem 1090 (by decide +kernel) rfl
theorem q1092 : Cond.instanceMethod yX6_wrongOne ∈ TB := tb_mem 1092 (by decide +kernel) rfl
theorem q1093 : Cond.code yX6_wrongOne cX6_wrongOne 4 (some .int) ∈ TB := tb_mem 1093 (by decide +kernel) rfl
theorem q1094 : Cond.methodLink "PumpTalkModel" 190 yX6_wrong ∈ TB := tb_mem 1094 (by decide +kernel) rfl
theorem q1096 : Cond.instanceMethod yX6_wrong ∈ TB := tb_mem 1096 (by decide +kernel) rfl
theorem q1097 : Cond.code yX6_wrong cX6_wrong 2 (some .int) ∈ TB := tb_mem 1097 (by decide +kernel) rfl
theorem q1098 : Cond.methodLink "PumpTalkModel" 329 yX6_isOne ∈ TB := tb_mem 1098 (by decide +kernel) rfl
theorem q1099 : Cond.static yX6_isOne ∈ TB := tb_mem 1099 (by decide +kernel) rfl
theorem q1100 : Cond.code yX6_isOne cX6_isOne 1 (some .boolean) ∈ TB := tb_mem 1100 (by decide +kernel) rfl
theorem q1101 : Cond.constantLong "PumpTalkModel" 327 3 ∈ TB := tb_mem 1101 (by decide +kernel) rfl
theorem q1102 : Cond.constant "PumpTalkModel" 322 (-1000006) ∈ TB := tb_mem 1102 (by decide +kernel) rfl
theorem q1103 : Cond.methodLink "PumpTalkModel" 205 yX6_findFits ∈ TB := tb_mem 1103 (by decide +kernel) rfl
theorem q1105 : Cond.instanceMethod yX6_findFits ∈ TB := tb_mem 1105 (by decide +kernel) rfl
theorem q1106 : Cond.code yX6_findFits cX6_findFits 6 (none : Option Jvm.ClassFile.FieldType) ∈ TB := tb_mem 1106 (by decide +kernel) rfl
theorem q1107 : Cond.methodLink "PumpTalkModel" 199 yX6_isTold ∈ TB := tb_mem 1107 (by decide +kernel) rfl
theorem q1109 : Cond.instanceMethod yX6_isTold ∈ TB := tb_mem 1109 (by decide +kernel) rfl
theorem q1110 : Cond.code yX6_isTold cX6_isTold 5 (some .boolean) ∈ TB := tb_mem 1110 (by decide +kernel) rfl
theorem q1111 : Cond.methodLink "PumpTalkLaw" 121 yX6_thought ∈ TB := tb_mem 1111 (by decide +kernel) rfl
theorem q1112 : Cond.instanceMethod yX6_thought ∈ TB := tb_mem 1112 (by decide +kernel) rfl
theorem q1113 : Cond.selects "PumpTalkModel" yX6_thought yX6_thought ∈ TB := tb_mem 1113 (by decide +kernel) rfl
theorem q1114 : Cond.code yX6_thought cX6_thought 4 (some .int) ∈ TB := tb_mem 1114 (by decide +kernel) rfl
theorem q1115 : Cond.methodLink "PumpTalkLaw" 125 yX6_kinds ∈ TB := tb_mem 1115 (by decide +kernel) rfl
theorem q1116 : Cond.instanceMethod yX6_kinds ∈ TB := tb_mem 1116 (by decide +kernel) rfl
theorem q1117 : Cond.selects "PumpTalkModel" yX6_kinds yX6_kinds ∈ TB := tb_mem 1117 (by decide +kernel) rfl
theorem q1118 : Cond.code yX6_kinds cX6_kinds 7 (some .int) ∈ TB := tb_mem 1118 (by decide +kernel) rfl
theorem q1119 : Cond.methodLink "PumpTalkLaw" 129 yX6_quarrels ∈ TB := tb_mem 1119 (by decide +kernel) rfl
theorem q1120 : Cond.instanceMethod yX6_quarrels ∈ TB := tb_mem 1120 (by decide +kernel) rfl
theorem q1121 : Cond.selects "PumpTalkModel" yX6_quarrels yX6_quarrels ∈ TB := tb_mem 1121 (by decide +kernel) rfl
theorem q1122 : Cond.code yX6_quarrels cX6_quarrels 5 (some .int) ∈ TB := tb_mem 1122 (by decide +kernel) rfl
theorem q1123 : Cond.constantLong "PumpTalkModel" 210 20 ∈ TB := tb_mem 1123 (by decide +kernel) rfl
theorem q1124 : Cond.methodLink "PumpTalkModel" 212 yX6_draw ∈ TB := tb_mem 1124 (by decide +kernel) rfl
theorem q1126 : Cond.instanceMethod yX6_draw ∈ TB := tb_mem 1126 (by decide +kernel) rfl
theorem q1127 : Cond.code yX6_draw cX6_draw 1 (some .int) ∈ TB := tb_mem 1127 (by decide +kernel) rfl
theorem q1128 : Cond.constant "PumpTalkModel" 209 1103515245 ∈ TB := tb_mem 1128 (by decide +kernel) rfl
theorem q1129 : Cond.methodLink "PumpTalkLaw" 134 yX6_odds ∈ TB := tb_mem 1129 (by decide +kernel) rfl
theorem q1130 : Cond.instanceMethod yX6_odds ∈ TB := tb_mem 1130 (by decide +kernel) rfl
theorem q1131 : Cond.selects "PumpTalkModel" yX6_odds yX6_odds ∈ TB := tb_mem 1131 (by decide +kernel) rfl
theorem q1132 : Cond.code yX6_odds cX6_odds 8 (some .long) ∈ TB := tb_mem 1132 (by decide +kernel) rfl
theorem q1133 : Cond.constantLong "PumpTalkModel" 215 10 ∈ TB := tb_mem 1133 (by decide +kernel) rfl
theorem q1134 : Cond.methodLink "PumpTalkLaw" 138 yX6_seed ∈ TB := tb_mem 1134 (by decide +kernel) rfl
theorem q1135 : Cond.instanceMethod yX6_seed ∈ TB := tb_mem 1135 (by decide +kernel) rfl
theorem q1136 : Cond.selects "PumpTalkModel" yX6_seed yX6_seed ∈ TB := tb_mem 1136 (by decide +kernel) rfl
theorem q1137 : Cond.code yX6_seed cX6_seed 2 (some .int) ∈ TB := tb_mem 1137 (by decide +kernel) rfl
theorem q1138 : Cond.methodLink "PumpTalkLaw" 142 yX6_feed ∈ TB := tb_mem 1138 (by decide +kernel) rfl
theorem q1139 : Cond.instanceMethod yX6_feed ∈ TB := tb_mem 1139 (by decide +kernel) rfl
theorem q1140 : Cond.selects "PumpTalkModel" yX6_feed yX6_feed ∈ TB := tb_mem 1140 (by decide +kernel) rfl
theorem q1141 : Cond.code yX6_feed cX6_feed 4 (some .int) ∈ TB := tb_mem 1141 (by decide +kernel) rfl
theorem q1142 : Cond.constantLong "PumpTalkModel" 217 4 ∈ TB := tb_mem 1142 (by decide +kernel) rfl
theorem q1143 : Cond.methodLink "PumpTalkLaw" 146 yX6_wipe ∈ TB := tb_mem 1143 (by decide +kernel) rfl
theorem q1144 : Cond.instanceMethod yX6_wipe ∈ TB := tb_mem 1144 (by decide +kernel) rfl
theorem q1145 : Cond.selects "PumpTalkModel" yX6_wipe yX6_wipe ∈ TB := tb_mem 1145 (by decide +kernel) rfl
theorem q1146 : Cond.code yX6_wipe cX6_wipe 2 (some .int) ∈ TB := tb_mem 1146 (by decide +kernel) rfl
theorem q1147 : Cond.methodLink "PumpTalkLaw" 150 yX6_text ∈ TB := tb_mem 1147 (by decide +kernel) rfl
theorem q1148 : Cond.instanceMethod yX6_text ∈ TB := tb_mem 1148 (by decide +kernel) rfl
theorem q1149 : Cond.selects "PumpTalkModel" yX6_text yX6_text ∈ TB := tb_mem 1149 (by decide +kernel) rfl
theorem q1150 : Cond.code yX6_text cX6_text 2 (some .int) ∈ TB := tb_mem 1150 (by decide +kernel) rfl
theorem q1151 : Cond.methodLink "PumpTalkModel" 310 yX6_saves ∈ TB := tb_mem 1151 (by decide +kernel) rfl
theorem q1153 : Cond.instanceMethod yX6_saves ∈ TB := tb_mem 1153 (by decide +kernel) rfl
theorem q1154 : Cond.code yX6_saves cX6_saves 2 (none : Option Jvm.ClassFile.FieldType) ∈ TB := tb_mem 1154 (by decide +kernel) rfl
theorem q1155 : Cond.methodLink "PumpTalkModel" 249 yX6_token ∈ TB := tb_mem 1155 (by decide +kernel) rfl
theorem q1157 : Cond.instanceMethod yX6_token ∈ TB := tb_mem 1157 (by decide +kernel) rfl
theorem q1158 : Cond.code yX6_token cX6_token 3 (none : Option Jvm.ClassFile.FieldType) ∈ TB := tb_mem 1158 (by decide +kernel) rfl
theorem q1159 : Cond.methodLink "PumpTalkModel" 236 yX6_byteAt ∈ TB := tb_mem 1159 (by decide +kernel) rfl
theorem q1161 : Cond.instanceMethod yX6_byteAt ∈ TB := tb_mem 1161 (by decide +kernel) rfl
theorem q1162 : Cond.code yX6_byteAt cX6_byteAt 2 (some .int) ∈ TB := tb_mem 1162 (by decide +kernel) rfl
theorem q1163 : Cond.methodLink "PumpTalkModel" 239 yX6_isLetter ∈ TB := tb_mem 1163 (by decide +kernel) rfl
theorem q1164 : Cond.static yX6_isLetter ∈ TB := tb_mem 1164 (by decide +kernel) rfl
theorem q1165 : Cond.code yX6_isLetter cX6_isLetter 1 (some .boolean) ∈ TB := tb_mem 1165 (by decide +kernel) rfl
theorem q1166 : Cond.constantLong "PumpTalkModel" 222 97 ∈ TB := tb_mem 1166 (by decide +kernel) rfl
theorem q1167 : Cond.constantLong "PumpTalkModel" 224 122 ∈ TB := tb_mem 1167 (by decide +kernel) rfl
theorem q1168 : Cond.methodLink "PumpTalkModel" 242 yX6_isDigit ∈ TB := tb_mem 1168 (by decide +kernel) rfl
theorem q1169 : Cond.static yX6_isDigit ∈ TB := tb_mem 1169 (by decide +kernel) rfl
theorem q1170 : Cond.code yX6_isDigit cX6_isDigit 1 (some .boolean) ∈ TB := tb_mem 1170 (by decide +kernel) rfl
theorem q1171 : Cond.constantLong "PumpTalkModel" 226 48 ∈ TB := tb_mem 1171 (by decide +kernel) rfl
theorem q1172 : Cond.constantLong "PumpTalkModel" 228 57 ∈ TB := tb_mem 1172 (by decide +kernel) rfl
theorem q1173 : Cond.methodLink "PumpTalkModel" 313 yX6_item ∈ TB := tb_mem 1173 (by decide +kernel) rfl
theorem q1175 : Cond.instanceMethod yX6_item ∈ TB := tb_mem 1175 (by decide +kernel) rfl
theorem q1176 : Cond.code yX6_item cX6_item 4 (none : Option Jvm.ClassFile.FieldType) ∈ TB := tb_mem 1176 (by decide +kernel) rfl
theorem q1177 : Cond.methodLink "PumpTalkModel" 297 yX6_kindHere ∈ TB := tb_mem 1177 (by decide +kernel) rfl
theorem q1179 : Cond.instanceMethod yX6_kindHere ∈ TB := tb_mem 1179 (by decide +kernel) rfl
theorem q1180 : Cond.code yX6_kindHere cX6_kindHere 3 (some .int) ∈ TB := tb_mem 1180 (by decide +kernel) rfl
theorem q1181 : Cond.methodLink "PumpTalkModel" 263 yX6_word ∈ TB := tb_mem 1181 (by decide +kernel) rfl
theorem q1183 : Cond.instanceMethod yX6_word ∈ TB := tb_mem 1183 (by decide +kernel) rfl
theorem q1184 : Cond.code yX6_word cX6_word 4 (some .long) ∈ TB := tb_mem 1184 (by decide +kernel) rfl
theorem q1185 : Cond.constantLong "PumpTalkModel" 252 36028797018963967 ∈ TB := tb_mem 1185 (by decide +kernel) rfl
theorem q1186 : Cond.constantLong "PumpTalkModel" 254 32 ∈ TB := tb_mem 1186 (by decide +kernel) rfl
theorem q1187 : Cond.constantLong "PumpTalkModel" 267 542723566 ∈ TB := tb_mem 1187 (by decide +kernel) rfl
theorem q1188 : Cond.constantLong "PumpTalkModel" 269 136230 ∈ TB := tb_mem 1188 (by decide +kernel) rfl
theorem q1189 : Cond.constantLong "PumpTalkModel" 271 404481202 ∈ TB := tb_mem 1189 (by decide +kernel) rfl
theorem q1190 : Cond.constantLong "PumpTalkModel" 273 437899442 ∈ TB := tb_mem 1190 (by decide +kernel) rfl
theorem q1191 : Cond.constantLong "PumpTalkModel" 275 22088722073 ∈ TB := tb_mem 1191 (by decide +kernel) rfl
theorem q1192 : Cond.constantLong "PumpTalkModel" 277 23716 ∈ TB := tb_mem 1192 (by decide +kernel) rfl
theorem q1193 : Cond.constantLong "PumpTalkModel" 279 220501444 ∈ TB := tb_mem 1193 (by decide +kernel) rfl
theorem q1194 : Cond.methodLink "PumpTalkModel" 300 yX6_personItem ∈ TB := tb_mem 1194 (by decide +kernel) rfl
theorem q1196 : Cond.instanceMethod yX6_personItem ∈ TB := tb_mem 1196 (by decide +kernel) rfl
theorem q1197 : Cond.code yX6_personItem cX6_personItem 5 (none : Option Jvm.ClassFile.FieldType) ∈ TB := tb_mem 1197 (by decide +kernel) rfl
theorem q1198 : Cond.methodLink "PumpTalkModel" 259 yX6_must ∈ TB := tb_mem 1198 (by decide +kernel) rfl
theorem q1200 : Cond.instanceMethod yX6_must ∈ TB := tb_mem 1200 (by decide +kernel) rfl
theorem q1201 : Cond.code yX6_must cX6_must 2 (none : Option Jvm.ClassFile.FieldType) ∈ TB := tb_mem 1201 (by decide +kernel) rfl
theorem q1202 : Cond.constantLong "PumpTalkModel" 287 23569509 ∈ TB := tb_mem 1202 (by decide +kernel) rfl
theorem q1203 : Cond.methodLink "PumpTalkModel" 284 yX6_number ∈ TB := tb_mem 1203 (by decide +kernel) rfl
theorem q1205 : Cond.instanceMethod yX6_number ∈ TB := tb_mem 1205 (by decide +kernel) rfl
theorem q1206 : Cond.code yX6_number cX6_number 6 (none : Option Jvm.ClassFile.FieldType) ∈ TB := tb_mem 1206 (by decide +kernel) rfl
theorem q1207 : Cond.constantLong "PumpTalkModel" 289 679786867 ∈ TB := tb_mem 1207 (by decide +kernel) rfl
theorem q1208 : Cond.methodLink "PumpTalkModel" 291 yX6_viewHere ∈ TB := tb_mem 1208 (by decide +kernel) rfl
theorem q1210 : Cond.instanceMethod yX6_viewHere ∈ TB := tb_mem 1210 (by decide +kernel) rfl
theorem q1211 : Cond.code yX6_viewHere cX6_viewHere 2 (some .int) ∈ TB := tb_mem 1211 (by decide +kernel) rfl
theorem q1212 : Cond.methodLink "PumpTalkModel" 281 yX6_isHere ∈ TB := tb_mem 1212 (by decide +kernel) rfl
theorem q1214 : Cond.instanceMethod yX6_isHere ∈ TB := tb_mem 1214 (by decide +kernel) rfl
theorem q1215 : Cond.code yX6_isHere cX6_isHere 2 (some .boolean) ∈ TB := tb_mem 1215 (by decide +kernel) rfl
theorem q1216 : Cond.constantLong "PumpTalkModel" 303 525618 ∈ TB := tb_mem 1216 (by decide +kernel) rfl
theorem q1217 : Cond.methodLink "PumpTalkModel" 305 yX6_pairItem ∈ TB := tb_mem 1217 (by decide +kernel) rfl
theorem q1219 : Cond.instanceMethod yX6_pairItem ∈ TB := tb_mem 1219 (by decide +kernel) rfl
theorem q1220 : Cond.code yX6_pairItem cX6_pairItem 4 (none : Option Jvm.ClassFile.FieldType) ∈ TB := tb_mem 1220 (by decide +kernel) rfl
theorem q1221 : Cond.methodLink "PumpTalkModel" 294 yX6_peeked ∈ TB := tb_mem 1221 (by decide +kernel) rfl
theorem q1223 : Cond.instanceMethod yX6_peeked ∈ TB := tb_mem 1223 (by decide +kernel) rfl
theorem q1224 : Cond.code yX6_peeked cX6_peeked 3 (some .int) ∈ TB := tb_mem 1224 (by decide +kernel) rfl
theorem q1225 : Cond.constantLong "PumpTalkModel" 308 494 ∈ TB := tb_mem 1225 (by decide +kernel) rfl
theorem q1226 : Cond.methodLink "PumpTalkModel" 316 yX6_putsBack ∈ TB := tb_mem 1226 (by decide +kernel) rfl
theorem q1228 : Cond.instanceMethod yX6_putsBack ∈ TB := tb_mem 1228 (by decide +kernel) rfl
theorem q1229 : Cond.code yX6_putsBack cX6_putsBack 2 (none : Option Jvm.ClassFile.FieldType) ∈ TB := tb_mem 1229 (by decide +kernel) rfl
theorem q1230 : Cond.methodLink "PumpTalkLaw" 154 yX6_hold ∈ TB := tb_mem 1230 (by decide +kernel) rfl
theorem q1231 : Cond.instanceMethod yX6_hold ∈ TB := tb_mem 1231 (by decide +kernel) rfl
theorem q1232 : Cond.selects "PumpTalkModel" yX6_hold yX6_hold ∈ TB := tb_mem 1232 (by decide +kernel) rfl
theorem q1233 : Cond.code yX6_hold cX6_hold 3 (some .int) ∈ TB := tb_mem 1233 (by decide +kernel) rfl
theorem q1234 : Cond.methodLink "PumpTalkModel" 319 yX6_isSpot ∈ TB := tb_mem 1234 (by decide +kernel) rfl
theorem q1235 : Cond.static yX6_isSpot ∈ TB := tb_mem 1235 (by decide +kernel) rfl
theorem q1236 : Cond.code yX6_isSpot cX6_isSpot 1 (some .boolean) ∈ TB := tb_mem 1236 (by decide +kernel) rfl
theorem q1237 : Cond.methodLink "PumpTalkLaw" 158 yX6_as ∈ TB := tb_mem 1237 (by decide +kernel) rfl
theorem q1238 : Cond.instanceMethod yX6_as ∈ TB := tb_mem 1238 (by decide +kernel) rfl
theorem q1239 : Cond.selects "PumpTalkModel" yX6_as yX6_as ∈ TB := tb_mem 1239 (by decide +kernel) rfl
theorem q1240 : Cond.code yX6_as cX6_as 5 (some .int) ∈ TB := tb_mem 1240 (by decide +kernel) rfl
theorem q1241 : Cond.methodLink "PumpTalkModel" 323 yX6_above ∈ TB := tb_mem 1241 (by decide +kernel) rfl
theorem q1242 : Cond.static yX6_above ∈ TB := tb_mem 1242 (by decide +kernel) rfl
theorem q1243 : Cond.code yX6_above cX6_above 1 (some .int) ∈ TB := tb_mem 1243 (by decide +kernel) rfl
theorem q1244 : Cond.constant "PumpTalkModel" 326 (-1000003) ∈ TB := tb_mem 1244 (by decide +kernel) rfl
theorem q1245 : Cond.methodLink "PumpTalkLaw" 162 yX6_sheet ∈ TB := tb_mem 1245 (by decide +kernel) rfl
theorem q1246 : Cond.instanceMethod yX6_sheet ∈ TB := tb_mem 1246 (by decide +kernel) rfl
theorem q1247 : Cond.selects "PumpTalkModel" yX6_sheet yX6_sheet ∈ TB := tb_mem 1247 (by decide +kernel) rfl
theorem q1248 : Cond.code yX6_sheet cX6_sheet 5 (some .int) ∈ TB := tb_mem 1248 (by decide +kernel) rfl
theorem q1249 : Cond.constant "PumpTalkModel" 332 (-1000007) ∈ TB := tb_mem 1249 (by decide +kernel) rfl
theorem q1250 : Cond.methodLink "PumpTalkLaw" 166 yX6_write ∈ TB := tb_mem 1250 (by decide +kernel) rfl
theorem q1251 : Cond.instanceMethod yX6_write ∈ TB := tb_mem 1251 (by decide +kernel) rfl
theorem q1252 : Cond.selects "PumpTalkModel" yX6_write yX6_write ∈ TB := tb_mem 1252 (by decide +kernel) rfl
theorem q1253 : Cond.code yX6_write cX6_write 5 (some .int) ∈ TB := tb_mem 1253 (by decide +kernel) rfl
theorem q1254 : Cond.methodLink "PumpTalkModel" 333 yX6_narrowed ∈ TB := tb_mem 1254 (by decide +kernel) rfl
theorem q1255 : Cond.static yX6_narrowed ∈ TB := tb_mem 1255 (by decide +kernel) rfl
theorem q1256 : Cond.code yX6_narrowed cX6_narrowed 2 (some .int) ∈ TB := tb_mem 1256 (by decide +kernel) rfl
theorem q1257 : Cond.methodLink "PumpTalkLaw" 171 yX6_copy ∈ TB := tb_mem 1257 (by decide +kernel) rfl
theorem q1258 : Cond.instanceMethod yX6_copy ∈ TB := tb_mem 1258 (by decide +kernel) rfl
theorem q1259 : Cond.selects "PumpTalkModel" yX6_copy yX6_copy ∈ TB := tb_mem 1259 (by decide +kernel) rfl
theorem q1260 : Cond.code yX6_copy cX6_copy 7 (some .int) ∈ TB := tb_mem 1260 (by decide +kernel) rfl
theorem q1261 : Cond.methodLink "PumpTalkLaw" 175 yX6_load ∈ TB := tb_mem 1261 (by decide +kernel) rfl
theorem q1262 : Cond.instanceMethod yX6_load ∈ TB := tb_mem 1262 (by decide +kernel) rfl
theorem q1263 : Cond.selects "PumpTalkModel" yX6_load yX6_load ∈ TB := tb_mem 1263 (by decide +kernel) rfl
theorem q1264 : Cond.code yX6_load cX6_load 4 (some .int) ∈ TB := tb_mem 1264 (by decide +kernel) rfl
theorem q1265 : Cond.methodLink "PumpTalkLaw" 179 yX6_judge ∈ TB := tb_mem 1265 (by decide +kernel) rfl
theorem q1266 : Cond.instanceMethod yX6_judge ∈ TB := tb_mem 1266 (by decide +kernel) rfl
theorem q1267 : Cond.selects "PumpTalkModel" yX6_judge yX6_judge ∈ TB := tb_mem 1267 (by decide +kernel) rfl
theorem q1268 : Cond.code yX6_judge cX6_judge 4 (some .int) ∈ TB := tb_mem 1268 (by decide +kernel) rfl
theorem q1269 : Cond.methodLink "PumpTalkLaw" 183 yX6_image ∈ TB := tb_mem 1269 (by decide +kernel) rfl
theorem q1270 : Cond.instanceMethod yX6_image ∈ TB := tb_mem 1270 (by decide +kernel) rfl
theorem q1271 : Cond.selects "PumpTalkModel" yX6_image yX6_image ∈ TB := tb_mem 1271 (by decide +kernel) rfl
theorem q1272 : Cond.code yX6_image cX6_image 2 (some .int) ∈ TB := tb_mem 1272 (by decide +kernel) rfl
theorem q1273 : Cond.methodLink "PumpTalkLaw" 187 yX6_undo ∈ TB := tb_mem 1273 (by decide +kernel) rfl
theorem q1274 : Cond.instanceMethod yX6_undo ∈ TB := tb_mem 1274 (by decide +kernel) rfl
theorem q1275 : Cond.selects "PumpTalkModel" yX6_undo yX6_undo ∈ TB := tb_mem 1275 (by decide +kernel) rfl
theorem q1276 : Cond.code yX6_undo cX6_undo 2 (some .int) ∈ TB := tb_mem 1276 (by decide +kernel) rfl
theorem q1277 : Cond.methodLink "PumpTalkLaw" 191 yX6_tear ∈ TB := tb_mem 1277 (by decide +kernel) rfl
theorem q1278 : Cond.instanceMethod yX6_tear ∈ TB := tb_mem 1278 (by decide +kernel) rfl
theorem q1279 : Cond.selects "PumpTalkModel" yX6_tear yX6_tear ∈ TB := tb_mem 1279 (by decide +kernel) rfl
theorem q1280 : Cond.code yX6_tear cX6_tear 2 (some .int) ∈ TB := tb_mem 1280 (by decide +kernel) rfl
theorem q1281 : Cond.methodLink "PumpTalkLaw" 195 yX6_count ∈ TB := tb_mem 1281 (by decide +kernel) rfl
theorem q1282 : Cond.instanceMethod yX6_count ∈ TB := tb_mem 1282 (by decide +kernel) rfl
theorem q1283 : Cond.selects "PumpTalkModel" yX6_count yX6_count ∈ TB := tb_mem 1283 (by decide +kernel) rfl
theorem q1284 : Cond.code yX6_count cX6_count 2 (some .int) ∈ TB := tb_mem 1284 (by decide +kernel) rfl
theorem q1285 : Cond.methodLink "PumpTalkModel" 339 yX6_heldSpots ∈ TB := tb_mem 1285 (by decide +kernel) rfl
theorem q1287 : Cond.instanceMethod yX6_heldSpots ∈ TB := tb_mem 1287 (by decide +kernel) rfl
theorem q1288 : Cond.code yX6_heldSpots cX6_heldSpots 3 (some .int) ∈ TB := tb_mem 1288 (by decide +kernel) rfl
theorem q1289 : Cond.methodLink "PumpTalkLaw" 199 yX6_status ∈ TB := tb_mem 1289 (by decide +kernel) rfl
theorem q1290 : Cond.instanceMethod yX6_status ∈ TB := tb_mem 1290 (by decide +kernel) rfl
theorem q1291 : Cond.selects "PumpTalkModel" yX6_status yX6_status ∈ TB := tb_mem 1291 (by decide +kernel) rfl
theorem q1292 : Cond.code yX6_status cX6_status 4 (some .int) ∈ TB := tb_mem 1292 (by decide +kernel) rfl
theorem q1293 : Cond.constantLong "PumpTalkModel" 342 (-1) ∈ TB := tb_mem 1293 (by decide +kernel) rfl
theorem q1294 : Cond.fieldLink "java/lang/String" 9 "java/lang/String" "value" "[B" ∈ TB := tb_mem 1294 (by decide +kernel) rfl
theorem q1295 : Cond.fieldLink "java/lang/String" 15 "java/lang/String" "coder" "B" ∈ TB := tb_mem 1295 (by decide +kernel) rfl
end
section
/-! the base: states as tables of ints, a method's context, its world, contracts that tell world and answer outright, calls by them -/
abbrev MS : Type := Nat → Nat → Int32
def su (σ : MS) (k j : Nat) (v : Int32) : MS := va_up σ k (upd (σ k) j v)
def sr (σ : MS) (k : Nat) (f : Nat → Int32) : MS := va_up σ k f
/-- facts of what lies outside a method's own cells: kept where nothing outside is written -/
abbrev GT : Type := (Nat → Prop) → State → Heap → Prop
def GOk (G : GT) : Prop := (∀ (A : Nat → Prop) (u U : State) (H : Heap), u.vm.Alike U.vm → G A u H → G A U H) ∧ (∀ (A : Nat → Prop) (U : State) (H H1 : Heap), (∀ a : Nat, a < H.size → ¬ A a → H1[a]? = H[a]?) → G A U H → G A U H1) ∧ (∀ (A B : Nat → Prop) (U : State) (H : Heap), (∀ q, B q → A q) → G A U H → G B U H)
abbrev tyz (cy cz : ClassId) : List (ClassId × FieldType) := [(cy, .int), (cz, .object "PumpTalk$Sheet")]
abbrev Cx (p : Program) (s : State) (m : MethodId) (args : Array Value) (c : Code) (cc : ByteArray) (nL : Nat) (own : String) (D : va_G) (cy cz : ClassId) (G : GT) (A : Nat → Prop) : Prop :=
  p.tables.exec = Jvm.exec ∧ c.code = cc ∧ c.maxLocals = nL ∧ s.vm.findClass own = some m.cls ∧ (∀ w ∈ TB, w.before args s = true) ∧ va_K D vwCl (tyz cy cz) s ∧ (GOk G ∧ G A s s.heap) ∧ (∀ q, s.heap.size ≤ q → A q)
def Wd (D : va_G) (A : Nat → Prop) (H0 H : Heap) (locs : List Loc) (w : va_W) : Prop := va_P D vwCl w H ∧ va_D A w ∧ va_S A H0 H locs
abbrev wz (y : MethodName) (cc : ByteArray) (n : Nat) (rt : Option FieldType) : List Cond := .code y cc n rt :: TB
abbrev rmz (fr lo : Nat) : Room := { frames := fr, cells := 0, slots := 0, locals := lo }
def Pw (D : va_G) (cy cz : ClassId) (G : GT) (av : List Value) (w : va_W) (sz : Nat) : Array Value → State → Prop := va_Pc av (fun U => U.heap.size = sz ∧ va_P D vwCl w U.heap ∧ va_K D vwCl (tyz cy cz) U ∧ va_D (fun _ => True) w ∧ GOk G ∧ G (va_A w sz) U U.heap)
def Bw (D : va_G) (cy cz : ClassId) (A : Nat → Prop) (w : va_W) (t : State) : Prop := va_P D vwCl w t.heap ∧ va_K D vwCl (tyz cy cz) t ∧ va_D A w
abbrev QI (D : va_G) (cy cz : ClassId) (A : Nat → Prop) (w : va_W) (r : Int32) : Array Value → State → Outcome → State → Prop := va_Qi (fun r' (_ : Unit) => r' = r) (fun _ t => Bw D cy cz A w t) A
abbrev QL (D : va_G) (cy cz : ClassId) (A : Nat → Prop) (w : va_W) (r : Int64) : Array Value → State → Outcome → State → Prop := va_Ql (fun r' (_ : Unit) => r' = r) (fun _ t => Bw D cy cz A w t) A
abbrev QV (D : va_G) (cy cz : ClassId) (A : Nat → Prop) (w : va_W) (_ : Unit) : Array Value → State → Outcome → State → Prop := va_Qv (fun (_ : Unit) => True) (fun _ t => Bw D cy cz A w t) A
def CtI (l : Launch) (D : va_G) (cy cz : ClassId) (G : GT) (y : MethodName) (cc : ByteArray) (n : Nat) (rt : Option FieldType) (fr lo : Nat) (av : List Value) (w w' : va_W) (r : Int32) : Prop := ∀ sz, Met l y (wz y cc n rt) (rmz fr lo) (Pw D cy cz G av w sz) (QI D cy cz (va_A w sz) w' r) 0 0 (va_A w sz)
def CtL (l : Launch) (D : va_G) (cy cz : ClassId) (G : GT) (y : MethodName) (cc : ByteArray) (n : Nat) (rt : Option FieldType) (fr lo : Nat) (av : List Value) (w w' : va_W) (r : Int64) : Prop := ∀ sz, Met l y (wz y cc n rt) (rmz fr lo) (Pw D cy cz G av w sz) (QL D cy cz (va_A w sz) w' r) 0 0 (va_A w sz)
def CtV (l : Launch) (D : va_G) (cy cz : ClassId) (G : GT) (y : MethodName) (cc : ByteArray) (n : Nat) (rt : Option FieldType) (fr lo : Nat) (av : List Value) (w w' : va_W) (r : Unit) : Prop := ∀ sz, Met l y (wz y cc n rt) (rmz fr lo) (Pw D cy cz G av w sz) (QV D cy cz (va_A w sz) w' r) 0 0 (va_A w sz)
/-- what a callee's words must be, of an instance's method and of a static one -/
abbrev KM (y : MethodName) (cc : ByteArray) (n : Nat) (rt : Option FieldType) (k : Nat) : Prop := Cond.instanceMethod y ∈ TB ∧ Cond.selects y.cls y y ∈ TB ∧ Cond.initialized y.cls ∈ TB ∧ Cond.code y cc n rt ∈ TB ∧ y.cls ≠ "java/lang/invoke/MethodHandle" ∧ y.cls ≠ "java/lang/invoke/VarHandle" ∧ (parseMethodDescriptor y.desc).map (fun d => d.parameters.length) = some k
abbrev KS (y : MethodName) (cc : ByteArray) (n : Nat) (rt : Option FieldType) (k : Nat) : Prop := Cond.static y ∈ TB ∧ Cond.initialized y.cls ∈ TB ∧ Cond.code y cc n rt ∈ TB ∧ y.cls ≠ "java/lang/invoke/MethodHandle" ∧ y.cls ≠ "java/lang/invoke/VarHandle" ∧ (parseMethodDescriptor y.desc).map (fun d => d.parameters.length) = some k
theorem gi_V {own C : String} {idx n k : Nat} {y : MethodName} {cc : ByteArray} {rt : Option FieldType} (h : KM y cc n rt k) (hl : Cond.methodLink own idx y ∈ TB) (hC : C = y.cls) : GoodIn TB (wsV own idx C y (wz y cc n rt)) := by
  subst hC
  intro w hw
  have hm : w ∈ TB := by
    rcases List.mem_append.mp hw with h1 | h1
    · simp only [List.mem_cons, List.not_mem_nil, or_false] at h1
      rcases h1 with rfl | rfl | rfl | rfl
      · exact hl
      · exact h.1
      · exact h.2.1
      · exact h.2.2.1
    · rcases List.mem_cons.mp h1 with rfl | h1
      · exact h.2.2.2.1
      · exact h1
  exact ⟨hm, tb_good hm⟩
theorem gi_S {own : String} {idx n k : Nat} {y : MethodName} {cc : ByteArray} {rt : Option FieldType} (h : KS y cc n rt k) (hl : Cond.methodLink own idx y ∈ TB) : GoodIn TB (va_wsS own idx y (wz y cc n rt)) := by
  intro w hw
  have hm : w ∈ TB := by
    rcases List.mem_append.mp hw with h1 | h1
    · simp only [List.mem_cons, List.not_mem_nil, or_false] at h1
      rcases h1 with rfl | rfl | rfl
      · exact hl
      · exact h.1
      · exact h.2.1
    · rcases List.mem_cons.mp h1 with rfl | h1
      · exact h.2.2.1
      · exact h1
  exact ⟨hm, tb_good hm⟩
theorem gi_0 {n : Nat} {y : MethodName} {cc : ByteArray} {rt : Option FieldType} (h : Cond.code y cc n rt ∈ TB) : GoodIn TB (wz y cc n rt) := by
  intro w hw
  have hm : w ∈ TB := by
    rcases List.mem_cons.mp hw with rfl | h1
    · exact h
    · exact h1
  exact ⟨hm, tb_good hm⟩
theorem wd_free {D : va_G} {A : Nat → Prop} {H0 H : Heap} {locs : List Loc} {w : va_W} (h : Wd D A H0 H locs w) (hA : ∀ q, H0.size ≤ q → A q) : ∀ q, va_A w H.size q → A q := by
  intro q hq
  rcases hq with ⟨k, e, h1⟩ | h1
  · exact h.2.1.2 k (q, e) h1
  · exact hA q (Nat.le_trans h.2.2.1 h1)
theorem pw_blind {D : va_G} {cy cz : ClassId} {G : GT} {av : List Value} {w : va_W} {sz : Nat} : FrameBlind (Pw D cy cz G av w sz) := fun a U g mk q => by
  obtain ⟨q0, q1, qP, qK, qD, qO, qG⟩ := q
  exact ⟨q0, q1, qP, va_K.moved (u := U) (U := U.calling g mk a) (Vm.Alike.refl U.vm) qK, qD, qO, qO.1 _ U (U.calling g mk a) _ (Vm.Alike.refl U.vm) qG⟩
/-- what lies outside, at a call -/
theorem g_at {G : GT} {A B : Nat → Prop} {s U : State} {H : Heap} {locs : List Loc} (hG : GOk G ∧ G A s s.heap) (hS : va_S A s.heap H locs) (hF : ∀ q, B q → A q) (hU : U.heap = H) (hvm : s.vm.Alike U.vm) : G B U U.heap := by
  rw [hU]
  exact hG.1.1 _ s U _ hvm (hG.1.2.2 A B s H hF (hG.1.2.1 A s s.heap H (fun a h1 h2 => hS.2.1 a h1 h2) hG.2))
theorem va_psub {D : va_G} {cl : List vw_C} {ws ws' : va_W} {H : Heap} (h : va_P D cl ws H) (is : List Nat) (hs : is.map (fun i => ws[i]?) = ws'.map some) : va_P D cl ws' H := by
  intro k q hq
  have h1 : (is.map (fun i => ws[i]?))[k]? = some (some q) := by rw [hs, List.getElem?_map, hq]; rfl
  rw [List.getElem?_map] at h1
  cases hi : is[k]? with
  | none => rw [hi] at h1; cases h1
  | some i => rw [hi] at h1; exact h i q (Option.some.inj h1)
theorem va_dsub {A : Nat → Prop} {ws ws' : va_W} (h : va_D A ws) (is : List Nat) (hs : is.map (fun i => ws[i]?) = ws'.map some) (hn : va_nd is = true) : va_D (fun _ => True) ws' := (h.sub is hn hs).weaken (fun _ _ _ _ => trivial)
theorem ct_i {l : Launch} {D : va_G} {cy cz : ClassId} {G : GT} {cc : ByteArray} {y : MethodName} {n fr lo : Nat} {rt : Option FieldType} {av : List Value} {w w' : va_W} {r : Int32} {own : String} (hy : plainName y.cls = true) (ho : y.cls = own) (hn : (lg_sl av).length ≤ n)
    (body : ∀ (p : Program) (e : Env) (s : State) (m : MethodId) (below : List Frame) (meth : Method) (c : Code) (ls : Array Slot) (A : Nat → Prop), Cx p s m av.toArray c cc n own D cy cz G A → meth.sig.returnType = rt → meth.locks = false → Wd D A s.heap s.heap [] w → lv_has ls n (lv_args 0 av) → W p l e (rmz fr lo) s m av.toArray below meth c s.heap [] 0 0 (MQ below (QI D cy cz A w' r) av.toArray s 0 0 A) (F0 m 0 ls [])) : CtI l D cy cz G y cc n rt fr lo av w w' r := by
  intro sz
  refine Met.ofW (cc := cc) (maxL := n) (ret := rt) hy rfl ?_
  intro p e s m args below meth c s₁ B hml hv
  obtain ⟨rfl, hsz, hP, hK, hD0, hO, hG⟩ := hv
  subst hsz
  have hts := atoms_spec (ws := wz y cc n rt) B.pre
  have hown : s.vm.findClass own = some m.cls := ho ▸ findClass_of_methodNamed B.named
  rw [lg_entry_eq]
  exact body p e s m below meth c _ _ ⟨B.exec, B.bytes, hml, hown, fun w h => hts w (List.mem_cons_of_mem _ h), hK, ⟨hO, hG⟩, fun q h => Or.inr h⟩ B.returns B.notSynchronized ⟨hP, hD0.self, va_S.rf⟩ (lv_entry av hn)
theorem ct_l {l : Launch} {D : va_G} {cy cz : ClassId} {G : GT} {cc : ByteArray} {y : MethodName} {n fr lo : Nat} {rt : Option FieldType} {av : List Value} {w w' : va_W} {r : Int64} {own : String} (hy : plainName y.cls = true) (ho : y.cls = own) (hn : (lg_sl av).length ≤ n)
    (body : ∀ (p : Program) (e : Env) (s : State) (m : MethodId) (below : List Frame) (meth : Method) (c : Code) (ls : Array Slot) (A : Nat → Prop), Cx p s m av.toArray c cc n own D cy cz G A → meth.sig.returnType = rt → meth.locks = false → Wd D A s.heap s.heap [] w → lv_has ls n (lv_args 0 av) → W p l e (rmz fr lo) s m av.toArray below meth c s.heap [] 0 0 (MQ below (QL D cy cz A w' r) av.toArray s 0 0 A) (F0 m 0 ls [])) : CtL l D cy cz G y cc n rt fr lo av w w' r := by
  intro sz
  refine Met.ofW (cc := cc) (maxL := n) (ret := rt) hy rfl ?_
  intro p e s m args below meth c s₁ B hml hv
  obtain ⟨rfl, hsz, hP, hK, hD0, hO, hG⟩ := hv
  subst hsz
  have hts := atoms_spec (ws := wz y cc n rt) B.pre
  have hown : s.vm.findClass own = some m.cls := ho ▸ findClass_of_methodNamed B.named
  rw [lg_entry_eq]
  exact body p e s m below meth c _ _ ⟨B.exec, B.bytes, hml, hown, fun w h => hts w (List.mem_cons_of_mem _ h), hK, ⟨hO, hG⟩, fun q h => Or.inr h⟩ B.returns B.notSynchronized ⟨hP, hD0.self, va_S.rf⟩ (lv_entry av hn)
theorem ct_v {l : Launch} {D : va_G} {cy cz : ClassId} {G : GT} {cc : ByteArray} {y : MethodName} {n fr lo : Nat} {rt : Option FieldType} {av : List Value} {w w' : va_W} {r : Unit} {own : String} (hy : plainName y.cls = true) (ho : y.cls = own) (hn : (lg_sl av).length ≤ n)
    (body : ∀ (p : Program) (e : Env) (s : State) (m : MethodId) (below : List Frame) (meth : Method) (c : Code) (ls : Array Slot) (A : Nat → Prop), Cx p s m av.toArray c cc n own D cy cz G A → meth.sig.returnType = rt → meth.locks = false → Wd D A s.heap s.heap [] w → lv_has ls n (lv_args 0 av) → W p l e (rmz fr lo) s m av.toArray below meth c s.heap [] 0 0 (MQ below (QV D cy cz A w' r) av.toArray s 0 0 A) (F0 m 0 ls [])) : CtV l D cy cz G y cc n rt fr lo av w w' r := by
  intro sz
  refine Met.ofW (cc := cc) (maxL := n) (ret := rt) hy rfl ?_
  intro p e s m args below meth c s₁ B hml hv
  obtain ⟨rfl, hsz, hP, hK, hD0, hO, hG⟩ := hv
  subst hsz
  have hts := atoms_spec (ws := wz y cc n rt) B.pre
  have hown : s.vm.findClass own = some m.cls := ho ▸ findClass_of_methodNamed B.named
  rw [lg_entry_eq]
  exact body p e s m below meth c _ _ ⟨B.exec, B.bytes, hml, hown, fun w h => hts w (List.mem_cons_of_mem _ h), hK, ⟨hO, hG⟩, fun q h => Or.inr h⟩ B.returns B.notSynchronized ⟨hP, hD0.self, va_S.rf⟩ (lv_entry av hn)
section BASE
variable {p : Program} {l : Launch} {e : Env} {s : State} {m : MethodId} {below : List Frame} {meth : Method} {c : Code} {cc : ByteArray} {D : va_G} {cy cz : ClassId} {G : GT} {A : Nat → Prop} {H : Heap} {locs : List Loc} {ls : Array Slot} {args : Array Value} {R : Room} {nL pc : Nat} {own : String} {w w' wc wc' wr : va_W} {rest : List Value} {Q : State → Prop} {cells slots : Nat}
theorem en_i {r : Int32} (C : Cx p s m args c cc nL own D cy cz G A) (hr : meth.sig.returnType = some .int) (hlk : meth.locks = false) (hW : Wd D A s.heap H locs w) (hdg : decode cc pc = .ok (.ireturn, 1)) : W p l e R s m args below meth c H locs 0 0 (MQ below (QI D cy cz A w r) args s 0 0 A) (F0 m pc ls [.int r]) :=
  W.iret (v := r) C.1 C.2.1 hr (fun t ht hw => ⟨⟨r, (), rfl, rfl, by rw [ht]; exact hW.1, va_K.moved hw.alike C.2.2.2.2.2.1, hW.2.1⟩, hW.2.2.F ht⟩) hW.2.2.2.2 hdg hlk
theorem en_z {r : Int32} (C : Cx p s m args c cc nL own D cy cz G A) (hr : meth.sig.returnType = some .boolean) (hlk : meth.locks = false) (hz : narrow .boolean (.int r) = .int r) (hW : Wd D A s.heap H locs w) (hdg : decode cc pc = .ok (.ireturn, 1)) : W p l e R s m args below meth c H locs 0 0 (MQ below (QI D cy cz A w r) args s 0 0 A) (F0 m pc ls [.int r]) :=
  W.zret (v := r) C.1 C.2.1 hr hz (fun t ht hw => ⟨⟨r, (), rfl, rfl, by rw [ht]; exact hW.1, va_K.moved hw.alike C.2.2.2.2.2.1, hW.2.1⟩, hW.2.2.F ht⟩) hW.2.2.2.2 hdg hlk
theorem en_l {r : Int64} (C : Cx p s m args c cc nL own D cy cz G A) (hr : meth.sig.returnType = some .long) (hlk : meth.locks = false) (hW : Wd D A s.heap H locs w) (hdg : decode cc pc = .ok (.lreturn, 1)) : W p l e R s m args below meth c H locs 0 0 (MQ below (QL D cy cz A w r) args s 0 0 A) (F0 m pc ls [.long r]) :=
  W.lret (v := r) C.1 C.2.1 hr (fun t ht hw => ⟨⟨r, (), rfl, rfl, by rw [ht]; exact hW.1, va_K.moved hw.alike C.2.2.2.2.2.1, hW.2.1⟩, hW.2.2.F ht⟩) hW.2.2.2.2 hdg hlk
theorem en_v {r : Unit} (C : Cx p s m args c cc nL own D cy cz G A) (hr : meth.sig.returnType = none) (hlk : meth.locks = false) (hW : Wd D A s.heap H locs w) (hdg : decode cc pc = .ok (.return_, 1)) : W p l e R s m args below meth c H locs 0 0 (MQ below (QV D cy cz A w r) args s 0 0 A) (F0 m pc ls []) :=
  W.vret C.1 C.2.1 hr (fun t ht hw => ⟨⟨(), rfl, trivial, by rw [ht]; exact hW.1, va_K.moved hw.alike C.2.2.2.2.2.1, hW.2.1⟩, hW.2.2.F ht⟩) hW.2.2.2.2 hdg hlk
theorem cs_i {y : MethodName} {bytes : ByteArray} {maxL fr lo k index ci q0 : Nat} {rt : Option FieldType} {b : Nat} {As fs : List Value} {q : vw_C} {r : Int32} (C : Cx p s m args c cc nL own D cy cz G A) (hW : Wd D A s.heap H locs w)
    (hM : CtI l D cy cz G y bytes maxL rt fr lo (.ref b :: As) w w' r) (hq : KM y bytes maxL rt k) (hlk : Cond.methodLink own index y ∈ TB) (he : w[q0]? = some (b, .inr (ci, fs))) (hc : vwCl[ci]? = some q) (hqc : q.1 = y.cls) (hk : As.length = k) (hls : ls.size = nL) (hR : fr + 1 ≤ R.frames ∧ 8 + (maxL + 11) + lo ≤ R.locals) (hcs : cells ≤ R.cells ∧ slots ≤ R.slots) (hrm : (rest.map fun v => v.category).sum ≤ 8) (hdg : decode cc pc = .ok (.invokevirtual index, 3))
    (kk : ∀ (H1 : Heap) (locs1 : List Loc), Wd D A s.heap H1 locs1 w' → W p l e R s m args below meth c H1 locs1 cells slots Q (F0 m (pc + 3) ls (.int r :: rest))) : W p l e R s m args below meth c H locs cells slots Q (F0 m pc ls (As.reverse ++ .ref b :: rest)) := by
  have hA := C.2.2.2.2.2.2.2
  have hG := C.2.2.2.2.2.2.1
  have hF := wd_free hW hA
  obtain ⟨hP, hD, hS⟩ := hW
  obtain ⟨hx, hb, hml, hown, hts, hK, -, -⟩ := C
  refine va_calli (va_runV (C := y.cls) (As := As) (rest := rest) ⟨hx, hb, hml, hown, hts⟩ (hM H.size) (cwV k hts (gi_V hq hlk rfl) rfl rfl rfl ⟨rfl, hq.2.2.2.2.1, hq.2.2.2.2.2.1, hq.2.2.2.2.2.2⟩ hR) ⟨pw_blind, by rw [← hqc]; exact va_recv hK hP hc he, fun U hU hw => ⟨rfl, by rw [hU], by rw [hU]; exact hP, va_K.moved hw.alike hK, hD.weaken (fun _ _ _ _ => trivial), hG.1, g_at hG hS hF hU hw.alike⟩⟩ rfl hk hls rfl (lv_room hrm) hdg ⟨hcs.1, hcs.2⟩) hS (fun q _ h => hF q h) hF (fun r1 u t H1 locs1 ht hvm hw hB hz1 hk1 hS1 => ?_)
  subst hw
  exact kk H1 locs1 ⟨by rw [← ht]; exact hB.1, hB.2.2.weaken (fun _ _ _ h => hF _ h), hS1⟩
theorem cp_i {y : MethodName} {bytes : ByteArray} {maxL fr lo k index ci q0 : Nat} {rt : Option FieldType} {b : Nat} {As fs : List Value} {q : vw_C} {r : Int32} (C : Cx p s m args c cc nL own D cy cz G A) (hW : Wd D A s.heap H locs w)
    (hM : CtI l D cy cz G y bytes maxL rt fr lo (.ref b :: As) wc wc' r) (hq : KM y bytes maxL rt k) (hlk : Cond.methodLink own index y ∈ TB) (isC isR pm : List Nat) (hC : isC.map (fun i => w[i]?) = wc.map some) (hRr : isR.map (fun i => w[i]?) = wr.map some) (hn : va_nd isR = true) (hdis : ∀ i ∈ isR, i ∉ isC) (hpm : pm.map (fun i => (wr ++ wc')[i]?) = w'.map some) (hpn : va_nd pm = true) (hcn : va_nd isC = true) (he : wc[q0]? = some (b, .inr (ci, fs))) (hc : vwCl[ci]? = some q) (hqc : q.1 = y.cls) (hk : As.length = k) (hls : ls.size = nL) (hR : fr + 1 ≤ R.frames ∧ 8 + (maxL + 11) + lo ≤ R.locals) (hcs : cells ≤ R.cells ∧ slots ≤ R.slots) (hrm : (rest.map fun v => v.category).sum ≤ 8) (hdg : decode cc pc = .ok (.invokevirtual index, 3))
    (kk : ∀ (H1 : Heap) (locs1 : List Loc), Wd D A s.heap H1 locs1 w' → W p l e R s m args below meth c H1 locs1 cells slots Q (F0 m (pc + 3) ls (.int r :: rest))) : W p l e R s m args below meth c H locs cells slots Q (F0 m pc ls (As.reverse ++ .ref b :: rest)) := by
  have hA := C.2.2.2.2.2.2.2
  have hG := C.2.2.2.2.2.2.1
  have hF := va_free (wc := wc) hW.2.1 hW.2.2 hA isC hC
  obtain ⟨hP, hD, hS⟩ := hW
  obtain ⟨hx, hb, hml, hown, hts, hK, -, -⟩ := C
  have hPc : va_P D vwCl wc H := va_psub hP isC hC
  have hDc : va_D (fun _ => True) wc := va_dsub hD isC hC hcn
  refine va_calli (va_runV (C := y.cls) (As := As) (rest := rest) ⟨hx, hb, hml, hown, hts⟩ (hM H.size) (cwV k hts (gi_V hq hlk rfl) rfl rfl rfl ⟨rfl, hq.2.2.2.2.1, hq.2.2.2.2.2.1, hq.2.2.2.2.2.2⟩ hR) ⟨pw_blind, by rw [← hqc]; exact va_recv hK hPc hc he, fun U hU hw => ⟨rfl, by rw [hU], by rw [hU]; exact hPc, va_K.moved hw.alike hK, hDc, hG.1, g_at hG hS hF hU hw.alike⟩⟩ rfl hk hls rfl (lv_room hrm) hdg ⟨hcs.1, hcs.2⟩) hS (fun q _ h => hF q h) hF (fun r1 u t H1 locs1 ht hvm hw hB hz1 hk1 hS1 => ?_)
  subst hw
  have hP1 : va_P D vwCl wc' H1 := by rw [← ht]; exact hB.1
  obtain ⟨hP2, hD2⟩ := va_join (wr := wr) (w1 := wc') hP hD isC isR hC hRr hn hdis hk1 hF hP1 hB.2.2
  exact kk H1 locs1 ⟨va_psub hP2 pm hpm, hD2.sub pm hpn hpm, hS1⟩
theorem cS_i {y : MethodName} {bytes : ByteArray} {maxL fr lo k index ci q0 : Nat} {rt : Option FieldType} {b : Nat} {As fs : List Value} {q : vw_C} {r : Int32} (C : Cx p s m args c cc nL own D cy cz G A) (hW : Wd D A s.heap H locs w)
    (hM : CtI l D cy cz G y bytes maxL rt fr lo As [] [] r) (hq : KS y bytes maxL rt k) (hlk : Cond.methodLink own index y ∈ TB) (hk : As.length = k) (hls : ls.size = nL) (hR : fr + 1 ≤ R.frames ∧ 8 + (maxL + 11) + lo ≤ R.locals) (hcs : cells ≤ R.cells ∧ slots ≤ R.slots) (hrm : (rest.map fun v => v.category).sum ≤ 8) (hdg : decode cc pc = .ok (.invokestatic index, 3))
    (kk : ∀ (H1 : Heap) (locs1 : List Loc), Wd D A s.heap H1 locs1 w → W p l e R s m args below meth c H1 locs1 cells slots Q (F0 m (pc + 3) ls (.int r :: rest))) : W p l e R s m args below meth c H locs cells slots Q (F0 m pc ls (As.reverse ++ rest)) := by
  have hA := C.2.2.2.2.2.2.2
  have hG := C.2.2.2.2.2.2.1
  have hF : ∀ q, va_A [] H.size q → A q := fun q h => by
    rcases h with ⟨k, e, h⟩ | h
    · simp at h
    · exact hA q (Nat.le_trans hW.2.2.1 h)
  obtain ⟨hP, hD, hS⟩ := hW
  obtain ⟨hx, hb, hml, hown, hts, hK, -, -⟩ := C
  refine va_calli (va_runS (As := As) (rest := rest) ⟨hx, hb, hml, hown, hts⟩ (hM H.size) (va_cwS k hts (gi_S hq hlk) rfl rfl rfl ⟨hq.2.2.2.1, hq.2.2.2.2.1, hq.2.2.2.2.2⟩ hR) ⟨pw_blind, fun U hU hw => ⟨rfl, by rw [hU], by rw [hU]; exact (fun k q h => by simp at h), va_K.moved hw.alike hK, ⟨fun i j p q h => by simp at h, fun k q h => by simp at h⟩, hG.1, g_at hG hS hF hU hw.alike⟩⟩ rfl hk hls rfl (lv_room hrm) hdg ⟨hcs.1, hcs.2⟩) hS (fun q _ h => hF q h) hF (fun r1 u t H1 locs1 ht hvm hw hB hz1 hk1 hS1 => ?_)
  subst hw
  exact kk H1 locs1 ⟨fun j q hj => (hP j q hj).kept (hk1 q.1 (hP j q hj).lt (fun h => by
    rcases h with ⟨k2, e2, h2⟩ | h2
    · simp at h2
    · exact absurd (hP j q hj).lt (Nat.not_lt.mpr h2))), hD, hS1⟩
theorem cs_l {y : MethodName} {bytes : ByteArray} {maxL fr lo k index ci q0 : Nat} {rt : Option FieldType} {b : Nat} {As fs : List Value} {q : vw_C} {r : Int64} (C : Cx p s m args c cc nL own D cy cz G A) (hW : Wd D A s.heap H locs w)
    (hM : CtL l D cy cz G y bytes maxL rt fr lo (.ref b :: As) w w' r) (hq : KM y bytes maxL rt k) (hlk : Cond.methodLink own index y ∈ TB) (he : w[q0]? = some (b, .inr (ci, fs))) (hc : vwCl[ci]? = some q) (hqc : q.1 = y.cls) (hk : As.length = k) (hls : ls.size = nL) (hR : fr + 1 ≤ R.frames ∧ 8 + (maxL + 11) + lo ≤ R.locals) (hcs : cells ≤ R.cells ∧ slots ≤ R.slots) (hrm : (rest.map fun v => v.category).sum ≤ 8) (hdg : decode cc pc = .ok (.invokevirtual index, 3))
    (kk : ∀ (H1 : Heap) (locs1 : List Loc), Wd D A s.heap H1 locs1 w' → W p l e R s m args below meth c H1 locs1 cells slots Q (F0 m (pc + 3) ls (.long r :: rest))) : W p l e R s m args below meth c H locs cells slots Q (F0 m pc ls (As.reverse ++ .ref b :: rest)) := by
  have hA := C.2.2.2.2.2.2.2
  have hG := C.2.2.2.2.2.2.1
  have hF := wd_free hW hA
  obtain ⟨hP, hD, hS⟩ := hW
  obtain ⟨hx, hb, hml, hown, hts, hK, -, -⟩ := C
  refine va_calll (va_runV (C := y.cls) (As := As) (rest := rest) ⟨hx, hb, hml, hown, hts⟩ (hM H.size) (cwV k hts (gi_V hq hlk rfl) rfl rfl rfl ⟨rfl, hq.2.2.2.2.1, hq.2.2.2.2.2.1, hq.2.2.2.2.2.2⟩ hR) ⟨pw_blind, by rw [← hqc]; exact va_recv hK hP hc he, fun U hU hw => ⟨rfl, by rw [hU], by rw [hU]; exact hP, va_K.moved hw.alike hK, hD.weaken (fun _ _ _ _ => trivial), hG.1, g_at hG hS hF hU hw.alike⟩⟩ rfl hk hls rfl (lv_room hrm) hdg ⟨hcs.1, hcs.2⟩) hS (fun q _ h => hF q h) hF (fun r1 u t H1 locs1 ht hvm hw hB hz1 hk1 hS1 => ?_)
  subst hw
  exact kk H1 locs1 ⟨by rw [← ht]; exact hB.1, hB.2.2.weaken (fun _ _ _ h => hF _ h), hS1⟩
theorem cp_l {y : MethodName} {bytes : ByteArray} {maxL fr lo k index ci q0 : Nat} {rt : Option FieldType} {b : Nat} {As fs : List Value} {q : vw_C} {r : Int64} (C : Cx p s m args c cc nL own D cy cz G A) (hW : Wd D A s.heap H locs w)
    (hM : CtL l D cy cz G y bytes maxL rt fr lo (.ref b :: As) wc wc' r) (hq : KM y bytes maxL rt k) (hlk : Cond.methodLink own index y ∈ TB) (isC isR pm : List Nat) (hC : isC.map (fun i => w[i]?) = wc.map some) (hRr : isR.map (fun i => w[i]?) = wr.map some) (hn : va_nd isR = true) (hdis : ∀ i ∈ isR, i ∉ isC) (hpm : pm.map (fun i => (wr ++ wc')[i]?) = w'.map some) (hpn : va_nd pm = true) (hcn : va_nd isC = true) (he : wc[q0]? = some (b, .inr (ci, fs))) (hc : vwCl[ci]? = some q) (hqc : q.1 = y.cls) (hk : As.length = k) (hls : ls.size = nL) (hR : fr + 1 ≤ R.frames ∧ 8 + (maxL + 11) + lo ≤ R.locals) (hcs : cells ≤ R.cells ∧ slots ≤ R.slots) (hrm : (rest.map fun v => v.category).sum ≤ 8) (hdg : decode cc pc = .ok (.invokevirtual index, 3))
    (kk : ∀ (H1 : Heap) (locs1 : List Loc), Wd D A s.heap H1 locs1 w' → W p l e R s m args below meth c H1 locs1 cells slots Q (F0 m (pc + 3) ls (.long r :: rest))) : W p l e R s m args below meth c H locs cells slots Q (F0 m pc ls (As.reverse ++ .ref b :: rest)) := by
  have hA := C.2.2.2.2.2.2.2
  have hG := C.2.2.2.2.2.2.1
  have hF := va_free (wc := wc) hW.2.1 hW.2.2 hA isC hC
  obtain ⟨hP, hD, hS⟩ := hW
  obtain ⟨hx, hb, hml, hown, hts, hK, -, -⟩ := C
  have hPc : va_P D vwCl wc H := va_psub hP isC hC
  have hDc : va_D (fun _ => True) wc := va_dsub hD isC hC hcn
  refine va_calll (va_runV (C := y.cls) (As := As) (rest := rest) ⟨hx, hb, hml, hown, hts⟩ (hM H.size) (cwV k hts (gi_V hq hlk rfl) rfl rfl rfl ⟨rfl, hq.2.2.2.2.1, hq.2.2.2.2.2.1, hq.2.2.2.2.2.2⟩ hR) ⟨pw_blind, by rw [← hqc]; exact va_recv hK hPc hc he, fun U hU hw => ⟨rfl, by rw [hU], by rw [hU]; exact hPc, va_K.moved hw.alike hK, hDc, hG.1, g_at hG hS hF hU hw.alike⟩⟩ rfl hk hls rfl (lv_room hrm) hdg ⟨hcs.1, hcs.2⟩) hS (fun q _ h => hF q h) hF (fun r1 u t H1 locs1 ht hvm hw hB hz1 hk1 hS1 => ?_)
  subst hw
  have hP1 : va_P D vwCl wc' H1 := by rw [← ht]; exact hB.1
  obtain ⟨hP2, hD2⟩ := va_join (wr := wr) (w1 := wc') hP hD isC isR hC hRr hn hdis hk1 hF hP1 hB.2.2
  exact kk H1 locs1 ⟨va_psub hP2 pm hpm, hD2.sub pm hpn hpm, hS1⟩
theorem cS_l {y : MethodName} {bytes : ByteArray} {maxL fr lo k index ci q0 : Nat} {rt : Option FieldType} {b : Nat} {As fs : List Value} {q : vw_C} {r : Int64} (C : Cx p s m args c cc nL own D cy cz G A) (hW : Wd D A s.heap H locs w)
    (hM : CtL l D cy cz G y bytes maxL rt fr lo As [] [] r) (hq : KS y bytes maxL rt k) (hlk : Cond.methodLink own index y ∈ TB) (hk : As.length = k) (hls : ls.size = nL) (hR : fr + 1 ≤ R.frames ∧ 8 + (maxL + 11) + lo ≤ R.locals) (hcs : cells ≤ R.cells ∧ slots ≤ R.slots) (hrm : (rest.map fun v => v.category).sum ≤ 8) (hdg : decode cc pc = .ok (.invokestatic index, 3))
    (kk : ∀ (H1 : Heap) (locs1 : List Loc), Wd D A s.heap H1 locs1 w → W p l e R s m args below meth c H1 locs1 cells slots Q (F0 m (pc + 3) ls (.long r :: rest))) : W p l e R s m args below meth c H locs cells slots Q (F0 m pc ls (As.reverse ++ rest)) := by
  have hA := C.2.2.2.2.2.2.2
  have hG := C.2.2.2.2.2.2.1
  have hF : ∀ q, va_A [] H.size q → A q := fun q h => by
    rcases h with ⟨k, e, h⟩ | h
    · simp at h
    · exact hA q (Nat.le_trans hW.2.2.1 h)
  obtain ⟨hP, hD, hS⟩ := hW
  obtain ⟨hx, hb, hml, hown, hts, hK, -, -⟩ := C
  refine va_calll (va_runS (As := As) (rest := rest) ⟨hx, hb, hml, hown, hts⟩ (hM H.size) (va_cwS k hts (gi_S hq hlk) rfl rfl rfl ⟨hq.2.2.2.1, hq.2.2.2.2.1, hq.2.2.2.2.2⟩ hR) ⟨pw_blind, fun U hU hw => ⟨rfl, by rw [hU], by rw [hU]; exact (fun k q h => by simp at h), va_K.moved hw.alike hK, ⟨fun i j p q h => by simp at h, fun k q h => by simp at h⟩, hG.1, g_at hG hS hF hU hw.alike⟩⟩ rfl hk hls rfl (lv_room hrm) hdg ⟨hcs.1, hcs.2⟩) hS (fun q _ h => hF q h) hF (fun r1 u t H1 locs1 ht hvm hw hB hz1 hk1 hS1 => ?_)
  subst hw
  exact kk H1 locs1 ⟨fun j q hj => (hP j q hj).kept (hk1 q.1 (hP j q hj).lt (fun h => by
    rcases h with ⟨k2, e2, h2⟩ | h2
    · simp at h2
    · exact absurd (hP j q hj).lt (Nat.not_lt.mpr h2))), hD, hS1⟩
theorem cs_v {y : MethodName} {bytes : ByteArray} {maxL fr lo k index ci q0 : Nat} {rt : Option FieldType} {b : Nat} {As fs : List Value} {q : vw_C} {r : Unit} (C : Cx p s m args c cc nL own D cy cz G A) (hW : Wd D A s.heap H locs w)
    (hM : CtV l D cy cz G y bytes maxL rt fr lo (.ref b :: As) w w' r) (hq : KM y bytes maxL rt k) (hlk : Cond.methodLink own index y ∈ TB) (he : w[q0]? = some (b, .inr (ci, fs))) (hc : vwCl[ci]? = some q) (hqc : q.1 = y.cls) (hk : As.length = k) (hls : ls.size = nL) (hR : fr + 1 ≤ R.frames ∧ 8 + (maxL + 11) + lo ≤ R.locals) (hcs : cells ≤ R.cells ∧ slots ≤ R.slots) (hrm : (rest.map fun v => v.category).sum ≤ 8) (hdg : decode cc pc = .ok (.invokevirtual index, 3))
    (kk : ∀ (H1 : Heap) (locs1 : List Loc), Wd D A s.heap H1 locs1 w' → W p l e R s m args below meth c H1 locs1 cells slots Q (F0 m (pc + 3) ls (rest))) : W p l e R s m args below meth c H locs cells slots Q (F0 m pc ls (As.reverse ++ .ref b :: rest)) := by
  have hA := C.2.2.2.2.2.2.2
  have hG := C.2.2.2.2.2.2.1
  have hF := wd_free hW hA
  obtain ⟨hP, hD, hS⟩ := hW
  obtain ⟨hx, hb, hml, hown, hts, hK, -, -⟩ := C
  refine va_callv (va_runV (C := y.cls) (As := As) (rest := rest) ⟨hx, hb, hml, hown, hts⟩ (hM H.size) (cwV k hts (gi_V hq hlk rfl) rfl rfl rfl ⟨rfl, hq.2.2.2.2.1, hq.2.2.2.2.2.1, hq.2.2.2.2.2.2⟩ hR) ⟨pw_blind, by rw [← hqc]; exact va_recv hK hP hc he, fun U hU hw => ⟨rfl, by rw [hU], by rw [hU]; exact hP, va_K.moved hw.alike hK, hD.weaken (fun _ _ _ _ => trivial), hG.1, g_at hG hS hF hU hw.alike⟩⟩ rfl hk hls rfl (lv_room hrm) hdg ⟨hcs.1, hcs.2⟩) hS (fun q _ h => hF q h) hF (fun u t H1 locs1 ht hvm hw hB hz1 hk1 hS1 => ?_)
  exact kk H1 locs1 ⟨by rw [← ht]; exact hB.1, hB.2.2.weaken (fun _ _ _ h => hF _ h), hS1⟩
theorem cp_v {y : MethodName} {bytes : ByteArray} {maxL fr lo k index ci q0 : Nat} {rt : Option FieldType} {b : Nat} {As fs : List Value} {q : vw_C} {r : Unit} (C : Cx p s m args c cc nL own D cy cz G A) (hW : Wd D A s.heap H locs w)
    (hM : CtV l D cy cz G y bytes maxL rt fr lo (.ref b :: As) wc wc' r) (hq : KM y bytes maxL rt k) (hlk : Cond.methodLink own index y ∈ TB) (isC isR pm : List Nat) (hC : isC.map (fun i => w[i]?) = wc.map some) (hRr : isR.map (fun i => w[i]?) = wr.map some) (hn : va_nd isR = true) (hdis : ∀ i ∈ isR, i ∉ isC) (hpm : pm.map (fun i => (wr ++ wc')[i]?) = w'.map some) (hpn : va_nd pm = true) (hcn : va_nd isC = true) (he : wc[q0]? = some (b, .inr (ci, fs))) (hc : vwCl[ci]? = some q) (hqc : q.1 = y.cls) (hk : As.length = k) (hls : ls.size = nL) (hR : fr + 1 ≤ R.frames ∧ 8 + (maxL + 11) + lo ≤ R.locals) (hcs : cells ≤ R.cells ∧ slots ≤ R.slots) (hrm : (rest.map fun v => v.category).sum ≤ 8) (hdg : decode cc pc = .ok (.invokevirtual index, 3))
    (kk : ∀ (H1 : Heap) (locs1 : List Loc), Wd D A s.heap H1 locs1 w' → W p l e R s m args below meth c H1 locs1 cells slots Q (F0 m (pc + 3) ls (rest))) : W p l e R s m args below meth c H locs cells slots Q (F0 m pc ls (As.reverse ++ .ref b :: rest)) := by
  have hA := C.2.2.2.2.2.2.2
  have hG := C.2.2.2.2.2.2.1
  have hF := va_free (wc := wc) hW.2.1 hW.2.2 hA isC hC
  obtain ⟨hP, hD, hS⟩ := hW
  obtain ⟨hx, hb, hml, hown, hts, hK, -, -⟩ := C
  have hPc : va_P D vwCl wc H := va_psub hP isC hC
  have hDc : va_D (fun _ => True) wc := va_dsub hD isC hC hcn
  refine va_callv (va_runV (C := y.cls) (As := As) (rest := rest) ⟨hx, hb, hml, hown, hts⟩ (hM H.size) (cwV k hts (gi_V hq hlk rfl) rfl rfl rfl ⟨rfl, hq.2.2.2.2.1, hq.2.2.2.2.2.1, hq.2.2.2.2.2.2⟩ hR) ⟨pw_blind, by rw [← hqc]; exact va_recv hK hPc hc he, fun U hU hw => ⟨rfl, by rw [hU], by rw [hU]; exact hPc, va_K.moved hw.alike hK, hDc, hG.1, g_at hG hS hF hU hw.alike⟩⟩ rfl hk hls rfl (lv_room hrm) hdg ⟨hcs.1, hcs.2⟩) hS (fun q _ h => hF q h) hF (fun u t H1 locs1 ht hvm hw hB hz1 hk1 hS1 => ?_)
  have hP1 : va_P D vwCl wc' H1 := by rw [← ht]; exact hB.1
  obtain ⟨hP2, hD2⟩ := va_join (wr := wr) (w1 := wc') hP hD isC isR hC hRr hn hdis hk1 hF hP1 hB.2.2
  exact kk H1 locs1 ⟨va_psub hP2 pm hpm, hD2.sub pm hpn hpm, hS1⟩
theorem cS_v {y : MethodName} {bytes : ByteArray} {maxL fr lo k index ci q0 : Nat} {rt : Option FieldType} {b : Nat} {As fs : List Value} {q : vw_C} {r : Unit} (C : Cx p s m args c cc nL own D cy cz G A) (hW : Wd D A s.heap H locs w)
    (hM : CtV l D cy cz G y bytes maxL rt fr lo As [] [] r) (hq : KS y bytes maxL rt k) (hlk : Cond.methodLink own index y ∈ TB) (hk : As.length = k) (hls : ls.size = nL) (hR : fr + 1 ≤ R.frames ∧ 8 + (maxL + 11) + lo ≤ R.locals) (hcs : cells ≤ R.cells ∧ slots ≤ R.slots) (hrm : (rest.map fun v => v.category).sum ≤ 8) (hdg : decode cc pc = .ok (.invokestatic index, 3))
    (kk : ∀ (H1 : Heap) (locs1 : List Loc), Wd D A s.heap H1 locs1 w → W p l e R s m args below meth c H1 locs1 cells slots Q (F0 m (pc + 3) ls (rest))) : W p l e R s m args below meth c H locs cells slots Q (F0 m pc ls (As.reverse ++ rest)) := by
  have hA := C.2.2.2.2.2.2.2
  have hG := C.2.2.2.2.2.2.1
  have hF : ∀ q, va_A [] H.size q → A q := fun q h => by
    rcases h with ⟨k, e, h⟩ | h
    · simp at h
    · exact hA q (Nat.le_trans hW.2.2.1 h)
  obtain ⟨hP, hD, hS⟩ := hW
  obtain ⟨hx, hb, hml, hown, hts, hK, -, -⟩ := C
  refine va_callv (va_runS (As := As) (rest := rest) ⟨hx, hb, hml, hown, hts⟩ (hM H.size) (va_cwS k hts (gi_S hq hlk) rfl rfl rfl ⟨hq.2.2.2.1, hq.2.2.2.2.1, hq.2.2.2.2.2⟩ hR) ⟨pw_blind, fun U hU hw => ⟨rfl, by rw [hU], by rw [hU]; exact (fun k q h => by simp at h), va_K.moved hw.alike hK, ⟨fun i j p q h => by simp at h, fun k q h => by simp at h⟩, hG.1, g_at hG hS hF hU hw.alike⟩⟩ rfl hk hls rfl (lv_room hrm) hdg ⟨hcs.1, hcs.2⟩) hS (fun q _ h => hF q h) hF (fun u t H1 locs1 ht hvm hw hB hz1 hk1 hS1 => ?_)
  exact kk H1 locs1 ⟨fun j q hj => (hP j q hj).kept (hk1 q.1 (hP j q hj).lt (fun h => by
    rcases h with ⟨k2, e2, h2⟩ | h2
    · simp at h2
    · exact absurd (hP j q hj).lt (Nat.not_lt.mpr h2))), hD, hS1⟩
end BASE
end
