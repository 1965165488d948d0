-- ===== PART A: goes FIRST, ahead of the names: the tables' words, and 'selects' of the private methods out of them =====
/-- a private method of a class that the tables say can be made, by its rows of tables_1 -/
def lw_okq (q : MethodName × Nat) : Prop := (q.1.cls ≠ "java/lang/invoke/MethodHandle" ∧ q.1.cls ≠ "java/lang/invoke/VarHandle") ∧ Cond.instantiable q.1.cls q.2 ∈ tables_1 ∧ Cond.privateMethod q.1 ∈ tables_1 ∧ Cond.instanceMethod q.1 ∈ tables_1
theorem lw_p0 : lw_okq (⟨"DeflateEffort$CodeSet", "measure", "()V"⟩, 6) := ⟨⟨by decide +kernel, by decide +kernel⟩, List.mem_of_getElem? (i := 328) (by decide +kernel), List.mem_of_getElem? (i := 368) (by decide +kernel), List.mem_of_getElem? (i := 369) (by decide +kernel)⟩
theorem lw_p1 : lw_okq (⟨"DeflateEffort$Cutter", "tryBlock", "(II)I"⟩, 12) := ⟨⟨by decide +kernel, by decide +kernel⟩, List.mem_of_getElem? (i := 73) (by decide +kernel), List.mem_of_getElem? (i := 467) (by decide +kernel), List.mem_of_getElem? (i := 468) (by decide +kernel)⟩
theorem lw_p2 : lw_okq (⟨"DeflateEffort$Matches", "longestAt", "(III)I"⟩, 5) := ⟨⟨by decide +kernel, by decide +kernel⟩, List.mem_of_getElem? (i := 211) (by decide +kernel), List.mem_of_getElem? (i := 485) (by decide +kernel), List.mem_of_getElem? (i := 486) (by decide +kernel)⟩
theorem lw_p3 : lw_okq (⟨"DeflateEffort$Matches", "sameThree", "(II)Z"⟩, 5) := ⟨⟨by decide +kernel, by decide +kernel⟩, List.mem_of_getElem? (i := 211) (by decide +kernel), List.mem_of_getElem? (i := 489) (by decide +kernel), List.mem_of_getElem? (i := 490) (by decide +kernel)⟩
theorem lw_p4 : lw_okq (⟨"DeflateEffort$Matches", "sameBytes", "(IIII)I"⟩, 5) := ⟨⟨by decide +kernel, by decide +kernel⟩, List.mem_of_getElem? (i := 211) (by decide +kernel), List.mem_of_getElem? (i := 493) (by decide +kernel), List.mem_of_getElem? (i := 494) (by decide +kernel)⟩
theorem lw_p5 : lw_okq (⟨"DeflateEffort$Cutter", "chooseByMatches", "(II)V"⟩, 12) := ⟨⟨by decide +kernel, by decide +kernel⟩, List.mem_of_getElem? (i := 73) (by decide +kernel), List.mem_of_getElem? (i := 500) (by decide +kernel), List.mem_of_getElem? (i := 501) (by decide +kernel)⟩
theorem lw_p6 : lw_okq (⟨"DeflateEffort$Cutter", "addTokens", "(LDeflateEffort$Plan;II)V"⟩, 12) := ⟨⟨by decide +kernel, by decide +kernel⟩, List.mem_of_getElem? (i := 73) (by decide +kernel), List.mem_of_getElem? (i := 512) (by decide +kernel), List.mem_of_getElem? (i := 513) (by decide +kernel)⟩
theorem lw_p7 : lw_okq (⟨"DeflateEffort$Joiner", "sort", "([I)I"⟩, 3) := ⟨⟨by decide +kernel, by decide +kernel⟩, List.mem_of_getElem? (i := 79) (by decide +kernel), List.mem_of_getElem? (i := 550) (by decide +kernel), List.mem_of_getElem? (i := 551) (by decide +kernel)⟩
theorem lw_p8 : lw_okq (⟨"DeflateEffort$Joiner", "joinInOrder", "([II)V"⟩, 3) := ⟨⟨by decide +kernel, by decide +kernel⟩, List.mem_of_getElem? (i := 79) (by decide +kernel), List.mem_of_getElem? (i := 554) (by decide +kernel), List.mem_of_getElem? (i := 555) (by decide +kernel)⟩
theorem lw_p9 : lw_okq (⟨"DeflateEffort$Joiner", "tellDepths", "([II)V"⟩, 3) := ⟨⟨by decide +kernel, by decide +kernel⟩, List.mem_of_getElem? (i := 79) (by decide +kernel), List.mem_of_getElem? (i := 558) (by decide +kernel), List.mem_of_getElem? (i := 559) (by decide +kernel)⟩
theorem lw_p10 : lw_okq (⟨"DeflateEffort$LengthRow", "tellEqual", "(II)V"⟩, 6) := ⟨⟨by decide +kernel, by decide +kernel⟩, List.mem_of_getElem? (i := 95) (by decide +kernel), List.mem_of_getElem? (i := 571) (by decide +kernel), List.mem_of_getElem? (i := 572) (by decide +kernel)⟩
theorem lw_p11 : lw_okq (⟨"DeflateEffort$LengthRow", "tellSymbol", "(II)V"⟩, 6) := ⟨⟨by decide +kernel, by decide +kernel⟩, List.mem_of_getElem? (i := 95) (by decide +kernel), List.mem_of_getElem? (i := 576) (by decide +kernel), List.mem_of_getElem? (i := 577) (by decide +kernel)⟩
theorem lw_p12 : lw_okq (⟨"DeflateEffort$Plan", "extraBits", "()I"⟩, 7) := ⟨⟨by decide +kernel, by decide +kernel⟩, List.mem_of_getElem? (i := 166) (by decide +kernel), List.mem_of_getElem? (i := 596) (by decide +kernel), List.mem_of_getElem? (i := 597) (by decide +kernel)⟩
theorem lw_p13 : lw_okq (⟨"DeflateEffort$Plan", "fixedBits", "()I"⟩, 7) := ⟨⟨by decide +kernel, by decide +kernel⟩, List.mem_of_getElem? (i := 166) (by decide +kernel), List.mem_of_getElem? (i := 607) (by decide +kernel), List.mem_of_getElem? (i := 608) (by decide +kernel)⟩
theorem lw_p14 : lw_okq (⟨"DeflateEffort$Plan", "takeFewer", "(II)V"⟩, 7) := ⟨⟨by decide +kernel, by decide +kernel⟩, List.mem_of_getElem? (i := 166) (by decide +kernel), List.mem_of_getElem? (i := 612) (by decide +kernel), List.mem_of_getElem? (i := 613) (by decide +kernel)⟩
theorem lw_p15 : lw_okq (⟨"DeflateEffort$Plan", "ownBits", "()I"⟩, 7) := ⟨⟨by decide +kernel, by decide +kernel⟩, List.mem_of_getElem? (i := 166) (by decide +kernel), List.mem_of_getElem? (i := 627) (by decide +kernel), List.mem_of_getElem? (i := 628) (by decide +kernel)⟩
def lw_privs_1 : List (MethodName × Nat) := [(⟨"DeflateEffort$CodeSet", "measure", "()V"⟩, 6), (⟨"DeflateEffort$Cutter", "tryBlock", "(II)I"⟩, 12), (⟨"DeflateEffort$Matches", "longestAt", "(III)I"⟩, 5), (⟨"DeflateEffort$Matches", "sameThree", "(II)Z"⟩, 5), (⟨"DeflateEffort$Matches", "sameBytes", "(IIII)I"⟩, 5), (⟨"DeflateEffort$Cutter", "chooseByMatches", "(II)V"⟩, 12), (⟨"DeflateEffort$Cutter", "addTokens", "(LDeflateEffort$Plan;II)V"⟩, 12), (⟨"DeflateEffort$Joiner", "sort", "([I)I"⟩, 3), (⟨"DeflateEffort$Joiner", "joinInOrder", "([II)V"⟩, 3), (⟨"DeflateEffort$Joiner", "tellDepths", "([II)V"⟩, 3), (⟨"DeflateEffort$LengthRow", "tellEqual", "(II)V"⟩, 6), (⟨"DeflateEffort$LengthRow", "tellSymbol", "(II)V"⟩, 6), (⟨"DeflateEffort$Plan", "extraBits", "()I"⟩, 7), (⟨"DeflateEffort$Plan", "fixedBits", "()I"⟩, 7), (⟨"DeflateEffort$Plan", "takeFewer", "(II)V"⟩, 7), (⟨"DeflateEffort$Plan", "ownBits", "()I"⟩, 7)]
theorem lw_r1 : ∀ q ∈ lw_privs_1, lw_okq q := List.forall_mem_cons.mpr ⟨lw_p0, List.forall_mem_cons.mpr ⟨lw_p1, List.forall_mem_cons.mpr ⟨lw_p2, List.forall_mem_cons.mpr ⟨lw_p3, List.forall_mem_cons.mpr ⟨lw_p4, List.forall_mem_cons.mpr ⟨lw_p5, List.forall_mem_cons.mpr ⟨lw_p6, List.forall_mem_cons.mpr ⟨lw_p7, List.forall_mem_cons.mpr ⟨lw_p8, List.forall_mem_cons.mpr ⟨lw_p9, List.forall_mem_cons.mpr ⟨lw_p10, List.forall_mem_cons.mpr ⟨lw_p11, List.forall_mem_cons.mpr ⟨lw_p12, List.forall_mem_cons.mpr ⟨lw_p13, List.forall_mem_cons.mpr ⟨lw_p14, List.forall_mem_cons.mpr ⟨lw_p15, fun _ h => absurd h List.not_mem_nil⟩⟩⟩⟩⟩⟩⟩⟩⟩⟩⟩⟩⟩⟩⟩⟩
theorem lw_p16 : lw_okq (⟨"java/lang/Throwable", "fillInStackTrace", "(I)Ljava/lang/Throwable;"⟩, 6) := ⟨⟨by decide +kernel, by decide +kernel⟩, List.mem_of_getElem? (i := 685) (by decide +kernel), List.mem_of_getElem? (i := 683) (by decide +kernel), List.mem_of_getElem? (i := 684) (by decide +kernel)⟩
theorem lw_p17 : lw_okq (⟨"DeflateEffort$Cutter", "takeBest", "(I)V"⟩, 12) := ⟨⟨by decide +kernel, by decide +kernel⟩, List.mem_of_getElem? (i := 73) (by decide +kernel), List.mem_of_getElem? (i := 989) (by decide +kernel), List.mem_of_getElem? (i := 990) (by decide +kernel)⟩
theorem lw_p18 : lw_okq (⟨"DeflateEffort$Writer", "putBits", "(II)V"⟩, 6) := ⟨⟨by decide +kernel, by decide +kernel⟩, List.mem_of_getElem? (i := 41) (by decide +kernel), List.mem_of_getElem? (i := 1006) (by decide +kernel), List.mem_of_getElem? (i := 1007) (by decide +kernel)⟩
theorem lw_p19 : lw_okq (⟨"DeflateEffort$Writer", "putBit", "(I)V"⟩, 6) := ⟨⟨by decide +kernel, by decide +kernel⟩, List.mem_of_getElem? (i := 41) (by decide +kernel), List.mem_of_getElem? (i := 1010) (by decide +kernel), List.mem_of_getElem? (i := 1011) (by decide +kernel)⟩
theorem lw_p20 : lw_okq (⟨"DeflateEffort$Writer", "giveCodes", "([I[I)V"⟩, 6) := ⟨⟨by decide +kernel, by decide +kernel⟩, List.mem_of_getElem? (i := 41) (by decide +kernel), List.mem_of_getElem? (i := 1022) (by decide +kernel), List.mem_of_getElem? (i := 1023) (by decide +kernel)⟩
theorem lw_p21 : lw_okq (⟨"DeflateEffort$Writer", "putRow", "(LDeflateEffort$LengthRow;)V"⟩, 6) := ⟨⟨by decide +kernel, by decide +kernel⟩, List.mem_of_getElem? (i := 41) (by decide +kernel), List.mem_of_getElem? (i := 1026) (by decide +kernel), List.mem_of_getElem? (i := 1027) (by decide +kernel)⟩
theorem lw_p22 : lw_okq (⟨"DeflateEffort$Writer", "putCode", "(II)V"⟩, 6) := ⟨⟨by decide +kernel, by decide +kernel⟩, List.mem_of_getElem? (i := 41) (by decide +kernel), List.mem_of_getElem? (i := 1032) (by decide +kernel), List.mem_of_getElem? (i := 1033) (by decide +kernel)⟩
theorem lw_p23 : lw_okq (⟨"DeflateEffort$Writer", "putLiteral", "(LDeflateEffort$Plan;ZI)V"⟩, 6) := ⟨⟨by decide +kernel, by decide +kernel⟩, List.mem_of_getElem? (i := 41) (by decide +kernel), List.mem_of_getElem? (i := 1042) (by decide +kernel), List.mem_of_getElem? (i := 1043) (by decide +kernel)⟩
theorem lw_p24 : lw_okq (⟨"DeflateEffort$Writer", "putMatch", "(LDeflateEffort$Plan;ZII)V"⟩, 6) := ⟨⟨by decide +kernel, by decide +kernel⟩, List.mem_of_getElem? (i := 41) (by decide +kernel), List.mem_of_getElem? (i := 1051) (by decide +kernel), List.mem_of_getElem? (i := 1052) (by decide +kernel)⟩
theorem lw_p25 : lw_okq (⟨"DeflateEffort$Reader", "readBlock", "()V"⟩, 16) := ⟨⟨by decide +kernel, by decide +kernel⟩, List.mem_of_getElem? (i := 322) (by decide +kernel), List.mem_of_getElem? (i := 1078) (by decide +kernel), List.mem_of_getElem? (i := 1079) (by decide +kernel)⟩
theorem lw_p26 : lw_okq (⟨"DeflateEffort$Reader", "takeBits", "(I)I"⟩, 16) := ⟨⟨by decide +kernel, by decide +kernel⟩, List.mem_of_getElem? (i := 322) (by decide +kernel), List.mem_of_getElem? (i := 1082) (by decide +kernel), List.mem_of_getElem? (i := 1083) (by decide +kernel)⟩
theorem lw_p27 : lw_okq (⟨"DeflateEffort$Reader", "readStored", "()V"⟩, 16) := ⟨⟨by decide +kernel, by decide +kernel⟩, List.mem_of_getElem? (i := 322) (by decide +kernel), List.mem_of_getElem? (i := 1086) (by decide +kernel), List.mem_of_getElem? (i := 1087) (by decide +kernel)⟩
theorem lw_p28 : lw_okq (⟨"DeflateEffort$Reader", "breakAt", "(I)V"⟩, 16) := ⟨⟨by decide +kernel, by decide +kernel⟩, List.mem_of_getElem? (i := 322) (by decide +kernel), List.mem_of_getElem? (i := 1091) (by decide +kernel), List.mem_of_getElem? (i := 1092) (by decide +kernel)⟩
theorem lw_p29 : lw_okq (⟨"DeflateEffort$Reader", "addByte", "(I)V"⟩, 16) := ⟨⟨by decide +kernel, by decide +kernel⟩, List.mem_of_getElem? (i := 322) (by decide +kernel), List.mem_of_getElem? (i := 1095) (by decide +kernel), List.mem_of_getElem? (i := 1096) (by decide +kernel)⟩
theorem lw_p30 : lw_okq (⟨"DeflateEffort$Reader", "readSymbols", "(LDeflateEffort$CodeSet;LDeflateEffort$CodeSet;)V"⟩, 16) := ⟨⟨by decide +kernel, by decide +kernel⟩, List.mem_of_getElem? (i := 322) (by decide +kernel), List.mem_of_getElem? (i := 1099) (by decide +kernel), List.mem_of_getElem? (i := 1100) (by decide +kernel)⟩
theorem lw_p31 : lw_okq (⟨"DeflateEffort$Reader", "findSymbol", "(LDeflateEffort$CodeSet;)I"⟩, 16) := ⟨⟨by decide +kernel, by decide +kernel⟩, List.mem_of_getElem? (i := 322) (by decide +kernel), List.mem_of_getElem? (i := 1103) (by decide +kernel), List.mem_of_getElem? (i := 1104) (by decide +kernel)⟩
def lw_privs_2 : List (MethodName × Nat) := [(⟨"java/lang/Throwable", "fillInStackTrace", "(I)Ljava/lang/Throwable;"⟩, 6), (⟨"DeflateEffort$Cutter", "takeBest", "(I)V"⟩, 12), (⟨"DeflateEffort$Writer", "putBits", "(II)V"⟩, 6), (⟨"DeflateEffort$Writer", "putBit", "(I)V"⟩, 6), (⟨"DeflateEffort$Writer", "giveCodes", "([I[I)V"⟩, 6), (⟨"DeflateEffort$Writer", "putRow", "(LDeflateEffort$LengthRow;)V"⟩, 6), (⟨"DeflateEffort$Writer", "putCode", "(II)V"⟩, 6), (⟨"DeflateEffort$Writer", "putLiteral", "(LDeflateEffort$Plan;ZI)V"⟩, 6), (⟨"DeflateEffort$Writer", "putMatch", "(LDeflateEffort$Plan;ZII)V"⟩, 6), (⟨"DeflateEffort$Reader", "readBlock", "()V"⟩, 16), (⟨"DeflateEffort$Reader", "takeBits", "(I)I"⟩, 16), (⟨"DeflateEffort$Reader", "readStored", "()V"⟩, 16), (⟨"DeflateEffort$Reader", "breakAt", "(I)V"⟩, 16), (⟨"DeflateEffort$Reader", "addByte", "(I)V"⟩, 16), (⟨"DeflateEffort$Reader", "readSymbols", "(LDeflateEffort$CodeSet;LDeflateEffort$CodeSet;)V"⟩, 16), (⟨"DeflateEffort$Reader", "findSymbol", "(LDeflateEffort$CodeSet;)I"⟩, 16)]
theorem lw_r2 : ∀ q ∈ lw_privs_2, lw_okq q := List.forall_mem_cons.mpr ⟨lw_p16, List.forall_mem_cons.mpr ⟨lw_p17, List.forall_mem_cons.mpr ⟨lw_p18, List.forall_mem_cons.mpr ⟨lw_p19, List.forall_mem_cons.mpr ⟨lw_p20, List.forall_mem_cons.mpr ⟨lw_p21, List.forall_mem_cons.mpr ⟨lw_p22, List.forall_mem_cons.mpr ⟨lw_p23, List.forall_mem_cons.mpr ⟨lw_p24, List.forall_mem_cons.mpr ⟨lw_p25, List.forall_mem_cons.mpr ⟨lw_p26, List.forall_mem_cons.mpr ⟨lw_p27, List.forall_mem_cons.mpr ⟨lw_p28, List.forall_mem_cons.mpr ⟨lw_p29, List.forall_mem_cons.mpr ⟨lw_p30, List.forall_mem_cons.mpr ⟨lw_p31, fun _ h => absurd h List.not_mem_nil⟩⟩⟩⟩⟩⟩⟩⟩⟩⟩⟩⟩⟩⟩⟩⟩
theorem lw_p32 : lw_okq (⟨"DeflateEffort$Reader", "readMatch", "(IILDeflateEffort$CodeSet;)V"⟩, 16) := ⟨⟨by decide +kernel, by decide +kernel⟩, List.mem_of_getElem? (i := 322) (by decide +kernel), List.mem_of_getElem? (i := 1107) (by decide +kernel), List.mem_of_getElem? (i := 1108) (by decide +kernel)⟩
theorem lw_p33 : lw_okq (⟨"DeflateEffort$Reader", "readNumbers", "()V"⟩, 16) := ⟨⟨by decide +kernel, by decide +kernel⟩, List.mem_of_getElem? (i := 322) (by decide +kernel), List.mem_of_getElem? (i := 1115) (by decide +kernel), List.mem_of_getElem? (i := 1116) (by decide +kernel)⟩
theorem lw_p34 : lw_okq (⟨"DeflateEffort$Reader", "readLengthsCode", "()V"⟩, 16) := ⟨⟨by decide +kernel, by decide +kernel⟩, List.mem_of_getElem? (i := 322) (by decide +kernel), List.mem_of_getElem? (i := 1119) (by decide +kernel), List.mem_of_getElem? (i := 1120) (by decide +kernel)⟩
theorem lw_p35 : lw_okq (⟨"DeflateEffort$Reader", "readRow", "()V"⟩, 16) := ⟨⟨by decide +kernel, by decide +kernel⟩, List.mem_of_getElem? (i := 322) (by decide +kernel), List.mem_of_getElem? (i := 1128) (by decide +kernel), List.mem_of_getElem? (i := 1129) (by decide +kernel)⟩
theorem lw_p36 : lw_okq (⟨"DeflateEffort$Reader", "readLengths", "(II)I"⟩, 16) := ⟨⟨by decide +kernel, by decide +kernel⟩, List.mem_of_getElem? (i := 322) (by decide +kernel), List.mem_of_getElem? (i := 1132) (by decide +kernel), List.mem_of_getElem? (i := 1133) (by decide +kernel)⟩
theorem lw_p37 : lw_okq (⟨"DeflateEffortModel", "cut", "(I)I"⟩, 57) := ⟨⟨by decide +kernel, by decide +kernel⟩, List.mem_of_getElem? (i := 1276) (by decide +kernel), List.mem_of_getElem? (i := 1469) (by decide +kernel), List.mem_of_getElem? (i := 1470) (by decide +kernel)⟩
theorem lw_p38 : lw_okq (⟨"DeflateEffortModel", "makeBlock", "(IIZ)V"⟩, 57) := ⟨⟨by decide +kernel, by decide +kernel⟩, List.mem_of_getElem? (i := 1276) (by decide +kernel), List.mem_of_getElem? (i := 1473) (by decide +kernel), List.mem_of_getElem? (i := 1474) (by decide +kernel)⟩
theorem lw_p39 : lw_okq (⟨"DeflateEffortModel", "findMatch", "(IIZ)V"⟩, 57) := ⟨⟨by decide +kernel, by decide +kernel⟩, List.mem_of_getElem? (i := 1276) (by decide +kernel), List.mem_of_getElem? (i := 1477) (by decide +kernel), List.mem_of_getElem? (i := 1478) (by decide +kernel)⟩
theorem lw_p40 : lw_okq (⟨"DeflateEffortModel", "firstTokens", "(II)V"⟩, 57) := ⟨⟨by decide +kernel, by decide +kernel⟩, List.mem_of_getElem? (i := 1276) (by decide +kernel), List.mem_of_getElem? (i := 1481) (by decide +kernel), List.mem_of_getElem? (i := 1482) (by decide +kernel)⟩
theorem lw_p41 : lw_okq (⟨"DeflateEffortModel", "addToken", "(II)V"⟩, 57) := ⟨⟨by decide +kernel, by decide +kernel⟩, List.mem_of_getElem? (i := 1276) (by decide +kernel), List.mem_of_getElem? (i := 1485) (by decide +kernel), List.mem_of_getElem? (i := 1486) (by decide +kernel)⟩
theorem lw_p42 : lw_okq (⟨"DeflateEffortModel", "weigh", "(II)V"⟩, 57) := ⟨⟨by decide +kernel, by decide +kernel⟩, List.mem_of_getElem? (i := 1276) (by decide +kernel), List.mem_of_getElem? (i := 1489) (by decide +kernel), List.mem_of_getElem? (i := 1490) (by decide +kernel)⟩
theorem lw_p43 : lw_okq (⟨"DeflateEffortModel", "fixedCodes", "()V"⟩, 57) := ⟨⟨by decide +kernel, by decide +kernel⟩, List.mem_of_getElem? (i := 1276) (by decide +kernel), List.mem_of_getElem? (i := 1493) (by decide +kernel), List.mem_of_getElem? (i := 1494) (by decide +kernel)⟩
theorem lw_p44 : lw_okq (⟨"DeflateEffortModel", "bitsOfTokens", "(I)I"⟩, 57) := ⟨⟨by decide +kernel, by decide +kernel⟩, List.mem_of_getElem? (i := 1276) (by decide +kernel), List.mem_of_getElem? (i := 1497) (by decide +kernel), List.mem_of_getElem? (i := 1498) (by decide +kernel)⟩
theorem lw_p45 : lw_okq (⟨"DeflateEffortModel", "ownCodes", "(I)V"⟩, 57) := ⟨⟨by decide +kernel, by decide +kernel⟩, List.mem_of_getElem? (i := 1276) (by decide +kernel), List.mem_of_getElem? (i := 1516) (by decide +kernel), List.mem_of_getElem? (i := 1517) (by decide +kernel)⟩
theorem lw_p46 : lw_okq (⟨"DeflateEffortModel", "countTokens", "(I)V"⟩, 57) := ⟨⟨by decide +kernel, by decide +kernel⟩, List.mem_of_getElem? (i := 1276) (by decide +kernel), List.mem_of_getElem? (i := 1520) (by decide +kernel), List.mem_of_getElem? (i := 1521) (by decide +kernel)⟩
theorem lw_p47 : lw_okq (⟨"DeflateEffortModel", "join", "([II[I)V"⟩, 57) := ⟨⟨by decide +kernel, by decide +kernel⟩, List.mem_of_getElem? (i := 1276) (by decide +kernel), List.mem_of_getElem? (i := 1524) (by decide +kernel), List.mem_of_getElem? (i := 1525) (by decide +kernel)⟩
def lw_privs_3 : List (MethodName × Nat) := [(⟨"DeflateEffort$Reader", "readMatch", "(IILDeflateEffort$CodeSet;)V"⟩, 16), (⟨"DeflateEffort$Reader", "readNumbers", "()V"⟩, 16), (⟨"DeflateEffort$Reader", "readLengthsCode", "()V"⟩, 16), (⟨"DeflateEffort$Reader", "readRow", "()V"⟩, 16), (⟨"DeflateEffort$Reader", "readLengths", "(II)I"⟩, 16), (⟨"DeflateEffortModel", "cut", "(I)I"⟩, 57), (⟨"DeflateEffortModel", "makeBlock", "(IIZ)V"⟩, 57), (⟨"DeflateEffortModel", "findMatch", "(IIZ)V"⟩, 57), (⟨"DeflateEffortModel", "firstTokens", "(II)V"⟩, 57), (⟨"DeflateEffortModel", "addToken", "(II)V"⟩, 57), (⟨"DeflateEffortModel", "weigh", "(II)V"⟩, 57), (⟨"DeflateEffortModel", "fixedCodes", "()V"⟩, 57), (⟨"DeflateEffortModel", "bitsOfTokens", "(I)I"⟩, 57), (⟨"DeflateEffortModel", "ownCodes", "(I)V"⟩, 57), (⟨"DeflateEffortModel", "countTokens", "(I)V"⟩, 57), (⟨"DeflateEffortModel", "join", "([II[I)V"⟩, 57)]
theorem lw_r3 : ∀ q ∈ lw_privs_3, lw_okq q := List.forall_mem_cons.mpr ⟨lw_p32, List.forall_mem_cons.mpr ⟨lw_p33, List.forall_mem_cons.mpr ⟨lw_p34, List.forall_mem_cons.mpr ⟨lw_p35, List.forall_mem_cons.mpr ⟨lw_p36, List.forall_mem_cons.mpr ⟨lw_p37, List.forall_mem_cons.mpr ⟨lw_p38, List.forall_mem_cons.mpr ⟨lw_p39, List.forall_mem_cons.mpr ⟨lw_p40, List.forall_mem_cons.mpr ⟨lw_p41, List.forall_mem_cons.mpr ⟨lw_p42, List.forall_mem_cons.mpr ⟨lw_p43, List.forall_mem_cons.mpr ⟨lw_p44, List.forall_mem_cons.mpr ⟨lw_p45, List.forall_mem_cons.mpr ⟨lw_p46, List.forall_mem_cons.mpr ⟨lw_p47, fun _ h => absurd h List.not_mem_nil⟩⟩⟩⟩⟩⟩⟩⟩⟩⟩⟩⟩⟩⟩⟩⟩
theorem lw_p48 : lw_okq (⟨"DeflateEffortModel", "least", "(II)I"⟩, 57) := ⟨⟨by decide +kernel, by decide +kernel⟩, List.mem_of_getElem? (i := 1276) (by decide +kernel), List.mem_of_getElem? (i := 1528) (by decide +kernel), List.mem_of_getElem? (i := 1529) (by decide +kernel)⟩
theorem lw_p49 : lw_okq (⟨"DeflateEffortModel", "lengthInRow", "(I)I"⟩, 57) := ⟨⟨by decide +kernel, by decide +kernel⟩, List.mem_of_getElem? (i := 1276) (by decide +kernel), List.mem_of_getElem? (i := 1532) (by decide +kernel), List.mem_of_getElem? (i := 1533) (by decide +kernel)⟩
theorem lw_p50 : lw_okq (⟨"DeflateEffortModel", "addRun", "(II)V"⟩, 57) := ⟨⟨by decide +kernel, by decide +kernel⟩, List.mem_of_getElem? (i := 1276) (by decide +kernel), List.mem_of_getElem? (i := 1536) (by decide +kernel), List.mem_of_getElem? (i := 1537) (by decide +kernel)⟩
theorem lw_p51 : lw_okq (⟨"DeflateEffortModel", "addRow", "(II)V"⟩, 57) := ⟨⟨by decide +kernel, by decide +kernel⟩, List.mem_of_getElem? (i := 1276) (by decide +kernel), List.mem_of_getElem? (i := 1540) (by decide +kernel), List.mem_of_getElem? (i := 1541) (by decide +kernel)⟩
theorem lw_p52 : lw_okq (⟨"DeflateEffortModel", "isLong", "()Z"⟩, 57) := ⟨⟨by decide +kernel, by decide +kernel⟩, List.mem_of_getElem? (i := 1276) (by decide +kernel), List.mem_of_getElem? (i := 1544) (by decide +kernel), List.mem_of_getElem? (i := 1545) (by decide +kernel)⟩
theorem lw_p53 : lw_okq (⟨"DeflateEffortModel", "bitsOfRow", "()I"⟩, 57) := ⟨⟨by decide +kernel, by decide +kernel⟩, List.mem_of_getElem? (i := 1276) (by decide +kernel), List.mem_of_getElem? (i := 1551) (by decide +kernel), List.mem_of_getElem? (i := 1552) (by decide +kernel)⟩
theorem lw_p54 : lw_okq (⟨"DeflateEffortModel", "keepSpare", "()V"⟩, 57) := ⟨⟨by decide +kernel, by decide +kernel⟩, List.mem_of_getElem? (i := 1276) (by decide +kernel), List.mem_of_getElem? (i := 1558) (by decide +kernel), List.mem_of_getElem? (i := 1559) (by decide +kernel)⟩
theorem lw_p55 : lw_okq (⟨"DeflateEffortModel", "priceTokens", "(II)V"⟩, 57) := ⟨⟨by decide +kernel, by decide +kernel⟩, List.mem_of_getElem? (i := 1276) (by decide +kernel), List.mem_of_getElem? (i := 1562) (by decide +kernel), List.mem_of_getElem? (i := 1563) (by decide +kernel)⟩
theorem lw_p56 : lw_okq (⟨"DeflateEffortModel", "priceOfMatch", "(II)I"⟩, 57) := ⟨⟨by decide +kernel, by decide +kernel⟩, List.mem_of_getElem? (i := 1276) (by decide +kernel), List.mem_of_getElem? (i := 1566) (by decide +kernel), List.mem_of_getElem? (i := 1567) (by decide +kernel)⟩
theorem lw_p57 : lw_okq (⟨"DeflateEffortModel", "putBack", "()V"⟩, 57) := ⟨⟨by decide +kernel, by decide +kernel⟩, List.mem_of_getElem? (i := 1276) (by decide +kernel), List.mem_of_getElem? (i := 1570) (by decide +kernel), List.mem_of_getElem? (i := 1571) (by decide +kernel)⟩
theorem lw_p58 : lw_okq (⟨"DeflateEffortModel", "putBlock", "(II)V"⟩, 57) := ⟨⟨by decide +kernel, by decide +kernel⟩, List.mem_of_getElem? (i := 1276) (by decide +kernel), List.mem_of_getElem? (i := 1574) (by decide +kernel), List.mem_of_getElem? (i := 1575) (by decide +kernel)⟩
theorem lw_p59 : lw_okq (⟨"DeflateEffortModel", "putBit", "(I)V"⟩, 57) := ⟨⟨by decide +kernel, by decide +kernel⟩, List.mem_of_getElem? (i := 1276) (by decide +kernel), List.mem_of_getElem? (i := 1578) (by decide +kernel), List.mem_of_getElem? (i := 1579) (by decide +kernel)⟩
theorem lw_p60 : lw_okq (⟨"DeflateEffortModel", "putNumber", "(II)V"⟩, 57) := ⟨⟨by decide +kernel, by decide +kernel⟩, List.mem_of_getElem? (i := 1276) (by decide +kernel), List.mem_of_getElem? (i := 1582) (by decide +kernel), List.mem_of_getElem? (i := 1583) (by decide +kernel)⟩
theorem lw_p61 : lw_okq (⟨"DeflateEffortModel", "putStored", "(II)V"⟩, 57) := ⟨⟨by decide +kernel, by decide +kernel⟩, List.mem_of_getElem? (i := 1276) (by decide +kernel), List.mem_of_getElem? (i := 1586) (by decide +kernel), List.mem_of_getElem? (i := 1587) (by decide +kernel)⟩
theorem lw_p62 : lw_okq (⟨"DeflateEffortModel", "putRow", "()V"⟩, 57) := ⟨⟨by decide +kernel, by decide +kernel⟩, List.mem_of_getElem? (i := 1276) (by decide +kernel), List.mem_of_getElem? (i := 1590) (by decide +kernel), List.mem_of_getElem? (i := 1591) (by decide +kernel)⟩
theorem lw_p63 : lw_okq (⟨"DeflateEffortModel", "putCode", "(II)V"⟩, 57) := ⟨⟨by decide +kernel, by decide +kernel⟩, List.mem_of_getElem? (i := 1276) (by decide +kernel), List.mem_of_getElem? (i := 1597) (by decide +kernel), List.mem_of_getElem? (i := 1598) (by decide +kernel)⟩
def lw_privs_4 : List (MethodName × Nat) := [(⟨"DeflateEffortModel", "least", "(II)I"⟩, 57), (⟨"DeflateEffortModel", "lengthInRow", "(I)I"⟩, 57), (⟨"DeflateEffortModel", "addRun", "(II)V"⟩, 57), (⟨"DeflateEffortModel", "addRow", "(II)V"⟩, 57), (⟨"DeflateEffortModel", "isLong", "()Z"⟩, 57), (⟨"DeflateEffortModel", "bitsOfRow", "()I"⟩, 57), (⟨"DeflateEffortModel", "keepSpare", "()V"⟩, 57), (⟨"DeflateEffortModel", "priceTokens", "(II)V"⟩, 57), (⟨"DeflateEffortModel", "priceOfMatch", "(II)I"⟩, 57), (⟨"DeflateEffortModel", "putBack", "()V"⟩, 57), (⟨"DeflateEffortModel", "putBlock", "(II)V"⟩, 57), (⟨"DeflateEffortModel", "putBit", "(I)V"⟩, 57), (⟨"DeflateEffortModel", "putNumber", "(II)V"⟩, 57), (⟨"DeflateEffortModel", "putStored", "(II)V"⟩, 57), (⟨"DeflateEffortModel", "putRow", "()V"⟩, 57), (⟨"DeflateEffortModel", "putCode", "(II)V"⟩, 57)]
theorem lw_r4 : ∀ q ∈ lw_privs_4, lw_okq q := List.forall_mem_cons.mpr ⟨lw_p48, List.forall_mem_cons.mpr ⟨lw_p49, List.forall_mem_cons.mpr ⟨lw_p50, List.forall_mem_cons.mpr ⟨lw_p51, List.forall_mem_cons.mpr ⟨lw_p52, List.forall_mem_cons.mpr ⟨lw_p53, List.forall_mem_cons.mpr ⟨lw_p54, List.forall_mem_cons.mpr ⟨lw_p55, List.forall_mem_cons.mpr ⟨lw_p56, List.forall_mem_cons.mpr ⟨lw_p57, List.forall_mem_cons.mpr ⟨lw_p58, List.forall_mem_cons.mpr ⟨lw_p59, List.forall_mem_cons.mpr ⟨lw_p60, List.forall_mem_cons.mpr ⟨lw_p61, List.forall_mem_cons.mpr ⟨lw_p62, List.forall_mem_cons.mpr ⟨lw_p63, fun _ h => absurd h List.not_mem_nil⟩⟩⟩⟩⟩⟩⟩⟩⟩⟩⟩⟩⟩⟩⟩⟩
theorem lw_p64 : lw_okq (⟨"DeflateEffortModel", "putTokens", "(I)V"⟩, 57) := ⟨⟨by decide +kernel, by decide +kernel⟩, List.mem_of_getElem? (i := 1276) (by decide +kernel), List.mem_of_getElem? (i := 1601) (by decide +kernel), List.mem_of_getElem? (i := 1602) (by decide +kernel)⟩
theorem lw_p65 : lw_okq (⟨"DeflateEffortModel", "readBlock", "()I"⟩, 57) := ⟨⟨by decide +kernel, by decide +kernel⟩, List.mem_of_getElem? (i := 1276) (by decide +kernel), List.mem_of_getElem? (i := 1629) (by decide +kernel), List.mem_of_getElem? (i := 1630) (by decide +kernel)⟩
theorem lw_p66 : lw_okq (⟨"DeflateEffortModel", "has", "(I)Z"⟩, 57) := ⟨⟨by decide +kernel, by decide +kernel⟩, List.mem_of_getElem? (i := 1276) (by decide +kernel), List.mem_of_getElem? (i := 1633) (by decide +kernel), List.mem_of_getElem? (i := 1634) (by decide +kernel)⟩
theorem lw_p67 : lw_okq (⟨"DeflateEffortModel", "take", "(I)I"⟩, 57) := ⟨⟨by decide +kernel, by decide +kernel⟩, List.mem_of_getElem? (i := 1276) (by decide +kernel), List.mem_of_getElem? (i := 1637) (by decide +kernel), List.mem_of_getElem? (i := 1638) (by decide +kernel)⟩
theorem lw_p68 : lw_okq (⟨"DeflateEffortModel", "readStored", "()I"⟩, 57) := ⟨⟨by decide +kernel, by decide +kernel⟩, List.mem_of_getElem? (i := 1276) (by decide +kernel), List.mem_of_getElem? (i := 1641) (by decide +kernel), List.mem_of_getElem? (i := 1642) (by decide +kernel)⟩
theorem lw_p69 : lw_okq (⟨"DeflateEffortModel", "broken", "(I)I"⟩, 57) := ⟨⟨by decide +kernel, by decide +kernel⟩, List.mem_of_getElem? (i := 1276) (by decide +kernel), List.mem_of_getElem? (i := 1646) (by decide +kernel), List.mem_of_getElem? (i := 1647) (by decide +kernel)⟩
theorem lw_p70 : lw_okq (⟨"DeflateEffortModel", "tell", "(I)I"⟩, 57) := ⟨⟨by decide +kernel, by decide +kernel⟩, List.mem_of_getElem? (i := 1276) (by decide +kernel), List.mem_of_getElem? (i := 1650) (by decide +kernel), List.mem_of_getElem? (i := 1651) (by decide +kernel)⟩
theorem lw_p71 : lw_okq (⟨"DeflateEffortModel", "readSets", "(I)I"⟩, 57) := ⟨⟨by decide +kernel, by decide +kernel⟩, List.mem_of_getElem? (i := 1276) (by decide +kernel), List.mem_of_getElem? (i := 1654) (by decide +kernel), List.mem_of_getElem? (i := 1655) (by decide +kernel)⟩
theorem lw_p72 : lw_okq (⟨"DeflateEffortModel", "readRow", "(I)I"⟩, 57) := ⟨⟨by decide +kernel, by decide +kernel⟩, List.mem_of_getElem? (i := 1276) (by decide +kernel), List.mem_of_getElem? (i := 1662) (by decide +kernel), List.mem_of_getElem? (i := 1663) (by decide +kernel)⟩
theorem lw_p73 : lw_okq (⟨"DeflateEffortModel", "symbol", "([I[II)I"⟩, 57) := ⟨⟨by decide +kernel, by decide +kernel⟩, List.mem_of_getElem? (i := 1276) (by decide +kernel), List.mem_of_getElem? (i := 1666) (by decide +kernel), List.mem_of_getElem? (i := 1667) (by decide +kernel)⟩
theorem lw_p74 : lw_okq (⟨"DeflateEffortModel", "useRow", "(I)I"⟩, 57) := ⟨⟨by decide +kernel, by decide +kernel⟩, List.mem_of_getElem? (i := 1276) (by decide +kernel), List.mem_of_getElem? (i := 1670) (by decide +kernel), List.mem_of_getElem? (i := 1671) (by decide +kernel)⟩
theorem lw_p75 : lw_okq (⟨"DeflateEffortModel", "readTokens", "()I"⟩, 57) := ⟨⟨by decide +kernel, by decide +kernel⟩, List.mem_of_getElem? (i := 1276) (by decide +kernel), List.mem_of_getElem? (i := 1674) (by decide +kernel), List.mem_of_getElem? (i := 1675) (by decide +kernel)⟩
theorem lw_p76 : lw_okq (⟨"DeflateEffortModel", "readMatch", "(II)I"⟩, 57) := ⟨⟨by decide +kernel, by decide +kernel⟩, List.mem_of_getElem? (i := 1276) (by decide +kernel), List.mem_of_getElem? (i := 1678) (by decide +kernel), List.mem_of_getElem? (i := 1679) (by decide +kernel)⟩
def lw_privs_5 : List (MethodName × Nat) := [(⟨"DeflateEffortModel", "putTokens", "(I)V"⟩, 57), (⟨"DeflateEffortModel", "readBlock", "()I"⟩, 57), (⟨"DeflateEffortModel", "has", "(I)Z"⟩, 57), (⟨"DeflateEffortModel", "take", "(I)I"⟩, 57), (⟨"DeflateEffortModel", "readStored", "()I"⟩, 57), (⟨"DeflateEffortModel", "broken", "(I)I"⟩, 57), (⟨"DeflateEffortModel", "tell", "(I)I"⟩, 57), (⟨"DeflateEffortModel", "readSets", "(I)I"⟩, 57), (⟨"DeflateEffortModel", "readRow", "(I)I"⟩, 57), (⟨"DeflateEffortModel", "symbol", "([I[II)I"⟩, 57), (⟨"DeflateEffortModel", "useRow", "(I)I"⟩, 57), (⟨"DeflateEffortModel", "readTokens", "()I"⟩, 57), (⟨"DeflateEffortModel", "readMatch", "(II)I"⟩, 57)]
theorem lw_r5 : ∀ q ∈ lw_privs_5, lw_okq q := List.forall_mem_cons.mpr ⟨lw_p64, List.forall_mem_cons.mpr ⟨lw_p65, List.forall_mem_cons.mpr ⟨lw_p66, List.forall_mem_cons.mpr ⟨lw_p67, List.forall_mem_cons.mpr ⟨lw_p68, List.forall_mem_cons.mpr ⟨lw_p69, List.forall_mem_cons.mpr ⟨lw_p70, List.forall_mem_cons.mpr ⟨lw_p71, List.forall_mem_cons.mpr ⟨lw_p72, List.forall_mem_cons.mpr ⟨lw_p73, List.forall_mem_cons.mpr ⟨lw_p74, List.forall_mem_cons.mpr ⟨lw_p75, List.forall_mem_cons.mpr ⟨lw_p76, fun _ h => absurd h List.not_mem_nil⟩⟩⟩⟩⟩⟩⟩⟩⟩⟩⟩⟩⟩
def lw_privs : List (MethodName × Nat) := lw_privs_1 ++ (lw_privs_2 ++ (lw_privs_3 ++ (lw_privs_4 ++ (lw_privs_5))))
def lw_tbl : List Cond := k2_sels lw_privs ++ tables_1
theorem lw_privs_ok : ∀ q ∈ lw_privs, lw_okq q := by
  show ∀ q ∈ lw_privs_1 ++ (lw_privs_2 ++ (lw_privs_3 ++ (lw_privs_4 ++ (lw_privs_5)))), lw_okq q
  exact List.forall_mem_append.mpr ⟨lw_r1, List.forall_mem_append.mpr ⟨lw_r2, List.forall_mem_append.mpr ⟨lw_r3, List.forall_mem_append.mpr ⟨lw_r4, lw_r5⟩⟩⟩⟩

-- ===== end of PART A =====
def rx_Ts : List Cond := lw_tbl.filter goodWord
theorem rx_good : ∀ w ∈ rx_Ts, goodWord w = true := fun _ h => (List.mem_filter.mp h).2
def rx_nest : Cond → Bool
  | .methodLinkNest _ _ _ _ => true
  | .fieldLinkNest _ _ _ _ _ _ => true
  | _ => false
def rx_Nw : List Cond := lw_tbl.filter rx_nest
theorem rx_in {w : Cond} (i : Nat) (h : tables_1[i]? = some w) (hg : goodWord w = true) : w ∈ rx_Ts := List.mem_filter.mpr ⟨List.mem_append_right _ (List.mem_of_getElem? h), hg⟩
theorem rx_inP {w : Cond} (i : Nat) (h : (k2_sels lw_privs)[i]? = some w) (hg : goodWord w = true) : w ∈ rx_Ts := List.mem_filter.mpr ⟨List.mem_append_left _ (List.mem_of_getElem? h), hg⟩
theorem rx_T1 {w : Cond} (h : w ∈ tables_1_1) : w ∈ tables_1 := by unfold tables_1; exact List.mem_append_left _ h
theorem rx_T2 {w : Cond} (h : w ∈ tables_1_2) : w ∈ tables_1 := by unfold tables_1; exact List.mem_append_right _ (List.mem_append_left _ h)
theorem rx_T3 {w : Cond} (h : w ∈ tables_1_3) : w ∈ tables_1 := by unfold tables_1; exact List.mem_append_right _ (List.mem_append_right _ (List.mem_append_left _ h))
theorem rx_T4 {w : Cond} (h : w ∈ tables_1_4) : w ∈ tables_1 := by unfold tables_1; exact List.mem_append_right _ (List.mem_append_right _ (List.mem_append_right _ (List.mem_append_left _ h)))
theorem rx_T5 {w : Cond} (h : w ∈ tables_1_5) : w ∈ tables_1 := by unfold tables_1; exact List.mem_append_right _ (List.mem_append_right _ (List.mem_append_right _ (List.mem_append_right _ (List.mem_append_left _ h))))
theorem rx_T6 {w : Cond} (h : w ∈ tables_1_6) : w ∈ tables_1 := by unfold tables_1; exact List.mem_append_right _ (List.mem_append_right _ (List.mem_append_right _ (List.mem_append_right _ (List.mem_append_right _ (List.mem_append_left _ h)))))
theorem rx_T7 {w : Cond} (h : w ∈ tables_1_7) : w ∈ tables_1 := by unfold tables_1; exact List.mem_append_right _ (List.mem_append_right _ (List.mem_append_right _ (List.mem_append_right _ (List.mem_append_right _ (List.mem_append_right _ (List.mem_append_left _ h))))))
theorem rx_T8 {w : Cond} (h : w ∈ tables_1_8) : w ∈ tables_1 := by unfold tables_1; exact List.mem_append_right _ (List.mem_append_right _ (List.mem_append_right _ (List.mem_append_right _ (List.mem_append_right _ (List.mem_append_right _ (List.mem_append_right _ (h)))))))
theorem rx_inS {w : Cond} (h : w ∈ tables_1) (hg : goodWord w = true) : w ∈ rx_Ts := List.mem_filter.mpr ⟨List.mem_append_right _ h, hg⟩
theorem rx_inNS {w : Cond} (h : w ∈ tables_1) (hg : rx_nest w = true) : w ∈ rx_Nw := List.mem_filter.mpr ⟨List.mem_append_right _ h, hg⟩
theorem rx_inN {w : Cond} (i : Nat) (h : tables_1[i]? = some w) (hg : rx_nest w = true) : w ∈ rx_Nw := List.mem_filter.mpr ⟨List.mem_append_right _ (List.mem_of_getElem? h), hg⟩
def rx_dtab (b : ByteArray) (tb : List (Nat × Instr × Nat)) : Bool := tb.all (fun q => decide (decode b q.1 = .ok q.2))
theorem rx_dt {b : ByteArray} {tb : List (Nat × Instr × Nat)} (h : rx_dtab b tb = true) (i : Nat) {pc : Nat} {ins : Instr} {len : Nat} (hi : tb[i]? = some (pc, ins, len)) : decode b pc = .ok (ins, len) := by
  unfold rx_dtab at h
  have h1 := List.all_eq_true.mp h (pc, ins, len) (List.mem_of_getElem? hi)
  exact of_decide_eq_true (p := decode b pc = .ok (ins, len)) h1
def Tc_Block : u_T := fun k => match k with
  | 0 => ("DeflateEffort$Block", "token", "[I", true)
  | 1 => ("DeflateEffort$Block", "from", "I", false)
  | 2 => ("DeflateEffort$Block", "to", "I", false)
  | 3 => ("DeflateEffort$Block", "kind", "I", false)
  | 4 => ("DeflateEffort$Block", "bits", "I", false)
  | 5 => ("DeflateEffort$Block", "size", "I", false)
  | 6 => ("DeflateEffort$Block", "matches", "I", false)
  | 7 => ("DeflateEffort$Block", "replaced", "I", false)
  | _ => ("DeflateEffort$Block", "bitsToEnd", "I", false)
def tyc_Block : Nat → FieldType := fun k => match k with
  | 0 => (.array .int)
  | 1 => .int
  | 2 => .int
  | 3 => .int
  | 4 => .int
  | 5 => .int
  | 6 => .int
  | 7 => .int
  | _ => .int
theorem nmc_Block : ∀ a, a < 9 → ∀ b, b < 9 → a ≠ b → (Tc_Block a).2.1 ≠ (Tc_Block b).2.1 := by decide +kernel
theorem tyok_Block : ∀ k, k < 9 → parseFieldDescriptor (Tc_Block k).2.2.1 = some (tyc_Block k) := by decide +kernel
theorem inc_Block : ∀ w ∈ u_ws "DeflateEffort$Block" Tc_Block 9, w ∈ rx_Ts := by
  show ∀ w ∈ [u_lay "DeflateEffort$Block" Tc_Block 0, u_lay "DeflateEffort$Block" Tc_Block 1, u_lay "DeflateEffort$Block" Tc_Block 2, u_lay "DeflateEffort$Block" Tc_Block 3, u_lay "DeflateEffort$Block" Tc_Block 4, u_lay "DeflateEffort$Block" Tc_Block 5, u_lay "DeflateEffort$Block" Tc_Block 6, u_lay "DeflateEffort$Block" Tc_Block 7, u_lay "DeflateEffort$Block" Tc_Block 8], w ∈ rx_Ts
  exact List.forall_mem_cons.mpr ⟨(rx_inS (rx_T2 (List.mem_of_getElem? (i := 22) (by decide +kernel))) rfl), List.forall_mem_cons.mpr ⟨(rx_inS (rx_T2 (List.mem_of_getElem? (i := 24) (by decide +kernel))) rfl), List.forall_mem_cons.mpr ⟨(rx_inS (rx_T2 (List.mem_of_getElem? (i := 26) (by decide +kernel))) rfl), List.forall_mem_cons.mpr ⟨(rx_inS (rx_T2 (List.mem_of_getElem? (i := 28) (by decide +kernel))) rfl), List.forall_mem_cons.mpr ⟨(rx_inS (rx_T2 (List.mem_of_getElem? (i := 30) (by decide +kernel))) rfl), List.forall_mem_cons.mpr ⟨(rx_inS (rx_T2 (List.mem_of_getElem? (i := 32) (by decide +kernel))) rfl), List.forall_mem_cons.mpr ⟨(rx_inS (rx_T2 (List.mem_of_getElem? (i := 34) (by decide +kernel))) rfl), List.forall_mem_cons.mpr ⟨(rx_inS (rx_T2 (List.mem_of_getElem? (i := 36) (by decide +kernel))) rfl), List.forall_mem_cons.mpr ⟨(rx_inS (rx_T2 (List.mem_of_getElem? (i := 38) (by decide +kernel))) rfl), fun _ h => absurd h List.not_mem_nil⟩⟩⟩⟩⟩⟩⟩⟩⟩
def Tc_Code : u_T := fun k => match k with
  | 0 => ("DeflateEffort$Code", "count", "[I", true)
  | _ => ("DeflateEffort$Code", "length", "[I", true)
def tyc_Code : Nat → FieldType := fun k => match k with
  | 0 => (.array .int)
  | _ => (.array .int)
theorem nmc_Code : ∀ a, a < 2 → ∀ b, b < 2 → a ≠ b → (Tc_Code a).2.1 ≠ (Tc_Code b).2.1 := by decide +kernel
theorem tyok_Code : ∀ k, k < 2 → parseFieldDescriptor (Tc_Code k).2.2.1 = some (tyc_Code k) := by decide +kernel
theorem inc_Code : ∀ w ∈ u_ws "DeflateEffort$Code" Tc_Code 2, w ∈ rx_Ts := by
  show ∀ w ∈ [u_lay "DeflateEffort$Code" Tc_Code 0, u_lay "DeflateEffort$Code" Tc_Code 1], w ∈ rx_Ts
  exact List.forall_mem_cons.mpr ⟨(rx_inS (rx_T1 (List.mem_of_getElem? (i := 117) (by decide +kernel))) rfl), List.forall_mem_cons.mpr ⟨(rx_inS (rx_T1 (List.mem_of_getElem? (i := 119) (by decide +kernel))) rfl), fun _ h => absurd h List.not_mem_nil⟩⟩
def Tc_CodeSet : u_T := fun k => match k with
  | 0 => ("DeflateEffort$CodeSet", "perLength", "[I", true)
  | 1 => ("DeflateEffort$CodeSet", "symbol", "[I", true)
  | 2 => ("DeflateEffort$CodeSet", "next", "[I", true)
  | 3 => ("DeflateEffort$CodeSet", "codes", "I", false)
  | 4 => ("DeflateEffort$CodeSet", "longest", "I", false)
  | _ => ("DeflateEffort$CodeSet", "free", "I", false)
def tyc_CodeSet : Nat → FieldType := fun k => match k with
  | 0 => (.array .int)
  | 1 => (.array .int)
  | 2 => (.array .int)
  | 3 => .int
  | 4 => .int
  | _ => .int
theorem nmc_CodeSet : ∀ a, a < 6 → ∀ b, b < 6 → a ≠ b → (Tc_CodeSet a).2.1 ≠ (Tc_CodeSet b).2.1 := by decide +kernel
theorem tyok_CodeSet : ∀ k, k < 6 → parseFieldDescriptor (Tc_CodeSet k).2.2.1 = some (tyc_CodeSet k) := by decide +kernel
theorem inc_CodeSet : ∀ w ∈ u_ws "DeflateEffort$CodeSet" Tc_CodeSet 6, w ∈ rx_Ts := by
  show ∀ w ∈ [u_lay "DeflateEffort$CodeSet" Tc_CodeSet 0, u_lay "DeflateEffort$CodeSet" Tc_CodeSet 1, u_lay "DeflateEffort$CodeSet" Tc_CodeSet 2, u_lay "DeflateEffort$CodeSet" Tc_CodeSet 3, u_lay "DeflateEffort$CodeSet" Tc_CodeSet 4, u_lay "DeflateEffort$CodeSet" Tc_CodeSet 5], w ∈ rx_Ts
  exact List.forall_mem_cons.mpr ⟨(rx_inS (rx_T2 (List.mem_of_getElem? (i := 103) (by decide +kernel))) rfl), List.forall_mem_cons.mpr ⟨(rx_inS (rx_T2 (List.mem_of_getElem? (i := 105) (by decide +kernel))) rfl), List.forall_mem_cons.mpr ⟨(rx_inS (rx_T2 (List.mem_of_getElem? (i := 107) (by decide +kernel))) rfl), List.forall_mem_cons.mpr ⟨(rx_inS (rx_T2 (List.mem_of_getElem? (i := 109) (by decide +kernel))) rfl), List.forall_mem_cons.mpr ⟨(rx_inS (rx_T2 (List.mem_of_getElem? (i := 111) (by decide +kernel))) rfl), List.forall_mem_cons.mpr ⟨(rx_inS (rx_T2 (List.mem_of_getElem? (i := 113) (by decide +kernel))) rfl), fun _ h => absurd h List.not_mem_nil⟩⟩⟩⟩⟩⟩
def Tc_Cutter : u_T := fun k => match k with
  | 0 => ("DeflateEffort$Cutter", "effort", "I", true)
  | 1 => ("DeflateEffort$Cutter", "bytes", "[I", true)
  | 2 => ("DeflateEffort$Cutter", "matches", "LDeflateEffort$Matches;", true)
  | 3 => ("DeflateEffort$Cutter", "joiner", "LDeflateEffort$Joiner;", true)
  | 4 => ("DeflateEffort$Cutter", "row", "LDeflateEffort$LengthRow;", true)
  | 5 => ("DeflateEffort$Cutter", "prices", "LDeflateEffort$Prices;", true)
  | 6 => ("DeflateEffort$Cutter", "lengthTaken", "[I", true)
  | 7 => ("DeflateEffort$Cutter", "hand", "LDeflateEffort$Plan;", false)
  | 8 => ("DeflateEffort$Cutter", "trial", "LDeflateEffort$Plan;", false)
  | 9 => ("DeflateEffort$Cutter", "best", "[LDeflateEffort$Block;", true)
  | 10 => ("DeflateEffort$Cutter", "taken", "[I", true)
  | _ => ("DeflateEffort$Cutter", "takenCount", "I", false)
def tyc_Cutter : Nat → FieldType := fun k => match k with
  | 0 => .int
  | 1 => (.array .int)
  | 2 => (.object "DeflateEffort$Matches")
  | 3 => (.object "DeflateEffort$Joiner")
  | 4 => (.object "DeflateEffort$LengthRow")
  | 5 => (.object "DeflateEffort$Prices")
  | 6 => (.array .int)
  | 7 => (.object "DeflateEffort$Plan")
  | 8 => (.object "DeflateEffort$Plan")
  | 9 => (.array (.object "DeflateEffort$Block"))
  | 10 => (.array .int)
  | _ => .int
theorem nmc_Cutter : ∀ a, a < 12 → ∀ b, b < 12 → a ≠ b → (Tc_Cutter a).2.1 ≠ (Tc_Cutter b).2.1 := by decide +kernel
theorem tyok_Cutter : ∀ k, k < 12 → parseFieldDescriptor (Tc_Cutter k).2.2.1 = some (tyc_Cutter k) := by decide +kernel
theorem inc_Cutter : ∀ w ∈ u_ws "DeflateEffort$Cutter" Tc_Cutter 12, w ∈ rx_Ts := by
  show ∀ w ∈ [u_lay "DeflateEffort$Cutter" Tc_Cutter 0, u_lay "DeflateEffort$Cutter" Tc_Cutter 1, u_lay "DeflateEffort$Cutter" Tc_Cutter 2, u_lay "DeflateEffort$Cutter" Tc_Cutter 3, u_lay "DeflateEffort$Cutter" Tc_Cutter 4, u_lay "DeflateEffort$Cutter" Tc_Cutter 5, u_lay "DeflateEffort$Cutter" Tc_Cutter 6, u_lay "DeflateEffort$Cutter" Tc_Cutter 7, u_lay "DeflateEffort$Cutter" Tc_Cutter 8, u_lay "DeflateEffort$Cutter" Tc_Cutter 9, u_lay "DeflateEffort$Cutter" Tc_Cutter 10, u_lay "DeflateEffort$Cutter" Tc_Cutter 11], w ∈ rx_Ts
  exact List.forall_mem_cons.mpr ⟨(rx_inS (rx_T2 (List.mem_of_getElem? (i := 56) (by decide +kernel))) rfl), List.forall_mem_cons.mpr ⟨(rx_inS (rx_T2 (List.mem_of_getElem? (i := 58) (by decide +kernel))) rfl), List.forall_mem_cons.mpr ⟨(rx_inS (rx_T2 (List.mem_of_getElem? (i := 60) (by decide +kernel))) rfl), List.forall_mem_cons.mpr ⟨(rx_inS (rx_T2 (List.mem_of_getElem? (i := 62) (by decide +kernel))) rfl), List.forall_mem_cons.mpr ⟨(rx_inS (rx_T2 (List.mem_of_getElem? (i := 64) (by decide +kernel))) rfl), List.forall_mem_cons.mpr ⟨(rx_inS (rx_T2 (List.mem_of_getElem? (i := 66) (by decide +kernel))) rfl), List.forall_mem_cons.mpr ⟨(rx_inS (rx_T2 (List.mem_of_getElem? (i := 68) (by decide +kernel))) rfl), List.forall_mem_cons.mpr ⟨(rx_inS (rx_T2 (List.mem_of_getElem? (i := 70) (by decide +kernel))) rfl), List.forall_mem_cons.mpr ⟨(rx_inS (rx_T2 (List.mem_of_getElem? (i := 72) (by decide +kernel))) rfl), List.forall_mem_cons.mpr ⟨(rx_inS (rx_T2 (List.mem_of_getElem? (i := 74) (by decide +kernel))) rfl), List.forall_mem_cons.mpr ⟨(rx_inS (rx_T2 (List.mem_of_getElem? (i := 76) (by decide +kernel))) rfl), List.forall_mem_cons.mpr ⟨(rx_inS (rx_T2 (List.mem_of_getElem? (i := 78) (by decide +kernel))) rfl), fun _ h => absurd h List.not_mem_nil⟩⟩⟩⟩⟩⟩⟩⟩⟩⟩⟩⟩
def Tc_Joiner : u_T := fun k => match k with
  | 0 => ("DeflateEffort$Joiner", "order", "[I", true)
  | 1 => ("DeflateEffort$Joiner", "weight", "[I", true)
  | _ => ("DeflateEffort$Joiner", "above", "[I", true)
def tyc_Joiner : Nat → FieldType := fun k => match k with
  | 0 => (.array .int)
  | 1 => (.array .int)
  | _ => (.array .int)
theorem nmc_Joiner : ∀ a, a < 3 → ∀ b, b < 3 → a ≠ b → (Tc_Joiner a).2.1 ≠ (Tc_Joiner b).2.1 := by decide +kernel
theorem tyok_Joiner : ∀ k, k < 3 → parseFieldDescriptor (Tc_Joiner k).2.2.1 = some (tyc_Joiner k) := by decide +kernel
theorem inc_Joiner : ∀ w ∈ u_ws "DeflateEffort$Joiner" Tc_Joiner 3, w ∈ rx_Ts := by
  show ∀ w ∈ [u_lay "DeflateEffort$Joiner" Tc_Joiner 0, u_lay "DeflateEffort$Joiner" Tc_Joiner 1, u_lay "DeflateEffort$Joiner" Tc_Joiner 2], w ∈ rx_Ts
  exact List.forall_mem_cons.mpr ⟨(rx_inS (rx_T1 (List.mem_of_getElem? (i := 87) (by decide +kernel))) rfl), List.forall_mem_cons.mpr ⟨(rx_inS (rx_T1 (List.mem_of_getElem? (i := 89) (by decide +kernel))) rfl), List.forall_mem_cons.mpr ⟨(rx_inS (rx_T1 (List.mem_of_getElem? (i := 91) (by decide +kernel))) rfl), fun _ h => absurd h List.not_mem_nil⟩⟩⟩
def Tc_LengthRow : u_T := fun k => match k with
  | 0 => ("DeflateEffort$LengthRow", "code", "LDeflateEffort$Code;", true)
  | 1 => ("DeflateEffort$LengthRow", "row", "[I", true)
  | 2 => ("DeflateEffort$LengthRow", "size", "I", false)
  | 3 => ("DeflateEffort$LengthRow", "literals", "I", false)
  | 4 => ("DeflateEffort$LengthRow", "distances", "I", false)
  | _ => ("DeflateEffort$LengthRow", "toldOfCode", "I", false)
def tyc_LengthRow : Nat → FieldType := fun k => match k with
  | 0 => (.object "DeflateEffort$Code")
  | 1 => (.array .int)
  | 2 => .int
  | 3 => .int
  | 4 => .int
  | _ => .int
theorem nmc_LengthRow : ∀ a, a < 6 → ∀ b, b < 6 → a ≠ b → (Tc_LengthRow a).2.1 ≠ (Tc_LengthRow b).2.1 := by decide +kernel
theorem tyok_LengthRow : ∀ k, k < 6 → parseFieldDescriptor (Tc_LengthRow k).2.2.1 = some (tyc_LengthRow k) := by decide +kernel
theorem inc_LengthRow : ∀ w ∈ u_ws "DeflateEffort$LengthRow" Tc_LengthRow 6, w ∈ rx_Ts := by
  show ∀ w ∈ [u_lay "DeflateEffort$LengthRow" Tc_LengthRow 0, u_lay "DeflateEffort$LengthRow" Tc_LengthRow 1, u_lay "DeflateEffort$LengthRow" Tc_LengthRow 2, u_lay "DeflateEffort$LengthRow" Tc_LengthRow 3, u_lay "DeflateEffort$LengthRow" Tc_LengthRow 4, u_lay "DeflateEffort$LengthRow" Tc_LengthRow 5], w ∈ rx_Ts
  exact List.forall_mem_cons.mpr ⟨(rx_inS (rx_T1 (List.mem_of_getElem? (i := 133) (by decide +kernel))) rfl), List.forall_mem_cons.mpr ⟨(rx_inS (rx_T1 (List.mem_of_getElem? (i := 135) (by decide +kernel))) rfl), List.forall_mem_cons.mpr ⟨(rx_inS (rx_T1 (List.mem_of_getElem? (i := 137) (by decide +kernel))) rfl), List.forall_mem_cons.mpr ⟨(rx_inS (rx_T1 (List.mem_of_getElem? (i := 139) (by decide +kernel))) rfl), List.forall_mem_cons.mpr ⟨(rx_inS (rx_T1 (List.mem_of_getElem? (i := 141) (by decide +kernel))) rfl), List.forall_mem_cons.mpr ⟨(rx_inS (rx_T1 (List.mem_of_getElem? (i := 143) (by decide +kernel))) rfl), fun _ h => absurd h List.not_mem_nil⟩⟩⟩⟩⟩⟩
def Tc_Matches : u_T := fun k => match k with
  | 0 => ("DeflateEffort$Matches", "bytes", "[I", true)
  | 1 => ("DeflateEffort$Matches", "bucket", "[I", true)
  | 2 => ("DeflateEffort$Matches", "below", "[I", true)
  | 3 => ("DeflateEffort$Matches", "found", "[I", true)
  | _ => ("DeflateEffort$Matches", "steps", "I", false)
def tyc_Matches : Nat → FieldType := fun k => match k with
  | 0 => (.array .int)
  | 1 => (.array .int)
  | 2 => (.array .int)
  | 3 => (.array .int)
  | _ => .int
theorem nmc_Matches : ∀ a, a < 5 → ∀ b, b < 5 → a ≠ b → (Tc_Matches a).2.1 ≠ (Tc_Matches b).2.1 := by decide +kernel
theorem tyok_Matches : ∀ k, k < 5 → parseFieldDescriptor (Tc_Matches k).2.2.1 = some (tyc_Matches k) := by decide +kernel
theorem inc_Matches : ∀ w ∈ u_ws "DeflateEffort$Matches" Tc_Matches 5, w ∈ rx_Ts := by
  show ∀ w ∈ [u_lay "DeflateEffort$Matches" Tc_Matches 0, u_lay "DeflateEffort$Matches" Tc_Matches 1, u_lay "DeflateEffort$Matches" Tc_Matches 2, u_lay "DeflateEffort$Matches" Tc_Matches 3, u_lay "DeflateEffort$Matches" Tc_Matches 4], w ∈ rx_Ts
  exact List.forall_mem_cons.mpr ⟨(rx_inS (rx_T1 (List.mem_of_getElem? (i := 224) (by decide +kernel))) rfl), List.forall_mem_cons.mpr ⟨(rx_inS (rx_T1 (List.mem_of_getElem? (i := 226) (by decide +kernel))) rfl), List.forall_mem_cons.mpr ⟨(rx_inS (rx_T1 (List.mem_of_getElem? (i := 228) (by decide +kernel))) rfl), List.forall_mem_cons.mpr ⟨(rx_inS (rx_T1 (List.mem_of_getElem? (i := 230) (by decide +kernel))) rfl), List.forall_mem_cons.mpr ⟨(rx_inS (rx_T1 (List.mem_of_getElem? (i := 232) (by decide +kernel))) rfl), fun _ h => absurd h List.not_mem_nil⟩⟩⟩⟩⟩
def Tc_Plan : u_T := fun k => match k with
  | 0 => ("DeflateEffort$Plan", "token", "[I", true)
  | 1 => ("DeflateEffort$Plan", "size", "I", false)
  | 2 => ("DeflateEffort$Plan", "matches", "I", false)
  | 3 => ("DeflateEffort$Plan", "literals", "LDeflateEffort$Code;", true)
  | 4 => ("DeflateEffort$Plan", "distances", "LDeflateEffort$Code;", true)
  | 5 => ("DeflateEffort$Plan", "kind", "I", false)
  | _ => ("DeflateEffort$Plan", "bits", "I", false)
def tyc_Plan : Nat → FieldType := fun k => match k with
  | 0 => (.array .int)
  | 1 => .int
  | 2 => .int
  | 3 => (.object "DeflateEffort$Code")
  | 4 => (.object "DeflateEffort$Code")
  | 5 => .int
  | _ => .int
theorem nmc_Plan : ∀ a, a < 7 → ∀ b, b < 7 → a ≠ b → (Tc_Plan a).2.1 ≠ (Tc_Plan b).2.1 := by decide +kernel
theorem tyok_Plan : ∀ k, k < 7 → parseFieldDescriptor (Tc_Plan k).2.2.1 = some (tyc_Plan k) := by decide +kernel
theorem inc_Plan : ∀ w ∈ u_ws "DeflateEffort$Plan" Tc_Plan 7, w ∈ rx_Ts := by
  show ∀ w ∈ [u_lay "DeflateEffort$Plan" Tc_Plan 0, u_lay "DeflateEffort$Plan" Tc_Plan 1, u_lay "DeflateEffort$Plan" Tc_Plan 2, u_lay "DeflateEffort$Plan" Tc_Plan 3, u_lay "DeflateEffort$Plan" Tc_Plan 4, u_lay "DeflateEffort$Plan" Tc_Plan 5, u_lay "DeflateEffort$Plan" Tc_Plan 6], w ∈ rx_Ts
  exact List.forall_mem_cons.mpr ⟨(rx_inS (rx_T1 (List.mem_of_getElem? (i := 193) (by decide +kernel))) rfl), List.forall_mem_cons.mpr ⟨(rx_inS (rx_T1 (List.mem_of_getElem? (i := 195) (by decide +kernel))) rfl), List.forall_mem_cons.mpr ⟨(rx_inS (rx_T1 (List.mem_of_getElem? (i := 197) (by decide +kernel))) rfl), List.forall_mem_cons.mpr ⟨(rx_inS (rx_T1 (List.mem_of_getElem? (i := 199) (by decide +kernel))) rfl), List.forall_mem_cons.mpr ⟨(rx_inS (rx_T1 (List.mem_of_getElem? (i := 201) (by decide +kernel))) rfl), List.forall_mem_cons.mpr ⟨(rx_inS (rx_T1 (List.mem_of_getElem? (i := 203) (by decide +kernel))) rfl), List.forall_mem_cons.mpr ⟨(rx_inS (rx_T1 (List.mem_of_getElem? (i := 205) (by decide +kernel))) rfl), fun _ h => absurd h List.not_mem_nil⟩⟩⟩⟩⟩⟩⟩
def Tc_Prices : u_T := fun k => match k with
  | 0 => ("DeflateEffort$Prices", "ofLiteral", "[I", true)
  | 1 => ("DeflateEffort$Prices", "ofLength", "[I", true)
  | 2 => ("DeflateEffort$Prices", "ofDistance", "[I", true)
  | _ => ("DeflateEffort$Prices", "least", "[I", true)
def tyc_Prices : Nat → FieldType := fun k => match k with
  | 0 => (.array .int)
  | 1 => (.array .int)
  | 2 => (.array .int)
  | _ => (.array .int)
theorem nmc_Prices : ∀ a, a < 4 → ∀ b, b < 4 → a ≠ b → (Tc_Prices a).2.1 ≠ (Tc_Prices b).2.1 := by decide +kernel
theorem tyok_Prices : ∀ k, k < 4 → parseFieldDescriptor (Tc_Prices k).2.2.1 = some (tyc_Prices k) := by decide +kernel
theorem inc_Prices : ∀ w ∈ u_ws "DeflateEffort$Prices" Tc_Prices 4, w ∈ rx_Ts := by
  show ∀ w ∈ [u_lay "DeflateEffort$Prices" Tc_Prices 0, u_lay "DeflateEffort$Prices" Tc_Prices 1, u_lay "DeflateEffort$Prices" Tc_Prices 2, u_lay "DeflateEffort$Prices" Tc_Prices 3], w ∈ rx_Ts
  exact List.forall_mem_cons.mpr ⟨(rx_inS (rx_T1 (List.mem_of_getElem? (i := 156) (by decide +kernel))) rfl), List.forall_mem_cons.mpr ⟨(rx_inS (rx_T1 (List.mem_of_getElem? (i := 158) (by decide +kernel))) rfl), List.forall_mem_cons.mpr ⟨(rx_inS (rx_T1 (List.mem_of_getElem? (i := 160) (by decide +kernel))) rfl), List.forall_mem_cons.mpr ⟨(rx_inS (rx_T1 (List.mem_of_getElem? (i := 162) (by decide +kernel))) rfl), fun _ h => absurd h List.not_mem_nil⟩⟩⟩⟩
def Tc_Reader : u_T := fun k => match k with
  | 0 => ("DeflateEffort$Reader", "coded", "[I", true)
  | 1 => ("DeflateEffort$Reader", "inflated", "[I", true)
  | 2 => ("DeflateEffort$Reader", "inflatedCount", "I", false)
  | 3 => ("DeflateEffort$Reader", "stopBit", "I", false)
  | 4 => ("DeflateEffort$Reader", "state", "I", false)
  | 5 => ("DeflateEffort$Reader", "bitCount", "I", false)
  | 6 => ("DeflateEffort$Reader", "at", "I", false)
  | 7 => ("DeflateEffort$Reader", "blockBit", "I", false)
  | 8 => ("DeflateEffort$Reader", "literalLengths", "I", false)
  | 9 => ("DeflateEffort$Reader", "distanceLengths", "I", false)
  | 10 => ("DeflateEffort$Reader", "length", "[I", true)
  | 11 => ("DeflateEffort$Reader", "fixedLiterals", "LDeflateEffort$CodeSet;", true)
  | 12 => ("DeflateEffort$Reader", "fixedDistances", "LDeflateEffort$CodeSet;", true)
  | 13 => ("DeflateEffort$Reader", "ownLiterals", "LDeflateEffort$CodeSet;", true)
  | 14 => ("DeflateEffort$Reader", "ownDistances", "LDeflateEffort$CodeSet;", true)
  | _ => ("DeflateEffort$Reader", "ownLengths", "LDeflateEffort$CodeSet;", true)
def tyc_Reader : Nat → FieldType := fun k => match k with
  | 0 => (.array .int)
  | 1 => (.array .int)
  | 2 => .int
  | 3 => .int
  | 4 => .int
  | 5 => .int
  | 6 => .int
  | 7 => .int
  | 8 => .int
  | 9 => .int
  | 10 => (.array .int)
  | 11 => (.object "DeflateEffort$CodeSet")
  | 12 => (.object "DeflateEffort$CodeSet")
  | 13 => (.object "DeflateEffort$CodeSet")
  | 14 => (.object "DeflateEffort$CodeSet")
  | _ => (.object "DeflateEffort$CodeSet")
theorem nmc_Reader : ∀ a, a < 16 → ∀ b, b < 16 → a ≠ b → (Tc_Reader a).2.1 ≠ (Tc_Reader b).2.1 := by decide +kernel
theorem tyok_Reader : ∀ k, k < 16 → parseFieldDescriptor (Tc_Reader k).2.2.1 = some (tyc_Reader k) := by decide +kernel
theorem inc_Reader : ∀ w ∈ u_ws "DeflateEffort$Reader" Tc_Reader 16, w ∈ rx_Ts := by
  show ∀ w ∈ [u_lay "DeflateEffort$Reader" Tc_Reader 0, u_lay "DeflateEffort$Reader" Tc_Reader 1, u_lay "DeflateEffort$Reader" Tc_Reader 2, u_lay "DeflateEffort$Reader" Tc_Reader 3, u_lay "DeflateEffort$Reader" Tc_Reader 4, u_lay "DeflateEffort$Reader" Tc_Reader 5, u_lay "DeflateEffort$Reader" Tc_Reader 6, u_lay "DeflateEffort$Reader" Tc_Reader 7, u_lay "DeflateEffort$Reader" Tc_Reader 8, u_lay "DeflateEffort$Reader" Tc_Reader 9, u_lay "DeflateEffort$Reader" Tc_Reader 10, u_lay "DeflateEffort$Reader" Tc_Reader 11, u_lay "DeflateEffort$Reader" Tc_Reader 12, u_lay "DeflateEffort$Reader" Tc_Reader 13, u_lay "DeflateEffort$Reader" Tc_Reader 14, u_lay "DeflateEffort$Reader" Tc_Reader 15], w ∈ rx_Ts
  exact List.forall_mem_cons.mpr ⟨(rx_inS (rx_T2 (List.mem_of_getElem? (i := 151) (by decide +kernel))) rfl), List.forall_mem_cons.mpr ⟨(rx_inS (rx_T2 (List.mem_of_getElem? (i := 153) (by decide +kernel))) rfl), List.forall_mem_cons.mpr ⟨(rx_inS (rx_T2 (List.mem_of_getElem? (i := 155) (by decide +kernel))) rfl), List.forall_mem_cons.mpr ⟨(rx_inS (rx_T2 (List.mem_of_getElem? (i := 157) (by decide +kernel))) rfl), List.forall_mem_cons.mpr ⟨(rx_inS (rx_T2 (List.mem_of_getElem? (i := 159) (by decide +kernel))) rfl), List.forall_mem_cons.mpr ⟨(rx_inS (rx_T2 (List.mem_of_getElem? (i := 161) (by decide +kernel))) rfl), List.forall_mem_cons.mpr ⟨(rx_inS (rx_T2 (List.mem_of_getElem? (i := 163) (by decide +kernel))) rfl), List.forall_mem_cons.mpr ⟨(rx_inS (rx_T2 (List.mem_of_getElem? (i := 165) (by decide +kernel))) rfl), List.forall_mem_cons.mpr ⟨(rx_inS (rx_T2 (List.mem_of_getElem? (i := 167) (by decide +kernel))) rfl), List.forall_mem_cons.mpr ⟨(rx_inS (rx_T2 (List.mem_of_getElem? (i := 169) (by decide +kernel))) rfl), List.forall_mem_cons.mpr ⟨(rx_inS (rx_T2 (List.mem_of_getElem? (i := 171) (by decide +kernel))) rfl), List.forall_mem_cons.mpr ⟨(rx_inS (rx_T2 (List.mem_of_getElem? (i := 173) (by decide +kernel))) rfl), List.forall_mem_cons.mpr ⟨(rx_inS (rx_T2 (List.mem_of_getElem? (i := 175) (by decide +kernel))) rfl), List.forall_mem_cons.mpr ⟨(rx_inS (rx_T2 (List.mem_of_getElem? (i := 177) (by decide +kernel))) rfl), List.forall_mem_cons.mpr ⟨(rx_inS (rx_T2 (List.mem_of_getElem? (i := 179) (by decide +kernel))) rfl), List.forall_mem_cons.mpr ⟨(rx_inS (rx_T2 (List.mem_of_getElem? (i := 181) (by decide +kernel))) rfl), fun _ h => absurd h List.not_mem_nil⟩⟩⟩⟩⟩⟩⟩⟩⟩⟩⟩⟩⟩⟩⟩⟩
def Tc_Writer : u_T := fun k => match k with
  | 0 => ("DeflateEffort$Writer", "came", "[I", true)
  | 1 => ("DeflateEffort$Writer", "bitCount", "I", false)
  | 2 => ("DeflateEffort$Writer", "literalCode", "[I", true)
  | 3 => ("DeflateEffort$Writer", "distanceCode", "[I", true)
  | 4 => ("DeflateEffort$Writer", "lengthCode", "[I", true)
  | _ => ("DeflateEffort$Writer", "next", "[I", true)
def tyc_Writer : Nat → FieldType := fun k => match k with
  | 0 => (.array .int)
  | 1 => .int
  | 2 => (.array .int)
  | 3 => (.array .int)
  | 4 => (.array .int)
  | _ => (.array .int)
theorem nmc_Writer : ∀ a, a < 6 → ∀ b, b < 6 → a ≠ b → (Tc_Writer a).2.1 ≠ (Tc_Writer b).2.1 := by decide +kernel
theorem tyok_Writer : ∀ k, k < 6 → parseFieldDescriptor (Tc_Writer k).2.2.1 = some (tyc_Writer k) := by decide +kernel
theorem inc_Writer : ∀ w ∈ u_ws "DeflateEffort$Writer" Tc_Writer 6, w ∈ rx_Ts := by
  show ∀ w ∈ [u_lay "DeflateEffort$Writer" Tc_Writer 0, u_lay "DeflateEffort$Writer" Tc_Writer 1, u_lay "DeflateEffort$Writer" Tc_Writer 2, u_lay "DeflateEffort$Writer" Tc_Writer 3, u_lay "DeflateEffort$Writer" Tc_Writer 4, u_lay "DeflateEffort$Writer" Tc_Writer 5], w ∈ rx_Ts
  exact List.forall_mem_cons.mpr ⟨(rx_inS (rx_T1 (List.mem_of_getElem? (i := 52) (by decide +kernel))) rfl), List.forall_mem_cons.mpr ⟨(rx_inS (rx_T1 (List.mem_of_getElem? (i := 54) (by decide +kernel))) rfl), List.forall_mem_cons.mpr ⟨(rx_inS (rx_T1 (List.mem_of_getElem? (i := 56) (by decide +kernel))) rfl), List.forall_mem_cons.mpr ⟨(rx_inS (rx_T1 (List.mem_of_getElem? (i := 58) (by decide +kernel))) rfl), List.forall_mem_cons.mpr ⟨(rx_inS (rx_T1 (List.mem_of_getElem? (i := 60) (by decide +kernel))) rfl), List.forall_mem_cons.mpr ⟨(rx_inS (rx_T1 (List.mem_of_getElem? (i := 62) (by decide +kernel))) rfl), fun _ h => absurd h List.not_mem_nil⟩⟩⟩⟩⟩⟩
def Tc_DE : u_T := fun k => match k with
  | 0 => ("DeflateEffort", "effort", "I", true)
  | 1 => ("DeflateEffort", "room", "I", true)
  | 2 => ("DeflateEffort", "fed", "[I", true)
  | 3 => ("DeflateEffort", "fedCount", "I", false)
  | 4 => ("DeflateEffort", "cutter", "LDeflateEffort$Cutter;", true)
  | 5 => ("DeflateEffort", "writer", "LDeflateEffort$Writer;", true)
  | 6 => ("DeflateEffort", "coded", "[I", true)
  | 7 => ("DeflateEffort", "codedCount", "I", false)
  | _ => ("DeflateEffort", "reader", "LDeflateEffort$Reader;", true)
def tyc_DE : Nat → FieldType := fun k => match k with
  | 0 => .int
  | 1 => .int
  | 2 => (.array .int)
  | 3 => .int
  | 4 => (.object "DeflateEffort$Cutter")
  | 5 => (.object "DeflateEffort$Writer")
  | 6 => (.array .int)
  | 7 => .int
  | _ => (.object "DeflateEffort$Reader")
theorem nmc_DE : ∀ a, a < 9 → ∀ b, b < 9 → a ≠ b → (Tc_DE a).2.1 ≠ (Tc_DE b).2.1 := by decide +kernel
theorem tyok_DE : ∀ k, k < 9 → parseFieldDescriptor (Tc_DE k).2.2.1 = some (tyc_DE k) := by decide +kernel
theorem inc_DE : ∀ w ∈ u_ws "DeflateEffort" Tc_DE 9, w ∈ rx_Ts := by
  show ∀ w ∈ [u_lay "DeflateEffort" Tc_DE 0, u_lay "DeflateEffort" Tc_DE 1, u_lay "DeflateEffort" Tc_DE 2, u_lay "DeflateEffort" Tc_DE 3, u_lay "DeflateEffort" Tc_DE 4, u_lay "DeflateEffort" Tc_DE 5, u_lay "DeflateEffort" Tc_DE 6, u_lay "DeflateEffort" Tc_DE 7, u_lay "DeflateEffort" Tc_DE 8], w ∈ rx_Ts
  exact List.forall_mem_cons.mpr ⟨(rx_inS (rx_T2 (List.mem_of_getElem? (i := 193) (by decide +kernel))) rfl), List.forall_mem_cons.mpr ⟨(rx_inS (rx_T2 (List.mem_of_getElem? (i := 195) (by decide +kernel))) rfl), List.forall_mem_cons.mpr ⟨(rx_inS (rx_T2 (List.mem_of_getElem? (i := 197) (by decide +kernel))) rfl), List.forall_mem_cons.mpr ⟨(rx_inS (rx_T2 (List.mem_of_getElem? (i := 199) (by decide +kernel))) rfl), List.forall_mem_cons.mpr ⟨(rx_inS (rx_T2 (List.mem_of_getElem? (i := 201) (by decide +kernel))) rfl), List.forall_mem_cons.mpr ⟨(rx_inS (rx_T2 (List.mem_of_getElem? (i := 203) (by decide +kernel))) rfl), List.forall_mem_cons.mpr ⟨(rx_inS (rx_T2 (List.mem_of_getElem? (i := 205) (by decide +kernel))) rfl), List.forall_mem_cons.mpr ⟨(rx_inS (rx_T2 (List.mem_of_getElem? (i := 207) (by decide +kernel))) rfl), List.forall_mem_cons.mpr ⟨(rx_inS (rx_T2 (List.mem_of_getElem? (i := 209) (by decide +kernel))) rfl), fun _ h => absurd h List.not_mem_nil⟩⟩⟩⟩⟩⟩⟩⟩⟩
def Tc_MD : u_T := fun k => match k with
  | 0 => ("DeflateEffortModel", "effort", "I", true)
  | 1 => ("DeflateEffortModel", "room", "I", true)
  | 2 => ("DeflateEffortModel", "fault", "I", false)
  | 3 => ("DeflateEffortModel", "size", "I", false)
  | 4 => ("DeflateEffortModel", "bytes", "[I", true)
  | 5 => ("DeflateEffortModel", "codedSize", "I", false)
  | 6 => ("DeflateEffortModel", "coded", "[I", true)
  | 7 => ("DeflateEffortModel", "bits", "I", false)
  | 8 => ("DeflateEffortModel", "fedSize", "I", false)
  | 9 => ("DeflateEffortModel", "fed", "[I", true)
  | 10 => ("DeflateEffortModel", "outSize", "I", false)
  | 11 => ("DeflateEffortModel", "out", "[I", true)
  | 12 => ("DeflateEffortModel", "stop", "I", false)
  | 13 => ("DeflateEffortModel", "steps", "I", false)
  | 14 => ("DeflateEffortModel", "rounds", "I", false)
  | 15 => ("DeflateEffortModel", "blocks", "I", false)
  | 16 => ("DeflateEffortModel", "blockFrom", "[I", true)
  | 17 => ("DeflateEffortModel", "blockSize", "[I", true)
  | 18 => ("DeflateEffortModel", "blockKind", "[I", true)
  | 19 => ("DeflateEffortModel", "blockBits", "[I", true)
  | 20 => ("DeflateEffortModel", "blockTokens", "[I", true)
  | 21 => ("DeflateEffortModel", "blockMatches", "[I", true)
  | 22 => ("DeflateEffortModel", "tried", "[I", true)
  | 23 => ("DeflateEffortModel", "least", "[I", true)
  | 24 => ("DeflateEffortModel", "nextCut", "[I", true)
  | 25 => ("DeflateEffortModel", "matchSize", "[I", true)
  | 26 => ("DeflateEffortModel", "matchFar", "[I", true)
  | 27 => ("DeflateEffortModel", "tokens", "I", false)
  | 28 => ("DeflateEffortModel", "tokenSize", "[I", true)
  | 29 => ("DeflateEffortModel", "tokenFar", "[I", true)
  | 30 => ("DeflateEffortModel", "spare", "I", false)
  | 31 => ("DeflateEffortModel", "spareSize", "[I", true)
  | 32 => ("DeflateEffortModel", "spareFar", "[I", true)
  | 33 => ("DeflateEffortModel", "kind", "I", false)
  | 34 => ("DeflateEffortModel", "length", "I", false)
  | 35 => ("DeflateEffortModel", "blockRounds", "I", false)
  | 36 => ("DeflateEffortModel", "price", "[I", true)
  | 37 => ("DeflateEffortModel", "choice", "[I", true)
  | 38 => ("DeflateEffortModel", "litCount", "[I", true)
  | 39 => ("DeflateEffortModel", "litLength", "[I", true)
  | 40 => ("DeflateEffortModel", "litCode", "[I", true)
  | 41 => ("DeflateEffortModel", "farCount", "[I", true)
  | 42 => ("DeflateEffortModel", "farLength", "[I", true)
  | 43 => ("DeflateEffortModel", "farCode", "[I", true)
  | 44 => ("DeflateEffortModel", "setCount", "[I", true)
  | 45 => ("DeflateEffortModel", "setLength", "[I", true)
  | 46 => ("DeflateEffortModel", "setCode", "[I", true)
  | 47 => ("DeflateEffortModel", "rowSize", "I", false)
  | 48 => ("DeflateEffortModel", "rowSymbol", "[I", true)
  | 49 => ("DeflateEffortModel", "rowMore", "[I", true)
  | 50 => ("DeflateEffortModel", "litMany", "I", false)
  | 51 => ("DeflateEffortModel", "farMany", "I", false)
  | 52 => ("DeflateEffortModel", "setMany", "I", false)
  | 53 => ("DeflateEffortModel", "weight", "[I", true)
  | 54 => ("DeflateEffortModel", "upper", "[I", true)
  | 55 => ("DeflateEffortModel", "at", "I", false)
  | _ => ("DeflateEffortModel", "row", "[I", true)
def tyc_MD : Nat → FieldType := fun k => match k with
  | 0 => .int
  | 1 => .int
  | 2 => .int
  | 3 => .int
  | 4 => (.array .int)
  | 5 => .int
  | 6 => (.array .int)
  | 7 => .int
  | 8 => .int
  | 9 => (.array .int)
  | 10 => .int
  | 11 => (.array .int)
  | 12 => .int
  | 13 => .int
  | 14 => .int
  | 15 => .int
  | 16 => (.array .int)
  | 17 => (.array .int)
  | 18 => (.array .int)
  | 19 => (.array .int)
  | 20 => (.array .int)
  | 21 => (.array .int)
  | 22 => (.array .int)
  | 23 => (.array .int)
  | 24 => (.array .int)
  | 25 => (.array .int)
  | 26 => (.array .int)
  | 27 => .int
  | 28 => (.array .int)
  | 29 => (.array .int)
  | 30 => .int
  | 31 => (.array .int)
  | 32 => (.array .int)
  | 33 => .int
  | 34 => .int
  | 35 => .int
  | 36 => (.array .int)
  | 37 => (.array .int)
  | 38 => (.array .int)
  | 39 => (.array .int)
  | 40 => (.array .int)
  | 41 => (.array .int)
  | 42 => (.array .int)
  | 43 => (.array .int)
  | 44 => (.array .int)
  | 45 => (.array .int)
  | 46 => (.array .int)
  | 47 => .int
  | 48 => (.array .int)
  | 49 => (.array .int)
  | 50 => .int
  | 51 => .int
  | 52 => .int
  | 53 => (.array .int)
  | 54 => (.array .int)
  | 55 => .int
  | _ => (.array .int)
theorem nmc_MD : ∀ a, a < 57 → ∀ b, b < 57 → a ≠ b → (Tc_MD a).2.1 ≠ (Tc_MD b).2.1 := by decide +kernel
theorem tyok_MD : ∀ k, k < 57 → parseFieldDescriptor (Tc_MD k).2.2.1 = some (tyc_MD k) := by decide +kernel
theorem inc_MD : ∀ w ∈ u_ws "DeflateEffortModel" Tc_MD 57, w ∈ rx_Ts := by
  show ∀ w ∈ [u_lay "DeflateEffortModel" Tc_MD 0, u_lay "DeflateEffortModel" Tc_MD 1, u_lay "DeflateEffortModel" Tc_MD 2, u_lay "DeflateEffortModel" Tc_MD 3, u_lay "DeflateEffortModel" Tc_MD 4, u_lay "DeflateEffortModel" Tc_MD 5, u_lay "DeflateEffortModel" Tc_MD 6, u_lay "DeflateEffortModel" Tc_MD 7, u_lay "DeflateEffortModel" Tc_MD 8, u_lay "DeflateEffortModel" Tc_MD 9, u_lay "DeflateEffortModel" Tc_MD 10, u_lay "DeflateEffortModel" Tc_MD 11, u_lay "DeflateEffortModel" Tc_MD 12, u_lay "DeflateEffortModel" Tc_MD 13, u_lay "DeflateEffortModel" Tc_MD 14, u_lay "DeflateEffortModel" Tc_MD 15, u_lay "DeflateEffortModel" Tc_MD 16, u_lay "DeflateEffortModel" Tc_MD 17, u_lay "DeflateEffortModel" Tc_MD 18, u_lay "DeflateEffortModel" Tc_MD 19, u_lay "DeflateEffortModel" Tc_MD 20, u_lay "DeflateEffortModel" Tc_MD 21, u_lay "DeflateEffortModel" Tc_MD 22, u_lay "DeflateEffortModel" Tc_MD 23, u_lay "DeflateEffortModel" Tc_MD 24, u_lay "DeflateEffortModel" Tc_MD 25, u_lay "DeflateEffortModel" Tc_MD 26, u_lay "DeflateEffortModel" Tc_MD 27, u_lay "DeflateEffortModel" Tc_MD 28, u_lay "DeflateEffortModel" Tc_MD 29, u_lay "DeflateEffortModel" Tc_MD 30, u_lay "DeflateEffortModel" Tc_MD 31, u_lay "DeflateEffortModel" Tc_MD 32, u_lay "DeflateEffortModel" Tc_MD 33, u_lay "DeflateEffortModel" Tc_MD 34, u_lay "DeflateEffortModel" Tc_MD 35, u_lay "DeflateEffortModel" Tc_MD 36, u_lay "DeflateEffortModel" Tc_MD 37, u_lay "DeflateEffortModel" Tc_MD 38, u_lay "DeflateEffortModel" Tc_MD 39, u_lay "DeflateEffortModel" Tc_MD 40, u_lay "DeflateEffortModel" Tc_MD 41, u_lay "DeflateEffortModel" Tc_MD 42, u_lay "DeflateEffortModel" Tc_MD 43, u_lay "DeflateEffortModel" Tc_MD 44, u_lay "DeflateEffortModel" Tc_MD 45, u_lay "DeflateEffortModel" Tc_MD 46, u_lay "DeflateEffortModel" Tc_MD 47, u_lay "DeflateEffortModel" Tc_MD 48, u_lay "DeflateEffortModel" Tc_MD 49, u_lay "DeflateEffortModel" Tc_MD 50, u_lay "DeflateEffortModel" Tc_MD 51, u_lay "DeflateEffortModel" Tc_MD 52, u_lay "DeflateEffortModel" Tc_MD 53, u_lay "DeflateEffortModel" Tc_MD 54, u_lay "DeflateEffortModel" Tc_MD 55, u_lay "DeflateEffortModel" Tc_MD 56], w ∈ rx_Ts
  exact List.forall_mem_cons.mpr ⟨(rx_inS (rx_T6 (List.mem_of_getElem? (i := 138) (by decide +kernel))) rfl), List.forall_mem_cons.mpr ⟨(rx_inS (rx_T6 (List.mem_of_getElem? (i := 140) (by decide +kernel))) rfl), List.forall_mem_cons.mpr ⟨(rx_inS (rx_T6 (List.mem_of_getElem? (i := 142) (by decide +kernel))) rfl), List.forall_mem_cons.mpr ⟨(rx_inS (rx_T6 (List.mem_of_getElem? (i := 144) (by decide +kernel))) rfl), List.forall_mem_cons.mpr ⟨(rx_inS (rx_T6 (List.mem_of_getElem? (i := 146) (by decide +kernel))) rfl), List.forall_mem_cons.mpr ⟨(rx_inS (rx_T6 (List.mem_of_getElem? (i := 148) (by decide +kernel))) rfl), List.forall_mem_cons.mpr ⟨(rx_inS (rx_T6 (List.mem_of_getElem? (i := 150) (by decide +kernel))) rfl), List.forall_mem_cons.mpr ⟨(rx_inS (rx_T6 (List.mem_of_getElem? (i := 152) (by decide +kernel))) rfl), List.forall_mem_cons.mpr ⟨(rx_inS (rx_T6 (List.mem_of_getElem? (i := 154) (by decide +kernel))) rfl), List.forall_mem_cons.mpr ⟨(rx_inS (rx_T6 (List.mem_of_getElem? (i := 156) (by decide +kernel))) rfl), List.forall_mem_cons.mpr ⟨(rx_inS (rx_T6 (List.mem_of_getElem? (i := 158) (by decide +kernel))) rfl), List.forall_mem_cons.mpr ⟨(rx_inS (rx_T6 (List.mem_of_getElem? (i := 160) (by decide +kernel))) rfl), List.forall_mem_cons.mpr ⟨(rx_inS (rx_T6 (List.mem_of_getElem? (i := 162) (by decide +kernel))) rfl), List.forall_mem_cons.mpr ⟨(rx_inS (rx_T6 (List.mem_of_getElem? (i := 164) (by decide +kernel))) rfl), List.forall_mem_cons.mpr ⟨(rx_inS (rx_T6 (List.mem_of_getElem? (i := 166) (by decide +kernel))) rfl), List.forall_mem_cons.mpr ⟨(rx_inS (rx_T6 (List.mem_of_getElem? (i := 168) (by decide +kernel))) rfl), List.forall_mem_cons.mpr ⟨(rx_inS (rx_T6 (List.mem_of_getElem? (i := 170) (by decide +kernel))) rfl), List.forall_mem_cons.mpr ⟨(rx_inS (rx_T6 (List.mem_of_getElem? (i := 172) (by decide +kernel))) rfl), List.forall_mem_cons.mpr ⟨(rx_inS (rx_T6 (List.mem_of_getElem? (i := 174) (by decide +kernel))) rfl), List.forall_mem_cons.mpr ⟨(rx_inS (rx_T6 (List.mem_of_getElem? (i := 176) (by decide +kernel))) rfl), List.forall_mem_cons.mpr ⟨(rx_inS (rx_T6 (List.mem_of_getElem? (i := 178) (by decide +kernel))) rfl), List.forall_mem_cons.mpr ⟨(rx_inS (rx_T6 (List.mem_of_getElem? (i := 180) (by decide +kernel))) rfl), List.forall_mem_cons.mpr ⟨(rx_inS (rx_T6 (List.mem_of_getElem? (i := 182) (by decide +kernel))) rfl), List.forall_mem_cons.mpr ⟨(rx_inS (rx_T6 (List.mem_of_getElem? (i := 184) (by decide +kernel))) rfl), List.forall_mem_cons.mpr ⟨(rx_inS (rx_T6 (List.mem_of_getElem? (i := 186) (by decide +kernel))) rfl), List.forall_mem_cons.mpr ⟨(rx_inS (rx_T6 (List.mem_of_getElem? (i := 188) (by decide +kernel))) rfl), List.forall_mem_cons.mpr ⟨(rx_inS (rx_T6 (List.mem_of_getElem? (i := 190) (by decide +kernel))) rfl), List.forall_mem_cons.mpr ⟨(rx_inS (rx_T6 (List.mem_of_getElem? (i := 192) (by decide +kernel))) rfl), List.forall_mem_cons.mpr ⟨(rx_inS (rx_T6 (List.mem_of_getElem? (i := 194) (by decide +kernel))) rfl), List.forall_mem_cons.mpr ⟨(rx_inS (rx_T6 (List.mem_of_getElem? (i := 196) (by decide +kernel))) rfl), List.forall_mem_cons.mpr ⟨(rx_inS (rx_T6 (List.mem_of_getElem? (i := 198) (by decide +kernel))) rfl), List.forall_mem_cons.mpr ⟨(rx_inS (rx_T6 (List.mem_of_getElem? (i := 200) (by decide +kernel))) rfl), List.forall_mem_cons.mpr ⟨(rx_inS (rx_T6 (List.mem_of_getElem? (i := 202) (by decide +kernel))) rfl), List.forall_mem_cons.mpr ⟨(rx_inS (rx_T6 (List.mem_of_getElem? (i := 204) (by decide +kernel))) rfl), List.forall_mem_cons.mpr ⟨(rx_inS (rx_T6 (List.mem_of_getElem? (i := 206) (by decide +kernel))) rfl), List.forall_mem_cons.mpr ⟨(rx_inS (rx_T6 (List.mem_of_getElem? (i := 208) (by decide +kernel))) rfl), List.forall_mem_cons.mpr ⟨(rx_inS (rx_T6 (List.mem_of_getElem? (i := 210) (by decide +kernel))) rfl), List.forall_mem_cons.mpr ⟨(rx_inS (rx_T6 (List.mem_of_getElem? (i := 212) (by decide +kernel))) rfl), List.forall_mem_cons.mpr ⟨(rx_inS (rx_T6 (List.mem_of_getElem? (i := 214) (by decide +kernel))) rfl), List.forall_mem_cons.mpr ⟨(rx_inS (rx_T6 (List.mem_of_getElem? (i := 216) (by decide +kernel))) rfl), List.forall_mem_cons.mpr ⟨(rx_inS (rx_T6 (List.mem_of_getElem? (i := 218) (by decide +kernel))) rfl), List.forall_mem_cons.mpr ⟨(rx_inS (rx_T6 (List.mem_of_getElem? (i := 220) (by decide +kernel))) rfl), List.forall_mem_cons.mpr ⟨(rx_inS (rx_T6 (List.mem_of_getElem? (i := 222) (by decide +kernel))) rfl), List.forall_mem_cons.mpr ⟨(rx_inS (rx_T6 (List.mem_of_getElem? (i := 224) (by decide +kernel))) rfl), List.forall_mem_cons.mpr ⟨(rx_inS (rx_T6 (List.mem_of_getElem? (i := 226) (by decide +kernel))) rfl), List.forall_mem_cons.mpr ⟨(rx_inS (rx_T6 (List.mem_of_getElem? (i := 228) (by decide +kernel))) rfl), List.forall_mem_cons.mpr ⟨(rx_inS (rx_T6 (List.mem_of_getElem? (i := 230) (by decide +kernel))) rfl), List.forall_mem_cons.mpr ⟨(rx_inS (rx_T6 (List.mem_of_getElem? (i := 232) (by decide +kernel))) rfl), List.forall_mem_cons.mpr ⟨(rx_inS (rx_T6 (List.mem_of_getElem? (i := 234) (by decide +kernel))) rfl), List.forall_mem_cons.mpr ⟨(rx_inS (rx_T6 (List.mem_of_getElem? (i := 236) (by decide +kernel))) rfl), List.forall_mem_cons.mpr ⟨(rx_inS (rx_T6 (List.mem_of_getElem? (i := 238) (by decide +kernel))) rfl), List.forall_mem_cons.mpr ⟨(rx_inS (rx_T7 (List.mem_of_getElem? (i := 0) (by decide +kernel))) rfl), List.forall_mem_cons.mpr ⟨(rx_inS (rx_T7 (List.mem_of_getElem? (i := 2) (by decide +kernel))) rfl), List.forall_mem_cons.mpr ⟨(rx_inS (rx_T7 (List.mem_of_getElem? (i := 4) (by decide +kernel))) rfl), List.forall_mem_cons.mpr ⟨(rx_inS (rx_T7 (List.mem_of_getElem? (i := 6) (by decide +kernel))) rfl), List.forall_mem_cons.mpr ⟨(rx_inS (rx_T7 (List.mem_of_getElem? (i := 8) (by decide +kernel))) rfl), List.forall_mem_cons.mpr ⟨(rx_inS (rx_T7 (List.mem_of_getElem? (i := 10) (by decide +kernel))) rfl), fun _ h => absurd h List.not_mem_nil⟩⟩⟩⟩⟩⟩⟩⟩⟩⟩⟩⟩⟩⟩⟩⟩⟩⟩⟩⟩⟩⟩⟩⟩⟩⟩⟩⟩⟩⟩⟩⟩⟩⟩⟩⟩⟩⟩⟩⟩⟩⟩⟩⟩⟩⟩⟩⟩⟩⟩⟩⟩⟩⟩⟩⟩⟩
abbrev rx_cl : List vw_C := [("DeflateEffort$Block", Tc_Block, 9), ("DeflateEffort$Code", Tc_Code, 2), ("DeflateEffort$CodeSet", Tc_CodeSet, 6), ("DeflateEffort$Cutter", Tc_Cutter, 12), ("DeflateEffort$Joiner", Tc_Joiner, 3), ("DeflateEffort$LengthRow", Tc_LengthRow, 6), ("DeflateEffort$Matches", Tc_Matches, 5), ("DeflateEffort$Plan", Tc_Plan, 7), ("DeflateEffort$Prices", Tc_Prices, 4), ("DeflateEffort$Reader", Tc_Reader, 16), ("DeflateEffort$Writer", Tc_Writer, 6), ("DeflateEffort", Tc_DE, 9), ("DeflateEffortModel", Tc_MD, 57)]
