section
-- ===== PART A: goes FIRST, ahead of the names: the tables' words, and 'selects' of the private methods out of them =====
/-- a private method of a class that the tables say can be made, by its rows of tables_1 -/
def lw_okq (q : MethodName × Nat) : Prop := (q.1.cls ≠ "java/lang/invoke/MethodHandle" ∧ q.1.cls ≠ "java/lang/invoke/VarHandle") ∧ Cond.instantiable q.1.cls q.2 ∈ tables_1 ∧ Cond.privateMethod q.1 ∈ tables_1 ∧ Cond.instanceMethod q.1 ∈ tables_1
theorem lw_p0 : lw_okq (⟨"ReasonDesk", "faulted", "(I)I"⟩, 15) := ⟨⟨by decide +kernel, by decide +kernel⟩, List.mem_of_getElem? (i := 20) (by decide +kernel), List.mem_of_getElem? (i := 328) (by decide +kernel), List.mem_of_getElem? (i := 329) (by decide +kernel)⟩
theorem lw_p1 : lw_okq (⟨"ReasonDesk$Reader", "bind", "(I)V"⟩, 4) := ⟨⟨by decide +kernel, by decide +kernel⟩, List.mem_of_getElem? (i := 47) (by decide +kernel), List.mem_of_getElem? (i := 347) (by decide +kernel), List.mem_of_getElem? (i := 348) (by decide +kernel)⟩
theorem lw_p2 : lw_okq (⟨"ReasonDesk$Reader", "apply", "(I)V"⟩, 4) := ⟨⟨by decide +kernel, by decide +kernel⟩, List.mem_of_getElem? (i := 47) (by decide +kernel), List.mem_of_getElem? (i := 351) (by decide +kernel), List.mem_of_getElem? (i := 352) (by decide +kernel)⟩
theorem lw_p3 : lw_okq (⟨"ReasonDesk$Reader", "mark", "(I)V"⟩, 4) := ⟨⟨by decide +kernel, by decide +kernel⟩, List.mem_of_getElem? (i := 47) (by decide +kernel), List.mem_of_getElem? (i := 373) (by decide +kernel), List.mem_of_getElem? (i := 374) (by decide +kernel)⟩
theorem lw_p4 : lw_okq (⟨"ReasonDesk$Reader", "closeBracket", "()V"⟩, 4) := ⟨⟨by decide +kernel, by decide +kernel⟩, List.mem_of_getElem? (i := 47) (by decide +kernel), List.mem_of_getElem? (i := 377) (by decide +kernel), List.mem_of_getElem? (i := 378) (by decide +kernel)⟩
theorem lw_p5 : lw_okq (⟨"ReasonDesk$Reader", "operand", "(I)V"⟩, 4) := ⟨⟨by decide +kernel, by decide +kernel⟩, List.mem_of_getElem? (i := 47) (by decide +kernel), List.mem_of_getElem? (i := 381) (by decide +kernel), List.mem_of_getElem? (i := 382) (by decide +kernel)⟩
theorem lw_p6 : lw_okq (⟨"ReasonDesk$Reader", "turnAsMarked", "()V"⟩, 4) := ⟨⟨by decide +kernel, by decide +kernel⟩, List.mem_of_getElem? (i := 47) (by decide +kernel), List.mem_of_getElem? (i := 402) (by decide +kernel), List.mem_of_getElem? (i := 403) (by decide +kernel)⟩
theorem lw_p7 : lw_okq (⟨"ReasonDesk", "newSentence", "()I"⟩, 15) := ⟨⟨by decide +kernel, by decide +kernel⟩, List.mem_of_getElem? (i := 20) (by decide +kernel), List.mem_of_getElem? (i := 417) (by decide +kernel), List.mem_of_getElem? (i := 418) (by decide +kernel)⟩
theorem lw_p8 : lw_okq (⟨"ReasonDesk", "sentenceAt", "(I)LReasonDesk$Bits;"⟩, 15) := ⟨⟨by decide +kernel, by decide +kernel⟩, List.mem_of_getElem? (i := 20) (by decide +kernel), List.mem_of_getElem? (i := 425) (by decide +kernel), List.mem_of_getElem? (i := 426) (by decide +kernel)⟩
theorem lw_p9 : lw_okq (⟨"ReasonDesk$Book", "collect", "(LReasonDesk$Bits;II)V"⟩, 12) := ⟨⟨by decide +kernel, by decide +kernel⟩, List.mem_of_getElem? (i := 68) (by decide +kernel), List.mem_of_getElem? (i := 577) (by decide +kernel), List.mem_of_getElem? (i := 578) (by decide +kernel)⟩
theorem lw_p10 : lw_okq (⟨"ReasonDesk$Bits", "lowered", "(II)J"⟩, 1) := ⟨⟨by decide +kernel, by decide +kernel⟩, List.mem_of_getElem? (i := 35) (by decide +kernel), List.mem_of_getElem? (i := 590) (by decide +kernel), List.mem_of_getElem? (i := 591) (by decide +kernel)⟩
theorem lw_p11 : lw_okq (⟨"ReasonDesk", "inWay", "(LReasonDesk$Bits;I)LReasonDesk$Bits;"⟩, 15) := ⟨⟨by decide +kernel, by decide +kernel⟩, List.mem_of_getElem? (i := 20) (by decide +kernel), List.mem_of_getElem? (i := 641) (by decide +kernel), List.mem_of_getElem? (i := 642) (by decide +kernel)⟩
theorem lw_p12 : lw_okq (⟨"ReasonDesk$Bits", "raised", "(II)J"⟩, 1) := ⟨⟨by decide +kernel, by decide +kernel⟩, List.mem_of_getElem? (i := 35) (by decide +kernel), List.mem_of_getElem? (i := 654) (by decide +kernel), List.mem_of_getElem? (i := 655) (by decide +kernel)⟩
theorem lw_p13 : lw_okq (⟨"ReasonDesk$Book", "ofReasons", "(LReasonDesk$Bits;)I"⟩, 12) := ⟨⟨by decide +kernel, by decide +kernel⟩, List.mem_of_getElem? (i := 68) (by decide +kernel), List.mem_of_getElem? (i := 758) (by decide +kernel), List.mem_of_getElem? (i := 759) (by decide +kernel)⟩
theorem lw_p14 : lw_okq (⟨"ReasonDesk$Book", "recovers", "(LReasonDesk$Bits;II)Z"⟩, 12) := ⟨⟨by decide +kernel, by decide +kernel⟩, List.mem_of_getElem? (i := 68) (by decide +kernel), List.mem_of_getElem? (i := 763) (by decide +kernel), List.mem_of_getElem? (i := 764) (by decide +kernel)⟩
theorem lw_p15 : lw_okq (⟨"ReasonDesk$Rules", "goes", "(ILReasonDesk$Bits;)Z"⟩, 12) := ⟨⟨by decide +kernel, by decide +kernel⟩, List.mem_of_getElem? (i := 123) (by decide +kernel), List.mem_of_getElem? (i := 849) (by decide +kernel), List.mem_of_getElem? (i := 850) (by decide +kernel)⟩
def lw_privs_1 : List (MethodName × Nat) := [(⟨"ReasonDesk", "faulted", "(I)I"⟩, 15), (⟨"ReasonDesk$Reader", "bind", "(I)V"⟩, 4), (⟨"ReasonDesk$Reader", "apply", "(I)V"⟩, 4), (⟨"ReasonDesk$Reader", "mark", "(I)V"⟩, 4), (⟨"ReasonDesk$Reader", "closeBracket", "()V"⟩, 4), (⟨"ReasonDesk$Reader", "operand", "(I)V"⟩, 4), (⟨"ReasonDesk$Reader", "turnAsMarked", "()V"⟩, 4), (⟨"ReasonDesk", "newSentence", "()I"⟩, 15), (⟨"ReasonDesk", "sentenceAt", "(I)LReasonDesk$Bits;"⟩, 15), (⟨"ReasonDesk$Book", "collect", "(LReasonDesk$Bits;II)V"⟩, 12), (⟨"ReasonDesk$Bits", "lowered", "(II)J"⟩, 1), (⟨"ReasonDesk", "inWay", "(LReasonDesk$Bits;I)LReasonDesk$Bits;"⟩, 15), (⟨"ReasonDesk$Bits", "raised", "(II)J"⟩, 1), (⟨"ReasonDesk$Book", "ofReasons", "(LReasonDesk$Bits;)I"⟩, 12), (⟨"ReasonDesk$Book", "recovers", "(LReasonDesk$Bits;II)Z"⟩, 12), (⟨"ReasonDesk$Rules", "goes", "(ILReasonDesk$Bits;)Z"⟩, 12)]
theorem lw_r1 : ∀ q ∈ lw_privs_1, lw_okq q := List.forall_mem_cons.mpr ⟨lw_p0, List.forall_mem_cons.mpr ⟨lw_p1, List.forall_mem_cons.mpr ⟨lw_p2, List.forall_mem_cons.mpr ⟨lw_p3, List.forall_mem_cons.mpr ⟨lw_p4, List.forall_mem_cons.mpr ⟨lw_p5, List.forall_mem_cons.mpr ⟨lw_p6, List.forall_mem_cons.mpr ⟨lw_p7, List.forall_mem_cons.mpr ⟨lw_p8, List.forall_mem_cons.mpr ⟨lw_p9, List.forall_mem_cons.mpr ⟨lw_p10, List.forall_mem_cons.mpr ⟨lw_p11, List.forall_mem_cons.mpr ⟨lw_p12, List.forall_mem_cons.mpr ⟨lw_p13, List.forall_mem_cons.mpr ⟨lw_p14, List.forall_mem_cons.mpr ⟨lw_p15, fun _ h => absurd h List.not_mem_nil⟩⟩⟩⟩⟩⟩⟩⟩⟩⟩⟩⟩⟩⟩⟩⟩
theorem lw_p16 : lw_okq (⟨"ReasonDesk$Rules", "able", "()I"⟩, 12) := ⟨⟨by decide +kernel, by decide +kernel⟩, List.mem_of_getElem? (i := 123) (by decide +kernel), List.mem_of_getElem? (i := 863) (by decide +kernel), List.mem_of_getElem? (i := 864) (by decide +kernel)⟩
theorem lw_p17 : lw_okq (⟨"ReasonDesk$Rules", "inRow", "(I)I"⟩, 12) := ⟨⟨by decide +kernel, by decide +kernel⟩, List.mem_of_getElem? (i := 123) (by decide +kernel), List.mem_of_getElem? (i := 867) (by decide +kernel), List.mem_of_getElem? (i := 868) (by decide +kernel)⟩
theorem lw_p18 : lw_okq (⟨"ReasonDesk$Rules", "isExtension", "(I)Z"⟩, 12) := ⟨⟨by decide +kernel, by decide +kernel⟩, List.mem_of_getElem? (i := 123) (by decide +kernel), List.mem_of_getElem? (i := 873) (by decide +kernel), List.mem_of_getElem? (i := 874) (by decide +kernel)⟩
theorem lw_p19 : lw_okq (⟨"ReasonDesk$Rules", "worth", "(I)J"⟩, 12) := ⟨⟨by decide +kernel, by decide +kernel⟩, List.mem_of_getElem? (i := 123) (by decide +kernel), List.mem_of_getElem? (i := 903) (by decide +kernel), List.mem_of_getElem? (i := 904) (by decide +kernel)⟩
theorem lw_p20 : lw_okq (⟨"ReasonDesk$Claims", "findStrikes", "()V"⟩, 17) := ⟨⟨by decide +kernel, by decide +kernel⟩, List.mem_of_getElem? (i := 173) (by decide +kernel), List.mem_of_getElem? (i := 949) (by decide +kernel), List.mem_of_getElem? (i := 950) (by decide +kernel)⟩
theorem lw_p21 : lw_okq (⟨"ReasonDesk$Claims", "trustOf", "(I)I"⟩, 17) := ⟨⟨by decide +kernel, by decide +kernel⟩, List.mem_of_getElem? (i := 173) (by decide +kernel), List.mem_of_getElem? (i := 954) (by decide +kernel), List.mem_of_getElem? (i := 955) (by decide +kernel)⟩
theorem lw_p22 : lw_okq (⟨"ReasonDesk$Claims", "findRounds", "()V"⟩, 17) := ⟨⟨by decide +kernel, by decide +kernel⟩, List.mem_of_getElem? (i := 173) (by decide +kernel), List.mem_of_getElem? (i := 961) (by decide +kernel), List.mem_of_getElem? (i := 962) (by decide +kernel)⟩
theorem lw_p23 : lw_okq (⟨"ReasonDesk$Claims", "allOf", "([II)I"⟩, 17) := ⟨⟨by decide +kernel, by decide +kernel⟩, List.mem_of_getElem? (i := 173) (by decide +kernel), List.mem_of_getElem? (i := 965) (by decide +kernel), List.mem_of_getElem? (i := 966) (by decide +kernel)⟩
theorem lw_p24 : lw_okq (⟨"ReasonDesk$Claims", "fillLow", "()V"⟩, 17) := ⟨⟨by decide +kernel, by decide +kernel⟩, List.mem_of_getElem? (i := 173) (by decide +kernel), List.mem_of_getElem? (i := 978) (by decide +kernel), List.mem_of_getElem? (i := 979) (by decide +kernel)⟩
theorem lw_p25 : lw_okq (⟨"ReasonDesk$Claims", "seekFrom", "(I)V"⟩, 17) := ⟨⟨by decide +kernel, by decide +kernel⟩, List.mem_of_getElem? (i := 173) (by decide +kernel), List.mem_of_getElem? (i := 982) (by decide +kernel), List.mem_of_getElem? (i := 983) (by decide +kernel)⟩
theorem lw_p26 : lw_okq (⟨"ReasonDesk$Merging", "costOf", "(II[I)I"⟩, 4) := ⟨⟨by decide +kernel, by decide +kernel⟩, List.mem_of_getElem? (i := 243) (by decide +kernel), List.mem_of_getElem? (i := 1044) (by decide +kernel), List.mem_of_getElem? (i := 1045) (by decide +kernel)⟩
theorem lw_p27 : lw_okq (⟨"ReasonDeskModel", "refused", "(I)I"⟩, 68) := ⟨⟨by decide +kernel, by decide +kernel⟩, List.mem_of_getElem? (i := 1171) (by decide +kernel), List.mem_of_getElem? (i := 1395) (by decide +kernel), List.mem_of_getElem? (i := 1396) (by decide +kernel)⟩
theorem lw_p28 : lw_okq (⟨"ReasonDeskModel", "failed", "(I)I"⟩, 68) := ⟨⟨by decide +kernel, by decide +kernel⟩, List.mem_of_getElem? (i := 1171) (by decide +kernel), List.mem_of_getElem? (i := 1400) (by decide +kernel), List.mem_of_getElem? (i := 1401) (by decide +kernel)⟩
theorem lw_p29 : lw_okq (⟨"ReasonDeskModel", "parse", "(II)I"⟩, 68) := ⟨⟨by decide +kernel, by decide +kernel⟩, List.mem_of_getElem? (i := 1171) (by decide +kernel), List.mem_of_getElem? (i := 1407) (by decide +kernel), List.mem_of_getElem? (i := 1408) (by decide +kernel)⟩
theorem lw_p30 : lw_okq (⟨"ReasonDeskModel", "operand", "(I)V"⟩, 68) := ⟨⟨by decide +kernel, by decide +kernel⟩, List.mem_of_getElem? (i := 1171) (by decide +kernel), List.mem_of_getElem? (i := 1413) (by decide +kernel), List.mem_of_getElem? (i := 1414) (by decide +kernel)⟩
theorem lw_p31 : lw_okq (⟨"ReasonDeskModel", "pushLetter", "(I)V"⟩, 68) := ⟨⟨by decide +kernel, by decide +kernel⟩, List.mem_of_getElem? (i := 1171) (by decide +kernel), List.mem_of_getElem? (i := 1417) (by decide +kernel), List.mem_of_getElem? (i := 1418) (by decide +kernel)⟩
def lw_privs_2 : List (MethodName × Nat) := [(⟨"ReasonDesk$Rules", "able", "()I"⟩, 12), (⟨"ReasonDesk$Rules", "inRow", "(I)I"⟩, 12), (⟨"ReasonDesk$Rules", "isExtension", "(I)Z"⟩, 12), (⟨"ReasonDesk$Rules", "worth", "(I)J"⟩, 12), (⟨"ReasonDesk$Claims", "findStrikes", "()V"⟩, 17), (⟨"ReasonDesk$Claims", "trustOf", "(I)I"⟩, 17), (⟨"ReasonDesk$Claims", "findRounds", "()V"⟩, 17), (⟨"ReasonDesk$Claims", "allOf", "([II)I"⟩, 17), (⟨"ReasonDesk$Claims", "fillLow", "()V"⟩, 17), (⟨"ReasonDesk$Claims", "seekFrom", "(I)V"⟩, 17), (⟨"ReasonDesk$Merging", "costOf", "(II[I)I"⟩, 4), (⟨"ReasonDeskModel", "refused", "(I)I"⟩, 68), (⟨"ReasonDeskModel", "failed", "(I)I"⟩, 68), (⟨"ReasonDeskModel", "parse", "(II)I"⟩, 68), (⟨"ReasonDeskModel", "operand", "(I)V"⟩, 68), (⟨"ReasonDeskModel", "pushLetter", "(I)V"⟩, 68)]
theorem lw_r2 : ∀ q ∈ lw_privs_2, lw_okq q := List.forall_mem_cons.mpr ⟨lw_p16, List.forall_mem_cons.mpr ⟨lw_p17, List.forall_mem_cons.mpr ⟨lw_p18, List.forall_mem_cons.mpr ⟨lw_p19, List.forall_mem_cons.mpr ⟨lw_p20, List.forall_mem_cons.mpr ⟨lw_p21, List.forall_mem_cons.mpr ⟨lw_p22, List.forall_mem_cons.mpr ⟨lw_p23, List.forall_mem_cons.mpr ⟨lw_p24, List.forall_mem_cons.mpr ⟨lw_p25, List.forall_mem_cons.mpr ⟨lw_p26, List.forall_mem_cons.mpr ⟨lw_p27, List.forall_mem_cons.mpr ⟨lw_p28, List.forall_mem_cons.mpr ⟨lw_p29, List.forall_mem_cons.mpr ⟨lw_p30, List.forall_mem_cons.mpr ⟨lw_p31, fun _ h => absurd h List.not_mem_nil⟩⟩⟩⟩⟩⟩⟩⟩⟩⟩⟩⟩⟩⟩⟩⟩
theorem lw_p32 : lw_okq (⟨"ReasonDeskModel", "pushAll", "(Z)V"⟩, 68) := ⟨⟨by decide +kernel, by decide +kernel⟩, List.mem_of_getElem? (i := 1171) (by decide +kernel), List.mem_of_getElem? (i := 1424) (by decide +kernel), List.mem_of_getElem? (i := 1425) (by decide +kernel)⟩
theorem lw_p33 : lw_okq (⟨"ReasonDeskModel", "turned", "()V"⟩, 68) := ⟨⟨by decide +kernel, by decide +kernel⟩, List.mem_of_getElem? (i := 1171) (by decide +kernel), List.mem_of_getElem? (i := 1429) (by decide +kernel), List.mem_of_getElem? (i := 1430) (by decide +kernel)⟩
theorem lw_p34 : lw_okq (⟨"ReasonDeskModel", "turnTop", "()V"⟩, 68) := ⟨⟨by decide +kernel, by decide +kernel⟩, List.mem_of_getElem? (i := 1171) (by decide +kernel), List.mem_of_getElem? (i := 1433) (by decide +kernel), List.mem_of_getElem? (i := 1434) (by decide +kernel)⟩
theorem lw_p35 : lw_okq (⟨"ReasonDeskModel", "operator", "(I)V"⟩, 68) := ⟨⟨by decide +kernel, by decide +kernel⟩, List.mem_of_getElem? (i := 1171) (by decide +kernel), List.mem_of_getElem? (i := 1437) (by decide +kernel), List.mem_of_getElem? (i := 1438) (by decide +kernel)⟩
theorem lw_p36 : lw_okq (⟨"ReasonDeskModel", "reduce", "()V"⟩, 68) := ⟨⟨by decide +kernel, by decide +kernel⟩, List.mem_of_getElem? (i := 1171) (by decide +kernel), List.mem_of_getElem? (i := 1444) (by decide +kernel), List.mem_of_getElem? (i := 1445) (by decide +kernel)⟩
theorem lw_p37 : lw_okq (⟨"ReasonDeskModel", "noSentence", "(I)Z"⟩, 68) := ⟨⟨by decide +kernel, by decide +kernel⟩, List.mem_of_getElem? (i := 1171) (by decide +kernel), List.mem_of_getElem? (i := 1453) (by decide +kernel), List.mem_of_getElem? (i := 1454) (by decide +kernel)⟩
theorem lw_p38 : lw_okq (⟨"ReasonDeskModel", "countAt", "(I)I"⟩, 68) := ⟨⟨by decide +kernel, by decide +kernel⟩, List.mem_of_getElem? (i := 1171) (by decide +kernel), List.mem_of_getElem? (i := 1461) (by decide +kernel), List.mem_of_getElem? (i := 1462) (by decide +kernel)⟩
theorem lw_p39 : lw_okq (⟨"ReasonDeskModel", "isWithin", "(II)Z"⟩, 68) := ⟨⟨by decide +kernel, by decide +kernel⟩, List.mem_of_getElem? (i := 1171) (by decide +kernel), List.mem_of_getElem? (i := 1477) (by decide +kernel), List.mem_of_getElem? (i := 1478) (by decide +kernel)⟩
theorem lw_p40 : lw_okq (⟨"ReasonDeskModel", "areApart", "(II)Z"⟩, 68) := ⟨⟨by decide +kernel, by decide +kernel⟩, List.mem_of_getElem? (i := 1171) (by decide +kernel), List.mem_of_getElem? (i := 1481) (by decide +kernel), List.mem_of_getElem? (i := 1482) (by decide +kernel)⟩
theorem lw_p41 : lw_okq (⟨"ReasonDeskModel", "otherView", "()V"⟩, 68) := ⟨⟨by decide +kernel, by decide +kernel⟩, List.mem_of_getElem? (i := 1171) (by decide +kernel), List.mem_of_getElem? (i := 1494) (by decide +kernel), List.mem_of_getElem? (i := 1495) (by decide +kernel)⟩
theorem lw_p42 : lw_okq (⟨"ReasonDeskModel", "addEntry", "(IIIII)I"⟩, 68) := ⟨⟨by decide +kernel, by decide +kernel⟩, List.mem_of_getElem? (i := 1171) (by decide +kernel), List.mem_of_getElem? (i := 1503) (by decide +kernel), List.mem_of_getElem? (i := 1504) (by decide +kernel)⟩
theorem lw_p43 : lw_okq (⟨"ReasonDeskModel", "lay", "()V"⟩, 68) := ⟨⟨by decide +kernel, by decide +kernel⟩, List.mem_of_getElem? (i := 1171) (by decide +kernel), List.mem_of_getElem? (i := 1511) (by decide +kernel), List.mem_of_getElem? (i := 1512) (by decide +kernel)⟩
theorem lw_p44 : lw_okq (⟨"ReasonDeskModel", "layWorlds", "()V"⟩, 68) := ⟨⟨by decide +kernel, by decide +kernel⟩, List.mem_of_getElem? (i := 1171) (by decide +kernel), List.mem_of_getElem? (i := 1515) (by decide +kernel), List.mem_of_getElem? (i := 1516) (by decide +kernel)⟩
theorem lw_p45 : lw_okq (⟨"ReasonDeskModel", "isInView", "(I)Z"⟩, 68) := ⟨⟨by decide +kernel, by decide +kernel⟩, List.mem_of_getElem? (i := 1171) (by decide +kernel), List.mem_of_getElem? (i := 1519) (by decide +kernel), List.mem_of_getElem? (i := 1520) (by decide +kernel)⟩
theorem lw_p46 : lw_okq (⟨"ReasonDeskModel", "isHarmony", "(I)Z"⟩, 68) := ⟨⟨by decide +kernel, by decide +kernel⟩, List.mem_of_getElem? (i := 1171) (by decide +kernel), List.mem_of_getElem? (i := 1523) (by decide +kernel), List.mem_of_getElem? (i := 1524) (by decide +kernel)⟩
theorem lw_p47 : lw_okq (⟨"ReasonDeskModel", "hasWorld", "(I)Z"⟩, 68) := ⟨⟨by decide +kernel, by decide +kernel⟩, List.mem_of_getElem? (i := 1171) (by decide +kernel), List.mem_of_getElem? (i := 1527) (by decide +kernel), List.mem_of_getElem? (i := 1528) (by decide +kernel)⟩
def lw_privs_3 : List (MethodName × Nat) := [(⟨"ReasonDeskModel", "pushAll", "(Z)V"⟩, 68), (⟨"ReasonDeskModel", "turned", "()V"⟩, 68), (⟨"ReasonDeskModel", "turnTop", "()V"⟩, 68), (⟨"ReasonDeskModel", "operator", "(I)V"⟩, 68), (⟨"ReasonDeskModel", "reduce", "()V"⟩, 68), (⟨"ReasonDeskModel", "noSentence", "(I)Z"⟩, 68), (⟨"ReasonDeskModel", "countAt", "(I)I"⟩, 68), (⟨"ReasonDeskModel", "isWithin", "(II)Z"⟩, 68), (⟨"ReasonDeskModel", "areApart", "(II)Z"⟩, 68), (⟨"ReasonDeskModel", "otherView", "()V"⟩, 68), (⟨"ReasonDeskModel", "addEntry", "(IIIII)I"⟩, 68), (⟨"ReasonDeskModel", "lay", "()V"⟩, 68), (⟨"ReasonDeskModel", "layWorlds", "()V"⟩, 68), (⟨"ReasonDeskModel", "isInView", "(I)Z"⟩, 68), (⟨"ReasonDeskModel", "isHarmony", "(I)Z"⟩, 68), (⟨"ReasonDeskModel", "hasWorld", "(I)Z"⟩, 68)]
theorem lw_r3 : ∀ q ∈ lw_privs_3, lw_okq q := List.forall_mem_cons.mpr ⟨lw_p32, List.forall_mem_cons.mpr ⟨lw_p33, List.forall_mem_cons.mpr ⟨lw_p34, List.forall_mem_cons.mpr ⟨lw_p35, List.forall_mem_cons.mpr ⟨lw_p36, List.forall_mem_cons.mpr ⟨lw_p37, List.forall_mem_cons.mpr ⟨lw_p38, List.forall_mem_cons.mpr ⟨lw_p39, List.forall_mem_cons.mpr ⟨lw_p40, List.forall_mem_cons.mpr ⟨lw_p41, List.forall_mem_cons.mpr ⟨lw_p42, List.forall_mem_cons.mpr ⟨lw_p43, List.forall_mem_cons.mpr ⟨lw_p44, List.forall_mem_cons.mpr ⟨lw_p45, List.forall_mem_cons.mpr ⟨lw_p46, List.forall_mem_cons.mpr ⟨lw_p47, fun _ h => absurd h List.not_mem_nil⟩⟩⟩⟩⟩⟩⟩⟩⟩⟩⟩⟩⟩⟩⟩⟩
theorem lw_p48 : lw_okq (⟨"ReasonDeskModel", "weightOf", "(I)I"⟩, 68) := ⟨⟨by decide +kernel, by decide +kernel⟩, List.mem_of_getElem? (i := 1171) (by decide +kernel), List.mem_of_getElem? (i := 1531) (by decide +kernel), List.mem_of_getElem? (i := 1532) (by decide +kernel)⟩
theorem lw_p49 : lw_okq (⟨"ReasonDeskModel", "noEntry", "(I)Z"⟩, 68) := ⟨⟨by decide +kernel, by decide +kernel⟩, List.mem_of_getElem? (i := 1171) (by decide +kernel), List.mem_of_getElem? (i := 1539) (by decide +kernel), List.mem_of_getElem? (i := 1540) (by decide +kernel)⟩
theorem lw_p50 : lw_okq (⟨"ReasonDeskModel", "harmoniesWith", "(I)I"⟩, 68) := ⟨⟨by decide +kernel, by decide +kernel⟩, List.mem_of_getElem? (i := 1171) (by decide +kernel), List.mem_of_getElem? (i := 1543) (by decide +kernel), List.mem_of_getElem? (i := 1544) (by decide +kernel)⟩
theorem lw_p51 : lw_okq (⟨"ReasonDeskModel", "isEntrySet", "(I)Z"⟩, 68) := ⟨⟨by decide +kernel, by decide +kernel⟩, List.mem_of_getElem? (i := 1171) (by decide +kernel), List.mem_of_getElem? (i := 1555) (by decide +kernel), List.mem_of_getElem? (i := 1556) (by decide +kernel)⟩
theorem lw_p52 : lw_okq (⟨"ReasonDeskModel", "countWorlds", "(I)I"⟩, 68) := ⟨⟨by decide +kernel, by decide +kernel⟩, List.mem_of_getElem? (i := 1171) (by decide +kernel), List.mem_of_getElem? (i := 1563) (by decide +kernel), List.mem_of_getElem? (i := 1564) (by decide +kernel)⟩
theorem lw_p53 : lw_okq (⟨"ReasonDeskModel", "reasonAt", "(III)I"⟩, 68) := ⟨⟨by decide +kernel, by decide +kernel⟩, List.mem_of_getElem? (i := 1171) (by decide +kernel), List.mem_of_getElem? (i := 1571) (by decide +kernel), List.mem_of_getElem? (i := 1572) (by decide +kernel)⟩
theorem lw_p54 : lw_okq (⟨"ReasonDeskModel", "isReason", "(III)Z"⟩, 68) := ⟨⟨by decide +kernel, by decide +kernel⟩, List.mem_of_getElem? (i := 1171) (by decide +kernel), List.mem_of_getElem? (i := 1575) (by decide +kernel), List.mem_of_getElem? (i := 1576) (by decide +kernel)⟩
theorem lw_p55 : lw_okq (⟨"ReasonDeskModel", "follows", "(III)Z"⟩, 68) := ⟨⟨by decide +kernel, by decide +kernel⟩, List.mem_of_getElem? (i := 1171) (by decide +kernel), List.mem_of_getElem? (i := 1579) (by decide +kernel), List.mem_of_getElem? (i := 1580) (by decide +kernel)⟩
theorem lw_p56 : lw_okq (⟨"ReasonDeskModel", "followers", "(IZ)I"⟩, 68) := ⟨⟨by decide +kernel, by decide +kernel⟩, List.mem_of_getElem? (i := 1171) (by decide +kernel), List.mem_of_getElem? (i := 1599) (by decide +kernel), List.mem_of_getElem? (i := 1600) (by decide +kernel)⟩
theorem lw_p57 : lw_okq (⟨"ReasonDeskModel", "cutAt", "(II)I"⟩, 68) := ⟨⟨by decide +kernel, by decide +kernel⟩, List.mem_of_getElem? (i := 1171) (by decide +kernel), List.mem_of_getElem? (i := 1607) (by decide +kernel), List.mem_of_getElem? (i := 1608) (by decide +kernel)⟩
theorem lw_p58 : lw_okq (⟨"ReasonDeskModel", "isCut", "(III)Z"⟩, 68) := ⟨⟨by decide +kernel, by decide +kernel⟩, List.mem_of_getElem? (i := 1171) (by decide +kernel), List.mem_of_getElem? (i := 1611) (by decide +kernel), List.mem_of_getElem? (i := 1612) (by decide +kernel)⟩
theorem lw_p59 : lw_okq (⟨"ReasonDeskModel", "leastCut", "(II)I"⟩, 68) := ⟨⟨by decide +kernel, by decide +kernel⟩, List.mem_of_getElem? (i := 1171) (by decide +kernel), List.mem_of_getElem? (i := 1623) (by decide +kernel), List.mem_of_getElem? (i := 1624) (by decide +kernel)⟩
theorem lw_p60 : lw_okq (⟨"ReasonDeskModel", "giveAll", "(I)V"⟩, 68) := ⟨⟨by decide +kernel, by decide +kernel⟩, List.mem_of_getElem? (i := 1171) (by decide +kernel), List.mem_of_getElem? (i := 1632) (by decide +kernel), List.mem_of_getElem? (i := 1633) (by decide +kernel)⟩
theorem lw_p61 : lw_okq (⟨"ReasonDeskModel", "isOfReason", "(II)Z"⟩, 68) := ⟨⟨by decide +kernel, by decide +kernel⟩, List.mem_of_getElem? (i := 1171) (by decide +kernel), List.mem_of_getElem? (i := 1644) (by decide +kernel), List.mem_of_getElem? (i := 1645) (by decide +kernel)⟩
theorem lw_p62 : lw_okq (⟨"ReasonDeskModel", "noRule", "(I)Z"⟩, 68) := ⟨⟨by decide +kernel, by decide +kernel⟩, List.mem_of_getElem? (i := 1171) (by decide +kernel), List.mem_of_getElem? (i := 1656) (by decide +kernel), List.mem_of_getElem? (i := 1657) (by decide +kernel)⟩
theorem lw_p63 : lw_okq (⟨"ReasonDeskModel", "layRules", "()V"⟩, 68) := ⟨⟨by decide +kernel, by decide +kernel⟩, List.mem_of_getElem? (i := 1171) (by decide +kernel), List.mem_of_getElem? (i := 1660) (by decide +kernel), List.mem_of_getElem? (i := 1661) (by decide +kernel)⟩
def lw_privs_4 : List (MethodName × Nat) := [(⟨"ReasonDeskModel", "weightOf", "(I)I"⟩, 68), (⟨"ReasonDeskModel", "noEntry", "(I)Z"⟩, 68), (⟨"ReasonDeskModel", "harmoniesWith", "(I)I"⟩, 68), (⟨"ReasonDeskModel", "isEntrySet", "(I)Z"⟩, 68), (⟨"ReasonDeskModel", "countWorlds", "(I)I"⟩, 68), (⟨"ReasonDeskModel", "reasonAt", "(III)I"⟩, 68), (⟨"ReasonDeskModel", "isReason", "(III)Z"⟩, 68), (⟨"ReasonDeskModel", "follows", "(III)Z"⟩, 68), (⟨"ReasonDeskModel", "followers", "(IZ)I"⟩, 68), (⟨"ReasonDeskModel", "cutAt", "(II)I"⟩, 68), (⟨"ReasonDeskModel", "isCut", "(III)Z"⟩, 68), (⟨"ReasonDeskModel", "leastCut", "(II)I"⟩, 68), (⟨"ReasonDeskModel", "giveAll", "(I)V"⟩, 68), (⟨"ReasonDeskModel", "isOfReason", "(II)Z"⟩, 68), (⟨"ReasonDeskModel", "noRule", "(I)Z"⟩, 68), (⟨"ReasonDeskModel", "layRules", "()V"⟩, 68)]
theorem lw_r4 : ∀ q ∈ lw_privs_4, lw_okq q := List.forall_mem_cons.mpr ⟨lw_p48, List.forall_mem_cons.mpr ⟨lw_p49, List.forall_mem_cons.mpr ⟨lw_p50, List.forall_mem_cons.mpr ⟨lw_p51, List.forall_mem_cons.mpr ⟨lw_p52, List.forall_mem_cons.mpr ⟨lw_p53, List.forall_mem_cons.mpr ⟨lw_p54, List.forall_mem_cons.mpr ⟨lw_p55, List.forall_mem_cons.mpr ⟨lw_p56, List.forall_mem_cons.mpr ⟨lw_p57, List.forall_mem_cons.mpr ⟨lw_p58, List.forall_mem_cons.mpr ⟨lw_p59, List.forall_mem_cons.mpr ⟨lw_p60, List.forall_mem_cons.mpr ⟨lw_p61, List.forall_mem_cons.mpr ⟨lw_p62, List.forall_mem_cons.mpr ⟨lw_p63, fun _ h => absurd h List.not_mem_nil⟩⟩⟩⟩⟩⟩⟩⟩⟩⟩⟩⟩⟩⟩⟩⟩
theorem lw_p64 : lw_okq (⟨"ReasonDeskModel", "isExtension", "(I)Z"⟩, 68) := ⟨⟨by decide +kernel, by decide +kernel⟩, List.mem_of_getElem? (i := 1171) (by decide +kernel), List.mem_of_getElem? (i := 1664) (by decide +kernel), List.mem_of_getElem? (i := 1665) (by decide +kernel)⟩
theorem lw_p65 : lw_okq (⟨"ReasonDeskModel", "layE", "(I)V"⟩, 68) := ⟨⟨by decide +kernel, by decide +kernel⟩, List.mem_of_getElem? (i := 1171) (by decide +kernel), List.mem_of_getElem? (i := 1668) (by decide +kernel), List.mem_of_getElem? (i := 1669) (by decide +kernel)⟩
theorem lw_p66 : lw_okq (⟨"ReasonDeskModel", "goes", "(I)Z"⟩, 68) := ⟨⟨by decide +kernel, by decide +kernel⟩, List.mem_of_getElem? (i := 1171) (by decide +kernel), List.mem_of_getElem? (i := 1672) (by decide +kernel), List.mem_of_getElem? (i := 1673) (by decide +kernel)⟩
theorem lw_p67 : lw_okq (⟨"ReasonDeskModel", "followsE", "(I)Z"⟩, 68) := ⟨⟨by decide +kernel, by decide +kernel⟩, List.mem_of_getElem? (i := 1171) (by decide +kernel), List.mem_of_getElem? (i := 1676) (by decide +kernel), List.mem_of_getElem? (i := 1677) (by decide +kernel)⟩
theorem lw_p68 : lw_okq (⟨"ReasonDeskModel", "isGrounded", "(I)Z"⟩, 68) := ⟨⟨by decide +kernel, by decide +kernel⟩, List.mem_of_getElem? (i := 1171) (by decide +kernel), List.mem_of_getElem? (i := 1680) (by decide +kernel), List.mem_of_getElem? (i := 1681) (by decide +kernel)⟩
theorem lw_p69 : lw_okq (⟨"ReasonDeskModel", "compareRanks", "(II)I"⟩, 68) := ⟨⟨by decide +kernel, by decide +kernel⟩, List.mem_of_getElem? (i := 1171) (by decide +kernel), List.mem_of_getElem? (i := 1684) (by decide +kernel), List.mem_of_getElem? (i := 1685) (by decide +kernel)⟩
theorem lw_p70 : lw_okq (⟨"ReasonDeskModel", "extensionsWith", "(I)I"⟩, 68) := ⟨⟨by decide +kernel, by decide +kernel⟩, List.mem_of_getElem? (i := 1171) (by decide +kernel), List.mem_of_getElem? (i := 1688) (by decide +kernel), List.mem_of_getElem? (i := 1689) (by decide +kernel)⟩
theorem lw_p71 : lw_okq (⟨"ReasonDeskModel", "circleOf", "(I)I"⟩, 68) := ⟨⟨by decide +kernel, by decide +kernel⟩, List.mem_of_getElem? (i := 1171) (by decide +kernel), List.mem_of_getElem? (i := 1692) (by decide +kernel), List.mem_of_getElem? (i := 1693) (by decide +kernel)⟩
theorem lw_p72 : lw_okq (⟨"ReasonDeskModel", "countE", "()I"⟩, 68) := ⟨⟨by decide +kernel, by decide +kernel⟩, List.mem_of_getElem? (i := 1171) (by decide +kernel), List.mem_of_getElem? (i := 1704) (by decide +kernel), List.mem_of_getElem? (i := 1705) (by decide +kernel)⟩
theorem lw_p73 : lw_okq (⟨"ReasonDeskModel", "noClaim", "(I)Z"⟩, 68) := ⟨⟨by decide +kernel, by decide +kernel⟩, List.mem_of_getElem? (i := 1171) (by decide +kernel), List.mem_of_getElem? (i := 1720) (by decide +kernel), List.mem_of_getElem? (i := 1721) (by decide +kernel)⟩
theorem lw_p74 : lw_okq (⟨"ReasonDeskModel", "doesStrike", "(II)Z"⟩, 68) := ⟨⟨by decide +kernel, by decide +kernel⟩, List.mem_of_getElem? (i := 1171) (by decide +kernel), List.mem_of_getElem? (i := 1724) (by decide +kernel), List.mem_of_getElem? (i := 1725) (by decide +kernel)⟩
theorem lw_p75 : lw_okq (⟨"ReasonDeskModel", "layClaims", "()V"⟩, 68) := ⟨⟨by decide +kernel, by decide +kernel⟩, List.mem_of_getElem? (i := 1171) (by decide +kernel), List.mem_of_getElem? (i := 1732) (by decide +kernel), List.mem_of_getElem? (i := 1733) (by decide +kernel)⟩
theorem lw_p76 : lw_okq (⟨"ReasonDeskModel", "findStanding", "()V"⟩, 68) := ⟨⟨by decide +kernel, by decide +kernel⟩, List.mem_of_getElem? (i := 1171) (by decide +kernel), List.mem_of_getElem? (i := 1736) (by decide +kernel), List.mem_of_getElem? (i := 1737) (by decide +kernel)⟩
theorem lw_p77 : lw_okq (⟨"ReasonDeskModel", "defends", "(II)Z"⟩, 68) := ⟨⟨by decide +kernel, by decide +kernel⟩, List.mem_of_getElem? (i := 1171) (by decide +kernel), List.mem_of_getElem? (i := 1740) (by decide +kernel), List.mem_of_getElem? (i := 1741) (by decide +kernel)⟩
theorem lw_p78 : lw_okq (⟨"ReasonDeskModel", "struckOf", "(I)I"⟩, 68) := ⟨⟨by decide +kernel, by decide +kernel⟩, List.mem_of_getElem? (i := 1171) (by decide +kernel), List.mem_of_getElem? (i := 1744) (by decide +kernel), List.mem_of_getElem? (i := 1745) (by decide +kernel)⟩
theorem lw_p79 : lw_okq (⟨"ReasonDeskModel", "findSets", "()V"⟩, 68) := ⟨⟨by decide +kernel, by decide +kernel⟩, List.mem_of_getElem? (i := 1171) (by decide +kernel), List.mem_of_getElem? (i := 1748) (by decide +kernel), List.mem_of_getElem? (i := 1749) (by decide +kernel)⟩
def lw_privs_5 : List (MethodName × Nat) := [(⟨"ReasonDeskModel", "isExtension", "(I)Z"⟩, 68), (⟨"ReasonDeskModel", "layE", "(I)V"⟩, 68), (⟨"ReasonDeskModel", "goes", "(I)Z"⟩, 68), (⟨"ReasonDeskModel", "followsE", "(I)Z"⟩, 68), (⟨"ReasonDeskModel", "isGrounded", "(I)Z"⟩, 68), (⟨"ReasonDeskModel", "compareRanks", "(II)I"⟩, 68), (⟨"ReasonDeskModel", "extensionsWith", "(I)I"⟩, 68), (⟨"ReasonDeskModel", "circleOf", "(I)I"⟩, 68), (⟨"ReasonDeskModel", "countE", "()I"⟩, 68), (⟨"ReasonDeskModel", "noClaim", "(I)Z"⟩, 68), (⟨"ReasonDeskModel", "doesStrike", "(II)Z"⟩, 68), (⟨"ReasonDeskModel", "layClaims", "()V"⟩, 68), (⟨"ReasonDeskModel", "findStanding", "()V"⟩, 68), (⟨"ReasonDeskModel", "defends", "(II)Z"⟩, 68), (⟨"ReasonDeskModel", "struckOf", "(I)I"⟩, 68), (⟨"ReasonDeskModel", "findSets", "()V"⟩, 68)]
theorem lw_r5 : ∀ q ∈ lw_privs_5, lw_okq q := List.forall_mem_cons.mpr ⟨lw_p64, List.forall_mem_cons.mpr ⟨lw_p65, List.forall_mem_cons.mpr ⟨lw_p66, List.forall_mem_cons.mpr ⟨lw_p67, List.forall_mem_cons.mpr ⟨lw_p68, List.forall_mem_cons.mpr ⟨lw_p69, List.forall_mem_cons.mpr ⟨lw_p70, List.forall_mem_cons.mpr ⟨lw_p71, List.forall_mem_cons.mpr ⟨lw_p72, List.forall_mem_cons.mpr ⟨lw_p73, List.forall_mem_cons.mpr ⟨lw_p74, List.forall_mem_cons.mpr ⟨lw_p75, List.forall_mem_cons.mpr ⟨lw_p76, List.forall_mem_cons.mpr ⟨lw_p77, List.forall_mem_cons.mpr ⟨lw_p78, List.forall_mem_cons.mpr ⟨lw_p79, fun _ h => absurd h List.not_mem_nil⟩⟩⟩⟩⟩⟩⟩⟩⟩⟩⟩⟩⟩⟩⟩⟩
theorem lw_p80 : lw_okq (⟨"ReasonDeskModel", "isSoundSet", "(I)Z"⟩, 68) := ⟨⟨by decide +kernel, by decide +kernel⟩, List.mem_of_getElem? (i := 1171) (by decide +kernel), List.mem_of_getElem? (i := 1752) (by decide +kernel), List.mem_of_getElem? (i := 1753) (by decide +kernel)⟩
theorem lw_p81 : lw_okq (⟨"ReasonDeskModel", "findWins", "()V"⟩, 68) := ⟨⟨by decide +kernel, by decide +kernel⟩, List.mem_of_getElem? (i := 1171) (by decide +kernel), List.mem_of_getElem? (i := 1756) (by decide +kernel), List.mem_of_getElem? (i := 1757) (by decide +kernel)⟩
theorem lw_p82 : lw_okq (⟨"ReasonDeskModel", "doesWin", "(II)Z"⟩, 68) := ⟨⟨by decide +kernel, by decide +kernel⟩, List.mem_of_getElem? (i := 1171) (by decide +kernel), List.mem_of_getElem? (i := 1760) (by decide +kernel), List.mem_of_getElem? (i := 1761) (by decide +kernel)⟩
theorem lw_p83 : lw_okq (⟨"ReasonDeskModel", "among", "(IZ)I"⟩, 68) := ⟨⟨by decide +kernel, by decide +kernel⟩, List.mem_of_getElem? (i := 1171) (by decide +kernel), List.mem_of_getElem? (i := 1764) (by decide +kernel), List.mem_of_getElem? (i := 1765) (by decide +kernel)⟩
theorem lw_p84 : lw_okq (⟨"ReasonDeskModel", "answerTo", "(I)I"⟩, 68) := ⟨⟨by decide +kernel, by decide +kernel⟩, List.mem_of_getElem? (i := 1171) (by decide +kernel), List.mem_of_getElem? (i := 1768) (by decide +kernel), List.mem_of_getElem? (i := 1769) (by decide +kernel)⟩
theorem lw_p85 : lw_okq (⟨"ReasonDeskModel", "layMerge", "()V"⟩, 68) := ⟨⟨by decide +kernel, by decide +kernel⟩, List.mem_of_getElem? (i := 1171) (by decide +kernel), List.mem_of_getElem? (i := 1784) (by decide +kernel), List.mem_of_getElem? (i := 1785) (by decide +kernel)⟩
theorem lw_p86 : lw_okq (⟨"ReasonDeskModel", "bookOf", "(I)I"⟩, 68) := ⟨⟨by decide +kernel, by decide +kernel⟩, List.mem_of_getElem? (i := 1171) (by decide +kernel), List.mem_of_getElem? (i := 1788) (by decide +kernel), List.mem_of_getElem? (i := 1789) (by decide +kernel)⟩
theorem lw_p87 : lw_okq (⟨"ReasonDeskModel", "layFars", "(II)V"⟩, 68) := ⟨⟨by decide +kernel, by decide +kernel⟩, List.mem_of_getElem? (i := 1171) (by decide +kernel), List.mem_of_getElem? (i := 1792) (by decide +kernel), List.mem_of_getElem? (i := 1793) (by decide +kernel)⟩
theorem lw_p88 : lw_okq (⟨"ReasonDeskModel", "merge", "(I)V"⟩, 68) := ⟨⟨by decide +kernel, by decide +kernel⟩, List.mem_of_getElem? (i := 1171) (by decide +kernel), List.mem_of_getElem? (i := 1804) (by decide +kernel), List.mem_of_getElem? (i := 1805) (by decide +kernel)⟩
theorem lw_p89 : lw_okq (⟨"ReasonDeskModel", "layRow", "(II)V"⟩, 68) := ⟨⟨by decide +kernel, by decide +kernel⟩, List.mem_of_getElem? (i := 1171) (by decide +kernel), List.mem_of_getElem? (i := 1808) (by decide +kernel), List.mem_of_getElem? (i := 1809) (by decide +kernel)⟩
theorem lw_p90 : lw_okq (⟨"ReasonDeskModel", "compareRows", "()I"⟩, 68) := ⟨⟨by decide +kernel, by decide +kernel⟩, List.mem_of_getElem? (i := 1171) (by decide +kernel), List.mem_of_getElem? (i := 1812) (by decide +kernel), List.mem_of_getElem? (i := 1813) (by decide +kernel)⟩
theorem lw_p91 : lw_okq (⟨"ReasonDeskModel", "traced", "(I)V"⟩, 68) := ⟨⟨by decide +kernel, by decide +kernel⟩, List.mem_of_getElem? (i := 1171) (by decide +kernel), List.mem_of_getElem? (i := 1843) (by decide +kernel), List.mem_of_getElem? (i := 1844) (by decide +kernel)⟩
theorem lw_p92 : lw_okq (⟨"ReasonDeskModel", "noCell", "(II)I"⟩, 68) := ⟨⟨by decide +kernel, by decide +kernel⟩, List.mem_of_getElem? (i := 1171) (by decide +kernel), List.mem_of_getElem? (i := 1863) (by decide +kernel), List.mem_of_getElem? (i := 1864) (by decide +kernel)⟩
theorem lw_p93 : lw_okq (⟨"ReasonDeskModel", "failedLong", "(I)J"⟩, 68) := ⟨⟨by decide +kernel, by decide +kernel⟩, List.mem_of_getElem? (i := 1171) (by decide +kernel), List.mem_of_getElem? (i := 1875) (by decide +kernel), List.mem_of_getElem? (i := 1876) (by decide +kernel)⟩
def lw_privs_6 : List (MethodName × Nat) := [(⟨"ReasonDeskModel", "isSoundSet", "(I)Z"⟩, 68), (⟨"ReasonDeskModel", "findWins", "()V"⟩, 68), (⟨"ReasonDeskModel", "doesWin", "(II)Z"⟩, 68), (⟨"ReasonDeskModel", "among", "(IZ)I"⟩, 68), (⟨"ReasonDeskModel", "answerTo", "(I)I"⟩, 68), (⟨"ReasonDeskModel", "layMerge", "()V"⟩, 68), (⟨"ReasonDeskModel", "bookOf", "(I)I"⟩, 68), (⟨"ReasonDeskModel", "layFars", "(II)V"⟩, 68), (⟨"ReasonDeskModel", "merge", "(I)V"⟩, 68), (⟨"ReasonDeskModel", "layRow", "(II)V"⟩, 68), (⟨"ReasonDeskModel", "compareRows", "()I"⟩, 68), (⟨"ReasonDeskModel", "traced", "(I)V"⟩, 68), (⟨"ReasonDeskModel", "noCell", "(II)I"⟩, 68), (⟨"ReasonDeskModel", "failedLong", "(I)J"⟩, 68)]
theorem lw_r6 : ∀ q ∈ lw_privs_6, lw_okq q := List.forall_mem_cons.mpr ⟨lw_p80, List.forall_mem_cons.mpr ⟨lw_p81, List.forall_mem_cons.mpr ⟨lw_p82, List.forall_mem_cons.mpr ⟨lw_p83, List.forall_mem_cons.mpr ⟨lw_p84, List.forall_mem_cons.mpr ⟨lw_p85, List.forall_mem_cons.mpr ⟨lw_p86, List.forall_mem_cons.mpr ⟨lw_p87, List.forall_mem_cons.mpr ⟨lw_p88, List.forall_mem_cons.mpr ⟨lw_p89, List.forall_mem_cons.mpr ⟨lw_p90, List.forall_mem_cons.mpr ⟨lw_p91, List.forall_mem_cons.mpr ⟨lw_p92, List.forall_mem_cons.mpr ⟨lw_p93, fun _ h => absurd h List.not_mem_nil⟩⟩⟩⟩⟩⟩⟩⟩⟩⟩⟩⟩⟩⟩
def lw_privs : List (MethodName × Nat) := lw_privs_1 ++ (lw_privs_2 ++ (lw_privs_3 ++ (lw_privs_4 ++ (lw_privs_5 ++ (lw_privs_6)))))
def lw_tbl : List Cond := k2_sels lw_privs ++ tables_1
theorem lw_privs_ok : ∀ q ∈ lw_privs, lw_okq q := by
  show ∀ q ∈ lw_privs_1 ++ (lw_privs_2 ++ (lw_privs_3 ++ (lw_privs_4 ++ (lw_privs_5 ++ (lw_privs_6))))), lw_okq q
  exact List.forall_mem_append.mpr ⟨lw_r1, List.forall_mem_append.mpr ⟨lw_r2, List.forall_mem_append.mpr ⟨lw_r3, List.forall_mem_append.mpr ⟨lw_r4, List.forall_mem_append.mpr ⟨lw_r5, lw_r6⟩⟩⟩⟩⟩
end
section
def RX0 : String := "ReasonDesk$Barred"
def TX0 : u_T := fun k => match k with
  | 0 => ("ReasonDesk$Rule", "when", "I", true)
  | 1 => ("ReasonDesk$Rule", "then", "I", true)
  | 2 => ("ReasonDesk$Rule", "unless", "I", true)
  | 3 => ("ReasonDesk$Rule", "rank", "I", true)
  | _ => ("ReasonDesk$Thing", "number", "I", true)
def tyX0 : Nat → FieldType := fun k => match k with
  | 0 => .int
  | 1 => .int
  | 2 => .int
  | 3 => .int
  | _ => .int
theorem nmX0 : ∀ a, a < 5 → ∀ b, b < 5 → a ≠ b → (TX0 a).2.1 ≠ (TX0 b).2.1 := by decide +kernel
theorem tyX0_ok : ∀ k, k < 5 → parseFieldDescriptor (TX0 k).2.2.1 = some (tyX0 k) := by decide +kernel
abbrev cX0_init : ByteArray := prog_2_method_1_code
def yX0_init : MethodName := ⟨RX0, "<init>", "(IIIII)V"⟩
abbrev cX0_told : ByteArray := prog_2_method_2_code
def yX0_told : MethodName := ⟨RX0, "told", "([I)I"⟩
abbrev cX0_shown : ByteArray := prog_2_method_3_code
def yX0_shown : MethodName := ⟨RX0, "shown", "([I)I"⟩
def RX1 : String := "ReasonDesk$Bits"
def TX1 : u_T := fun k => match k with
  | _ => ("ReasonDesk$Bits", "rows", "[J", true)
def tyX1 : Nat → FieldType := fun k => match k with
  | _ => .array .long
theorem nmX1 : ∀ a, a < 1 → ∀ b, b < 1 → a ≠ b → (TX1 a).2.1 ≠ (TX1 b).2.1 := by decide +kernel
theorem tyX1_ok : ∀ k, k < 1 → parseFieldDescriptor (TX1 k).2.2.1 = some (tyX1 k) := by decide +kernel
abbrev cX1_init : ByteArray := prog_3_method_1_code
def yX1_init : MethodName := ⟨RX1, "<init>", "(I)V"⟩
abbrev cX1_clear : ByteArray := prog_3_method_2_code
def yX1_clear : MethodName := ⟨RX1, "clear", "()V"⟩
abbrev cX1_fillUp : ByteArray := prog_3_method_3_code
def yX1_fillUp : MethodName := ⟨RX1, "fillUp", "()V"⟩
abbrev cX1_fillWith : ByteArray := prog_3_method_4_code
def yX1_fillWith : MethodName := ⟨RX1, "fillWith", "(I)V"⟩
abbrev cX1_become : ByteArray := prog_3_method_5_code
def yX1_become : MethodName := ⟨RX1, "become", "(LReasonDesk$Bits;)V"⟩
abbrev cX1_turn : ByteArray := prog_3_method_6_code
def yX1_turn : MethodName := ⟨RX1, "turn", "()V"⟩
abbrev cX1_meet : ByteArray := prog_3_method_7_code
def yX1_meet : MethodName := ⟨RX1, "meet", "(LReasonDesk$Bits;)V"⟩
abbrev cX1_join : ByteArray := prog_3_method_8_code
def yX1_join : MethodName := ⟨RX1, "join", "(LReasonDesk$Bits;)V"⟩
abbrev cX1_imply : ByteArray := prog_3_method_9_code
def yX1_imply : MethodName := ⟨RX1, "imply", "(LReasonDesk$Bits;)V"⟩
abbrev cX1_match : ByteArray := prog_3_method_10_code
def yX1_match : MethodName := ⟨RX1, "match", "(LReasonDesk$Bits;)V"⟩
abbrev cX1_add : ByteArray := prog_3_method_11_code
def yX1_add : MethodName := ⟨RX1, "add", "(I)V"⟩
abbrev cX1_has : ByteArray := prog_3_method_12_code
def yX1_has : MethodName := ⟨RX1, "has", "(I)Z"⟩
abbrev cX1_size : ByteArray := prog_3_method_13_code
def yX1_size : MethodName := ⟨RX1, "size", "()I"⟩
abbrev cX1_isEmpty : ByteArray := prog_3_method_14_code
def yX1_isEmpty : MethodName := ⟨RX1, "isEmpty", "()Z"⟩
abbrev cX1_isAll : ByteArray := prog_3_method_15_code
def yX1_isAll : MethodName := ⟨RX1, "isAll", "()Z"⟩
abbrev cX1_within : ByteArray := prog_3_method_16_code
def yX1_within : MethodName := ⟨RX1, "within", "(LReasonDesk$Bits;)Z"⟩
abbrev cX1_apart : ByteArray := prog_3_method_17_code
def yX1_apart : MethodName := ⟨RX1, "apart", "(LReasonDesk$Bits;)Z"⟩
abbrev cX1_meetsBut : ByteArray := prog_3_method_18_code
def yX1_meetsBut : MethodName := ⟨RX1, "meetsBut", "(LReasonDesk$Bits;LReasonDesk$Bits;)Z"⟩
abbrev cX1_at : ByteArray := prog_3_method_19_code
def yX1_at : MethodName := ⟨RX1, "at", "(I)I"⟩
abbrev cX1_after : ByteArray := prog_3_method_20_code
def yX1_after : MethodName := ⟨RX1, "after", "(I)I"⟩
abbrev cX1_lowest : ByteArray := prog_3_method_21_code
def yX1_lowest : MethodName := ⟨RX1, "lowest", "(J)I"⟩
abbrev cX1_sharing : ByteArray := prog_3_method_22_code
def yX1_sharing : MethodName := ⟨RX1, "sharing", "(I)I"⟩
abbrev cX1_lowered : ByteArray := prog_3_method_23_code
def yX1_lowered : MethodName := ⟨RX1, "lowered", "(II)J"⟩
abbrev cX1_raised : ByteArray := prog_3_method_24_code
def yX1_raised : MethodName := ⟨RX1, "raised", "(II)J"⟩
abbrev cX1_closeDown : ByteArray := prog_3_method_25_code
def yX1_closeDown : MethodName := ⟨RX1, "closeDown", "(I)V"⟩
abbrev cX1_closeUp : ByteArray := prog_3_method_26_code
def yX1_closeUp : MethodName := ⟨RX1, "closeUp", "(I)V"⟩
abbrev cX1_becomeTops : ByteArray := prog_3_method_27_code
def yX1_becomeTops : MethodName := ⟨RX1, "becomeTops", "(LReasonDesk$Bits;I)V"⟩
abbrev cX1_becomeLows : ByteArray := prog_3_method_28_code
def yX1_becomeLows : MethodName := ⟨RX1, "becomeLows", "(LReasonDesk$Bits;I)V"⟩
def RX2 : String := "ReasonDesk$Book"
def TX2 : u_T := fun k => match k with
  | 0 => ("ReasonDesk$Book", "trusted", "[I", true)
  | 1 => ("ReasonDesk$Book", "count", "I", false)
  | 2 => ("ReasonDesk$Book", "time", "I", false)
  | 3 => ("ReasonDesk$Book", "asKnown", "I", false)
  | 4 => ("ReasonDesk$Book", "entries", "[LReasonDesk$Entry;", true)
  | 5 => ("ReasonDesk$Book", "trueIn", "[I", true)
  | 6 => ("ReasonDesk$Book", "nowhere", "LReasonDesk$Bits;", true)
  | 7 => ("ReasonDesk$Book", "family", "LReasonDesk$Bits;", true)
  | 8 => ("ReasonDesk$Book", "lows", "LReasonDesk$Bits;", true)
  | 9 => ("ReasonDesk$Book", "harmonious", "LReasonDesk$Bits;", true)
  | 10 => ("ReasonDesk$Book", "best", "LReasonDesk$Bits;", true)
  | _ => ("ReasonDesk$Book", "harmonyView", "I", false)
def tyX2 : Nat → FieldType := fun k => match k with
  | 0 => .array .int
  | 1 => .int
  | 2 => .int
  | 3 => .int
  | 4 => .array (.object "ReasonDesk$Entry")
  | 5 => .array .int
  | 6 => .object "ReasonDesk$Bits"
  | 7 => .object "ReasonDesk$Bits"
  | 8 => .object "ReasonDesk$Bits"
  | 9 => .object "ReasonDesk$Bits"
  | 10 => .object "ReasonDesk$Bits"
  | _ => .int
theorem nmX2 : ∀ a, a < 12 → ∀ b, b < 12 → a ≠ b → (TX2 a).2.1 ≠ (TX2 b).2.1 := by decide +kernel
theorem tyX2_ok : ∀ k, k < 12 → parseFieldDescriptor (TX2 k).2.2.1 = some (tyX2 k) := by decide +kernel
abbrev cX2_init : ByteArray := prog_4_method_1_code
def yX2_init : MethodName := ⟨RX2, "<init>", "()V"⟩
abbrev cX2_isFull : ByteArray := prog_4_method_2_code
def yX2_isFull : MethodName := ⟨RX2, "isFull", "()Z"⟩
abbrev cX2_keep : ByteArray := prog_4_method_3_code
def yX2_keep : MethodName := ⟨RX2, "keep", "(LReasonDesk$Entry;LReasonDesk$Bits;)I"⟩
abbrev cX2_entryAt : ByteArray := prog_4_method_4_code
def yX2_entryAt : MethodName := ⟨RX2, "entryAt", "(I)LReasonDesk$Entry;"⟩
abbrev cX2_areEntries : ByteArray := prog_4_method_5_code
def yX2_areEntries : MethodName := ⟨RX2, "areEntries", "(I)Z"⟩
abbrev cX2_trueAt : ByteArray := prog_4_method_6_code
def yX2_trueAt : MethodName := ⟨RX2, "trueAt", "(I)I"⟩
abbrev cX2_inView : ByteArray := prog_4_method_7_code
def yX2_inView : MethodName := ⟨RX2, "inView", "()I"⟩
abbrev cX2_bySource : ByteArray := prog_4_method_8_code
def yX2_bySource : MethodName := ⟨RX2, "bySource", "(II)I"⟩
abbrev cX2_weigh : ByteArray := prog_4_method_9_code
def yX2_weigh : MethodName := ⟨RX2, "weigh", "(I)I"⟩
abbrev cX2_abandon : ByteArray := prog_4_method_10_code
def yX2_abandon : MethodName := ⟨RX2, "abandon", "(I)V"⟩
abbrev cX2_gather : ByteArray := prog_4_method_11_code
def yX2_gather : MethodName := ⟨RX2, "gather", "(ILReasonDesk$Bits;)V"⟩
abbrev cX2_follows : ByteArray := prog_4_method_12_code
def yX2_follows : MethodName := ⟨RX2, "follows", "(LReasonDesk$Bits;I)Z"⟩
abbrev cX2_collect : ByteArray := prog_4_method_13_code
def yX2_collect : MethodName := ⟨RX2, "collect", "(LReasonDesk$Bits;II)V"⟩
abbrev cX2_reasonsFor : ByteArray := prog_4_method_14_code
def yX2_reasonsFor : MethodName := ⟨RX2, "reasonsFor", "(LReasonDesk$Bits;)LReasonDesk$Bits;"⟩
abbrev cX2_cutsFor : ByteArray := prog_4_method_15_code
def yX2_cutsFor : MethodName := ⟨RX2, "cutsFor", "(LReasonDesk$Bits;)LReasonDesk$Bits;"⟩
abbrev cX2_concord : ByteArray := prog_4_method_16_code
def yX2_concord : MethodName := ⟨RX2, "concord", "()LReasonDesk$Bits;"⟩
abbrev cX2_bestWeight : ByteArray := prog_4_method_17_code
def yX2_bestWeight : MethodName := ⟨RX2, "bestWeight", "()I"⟩
abbrev cX2_bestConcord : ByteArray := prog_4_method_18_code
def yX2_bestConcord : MethodName := ⟨RX2, "bestConcord", "()LReasonDesk$Bits;"⟩
abbrev cX2_free : ByteArray := prog_4_method_19_code
def yX2_free : MethodName := ⟨RX2, "free", "()I"⟩
abbrev cX2_upholds : ByteArray := prog_4_method_20_code
def yX2_upholds : MethodName := ⟨RX2, "upholds", "(LReasonDesk$Bits;I)Z"⟩
abbrev cX2_leastCut : ByteArray := prog_4_method_21_code
def yX2_leastCut : MethodName := ⟨RX2, "leastCut", "(LReasonDesk$Bits;)I"⟩
abbrev cX2_keeps : ByteArray := prog_4_method_22_code
def yX2_keeps : MethodName := ⟨RX2, "keeps", "(LReasonDesk$Bits;I)Z"⟩
abbrev cX2_ofReasons : ByteArray := prog_4_method_23_code
def yX2_ofReasons : MethodName := ⟨RX2, "ofReasons", "(LReasonDesk$Bits;)I"⟩
abbrev cX2_recovers : ByteArray := prog_4_method_24_code
def yX2_recovers : MethodName := ⟨RX2, "recovers", "(LReasonDesk$Bits;II)Z"⟩
def RX3 : String := "ReasonDesk$Claims"
def TX3 : u_T := fun k => match k with
  | 0 => ("ReasonDesk$Claims", "count", "I", false)
  | 1 => ("ReasonDesk$Claims", "standing", "I", false)
  | 2 => ("ReasonDesk$Claims", "said", "[I", true)
  | 3 => ("ReasonDesk$Claims", "sources", "[I", true)
  | 4 => ("ReasonDesk$Claims", "strikers", "[I", true)
  | 5 => ("ReasonDesk$Claims", "rounds", "[I", true)
  | 6 => ("ReasonDesk$Claims", "sound", "LReasonDesk$Bits;", true)
  | 7 => ("ReasonDesk$Claims", "preferred", "LReasonDesk$Bits;", true)
  | 8 => ("ReasonDesk$Claims", "stable", "LReasonDesk$Bits;", true)
  | 9 => ("ReasonDesk$Claims", "struck", "[I", true)
  | 10 => ("ReasonDesk$Claims", "places", "[LReasonDesk$Bits;", true)
  | 11 => ("ReasonDesk$Claims", "trusted", "[I", true)
  | 12 => ("ReasonDesk$Claims", "closed", "LReasonDesk$Bits;", true)
  | 13 => ("ReasonDesk$Claims", "struckByLow", "[I", true)
  | 14 => ("ReasonDesk$Claims", "strikersOfLow", "[I", true)
  | 15 => ("ReasonDesk$Claims", "settledCount", "I", false)
  | _ => ("ReasonDesk$Claims", "soughtCount", "I", false)
def tyX3 : Nat → FieldType := fun k => match k with
  | 0 => .int
  | 1 => .int
  | 2 => .array .int
  | 3 => .array .int
  | 4 => .array .int
  | 5 => .array .int
  | 6 => .object "ReasonDesk$Bits"
  | 7 => .object "ReasonDesk$Bits"
  | 8 => .object "ReasonDesk$Bits"
  | 9 => .array .int
  | 10 => .array (.object "ReasonDesk$Bits")
  | 11 => .array .int
  | 12 => .object "ReasonDesk$Bits"
  | 13 => .array .int
  | 14 => .array .int
  | 15 => .int
  | _ => .int
theorem nmX3 : ∀ a, a < 17 → ∀ b, b < 17 → a ≠ b → (TX3 a).2.1 ≠ (TX3 b).2.1 := by decide +kernel
theorem tyX3_ok : ∀ k, k < 17 → parseFieldDescriptor (TX3 k).2.2.1 = some (tyX3 k) := by decide +kernel
abbrev cX3_init : ByteArray := prog_5_method_1_code
def yX3_init : MethodName := ⟨RX3, "<init>", "()V"⟩
abbrev cX3_isFull : ByteArray := prog_5_method_2_code
def yX3_isFull : MethodName := ⟨RX3, "isFull", "()Z"⟩
abbrev cX3_isClaim : ByteArray := prog_5_method_3_code
def yX3_isClaim : MethodName := ⟨RX3, "isClaim", "(I)Z"⟩
abbrev cX3_keep : ByteArray := prog_5_method_4_code
def yX3_keep : MethodName := ⟨RX3, "keep", "(IILReasonDesk$Bits;)I"⟩
abbrev cX3_settle : ByteArray := prog_5_method_5_code
def yX3_settle : MethodName := ⟨RX3, "settle", "([I)V"⟩
abbrev cX3_findStrikes : ByteArray := prog_5_method_6_code
def yX3_findStrikes : MethodName := ⟨RX3, "findStrikes", "()V"⟩
abbrev cX3_trustOf : ByteArray := prog_5_method_7_code
def yX3_trustOf : MethodName := ⟨RX3, "trustOf", "(I)I"⟩
abbrev cX3_findRounds : ByteArray := prog_5_method_8_code
def yX3_findRounds : MethodName := ⟨RX3, "findRounds", "()V"⟩
abbrev cX3_allOf : ByteArray := prog_5_method_9_code
def yX3_allOf : MethodName := ⟨RX3, "allOf", "([II)I"⟩
abbrev cX3_seek : ByteArray := prog_5_method_10_code
def yX3_seek : MethodName := ⟨RX3, "seek", "()V"⟩
abbrev cX3_fillLow : ByteArray := prog_5_method_11_code
def yX3_fillLow : MethodName := ⟨RX3, "fillLow", "()V"⟩
abbrev cX3_seekFrom : ByteArray := prog_5_method_12_code
def yX3_seekFrom : MethodName := ⟨RX3, "seekFrom", "(I)V"⟩
abbrev cX3_answerTo : ByteArray := prog_5_method_13_code
def yX3_answerTo : MethodName := ⟨RX3, "answerTo", "(I)I"⟩
def RX4 : String := "ReasonDesk$Entry"
def TX4 : u_T := fun k => match k with
  | 0 => ("ReasonDesk$Thing", "number", "I", true)
  | 1 => ("ReasonDesk$Entry", "sentence", "I", true)
  | 2 => ("ReasonDesk$Entry", "source", "I", true)
  | 3 => ("ReasonDesk$Entry", "from", "I", true)
  | 4 => ("ReasonDesk$Entry", "to", "I", true)
  | 5 => ("ReasonDesk$Entry", "known", "I", true)
  | _ => ("ReasonDesk$Entry", "givenUp", "I", false)
def tyX4 : Nat → FieldType := fun k => match k with
  | 0 => .int
  | 1 => .int
  | 2 => .int
  | 3 => .int
  | 4 => .int
  | 5 => .int
  | _ => .int
theorem nmX4 : ∀ a, a < 7 → ∀ b, b < 7 → a ≠ b → (TX4 a).2.1 ≠ (TX4 b).2.1 := by decide +kernel
theorem tyX4_ok : ∀ k, k < 7 → parseFieldDescriptor (TX4 k).2.2.1 = some (tyX4 k) := by decide +kernel
abbrev cX4_init : ByteArray := prog_6_method_1_code
def yX4_init : MethodName := ⟨RX4, "<init>", "(IIIIII)V"⟩
abbrev cX4_told : ByteArray := prog_6_method_2_code
def yX4_told : MethodName := ⟨RX4, "told", "([I)I"⟩
def RX5 : String := "ReasonDesk$Loose"
def TX5 : u_T := fun k => match k with
  | 0 => ("ReasonDesk$Rule", "when", "I", true)
  | 1 => ("ReasonDesk$Rule", "then", "I", true)
  | 2 => ("ReasonDesk$Rule", "unless", "I", true)
  | 3 => ("ReasonDesk$Rule", "rank", "I", true)
  | _ => ("ReasonDesk$Thing", "number", "I", true)
def tyX5 : Nat → FieldType := fun k => match k with
  | 0 => .int
  | 1 => .int
  | 2 => .int
  | 3 => .int
  | _ => .int
theorem nmX5 : ∀ a, a < 5 → ∀ b, b < 5 → a ≠ b → (TX5 a).2.1 ≠ (TX5 b).2.1 := by decide +kernel
theorem tyX5_ok : ∀ k, k < 5 → parseFieldDescriptor (TX5 k).2.2.1 = some (tyX5 k) := by decide +kernel
abbrev cX5_init : ByteArray := prog_7_method_1_code
def yX5_init : MethodName := ⟨RX5, "<init>", "(IIIII)V"⟩
abbrev cX5_told : ByteArray := prog_7_method_2_code
def yX5_told : MethodName := ⟨RX5, "told", "([I)I"⟩
abbrev cX5_shown : ByteArray := prog_7_method_3_code
def yX5_shown : MethodName := ⟨RX5, "shown", "([I)I"⟩
def RX6 : String := "ReasonDesk$Merging"
def TX6 : u_T := fun k => match k with
  | 0 => ("ReasonDesk$Merging", "fars", "[[I", true)
  | 1 => ("ReasonDesk$Merging", "taking", "I", false)
  | 2 => ("ReasonDesk$Merging", "nearest", "LReasonDesk$Bits;", true)
  | _ => ("ReasonDesk$Merging", "settledView", "I", false)
def tyX6 : Nat → FieldType := fun k => match k with
  | 0 => .array (.array .int)
  | 1 => .int
  | 2 => .object "ReasonDesk$Bits"
  | _ => .int
theorem nmX6 : ∀ a, a < 4 → ∀ b, b < 4 → a ≠ b → (TX6 a).2.1 ≠ (TX6 b).2.1 := by decide +kernel
theorem tyX6_ok : ∀ k, k < 4 → parseFieldDescriptor (TX6 k).2.2.1 = some (tyX6 k) := by decide +kernel
abbrev cX6_init : ByteArray := prog_8_method_1_code
def yX6_init : MethodName := ⟨RX6, "<init>", "()V"⟩
abbrev cX6_settle : ByteArray := prog_8_method_2_code
def yX6_settle : MethodName := ⟨RX6, "settle", "(LReasonDesk$Book;)V"⟩
abbrev cX6_begin : ByteArray := prog_8_method_3_code
def yX6_begin : MethodName := ⟨RX6, "begin", "([IILReasonDesk$Book;)Z"⟩
abbrev cX6_spread : ByteArray := prog_8_method_4_code
def yX6_spread : MethodName := ⟨RX6, "spread", "([I)V"⟩
abbrev cX6_chosen : ByteArray := prog_8_method_5_code
def yX6_chosen : MethodName := ⟨RX6, "chosen", "(ILReasonDesk$Book;)LReasonDesk$Bits;"⟩
abbrev cX6_costOf : ByteArray := prog_8_method_6_code
def yX6_costOf : MethodName := ⟨RX6, "costOf", "(II[I)I"⟩
def RX7 : String := "ReasonDesk$Reader"
def TX7 : u_T := fun k => match k with
  | 0 => ("ReasonDesk$Reader", "marks", "[I", true)
  | 1 => ("ReasonDesk$Reader", "values", "[LReasonDesk$Bits;", true)
  | 2 => ("ReasonDesk$Reader", "markCount", "I", false)
  | _ => ("ReasonDesk$Reader", "valueCount", "I", false)
def tyX7 : Nat → FieldType := fun k => match k with
  | 0 => .array .int
  | 1 => .array (.object "ReasonDesk$Bits")
  | 2 => .int
  | _ => .int
theorem nmX7 : ∀ a, a < 4 → ∀ b, b < 4 → a ≠ b → (TX7 a).2.1 ≠ (TX7 b).2.1 := by decide +kernel
theorem tyX7_ok : ∀ k, k < 4 → parseFieldDescriptor (TX7 k).2.2.1 = some (tyX7 k) := by decide +kernel
abbrev cX7_init : ByteArray := prog_9_method_1_code
def yX7_init : MethodName := ⟨RX7, "<init>", "()V"⟩
abbrev cX7_firstFault : ByteArray := prog_9_method_2_code
def yX7_firstFault : MethodName := ⟨RX7, "firstFault", "([III)I"⟩
abbrev cX7_valueOf : ByteArray := prog_9_method_3_code
def yX7_valueOf : MethodName := ⟨RX7, "valueOf", "([III)LReasonDesk$Bits;"⟩
abbrev cX7_isOperand : ByteArray := prog_9_method_4_code
def yX7_isOperand : MethodName := ⟨RX7, "isOperand", "(I)Z"⟩
abbrev cX7_rank : ByteArray := prog_9_method_5_code
def yX7_rank : MethodName := ⟨RX7, "rank", "(I)I"⟩
abbrev cX7_mark : ByteArray := prog_9_method_6_code
def yX7_mark : MethodName := ⟨RX7, "mark", "(I)V"⟩
abbrev cX7_operand : ByteArray := prog_9_method_7_code
def yX7_operand : MethodName := ⟨RX7, "operand", "(I)V"⟩
abbrev cX7_turnAsMarked : ByteArray := prog_9_method_8_code
def yX7_turnAsMarked : MethodName := ⟨RX7, "turnAsMarked", "()V"⟩
abbrev cX7_closeBracket : ByteArray := prog_9_method_9_code
def yX7_closeBracket : MethodName := ⟨RX7, "closeBracket", "()V"⟩
abbrev cX7_bind : ByteArray := prog_9_method_10_code
def yX7_bind : MethodName := ⟨RX7, "bind", "(I)V"⟩
abbrev cX7_apply : ByteArray := prog_9_method_11_code
def yX7_apply : MethodName := ⟨RX7, "apply", "(I)V"⟩
def RX8 : String := "ReasonDesk$Rule"
def TX8 : u_T := fun k => match k with
  | 0 => ("ReasonDesk$Thing", "number", "I", true)
  | 1 => ("ReasonDesk$Rule", "when", "I", true)
  | 2 => ("ReasonDesk$Rule", "then", "I", true)
  | 3 => ("ReasonDesk$Rule", "unless", "I", true)
  | _ => ("ReasonDesk$Rule", "rank", "I", true)
def tyX8 : Nat → FieldType := fun k => match k with
  | 0 => .int
  | 1 => .int
  | 2 => .int
  | 3 => .int
  | _ => .int
theorem nmX8 : ∀ a, a < 5 → ∀ b, b < 5 → a ≠ b → (TX8 a).2.1 ≠ (TX8 b).2.1 := by decide +kernel
theorem tyX8_ok : ∀ k, k < 5 → parseFieldDescriptor (TX8 k).2.2.1 = some (tyX8 k) := by decide +kernel
abbrev cX8_init : ByteArray := prog_10_method_1_code
def yX8_init : MethodName := ⟨RX8, "<init>", "(IIIII)V"⟩
abbrev cX8_told : ByteArray := prog_10_method_2_code
def yX8_told : MethodName := ⟨RX8, "told", "([I)I"⟩
abbrev cX8_plainly : ByteArray := prog_10_method_3_code
def yX8_plainly : MethodName := ⟨RX8, "plainly", "([I)I"⟩
abbrev cX8_shown : ByteArray := prog_10_method_4_code
def yX8_shown : MethodName := ⟨RX8, "shown", "([I)I"⟩
def RX9 : String := "ReasonDesk$Rules"
def TX9 : u_T := fun k => match k with
  | 0 => ("ReasonDesk$Rules", "base", "LReasonDesk$Bits;", true)
  | 1 => ("ReasonDesk$Rules", "count", "I", false)
  | 2 => ("ReasonDesk$Rules", "rules", "[LReasonDesk$Rule;", true)
  | 3 => ("ReasonDesk$Rules", "whens", "[LReasonDesk$Bits;", true)
  | 4 => ("ReasonDesk$Rules", "thens", "[LReasonDesk$Bits;", true)
  | 5 => ("ReasonDesk$Rules", "unlesses", "[LReasonDesk$Bits;", true)
  | 6 => ("ReasonDesk$Rules", "within", "LReasonDesk$Bits;", true)
  | 7 => ("ReasonDesk$Rules", "ahead", "LReasonDesk$Bits;", true)
  | 8 => ("ReasonDesk$Rules", "extended", "LReasonDesk$Bits;", true)
  | 9 => ("ReasonDesk$Rules", "best", "LReasonDesk$Bits;", true)
  | 10 => ("ReasonDesk$Rules", "baseView", "I", false)
  | _ => ("ReasonDesk$Rules", "foundCount", "I", false)
def tyX9 : Nat → FieldType := fun k => match k with
  | 0 => .object "ReasonDesk$Bits"
  | 1 => .int
  | 2 => .array (.object "ReasonDesk$Rule")
  | 3 => .array (.object "ReasonDesk$Bits")
  | 4 => .array (.object "ReasonDesk$Bits")
  | 5 => .array (.object "ReasonDesk$Bits")
  | 6 => .object "ReasonDesk$Bits"
  | 7 => .object "ReasonDesk$Bits"
  | 8 => .object "ReasonDesk$Bits"
  | 9 => .object "ReasonDesk$Bits"
  | 10 => .int
  | _ => .int
theorem nmX9 : ∀ a, a < 12 → ∀ b, b < 12 → a ≠ b → (TX9 a).2.1 ≠ (TX9 b).2.1 := by decide +kernel
theorem tyX9_ok : ∀ k, k < 12 → parseFieldDescriptor (TX9 k).2.2.1 = some (tyX9 k) := by decide +kernel
abbrev cX9_init : ByteArray := prog_11_method_1_code
def yX9_init : MethodName := ⟨RX9, "<init>", "()V"⟩
abbrev cX9_isFull : ByteArray := prog_11_method_2_code
def yX9_isFull : MethodName := ⟨RX9, "isFull", "()Z"⟩
abbrev cX9_ruleAt : ByteArray := prog_11_method_3_code
def yX9_ruleAt : MethodName := ⟨RX9, "ruleAt", "(I)LReasonDesk$Rule;"⟩
abbrev cX9_keep : ByteArray := prog_11_method_4_code
def yX9_keep : MethodName := ⟨RX9, "keep", "(LReasonDesk$Rule;LReasonDesk$Bits;LReasonDesk$Bits;LReasonDesk$Bits;)I"⟩
abbrev cX9_settle : ByteArray := prog_11_method_5_code
def yX9_settle : MethodName := ⟨RX9, "settle", "(LReasonDesk$Book;)V"⟩
abbrev cX9_worldsOf : ByteArray := prog_11_method_6_code
def yX9_worldsOf : MethodName := ⟨RX9, "worldsOf", "(I)LReasonDesk$Bits;"⟩
abbrev cX9_goes : ByteArray := prog_11_method_7_code
def yX9_goes : MethodName := ⟨RX9, "goes", "(ILReasonDesk$Bits;)Z"⟩
abbrev cX9_goesOfBase : ByteArray := prog_11_method_8_code
def yX9_goesOfBase : MethodName := ⟨RX9, "goesOfBase", "(I)Z"⟩
abbrev cX9_found : ByteArray := prog_11_method_9_code
def yX9_found : MethodName := ⟨RX9, "found", "()LReasonDesk$Bits;"⟩
abbrev cX9_able : ByteArray := prog_11_method_10_code
def yX9_able : MethodName := ⟨RX9, "able", "()I"⟩
abbrev cX9_isExtension : ByteArray := prog_11_method_11_code
def yX9_isExtension : MethodName := ⟨RX9, "isExtension", "(I)Z"⟩
abbrev cX9_inRow : ByteArray := prog_11_method_12_code
def yX9_inRow : MethodName := ⟨RX9, "inRow", "(I)I"⟩
abbrev cX9_worth : ByteArray := prog_11_method_13_code
def yX9_worth : MethodName := ⟨RX9, "worth", "(I)J"⟩
abbrev cX9_bestFound : ByteArray := prog_11_method_14_code
def yX9_bestFound : MethodName := ⟨RX9, "bestFound", "()LReasonDesk$Bits;"⟩
abbrev cX9_following : ByteArray := prog_11_method_15_code
def yX9_following : MethodName := ⟨RX9, "following", "(LReasonDesk$Bits;LReasonDesk$Bits;)I"⟩
abbrev cX9_barredBy : ByteArray := prog_11_method_16_code
def yX9_barredBy : MethodName := ⟨RX9, "barredBy", "(I)I"⟩
abbrev cX9_circle : ByteArray := prog_11_method_17_code
def yX9_circle : MethodName := ⟨RX9, "circle", "(I)I"⟩
def RX10 : String := "ReasonDesk$Thing"
def TX10 : u_T := fun k => match k with
  | _ => ("", "", "", false)
def tyX10 : Nat → FieldType := fun k => match k with
  | _ => .int
theorem nmX10 : ∀ a, a < 0 → ∀ b, b < 0 → a ≠ b → (TX10 a).2.1 ≠ (TX10 b).2.1 := by decide +kernel
theorem tyX10_ok : ∀ k, k < 0 → parseFieldDescriptor (TX10 k).2.2.1 = some (tyX10 k) := by decide +kernel
abbrev cX10_init : ByteArray := prog_12_method_1_code
def yX10_init : MethodName := ⟨RX10, "<init>", "(I)V"⟩
abbrev cX10_mark : ByteArray := prog_12_method_3_code
def yX10_mark : MethodName := ⟨RX10, "mark", "([II)V"⟩
def RX11 : String := "ReasonDesk"
def TX11 : u_T := fun k => match k with
  | 0 => ("ReasonDesk", "sentences", "[LReasonDesk$Bits;", true)
  | 1 => ("ReasonDesk", "sentenceCount", "I", false)
  | 2 => ("ReasonDesk", "contrary", "LReasonDesk$Bits;", true)
  | 3 => ("ReasonDesk", "scratch", "LReasonDesk$Bits;", true)
  | 4 => ("ReasonDesk", "reader", "LReasonDesk$Reader;", true)
  | 5 => ("ReasonDesk", "book", "LReasonDesk$Book;", true)
  | 6 => ("ReasonDesk", "rules", "LReasonDesk$Rules;", true)
  | 7 => ("ReasonDesk", "claims", "LReasonDesk$Claims;", true)
  | 8 => ("ReasonDesk", "merging", "LReasonDesk$Merging;", true)
  | 9 => ("ReasonDesk", "things", "[LReasonDesk$Thing;", true)
  | 10 => ("ReasonDesk", "cells", "[[I", true)
  | 11 => ("ReasonDesk", "lanes", "[I", true)
  | 12 => ("ReasonDesk", "sizes", "[I", true)
  | 13 => ("ReasonDesk", "trail", "[I", true)
  | _ => ("ReasonDesk", "lastFault", "I", false)
def tyX11 : Nat → FieldType := fun k => match k with
  | 0 => .array (.object "ReasonDesk$Bits")
  | 1 => .int
  | 2 => .object "ReasonDesk$Bits"
  | 3 => .object "ReasonDesk$Bits"
  | 4 => .object "ReasonDesk$Reader"
  | 5 => .object "ReasonDesk$Book"
  | 6 => .object "ReasonDesk$Rules"
  | 7 => .object "ReasonDesk$Claims"
  | 8 => .object "ReasonDesk$Merging"
  | 9 => .array (.object "ReasonDesk$Thing")
  | 10 => .array (.array .int)
  | 11 => .array .int
  | 12 => .array .int
  | 13 => .array .int
  | _ => .int
theorem nmX11 : ∀ a, a < 15 → ∀ b, b < 15 → a ≠ b → (TX11 a).2.1 ≠ (TX11 b).2.1 := by decide +kernel
theorem tyX11_ok : ∀ k, k < 15 → parseFieldDescriptor (TX11 k).2.2.1 = some (tyX11 k) := by decide +kernel
abbrev cX11_init : ByteArray := prog_1_method_1_code
def yX11_init : MethodName := ⟨RX11, "<init>", "()V"⟩
abbrev cX11_read : ByteArray := prog_1_method_2_code
def yX11_read : MethodName := ⟨RX11, "read", "(IIII)I"⟩
abbrev cX11_make : ByteArray := prog_1_method_3_code
def yX11_make : MethodName := ⟨RX11, "make", "(III)I"⟩
abbrev cX11_worlds : ByteArray := prog_1_method_4_code
def yX11_worlds : MethodName := ⟨RX11, "worlds", "(I)I"⟩
abbrev cX11_truth : ByteArray := prog_1_method_5_code
def yX11_truth : MethodName := ⟨RX11, "truth", "(II)I"⟩
abbrev cX11_compare : ByteArray := prog_1_method_6_code
def yX11_compare : MethodName := ⟨RX11, "compare", "(II)I"⟩
abbrev cX11_trust : ByteArray := prog_1_method_7_code
def yX11_trust : MethodName := ⟨RX11, "trust", "(II)I"⟩
abbrev cX11_hold : ByteArray := prog_1_method_8_code
def yX11_hold : MethodName := ⟨RX11, "hold", "(IIIII)I"⟩
abbrev cX11_view : ByteArray := prog_1_method_9_code
def yX11_view : MethodName := ⟨RX11, "view", "(II)I"⟩
abbrev cX11_entry : ByteArray := prog_1_method_10_code
def yX11_entry : MethodName := ⟨RX11, "entry", "(II)I"⟩
abbrev cX11_drop : ByteArray := prog_1_method_11_code
def yX11_drop : MethodName := ⟨RX11, "drop", "(II)I"⟩
abbrev cX11_weight : ByteArray := prog_1_method_12_code
def yX11_weight : MethodName := ⟨RX11, "weight", "(I)I"⟩
abbrev cX11_together : ByteArray := prog_1_method_13_code
def yX11_together : MethodName := ⟨RX11, "together", "(I)I"⟩
abbrev cX11_reasons : ByteArray := prog_1_method_14_code
def yX11_reasons : MethodName := ⟨RX11, "reasons", "(II)I"⟩
abbrev cX11_reason : ByteArray := prog_1_method_15_code
def yX11_reason : MethodName := ⟨RX11, "reason", "(III)I"⟩
abbrev cX11_harmonies : ByteArray := prog_1_method_16_code
def yX11_harmonies : MethodName := ⟨RX11, "harmonies", "(I)I"⟩
abbrev cX11_harmony : ByteArray := prog_1_method_17_code
def yX11_harmony : MethodName := ⟨RX11, "harmony", "(II)I"⟩
abbrev cX11_held : ByteArray := prog_1_method_18_code
def yX11_held : MethodName := ⟨RX11, "held", "(II)I"⟩
abbrev cX11_cuts : ByteArray := prog_1_method_19_code
def yX11_cuts : MethodName := ⟨RX11, "cuts", "(I)I"⟩
abbrev cX11_cutOf : ByteArray := prog_1_method_20_code
def yX11_cutOf : MethodName := ⟨RX11, "cutOf", "(II)I"⟩
abbrev cX11_least : ByteArray := prog_1_method_21_code
def yX11_least : MethodName := ⟨RX11, "least", "(I)I"⟩
abbrev cX11_giveUp : ByteArray := prog_1_method_22_code
def yX11_giveUp : MethodName := ⟨RX11, "giveUp", "(I)I"⟩
abbrev cX11_news : ByteArray := prog_1_method_23_code
def yX11_news : MethodName := ⟨RX11, "news", "(II)I"⟩
abbrev cX11_postulate : ByteArray := prog_1_method_24_code
def yX11_postulate : MethodName := ⟨RX11, "postulate", "(II)I"⟩
abbrev cX11_rule : ByteArray := prog_1_method_25_code
def yX11_rule : MethodName := ⟨RX11, "rule", "(IIIII)I"⟩
abbrev cX11_ruled : ByteArray := prog_1_method_26_code
def yX11_ruled : MethodName := ⟨RX11, "ruled", "(II)I"⟩
abbrev cX11_extensions : ByteArray := prog_1_method_27_code
def yX11_extensions : MethodName := ⟨RX11, "extensions", "(I)I"⟩
abbrev cX11_extension : ByteArray := prog_1_method_28_code
def yX11_extension : MethodName := ⟨RX11, "extension", "(II)I"⟩
abbrev cX11_concluded : ByteArray := prog_1_method_29_code
def yX11_concluded : MethodName := ⟨RX11, "concluded", "(II)I"⟩
abbrev cX11_claim : ByteArray := prog_1_method_30_code
def yX11_claim : MethodName := ⟨RX11, "claim", "(II)I"⟩
abbrev cX11_strikes : ByteArray := prog_1_method_31_code
def yX11_strikes : MethodName := ⟨RX11, "strikes", "(II)I"⟩
abbrev cX11_claimed : ByteArray := prog_1_method_32_code
def yX11_claimed : MethodName := ⟨RX11, "claimed", "(II)I"⟩
abbrev cX11_sets : ByteArray := prog_1_method_33_code
def yX11_sets : MethodName := ⟨RX11, "sets", "(I)I"⟩
abbrev cX11_setOf : ByteArray := prog_1_method_34_code
def yX11_setOf : MethodName := ⟨RX11, "setOf", "(II)I"⟩
abbrev cX11_parts : ByteArray := prog_1_method_35_code
def yX11_parts : MethodName := ⟨RX11, "parts", "()I"⟩
abbrev cX11_far : ByteArray := prog_1_method_36_code
def yX11_far : MethodName := ⟨RX11, "far", "(II)I"⟩
abbrev cX11_merged : ByteArray := prog_1_method_37_code
def yX11_merged : MethodName := ⟨RX11, "merged", "(I)I"⟩
abbrev cX11_mergedWorld : ByteArray := prog_1_method_38_code
def yX11_mergedWorld : MethodName := ⟨RX11, "mergedWorld", "(II)I"⟩
abbrev cX11_agreed : ByteArray := prog_1_method_39_code
def yX11_agreed : MethodName := ⟨RX11, "agreed", "(II)I"⟩
abbrev cX11_take : ByteArray := prog_1_method_40_code
def yX11_take : MethodName := ⟨RX11, "take", "(III)I"⟩
abbrev cX11_loose : ByteArray := prog_1_method_41_code
def yX11_loose : MethodName := ⟨RX11, "loose", "(I)I"⟩
abbrev cX11_as : ByteArray := prog_1_method_42_code
def yX11_as : MethodName := ⟨RX11, "as", "(II)I"⟩
abbrev cX11_tell : ByteArray := prog_1_method_43_code
def yX11_tell : MethodName := ⟨RX11, "tell", "(I)I"⟩
abbrev cX11_show : ByteArray := prog_1_method_44_code
def yX11_show : MethodName := ⟨RX11, "show", "(I)I"⟩
abbrev cX11_sheet : ByteArray := prog_1_method_45_code
def yX11_sheet : MethodName := ⟨RX11, "sheet", "(III)I"⟩
abbrev cX11_lose : ByteArray := prog_1_method_46_code
def yX11_lose : MethodName := ⟨RX11, "lose", "(I)I"⟩
abbrev cX11_put : ByteArray := prog_1_method_47_code
def yX11_put : MethodName := ⟨RX11, "put", "(III)I"⟩
abbrev cX11_cell : ByteArray := prog_1_method_48_code
def yX11_cell : MethodName := ⟨RX11, "cell", "(III)J"⟩
abbrev cX11_copy : ByteArray := prog_1_method_49_code
def yX11_copy : MethodName := ⟨RX11, "copy", "(IIIII)I"⟩
abbrev cX11_trace : ByteArray := prog_1_method_50_code
def yX11_trace : MethodName := ⟨RX11, "trace", "()I"⟩
abbrev cX11_fault : ByteArray := prog_1_method_51_code
def yX11_fault : MethodName := ⟨RX11, "fault", "()I"⟩
abbrev cX11_many : ByteArray := prog_1_method_52_code
def yX11_many : MethodName := ⟨RX11, "many", "(I)I"⟩
abbrev cX11_isWorld : ByteArray := prog_1_method_53_code
def yX11_isWorld : MethodName := ⟨RX11, "isWorld", "(I)Z"⟩
abbrev cX11_isSource : ByteArray := prog_1_method_54_code
def yX11_isSource : MethodName := ⟨RX11, "isSource", "(I)Z"⟩
abbrev cX11_isTime : ByteArray := prog_1_method_55_code
def yX11_isTime : MethodName := ⟨RX11, "isTime", "(I)Z"⟩
abbrev cX11_isLaw : ByteArray := prog_1_method_56_code
def yX11_isLaw : MethodName := ⟨RX11, "isLaw", "(I)Z"⟩
abbrev cX11_isLane : ByteArray := prog_1_method_57_code
def yX11_isLane : MethodName := ⟨RX11, "isLane", "(I)Z"⟩
abbrev cX11_isHold : ByteArray := prog_1_method_58_code
def yX11_isHold : MethodName := ⟨RX11, "isHold", "(I)Z"⟩
abbrev cX11_isSheet : ByteArray := prog_1_method_59_code
def yX11_isSheet : MethodName := ⟨RX11, "isSheet", "(I)Z"⟩
abbrev cX11_isOfKind : ByteArray := prog_1_method_60_code
def yX11_isOfKind : MethodName := ⟨RX11, "isOfKind", "(LReasonDesk$Thing;I)Z"⟩
abbrev cX11_cut : ByteArray := prog_1_method_61_code
def yX11_cut : MethodName := ⟨RX11, "cut", "(II)I"⟩
abbrev cX11_rowOfBits : ByteArray := prog_1_method_62_code
def yX11_rowOfBits : MethodName := ⟨RX11, "rowOfBits", "(I)[LReasonDesk$Bits;"⟩
abbrev cX11_sentenceAt : ByteArray := prog_1_method_63_code
def yX11_sentenceAt : MethodName := ⟨RX11, "sentenceAt", "(I)LReasonDesk$Bits;"⟩
abbrev cX11_newSentence : ByteArray := prog_1_method_64_code
def yX11_newSentence : MethodName := ⟨RX11, "newSentence", "()I"⟩
abbrev cX11_inWay : ByteArray := prog_1_method_65_code
def yX11_inWay : MethodName := ⟨RX11, "inWay", "(LReasonDesk$Bits;I)LReasonDesk$Bits;"⟩
abbrev cX11_faulted : ByteArray := prog_1_method_66_code
def yX11_faulted : MethodName := ⟨RX11, "faulted", "(I)I"⟩
def RX12 : String := "ReasonDeskModel"
def TX12 : u_T := fun k => match k with
  | 0 => ("ReasonDeskModel", "fault", "I", false)
  | 1 => ("ReasonDeskModel", "sentences", "I", false)
  | 2 => ("ReasonDeskModel", "trueIn", "[J", true)
  | 3 => ("ReasonDeskModel", "trusts", "[I", true)
  | 4 => ("ReasonDeskModel", "values", "[J", true)
  | 5 => ("ReasonDeskModel", "valueMany", "I", false)
  | 6 => ("ReasonDeskModel", "signs", "[I", true)
  | 7 => ("ReasonDeskModel", "signMany", "I", false)
  | 8 => ("ReasonDeskModel", "entries", "I", false)
  | 9 => ("ReasonDeskModel", "sentenceOf", "[I", true)
  | 10 => ("ReasonDeskModel", "sourceOf", "[I", true)
  | 11 => ("ReasonDeskModel", "from", "[I", true)
  | 12 => ("ReasonDeskModel", "to", "[I", true)
  | 13 => ("ReasonDeskModel", "known", "[I", true)
  | 14 => ("ReasonDeskModel", "givenUp", "[I", true)
  | 15 => ("ReasonDeskModel", "viewT", "I", false)
  | 16 => ("ReasonDeskModel", "viewK", "I", false)
  | 17 => ("ReasonDeskModel", "isLaid", "Z", false)
  | 18 => ("ReasonDeskModel", "worldsOf", "[J", true)
  | 19 => ("ReasonDeskModel", "isViewed", "Z", false)
  | 20 => ("ReasonDeskModel", "view", "I", false)
  | 21 => ("ReasonDeskModel", "harmonyMany", "I", false)
  | 22 => ("ReasonDeskModel", "harmonySets", "[I", true)
  | 23 => ("ReasonDeskModel", "bestMany", "I", false)
  | 24 => ("ReasonDeskModel", "bestSets", "[I", true)
  | 25 => ("ReasonDeskModel", "bestWeight", "I", false)
  | 26 => ("ReasonDeskModel", "free", "I", false)
  | 27 => ("ReasonDeskModel", "rules", "I", false)
  | 28 => ("ReasonDeskModel", "ruleKind", "[I", true)
  | 29 => ("ReasonDeskModel", "ifOf", "[I", true)
  | 30 => ("ReasonDeskModel", "thenOf", "[I", true)
  | 31 => ("ReasonDeskModel", "unlessOf", "[I", true)
  | 32 => ("ReasonDeskModel", "rankOf", "[I", true)
  | 33 => ("ReasonDeskModel", "isRuled", "Z", false)
  | 34 => ("ReasonDeskModel", "e4", "[J", true)
  | 35 => ("ReasonDeskModel", "extensionMany", "I", false)
  | 36 => ("ReasonDeskModel", "extensionSets", "[I", true)
  | 37 => ("ReasonDeskModel", "bestExtensionMany", "I", false)
  | 38 => ("ReasonDeskModel", "bestExtensions", "[I", true)
  | 39 => ("ReasonDeskModel", "bars", "[I", true)
  | 40 => ("ReasonDeskModel", "claims", "I", false)
  | 41 => ("ReasonDeskModel", "claimOf", "[I", true)
  | 42 => ("ReasonDeskModel", "claimBy", "[I", true)
  | 43 => ("ReasonDeskModel", "isClaimed", "Z", false)
  | 44 => ("ReasonDeskModel", "struckBy", "[I", true)
  | 45 => ("ReasonDeskModel", "strikesAll", "[I", true)
  | 46 => ("ReasonDeskModel", "roundOf", "[I", true)
  | 47 => ("ReasonDeskModel", "standing", "I", false)
  | 48 => ("ReasonDeskModel", "soundMany", "I", false)
  | 49 => ("ReasonDeskModel", "preferredMany", "I", false)
  | 50 => ("ReasonDeskModel", "preferred", "[I", true)
  | 51 => ("ReasonDeskModel", "stableMany", "I", false)
  | 52 => ("ReasonDeskModel", "stable", "[I", true)
  | 53 => ("ReasonDeskModel", "isSound", "[Z", true)
  | 54 => ("ReasonDeskModel", "wins", "[Z", true)
  | 55 => ("ReasonDeskModel", "isMerged", "Z", false)
  | 56 => ("ReasonDeskModel", "taking", "I", false)
  | 57 => ("ReasonDeskModel", "fars", "[I", true)
  | 58 => ("ReasonDeskModel", "rows", "[I", true)
  | 59 => ("ReasonDeskModel", "bestRow", "[I", true)
  | 60 => ("ReasonDeskModel", "merged4", "[J", true)
  | 61 => ("ReasonDeskModel", "heldWhat", "[I", true)
  | 62 => ("ReasonDeskModel", "heldNumber", "[I", true)
  | 63 => ("ReasonDeskModel", "trace", "I", false)
  | 64 => ("ReasonDeskModel", "sheetSize", "[I", true)
  | 65 => ("ReasonDeskModel", "sheetLane", "[I", true)
  | 66 => ("ReasonDeskModel", "sheet", "[I", true)
  | _ => ("ReasonDeskModel", "hands", "[I", true)
def tyX12 : Nat → FieldType := fun k => match k with
  | 0 => .int
  | 1 => .int
  | 2 => .array .long
  | 3 => .array .int
  | 4 => .array .long
  | 5 => .int
  | 6 => .array .int
  | 7 => .int
  | 8 => .int
  | 9 => .array .int
  | 10 => .array .int
  | 11 => .array .int
  | 12 => .array .int
  | 13 => .array .int
  | 14 => .array .int
  | 15 => .int
  | 16 => .int
  | 17 => .boolean
  | 18 => .array .long
  | 19 => .boolean
  | 20 => .int
  | 21 => .int
  | 22 => .array .int
  | 23 => .int
  | 24 => .array .int
  | 25 => .int
  | 26 => .int
  | 27 => .int
  | 28 => .array .int
  | 29 => .array .int
  | 30 => .array .int
  | 31 => .array .int
  | 32 => .array .int
  | 33 => .boolean
  | 34 => .array .long
  | 35 => .int
  | 36 => .array .int
  | 37 => .int
  | 38 => .array .int
  | 39 => .array .int
  | 40 => .int
  | 41 => .array .int
  | 42 => .array .int
  | 43 => .boolean
  | 44 => .array .int
  | 45 => .array .int
  | 46 => .array .int
  | 47 => .int
  | 48 => .int
  | 49 => .int
  | 50 => .array .int
  | 51 => .int
  | 52 => .array .int
  | 53 => .array .boolean
  | 54 => .array .boolean
  | 55 => .boolean
  | 56 => .int
  | 57 => .array .int
  | 58 => .array .int
  | 59 => .array .int
  | 60 => .array .long
  | 61 => .array .int
  | 62 => .array .int
  | 63 => .int
  | 64 => .array .int
  | 65 => .array .int
  | 66 => .array .int
  | _ => .array .int
theorem nmX12 : ∀ a, a < 68 → ∀ b, b < 68 → a ≠ b → (TX12 a).2.1 ≠ (TX12 b).2.1 := by decide +kernel
theorem tyX12_ok : ∀ k, k < 68 → parseFieldDescriptor (TX12 k).2.2.1 = some (tyX12 k) := by decide +kernel
abbrev cX12_init : ByteArray := prog_14_method_1_code
def yX12_init : MethodName := ⟨RX12, "<init>", "()V"⟩
abbrev cX12_in : ByteArray := prog_14_method_2_code
def yX12_in : MethodName := ⟨RX12, "in", "(JJJ)Z"⟩
abbrev cX12_lost : ByteArray := prog_14_method_3_code
def yX12_lost : MethodName := ⟨RX12, "lost", "()J"⟩
abbrev cX12_hasBit : ByteArray := prog_14_method_4_code
def yX12_hasBit : MethodName := ⟨RX12, "hasBit", "(JI)Z"⟩
abbrev cX12_countBits : ByteArray := prog_14_method_5_code
def yX12_countBits : MethodName := ⟨RX12, "countBits", "(J)I"⟩
abbrev cX12_refused : ByteArray := prog_14_method_6_code
def yX12_refused : MethodName := ⟨RX12, "refused", "(I)I"⟩
abbrev cX12_failed : ByteArray := prog_14_method_7_code
def yX12_failed : MethodName := ⟨RX12, "failed", "(I)I"⟩
abbrev cX12_failedLong : ByteArray := prog_14_method_8_code
def yX12_failedLong : MethodName := ⟨RX12, "failedLong", "(I)J"⟩
abbrev cX12_noSentence : ByteArray := prog_14_method_9_code
def yX12_noSentence : MethodName := ⟨RX12, "noSentence", "(I)Z"⟩
abbrev cX12_noSource : ByteArray := prog_14_method_10_code
def yX12_noSource : MethodName := ⟨RX12, "noSource", "(I)Z"⟩
abbrev cX12_pushLetter : ByteArray := prog_14_method_11_code
def yX12_pushLetter : MethodName := ⟨RX12, "pushLetter", "(I)V"⟩
abbrev cX12_pushAll : ByteArray := prog_14_method_12_code
def yX12_pushAll : MethodName := ⟨RX12, "pushAll", "(Z)V"⟩
abbrev cX12_turnTop : ByteArray := prog_14_method_13_code
def yX12_turnTop : MethodName := ⟨RX12, "turnTop", "()V"⟩
abbrev cX12_reduce : ByteArray := prog_14_method_14_code
def yX12_reduce : MethodName := ⟨RX12, "reduce", "()V"⟩
abbrev cX12_tight : ByteArray := prog_14_method_15_code
def yX12_tight : MethodName := ⟨RX12, "tight", "(I)I"⟩
abbrev cX12_turned : ByteArray := prog_14_method_16_code
def yX12_turned : MethodName := ⟨RX12, "turned", "()V"⟩
abbrev cX12_operand : ByteArray := prog_14_method_17_code
def yX12_operand : MethodName := ⟨RX12, "operand", "(I)V"⟩
abbrev cX12_operator : ByteArray := prog_14_method_18_code
def yX12_operator : MethodName := ⟨RX12, "operator", "(I)V"⟩
abbrev cX12_parse : ByteArray := prog_14_method_19_code
def yX12_parse : MethodName := ⟨RX12, "parse", "(II)I"⟩
abbrev cX12_read : ByteArray := prog_14_method_20_code
def yX12_read : MethodName := ⟨RX12, "read", "(IIII)I"⟩
abbrev cX12_make : ByteArray := prog_14_method_21_code
def yX12_make : MethodName := ⟨RX12, "make", "(III)I"⟩
abbrev cX12_countAt : ByteArray := prog_14_method_22_code
def yX12_countAt : MethodName := ⟨RX12, "countAt", "(I)I"⟩
abbrev cX12_worlds : ByteArray := prog_14_method_23_code
def yX12_worlds : MethodName := ⟨RX12, "worlds", "(I)I"⟩
abbrev cX12_truth : ByteArray := prog_14_method_24_code
def yX12_truth : MethodName := ⟨RX12, "truth", "(II)I"⟩
abbrev cX12_isWithin : ByteArray := prog_14_method_25_code
def yX12_isWithin : MethodName := ⟨RX12, "isWithin", "(II)Z"⟩
abbrev cX12_areApart : ByteArray := prog_14_method_26_code
def yX12_areApart : MethodName := ⟨RX12, "areApart", "(II)Z"⟩
abbrev cX12_compare : ByteArray := prog_14_method_27_code
def yX12_compare : MethodName := ⟨RX12, "compare", "(II)I"⟩
abbrev cX12_trust : ByteArray := prog_14_method_28_code
def yX12_trust : MethodName := ⟨RX12, "trust", "(II)I"⟩
abbrev cX12_otherView : ByteArray := prog_14_method_29_code
def yX12_otherView : MethodName := ⟨RX12, "otherView", "()V"⟩
abbrev cX12_noEntry : ByteArray := prog_14_method_30_code
def yX12_noEntry : MethodName := ⟨RX12, "noEntry", "(I)Z"⟩
abbrev cX12_isEntrySet : ByteArray := prog_14_method_31_code
def yX12_isEntrySet : MethodName := ⟨RX12, "isEntrySet", "(I)Z"⟩
abbrev cX12_layWorlds : ByteArray := prog_14_method_32_code
def yX12_layWorlds : MethodName := ⟨RX12, "layWorlds", "()V"⟩
abbrev cX12_isInView : ByteArray := prog_14_method_33_code
def yX12_isInView : MethodName := ⟨RX12, "isInView", "(I)Z"⟩
abbrev cX12_weightOf : ByteArray := prog_14_method_34_code
def yX12_weightOf : MethodName := ⟨RX12, "weightOf", "(I)I"⟩
abbrev cX12_hasWorld : ByteArray := prog_14_method_35_code
def yX12_hasWorld : MethodName := ⟨RX12, "hasWorld", "(I)Z"⟩
abbrev cX12_isHarmony : ByteArray := prog_14_method_36_code
def yX12_isHarmony : MethodName := ⟨RX12, "isHarmony", "(I)Z"⟩
abbrev cX12_lay : ByteArray := prog_14_method_37_code
def yX12_lay : MethodName := ⟨RX12, "lay", "()V"⟩
abbrev cX12_hold : ByteArray := prog_14_method_38_code
def yX12_hold : MethodName := ⟨RX12, "hold", "(IIIII)I"⟩
abbrev cX12_addEntry : ByteArray := prog_14_method_39_code
def yX12_addEntry : MethodName := ⟨RX12, "addEntry", "(IIIII)I"⟩
abbrev cX12_view : ByteArray := prog_14_method_40_code
def yX12_view : MethodName := ⟨RX12, "view", "(II)I"⟩
abbrev cX12_harmoniesWith : ByteArray := prog_14_method_41_code
def yX12_harmoniesWith : MethodName := ⟨RX12, "harmoniesWith", "(I)I"⟩
abbrev cX12_entry : ByteArray := prog_14_method_42_code
def yX12_entry : MethodName := ⟨RX12, "entry", "(II)I"⟩
abbrev cX12_drop : ByteArray := prog_14_method_43_code
def yX12_drop : MethodName := ⟨RX12, "drop", "(II)I"⟩
abbrev cX12_weight : ByteArray := prog_14_method_44_code
def yX12_weight : MethodName := ⟨RX12, "weight", "(I)I"⟩
abbrev cX12_countWorlds : ByteArray := prog_14_method_45_code
def yX12_countWorlds : MethodName := ⟨RX12, "countWorlds", "(I)I"⟩
abbrev cX12_together : ByteArray := prog_14_method_46_code
def yX12_together : MethodName := ⟨RX12, "together", "(I)I"⟩
abbrev cX12_follows : ByteArray := prog_14_method_47_code
def yX12_follows : MethodName := ⟨RX12, "follows", "(III)Z"⟩
abbrev cX12_isReason : ByteArray := prog_14_method_48_code
def yX12_isReason : MethodName := ⟨RX12, "isReason", "(III)Z"⟩
abbrev cX12_reasonAt : ByteArray := prog_14_method_49_code
def yX12_reasonAt : MethodName := ⟨RX12, "reasonAt", "(III)I"⟩
abbrev cX12_reasons : ByteArray := prog_14_method_50_code
def yX12_reasons : MethodName := ⟨RX12, "reasons", "(II)I"⟩
abbrev cX12_reason : ByteArray := prog_14_method_51_code
def yX12_reason : MethodName := ⟨RX12, "reason", "(III)I"⟩
abbrev cX12_harmonies : ByteArray := prog_14_method_52_code
def yX12_harmonies : MethodName := ⟨RX12, "harmonies", "(I)I"⟩
abbrev cX12_harmony : ByteArray := prog_14_method_53_code
def yX12_harmony : MethodName := ⟨RX12, "harmony", "(II)I"⟩
abbrev cX12_followers : ByteArray := prog_14_method_54_code
def yX12_followers : MethodName := ⟨RX12, "followers", "(IZ)I"⟩
abbrev cX12_held : ByteArray := prog_14_method_55_code
def yX12_held : MethodName := ⟨RX12, "held", "(II)I"⟩
abbrev cX12_isCut : ByteArray := prog_14_method_56_code
def yX12_isCut : MethodName := ⟨RX12, "isCut", "(III)Z"⟩
abbrev cX12_cutAt : ByteArray := prog_14_method_57_code
def yX12_cutAt : MethodName := ⟨RX12, "cutAt", "(II)I"⟩
abbrev cX12_cuts : ByteArray := prog_14_method_58_code
def yX12_cuts : MethodName := ⟨RX12, "cuts", "(I)I"⟩
abbrev cX12_cutOf : ByteArray := prog_14_method_59_code
def yX12_cutOf : MethodName := ⟨RX12, "cutOf", "(II)I"⟩
abbrev cX12_leastCut : ByteArray := prog_14_method_60_code
def yX12_leastCut : MethodName := ⟨RX12, "leastCut", "(II)I"⟩
abbrev cX12_least : ByteArray := prog_14_method_61_code
def yX12_least : MethodName := ⟨RX12, "least", "(I)I"⟩
abbrev cX12_giveAll : ByteArray := prog_14_method_62_code
def yX12_giveAll : MethodName := ⟨RX12, "giveAll", "(I)V"⟩
abbrev cX12_giveUp : ByteArray := prog_14_method_63_code
def yX12_giveUp : MethodName := ⟨RX12, "giveUp", "(I)I"⟩
abbrev cX12_news : ByteArray := prog_14_method_64_code
def yX12_news : MethodName := ⟨RX12, "news", "(II)I"⟩
abbrev cX12_isOfReason : ByteArray := prog_14_method_65_code
def yX12_isOfReason : MethodName := ⟨RX12, "isOfReason", "(II)Z"⟩
abbrev cX12_postulate : ByteArray := prog_14_method_66_code
def yX12_postulate : MethodName := ⟨RX12, "postulate", "(II)I"⟩
abbrev cX12_noRule : ByteArray := prog_14_method_67_code
def yX12_noRule : MethodName := ⟨RX12, "noRule", "(I)Z"⟩
abbrev cX12_rule : ByteArray := prog_14_method_68_code
def yX12_rule : MethodName := ⟨RX12, "rule", "(IIIII)I"⟩
abbrev cX12_layE : ByteArray := prog_14_method_69_code
def yX12_layE : MethodName := ⟨RX12, "layE", "(I)V"⟩
abbrev cX12_followsE : ByteArray := prog_14_method_70_code
def yX12_followsE : MethodName := ⟨RX12, "followsE", "(I)Z"⟩
abbrev cX12_goes : ByteArray := prog_14_method_71_code
def yX12_goes : MethodName := ⟨RX12, "goes", "(I)Z"⟩
abbrev cX12_isGrounded : ByteArray := prog_14_method_72_code
def yX12_isGrounded : MethodName := ⟨RX12, "isGrounded", "(I)Z"⟩
abbrev cX12_isExtension : ByteArray := prog_14_method_73_code
def yX12_isExtension : MethodName := ⟨RX12, "isExtension", "(I)Z"⟩
abbrev cX12_compareRanks : ByteArray := prog_14_method_74_code
def yX12_compareRanks : MethodName := ⟨RX12, "compareRanks", "(II)I"⟩
abbrev cX12_layRules : ByteArray := prog_14_method_75_code
def yX12_layRules : MethodName := ⟨RX12, "layRules", "()V"⟩
abbrev cX12_circleOf : ByteArray := prog_14_method_76_code
def yX12_circleOf : MethodName := ⟨RX12, "circleOf", "(I)I"⟩
abbrev cX12_extensionsWith : ByteArray := prog_14_method_77_code
def yX12_extensionsWith : MethodName := ⟨RX12, "extensionsWith", "(I)I"⟩
abbrev cX12_ruled : ByteArray := prog_14_method_78_code
def yX12_ruled : MethodName := ⟨RX12, "ruled", "(II)I"⟩
abbrev cX12_extensions : ByteArray := prog_14_method_79_code
def yX12_extensions : MethodName := ⟨RX12, "extensions", "(I)I"⟩
abbrev cX12_countE : ByteArray := prog_14_method_80_code
def yX12_countE : MethodName := ⟨RX12, "countE", "()I"⟩
abbrev cX12_extension : ByteArray := prog_14_method_81_code
def yX12_extension : MethodName := ⟨RX12, "extension", "(II)I"⟩
abbrev cX12_concluded : ByteArray := prog_14_method_82_code
def yX12_concluded : MethodName := ⟨RX12, "concluded", "(II)I"⟩
abbrev cX12_noClaim : ByteArray := prog_14_method_83_code
def yX12_noClaim : MethodName := ⟨RX12, "noClaim", "(I)Z"⟩
abbrev cX12_claim : ByteArray := prog_14_method_84_code
def yX12_claim : MethodName := ⟨RX12, "claim", "(II)I"⟩
abbrev cX12_doesStrike : ByteArray := prog_14_method_85_code
def yX12_doesStrike : MethodName := ⟨RX12, "doesStrike", "(II)Z"⟩
abbrev cX12_strikes : ByteArray := prog_14_method_86_code
def yX12_strikes : MethodName := ⟨RX12, "strikes", "(II)I"⟩
abbrev cX12_struckOf : ByteArray := prog_14_method_87_code
def yX12_struckOf : MethodName := ⟨RX12, "struckOf", "(I)I"⟩
abbrev cX12_defends : ByteArray := prog_14_method_88_code
def yX12_defends : MethodName := ⟨RX12, "defends", "(II)Z"⟩
abbrev cX12_findStanding : ByteArray := prog_14_method_89_code
def yX12_findStanding : MethodName := ⟨RX12, "findStanding", "()V"⟩
abbrev cX12_isSoundSet : ByteArray := prog_14_method_90_code
def yX12_isSoundSet : MethodName := ⟨RX12, "isSoundSet", "(I)Z"⟩
abbrev cX12_findSets : ByteArray := prog_14_method_91_code
def yX12_findSets : MethodName := ⟨RX12, "findSets", "()V"⟩
abbrev cX12_doesWin : ByteArray := prog_14_method_92_code
def yX12_doesWin : MethodName := ⟨RX12, "doesWin", "(II)Z"⟩
abbrev cX12_findWins : ByteArray := prog_14_method_93_code
def yX12_findWins : MethodName := ⟨RX12, "findWins", "()V"⟩
abbrev cX12_layClaims : ByteArray := prog_14_method_94_code
def yX12_layClaims : MethodName := ⟨RX12, "layClaims", "()V"⟩
abbrev cX12_answerTo : ByteArray := prog_14_method_95_code
def yX12_answerTo : MethodName := ⟨RX12, "answerTo", "(I)I"⟩
abbrev cX12_among : ByteArray := prog_14_method_96_code
def yX12_among : MethodName := ⟨RX12, "among", "(IZ)I"⟩
abbrev cX12_claimed : ByteArray := prog_14_method_97_code
def yX12_claimed : MethodName := ⟨RX12, "claimed", "(II)I"⟩
abbrev cX12_sets : ByteArray := prog_14_method_98_code
def yX12_sets : MethodName := ⟨RX12, "sets", "(I)I"⟩
abbrev cX12_setOf : ByteArray := prog_14_method_99_code
def yX12_setOf : MethodName := ⟨RX12, "setOf", "(II)I"⟩
abbrev cX12_bookOf : ByteArray := prog_14_method_100_code
def yX12_bookOf : MethodName := ⟨RX12, "bookOf", "(I)I"⟩
abbrev cX12_layFars : ByteArray := prog_14_method_101_code
def yX12_layFars : MethodName := ⟨RX12, "layFars", "(II)V"⟩
abbrev cX12_layMerge : ByteArray := prog_14_method_102_code
def yX12_layMerge : MethodName := ⟨RX12, "layMerge", "()V"⟩
abbrev cX12_parts : ByteArray := prog_14_method_103_code
def yX12_parts : MethodName := ⟨RX12, "parts", "()I"⟩
abbrev cX12_far : ByteArray := prog_14_method_104_code
def yX12_far : MethodName := ⟨RX12, "far", "(II)I"⟩
abbrev cX12_layRow : ByteArray := prog_14_method_105_code
def yX12_layRow : MethodName := ⟨RX12, "layRow", "(II)V"⟩
abbrev cX12_compareRows : ByteArray := prog_14_method_106_code
def yX12_compareRows : MethodName := ⟨RX12, "compareRows", "()I"⟩
abbrev cX12_merge : ByteArray := prog_14_method_107_code
def yX12_merge : MethodName := ⟨RX12, "merge", "(I)V"⟩
abbrev cX12_merged : ByteArray := prog_14_method_108_code
def yX12_merged : MethodName := ⟨RX12, "merged", "(I)I"⟩
abbrev cX12_mergedWorld : ByteArray := prog_14_method_109_code
def yX12_mergedWorld : MethodName := ⟨RX12, "mergedWorld", "(II)I"⟩
abbrev cX12_agreed : ByteArray := prog_14_method_110_code
def yX12_agreed : MethodName := ⟨RX12, "agreed", "(II)I"⟩
abbrev cX12_noHold : ByteArray := prog_14_method_111_code
def yX12_noHold : MethodName := ⟨RX12, "noHold", "(I)Z"⟩
abbrev cX12_take : ByteArray := prog_14_method_112_code
def yX12_take : MethodName := ⟨RX12, "take", "(III)I"⟩
abbrev cX12_loose : ByteArray := prog_14_method_113_code
def yX12_loose : MethodName := ⟨RX12, "loose", "(I)I"⟩
abbrev cX12_as : ByteArray := prog_14_method_114_code
def yX12_as : MethodName := ⟨RX12, "as", "(II)I"⟩
abbrev cX12_traced : ByteArray := prog_14_method_115_code
def yX12_traced : MethodName := ⟨RX12, "traced", "(I)V"⟩
abbrev cX12_tell : ByteArray := prog_14_method_116_code
def yX12_tell : MethodName := ⟨RX12, "tell", "(I)I"⟩
abbrev cX12_show : ByteArray := prog_14_method_117_code
def yX12_show : MethodName := ⟨RX12, "show", "(I)I"⟩
abbrev cX12_noSheet : ByteArray := prog_14_method_118_code
def yX12_noSheet : MethodName := ⟨RX12, "noSheet", "(I)Z"⟩
abbrev cX12_sheet : ByteArray := prog_14_method_119_code
def yX12_sheet : MethodName := ⟨RX12, "sheet", "(III)I"⟩
abbrev cX12_lose : ByteArray := prog_14_method_120_code
def yX12_lose : MethodName := ⟨RX12, "lose", "(I)I"⟩
abbrev cX12_noCell : ByteArray := prog_14_method_121_code
def yX12_noCell : MethodName := ⟨RX12, "noCell", "(II)I"⟩
abbrev cX12_put : ByteArray := prog_14_method_122_code
def yX12_put : MethodName := ⟨RX12, "put", "(III)I"⟩
abbrev cX12_cell : ByteArray := prog_14_method_123_code
def yX12_cell : MethodName := ⟨RX12, "cell", "(III)J"⟩
abbrev cX12_isBeyond : ByteArray := prog_14_method_124_code
def yX12_isBeyond : MethodName := ⟨RX12, "isBeyond", "(IJI)Z"⟩
abbrev cX12_copy : ByteArray := prog_14_method_125_code
def yX12_copy : MethodName := ⟨RX12, "copy", "(IIIII)I"⟩
abbrev cX12_trace : ByteArray := prog_14_method_126_code
def yX12_trace : MethodName := ⟨RX12, "trace", "()I"⟩
abbrev cX12_fault : ByteArray := prog_14_method_127_code
def yX12_fault : MethodName := ⟨RX12, "fault", "()I"⟩
abbrev cX12_many : ByteArray := prog_14_method_128_code
def yX12_many : MethodName := ⟨RX12, "many", "(I)I"⟩
def RJ6 : String := "java/lang/Integer"
def TJ6 : u_T := fun k => match k with
  | _ => ("", "", "", false)
def tyJ6 : Nat → FieldType := fun k => match k with
  | _ => .int
theorem nmJ6 : ∀ a, a < 0 → ∀ b, b < 0 → a ≠ b → (TJ6 a).2.1 ≠ (TJ6 b).2.1 := by decide +kernel
theorem tyJ6_ok : ∀ k, k < 0 → parseFieldDescriptor (TJ6 k).2.2.1 = some (tyJ6 k) := by decide +kernel
abbrev cJ6_bitCount_0f7a4 : ByteArray := prog_15_method_49_code
def yJ6_bitCount_0f7a4 : MethodName := ⟨RJ6, "bitCount", "(I)I"⟩
def RJ13 : String := "java/lang/Long"
def TJ13 : u_T := fun k => match k with
  | _ => ("", "", "", false)
def tyJ13 : Nat → FieldType := fun k => match k with
  | _ => .int
theorem nmJ13 : ∀ a, a < 0 → ∀ b, b < 0 → a ≠ b → (TJ13 a).2.1 ≠ (TJ13 b).2.1 := by decide +kernel
theorem tyJ13_ok : ∀ k, k < 0 → parseFieldDescriptor (TJ13 k).2.2.1 = some (tyJ13 k) := by decide +kernel
abbrev cJ13_bitCount_95d88 : ByteArray := prog_16_method_50_code
def yJ13_bitCount_95d88 : MethodName := ⟨RJ13, "bitCount", "(J)I"⟩
def RJ9 : String := "java/lang/Math"
def TJ9 : u_T := fun k => match k with
  | _ => ("", "", "", false)
def tyJ9 : Nat → FieldType := fun k => match k with
  | _ => .int
theorem nmJ9 : ∀ a, a < 0 → ∀ b, b < 0 → a ≠ b → (TJ9 a).2.1 ≠ (TJ9 b).2.1 := by decide +kernel
theorem tyJ9_ok : ∀ k, k < 0 → parseFieldDescriptor (TJ9 k).2.2.1 = some (tyJ9 k) := by decide +kernel
abbrev cJ9_max_7cf53 : ByteArray := prog_17_method_65_code
def yJ9_max_7cf53 : MethodName := ⟨RJ9, "max", "(II)I"⟩
abbrev cJ9_max_f86c9 : ByteArray := prog_17_method_66_code
def yJ9_max_f86c9 : MethodName := ⟨RJ9, "max", "(JJ)J"⟩
abbrev cJ9_min_7cf53 : ByteArray := prog_17_method_69_code
def yJ9_min_7cf53 : MethodName := ⟨RJ9, "min", "(II)I"⟩
def RJ10 : String := "java/lang/System"
def TJ10 : u_T := fun k => match k with
  | _ => ("", "", "", false)
def tyJ10 : Nat → FieldType := fun k => match k with
  | _ => .int
theorem nmJ10 : ∀ a, a < 0 → ∀ b, b < 0 → a ≠ b → (TJ10 a).2.1 ≠ (TJ10 b).2.1 := by decide +kernel
theorem tyJ10_ok : ∀ k, k < 0 → parseFieldDescriptor (TJ10 k).2.2.1 = some (tyJ10 k) := by decide +kernel
def RJ7 : String := "java/util/Arrays"
def TJ7 : u_T := fun k => match k with
  | _ => ("", "", "", false)
def tyJ7 : Nat → FieldType := fun k => match k with
  | _ => .int
theorem nmJ7 : ∀ a, a < 0 → ∀ b, b < 0 → a ≠ b → (TJ7 a).2.1 ≠ (TJ7 b).2.1 := by decide +kernel
theorem tyJ7_ok : ∀ k, k < 0 → parseFieldDescriptor (TJ7 k).2.2.1 = some (tyJ7 k) := by decide +kernel
abbrev cJ7_fill_d0a16 : ByteArray := prog_19_method_101_code
def yJ7_fill_d0a16 : MethodName := ⟨RJ7, "fill", "([JJ)V"⟩
abbrev cJ7_fill_53178 : ByteArray := prog_19_method_103_code
def yJ7_fill_53178 : MethodName := ⟨RJ7, "fill", "([II)V"⟩
def RL : String := "ReasonDeskLaw"
abbrev cL_law : ByteArray := code
def yL_law : MethodName := ⟨RL, "law", "([I)Z"⟩
end
section
/-! A CHECKER: straight-line abstract runs of a method, proved sound once over the kit's rows; methods are then checked by the kernel. Words: a value (tag, sym, types): 0 int, 1 long, 2 a cell of one of the types, 3 the same or null, 4 null, 5 the script, 7 an lcmp of two syms. -/
abbrev ck_V : Type := Nat × Nat × List Nat
abbrev ck_T : Type := Nat × Int × Int × List Nat
abbrev ck_D : Type := Nat × Nat × Nat × List ck_T
abbrev ck_R : Type := Nat × Nat × Int
abbrev ck_M : Type := Nat × Nat × ck_V
abbrev ck_E : Type := List (Int × Int)
/-- a state: locals, stack, memory, intervals, relations, cells and slots made -/
abbrev ck_S : Type := List (Nat × ck_V) × List ck_V × List ck_M × ck_E × List ck_R × Nat × Nat
/-- a pattern: values, memory, intervals, relations -/
abbrev ck_P : Type := List ck_V × List ck_M × ck_E × List ck_R
/-- a contract: entry, cases, what it may write, cells and slots made -/
abbrev ck_C : Type := ck_P × List ck_P × List (Nat × Nat) × Nat × Nat
/-- a place with a picture: locals, stack, memory, intervals, relations, made, rank -/
abbrev ck_K : Type := List (Nat × Nat × Int)
abbrev ck_I : Type := ck_S × ck_K
def ck_max (a b : Int) : Int := if a ≤ b then b else a
def ck_min (a b : Int) : Int := if a ≤ b then a else b
theorem ck_max_le {a b c : Int} : ck_max a b ≤ c ↔ a ≤ c ∧ b ≤ c := by unfold ck_max; split <;> omega
theorem ck_le_min {a b c : Int} : c ≤ ck_min a b ↔ c ≤ a ∧ c ≤ b := by unfold ck_min; split <;> omega
def ck_dir (E : ck_E) (a b : Nat) (c : Int) : Bool :=
  (a == b && decide (0 ≤ c)) || match E[a]?, E[b]? with
    | some x, some y => decide (x.1 ≤ x.2) && (decide (y.1 ≤ y.2) && decide (x.2 - y.1 ≤ c))
    | _, _ => false
def ck_ent (E : ck_E) (R : List ck_R) : Nat → Nat → Nat → Int → Bool
  | 0, a, b, c => ck_dir E a b c
  | f + 1, a, b, c => ck_dir E a b c || R.any (fun r => r.1 == a && ck_ent E R f r.2.1 b (c - r.2.2))
/-- the meaning -/
abbrev ck_N : Type := Nat → Int × Value
def ck_eo (E : ck_E) (n : ck_N) : Prop := ∀ (k : Nat) (x : Int × Int), E[k]? = some x → x.1 ≤ x.2 → x.1 ≤ (n k).1 ∧ (n k).1 ≤ x.2
def ck_ro (R : List ck_R) (n : ck_N) (N : Nat) : Prop := ∀ r ∈ R, r.1 < N ∧ r.2.1 < N ∧ (n r.1).1 ≤ (n r.2.1).1 + r.2.2
theorem ck_dir_ok {E : ck_E} {n : ck_N} (hE : ck_eo E n) {a b : Nat} {c : Int} (h : ck_dir E a b c = true) : (n a).1 ≤ (n b).1 + c := by
  unfold ck_dir at h
  rw [Bool.or_eq_true] at h
  rcases h with h | h
  · rw [Bool.and_eq_true] at h
    have h1 := eq_of_beq h.1
    have h2 := of_decide_eq_true h.2
    subst h1
    omega
  · split at h
    · rename_i x y hx hy
      rw [Bool.and_eq_true, Bool.and_eq_true] at h
      have h1 := of_decide_eq_true h.1
      have h2 := of_decide_eq_true h.2.1
      have h3 := of_decide_eq_true h.2.2
      have a1 := hE a x hx h1
      have a2 := hE b y hy h2
      omega
    · cases h
theorem ck_ent_ok {E : ck_E} {R : List ck_R} {n : ck_N} {N : Nat} (hE : ck_eo E n) (hR : ck_ro R n N) : ∀ (f a b : Nat) (c : Int), ck_ent E R f a b c = true → (n a).1 ≤ (n b).1 + c := by
  intro f
  induction f with
  | zero => exact fun a b c h => ck_dir_ok hE h
  | succ f ih =>
    intro a b c h
    rw [ck_ent, Bool.or_eq_true] at h
    rcases h with h | h
    · exact ck_dir_ok hE h
    · obtain ⟨r, hr, h⟩ := List.any_eq_true.mp h
      rw [Bool.and_eq_true] at h
      have h1 := eq_of_beq h.1
      have h2 := ih _ _ _ h.2
      have h3 := (hR r hr).2.2
      rw [h1] at h3
      omega
/-- learn that a ≤ b + c -/
def ck_le (a b : Nat) (c : Int) (E : ck_E) (R : List ck_R) : ck_E × List ck_R :=
  match E[a]?, E[b]? with
  | some x, some y =>
    if x.1 ≤ x.2 ∧ y.1 ≤ y.2 then
      ((E.set a (x.1, ck_min x.2 (y.2 + c))).set b (ck_max y.1 (x.1 - c), if a = b then ck_min x.2 (y.2 + c) else y.2), if x.1 = x.2 ∨ y.1 = y.2 then R else (a, b, c) :: R)
    else (E, R)
  | _, _ => (E, R)
/-- no number is left for a -/
def ck_dead (E : ck_E) (a : Nat) : Bool := match E[a]? with
  | some x => decide (x.2 < x.1)
  | none => false
theorem ck_le_len (a b : Nat) (c : Int) (E : ck_E) (R : List ck_R) : (ck_le a b c E R).1.length = E.length := by
  unfold ck_le
  split
  · split <;> simp
  · rfl
theorem ck_le_ok {E : ck_E} {R : List ck_R} {n : ck_N} (hE : ck_eo E n) (hR : ck_ro R n E.length) {a b : Nat} {c : Int} (h : (n a).1 ≤ (n b).1 + c) :
    ck_eo (ck_le a b c E R).1 n ∧ ck_ro (ck_le a b c E R).2 n E.length ∧ (∀ x, E[a]? = some x → x.1 ≤ x.2 → ck_dead (ck_le a b c E R).1 a = false) ∧ (∀ x, E[b]? = some x → x.1 ≤ x.2 → ck_dead (ck_le a b c E R).1 b = false) := by
  have dead0 : ∀ (k : Nat) (x : Int × Int), E[k]? = some x → x.1 ≤ x.2 → ck_dead E k = false := by
    intro k x hx hle
    simp only [ck_dead, hx]
    exact decide_eq_false (by omega)
  unfold ck_le
  split
  · rename_i x y hx hy
    split
    · rename_i hxy
      have hla : a < E.length := (List.getElem?_eq_some_iff.mp hx).1
      have hlb : b < E.length := (List.getElem?_eq_some_iff.mp hy).1
      have ha := hE a x hx hxy.1
      have hb := hE b y hy hxy.2
      have key : ∀ (k : Nat) (z : Int × Int), ((E.set a (x.1, ck_min x.2 (y.2 + c))).set b (ck_max y.1 (x.1 - c), if a = b then ck_min x.2 (y.2 + c) else y.2))[k]? = some z → (k = a ∨ k = b ∨ z.1 ≤ z.2) → z.1 ≤ (n k).1 ∧ (n k).1 ≤ z.2 := by
        intro k z hz hk
        rw [List.getElem?_set] at hz
        by_cases e1 : b = k
        · subst e1
          rw [if_pos rfl] at hz
          simp only [List.length_set, hlb, if_true, Option.some.injEq] at hz
          subst hz
          refine ⟨ck_max_le.mpr ⟨hb.1, by omega⟩, ?_⟩
          show (n b).1 ≤ (if a = b then ck_min x.2 (y.2 + c) else y.2)
          split
          · rename_i e2
            subst e2
            exact ck_le_min.mpr ⟨ha.2, by omega⟩
          · exact hb.2
        · rw [if_neg e1, List.getElem?_set] at hz
          by_cases e2 : a = k
          · subst e2
            rw [if_pos rfl] at hz
            simp only [hla, if_true, Option.some.injEq] at hz
            subst hz
            exact ⟨ha.1, ck_le_min.mpr ⟨ha.2, by omega⟩⟩
          · rw [if_neg e2] at hz
            rcases hk with hk | hk | hk
            · exact absurd hk.symm e2
            · exact absurd hk.symm e1
            · exact hE k z hz hk
      refine ⟨fun k z hz hk => key k z hz (Or.inr (Or.inr hk)), ?_, fun _ _ _ => ?_, fun _ _ _ => ?_⟩
      · intro r hr
        dsimp only at hr
        split at hr
        · exact hR r hr
        · rcases List.mem_cons.mp hr with rfl | hr
          · exact ⟨hla, hlb, h⟩
          · exact hR r hr
      · unfold ck_dead
        split
        · rename_i z hz
          exact decide_eq_false (by have := key a z hz (Or.inl rfl); omega)
        · rfl
      · unfold ck_dead
        split
        · rename_i z hz
          exact decide_eq_false (by have := key b z hz (Or.inr (Or.inl rfl)); omega)
        · rfl
    · exact ⟨hE, hR, dead0 a, dead0 b⟩
  · exact ⟨hE, hR, dead0 a, dead0 b⟩
end
section
/-! values and worlds under a valuation -/
/-- the script, the row of constants WITH, and the numbers that a rank began with -/
abbrev ck_sc : Type := Option (Nat × Nat × (Nat → Int32)) × Option Nat × (Nat → Int)
def ck_rf (ws : va_W) (sh : List Nat) (ts : List Nat) (v : Value) : Prop := ∃ (q : Nat) (a : Nat) (e : va_E) (t : Nat), v = .ref a ∧ ws[q]? = some (a, e) ∧ sh[q]? = some t ∧ t ∈ ts
def ck_vo (ws : va_W) (sh : List Nat) (sc : ck_sc) (n : ck_N) (N : Nat) (av : ck_V) (v : Value) : Prop :=
  av.2.1 < N ∧ match av.1 with
  | 0 => ∃ x : Int32, v = .int x ∧ x.toInt = (n av.2.1).1
  | 1 => ∃ x : Int64, v = .long x ∧ x.toInt = (n av.2.1).1
  | 2 => v = (n av.2.1).2 ∧ ck_rf ws sh av.2.2 v
  | 3 => v = (n av.2.1).2 ∧ (v = .null ∨ ck_rf ws sh av.2.2 v)
  | 4 => v = (n av.2.1).2 ∧ v = .null
  | 5 => ∃ (b L : Nat) (xs : Nat → Int32), sc.1 = some (b, L, xs) ∧ v = .ref b ∧ (n av.2.1).1 = (L : Int)
  | 6 => ∃ w : Nat, sc.2.1 = some w ∧ v = .ref w
  | 7 => ∃ k2 : Nat, av.2.2 = [k2] ∧ k2 < N ∧ ∃ x y : Int64, v = .int (lg_cmp x y) ∧ x.toInt = (n av.2.1).1 ∧ y.toInt = (n k2).1
  | _ => False
def ck_fo (ws : va_W) (sh : List Nat) (t : ck_T) (v : Value) : Prop := match t.1 with
  | 0 => ∃ x : Int32, v = .int x ∧ t.2.1 ≤ x.toInt ∧ x.toInt ≤ t.2.2.1
  | 1 => ∃ x : Int64, v = .long x
  | 2 => ck_rf ws sh t.2.2.2 v
  | 3 => v = .null ∨ ck_rf ws sh t.2.2.2 v
  | _ => False
/-- what is a type's cell: 0 an object, 1 ints, 2 longs, 3 references to objects, 4 truths, 5 references to rows of ints -/
def ck_co (tys : List (ClassId × FieldType)) (ws : va_W) (sh : List Nat) (td : ck_D) (e : va_E) : Prop := match td.1 with
  | 0 => ∃ vs : List Value, e = .inr (td.2.1, vs) ∧ vs.length = td.2.2.2.length ∧ ∀ (k : Nat) (t : ck_T), td.2.2.2[k]? = some t → ∃ v, vs[k]? = some v ∧ ck_fo ws sh t v
  | 1 => ∃ (cA : ClassId) (f : Nat → Int32), tys[td.2.2.1]? = some (cA, .int) ∧ e = .inl (cA, td.2.1, .inl f) ∧ ∀ t : ck_T, td.2.2.2[0]? = some t → t.1 = 0 ∧ ∀ i, i < td.2.1 → t.2.1 ≤ (f i).toInt ∧ (f i).toInt ≤ t.2.2.1
  | 2 => ∃ (cA : ClassId) (f : Nat → Int64), tys[td.2.2.1]? = some (cA, .long) ∧ e = .inl (cA, td.2.1, .inr (.inl f))
  | 3 => ∃ (cA : ClassId) (C : String) (f : Nat → Option Nat), tys[td.2.2.1]? = some (cA, .object C) ∧ e = .inl (cA, td.2.1, .inr (.inr (.inr (.inr f)))) ∧ ∀ t : ck_T, td.2.2.2[0]? = some t → ∀ i, i < td.2.1 → ck_fo ws sh t (va_rf (f i))
  | 4 => ∃ (cA : ClassId) (f : Nat → Int32), tys[td.2.2.1]? = some (cA, .boolean) ∧ e = .inl (cA, td.2.1, .inl f) ∧ ∀ i, i < td.2.1 → 0 ≤ (f i).toInt ∧ (f i).toInt ≤ 1
  | 5 => ∃ (cA : ClassId) (f : Nat → Option Nat), tys[td.2.2.1]? = some (cA, .array .int) ∧ e = .inl (cA, td.2.1, .inr (.inr (.inr (.inr f)))) ∧ ∀ t : ck_T, td.2.2.2[0]? = some t → ∀ i, i < td.2.1 → ck_fo ws sh t (va_rf (f i))
  | _ => False
/-- a world as its types say -/
def ck_wo (tys : List (ClassId × FieldType)) (TT : List ck_D) (SG : List Nat) (ws : va_W) (sh : List Nat) : Prop :=
  sh.length = ws.length ∧ (∀ (q : Nat) (a : Nat) (e : va_E) (t : Nat), ws[q]? = some (a, e) → sh[q]? = some t → ∃ td, TT[t]? = some td ∧ ck_co tys ws sh td e) ∧
  ∀ t ∈ SG, ∀ q r : Nat, sh[q]? = some t → sh[r]? = some t → q = r
/-- what stays of a cell -/
def ck_sm (Wr : List (Nat × Nat)) (t : Nat) (e e' : va_E) : Prop := match e, e' with
  | .inr o, .inr o' => o'.1 = o.1 ∧ ∀ k, (t, k) ∉ Wr → o'.2[k]? = o.2[k]?
  | .inl x, .inl y => (t, 0) ∉ Wr → y = x
  | _, _ => False
def ck_ex (Wr : List (Nat × Nat)) (ws : va_W) (sh : List Nat) (ws' : va_W) (sh' : List Nat) : Prop :=
  (∀ (q t : Nat), sh[q]? = some t → sh'[q]? = some t) ∧ ∀ (q a : Nat) (e : va_E) (t : Nat), ws[q]? = some (a, e) → sh[q]? = some t → ∃ e', ws'[q]? = some (a, e') ∧ ck_sm Wr t e e'
theorem ck_sm.rf {Wr : List (Nat × Nat)} {t : Nat} {e : va_E} : ck_sm Wr t e e := by
  cases e with
  | inl x => exact fun _ => rfl
  | inr o => exact ⟨rfl, fun _ _ => rfl⟩
theorem ck_sm.tr {W1 W2 : List (Nat × Nat)} {t : Nat} {e e1 e2 : va_E} (hw : ∀ x ∈ W2, x ∈ W1) (h1 : ck_sm W1 t e e1) (h2 : ck_sm W2 t e1 e2) : ck_sm W1 t e e2 := by
  cases e <;> cases e1 <;> cases e2 <;> first | exact h1.elim | exact h2.elim | skip
  · exact fun h => (h2 (fun z => h (hw _ z))).trans (h1 h)
  · exact ⟨h2.1.trans h1.1, fun k hk => (h2.2 k (fun z => hk (hw _ z))).trans (h1.2 k hk)⟩
theorem ck_ex.rf {Wr : List (Nat × Nat)} {ws : va_W} {sh : List Nat} : ck_ex Wr ws sh ws sh := ⟨fun _ _ h => h, fun _ _ e _ h _ => ⟨e, h, ck_sm.rf⟩⟩
theorem ck_ex.tr {W1 W2 : List (Nat × Nat)} {ws ws1 ws2 : va_W} {sh sh1 sh2 : List Nat} (hw : ∀ x ∈ W2, x ∈ W1) (h1 : ck_ex W1 ws sh ws1 sh1) (h2 : ck_ex W2 ws1 sh1 ws2 sh2) : ck_ex W1 ws sh ws2 sh2 := by
  refine ⟨fun q t h => h2.1 q t (h1.1 q t h), fun q a e t h ht => ?_⟩
  obtain ⟨e1, a1, b1⟩ := h1.2 q a e t h ht
  obtain ⟨e2, a2, b2⟩ := h2.2 q a e1 t a1 (h1.1 q t ht)
  exact ⟨e2, a2, b1.tr hw b2⟩
theorem ck_rf.mv {Wr : List (Nat × Nat)} {ws ws' : va_W} {sh sh' : List Nat} (h : ck_ex Wr ws sh ws' sh') {ts : List Nat} {v : Value} (hv : ck_rf ws sh ts v) : ck_rf ws' sh' ts v := by
  obtain ⟨q, a, e, t, h1, h2, h3, h4⟩ := hv
  obtain ⟨e', h5, -⟩ := h.2 q a e t h2 h3
  exact ⟨q, a, e', t, h1, h5, h.1 q t h3, h4⟩
theorem ck_rf.sub {ws : va_W} {sh : List Nat} {ts us : List Nat} {v : Value} (h : ∀ t ∈ ts, t ∈ us) (hv : ck_rf ws sh ts v) : ck_rf ws sh us v := by
  obtain ⟨q, a, e, t, h1, h2, h3, h4⟩ := hv
  exact ⟨q, a, e, t, h1, h2, h3, h t h4⟩
theorem ck_fo.mv {Wr : List (Nat × Nat)} {ws ws' : va_W} {sh sh' : List Nat} (h : ck_ex Wr ws sh ws' sh') {t : ck_T} {v : Value} (hv : ck_fo ws sh t v) : ck_fo ws' sh' t v := by
  unfold ck_fo at hv ⊢
  split at hv
  · exact hv
  · exact hv
  · exact hv.mv h
  · exact hv.imp id (·.mv h)
  · exact hv.elim
theorem ck_co.mv {Wr : List (Nat × Nat)} {tys : List (ClassId × FieldType)} {ws ws' : va_W} {sh sh' : List Nat} (h : ck_ex Wr ws sh ws' sh') {td : ck_D} {e : va_E} (hv : ck_co tys ws sh td e) : ck_co tys ws' sh' td e := by
  unfold ck_co at hv ⊢
  split at hv
  · obtain ⟨vs, h1, h2, h3⟩ := hv
    refine ⟨vs, h1, h2, fun k t hk => ?_⟩
    obtain ⟨v, a1, a2⟩ := h3 k t hk
    exact ⟨v, a1, a2.mv h⟩
  · exact hv
  · exact hv
  · obtain ⟨cA, C, f, h1, h2, h3⟩ := hv
    exact ⟨cA, C, f, h1, h2, fun t ht i hi => (h3 t ht i hi).mv h⟩
  · exact hv
  · obtain ⟨cA, f, h1, h2, h3⟩ := hv
    exact ⟨cA, f, h1, h2, fun t ht i hi => (h3 t ht i hi).mv h⟩
  · exact hv.elim
theorem ck_vo.mv {Wr : List (Nat × Nat)} {ws ws' : va_W} {sh sh' : List Nat} (h : ck_ex Wr ws sh ws' sh') {sc : ck_sc} {n : ck_N} {N : Nat} {av : ck_V} {v : Value} (hv : ck_vo ws sh sc n N av v) : ck_vo ws' sh' sc n N av v := by
  unfold ck_vo at hv ⊢
  refine ⟨hv.1, ?_⟩
  have hv := hv.2
  split at hv
  · exact hv
  · exact hv
  · exact ⟨hv.1, hv.2.mv h⟩
  · exact ⟨hv.1, hv.2.imp id (·.mv h)⟩
  · exact hv
  · exact hv
  · exact hv
  · exact hv
  · exact hv.elim
theorem ck_vo.up {ws : va_W} {sh : List Nat} {sc : ck_sc} {n n' : ck_N} {N N' : Nat} (hn : ∀ k, k < N → n' k = n k) (hN : N ≤ N') {av : ck_V} {v : Value} (hv : ck_vo ws sh sc n N av v) : ck_vo ws sh sc n' N' av v := by
  unfold ck_vo at hv ⊢
  have h1 := hn _ hv.1
  refine ⟨Nat.lt_of_lt_of_le hv.1 hN, ?_⟩
  have hv := hv.2
  rw [h1]
  split at hv
  · exact hv
  · exact hv
  · exact hv
  · exact hv
  · exact hv
  · exact hv
  · exact hv
  · obtain ⟨k2, a1, a2, a3⟩ := hv
    exact ⟨k2, a1, Nat.lt_of_lt_of_le a2 hN, by rw [hn _ a2]; exact a3⟩
  · exact hv.elim
/-- the valuation with a number more -/
def ck_nx (n : ck_N) (N : Nat) (x : Int × Value) : ck_N := fun k => if k = N then x else n k
theorem ck_nx_lt {n : ck_N} {N : Nat} {x : Int × Value} : ∀ k, k < N → ck_nx n N x k = n k := fun k h => if_neg (by omega)
theorem ck_nx_eq {n : ck_N} {N : Nat} {x : Int × Value} : ck_nx n N x N = x := if_pos rfl
theorem ck_vo.cat {ws : va_W} {sh : List Nat} {sc : ck_sc} {n : ck_N} {N : Nat} {av : ck_V} {v : Value} (h : ck_vo ws sh sc n N av v) : v.category = if av.1 = 1 then 2 else 1 := by
  unfold ck_vo at h
  have h := h.2
  split at h
  · rename_i e; obtain ⟨x, rfl, -⟩ := h; rw [e]; rfl
  · rename_i e; obtain ⟨x, rfl, -⟩ := h; rw [e]; rfl
  · rename_i e; obtain ⟨-, q, a, w, t, rfl, -⟩ := h; rw [e]; rfl
  · rename_i e
    rw [e]
    rcases h.2 with rfl | ⟨q, a, w, t, rfl, -⟩ <;> rfl
  · rename_i e; obtain ⟨-, rfl⟩ := h; rw [e]; rfl
  · rename_i e; obtain ⟨b, L, xs, -, rfl, -⟩ := h; rw [e]; rfl
  · rename_i e; obtain ⟨w, -, rfl⟩ := h; rw [e]; rfl
  · rename_i e; obtain ⟨k2, -, -, x, y, rfl, -⟩ := h; rw [e]; rfl
  · exact h.elim
/-- lists side by side -/
def ck_two {α β : Type} (P : α → β → Prop) : List α → List β → Prop
  | [], [] => True
  | a :: l, b :: r => P a b ∧ ck_two P l r
  | _, _ => False
theorem ck_two.imp {α β : Type} {P P' : α → β → Prop} (h : ∀ a b, P a b → P' a b) : ∀ {l : List α} {r : List β}, ck_two P l r → ck_two P' l r
  | [], [], _ => trivial
  | _ :: _, _ :: _, hh => ⟨h _ _ hh.1, ck_two.imp h hh.2⟩
  | [], _ :: _, hh => hh.elim
  | _ :: _, [], hh => hh.elim
theorem ck_two.flt {α β : Type} {P : α → β → Prop} {f : α → Bool} {g : β → Bool} (h : ∀ a b, P a b → f a = g b) : ∀ {l : List α} {r : List β}, ck_two P l r → ck_two P (l.filter f) (r.filter g)
  | [], [], _ => trivial
  | a :: l, b :: r, hh => by
    have h1 := h a b hh.1
    have h2 := ck_two.flt h hh.2
    rw [List.filter_cons, List.filter_cons, h1]
    split
    · exact ⟨hh.1, h2⟩
    · exact h2
  | [], _ :: _, hh => hh.elim
  | _ :: _, [], hh => hh.elim
theorem ck_two.app {α β : Type} {P : α → β → Prop} : ∀ {l l2 : List α} {r r2 : List β}, ck_two P l r → ck_two P l2 r2 → ck_two P (l ++ l2) (r ++ r2)
  | [], _, [], _, _, h => h
  | _ :: _, _, _ :: _, _, hh, h => ⟨hh.1, ck_two.app hh.2 h⟩
  | [], _, _ :: _, _, hh, _ => hh.elim
  | _ :: _, _, [], _, hh, _ => hh.elim
theorem ck_two.mem {α β : Type} {P : α → β → Prop} {a : α} : ∀ {l : List α} {r : List β}, ck_two P l r → a ∈ l → ∃ b ∈ r, P a b
  | [], _, _, h => by cases h
  | x :: l, y :: r, hh, h => by
    rcases List.mem_cons.mp h with rfl | h
    · exact ⟨y, List.mem_cons_self, hh.1⟩
    · obtain ⟨b, h1, h2⟩ := ck_two.mem hh.2 h
      exact ⟨b, List.mem_cons_of_mem _ h1, h2⟩
  | _ :: _, [], hh, _ => hh.elim
theorem ck_two.map {α β γ : Type} {P : α → β → Prop} {P' : γ → β → Prop} (f : α → γ) (h : ∀ a b, P a b → P' (f a) b) : ∀ {l : List α} {r : List β}, ck_two P l r → ck_two P' (l.map f) r
  | [], [], _ => trivial
  | _ :: _, _ :: _, hh => ⟨h _ _ hh.1, ck_two.map f h hh.2⟩
  | [], _ :: _, hh => hh.elim
  | _ :: _, [], hh => hh.elim
theorem ck_two.len {α β : Type} {P : α → β → Prop} : ∀ {l : List α} {r : List β}, ck_two P l r → l.length = r.length
  | [], [], _ => rfl
  | _ :: _, _ :: _, hh => by rw [List.length_cons, List.length_cons, ck_two.len hh.2]
  | [], _ :: _, hh => hh.elim
  | _ :: _, [], hh => hh.elim
end
section
/-! the checker's step -/
def ck_B (w : Nat) : Int := 2 ^ (w - 1)
def ck_top (w : Nat) : Int × Int := (-(ck_B w), ck_B w - 1)
def ck_cl (w : Nat) (x : Int × Int) : Int × Int := if -(ck_B w) ≤ x.1 ∧ x.2 ≤ ck_B w - 1 then x else ck_top w
def ck_msk (h : Int) : Int := 2 ^ (h.toNat.log2 + 1) - 1
/-- intervals: 0 add 1 sub 2 mul 3 and 4 or 5 xor 6 shl 7 shr 9 div 10 rem -/
def ck_bin (w op : Nat) (x y : Int × Int) : Int × Int := match op with
  | 0 => ck_cl w (x.1 + y.1, x.2 + y.2)
  | 1 => ck_cl w (x.1 - y.2, x.2 - y.1)
  | 2 => ck_cl w (ck_min (ck_min (x.1 * y.1) (x.1 * y.2)) (ck_min (x.2 * y.1) (x.2 * y.2)), ck_max (ck_max (x.1 * y.1) (x.1 * y.2)) (ck_max (x.2 * y.1) (x.2 * y.2)))
  | 3 => if 0 ≤ y.1 then (if 0 ≤ x.1 then (0, ck_min x.2 y.2) else (0, y.2)) else if 0 ≤ x.1 then (0, x.2) else ck_top w
  | 4 => if 0 ≤ x.1 ∧ 0 ≤ y.1 then ck_cl w (ck_max x.1 y.1, ck_msk (ck_max x.2 y.2)) else ck_top w
  | 5 => if 0 ≤ x.1 ∧ 0 ≤ y.1 then ck_cl w (0, ck_msk (ck_max x.2 y.2)) else ck_top w
  | 6 => if 0 ≤ x.1 ∧ 0 ≤ y.1 ∧ y.2 < w then ck_cl w (x.1 * 2 ^ y.1.toNat, x.2 * 2 ^ y.2.toNat) else ck_top w
  | 7 => if y.1 = y.2 ∧ 0 ≤ y.1 ∧ y.2 < w then (x.1 / 2 ^ y.1.toNat, x.2 / 2 ^ y.1.toNat) else if 0 ≤ x.1 then (0, x.2) else ck_top w
  | 9 => if y.1 = y.2 ∧ 0 < y.1 ∧ 0 ≤ x.1 then (x.1 / y.1, x.2 / y.1) else ck_top w
  | 10 => if y.1 = y.2 ∧ 0 < y.1 then (if 0 ≤ x.1 then (0, y.1 - 1) else (1 - y.1, y.1 - 1)) else ck_top w
  | _ => ck_top w
/-- relations of a sum with a constant to what it is a sum of; N the new sym -/
def ck_rel (op a b N : Nat) (x y r : Int × Int) : List ck_R := match op with
  | 0 => if r.1 = x.1 + y.1 ∧ r.2 = x.2 + y.2 then (if y.1 = y.2 then [(N, a, y.1), (a, N, -y.1)] else if x.1 = x.2 then [(N, b, x.1), (b, N, -x.1)] else []) else []
  | 1 => if r.1 = x.1 - y.2 ∧ r.2 = x.2 - y.1 ∧ y.1 = y.2 then [(N, a, -y.1), (a, N, y.1)] else []
  | 3 => if 0 ≤ y.1 then (if y.1 = y.2 then [] else [(N, b, 0)]) else []
  | 4 => if 0 ≤ x.1 ∧ 0 ≤ y.1 then [(a, N, 0)] else []
  | 6 => if 1 ≤ x.1 ∧ y.1 = y.2 ∧ 1 ≤ y.1 ∧ r.1 = x.1 * 2 ^ y.1.toNat ∧ r.2 = x.2 * 2 ^ y.2.toNat then [(a, N, -1)] else []
  | _ => []
/-- a sym that is a + c already -/
def ck_same (R : List ck_R) (a : Nat) (c : Int) : Option Nat := (R.find? (fun r => r.2.1 == a && (r.2.2 == c && R.any (fun q => q.1 == a && (q.2.1 == r.1 && q.2.2 == -c))))).map Prod.fst
abbrev ck_cont : Type := ck_S → Nat → Bool
def ck_ss (S : ck_S) (st : List ck_V) : ck_S := (S.1, st, S.2.2)
/-- one sym more, on the stack -/
def ck_new (S : ck_S) (st : List ck_V) (tag : Nat) (ts : List Nat) (iv : Int × Int) (rs : List ck_R) : ck_S := (S.1, (tag, S.2.2.2.1.length, ts) :: st, S.2.2.1, S.2.2.2.1 ++ [iv], rs ++ S.2.2.2.2.1, S.2.2.2.2.2)
def ck_cst (S : ck_S) (tag : Nat) (v : Int) : ck_S := ck_new S S.2.1 tag [] (v, v) []
def ck_look (loc : List (Nat × ck_V)) (i : Nat) : Option ck_V := (loc.find? (fun q => q.1 == i)).map Prod.snd
def ck_cat (v : ck_V) : Nat := if v.1 = 1 then 2 else 1
def ck_st1 (loc : List (Nat × ck_V)) (i : Nat) (v : ck_V) : List (Nat × ck_V) := (i, v) :: loc.filter (fun q => !(q.1 == i) && !(q.1 + 1 == i && ck_cat q.2 == 2))
def ck_st2 (loc : List (Nat × ck_V)) (i : Nat) (v : ck_V) : List (Nat × ck_V) := (i, v) :: loc.filter (fun q => !(q.1 == i) && (!(q.1 == i + 1) && !(q.1 + 1 == i && ck_cat q.2 == 2)))
def ck_isr (v : ck_V) : Bool := v.1 == 2 || (v.1 == 3 || (v.1 == 4 || v.1 == 5))
def ck_binS (w op : Nat) (S : ck_S) (st : List ck_V) (tag a b : Nat) : Option ck_S :=
  match S.2.2.2.1[a]?, S.2.2.2.1[b]? with
  | some x, some y =>
    if x.1 ≤ x.2 ∧ y.1 ≤ y.2 then
      let r := ck_bin w op x y
      match (if op = 0 ∧ y.1 = y.2 ∧ r.1 = x.1 + y.1 ∧ r.2 = x.2 + y.2 then ck_same S.2.2.2.2.1 a y.1 else none) with
      | some k => some (ck_ss S ((tag, k, []) :: st))
      | none => some (ck_new S st tag [] r (ck_rel op a b S.2.2.2.1.length x y r))
    else none
  | _, _ => none
/-- go on with a ≤ b + c learned; a dead end is no way -/
def ck_wle (a b : Nat) (c : Int) (S : ck_S) (k : ck_S → Bool) : Bool :=
  match S.2.2.2.1[a]?, S.2.2.2.1[b]? with
  | some x, some y =>
    if x.1 ≤ x.2 ∧ y.1 ≤ y.2 then
      (let p := ck_le a b c S.2.2.2.1 S.2.2.2.2.1
       ck_dead p.1 a || (ck_dead p.1 b || k (S.1, S.2.1, S.2.2.1, p.1, p.2, S.2.2.2.2.2)))
    else false
  | _, _ => false
def ck_weq (a b : Nat) (S : ck_S) (k : ck_S → Bool) : Bool := ck_wle a b 0 S (fun S => ck_wle b a 0 S k)
def ck_wne (F : Nat) (a b : Nat) (S : ck_S) (k : ck_S → Bool) : Bool :=
  if ck_ent S.2.2.2.1 S.2.2.2.2.1 F a b 0 then (ck_ent S.2.2.2.1 S.2.2.2.2.1 F b a 0 || ck_wle a b (-1) S k) else if ck_ent S.2.2.2.1 S.2.2.2.2.1 F b a 0 then ck_wle b a (-1) S k else k S
/-- both ways of a comparison of a with b -/
def ck_wc (F : Nat) (cd : ClassFile.Cond) (a b : Nat) (S : ck_S) (kt kf : ck_S → Bool) : Bool := match cd with
  | .eq => ck_weq a b S kt && ck_wne F a b S kf
  | .ne => ck_wne F a b S kt && ck_weq a b S kf
  | .lt => ck_wle a b (-1) S kt && ck_wle b a 0 S kf
  | .ge => ck_wle b a 0 S kt && ck_wle a b (-1) S kf
  | .gt => ck_wle b a (-1) S kt && ck_wle a b 0 S kf
  | .le => ck_wle a b 0 S kt && ck_wle b a (-1) S kf
def ck_tgt (pc : Nat) (off : Int) (k : Nat → Bool) : Bool := decide (0 ≤ (pc : Int) + off) && k ((pc : Int) + off).toNat
/-- put other types to a sym -/
def ck_sub (s : Nat) (w : ck_V) (v : ck_V) : ck_V := if v.2.1 = s ∧ (v.1 = 2 ∨ v.1 = 3) then w else v
def ck_subS (s : Nat) (w : ck_V) (S : ck_S) : ck_S := (S.1.map (fun q => (q.1, ck_sub s w q.2)), S.2.1.map (ck_sub s w), S.2.2.1.map (fun m => if m.1 = 0 then m else (m.1, m.2.1, ck_sub s w m.2.2)), S.2.2.2)
/-- patterns -/
def ck_tg (p v : ck_V) : Bool := match p.1 with
  | 0 => v.1 == 0
  | 1 => v.1 == 1
  | 2 => v.1 == 2 && v.2.2.all (fun t => p.2.2.contains t)
  | 3 => v.1 == 4 || ((v.1 == 2 || v.1 == 3) && v.2.2.all (fun t => p.2.2.contains t))
  | 4 => v.1 == 4
  | 5 => v.1 == 5
  | _ => false
def ck_mv (g : List Nat) (p v : ck_V) : Option (List Nat) :=
  if ck_tg p v then (if p.2.1 = g.length then some (g ++ [v.2.1]) else if g[p.2.1]? = some v.2.1 then some g else none) else none
def ck_mvs (g : List Nat) : List ck_V → List ck_V → Option (List Nat)
  | [], [] => some g
  | p :: ps, v :: vs => match ck_mv g p v with
    | some g1 => ck_mvs g1 ps vs
    | none => none
  | _, _ => none
def ck_eq2 (F : Nat) (E : ck_E) (R : List ck_R) (a b : Nat) : Bool := a == b || (ck_ent E R F a b 0 && ck_ent E R F b a 0)
def ck_nl (F : Nat) (E : ck_E) (R : List ck_R) (g : List Nat) : List Nat → List Nat → Option (List Nat)
  | [], [] => some g
  | x :: xs, y :: ys => if x = g.length then ck_nl F E R (g ++ [y]) xs ys else match g[x]? with
    | some a => if ck_eq2 F E R a y = true then ck_nl F E R g xs ys else none
    | none => none
  | _, _ => none
/-- a note says as much as is asked -/
def ck_ntg (F : Nat) (E : ck_E) (R : List ck_R) (tag : Nat) (v : ck_V) : Bool := tag == v.1 || (decide (tag < 30 ∧ v.1 < 30)) && (decide (tag ≤ v.1) || ((tag == 21 && ck_ent E R F v.2.1 0 0) || (tag == 22 && (v.1 == 21 && (ck_ent E R F 0 v.2.1 (-1) && match v.2.2 with
  | [_, o] => ck_ent E R F o 0 0
  | _ => false)))))
def ck_nm (F : Nat) (E : ck_E) (R : List ck_R) (g : List Nat) (p m : ck_M) : Option (List Nat) :=
  if m.1 == p.1 && (m.2.1 == 0 && (p.2.1 == 0 && (decide (20 ≤ m.2.2.1) && ck_ntg F E R p.2.2.1 m.2.2))) then ck_nl F E R g (p.2.2.2.1 :: p.2.2.2.2) (m.2.2.2.1 :: m.2.2.2.2) else none
def ck_mms (F : Nat) (E : ck_E) (R : List ck_R) (mem : List ck_M) (g : List Nat) : List ck_M → Option (List Nat)
  | [] => some g
  | p :: ps => if 20 ≤ p.2.2.1 then (match mem.findSome? (fun m => ck_nm F E R g p m) with
      | some g1 => ck_mms F E R mem g1 ps
      | none => none) else match mem.find? (fun m => m.1 == p.1 && (m.2.1 == p.2.1 && !(m.1 == 0))) with
    | some m => match ck_mv g p.2.2 m.2.2 with
      | some g1 => ck_mms F E R mem g1 ps
      | none => none
    | none => none
def ck_ce (F : Nat) (E : ck_E) (R : List ck_R) : List Nat → ck_E → Bool
  | _, [] => true
  | [], _ :: _ => false
  | s :: g, x :: l => (decide (x.2 < x.1) || (ck_ent E R F s 0 x.2 && ck_ent E R F 0 s (-x.1))) && ck_ce F E R g l
def ck_cr (F : Nat) (E : ck_E) (R : List ck_R) (g : List Nat) (rs : List ck_R) : Bool :=
  rs.all (fun r => match g[r.1]?, g[r.2.1]? with
    | some a, some b => ck_ent E R F a b r.2.2
    | _, _ => false)
def ck_mt (F : Nat) (S : ck_S) (g0 : List Nat) (vs : List ck_V) (P : ck_P) : Option (List Nat) :=
  match ck_mvs g0 P.1 vs with
  | some g1 => match ck_mms F S.2.2.2.1 S.2.2.2.2.1 S.2.2.1 g1 P.2.1 with
    | some g => if ck_ce F S.2.2.2.1 S.2.2.2.2.1 g P.2.2.1 && ck_cr F S.2.2.2.1 S.2.2.2.2.1 g P.2.2.2 then some g else none
    | none => none
  | none => none
def ck_ren (g : List Nat) (N k : Nat) : Nat := if k < g.length then g.getD k 0 else N + (k - g.length)
def ck_renV (g : List Nat) (N : Nat) (v : ck_V) : ck_V := (v.1, ck_ren g N v.2.1, if 20 ≤ v.1 then v.2.2.map (ck_ren g N) else v.2.2)
def ck_okm (m : ck_M) : Bool := !(m.1 == 0) && (decide (m.2.2.1 < 5) || decide (20 ≤ m.2.2.1))
/-- notes of arrays that are written are forgotten -/
def ck_fS (ts : List Nat) (S : ck_S) : ck_S := (S.1, S.2.1, S.2.2.1.filter (fun m => decide (m.2.2.1 < 20) || !(ts.contains m.1)), S.2.2.2)
def ck_wles (g : List Nat) (N : Nat) : List ck_R → ck_S → (ck_S → Bool) → Bool
  | [], S, k => k S
  | r :: rs, S, k => ck_wle (ck_ren g N r.1) (ck_ren g N r.2.1) r.2.2 S (fun S => ck_wles g N rs S k)
/-- behind a call: what was written is forgotten, the case is learned -/
def ck_aft (S : ck_S) (st : List ck_V) (g : List Nat) (wr : List (Nat × Nat)) (mc ms : Nat) (P : ck_P) (k : ck_S → Bool) : Bool :=
  ck_wles g S.2.2.2.1.length P.2.2.2
    (S.1, P.1.map (ck_renV g S.2.2.2.1.length) ++ st, P.2.1.map (fun m => (m.1, m.2.1, ck_renV g S.2.2.2.1.length m.2.2)) ++ S.2.2.1.filter (fun m => m.1 == 0 || !(wr.contains (m.1, m.2.1))),
      S.2.2.2.1 ++ P.2.2.1.drop g.length, S.2.2.2.2.1, S.2.2.2.2.2.1 + mc, S.2.2.2.2.2.2 + ms) k
def ck_call (F : Nat) (Wr : List (Nat × Nat)) (Rm : Nat × Nat) (S : ck_S) (na : Nat) (C : ck_C) (k : ck_S → Bool) : Bool :=
  (decide (na ≤ S.2.1.length) && (decide (S.2.2.2.2.2.1 + C.2.2.2.1 ≤ Rm.1) && (decide (S.2.2.2.2.2.2 + C.2.2.2.2 ≤ Rm.2) && decide (((S.2.1.drop na).map ck_cat).sum ≤ 8)))) && ((C.2.2.1.all (fun x => Wr.contains x)) &&
  match ck_mt F S [0] (S.2.1.take na).reverse C.1 with
  | some g => decide (g.length = C.1.2.2.1.length) && (C.2.1.all (fun P => (P.1.all (fun v => decide (v.1 < 5)) && P.2.1.all ck_okm) && ck_aft S (S.2.1.drop na) g C.2.2.1 C.2.2.2.1 C.2.2.2.2 P k))
  | none => false)
/-- the tables of a method: fuel; types; single types; locals; getfield (index, class, field); putfield (index, class, field, 0 int 1 truth 2 reference); new (index, class, type, fields); constants (index, tag, value); instanceof (index, class, answer); casts that go (index, class); stores of objects that go (array class, class); calls (index, receiver's type or 0, arguments, contract); writes; room; statics (index) -/
abbrev ck_Me : Type := Nat × List ck_D × List Nat × Nat × List (Nat × Nat × Nat) × List (Nat × Nat × Nat × Nat) × List (Nat × Nat × Nat × Nat) × List (Nat × Nat × Int) × List (Nat × Nat × Nat) × List (Nat × Nat) × List (Nat × Nat) × List (Nat × Nat × Nat × ck_C) × List (Nat × Nat) × (Nat × Nat) × List Nat
def mF (M : ck_Me) := M.1
def mTT (M : ck_Me) := M.2.1
def mSG (M : ck_Me) := M.2.2.1
def mnL (M : ck_Me) := M.2.2.2.1
def mfl (M : ck_Me) := M.2.2.2.2.1
def mpl (M : ck_Me) := M.2.2.2.2.2.1
def mnw (M : ck_Me) := M.2.2.2.2.2.2.1
def mkl (M : ck_Me) := M.2.2.2.2.2.2.2.1
def mil (M : ck_Me) := M.2.2.2.2.2.2.2.2.1
def mxl (M : ck_Me) := M.2.2.2.2.2.2.2.2.2.1
def mal (M : ck_Me) := M.2.2.2.2.2.2.2.2.2.2.1
def mvl (M : ck_Me) := M.2.2.2.2.2.2.2.2.2.2.2.1
def mWr (M : ck_Me) := M.2.2.2.2.2.2.2.2.2.2.2.2.1
def mRm (M : ck_Me) := M.2.2.2.2.2.2.2.2.2.2.2.2.2.1
def mgl (M : ck_Me) := M.2.2.2.2.2.2.2.2.2.2.2.2.2.2
def ck_ld (S : ck_S) (i : Nat) (ok : ck_V → Bool) (k : ck_S → Bool) : Bool := match ck_look S.1 i with
  | some v => ok v && k (ck_ss S (v :: S.2.1))
  | none => false
def ck_sto (nL : Nat) (S : ck_S) (i : Nat) (ok : ck_V → Bool) (k : ck_S → Bool) : Bool := match S.2.1 with
  | v :: st => ok v && (decide (i < nL) && k (ck_st1 S.1 i v, st, S.2.2))
  | [] => false
def ck_sto2 (nL : Nat) (S : ck_S) (i : Nat) (k : ck_S → Bool) : Bool := match S.2.1 with
  | v :: st => v.1 == 1 && (decide (i + 1 < nL) && k (ck_st2 S.1 i v, st, S.2.2))
  | [] => false
def ck_b2 (w op tag : Nat) (S : ck_S) (k : ck_S → Bool) : Bool := match S.2.1 with
  | b :: a :: st => b.1 == tag && (a.1 == tag && match ck_binS w op S st tag a.2.1 b.2.1 with
    | some S' => k S'
    | none => false)
  | _ => false
/-- the place's number is within these bounds; none is: no way -/
def ck_iv (a : Nat) (lo hi : Int) (S : ck_S) (k : ck_S → Bool) : Bool := match S.2.2.2.1[a]? with
  | some x => if x.1 ≤ x.2 then (if ck_min x.2 hi < ck_max x.1 lo then true else k (S.1, S.2.1, S.2.2.1, S.2.2.2.1.set a (ck_max x.1 lo, ck_min x.2 hi), S.2.2.2.2)) else false
  | none => false
def ck_sw (a : Nat) (lo : Int) (S : ck_S) (pc : Nat) (k : ck_cont) : List Int → Bool
  | [] => true
  | o :: os => ck_iv a lo lo S (fun S => ck_tgt pc o (k S)) && ck_sw a (lo + 1) S pc k os
/-- what a field of a type holds -/
def ck_ft (M : ck_Me) (i t : Nat) : Option (Nat × ck_T) := match (mTT M)[t]? with
  | some td => if td.1 = 0 then (match (mfl M).find? (fun x => x.1 == i && x.2.1 == td.2.1) with
    | some x => (td.2.2.2[x.2.2]?).map (fun y => (x.2.2, y))
    | none => none) else none
  | none => none
def ck_jt (a b : ck_T) : Option ck_T := if a.1 = 0 ∧ b.1 = 0 then some (0, ck_min a.2.1 b.2.1, ck_max a.2.2.1 b.2.2.1, []) else if a = b then some a else none
def ck_jts (f : Nat → Option ck_T) : List Nat → Option ck_T
  | [] => none
  | [t] => f t
  | t :: ts => match f t, ck_jts f ts with
    | some a, some b => ck_jt a b
    | _, _ => none
/-- a value of that kind, new, on the stack -/
def ck_pt (S : ck_S) (st : List ck_V) (t : ck_T) : Option ck_S := match t.1 with
  | 0 => some (ck_new S st 0 [] (t.2.1, t.2.2.1) [])
  | 1 => some (ck_new S st 1 [] (ck_top 64) [])
  | 2 => some (ck_new S st 2 t.2.2.2 (1, 0) [])
  | 3 => some (ck_new S st 3 t.2.2.2 (1, 0) [])
  | _ => none
def ck_mfind (mem : List ck_M) (t k : Nat) : Option ck_V := (mem.find? (fun m => m.1 == t && (m.2.1 == k && !(m.1 == 0)))).map (fun m => m.2.2)
def ck_get (M : ck_Me) (i : Nat) (S : ck_S) (k : ck_S → Bool) : Bool := match S.2.1 with
  | v :: st => v.1 == 2 && (match ck_jts (fun t => (ck_ft M i t).map Prod.snd) v.2.2 with
    | some T => (match v.2.2 with
      | [t] => (match ck_ft M i t with
        | some x => (match ck_mfind S.2.2.1 t x.1 with
          | some w => k (ck_ss S (w :: st))
          | none => (match ck_pt S st T with
            | some S' => if (mSG M).contains t && !(t == 0) then (match S'.2.1 with
                | w :: _ => k (S'.1, S'.2.1, (t, x.1, w) :: S'.2.2.1, S'.2.2.2)
                | [] => false) else k S'
            | none => false))
        | none => false)
      | _ => (match ck_pt S st T with
        | some S' => k S'
        | none => false))
    | none => false)
  | [] => false
/-- a value goes into a place of that kind -/
def ck_fit (F : Nat) (S : ck_S) (t : ck_T) (v : ck_V) : Bool := match t.1 with
  | 0 => v.1 == 0 && (ck_ent S.2.2.2.1 S.2.2.2.2.1 F v.2.1 0 t.2.2.1 && ck_ent S.2.2.2.1 S.2.2.2.2.1 F 0 v.2.1 (-t.2.1))
  | 1 => v.1 == 1
  | 2 => v.1 == 2 && v.2.2.all (fun x => t.2.2.2.contains x)
  | 3 => v.1 == 4 || ((v.1 == 2 || v.1 == 3) && v.2.2.all (fun x => t.2.2.2.contains x))
  | _ => false
def ck_putT (M : ck_Me) (i t : Nat) : Option (Nat × Nat × ck_T) := match (mTT M)[t]? with
  | some td => if td.1 = 0 then (match (mpl M).find? (fun x => x.1 == i && x.2.1 == td.2.1) with
    | some x => (td.2.2.2[x.2.2.1]?).map (fun y => (x.2.2.1, x.2.2.2, y))
    | none => none) else none
  | none => none
def ck_put (M : ck_Me) (i : Nat) (S : ck_S) (k : ck_S → Bool) : Bool := match S.2.1 with
  | v :: r :: st => r.1 == 2 && (r.2.2.all (fun t => match ck_putT M i t with
      | some x => (mWr M).contains (t, x.1) && (ck_fit (mF M) S x.2.2 v && (match x.2.1 with
        | 0 => x.2.2.1 == 0
        | 1 => x.2.2.1 == 0 && (decide (0 ≤ x.2.2.2.1) && decide (x.2.2.2.2.1 ≤ 1))
        | _ => x.2.2.1 == 2 || x.2.2.1 == 3))
      | none => false) &&
    k (S.1, st, (match r.2.2 with
        | [t] => if (mSG M).contains t && !(t == 0) && !(v.1 == 5) && !(v.1 == 6) && !(v.1 == 7) then (match ck_putT M i t with
          | some x => [(t, x.1, v)]
          | none => []) else []
        | _ => []) ++ S.2.2.1.filter (fun m => m.1 == 0 || !(r.2.2.any (fun t => t == m.1 && ((ck_putT M i t).map Prod.fst) == some m.2.1))), S.2.2.2))
  | _ => false
/-- the index is one of a row's -/
def ck_bd (M : ck_Me) (S : ck_S) (i n : Nat) : Bool := ck_ent S.2.2.2.1 S.2.2.2.2.1 (mF M) 0 i 0 && ck_ent S.2.2.2.1 S.2.2.2.2.1 (mF M) i 0 ((n : Int) - 1)
/-- the elements of a row's type, by its kind, the index being one of its -/
def ck_el (M : ck_Me) (S : ck_S) (kd i t : Nat) : Option ck_T := match (mTT M)[t]? with
  | some td => if td.1 = kd ∧ ck_bd M S i td.2.1 = true then (if kd = 2 then some (1, 0, 0, []) else if kd = 4 then some (0, 0, 1, []) else td.2.2.2[0]?) else none
  | none => none
def ck_ald (M : ck_Me) (kd : Nat) (S : ck_S) (k : ck_S → Bool) : Bool := match S.2.1 with
  | i :: r :: st => i.1 == 0 && (r.1 == 2 && (match ck_jts (ck_el M S kd i.2.1) r.2.2 with
    | some T => (match ck_pt S st T with
      | some S' => k S'
      | none => false)
    | none => false))
  | _ => false
def ck_ast (M : ck_Me) (kd : Nat) (S : ck_S) (k : ck_S → Bool) : Bool := match S.2.1 with
  | v :: i :: r :: st => i.1 == 0 && (r.1 == 2 && (r.2.2.all (fun t => match ck_el M S kd i.2.1 t with
      | some T => (mWr M).contains (t, 0) && (if kd = 4 then v.1 == 0 else ck_fit (mF M) S T v)
      | none => false) && k (ck_fS r.2.2 (ck_ss S st))))
  | _ => false
end
section
def ck_aso (M : ck_Me) (S : ck_S) (i : Nat) (v : ck_V) (t : Nat) : Bool := match (mTT M)[t]? with
  | some td => td.1 == 3 && (ck_bd M S i td.2.1 && ((mWr M).contains (t, 0) && match td.2.2.2 with
      | [T] => (v.1 == 4 || v.2.2.all (fun u => T.2.2.2.contains u && match (mTT M)[u]? with
          | some ud => ud.1 == 0 && (mal M).contains (td.2.2.1, ud.2.1)
          | none => false)) && (v.1 == 2 || ((v.1 == 3 || v.1 == 4) && T.1 == 3)) && (T.1 == 2 || T.1 == 3)
      | _ => false))
  | none => false
def ck_aast (M : ck_Me) (S : ck_S) (k : ck_S → Bool) : Bool := match S.2.1 with
  | v :: i :: r :: st => i.1 == 0 && (r.1 == 2 && (r.2.2.all (ck_aso M S i.2.1 v) && k (ck_ss S st)))
  | _ => false
def ck_isn (M : ck_Me) (n : Nat) (t : Nat) : Bool := match (mTT M)[t]? with
  | some td => (td.1 == 1 || (td.1 == 2 || (td.1 == 3 || (td.1 == 4 || td.1 == 5)))) && td.2.1 == n
  | none => false
def ck_len (M : ck_Me) (S : ck_S) (k : ck_S → Bool) : Bool := match S.2.1 with
  | r :: st => if r.1 = 5 then k (ck_ss S ((0, r.2.1, []) :: st)) else if r.1 = 6 then k (ck_new S st 0 [] (6, 6) []) else
    r.1 == 2 && (match r.2.2 with
      | t :: _ => (match (mTT M)[t]? with
        | some td => decide (td.2.1 < 2147483648) && (r.2.2.all (ck_isn M td.2.1) && k (ck_new S st 0 [] (td.2.1, td.2.1) []))
        | none => false)
      | [] => false)
  | [] => false
/-- the script's place i -/
def ck_sld (M : ck_Me) (S : ck_S) (k : ck_S → Bool) : Bool := match S.2.1 with
  | i :: r :: st => i.1 == 0 && (r.1 == 5 && (ck_ent S.2.2.2.1 S.2.2.2.2.1 (mF M) 0 i.2.1 0 && (ck_ent S.2.2.2.1 S.2.2.2.2.1 (mF M) i.2.1 r.2.1 (-1) &&
      (match S.2.2.1.find? (fun m => m.1 == 0 && (m.2.1 == i.2.1 && m.2.2.1 == 0)) with
        | some m => k (ck_ss S ((0, m.2.2.2.1, []) :: st))
        | none => k (S.1, (0, S.2.2.2.1.length, []) :: st, (0, i.2.1, (0, S.2.2.2.1.length, [])) :: S.2.2.1, S.2.2.2.1 ++ [ck_top 32], S.2.2.2.2)))))
  | _ => false
def ck_wld (M : ck_Me) (S : ck_S) (k : ck_S → Bool) : Bool := match S.2.1 with
  | i :: r :: st => i.1 == 0 && (r.1 == 6 && (ck_bd M S i.2.1 6 && k (ck_new S st 1 [] (ck_top 64) [])))
  | _ => false
def ck_dft (t : ck_T) : Bool := match t.1 with
  | 0 => decide (t.2.1 ≤ 0) && decide (0 ≤ t.2.2.1)
  | 3 => true
  | _ => false
def ck_mk (M : ck_Me) (i : Nat) (S : ck_S) (k : ck_S → Bool) : Bool := match (mnw M).find? (fun x => x.1 == i) with
  | some x => (match (mTT M)[x.2.2.1]? with
    | some td => td.1 == 0 && (td.2.1 == x.2.1 && (td.2.2.2.length == x.2.2.2 && (td.2.2.2.all ck_dft && (!((mSG M).contains x.2.2.1) && (decide (S.2.2.2.2.2.1 + 1 ≤ (mRm M).1) && (decide (S.2.2.2.2.2.2 + x.2.2.2 ≤ (mRm M).2) &&
        k (S.1, (2, S.2.2.2.1.length, [x.2.2.1]) :: S.2.1, S.2.2.1.filter (fun m => !(m.1 == x.2.2.1)), S.2.2.2.1 ++ [(1, 0)], S.2.2.2.2.1, S.2.2.2.2.2.1 + 1, S.2.2.2.2.2.2 + x.2.2.2)))))))
    | none => false)
  | none => false
def ck_ty0 (M : ck_Me) (t : Nat) : Option Nat := match (mTT M)[t]? with
  | some td => if td.1 = 0 then some td.2.1 else none
  | none => none
def ck_iof (M : ck_Me) (i r t : Nat) : Bool := match ck_ty0 M t with
  | some ci => (mil M).contains (i, ci, r)
  | none => false
/-- instanceof: both ways, by the types -/
def ck_ins (M : ck_Me) (i : Nat) (S : ck_S) (k : ck_S → Bool) : Bool := match S.2.1 with
  | r :: st => r.1 == 2 && (r.2.2.all (fun t => ck_iof M i 1 t || ck_iof M i 0 t) &&
      ((match r.2.2.filter (ck_iof M i 1) with
        | [] => true
        | ts => k (ck_cst (ck_subS r.2.1 (2, r.2.1, ts) (ck_ss S st)) 0 1)) &&
       (match r.2.2.filter (fun t => !(ck_iof M i 1 t)) with
        | [] => true
        | ts => k (ck_cst (ck_subS r.2.1 (2, r.2.1, ts) (ck_ss S st)) 0 0))))
  | [] => false
def ck_cas (M : ck_Me) (i : Nat) (S : ck_S) (k : ck_S → Bool) : Bool := match S.2.1 with
  | r :: _ => r.1 == 2 && (r.2.2.all (fun t => match ck_ty0 M t with
      | some ci => (mxl M).contains (i, ci)
      | none => false) && k S)
  | [] => false
def ck_nul (S : ck_S) (kt kf : ck_S → Bool) : Bool := match S.2.1 with
  | r :: st => if r.1 = 2 then kf (ck_ss S st) else if r.1 = 4 then kt (ck_ss S st) else
      r.1 == 3 && (kf (ck_subS r.2.1 (2, r.2.1, r.2.2) (ck_ss S st)) && kt (ck_subS r.2.1 (4, r.2.1, []) (ck_ss S st)))
  | [] => false
def ck_inv (M : ck_Me) (i : Nat) (S : ck_S) (k : ck_S → Bool) : Bool := match (mvl M).find? (fun x => x.1 == i) with
  | some x => if x.2.1 = 0 then (mvl M).any (fun y => y.1 == i && (y.2.1 == 0 && ck_call (mF M) (mWr M) (mRm M) S y.2.2.1 y.2.2.2 k)) else
      decide (1 ≤ x.2.2.1) && (match S.2.1[x.2.2.1 - 1]? with
        | some r => r.1 == 2 && r.2.2.all (fun t => (mvl M).any (fun y => (y.1 == i && y.2.1 == t) && (y.2.2.1 == x.2.2.1 && (!(t == 0) && ck_call (mF M) (mWr M) (mRm M) (if r.2.2 = [t] then S else ck_subS r.2.1 (2, r.2.1, [t]) S) x.2.2.1 y.2.2.2 k))))
        | none => false)
  | none => false
def ck_un (S : ck_S) (f : ck_V → List ck_V → Bool) : Bool := match S.2.1 with
  | v :: st => f v st
  | [] => false
/-- the step; kr: what is asked at the end (0 void, 1 int, 2 long, 3 reference) -/
def ck_step (M : ck_Me) (kr : Nat → ck_S → Bool) (k : ck_cont) (S : ck_S) (pc : Nat) (ins : Instr) (len : Nat) : Bool :=
  match ins with
  | .iconst v => len == 1 && (decide (-2147483648 ≤ v ∧ v < 2147483648) && k (ck_cst S 0 v) (pc + 1))
  | .bipush v => len == 2 && (decide (-128 ≤ v ∧ v < 128) && k (ck_cst S 0 v) (pc + 2))
  | .sipush v => len == 3 && (decide (-32768 ≤ v ∧ v < 32768) && k (ck_cst S 0 v) (pc + 3))
  | .lconst v => len == 1 && k (ck_cst S 1 (v : Nat)) (pc + 1)
  | .ldc i => len == 2 && (match (mkl M).find? (fun x => x.1 == i && x.2.1 == 0) with
    | some x => k (ck_cst S 0 x.2.2) (pc + 2)
    | none => false)
  | .ldc_w i => len == 3 && (match (mkl M).find? (fun x => x.1 == i && x.2.1 == 0) with
    | some x => k (ck_cst S 0 x.2.2) (pc + 3)
    | none => false)
  | .ldc2_w i => len == 3 && (match (mkl M).find? (fun x => x.1 == i && x.2.1 == 1) with
    | some x => k (ck_cst S 1 x.2.2) (pc + 3)
    | none => false)
  | .iload_n i => len == 1 && ck_ld S i (fun v => v.1 == 0) (fun S => k S (pc + 1))
  | .iload i => len == 2 && ck_ld S i (fun v => v.1 == 0) (fun S => k S (pc + 2))
  | .lload_n i => len == 1 && ck_ld S i (fun v => v.1 == 1) (fun S => k S (pc + 1))
  | .lload i => len == 2 && ck_ld S i (fun v => v.1 == 1) (fun S => k S (pc + 2))
  | .aload_n i => len == 1 && ck_ld S i ck_isr (fun S => k S (pc + 1))
  | .aload i => len == 2 && ck_ld S i ck_isr (fun S => k S (pc + 2))
  | .istore_n i => len == 1 && ck_sto (mnL M) S i (fun v => v.1 == 0) (fun S => k S (pc + 1))
  | .istore i => len == 2 && ck_sto (mnL M) S i (fun v => v.1 == 0) (fun S => k S (pc + 2))
  | .astore_n i => len == 1 && ck_sto (mnL M) S i ck_isr (fun S => k S (pc + 1))
  | .astore i => len == 2 && ck_sto (mnL M) S i ck_isr (fun S => k S (pc + 2))
  | .lstore_n i => len == 1 && ck_sto2 (mnL M) S i (fun S => k S (pc + 1))
  | .lstore i => len == 2 && ck_sto2 (mnL M) S i (fun S => k S (pc + 2))
  | .iinc i c => len == 3 && (decide (-32768 ≤ c ∧ c < 32768) && (decide (i < mnL M) && match ck_look S.1 i with
    | some v => v.1 == 0 && (let S1 := ck_cst S 0 c
        match ck_binS 32 0 S1 S.2.1 0 v.2.1 S.2.2.2.1.length with
        | some S' => (match S'.2.1 with
          | w :: _ => k (ck_st1 S.1 i w, S.2.1, S'.2.2) (pc + 3)
          | [] => false)
        | none => false)
    | none => false))
  | .iadd => len == 1 && ck_b2 32 0 0 S (fun S => k S (pc + 1))
  | .isub => len == 1 && ck_b2 32 1 0 S (fun S => k S (pc + 1))
  | .imul => len == 1 && ck_b2 32 2 0 S (fun S => k S (pc + 1))
  | .iand => len == 1 && ck_b2 32 3 0 S (fun S => k S (pc + 1))
  | .ior => len == 1 && ck_b2 32 4 0 S (fun S => k S (pc + 1))
  | .ixor => len == 1 && ck_b2 32 5 0 S (fun S => k S (pc + 1))
  | .ishl => len == 1 && ck_b2 32 6 0 S (fun S => k S (pc + 1))
  | .ishr => len == 1 && ck_b2 32 7 0 S (fun S => k S (pc + 1))
  | .ladd => len == 1 && ck_b2 64 0 1 S (fun S => k S (pc + 1))
  | .lsub => len == 1 && ck_b2 64 1 1 S (fun S => k S (pc + 1))
  | .lmul => len == 1 && ck_b2 64 2 1 S (fun S => k S (pc + 1))
  | .land => len == 1 && ck_b2 64 3 1 S (fun S => k S (pc + 1))
  | .lor => len == 1 && ck_b2 64 4 1 S (fun S => k S (pc + 1))
  | .lxor => len == 1 && ck_b2 64 5 1 S (fun S => k S (pc + 1))
  | .idiv => len == 1 && ck_un S (fun b _ => match S.2.2.2.1[b.2.1]? with
    | some x => (decide (0 < x.1) && decide (x.1 ≤ x.2)) && ck_b2 32 9 0 S (fun S => k S (pc + 1))
    | none => false)
  | .irem => len == 1 && ck_un S (fun b _ => match S.2.2.2.1[b.2.1]? with
    | some x => (decide (0 < x.1) && decide (x.1 ≤ x.2)) && ck_b2 32 10 0 S (fun S => k S (pc + 1))
    | none => false)
  | .iushr => len == 1 && (match S.2.1 with
    | b :: a :: st => b.1 == 0 && (a.1 == 0 && k (ck_new S st 0 [] (ck_top 32) []) (pc + 1))
    | _ => false)
  | .lushr => len == 1 && (match S.2.1 with
    | b :: a :: st => b.1 == 0 && (a.1 == 1 && k (ck_new S st 1 [] (ck_top 64) []) (pc + 1))
    | _ => false)
  | .lshr => len == 1 && (match S.2.1 with
    | b :: a :: st => b.1 == 0 && (a.1 == 1 && k (ck_new S st 1 [] (ck_top 64) []) (pc + 1))
    | _ => false)
  | .lshl => len == 1 && (match S.2.1 with
    | b :: a :: st => b.1 == 0 && (a.1 == 1 && (match S.2.2.2.1[a.2.1]?, S.2.2.2.1[b.2.1]? with
      | some x, some y => decide (x.1 ≤ x.2 ∧ y.1 ≤ y.2) && k (ck_new S st 1 [] (ck_bin 64 6 x y) []) (pc + 1)
      | _, _ => false))
    | _ => false)
  | .ineg => len == 1 && (match S.2.1 with
    | a :: st => a.1 == 0 && (match S.2.2.2.1[a.2.1]? with
      | some x => decide (x.1 ≤ x.2) && k (ck_new S st 0 [] (ck_cl 32 (-x.2, -x.1)) []) (pc + 1)
      | none => false)
    | _ => false)
  | .i2l => len == 1 && ck_un S (fun v st => v.1 == 0 && k (ck_ss S ((1, v.2.1, []) :: st)) (pc + 1))
  | .l2i => len == 1 && ck_un S (fun v st => v.1 == 1 && (match S.2.2.2.1[v.2.1]? with
    | some x => decide (x.1 ≤ x.2) && k (if -2147483648 ≤ x.1 ∧ x.2 < 2147483648 then ck_ss S ((0, v.2.1, []) :: st) else ck_new S st 0 [] (ck_top 32) []) (pc + 1)
    | none => false))
  | .i2b => len == 1 && ck_un S (fun v st => v.1 == 0 && k (ck_new S st 0 [] (-128, 127) []) (pc + 1))
  | .i2s => len == 1 && ck_un S (fun v st => v.1 == 0 && k (ck_new S st 0 [] (-32768, 32767) []) (pc + 1))
  | .lcmp => len == 1 && (match S.2.1 with
    | b :: a :: st => b.1 == 1 && (a.1 == 1 && k (ck_ss S ((7, a.2.1, [b.2.1]) :: st)) (pc + 1))
    | _ => false)
  | .aconst_null => len == 1 && k (ck_new S S.2.1 4 [] (1, 0) []) (pc + 1)
  | .dup => len == 1 && ck_un S (fun v st => ck_cat v == 1 && k (ck_ss S (v :: v :: st)) (pc + 1))
  | .pop => len == 1 && ck_un S (fun v st => ck_cat v == 1 && k (ck_ss S st) (pc + 1))
  | .pop2 => len == 1 && ck_un S (fun v st => v.1 == 1 && k (ck_ss S st) (pc + 1))
  | .dup2 => len == 1 && (match S.2.1 with
    | a :: b :: st => ck_cat a == 1 && (ck_cat b == 1 && k (ck_ss S (a :: b :: a :: b :: st)) (pc + 1))
    | _ => false)
  | .goto o => len == 3 && ck_tgt pc o (k S)
  | .ifCond cd o => len == 3 && decide (0 ≤ (pc : Int) + o) && ck_un S (fun v st => if v.1 = 7 then (match v.2.2 with
      | [b] => ck_wc (mF M) cd v.2.1 b (ck_ss S st) (fun S => ck_tgt pc o (k S)) (fun S => k S (pc + 3))
      | _ => false) else v.1 == 0 && ck_wc (mF M) cd v.2.1 0 (ck_ss S st) (fun S => ck_tgt pc o (k S)) (fun S => k S (pc + 3)))
  | .if_icmp cd o => len == 3 && decide (0 ≤ (pc : Int) + o) && (match S.2.1 with
    | b :: a :: st => b.1 == 0 && (a.1 == 0 && ck_wc (mF M) cd a.2.1 b.2.1 (ck_ss S st) (fun S => ck_tgt pc o (k S)) (fun S => k S (pc + 3)))
    | _ => false)
  | .ifnull o => len == 3 && ck_nul S (fun S => ck_tgt pc o (k S)) (fun S => k S (pc + 3))
  | .ifnonnull o => len == 3 && ck_nul S (fun S => k S (pc + 3)) (fun S => ck_tgt pc o (k S))
  | .tableswitch d lo hi os => ck_un S (fun v st => v.1 == 0 && (decide (hi = lo + (os.size : Int) - 1) && (ck_sw v.2.1 lo (ck_ss S st) pc k os.toList &&
      (ck_iv v.2.1 (-2147483648) (lo - 1) (ck_ss S st) (fun S => ck_tgt pc d (k S)) && ck_iv v.2.1 (hi + 1) 2147483647 (ck_ss S st) (fun S => ck_tgt pc d (k S))))))
  | .getfield i => len == 3 && ck_get M i S (fun S => k S (pc + 3))
  | .putfield i => len == 3 && ck_put M i S (fun S => k S (pc + 3))
  | .getstatic i => len == 3 && ((mgl M).contains i && k (ck_new S S.2.1 6 [] (1, 0) []) (pc + 3))
  | .iaload => len == 1 && (match S.2.1 with
    | _ :: r :: _ => if r.1 = 5 then ck_sld M S (fun S => k S (pc + 1)) else ck_ald M 1 S (fun S => k S (pc + 1))
    | _ => false)
  | .laload => len == 1 && (match S.2.1 with
    | _ :: r :: _ => if r.1 = 6 then ck_wld M S (fun S => k S (pc + 1)) else ck_ald M 2 S (fun S => k S (pc + 1))
    | _ => false)
  | .baload => len == 1 && ck_ald M 4 S (fun S => k S (pc + 1))
  | .aaload => len == 1 && (match S.2.1 with
    | _ :: r :: _ => (match r.2.2 with
      | t :: _ => (match (mTT M)[t]? with
        | some td => if td.1 = 3 then ck_ald M 3 S (fun S => k S (pc + 1)) else ck_ald M 5 S (fun S => k S (pc + 1))
        | none => false)
      | [] => false)
    | _ => false)
  | .iastore => len == 1 && ck_ast M 1 S (fun S => k S (pc + 1))
  | .lastore => len == 1 && ck_ast M 2 S (fun S => k S (pc + 1))
  | .bastore => len == 1 && ck_ast M 4 S (fun S => k S (pc + 1))
  | .aastore => len == 1 && ck_aast M S (fun S => k S (pc + 1))
  | .arraylength => len == 1 && ck_len M S (fun S => k S (pc + 1))
  | .new i => len == 3 && ck_mk M i S (fun S => k S (pc + 3))
  | .instanceof i => len == 3 && ck_ins M i S (fun S => k S (pc + 3))
  | .checkcast i => len == 3 && ck_cas M i S (fun S => k S (pc + 3))
  | .invokevirtual i => len == 3 && ck_inv M (3 * i) S (fun S => k S (pc + 3))
  | .invokestatic i => len == 3 && ck_inv M (3 * i + 1) S (fun S => k S (pc + 3))
  | .invokespecial i => len == 3 && ck_inv M (3 * i + 2) S (fun S => k S (pc + 3))
  | .return_ => len == 1 && (match S.2.1 with
    | [] => kr 0 S
    | _ => false)
  | .ireturn => len == 1 && (match S.2.1 with
    | [v] => v.1 == 0 && kr 1 S
    | _ => false)
  | .lreturn => len == 1 && (match S.2.1 with
    | [v] => v.1 == 1 && kr 2 S
    | _ => false)
  | .areturn => len == 1 && (match S.2.1 with
    | [v] => (v.1 == 2 || (v.1 == 3 || v.1 == 4)) && kr 3 S
    | _ => false)
  | _ => false
end
section
/-! the intervals are right -/
def ck_in (x : Int × Int) (z : Int) : Prop := x.1 ≤ z ∧ z ≤ x.2
theorem ck_B_pos {w : Nat} : 0 < ck_B w := Int.pow_pos (by decide)
theorem ck_B_two {w : Nat} (hw : 0 < w) : (2 : Int) * ck_B w = 2 ^ w := by
  obtain ⟨k, rfl⟩ : ∃ k, w = k + 1 := ⟨w - 1, by omega⟩
  show (2 : Int) * 2 ^ k = 2 ^ (k + 1)
  rw [Int.pow_succ, Int.mul_comm]
theorem ck_rng {w : Nat} (hw : 0 < w) (x : BitVec w) : ck_in (ck_top w) x.toInt := by
  have h1 : 2 * x.toInt < 2 ^ w := BitVec.two_mul_toInt_lt
  have h2 : -2 ^ w ≤ 2 * x.toInt := BitVec.le_two_mul_toInt
  have h3 := ck_B_two hw
  have h4 : ((2 : Int) ^ w) = 2 * ck_B w := h3.symm
  rw [h4] at h1 h2
  exact ⟨by show -(ck_B w) ≤ _; omega, by show _ ≤ ck_B w - 1; omega⟩
theorem ck_bm {w : Nat} (hw : 0 < w) {z : Int} (h1 : -(ck_B w) ≤ z) (h2 : z ≤ ck_B w - 1) : z.bmod (2 ^ w) = z := by
  have h3 := ck_B_two hw
  have h5 : ((2 ^ w : Nat) : Int) = 2 ^ w := by simp
  refine Int.bmod_eq_of_le ?_ ?_
  · rw [h5]; omega
  · rw [h5]; omega
theorem ck_cl_ok {w : Nat} (hw : 0 < w) {r : BitVec w} {z : Int} {x : Int × Int} (hr : r.toInt = z.bmod (2 ^ w)) (h : ck_in x z) : ck_in (ck_cl w x) r.toInt := by
  unfold ck_cl
  split
  · rename_i hx
    rw [hr, ck_bm hw (by have := h.1; omega) (by have := h.2; omega)]
    exact h
  · exact ck_rng hw r
theorem ck_cl_eq {w : Nat} (hw : 0 < w) {r : BitVec w} {z : Int} {x : Int × Int} (hr : r.toInt = z.bmod (2 ^ w)) (h : ck_in x z) (he : -(ck_B w) ≤ x.1 ∧ x.2 ≤ ck_B w - 1) : r.toInt = z := by
  rw [hr]
  exact ck_bm hw (by have := h.1; omega) (by have := h.2; omega)
theorem ck_cl_in {w : Nat} {x : Int × Int} (h : (ck_cl w x).1 = x.1 ∧ (ck_cl w x).2 = x.2) : -(ck_B w) ≤ x.1 ∧ x.2 ≤ ck_B w - 1 := by
  unfold ck_cl at h
  split at h
  · assumption
  · have a := h.1
    have b := h.2
    simp only [ck_top] at a b
    omega
theorem ck_mul1 {a l h c : Int} (h1 : l ≤ a) (h2 : a ≤ h) : ck_min (l * c) (h * c) ≤ a * c ∧ a * c ≤ ck_max (l * c) (h * c) := by
  have key : (l * c ≤ a * c ∧ a * c ≤ h * c) ∨ (h * c ≤ a * c ∧ a * c ≤ l * c) := by
    rcases Int.le_total 0 c with hc | hc
    · exact Or.inl ⟨Int.mul_le_mul_of_nonneg_right h1 hc, Int.mul_le_mul_of_nonneg_right h2 hc⟩
    · exact Or.inr ⟨Int.mul_le_mul_of_nonpos_right h2 hc, Int.mul_le_mul_of_nonpos_right h1 hc⟩
  unfold ck_min ck_max
  split <;> omega
theorem ck_mul2 {a b : Int} {x y : Int × Int} (hx : ck_in x a) (hy : ck_in y b) : ck_in (ck_min (ck_min (x.1 * y.1) (x.1 * y.2)) (ck_min (x.2 * y.1) (x.2 * y.2)), ck_max (ck_max (x.1 * y.1) (x.1 * y.2)) (ck_max (x.2 * y.1) (x.2 * y.2))) (a * b) := by
  have h1 := ck_mul1 (c := b) hx.1 hx.2
  have h2 := ck_mul1 (c := x.1) hy.1 hy.2
  have h3 := ck_mul1 (c := x.2) hy.1 hy.2
  rw [Int.mul_comm y.1, Int.mul_comm y.2, Int.mul_comm b] at h2 h3
  refine ⟨?_, ?_⟩
  · show ck_min (ck_min _ _) (ck_min _ _) ≤ _
    have e1 : ck_min (ck_min (x.1 * y.1) (x.1 * y.2)) (ck_min (x.2 * y.1) (x.2 * y.2)) ≤ ck_min (x.1 * b) (x.2 * b) := by
      have p1 := ck_le_min.mp (Int.le_refl (ck_min (ck_min (x.1 * y.1) (x.1 * y.2)) (ck_min (x.2 * y.1) (x.2 * y.2))))
      exact ck_le_min.mpr ⟨Int.le_trans p1.1 h2.1, Int.le_trans p1.2 h3.1⟩
    exact Int.le_trans e1 h1.1
  · show _ ≤ ck_max (ck_max _ _) (ck_max _ _)
    have p1 := ck_max_le.mp (Int.le_refl (ck_max (ck_max (x.1 * y.1) (x.1 * y.2)) (ck_max (x.2 * y.1) (x.2 * y.2))))
    have e1 : ck_max (x.1 * b) (x.2 * b) ≤ ck_max (ck_max (x.1 * y.1) (x.1 * y.2)) (ck_max (x.2 * y.1) (x.2 * y.2)) := ck_max_le.mpr ⟨Int.le_trans h2.2 p1.1, Int.le_trans h3.2 p1.2⟩
    exact Int.le_trans h1.2 e1
theorem ck_nn {w : Nat} {x : BitVec w} (h : 0 ≤ x.toInt) : x.toInt = (x.toNat : Int) ∧ x.msb = false := by
  have hm : x.msb = false := by
    rw [BitVec.msb_eq_toInt]
    exact decide_eq_false (by omega)
  exact ⟨BitVec.toInt_eq_toNat_of_msb hm, hm⟩
theorem ck_and_r {w : Nat} {a b : BitVec w} (h : 0 ≤ b.toInt) : 0 ≤ (a &&& b).toInt ∧ (a &&& b).toInt ≤ b.toInt := by
  obtain ⟨h1, h2⟩ := ck_nn h
  have hm : (a &&& b).msb = false := by rw [BitVec.msb_and, h2, Bool.and_false]
  rw [BitVec.toInt_eq_toNat_of_msb hm, BitVec.toNat_and, h1]
  exact ⟨Int.natCast_nonneg _, Int.ofNat_le.mpr Nat.and_le_right⟩
theorem ck_and_l {w : Nat} {a b : BitVec w} (h : 0 ≤ a.toInt) : 0 ≤ (a &&& b).toInt ∧ (a &&& b).toInt ≤ a.toInt := by
  rw [BitVec.and_comm]
  exact ck_and_r h
theorem ck_msk_lt {h : Int} {n : Nat} (hn : (n : Int) ≤ h) : n < 2 ^ (h.toNat.log2 + 1) := Nat.lt_of_le_of_lt (show n ≤ h.toNat by omega) Nat.lt_log2_self
theorem ck_msk_eq {h : Int} {n : Nat} (hn : n < 2 ^ (h.toNat.log2 + 1)) : (n : Int) ≤ ck_msk h := by
  unfold ck_msk
  have h1 : ((2 ^ (h.toNat.log2 + 1) : Nat) : Int) = 2 ^ (h.toNat.log2 + 1) := by simp
  have h2 : (n : Int) < ((2 ^ (h.toNat.log2 + 1) : Nat) : Int) := Int.ofNat_lt.mpr hn
  omega
theorem ck_or_ok {w : Nat} {a b : BitVec w} {x y : Int × Int} (hx : ck_in x a.toInt) (hy : ck_in y b.toInt) (h0 : 0 ≤ x.1) (h1 : 0 ≤ y.1) : ck_in (ck_max x.1 y.1, ck_msk (ck_max x.2 y.2)) (a ||| b).toInt ∧ a.toInt ≤ (a ||| b).toInt := by
  obtain ⟨a1, a2⟩ := ck_nn (x := a) (Int.le_trans h0 hx.1)
  obtain ⟨b1, b2⟩ := ck_nn (x := b) (Int.le_trans h1 hy.1)
  have hm : (a ||| b).msb = false := by rw [BitVec.msb_or, a2, b2]; rfl
  have p1 := ck_max_le.mp (Int.le_refl (ck_max x.2 y.2))
  rw [ck_in, BitVec.toInt_eq_toNat_of_msb hm, BitVec.toNat_or, a1]
  refine ⟨⟨ck_max_le.mpr ⟨?_, ?_⟩, ck_msk_eq (Nat.or_lt_two_pow (ck_msk_lt ?_) (ck_msk_lt ?_))⟩, Int.ofNat_le.mpr Nat.left_le_or⟩
  · exact Int.le_trans (by rw [← a1]; exact hx.1) (Int.ofNat_le.mpr Nat.left_le_or)
  · exact Int.le_trans (by rw [← b1]; exact hy.1) (Int.ofNat_le.mpr Nat.right_le_or)
  · rw [← a1]; exact Int.le_trans hx.2 p1.1
  · rw [← b1]; exact Int.le_trans hy.2 p1.2
theorem ck_xor_ok {w : Nat} {a b : BitVec w} {x y : Int × Int} (hx : ck_in x a.toInt) (hy : ck_in y b.toInt) (h0 : 0 ≤ x.1) (h1 : 0 ≤ y.1) : ck_in (0, ck_msk (ck_max x.2 y.2)) (a ^^^ b).toInt := by
  obtain ⟨a1, a2⟩ := ck_nn (x := a) (Int.le_trans h0 hx.1)
  obtain ⟨b1, b2⟩ := ck_nn (x := b) (Int.le_trans h1 hy.1)
  have hm : (a ^^^ b).msb = false := by rw [BitVec.msb_xor, a2, b2]; rfl
  have p1 := ck_max_le.mp (Int.le_refl (ck_max x.2 y.2))
  rw [ck_in, BitVec.toInt_eq_toNat_of_msb hm, BitVec.toNat_xor]
  refine ⟨Int.natCast_nonneg _, ck_msk_eq (Nat.xor_lt_two_pow (ck_msk_lt ?_) (ck_msk_lt ?_))⟩
  · rw [← a1]; exact Int.le_trans hx.2 p1.1
  · rw [← b1]; exact Int.le_trans hy.2 p1.2
theorem ck_two_le {a b : Nat} (h : a ≤ b) : (2 : Int) ^ a ≤ 2 ^ b := by
  have h1 : (2 : Nat) ^ a ≤ 2 ^ b := Nat.pow_le_pow_right (by decide) h
  have e : ∀ k : Nat, (2 : Int) ^ k = ((2 ^ k : Nat) : Int) := fun k => by simp
  rw [e, e]
  exact Int.ofNat_le.mpr h1
theorem ck_two_pos {a : Nat} : (0 : Int) < 2 ^ a := Int.pow_pos (by decide)
theorem ck_shl_ok {w : Nat} (hw : 0 < w) {a : BitVec w} {n : Nat} {x y : Int × Int} (hx : ck_in x a.toInt) (hy : ck_in y n) (h0 : 0 ≤ x.1) (h1 : 0 ≤ y.1) : ck_in (ck_cl w (x.1 * 2 ^ y.1.toNat, x.2 * 2 ^ y.2.toNat)) (a <<< n).toInt := by
  obtain ⟨a1, -⟩ := ck_nn (x := a) (Int.le_trans h0 hx.1)
  have e : ((a.toNat <<< n : Nat) : Int) = a.toInt * 2 ^ n := by rw [Nat.shiftLeft_eq, a1]; simp
  refine ck_cl_ok hw (z := a.toInt * 2 ^ n) (by rw [BitVec.toInt_shiftLeft, e]) ⟨?_, ?_⟩
  · exact Int.mul_le_mul hx.1 (ck_two_le (by have := hy.1; omega)) (Int.le_of_lt ck_two_pos) (Int.le_trans h0 hx.1)
  · exact Int.mul_le_mul hx.2 (ck_two_le (by have := hy.2; omega)) (Int.le_of_lt ck_two_pos) (Int.le_trans (Int.le_trans h0 hx.1) hx.2)
theorem ck_shr_ok {w : Nat} {a : BitVec w} {n : Nat} {x : Int × Int} (hx : ck_in x a.toInt) : ck_in (x.1 / 2 ^ n, x.2 / 2 ^ n) (a.sshiftRight n).toInt := by
  rw [BitVec.toInt_sshiftRight, Int.shiftRight_eq_div_pow]
  have e : ((2 ^ n : Nat) : Int) = 2 ^ n := by simp
  rw [e]
  exact ⟨Int.ediv_le_ediv ck_two_pos hx.1, Int.ediv_le_ediv ck_two_pos hx.2⟩
theorem ck_shr_nn {w : Nat} {a : BitVec w} {n : Nat} {x : Int × Int} (hx : ck_in x a.toInt) (h0 : 0 ≤ x.1) : ck_in (0, x.2) (a.sshiftRight n).toInt := by
  rw [BitVec.toInt_sshiftRight, Int.shiftRight_eq_div_pow]
  have e : ((2 ^ n : Nat) : Int) = 2 ^ n := by simp
  rw [e]
  have h2 : 0 ≤ a.toInt := Int.le_trans h0 hx.1
  exact ⟨Int.ediv_nonneg h2 (Int.le_of_lt ck_two_pos), Int.le_trans (Int.ediv_le_self _ h2) hx.2⟩
end
section
def ck_f32 (op : Nat) (a b : Int32) : Int32 := match op with
  | 0 => a + b
  | 1 => a - b
  | 2 => a * b
  | 3 => a &&& b
  | 4 => a ||| b
  | 5 => a ^^^ b
  | 6 => a <<< (b &&& 31)
  | 7 => a >>> (b &&& 31)
  | 9 => a / b
  | 10 => a % b
  | _ => a
def ck_f64 (op : Nat) (a b : Int64) : Int64 := match op with
  | 0 => a + b
  | 1 => a - b
  | 2 => a * b
  | 3 => a &&& b
  | 4 => a ||| b
  | 5 => a ^^^ b
  | _ => a
theorem ck_sh32 : ∀ k, k < 32 → ((Int32.ofNat k &&& 31 : Int32).toBitVec.smod 32).toNat = k := by decide +kernel
theorem ck_sh64 : ∀ k, k < 64 → (((Int32.ofNat k).toInt64 &&& 63 : Int64).toBitVec.smod 64).toNat = k := by decide +kernel
theorem ck_i32 {b : Int32} (h0 : 0 ≤ b.toInt) : b = Int32.ofNat b.toInt.toNat := by
  apply Int32.toInt_inj.mp
  have h1 := Int32.toInt_lt b
  rw [Int32.toInt_ofNat_of_lt (by omega)]
  omega
theorem ck_shl32 {a b : Int32} {k : Nat} (hb : b.toInt = k) (hk : k < 32) : (a <<< (b &&& 31)).toInt = (a.toBitVec <<< k).toInt := by
  have e : b = Int32.ofNat k := by rw [ck_i32 (b := b) (by omega), hb]; rfl
  show (a <<< (b &&& 31)).toBitVec.toInt = _
  rw [Int32.toBitVec_shiftLeft, e, BitVec.shiftLeft_eq', ck_sh32 k hk]
theorem ck_shr32 {a b : Int32} {k : Nat} (hb : b.toInt = k) (hk : k < 32) : (a >>> (b &&& 31)).toInt = (a.toBitVec.sshiftRight k).toInt := by
  have e : b = Int32.ofNat k := by rw [ck_i32 (b := b) (by omega), hb]; rfl
  show (a >>> (b &&& 31)).toBitVec.toInt = _
  rw [Int32.toBitVec_shiftRight, e]
  show (a.toBitVec.sshiftRight _).toInt = _
  rw [ck_sh32 k hk]
theorem ck_shrx {a b : Int32} : ∃ k : Nat, (a >>> (b &&& 31)).toInt = (a.toBitVec.sshiftRight k).toInt := by
  refine ⟨((b &&& 31 : Int32).toBitVec.smod 32).toNat, ?_⟩
  show (a >>> (b &&& 31)).toBitVec.toInt = _
  rw [Int32.toBitVec_shiftRight]
  rfl
theorem ck_shl64 {a : Int64} {b : Int32} {k : Nat} (hb : b.toInt = k) (hk : k < 64) : (a <<< (b.toInt64 &&& 63)).toInt = (a.toBitVec <<< k).toInt := by
  have e : b = Int32.ofNat k := by rw [ck_i32 (b := b) (by omega), hb]; rfl
  show (a <<< (b.toInt64 &&& 63)).toBitVec.toInt = _
  rw [Int64.toBitVec_shiftLeft, e, BitVec.shiftLeft_eq', ck_sh64 k hk]
theorem ck_r32 (a : Int32) : ck_in (ck_top 32) a.toInt := ck_rng (w := 32) (by decide) a.toBitVec
theorem ck_r64 (a : Int64) : ck_in (ck_top 64) a.toInt := ck_rng (w := 64) (by decide) a.toBitVec
theorem ck_bin32 (op : Nat) {a b : Int32} {x y : Int × Int} (hx : ck_in x a.toInt) (hy : ck_in y b.toInt) : ck_in (ck_bin 32 op x y) (ck_f32 op a b).toInt := by
  unfold ck_bin
  split
  · exact ck_cl_ok (w := 32) (by decide) (r := (a + b).toBitVec) (z := a.toInt + b.toInt) (Int32.toInt_add a b) ⟨Int.add_le_add hx.1 hy.1, Int.add_le_add hx.2 hy.2⟩
  · exact ck_cl_ok (w := 32) (by decide) (r := (a - b).toBitVec) (z := a.toInt - b.toInt) (Int32.toInt_sub a b) ⟨Int.sub_le_sub hx.1 hy.2, Int.sub_le_sub hx.2 hy.1⟩
  · exact ck_cl_ok (w := 32) (by decide) (r := (a * b).toBitVec) (z := a.toInt * b.toInt) (Int32.toInt_mul a b) (ck_mul2 hx hy)
  · split
    · rename_i h1
      have p := ck_and_r (a := a.toBitVec) (b := b.toBitVec) (Int.le_trans h1 hy.1)
      split
      · rename_i h2
        have p2 := ck_and_l (a := a.toBitVec) (b := b.toBitVec) (Int.le_trans h2 hx.1)
        exact ⟨p.1, ck_le_min.mpr ⟨Int.le_trans p2.2 hx.2, Int.le_trans p.2 hy.2⟩⟩
      · exact ⟨p.1, Int.le_trans p.2 hy.2⟩
    · split
      · rename_i h2
        have p2 := ck_and_l (a := a.toBitVec) (b := b.toBitVec) (Int.le_trans h2 hx.1)
        exact ⟨p2.1, Int.le_trans p2.2 hx.2⟩
      · exact ck_r32 _
  · split
    · rename_i h
      have p := (ck_or_ok (a := a.toBitVec) (b := b.toBitVec) hx hy h.1 h.2).1
      have hl := ck_rng (w := 32) (by decide) (a.toBitVec ||| b.toBitVec)
      exact ck_cl_ok (w := 32) (by decide) (r := a.toBitVec ||| b.toBitVec) (z := (a.toBitVec ||| b.toBitVec).toInt) (ck_bm (by decide) hl.1 hl.2).symm p
    · exact ck_r32 _
  · split
    · rename_i h
      have p := ck_xor_ok (a := a.toBitVec) (b := b.toBitVec) hx hy h.1 h.2
      have hl := ck_rng (w := 32) (by decide) (a.toBitVec ^^^ b.toBitVec)
      exact ck_cl_ok (w := 32) (by decide) (r := a.toBitVec ^^^ b.toBitVec) (z := (a.toBitVec ^^^ b.toBitVec).toInt) (ck_bm (by decide) hl.1 hl.2).symm p
    · exact ck_r32 _
  · split
    · rename_i h
      have h3 : y.2 < 32 := h.2.2
      have e : b.toInt = ((b.toInt.toNat : Nat) : Int) := by have := hy.1; omega
      show ck_in _ (a <<< (b &&& 31)).toInt
      rw [ck_shl32 e (by have := hy.2; omega)]
      exact ck_shl_ok (by decide) hx (by rw [← e]; exact hy) h.1 h.2.1
    · exact ck_r32 _
  · split
    · rename_i h
      have h3 : y.2 < 32 := h.2.2
      have e : b.toInt = ((y.1.toNat : Nat) : Int) := by have := hy.1; have := hy.2; omega
      show ck_in _ (a >>> (b &&& 31)).toInt
      rw [ck_shr32 e (by omega)]
      exact ck_shr_ok hx
    · split
      · rename_i h
        obtain ⟨k, e⟩ := ck_shrx (a := a) (b := b)
        show ck_in _ (a >>> (b &&& 31)).toInt
        rw [e]
        exact ck_shr_nn hx h
      · exact ck_r32 _
  · split
    · rename_i h
      have e : b.toInt = y.1 := by have := hy.1; have := hy.2; omega
      have h0 : 0 ≤ a.toInt := Int.le_trans h.2.2 hx.1
      have hne : b ≠ -1 := fun q => by rw [q] at e; have : (-1 : Int32).toInt = -1 := by decide
                                       omega
      show ck_in _ (a / b).toInt
      rw [Int32.toInt_div_of_ne_right a b hne, e, Int.tdiv_eq_ediv_of_nonneg h0]
      exact ⟨Int.ediv_le_ediv h.2.1 hx.1, Int.ediv_le_ediv h.2.1 hx.2⟩
    · exact ck_r32 _
  · split
    · rename_i h
      have e : b.toInt = y.1 := by have := hy.1; have := hy.2; omega
      show ck_in _ (a % b).toInt
      rw [Int32.toInt_mod, e]
      split
      · rename_i h0
        have h0 : 0 ≤ a.toInt := Int.le_trans h0 hx.1
        rw [Int.tmod_eq_emod_of_nonneg h0]
        have p1 := Int.emod_nonneg a.toInt (b := y.1) (by omega)
        have p2 := Int.emod_lt_of_pos a.toInt h.2
        exact ⟨p1, by show _ ≤ y.1 - 1; omega⟩
      · have p1 := Int.lt_tmod_of_pos a.toInt h.2
        have p2 := Int.tmod_lt_of_pos a.toInt h.2
        exact ⟨by show 1 - y.1 ≤ _; omega, by show _ ≤ y.1 - 1; omega⟩
    · exact ck_r32 _
  · exact ck_r32 _
theorem ck_bin64 (op : Nat) (hop : op < 6) {a b : Int64} {x y : Int × Int} (hx : ck_in x a.toInt) (hy : ck_in y b.toInt) : ck_in (ck_bin 64 op x y) (ck_f64 op a b).toInt := by
  unfold ck_bin
  split
  · exact ck_cl_ok (w := 64) (by decide) (r := (a + b).toBitVec) (z := a.toInt + b.toInt) (Int64.toInt_add a b) ⟨Int.add_le_add hx.1 hy.1, Int.add_le_add hx.2 hy.2⟩
  · exact ck_cl_ok (w := 64) (by decide) (r := (a - b).toBitVec) (z := a.toInt - b.toInt) (Int64.toInt_sub a b) ⟨Int.sub_le_sub hx.1 hy.2, Int.sub_le_sub hx.2 hy.1⟩
  · exact ck_cl_ok (w := 64) (by decide) (r := (a * b).toBitVec) (z := a.toInt * b.toInt) (Int64.toInt_mul a b) (ck_mul2 hx hy)
  · split
    · rename_i h1
      have p := ck_and_r (a := a.toBitVec) (b := b.toBitVec) (Int.le_trans h1 hy.1)
      split
      · rename_i h2
        have p2 := ck_and_l (a := a.toBitVec) (b := b.toBitVec) (Int.le_trans h2 hx.1)
        exact ⟨p.1, ck_le_min.mpr ⟨Int.le_trans p2.2 hx.2, Int.le_trans p.2 hy.2⟩⟩
      · exact ⟨p.1, Int.le_trans p.2 hy.2⟩
    · split
      · rename_i h2
        have p2 := ck_and_l (a := a.toBitVec) (b := b.toBitVec) (Int.le_trans h2 hx.1)
        exact ⟨p2.1, Int.le_trans p2.2 hx.2⟩
      · exact ck_r64 _
  · split
    · rename_i h
      have p := (ck_or_ok (a := a.toBitVec) (b := b.toBitVec) hx hy h.1 h.2).1
      have hl := ck_rng (w := 64) (by decide) (a.toBitVec ||| b.toBitVec)
      exact ck_cl_ok (w := 64) (by decide) (r := a.toBitVec ||| b.toBitVec) (z := (a.toBitVec ||| b.toBitVec).toInt) (ck_bm (by decide) hl.1 hl.2).symm p
    · exact ck_r64 _
  · split
    · rename_i h
      have p := ck_xor_ok (a := a.toBitVec) (b := b.toBitVec) hx hy h.1 h.2
      have hl := ck_rng (w := 64) (by decide) (a.toBitVec ^^^ b.toBitVec)
      exact ck_cl_ok (w := 64) (by decide) (r := a.toBitVec ^^^ b.toBitVec) (z := (a.toBitVec ^^^ b.toBitVec).toInt) (ck_bm (by decide) hl.1 hl.2).symm p
    · exact ck_r64 _
  all_goals first | omega | exact ck_r64 _
theorem ck_lshl {a : Int64} {b : Int32} {x y : Int × Int} (hx : ck_in x a.toInt) (hy : ck_in y b.toInt) : ck_in (ck_bin 64 6 x y) (a <<< (b.toInt64 &&& 63)).toInt := by
  show ck_in (if 0 ≤ x.1 ∧ 0 ≤ y.1 ∧ y.2 < (64 : Nat) then ck_cl 64 (x.1 * 2 ^ y.1.toNat, x.2 * 2 ^ y.2.toNat) else ck_top 64) _
  split
  · rename_i h
    have h3 : y.2 < 64 := h.2.2
    have e : b.toInt = ((b.toInt.toNat : Nat) : Int) := by have := hy.1; omega
    rw [ck_shl64 e (by have := hy.2; omega)]
    exact ck_shl_ok (by decide) hx (by rw [← e]; exact hy) h.1 h.2.1
  · exact ck_r64 _
/-- what ck_rel says is so: A, B, Z the three numbers -/
theorem ck_rel_ok {op a b N : Nat} {x y r : Int × Int} {A B Z : Int} (hx : ck_in x A) (hy : ck_in y B)
    (h0 : op = 0 → (r.1 = x.1 + y.1 ∧ r.2 = x.2 + y.2) → Z = A + B) (h1 : op = 1 → (r.1 = x.1 - y.2 ∧ r.2 = x.2 - y.1) → Z = A - B) (h3 : op = 3 → 0 ≤ B → Z ≤ B) (h4 : op = 4 → 0 ≤ A → 0 ≤ B → A ≤ Z) (h6 : op = 6 → (1 ≤ x.1 ∧ y.1 = y.2 ∧ 1 ≤ y.1 ∧ r.1 = x.1 * 2 ^ y.1.toNat ∧ r.2 = x.2 * 2 ^ y.2.toNat) → A + 1 ≤ Z)
    {v : Nat → Int} (va : v a = A) (vb : v b = B) (vN : v N = Z) : ∀ q ∈ ck_rel op a b N x y r, (q.1 = a ∨ q.1 = b ∨ q.1 = N) ∧ (q.2.1 = a ∨ q.2.1 = b ∨ q.2.1 = N) ∧ v q.1 ≤ v q.2.1 + q.2.2 := by
  intro q hq
  unfold ck_rel at hq
  split at hq
  · split at hq
    · rename_i h
      have hz := h0 rfl h
      split at hq
      · simp only [List.mem_cons, List.not_mem_nil, or_false] at hq
        rcases hq with rfl | rfl
        · exact ⟨Or.inr (Or.inr rfl), Or.inl rfl, by rw [vN, va, hz]; have := hy.1; have := hy.2; dsimp only; omega⟩
        · exact ⟨Or.inl rfl, Or.inr (Or.inr rfl), by rw [vN, va, hz]; have := hy.1; have := hy.2; dsimp only; omega⟩
      · split at hq
        · simp only [List.mem_cons, List.not_mem_nil, or_false] at hq
          rcases hq with rfl | rfl
          · exact ⟨Or.inr (Or.inr rfl), Or.inr (Or.inl rfl), by rw [vN, vb, hz]; have := hx.1; have := hx.2; dsimp only; omega⟩
          · exact ⟨Or.inr (Or.inl rfl), Or.inr (Or.inr rfl), by rw [vN, vb, hz]; have := hx.1; have := hx.2; dsimp only; omega⟩
        · cases hq
    · cases hq
  · split at hq
    · rename_i h
      have hz := h1 rfl ⟨h.1, h.2.1⟩
      simp only [List.mem_cons, List.not_mem_nil, or_false] at hq
      rcases hq with rfl | rfl
      · exact ⟨Or.inr (Or.inr rfl), Or.inl rfl, by rw [vN, va, hz]; have := hy.1; have := hy.2; dsimp only; omega⟩
      · exact ⟨Or.inl rfl, Or.inr (Or.inr rfl), by rw [vN, va, hz]; have := hy.1; have := hy.2; dsimp only; omega⟩
    · cases hq
  · split at hq
    · rename_i h
      split at hq
      · cases hq
      · simp only [List.mem_cons, List.not_mem_nil, or_false] at hq
        subst hq
        exact ⟨Or.inr (Or.inr rfl), Or.inr (Or.inl rfl), by rw [vN, vb]; have := h3 rfl (Int.le_trans h hy.1); dsimp only; omega⟩
    · cases hq
  · split at hq
    · rename_i h
      simp only [List.mem_cons, List.not_mem_nil, or_false] at hq
      subst hq
      exact ⟨Or.inl rfl, Or.inr (Or.inr rfl), by rw [vN, va]; have := h4 rfl (Int.le_trans h.1 hx.1) (Int.le_trans h.2 hy.1); dsimp only; omega⟩
    · cases hq
  · split at hq
    · rename_i h
      simp only [List.mem_cons, List.not_mem_nil, or_false] at hq
      subst hq
      exact ⟨Or.inl rfl, Or.inr (Or.inr rfl), by rw [vN, va]; have := h6 rfl h; dsimp only; omega⟩
    · cases hq
  · cases hq
/-- a shift that stays is a product -/
theorem ck_shl_eq {a b : Int32} {x y : Int × Int} (hx : ck_in x a.toInt) (hy : ck_in y b.toInt) (h : 1 ≤ x.1 ∧ y.1 = y.2 ∧ 1 ≤ y.1 ∧ (ck_bin 32 6 x y).1 = x.1 * 2 ^ y.1.toNat ∧ (ck_bin 32 6 x y).2 = x.2 * 2 ^ y.2.toNat) : a.toInt + 1 ≤ (ck_f32 6 a b).toInt := by
  obtain ⟨h1, h2, h3, h4, h5⟩ := h
  have hp : (2 : Int) ≤ 2 ^ y.1.toNat := by
    have := ck_two_le (a := 1) (b := y.1.toNat) (by omega)
    omega
  have ha : 1 ≤ a.toInt := Int.le_trans h1 hx.1
  have hmul : a.toInt + 1 ≤ a.toInt * 2 ^ y.1.toNat := by
    have := Int.mul_le_mul_of_nonneg_left hp (show 0 ≤ a.toInt by omega)
    omega
  have hb32 : ck_B 32 = 2147483648 := by decide
  by_cases c : 0 ≤ x.1 ∧ 0 ≤ y.1 ∧ y.2 < (32 : Nat)
  · have e0 : ck_bin 32 6 x y = ck_cl 32 (x.1 * 2 ^ y.1.toNat, x.2 * 2 ^ y.2.toNat) := if_pos c
    rw [e0] at h4 h5
    have hin := ck_cl_in ⟨h4, h5⟩
    have c3 : y.2 < 32 := c.2.2
    have e : b.toInt = ((y.1.toNat : Nat) : Int) := by have := hy.1; have := hy.2; omega
    show _ ≤ (a <<< (b &&& 31)).toInt
    rw [ck_shl32 e (by omega)]
    obtain ⟨a1, -⟩ := ck_nn (x := a.toBitVec) (show 0 ≤ a.toBitVec.toInt by have : a.toBitVec.toInt = a.toInt := rfl; omega)
    have e2 : ((a.toBitVec.toNat <<< y.1.toNat : Nat) : Int) = a.toInt * 2 ^ y.1.toNat := by
      rw [Nat.shiftLeft_eq]
      have : a.toInt = (a.toBitVec.toNat : Int) := a1
      rw [this]
      simp
    have e3 := ck_cl_eq (w := 32) (by decide) (r := a.toBitVec <<< y.1.toNat) (z := a.toInt * 2 ^ y.1.toNat) (x := (x.1 * 2 ^ y.1.toNat, x.2 * 2 ^ y.2.toNat)) (by rw [BitVec.toInt_shiftLeft, e2])
      ⟨Int.mul_le_mul_of_nonneg_right hx.1 (Int.le_of_lt ck_two_pos), by rw [← h2]; exact Int.mul_le_mul_of_nonneg_right hx.2 (Int.le_of_lt ck_two_pos)⟩ hin
    rw [e3]
    exact hmul
  · have e0 : ck_bin 32 6 x y = ck_top 32 := if_neg c
    rw [e0] at h4
    simp only [ck_top, hb32] at h4
    have : 0 ≤ x.1 * 2 ^ y.1.toNat := Int.mul_nonneg (by omega) (Int.le_of_lt ck_two_pos)
    omega
end
section
/-! what a state says -/
/-- signs that wait: 38, 62, 124 take two values -/
def ck_b3 (x : Int32) : Bool := x == 38 || (x == 62 || x == 124)
def ck_cn (p : Int32 → Bool) (f : Nat → Int32) : Nat → Nat
  | 0 => 0
  | k + 1 => ck_cn p f k + if p (f k) then 1 else 0
/-- of the first m signs c take two values, o are open brackets -/
def ck_ng (tag : Nat) (f : Nat → Int32) (m : Int) (l : List Int) : Prop := match l with
  | [c, o] => 0 ≤ m ∧ c = (ck_cn ck_b3 f m.toNat : Int) ∧ o = (ck_cn (fun x => x == 40) f m.toNat : Int) ∧ (∀ j, j < m.toNat → ck_b3 (f j) = true ∨ f j = 40 ∨ f j = 45) ∧ (∀ j, j + 1 < m.toNat → f j = 45 → f (j + 1) = 45 ∨ f (j + 1) = 40) ∧
    (21 ≤ tag → 0 < m.toNat → f (m.toNat - 1) ≠ 45) ∧ (22 ≤ tag → 0 < m.toNat ∧ ck_b3 (f (m.toNat - 1)) = true)
  | _ => False
/-- what a note says: of the signs; of an array's content (50); of what is held (30, 33) and its numbers (31, 32, 34, 35) by a set of places -/
def ck_nt (tag : Nat) (f : Nat → Int32) (m : Int) (l : List Int) : Prop := if tag < 30 then ck_ng tag f m l else match tag, l with
  | 30, _ => ∀ i : Nat, i < 6 → (f i).toInt = 1 → m.toNat.testBit i = true
  | 31, _ => ∀ i : Nat, i < 6 → m.toNat.testBit i = true → (f i).toInt ≤ 9
  | 32, _ => (f m.toNat).toInt ≤ 9
  | 33, [w] => (f m.toNat).toInt = w
  | 34, [k] => ∀ i : Nat, i < 6 → i ≠ k.toNat → m.toNat.testBit i = true → (f i).toInt ≤ 9
  | 35, [k] => (∀ i : Nat, i < 6 → m.toNat.testBit i = true → (f i).toInt ≤ 9) ∧ m.toNat.testBit k.toNat = false
  | 50, l => ∀ (i : Nat) (z : Int), l[i]? = some z → (f i).toInt = z
  | _, _ => False
def ck_mo (SG : List Nat) (ws : va_W) (sh : List Nat) (sc : ck_sc) (n : ck_N) (N : Nat) (mem : List ck_M) : Prop := ∀ x ∈ mem,
  (x.1 = 0 ∧ x.2.2.2.1 < N ∧ ((x.2.2.1 = 0 ∧ x.2.1 < N ∧ ∃ (b L : Nat) (xs : Nat → Int32), sc.1 = some (b, L, xs) ∧ (n x.2.2.2.1).1 = (xs (n x.2.1).1.toNat).toInt) ∨ (x.2.2.1 = 8 ∧ (n x.2.2.2.1).1 = sc.2.2 x.2.1))) ∨
  (x.1 ≠ 0 ∧ x.1 ∈ SG ∧ ∃ (q a : Nat) (o : Nat × List Value) (v : Value), sh[q]? = some x.1 ∧ ws[q]? = some (a, .inr o) ∧ o.2[x.2.1]? = some v ∧ ck_vo ws sh sc n N x.2.2 v) ∨
  (20 ≤ x.2.2.1 ∧ x.1 ≠ 0 ∧ x.1 ∈ SG ∧ x.2.1 = 0 ∧ x.2.2.2.1 < N ∧ (∀ j ∈ x.2.2.2.2, j < N) ∧ ∃ (q a : Nat) (cA : ClassId) (len : Nat) (f : Nat → Int32), sh[q]? = some x.1 ∧ ws[q]? = some (a, .inl (cA, len, .inl f)) ∧ ck_nt x.2.2.1 f (n x.2.2.2.1).1 (x.2.2.2.2.map (fun j => (n j).1)))
def ck_lo (ws : va_W) (sh : List Nat) (sc : ck_sc) (n : ck_N) (N nL : Nat) (loc : List (Nat × ck_V)) (ls : Array Slot) : Prop :=
  ∃ lv, lv_has ls nL lv ∧ ck_two (fun (x : Nat × ck_V) (y : Nat × Value) => x.1 = y.1 ∧ ck_vo ws sh sc n N x.2 y.2) loc lv
def ck_so (nL : Nat) (SG : List Nat) (S : ck_S) (n : ck_N) (ws : va_W) (sh : List Nat) (sc : ck_sc) (ls : Array Slot) (vs : List Value) : Prop :=
  (0 < S.2.2.2.1.length ∧ (n 0).1 = 0) ∧ ck_lo ws sh sc n S.2.2.2.1.length nL S.1 ls ∧ ck_two (ck_vo ws sh sc n S.2.2.2.1.length) S.2.1 vs ∧ ck_mo SG ws sh sc n S.2.2.2.1.length S.2.2.1 ∧ ck_eo S.2.2.2.1 n ∧ ck_ro S.2.2.2.2.1 n S.2.2.2.1.length
theorem ck_mo.up {SG : List Nat} {ws : va_W} {sh : List Nat} {sc : ck_sc} {n n' : ck_N} {N N' : Nat} {mem : List ck_M} (hn : ∀ k, k < N → n' k = n k) (hN : N ≤ N') (h : ck_mo SG ws sh sc n N mem) : ck_mo SG ws sh sc n' N' mem := by
  intro x hx
  rcases h x hx with ⟨h0, h3, ⟨h2, h1, b, L, xs, h4, h5⟩ | ⟨h2, h4⟩⟩ | ⟨h0, h1, q, a, o, v, h2, h3, h4, h5⟩ | ⟨h0, h1, h2, h3, h4, h5, q, a, cA, len, f, h6, h7, h8⟩
  · exact Or.inl ⟨h0, Nat.lt_of_lt_of_le h3 hN, Or.inl ⟨h2, Nat.lt_of_lt_of_le h1 hN, b, L, xs, h4, by rw [hn _ h1, hn _ h3]; exact h5⟩⟩
  · exact Or.inl ⟨h0, Nat.lt_of_lt_of_le h3 hN, Or.inr ⟨h2, by rw [hn _ h3]; exact h4⟩⟩
  · exact Or.inr (Or.inl ⟨h0, h1, q, a, o, v, h2, h3, h4, h5.up hn hN⟩)
  · refine Or.inr (Or.inr ⟨h0, h1, h2, h3, Nat.lt_of_lt_of_le h4 hN, fun j hj => Nat.lt_of_lt_of_le (h5 j hj) hN, q, a, cA, len, f, h6, h7, ?_⟩)
    rw [hn _ h4, List.map_congr_left (fun j hj => by rw [hn _ (h5 j hj)])]
    exact h8
theorem ck_mo.mv1 {SG : List Nat} {Wr : List (Nat × Nat)} {ws ws' : va_W} {sh sh' : List Nat} {n : ck_N} {N : Nat} {x : ck_M} (hx : ck_ex Wr ws sh ws' sh') (hw : (x.1, x.2.1) ∉ Wr)
    (h : 20 ≤ x.2.2.1 ∧ x.1 ≠ 0 ∧ x.1 ∈ SG ∧ x.2.1 = 0 ∧ x.2.2.2.1 < N ∧ (∀ j ∈ x.2.2.2.2, j < N) ∧ ∃ (q a : Nat) (cA : ClassId) (len : Nat) (f : Nat → Int32), sh[q]? = some x.1 ∧ ws[q]? = some (a, .inl (cA, len, .inl f)) ∧ ck_nt x.2.2.1 f (n x.2.2.2.1).1 (x.2.2.2.2.map (fun j => (n j).1))) :
    20 ≤ x.2.2.1 ∧ x.1 ≠ 0 ∧ x.1 ∈ SG ∧ x.2.1 = 0 ∧ x.2.2.2.1 < N ∧ (∀ j ∈ x.2.2.2.2, j < N) ∧ ∃ (q a : Nat) (cA : ClassId) (len : Nat) (f : Nat → Int32), sh'[q]? = some x.1 ∧ ws'[q]? = some (a, .inl (cA, len, .inl f)) ∧ ck_nt x.2.2.1 f (n x.2.2.2.1).1 (x.2.2.2.2.map (fun j => (n j).1)) := by
  obtain ⟨h0, h1, h2, h3, h4, h5, q, a, cA, len, f, h6, h7, h8⟩ := h
  obtain ⟨e', x1, x2⟩ := hx.2 q a _ x.1 h7 h6
  refine ⟨h0, h1, h2, h3, h4, h5, q, a, cA, len, f, hx.1 _ _ h6, ?_, h8⟩
  cases e' with
  | inr _ => exact x2.elim
  | inl y =>
    rw [h3] at hw
    rw [x2 hw] at x1
    exact x1
theorem ck_ro.up {R : List ck_R} {n n' : ck_N} {N N' : Nat} (hn : ∀ k, k < N → n' k = n k) (hN : N ≤ N') (h : ck_ro R n N) : ck_ro R n' N' := by
  intro r hr
  obtain ⟨h1, h2, h3⟩ := h r hr
  exact ⟨Nat.lt_of_lt_of_le h1 hN, Nat.lt_of_lt_of_le h2 hN, by rw [hn _ h1, hn _ h2]; exact h3⟩
theorem ck_lo.up {ws : va_W} {sh : List Nat} {sc : ck_sc} {n n' : ck_N} {N N' nL : Nat} {loc : List (Nat × ck_V)} {ls : Array Slot} (hn : ∀ k, k < N → n' k = n k) (hN : N ≤ N') (h : ck_lo ws sh sc n N nL loc ls) : ck_lo ws sh sc n' N' nL loc ls := by
  obtain ⟨lv, h1, h2⟩ := h
  exact ⟨lv, h1, h2.imp fun a b hab => ⟨hab.1, hab.2.up hn hN⟩⟩
theorem ck_lo.mv {Wr : List (Nat × Nat)} {ws ws' : va_W} {sh sh' : List Nat} (hx : ck_ex Wr ws sh ws' sh') {sc : ck_sc} {n : ck_N} {N nL : Nat} {loc : List (Nat × ck_V)} {ls : Array Slot} (h : ck_lo ws sh sc n N nL loc ls) : ck_lo ws' sh' sc n N nL loc ls := by
  obtain ⟨lv, h1, h2⟩ := h
  exact ⟨lv, h1, h2.imp fun a b hab => ⟨hab.1, hab.2.mv hx⟩⟩
theorem ck_eo.add {E : ck_E} {n : ck_N} {x : Int × Value} {iv : Int × Int} (h : ck_eo E n) (hx : iv.1 ≤ iv.2 → iv.1 ≤ x.1 ∧ x.1 ≤ iv.2) : ck_eo (E ++ [iv]) (ck_nx n E.length x) := by
  intro k y hy hle
  rcases Nat.lt_trichotomy k E.length with hk | hk | hk
  · rw [List.getElem?_append_left hk] at hy
    rw [ck_nx_lt k hk]
    exact h k y hy hle
  · subst hk
    rw [List.getElem?_append_right (Nat.le_refl _), Nat.sub_self, List.getElem?_cons_zero, Option.some.injEq] at hy
    subst hy
    rw [ck_nx_eq]
    exact hx hle
  · rw [List.getElem?_append_right (Nat.le_of_lt hk)] at hy
    have : ([iv] : List (Int × Int))[k - E.length]? = none := by
      rw [List.getElem?_eq_none]
      simp
      omega
    rw [this] at hy
    cases hy
theorem ck_so.ss {nL : Nat} {SG : List Nat} {S : ck_S} {n : ck_N} {ws : va_W} {sh : List Nat} {sc : ck_sc} {ls : Array Slot} {vs vs' : List Value} {st : List ck_V} (h : ck_so nL SG S n ws sh sc ls vs) (hs : ck_two (ck_vo ws sh sc n S.2.2.2.1.length) st vs') : ck_so nL SG (ck_ss S st) n ws sh sc ls vs' :=
  ⟨h.1, h.2.1, hs, h.2.2.2⟩
theorem ck_so.new {nL : Nat} {SG : List Nat} {S : ck_S} {n : ck_N} {ws : va_W} {sh : List Nat} {sc : ck_sc} {ls : Array Slot} {vs vs' : List Value} {st : List ck_V} (h : ck_so nL SG S n ws sh sc ls vs) (hs : ck_two (ck_vo ws sh sc n S.2.2.2.1.length) st vs')
    {tag : Nat} {ts : List Nat} {iv : Int × Int} {rs : List ck_R} {x : Int × Value} {v : Value} (hv : ck_vo ws sh sc (ck_nx n S.2.2.2.1.length x) (S.2.2.2.1.length + 1) (tag, S.2.2.2.1.length, ts) v)
    (hx : iv.1 ≤ iv.2 → iv.1 ≤ x.1 ∧ x.1 ≤ iv.2) (hr : ck_ro rs (ck_nx n S.2.2.2.1.length x) (S.2.2.2.1.length + 1)) : ck_so nL SG (ck_new S st tag ts iv rs) (ck_nx n S.2.2.2.1.length x) ws sh sc ls (v :: vs') := by
  obtain ⟨⟨h0, h00⟩, h1, h2, h3, h4, h5⟩ := h
  have hl : (S.2.2.2.1 ++ [iv]).length = S.2.2.2.1.length + 1 := by simp
  refine ⟨⟨?_, ?_⟩, ?_, ⟨?_, ?_⟩, ?_, ?_, ?_⟩
  · show 0 < (S.2.2.2.1 ++ [iv]).length
    omega
  · rw [ck_nx_lt 0 h0]; exact h00
  · show ck_lo ws sh sc _ (S.2.2.2.1 ++ [iv]).length nL S.1 ls
    rw [hl]
    exact h1.up ck_nx_lt (Nat.le_succ _)
  · show ck_vo ws sh sc _ (S.2.2.2.1 ++ [iv]).length _ v
    rw [hl]
    exact hv
  · show ck_two (ck_vo ws sh sc _ (S.2.2.2.1 ++ [iv]).length) st vs'
    rw [hl]
    exact hs.imp fun a b hab => hab.up ck_nx_lt (Nat.le_succ _)
  · show ck_mo SG ws sh sc _ (S.2.2.2.1 ++ [iv]).length S.2.2.1
    rw [hl]
    exact h3.up ck_nx_lt (Nat.le_succ _)
  · exact h4.add hx
  · show ck_ro (rs ++ S.2.2.2.2.1) _ (S.2.2.2.1 ++ [iv]).length
    rw [hl]
    intro r hq
    rcases List.mem_append.mp hq with q | q
    · exact hr r q
    · exact h5.up ck_nx_lt (Nat.le_succ _) r q
/-- learning -/
theorem ck_wle_ok {nL : Nat} {SG : List Nat} {S : ck_S} {n : ck_N} {ws : va_W} {sh : List Nat} {sc : ck_sc} {ls : Array Slot} {vs : List Value} (h : ck_so nL SG S n ws sh sc ls vs) {a b : Nat} {c : Int} {k : ck_S → Bool} (hk : ck_wle a b c S k = true) (hab : (n a).1 ≤ (n b).1 + c) :
    ∃ S' : ck_S, k S' = true ∧ ck_so nL SG S' n ws sh sc ls vs ∧ S'.1 = S.1 ∧ S'.2.1 = S.2.1 ∧ S'.2.2.1 = S.2.2.1 ∧ S'.2.2.2.1.length = S.2.2.2.1.length ∧ S'.2.2.2.2.2 = S.2.2.2.2.2 := by
  obtain ⟨h0, h1, h2, h3, h4, h5⟩ := h
  unfold ck_wle at hk
  split at hk
  · rename_i x y hx hy
    split at hk
    · rename_i hxy
      obtain ⟨q1, q2, q3, q4⟩ := ck_le_ok h4 h5 hab
      dsimp only at hk
      rw [q3 x hx hxy.1, q4 y hy hxy.2, Bool.false_or, Bool.false_or] at hk
      have hl := ck_le_len a b c S.2.2.2.1 S.2.2.2.2.1
      refine ⟨_, hk, ⟨?_, ?_, ?_, ?_, q1, ?_⟩, rfl, rfl, rfl, hl, rfl⟩
      · dsimp only; rw [hl]; exact h0
      · dsimp only; rw [hl]; exact h1
      · dsimp only; rw [hl]; exact h2
      · dsimp only; rw [hl]; exact h3
      · dsimp only; rw [hl]; exact q2
    · cases hk
  · cases hk
/-- S' is S with more known of the numbers -/
def ck_kn (S S' : ck_S) : Prop := S'.1 = S.1 ∧ S'.2.1 = S.2.1 ∧ S'.2.2.1 = S.2.2.1 ∧ S'.2.2.2.1.length = S.2.2.2.1.length ∧ S'.2.2.2.2.2 = S.2.2.2.2.2
theorem ck_kn.tr {S S1 S2 : ck_S} (h : ck_kn S S1) (h2 : ck_kn S1 S2) : ck_kn S S2 := ⟨h2.1.trans h.1, h2.2.1.trans h.2.1, h2.2.2.1.trans h.2.2.1, h2.2.2.2.1.trans h.2.2.2.1, h2.2.2.2.2.trans h.2.2.2.2⟩
theorem ck_weq_ok {nL : Nat} {SG : List Nat} {S : ck_S} {n : ck_N} {ws : va_W} {sh : List Nat} {sc : ck_sc} {ls : Array Slot} {vs : List Value} (h : ck_so nL SG S n ws sh sc ls vs) {a b : Nat} {k : ck_S → Bool} (hk : ck_weq a b S k = true) (hab : (n a).1 = (n b).1) :
    ∃ S' : ck_S, k S' = true ∧ ck_so nL SG S' n ws sh sc ls vs ∧ ck_kn S S' := by
  obtain ⟨S1, k1, o1, e1⟩ := ck_wle_ok h hk (by omega)
  obtain ⟨S2, k2, o2, e2⟩ := ck_wle_ok o1 k1 (by omega)
  exact ⟨S2, k2, o2, ck_kn.tr e1 e2⟩
theorem ck_wne_ok {nL : Nat} {SG : List Nat} {S : ck_S} {n : ck_N} {ws : va_W} {sh : List Nat} {sc : ck_sc} {ls : Array Slot} {vs : List Value} (h : ck_so nL SG S n ws sh sc ls vs) {F a b : Nat} {k : ck_S → Bool} (hk : ck_wne F a b S k = true) (hab : ¬ (n a).1 = (n b).1) :
    ∃ S' : ck_S, k S' = true ∧ ck_so nL SG S' n ws sh sc ls vs ∧ ck_kn S S' := by
  unfold ck_wne at hk
  split at hk
  · rename_i he
    have := ck_ent_ok h.2.2.2.2.1 h.2.2.2.2.2 F a b 0 he
    rw [Bool.or_eq_true] at hk
    rcases hk with hk | hk
    · have h2 := ck_ent_ok h.2.2.2.2.1 h.2.2.2.2.2 F b a 0 hk
      exact absurd (Int.le_antisymm (by omega) (by omega)) hab
    · exact ck_wle_ok h hk (by omega)
  · split at hk
    · rename_i he
      have := ck_ent_ok h.2.2.2.2.1 h.2.2.2.2.2 F b a 0 he
      exact ck_wle_ok h hk (by omega)
    · exact ⟨S, hk, h, rfl, rfl, rfl, rfl, rfl⟩
def ck_cm (cd : ClassFile.Cond) (x y : Int) : Prop := match cd with
  | .eq => x = y
  | .ne => ¬ x = y
  | .lt => x < y
  | .ge => y ≤ x
  | .gt => y < x
  | .le => x ≤ y
theorem ck_wc_ok {nL : Nat} {SG : List Nat} {S : ck_S} {n : ck_N} {ws : va_W} {sh : List Nat} {sc : ck_sc} {ls : Array Slot} {vs : List Value} (h : ck_so nL SG S n ws sh sc ls vs) {F a b : Nat} {cd : ClassFile.Cond} {kt kf : ck_S → Bool} (hk : ck_wc F cd a b S kt kf = true) :
    (ck_cm cd (n a).1 (n b).1 → ∃ S' : ck_S, kt S' = true ∧ ck_so nL SG S' n ws sh sc ls vs ∧ ck_kn S S') ∧ (¬ ck_cm cd (n a).1 (n b).1 → ∃ S' : ck_S, kf S' = true ∧ ck_so nL SG S' n ws sh sc ls vs ∧ ck_kn S S') := by
  unfold ck_wc at hk
  cases cd <;> (rw [Bool.and_eq_true] at hk; obtain ⟨k1, k2⟩ := hk; refine ⟨fun q => ?_, fun q => ?_⟩ <;> simp only [ck_cm] at q)
  · exact ck_weq_ok h k1 q
  · exact ck_wne_ok h k2 q
  · exact ck_wne_ok h k1 q
  · exact ck_weq_ok h k2 (by omega)
  · exact ck_wle_ok h k1 (by omega)
  · exact ck_wle_ok h k2 (by omega)
  · exact ck_wle_ok h k1 (by omega)
  · exact ck_wle_ok h k2 (by omega)
  · exact ck_wle_ok h k1 (by omega)
  · exact ck_wle_ok h k2 (by omega)
  · exact ck_wle_ok h k1 (by omega)
  · exact ck_wle_ok h k2 (by omega)
/-- looking up, storing -/
theorem ck_look_ok {ws : va_W} {sh : List Nat} {sc : ck_sc} {n : ck_N} {N nL : Nat} {loc : List (Nat × ck_V)} {ls : Array Slot} (h : ck_lo ws sh sc n N nL loc ls) {i : Nat} {v : ck_V} (hv : ck_look loc i = some v) : ∃ x, ls[i]? = some (.val x) ∧ ck_vo ws sh sc n N v x := by
  obtain ⟨lv, h1, h2⟩ := h
  unfold ck_look at hv
  cases hf : loc.find? (fun q => q.1 == i) with
  | none => rw [hf] at hv; cases hv
  | some q =>
    rw [hf] at hv
    have e : q.2 = v := Option.some.inj hv
    subst e
    have hm := List.mem_of_find?_eq_some hf
    have hp := List.find?_some hf
    have hi : q.1 = i := eq_of_beq hp
    obtain ⟨y, hy, e1, e2⟩ := ck_two.mem h2 hm
    exact ⟨y.2, by rw [← hi, e1]; exact h1.2.2 y hy, e2⟩
theorem ck_cat_ok {ws : va_W} {sh : List Nat} {sc : ck_sc} {n : ck_N} {N : Nat} {av : ck_V} {v : Value} (h : ck_vo ws sh sc n N av v) : v.category = ck_cat av := h.cat
theorem ck_flt1 {ws : va_W} {sh : List Nat} {sc : ck_sc} {n : ck_N} {N : Nat} {i : Nat} (x : Nat × ck_V) (y : Nat × Value) (h : x.1 = y.1 ∧ ck_vo ws sh sc n N x.2 y.2) : (!(x.1 == i) && !(x.1 + 1 == i && ck_cat x.2 == 2)) = (!(y.1 == i) && !(y.1 + 1 == i && y.2.category == 2)) := by
  rw [h.1, ck_cat_ok h.2]
theorem ck_flt2 {ws : va_W} {sh : List Nat} {sc : ck_sc} {n : ck_N} {N : Nat} {i : Nat} (x : Nat × ck_V) (y : Nat × Value) (h : x.1 = y.1 ∧ ck_vo ws sh sc n N x.2 y.2) : (!(x.1 == i) && (!(x.1 == i + 1) && !(x.1 + 1 == i && ck_cat x.2 == 2))) = (!(y.1 == i) && (!(y.1 == i + 1) && !(y.1 + 1 == i && y.2.category == 2))) := by
  rw [h.1, ck_cat_ok h.2]
end
section
/-! patterns are met -/
def ck_pl (g : List Nat) (n : ck_N) : ck_N := fun k => n (g.getD k 0)
theorem ck_pl_pre {g t : List Nat} {n : ck_N} : ∀ k, k < g.length → ck_pl (g ++ t) n k = ck_pl g n k := by
  intro k hk
  simp only [ck_pl, List.getD_eq_getElem?_getD]
  rw [List.getElem?_append_left hk]
theorem ck_tg_ok {ws : va_W} {sh : List Nat} {sc : ck_sc} {n n' : ck_N} {N N' : Nat} {p v : ck_V} {x : Value} (h : ck_tg p v = true) (hv : ck_vo ws sh sc n N v x) (he : n' p.2.1 = n v.2.1) (hl : p.2.1 < N') : ck_vo ws sh sc n' N' p x := by
  unfold ck_tg at h
  unfold ck_vo at hv ⊢
  refine ⟨hl, ?_⟩
  have hv := hv.2
  rw [he]
  split at h
  · rename_i hp
    rw [eq_of_beq h] at hv
    rw [hp]
    exact hv
  · rename_i hp
    rw [eq_of_beq h] at hv
    rw [hp]
    exact hv
  · rename_i hp
    rw [Bool.and_eq_true] at h
    rw [eq_of_beq h.1] at hv
    rw [hp]
    exact ⟨hv.1, hv.2.sub fun t ht => by have := List.all_eq_true.mp h.2 t ht; exact List.contains_iff_mem.mp this⟩
  · rename_i hp
    rw [hp]
    rw [Bool.or_eq_true, Bool.and_eq_true, Bool.or_eq_true] at h
    rcases h with h | ⟨h | h, h2⟩
    · rw [eq_of_beq h] at hv
      exact ⟨hv.1, Or.inl hv.2⟩
    · rw [eq_of_beq h] at hv
      exact ⟨hv.1, Or.inr (hv.2.sub fun t ht => by have := List.all_eq_true.mp h2 t ht; exact List.contains_iff_mem.mp this)⟩
    · rw [eq_of_beq h] at hv
      exact ⟨hv.1, hv.2.imp id (·.sub fun t ht => by have := List.all_eq_true.mp h2 t ht; exact List.contains_iff_mem.mp this)⟩
  · rename_i hp
    rw [eq_of_beq h] at hv
    rw [hp]
    exact hv
  · rename_i hp
    rw [eq_of_beq h] at hv
    rw [hp]
    exact hv
  · cases h
theorem ck_mv_ok {ws : va_W} {sh : List Nat} {sc : ck_sc} {n : ck_N} {N : Nat} {g g1 : List Nat} {p v : ck_V} {x : Value} (h : ck_mv g p v = some g1) (hv : ck_vo ws sh sc n N v x) (hg : ∀ s ∈ g, s < N) :
    (∃ t, g1 = g ++ t) ∧ (∀ s ∈ g1, s < N) ∧ ck_vo ws sh sc (ck_pl g1 n) g1.length p x := by
  unfold ck_mv at h
  split at h
  · rename_i ht
    split at h
    · rename_i hp
      have e := Option.some.inj h
      subst e
      refine ⟨⟨_, rfl⟩, fun s hs => ?_, ck_tg_ok ht hv ?_ ?_⟩
      · rcases List.mem_append.mp hs with q | q
        · exact hg s q
        · rw [List.mem_singleton.mp q]; exact hv.1
      · simp [ck_pl, hp]
      · simp [hp]
    · split at h
      · rename_i hp
        have e := Option.some.inj h
        subst e
        refine ⟨⟨[], by simp⟩, hg, ck_tg_ok ht hv ?_ (List.getElem?_eq_some_iff.mp hp).1⟩
        simp [ck_pl, List.getD_eq_getElem?_getD, hp]
      · cases h
  · cases h
theorem ck_mvs_ok {ws : va_W} {sh : List Nat} {sc : ck_sc} {n : ck_N} {N : Nat} : ∀ {ps vs : List ck_V} {xs : List Value} {g g1 : List Nat}, ck_mvs g ps vs = some g1 → ck_two (ck_vo ws sh sc n N) vs xs → (∀ s ∈ g, s < N) →
    (∃ t, g1 = g ++ t) ∧ (∀ s ∈ g1, s < N) ∧ ck_two (ck_vo ws sh sc (ck_pl g1 n) g1.length) ps xs
  | [], [], [], g, g1, h, _, hg => by
    have e := Option.some.inj h
    subst e
    exact ⟨⟨[], by simp⟩, hg, trivial⟩
  | p :: ps, v :: vs, x :: xs, g, g1, h, hv, hg => by
    rw [ck_mvs] at h
    split at h
    · rename_i g2 h2
      obtain ⟨⟨t, rfl⟩, a2, a3⟩ := ck_mv_ok h2 hv.1 hg
      obtain ⟨⟨u, rfl⟩, b2, b3⟩ := ck_mvs_ok h hv.2 a2
      exact ⟨⟨t ++ u, by rw [List.append_assoc]⟩, b2, a3.up ck_pl_pre (by simp), b3⟩
    · cases h
  | [], [], _ :: _, _, _, _, hv, _ => hv.elim
  | [], _ :: _, _, _, _, h, _, _ => by cases h
  | _ :: _, [], _, _, _, h, _, _ => by cases h
  | _ :: _, _ :: _, [], _, _, _, hv, _ => hv.elim
theorem ck_eq2_ok {F : Nat} {E : ck_E} {R : List ck_R} {n : ck_N} {N : Nat} (hE : ck_eo E n) (hR : ck_ro R n N) {a b : Nat} (h : ck_eq2 F E R a b = true) : (n a).1 = (n b).1 := by
  unfold ck_eq2 at h
  rw [Bool.or_eq_true, Bool.and_eq_true] at h
  rcases h with h | ⟨h1, h2⟩
  · rw [eq_of_beq h]
  · have p1 := ck_ent_ok hE hR F a b _ h1
    have p2 := ck_ent_ok hE hR F b a _ h2
    omega
theorem ck_nl_ok {F : Nat} {E : ck_E} {R : List ck_R} {n : ck_N} {N : Nat} (hE : ck_eo E n) (hR : ck_ro R n N) : ∀ {l l' g g1 : List Nat}, ck_nl F E R g l l' = some g1 → (∀ s ∈ g, s < N) → (∀ s ∈ l', s < N) →
    (∃ t, g1 = g ++ t) ∧ (∀ s ∈ g1, s < N) ∧ (∀ s ∈ l, s < g1.length) ∧ l.map (fun j => (ck_pl g1 n j).1) = l'.map (fun j => (n j).1)
  | [], [], g, g1, h, hg, _ => by
    have e := Option.some.inj h
    subst e
    exact ⟨⟨[], by simp⟩, hg, fun s hs => (by cases hs), rfl⟩
  | x :: xs, y :: ys, g, g1, h, hg, hl => by
    rw [ck_nl] at h
    have hl' : ∀ s ∈ ys, s < N := fun s hs => hl s (List.mem_cons_of_mem _ hs)
    split at h
    · rename_i hx
      obtain ⟨⟨t, rfl⟩, b2, b3, b4⟩ := ck_nl_ok hE hR h (fun s hs => by
        rcases List.mem_append.mp hs with q | q
        · exact hg s q
        · rw [List.mem_singleton.mp q]; exact hl y List.mem_cons_self) hl'
      refine ⟨⟨y :: t, by simp⟩, b2, fun s hs => ?_, ?_⟩
      · rcases List.mem_cons.mp hs with rfl | hs
        · simp [hx]
        · exact b3 s hs
      · rw [List.map_cons, List.map_cons, b4]
        congr 2
        show n _ = n _
        congr 1
        rw [hx, List.getD_eq_getElem?_getD, List.append_assoc, List.getElem?_append_right (Nat.le_refl _)]
        simp
    · split at h
      · rename_i a ha
        split at h
        · rename_i he
          obtain ⟨⟨t, rfl⟩, b2, b3, b4⟩ := ck_nl_ok hE hR h hg hl'
          have hlt := (List.getElem?_eq_some_iff.mp ha).1
          refine ⟨⟨t, rfl⟩, b2, fun s hs => ?_, ?_⟩
          · rcases List.mem_cons.mp hs with rfl | hs
            · rw [List.length_append]; omega
            · exact b3 s hs
          · rw [List.map_cons, List.map_cons, b4]
            congr 1
            rw [← ck_eq2_ok hE hR he]
            show (n _).1 = _
            congr 2
            rw [List.getD_eq_getElem?_getD, List.getElem?_append_left hlt, ha]
            rfl
        · cases h
      · cases h
  | [], _ :: _, _, _, h, _, _ => by cases h
  | _ :: _, [], _, _, h, _, _ => by cases h
theorem ck_ntg_ok {F : Nat} {E : ck_E} {R : List ck_R} {n : ck_N} {N : Nat} (hE : ck_eo E n) (hR : ck_ro R n N) (h0 : (n 0).1 = 0) {tag : Nat} {v : ck_V} {f : Nat → Int32} (h : ck_ntg F E R tag v = true) (hn : ck_nt v.1 f (n v.2.1).1 (v.2.2.map (fun j => (n j).1))) : ck_nt tag f (n v.2.1).1 (v.2.2.map (fun j => (n j).1)) := by
  unfold ck_ntg at h
  rw [Bool.or_eq_true, Bool.and_eq_true, decide_eq_true_eq] at h
  rcases h with h | ⟨⟨hq1, hq2⟩, h⟩
  · rw [eq_of_beq h]
    exact hn
  unfold ck_nt at hn ⊢
  rw [if_pos hq2] at hn
  rw [if_pos hq1]
  rw [Bool.or_eq_true, decide_eq_true_eq, Bool.or_eq_true, Bool.and_eq_true] at h
  revert hn
  generalize hl : v.2.2.map (fun j => (n j).1) = l
  intro hn
  unfold ck_ng at hn ⊢
  split at hn
  · rename_i c o
    obtain ⟨n1, n2, n3, n4, n5, n6, n7⟩ := hn
    refine ⟨n1, n2, n3, n4, n5, fun ht hm => ?_, fun ht => ?_⟩
    · rcases h with h | ⟨h1, h2⟩ | h
      · exact n6 (Nat.le_trans ht h) hm
      · have p := ck_ent_ok hE hR F _ _ _ h2
        rw [h0] at p
        omega
      · simp only [Bool.and_eq_true, beq_iff_eq] at h
        exact n6 (by rw [h.2.1]; decide) hm
    · rcases h with h | ⟨h1, h2⟩ | h
      · exact n7 (Nat.le_trans ht h)
      · rw [eq_of_beq h1] at ht
        exact absurd ht (by decide)
      · simp only [Bool.and_eq_true, beq_iff_eq] at h
        obtain ⟨-, h1, h2, h3⟩ := h
        have p := ck_ent_ok hE hR F _ _ _ h2
        rw [h0] at p
        have hm : 0 < (n v.2.1).1.toNat := by omega
        refine ⟨hm, ?_⟩
        split at h3
        · rename_i a b hab
          rw [hab] at hl
          have p2 := ck_ent_ok hE hR F _ _ _ h3
          rw [h0] at p2
          have eo : (n b).1 = o := by
            have := congrArg (fun z : List Int => z[1]?) hl
            simpa using this
          have nz : ck_cn (fun x => x == 40) f (n v.2.1).1.toNat = 0 := by omega
          obtain ⟨k, hk⟩ : ∃ k, (n v.2.1).1.toNat = k + 1 := ⟨(n v.2.1).1.toNat - 1, by omega⟩
          rw [hk] at nz n4 n6 ⊢
          have n6 := n6 (by rw [h1]; decide) (Nat.succ_pos _)
          rw [Nat.add_sub_cancel] at n6 ⊢
          rcases n4 k (Nat.lt_succ_self _) with z | z | z
          · exact z
          · unfold ck_cn at nz
            rw [z] at nz
            simp at nz
          · exact absurd z n6
        · cases h3
  · exact hn.elim
theorem ck_mms_ok {SG : List Nat} {ws : va_W} {sh : List Nat} {sc : ck_sc} {n : ck_N} {N : Nat} {mem : List ck_M} {F : Nat} {E : ck_E} {R : List ck_R} (hE : ck_eo E n) (hR : ck_ro R n N) (h0 : (n 0).1 = 0) (hm : ck_mo SG ws sh sc n N mem) : ∀ {ps : List ck_M} {g g1 : List Nat}, ck_mms F E R mem g ps = some g1 → (∀ s ∈ g, s < N) →
    (∃ t, g1 = g ++ t) ∧ (∀ s ∈ g1, s < N) ∧ ck_mo SG ws sh sc (ck_pl g1 n) g1.length ps
  | [], g, g1, h, hg => by
    have e := Option.some.inj h
    subst e
    exact ⟨⟨[], by simp⟩, hg, fun x hx => by cases hx⟩
  | p :: ps, g, g1, h, hg => by
    rw [ck_mms] at h
    split at h
    · rename_i h20
      split at h
      · rename_i g2 hf
        obtain ⟨m, hmem, h2⟩ := List.exists_of_findSome?_eq_some hf
        unfold ck_nm at h2
        split at h2
        · rename_i hc
          simp only [Bool.and_eq_true, beq_iff_eq, decide_eq_true_eq] at hc
          obtain ⟨e1, e2, e3, e4, e5⟩ := hc
          rcases hm m hmem with ⟨-, -, ⟨z, -⟩ | ⟨z, -⟩⟩ | ⟨-, -, q, a', o, v, -, -, -, c4⟩ | ⟨c0, c1, c2, c3, c4, c5, q, a', cA, len, f, c6, c7, c8⟩
          · omega
          · omega
          · exfalso
            unfold ck_vo at c4
            have c4 := c4.2
            split at c4 <;> omega
          · obtain ⟨⟨t, rfl⟩, a2, a3, a4⟩ := ck_nl_ok hE hR h2 hg (fun s hs => by
              rcases List.mem_cons.mp hs with rfl | hs
              · exact c4
              · exact c5 s hs)
            obtain ⟨⟨u, rfl⟩, b2, b3⟩ := ck_mms_ok hE hR h0 hm h a2
            rw [List.map_cons, List.map_cons, List.cons.injEq] at a4
            have hlt := a3 p.2.2.2.1 List.mem_cons_self
            have a3' : ∀ j ∈ p.2.2.2.2, j < (g ++ t).length := fun j hj => a3 j (List.mem_cons_of_mem _ hj)
            have hps : (ck_pl (g ++ t ++ u) n p.2.2.2.1).1 = (n m.2.2.2.1).1 := by rw [ck_pl_pre _ hlt]; exact a4.1
            refine ⟨⟨t ++ u, by rw [List.append_assoc]⟩, b2, fun x hx => ?_⟩
            rcases List.mem_cons.mp hx with rfl | hx
            · refine Or.inr (Or.inr ⟨h20, by rw [← e1]; exact c1, by rw [← e1]; exact c2, e3, Nat.lt_of_lt_of_le hlt (by simp), fun j hj => Nat.lt_of_lt_of_le (a3' j hj) (by simp), q, a', cA, len, f, by rw [← e1]; exact c6, c7, ?_⟩)
              rw [hps, List.map_congr_left (g := fun j => (ck_pl (g ++ t) n j).1) (fun j hj => by rw [ck_pl_pre j (a3' j hj)]), a4.2]
              exact ck_ntg_ok hE hR h0 e5 c8
            · exact b3 x hx
        · cases h2
      · cases h
    split at h
    · rename_i m hf
      split at h
      · rename_i g2 h2
        have hmem := List.mem_of_find?_eq_some hf
        have hp := List.find?_some hf
        simp only [Bool.and_eq_true, Bool.not_eq_true', beq_eq_false_iff_ne, ne_eq, beq_iff_eq] at hp
        obtain ⟨e1, e2, e3⟩ := hp
        rcases hm m hmem with ⟨z, -⟩ | ⟨-, hg0, q, a, o, v, c1, c2, c3, c4⟩ | ⟨c0, -⟩
        · exact absurd z e3
        rotate_left
        · exfalso
          unfold ck_mv at h2
          split at h2
          · rename_i ht
            unfold ck_tg at ht
            split at ht <;> first | (cases ht; done) | (simp only [Bool.and_eq_true, Bool.or_eq_true, beq_iff_eq] at ht; omega)
          · cases h2
        obtain ⟨⟨t, rfl⟩, a2, a3⟩ := ck_mv_ok h2 c4 hg
        obtain ⟨⟨u, rfl⟩, b2, b3⟩ := ck_mms_ok hE hR h0 hm h a2
        refine ⟨⟨t ++ u, by rw [List.append_assoc]⟩, b2, fun x hx => ?_⟩
        rcases List.mem_cons.mp hx with rfl | hx
        · exact Or.inr (Or.inl ⟨by rw [← e1]; exact e3, by rw [← e1]; exact hg0, q, a, o, v, by rw [← e1]; exact c1, c2, by rw [← e2]; exact c3, a3.up ck_pl_pre (by simp)⟩)
        · exact b3 x hx
      · cases h
    · cases h
theorem ck_ce_ok {F : Nat} {E : ck_E} {R : List ck_R} {n : ck_N} {N : Nat} (hE : ck_eo E n) (hR : ck_ro R n N) (h0 : (n 0).1 = 0) : ∀ {g : List Nat} {l : ck_E}, ck_ce F E R g l = true → ck_eo l (ck_pl g n)
  | _, [], _ => fun k x hx => by simp at hx
  | [], _ :: _, h => by cases h
  | s :: g, y :: l, h => by
    rw [ck_ce, Bool.and_eq_true, Bool.or_eq_true, Bool.and_eq_true] at h
    intro k x hx hle
    cases k with
    | zero =>
      rw [List.getElem?_cons_zero, Option.some.injEq] at hx
      subst hx
      rcases h.1 with q | ⟨q1, q2⟩
      · exact absurd hle (by have := of_decide_eq_true q; omega)
      · have p1 := ck_ent_ok hE hR F s 0 _ q1
        have p2 := ck_ent_ok hE hR F 0 s _ q2
        rw [h0] at p1 p2
        show _ ≤ (n s).1 ∧ (n s).1 ≤ _
        omega
    | succ k =>
      rw [List.getElem?_cons_succ] at hx
      exact ck_ce_ok hE hR h0 h.2 k x hx hle
theorem ck_ce_len {F : Nat} {E : ck_E} {R : List ck_R} : ∀ {g : List Nat} {l : ck_E}, ck_ce F E R g l = true → l.length ≤ g.length
  | _, [], _ => Nat.zero_le _
  | [], _ :: _, h => by cases h
  | s :: g, y :: l, h => by
    rw [ck_ce, Bool.and_eq_true] at h
    exact Nat.succ_le_succ (ck_ce_len h.2)
theorem ck_cr_ok {F : Nat} {E : ck_E} {R : List ck_R} {n : ck_N} {N : Nat} (hE : ck_eo E n) (hR : ck_ro R n N) {g : List Nat} {rs : List ck_R} (h : ck_cr F E R g rs = true) : ck_ro rs (ck_pl g n) g.length := by
  intro r hr
  have h1 := List.all_eq_true.mp h r hr
  split at h1
  · rename_i a b ha hb
    refine ⟨(List.getElem?_eq_some_iff.mp ha).1, (List.getElem?_eq_some_iff.mp hb).1, ?_⟩
    have := ck_ent_ok hE hR F a b _ h1
    simpa [ck_pl, List.getD_eq_getElem?_getD, ha, hb] using this
  · cases h1
/-- a pattern is met by a valuation, and these values -/
def ck_po (SG : List Nat) (ws : va_W) (sh : List Nat) (sc : ck_sc) (n : ck_N) (N : Nat) (P : ck_P) (xs : List Value) : Prop :=
  ck_two (ck_vo ws sh sc n N) P.1 xs ∧ ck_mo SG ws sh sc n N P.2.1 ∧ ck_eo P.2.2.1 n ∧ ck_ro P.2.2.2 n N
theorem ck_mt_ok {nL : Nat} {SG : List Nat} {S : ck_S} {n : ck_N} {ws : va_W} {sh : List Nat} {sc : ck_sc} {ls : Array Slot} {ss : List Value} (h : ck_so nL SG S n ws sh sc ls ss) {F : Nat} {g0 g : List Nat} {vs : List ck_V} {P : ck_P} {xs : List Value} (hm : ck_mt F S g0 vs P = some g)
    (hv : ck_two (ck_vo ws sh sc n S.2.2.2.1.length) vs xs) (hg : ∀ s ∈ g0, s < S.2.2.2.1.length) :
    (∃ t, g = g0 ++ t) ∧ (∀ s ∈ g, s < S.2.2.2.1.length) ∧ ck_po SG ws sh sc (ck_pl g n) g.length P xs := by
  unfold ck_mt at hm
  split at hm
  · rename_i g1 h1
    obtain ⟨⟨t, rfl⟩, a2, a3⟩ := ck_mvs_ok h1 hv hg
    split at hm
    · rename_i g2 h2
      obtain ⟨⟨u, rfl⟩, b2, b3⟩ := ck_mms_ok h.2.2.2.2.1 h.2.2.2.2.2 h.1.2 h.2.2.2.1 h2 a2
      split at hm
      · rename_i h3
        have e := Option.some.inj hm
        subst e
        rw [Bool.and_eq_true] at h3
        exact ⟨⟨t ++ u, by rw [List.append_assoc]⟩, b2, a3.imp (fun a b hab => hab.up ck_pl_pre (by simp)), b3, ck_ce_ok h.2.2.2.2.1 h.2.2.2.2.2 h.1.2 h3.1, ck_cr_ok h.2.2.2.2.1 h.2.2.2.2.2 h3.2⟩
      · cases hm
    · cases hm
  · cases hm
/-- a sum, a difference .. -/
theorem ck_same_ok {R : List ck_R} {n : ck_N} {N : Nat} (hR : ck_ro R n N) {a k : Nat} {c : Int} (h : ck_same R a c = some k) : k < N ∧ (n k).1 = (n a).1 + c := by
  unfold ck_same at h
  cases hf : R.find? (fun r => r.2.1 == a && (r.2.2 == c && R.any (fun q => q.1 == a && (q.2.1 == r.1 && q.2.2 == -c)))) with
  | none => rw [hf] at h; cases h
  | some r =>
    rw [hf] at h
    have e : r.1 = k := Option.some.inj h
    have hm := List.mem_of_find?_eq_some hf
    have hp := List.find?_some hf
    simp only [Bool.and_eq_true, beq_iff_eq, List.any_eq_true] at hp
    obtain ⟨e1, e2, q, hq, e3, e4, e5⟩ := hp
    have h1 := hR r hm
    have h2 := (hR q hq).2.2
    rw [e3, e4, e5] at h2
    have h3 := h1.2.2
    rw [e1, e2] at h3
    subst e
    exact ⟨h1.1, by omega⟩
theorem ck_binS_ok {nL : Nat} {SG : List Nat} {S S' : ck_S} {n : ck_N} {ws : va_W} {sh : List Nat} {sc : ck_sc} {ls : Array Slot} {ss vs : List Value} {st : List ck_V} (h : ck_so nL SG S n ws sh sc ls ss) (hs : ck_two (ck_vo ws sh sc n S.2.2.2.1.length) st vs)
    {w op tag a b : Nat} (hb : ck_binS w op S st tag a b = some S') (ha : a < S.2.2.2.1.length) (hbl : b < S.2.2.2.1.length) {v : Value} {Z : Int}
    (hz : ∀ x y : Int × Int, ck_in x (n a).1 → ck_in y (n b).1 → ck_in (ck_bin w op x y) Z ∧ (op = 0 → ((ck_bin w op x y).1 = x.1 + y.1 ∧ (ck_bin w op x y).2 = x.2 + y.2) → Z = (n a).1 + (n b).1) ∧ (op = 1 → ((ck_bin w op x y).1 = x.1 - y.2 ∧ (ck_bin w op x y).2 = x.2 - y.1) → Z = (n a).1 - (n b).1) ∧ (op = 6 → (1 ≤ x.1 ∧ y.1 = y.2 ∧ 1 ≤ y.1 ∧ (ck_bin w op x y).1 = x.1 * 2 ^ y.1.toNat ∧ (ck_bin w op x y).2 = x.2 * 2 ^ y.2.toNat) → (n a).1 + 1 ≤ Z))
    (h3 : op = 3 → 0 ≤ (n b).1 → Z ≤ (n b).1) (h4 : op = 4 → 0 ≤ (n a).1 → 0 ≤ (n b).1 → (n a).1 ≤ Z) (hv : ∀ (m : ck_N) (M k : Nat), k < M → (m k).1 = Z → ck_vo ws sh sc m M (tag, k, []) v) :
    ∃ n', ck_so nL SG S' n' ws sh sc ls (v :: vs) ∧ S'.2.2.2.2.2 = S.2.2.2.2.2 ∧ (∀ k, k < S.2.2.2.1.length → n' k = n k) ∧ S.2.2.2.1.length ≤ S'.2.2.2.1.length := by
  unfold ck_binS at hb
  split at hb
  · rename_i x y hx hy
    split at hb
    · rename_i hxy
      have ix := h.2.2.2.2.1 a x hx hxy.1
      have iy := h.2.2.2.2.1 b y hy hxy.2
      obtain ⟨z1, z2, z3, z6⟩ := hz x y ix iy
      dsimp only at hb
      split at hb
      · rename_i k hk
        have e := Option.some.inj hb
        subst e
        split at hk
        · rename_i hc
          obtain ⟨q1, q2⟩ := ck_same_ok h.2.2.2.2.2 hk
          have hzz := z2 hc.1 hc.2.2
          have hbv : (n b).1 = y.1 := by have := iy.1; have := iy.2; have := hc.2.1; omega
          exact ⟨n, h.ss ⟨hv n _ k q1 (by rw [q2, hzz, hbv]), hs⟩, rfl, fun _ _ => rfl, Nat.le_refl _⟩
        · cases hk
      · have e := Option.some.inj hb
        subst e
        refine ⟨ck_nx n S.2.2.2.1.length (Z, .null), h.new hs (hv _ _ _ (Nat.lt_succ_self _) (by rw [ck_nx_eq])) (fun _ => z1) ?_, rfl, ck_nx_lt, by simp [ck_new]⟩
        intro q hq
        obtain ⟨r1, r2, r3⟩ := ck_rel_ok (v := fun k => (ck_nx n S.2.2.2.1.length (Z, .null) k).1) ix iy z2 z3 h3 h4 z6 (by rw [ck_nx_lt a ha]) (by rw [ck_nx_lt b hbl]) (by rw [ck_nx_eq]) q hq
        refine ⟨?_, ?_, r3⟩
        · rcases r1 with e | e | e <;> omega
        · rcases r2 with e | e | e <;> omega
    · cases hb
  · cases hb
end
section
/-! the step is sound: the goal at a place, and what holds all along a method -/
/-- the room that was used before: what a method's own count doesn't hold -/
def ck_oc (R : Room) (M : ck_Me) : Nat := R.cells - (mRm M).1
def ck_os (R : Room) (M : ck_Me) : Nat := R.slots - (mRm M).2
theorem ck_ocl {R : Room} {M : ck_Me} {k n : Nat} (h : (mRm M).1 ≤ R.cells) (h2 : k + n ≤ (mRm M).1) : ck_oc R M + k + n ≤ R.cells := by
  unfold ck_oc
  omega
theorem ck_osl {R : Room} {M : ck_Me} {k n : Nat} (h : (mRm M).2 ≤ R.slots) (h2 : k + n ≤ (mRm M).2) : ck_os R M + k + n ≤ R.slots := by
  unfold ck_os
  omega
def ck_g (p : Program) (l : Launch) (e : Env) (R : Room) (s : State) (m : MethodId) (args : Array Value) (below : List Frame) (meth : Method) (c : Code) (Q : State → Prop) (D : va_G) (cl : List vw_C) (tys : List (ClassId × FieldType)) (M : ck_Me) (sc : ck_sc) (A : Nat → Prop) (ws0 : va_W) (sh0 : List Nat) (S : ck_S) (pc : Nat) : Prop :=
  ∀ (n : ck_N) (ws : va_W) (sh : List Nat) (H : Heap) (locs : List Loc) (ls : Array Slot) (vs : List Value), ck_so (mnL M) (mSG M) S n ws sh sc ls vs → ck_wo tys (mTT M) (mSG M) ws sh → ck_ex (mWr M) ws0 sh0 ws sh → va_P D cl ws H → va_D A ws → va_S A s.heap H locs →
    W p l e R s m args below meth c H locs (ck_oc R M + S.2.2.2.2.2.1) (ck_os R M + S.2.2.2.2.2.2) Q (F0 m pc ls vs)
def ck_cx (p : Program) (l : Launch) (e : Env) (R : Room) (s : State) (m : MethodId) (args : Array Value) (below : List Frame) (meth : Method) (c : Code) (cc : ByteArray) (own : String) (D : va_G) (cl : List vw_C) (tys : List (ClassId × FieldType)) (M : ck_Me) (sc : ck_sc) (A : Nat → Prop) : Prop :=
  p.tables.exec = Jvm.exec ∧ c.code = cc ∧ s.vm.findClass own = some m.cls ∧ va_K D cl tys s ∧ (∀ q, s.heap.size ≤ q → A q) ∧ c.maxLocals = mnL M ∧ ((mRm M).1 ≤ R.cells ∧ (mRm M).2 ≤ R.slots) ∧ meth.locks = false ∧
  (∀ (b L : Nat) (xs : Nat → Int32), sc.1 = some (b, L, xs) → va_X b L xs s s.heap ∧ b < s.heap.size ∧ ¬ A b ∧ L < 2147483648) ∧
  ∀ w : Nat, sc.2.1 = some w → va_Z "ReasonDesk$Bits" "WITH" "[J" (.ref w) A s s.heap ∧ ∃ f : Nat → Int64, va_T .long w 6 (fun j => .long (f j)) A s s.heap
section
variable {p : Program} {l : Launch} {e : Env} {R : Room} {s : State} {m : MethodId} {args : Array Value} {below : List Frame} {meth : Method} {c : Code} {Q : State → Prop} {cc : ByteArray} {own : String} {D : va_G} {cl : List vw_C} {tys : List (ClassId × FieldType)} {M : ck_Me} {sc : ck_sc} {A : Nat → Prop} {ws0 : va_W} {sh0 : List Nat} {kr : Nat → ck_S → Bool} {k : ck_S → Bool} {S : ck_S} {pc pc' : Nat}
theorem ck_lt0 {b a : ck_V} {st : List ck_V} {ws : va_W} {sh : List Nat} {n : ck_N} {N : Nat} {vs : List Value} (h : ck_two (ck_vo ws sh sc n N) (b :: st) vs) : ∃ v vs', vs = v :: vs' ∧ ck_vo ws sh sc n N b v ∧ ck_two (ck_vo ws sh sc n N) st vs' := by
  cases vs with
  | nil => exact h.elim
  | cons v vs' => exact ⟨v, vs', rfl, h.1, h.2⟩
theorem ck_hd {b : ck_V} {st : List ck_V} {ws : va_W} {sh : List Nat} {n : ck_N} {N : Nat} {vs : List Value} (h : ck_two (ck_vo ws sh sc n N) (b :: st) vs) : ∃ v vs', vs = v :: vs' ∧ ck_vo ws sh sc n N b v ∧ ck_two (ck_vo ws sh sc n N) st vs' := by
  cases vs with
  | nil => exact h.elim
  | cons v vs' => exact ⟨v, vs', rfl, h.1, h.2⟩
theorem ck_vo.i {ws : va_W} {sh : List Nat} {n : ck_N} {N : Nat} {b : ck_V} {v : Value} (h : ck_vo ws sh sc n N b v) (e : b.1 = 0) : b.2.1 < N ∧ ∃ x : Int32, v = .int x ∧ x.toInt = (n b.2.1).1 := by
  unfold ck_vo at h
  rw [e] at h
  exact h
theorem ck_vo.j {ws : va_W} {sh : List Nat} {n : ck_N} {N : Nat} {b : ck_V} {v : Value} (h : ck_vo ws sh sc n N b v) (e : b.1 = 1) : b.2.1 < N ∧ ∃ x : Int64, v = .long x ∧ x.toInt = (n b.2.1).1 := by
  unfold ck_vo at h
  rw [e] at h
  exact h
theorem ck_vo.r {ws : va_W} {sh : List Nat} {n : ck_N} {N : Nat} {b : ck_V} {v : Value} (h : ck_vo ws sh sc n N b v) (e : b.1 = 2) : b.2.1 < N ∧ v = (n b.2.1).2 ∧ ck_rf ws sh b.2.2 v := by
  unfold ck_vo at h
  rw [e] at h
  exact h
theorem ck_vo.mi {ws : va_W} {sh : List Nat} {n : ck_N} {N k : Nat} {ts : List Nat} {x : Int32} (hk : k < N) (h : x.toInt = (n k).1) : ck_vo ws sh sc n N (0, k, ts) (.int x) := ⟨hk, x, rfl, h⟩
theorem ck_vo.ml {ws : va_W} {sh : List Nat} {n : ck_N} {N k : Nat} {ts : List Nat} {x : Int64} (hk : k < N) (h : x.toInt = (n k).1) : ck_vo ws sh sc n N (1, k, ts) (.long x) := ⟨hk, x, rfl, h⟩
/-- a row that puts a number on the stack -/
theorem ck_push {st : List ck_V} {tag : Nat} {iv : Int × Int} {vs0 : List Value} {n : ck_N} {ws : va_W} {sh : List Nat} {H : Heap} {locs : List Loc} {ls : Array Slot} {vs : List Value} {v : Value} {z : Int} (hk : ck_g p l e R s m args below meth c Q D cl tys M sc A ws0 sh0 (ck_new S st tag [] iv []) pc)
    (o : ck_so (mnL M) (mSG M) S n ws sh sc ls vs) (hw : ck_wo tys (mTT M) (mSG M) ws sh) (hx : ck_ex (mWr M) ws0 sh0 ws sh) (hP : va_P D cl ws H) (hD : va_D A ws) (hS : va_S A s.heap H locs) (hst : ck_two (ck_vo ws sh sc n S.2.2.2.1.length) st vs0)
    (hiv : ck_in iv z) (hv : ∀ (m : ck_N) (N k : Nat), k < N → (m k).1 = z → ck_vo ws sh sc m N (tag, k, []) v) : W p l e R s m args below meth c H locs (ck_oc R M + S.2.2.2.2.2.1) (ck_os R M + S.2.2.2.2.2.2) Q (F0 m pc ls (v :: vs0)) :=
  hk _ ws sh H locs ls _ (o.new hst (x := (z, .null)) (hv _ _ _ (Nat.lt_succ_self _) (by rw [ck_nx_eq])) (fun _ => hiv) (fun r hr => by cases hr)) hw hx hP hD hS
theorem ck_cstI {v : Int} {x : Int32} (hx : x.toInt = v) (hk : ck_g p l e R s m args below meth c Q D cl tys M sc A ws0 sh0 (ck_cst S 0 v) pc') (row : ∀ (H : Heap) (locs : List Loc) (ls : Array Slot) (vs : List Value), W p l e R s m args below meth c H locs (ck_oc R M + S.2.2.2.2.2.1) (ck_os R M + S.2.2.2.2.2.2) Q (F0 m pc' ls (.int x :: vs)) → W p l e R s m args below meth c H locs (ck_oc R M + S.2.2.2.2.2.1) (ck_os R M + S.2.2.2.2.2.2) Q (F0 m pc ls vs)) : ck_g p l e R s m args below meth c Q D cl tys M sc A ws0 sh0 S pc :=
  fun n ws sh H locs ls vs o hw hx1 hP hD hS => row H locs ls vs (ck_push hk o hw hx1 hP hD hS o.2.2.1 ⟨Int.le_refl _, Int.le_refl _⟩ (fun _ _ _ h1 h2 => .mi h1 (by rw [h2]; exact hx)))
theorem ck_cstL {v : Int} {x : Int64} (hx : x.toInt = v) (hk : ck_g p l e R s m args below meth c Q D cl tys M sc A ws0 sh0 (ck_cst S 1 v) pc') (row : ∀ (H : Heap) (locs : List Loc) (ls : Array Slot) (vs : List Value), W p l e R s m args below meth c H locs (ck_oc R M + S.2.2.2.2.2.1) (ck_os R M + S.2.2.2.2.2.2) Q (F0 m pc' ls (.long x :: vs)) → W p l e R s m args below meth c H locs (ck_oc R M + S.2.2.2.2.2.1) (ck_os R M + S.2.2.2.2.2.2) Q (F0 m pc ls vs)) : ck_g p l e R s m args below meth c Q D cl tys M sc A ws0 sh0 S pc :=
  fun n ws sh H locs ls vs o hw hx1 hP hD hS => row H locs ls vs (ck_push hk o hw hx1 hP hD hS o.2.2.1 ⟨Int.le_refl _, Int.le_refl _⟩ (fun _ _ _ h1 h2 => .ml h1 (by rw [h2]; exact hx)))
/-- loads -/
theorem ck_ld_ok {i : Nat} {ok : ck_V → Bool} {k : ck_S → Bool} (h : ck_ld S i ok k = true) (hk : ∀ S, k S = true → ck_g p l e R s m args below meth c Q D cl tys M sc A ws0 sh0 S pc') (row : ∀ (H : Heap) (locs : List Loc) (ls : Array Slot) (vs : List Value) (av : ck_V) (ws : va_W) (sh : List Nat) (n : ck_N) (N : Nat) (v : Value), ok av = true → ck_vo ws sh sc n N av v → ls[i]? = some (.val v) → W p l e R s m args below meth c H locs (ck_oc R M + S.2.2.2.2.2.1) (ck_os R M + S.2.2.2.2.2.2) Q (F0 m pc' ls (v :: vs)) → W p l e R s m args below meth c H locs (ck_oc R M + S.2.2.2.2.2.1) (ck_os R M + S.2.2.2.2.2.2) Q (F0 m pc ls vs)) : ck_g p l e R s m args below meth c Q D cl tys M sc A ws0 sh0 S pc := by
  intro n ws sh H locs ls vs o hw hx hP hD hS
  unfold ck_ld at h
  split at h
  · rename_i av hav
    rw [Bool.and_eq_true] at h
    obtain ⟨v, h1, h2⟩ := ck_look_ok o.2.1 hav
    exact row H locs ls vs av ws sh n _ v h.1 h2 h1 (hk _ h.2 n ws sh H locs ls _ (o.ss ⟨h2, o.2.2.1⟩) hw hx hP hD hS)
  · cases h
/-- stores -/
theorem ck_sto_ok {i : Nat} {ok : ck_V → Bool} {k : ck_S → Bool} (h : ck_sto (mnL M) S i ok k = true) (hok : ∀ v, ok v = true → v.1 ≠ 1) (hk : ∀ S, k S = true → ck_g p l e R s m args below meth c Q D cl tys M sc A ws0 sh0 S pc')
    (row : ∀ (H : Heap) (locs : List Loc) (ls : Array Slot) (vs : List Value) (av : ck_V) (ws : va_W) (sh : List Nat) (n : ck_N) (N : Nat) (v : Value) (lv : List (Nat × Value)), ok av = true → ck_vo ws sh sc n N av v → lv_has ls (mnL M) lv → i < mnL M → (∀ ls' : Array Slot, lv_has ls' (mnL M) ((i, v) :: lv.filter (fun q => !(q.1 == i) && !(q.1 + 1 == i && q.2.category == 2))) → W p l e R s m args below meth c H locs (ck_oc R M + S.2.2.2.2.2.1) (ck_os R M + S.2.2.2.2.2.2) Q (F0 m pc' ls' vs)) → W p l e R s m args below meth c H locs (ck_oc R M + S.2.2.2.2.2.1) (ck_os R M + S.2.2.2.2.2.2) Q (F0 m pc ls (v :: vs))) : ck_g p l e R s m args below meth c Q D cl tys M sc A ws0 sh0 S pc := by
  intro n ws sh H locs ls vs o hw hx hP hD hS
  unfold ck_sto at h
  split at h
  · rename_i av st hst
    rw [Bool.and_eq_true, Bool.and_eq_true] at h
    have o3 := o.2.2.1
    rw [hst] at o3
    obtain ⟨v, vs', rfl, h2, h3⟩ := ck_hd o3
    obtain ⟨lv, l1, l2⟩ := o.2.1
    refine row H locs ls vs' av ws sh n _ v lv h.1 h2 l1 (of_decide_eq_true h.2.1) (fun ls' hls' => ?_)
    exact hk _ h.2.2 n ws sh H locs ls' _ ⟨o.1, ⟨_, hls', ⟨⟨rfl, h2⟩, l2.flt ck_flt1⟩⟩, h3, o.2.2.2⟩ hw hx hP hD hS
  · cases h
theorem ck_sto2_ok {i : Nat} {k : ck_S → Bool} (h : ck_sto2 (mnL M) S i k = true) (hk : ∀ S, k S = true → ck_g p l e R s m args below meth c Q D cl tys M sc A ws0 sh0 S pc')
    (row : ∀ (H : Heap) (locs : List Loc) (ls : Array Slot) (vs : List Value) (v : Int64) (lv : List (Nat × Value)), lv_has ls (mnL M) lv → i + 1 < mnL M → (∀ ls' : Array Slot, lv_has ls' (mnL M) ((i, .long v) :: lv.filter (fun q => !(q.1 == i) && (!(q.1 == i + 1) && !(q.1 + 1 == i && q.2.category == 2)))) → W p l e R s m args below meth c H locs (ck_oc R M + S.2.2.2.2.2.1) (ck_os R M + S.2.2.2.2.2.2) Q (F0 m pc' ls' vs)) → W p l e R s m args below meth c H locs (ck_oc R M + S.2.2.2.2.2.1) (ck_os R M + S.2.2.2.2.2.2) Q (F0 m pc ls (.long v :: vs))) : ck_g p l e R s m args below meth c Q D cl tys M sc A ws0 sh0 S pc := by
  intro n ws sh H locs ls vs o hw hx hP hD hS
  unfold ck_sto2 at h
  split at h
  · rename_i av st hst
    rw [Bool.and_eq_true, Bool.and_eq_true] at h
    have o3 := o.2.2.1
    rw [hst] at o3
    obtain ⟨v, vs', rfl, h2, h3⟩ := ck_hd o3
    obtain ⟨-, x, rfl, -⟩ := h2.j (eq_of_beq h.1)
    obtain ⟨lv, l1, l2⟩ := o.2.1
    refine row H locs ls vs' x lv l1 (of_decide_eq_true h.2.1) (fun ls' hls' => ?_)
    exact hk _ h.2.2 n ws sh H locs ls' _ ⟨o.1, ⟨_, hls', ⟨⟨rfl, h2⟩, l2.flt ck_flt2⟩⟩, h3, o.2.2.2⟩ hw hx hP hD hS
  · cases h
/-- two numbers make one -/
theorem ck_b2i {op : Nat} {k : ck_S → Bool} (h : ck_b2 32 op 0 S k = true) (hk : ∀ S, k S = true → ck_g p l e R s m args below meth c Q D cl tys M sc A ws0 sh0 S pc')
    (row : ∀ (H : Heap) (locs : List Loc) (ls : Array Slot) (vs : List Value) (x y : Int32), (∀ b st, S.2.1 = b :: st → ∀ iv, S.2.2.2.1[b.2.1]? = some iv → iv.1 ≤ iv.2 → ck_in iv y.toInt) → W p l e R s m args below meth c H locs (ck_oc R M + S.2.2.2.2.2.1) (ck_os R M + S.2.2.2.2.2.2) Q (F0 m pc' ls (.int (ck_f32 op x y) :: vs)) → W p l e R s m args below meth c H locs (ck_oc R M + S.2.2.2.2.2.1) (ck_os R M + S.2.2.2.2.2.2) Q (F0 m pc ls (.int y :: .int x :: vs))) : ck_g p l e R s m args below meth c Q D cl tys M sc A ws0 sh0 S pc := by
  intro n ws sh H locs ls vs o hw hx hP hD hS
  unfold ck_b2 at h
  split at h
  · rename_i b a st hst
    rw [Bool.and_eq_true, Bool.and_eq_true] at h
    have o3 := o.2.2.1
    rw [hst] at o3
    obtain ⟨v, vs1, rfl, h2, h3⟩ := ck_hd o3
    obtain ⟨u, vs2, rfl, h4, h5⟩ := ck_hd h3
    obtain ⟨lb, y, rfl, ey⟩ := h2.i (eq_of_beq h.1)
    obtain ⟨la, x, rfl, ex⟩ := h4.i (eq_of_beq h.2.1)
    have h6 := h.2.2
    split at h6
    · rename_i S' hS'
      obtain ⟨n', o', ec, -⟩ := ck_binS_ok o h5 hS' la lb (v := .int (ck_f32 op x y)) (Z := (ck_f32 op x y).toInt) (fun ix iy h1 h2 => by
          rw [← ex] at h1
          rw [← ey] at h2
          refine ⟨ck_bin32 op h1 h2, fun e he => ?_, fun e he => ?_, fun e he => by
            subst e
            rw [← ex]
            exact ck_shl_eq h1 h2 he⟩
          · subst e
            rw [← ex, ← ey]
            exact ck_cl_eq (w := 32) (by decide) (r := (x + y).toBitVec) (z := x.toInt + y.toInt) (x := (ix.1 + iy.1, ix.2 + iy.2)) (Int32.toInt_add x y) ⟨Int.add_le_add h1.1 h2.1, Int.add_le_add h1.2 h2.2⟩ (ck_cl_in he)
          · subst e
            rw [← ex, ← ey]
            exact ck_cl_eq (w := 32) (by decide) (r := (x - y).toBitVec) (z := x.toInt - y.toInt) (x := (ix.1 - iy.2, ix.2 - iy.1)) (Int32.toInt_sub x y) ⟨Int.sub_le_sub h1.1 h2.2, Int.sub_le_sub h1.2 h2.1⟩ (ck_cl_in he))
        (fun e he => by
          subst e
          rw [← ey] at he ⊢
          exact (ck_and_r (a := x.toBitVec) (b := y.toBitVec) he).2)
        (fun e he he2 => by
          subst e
          rw [← ex] at he ⊢
          rw [← ey] at he2
          exact (ck_or_ok (a := x.toBitVec) (b := y.toBitVec) (x := (x.toInt, x.toInt)) (y := (y.toInt, y.toInt)) ⟨Int.le_refl _, Int.le_refl _⟩ ⟨Int.le_refl _, Int.le_refl _⟩ he he2).2)
        (fun m N k hk hz => .mi hk hz.symm)
      refine row H locs ls vs2 x y (fun b' st' e iv hiv hle => ?_) ?_
      · rw [hst] at e
        cases e
        have := o.2.2.2.2.1 _ iv hiv hle
        rw [← ey] at this
        exact this
      · have := hk S' h6 n' ws sh H locs ls _ o' hw hx hP hD hS
        rw [ec] at this
        exact this
    · cases h6
  · cases h
theorem ck_b2l {op : Nat} (hop : op < 6) {k : ck_S → Bool} (h : ck_b2 64 op 1 S k = true) (hk : ∀ S, k S = true → ck_g p l e R s m args below meth c Q D cl tys M sc A ws0 sh0 S pc')
    (row : ∀ (H : Heap) (locs : List Loc) (ls : Array Slot) (vs : List Value) (x y : Int64), W p l e R s m args below meth c H locs (ck_oc R M + S.2.2.2.2.2.1) (ck_os R M + S.2.2.2.2.2.2) Q (F0 m pc' ls (.long (ck_f64 op x y) :: vs)) → W p l e R s m args below meth c H locs (ck_oc R M + S.2.2.2.2.2.1) (ck_os R M + S.2.2.2.2.2.2) Q (F0 m pc ls (.long y :: .long x :: vs))) : ck_g p l e R s m args below meth c Q D cl tys M sc A ws0 sh0 S pc := by
  intro n ws sh H locs ls vs o hw hx hP hD hS
  unfold ck_b2 at h
  split at h
  · rename_i b a st hst
    rw [Bool.and_eq_true, Bool.and_eq_true] at h
    have o3 := o.2.2.1
    rw [hst] at o3
    obtain ⟨v, vs1, rfl, h2, h3⟩ := ck_hd o3
    obtain ⟨u, vs2, rfl, h4, h5⟩ := ck_hd h3
    obtain ⟨lb, y, rfl, ey⟩ := h2.j (eq_of_beq h.1)
    obtain ⟨la, x, rfl, ex⟩ := h4.j (eq_of_beq h.2.1)
    have h6 := h.2.2
    split at h6
    · rename_i S' hS'
      obtain ⟨n', o', ec, -⟩ := ck_binS_ok o h5 hS' la lb (v := .long (ck_f64 op x y)) (Z := (ck_f64 op x y).toInt) (fun ix iy h1 h2 => by
          rw [← ex] at h1
          rw [← ey] at h2
          refine ⟨ck_bin64 op hop h1 h2, fun e he => ?_, fun e he => ?_, fun e he => by omega⟩
          · subst e
            rw [← ex, ← ey]
            exact ck_cl_eq (w := 64) (by decide) (r := (x + y).toBitVec) (z := x.toInt + y.toInt) (x := (ix.1 + iy.1, ix.2 + iy.2)) (Int64.toInt_add x y) ⟨Int.add_le_add h1.1 h2.1, Int.add_le_add h1.2 h2.2⟩ (ck_cl_in he)
          · subst e
            rw [← ex, ← ey]
            exact ck_cl_eq (w := 64) (by decide) (r := (x - y).toBitVec) (z := x.toInt - y.toInt) (x := (ix.1 - iy.2, ix.2 - iy.1)) (Int64.toInt_sub x y) ⟨Int.sub_le_sub h1.1 h2.2, Int.sub_le_sub h1.2 h2.1⟩ (ck_cl_in he))
        (fun e he => by
          subst e
          rw [← ey] at he ⊢
          exact (ck_and_r (a := x.toBitVec) (b := y.toBitVec) he).2)
        (fun e he he2 => by
          subst e
          rw [← ex] at he ⊢
          rw [← ey] at he2
          exact (ck_or_ok (a := x.toBitVec) (b := y.toBitVec) (x := (x.toInt, x.toInt)) (y := (y.toInt, y.toInt)) ⟨Int.le_refl _, Int.le_refl _⟩ ⟨Int.le_refl _, Int.le_refl _⟩ he he2).2)
        (fun m N k hk hz => .ml hk hz.symm)
      have := hk S' h6 n' ws sh H locs ls _ o' hw hx hP hD hS
      rw [ec] at this
      exact row H locs ls vs2 x y this
    · cases h6
  · cases h
end
end
section
section
variable {p : Program} {l : Launch} {e : Env} {R : Room} {s : State} {m : MethodId} {args : Array Value} {below : List Frame} {meth : Method} {c : Code} {Q : State → Prop} {cc : ByteArray} {own : String} {D : va_G} {cl : List vw_C} {tys : List (ClassId × FieldType)} {M : ck_Me} {sc : ck_sc} {A : Nat → Prop} {ws0 : va_W} {sh0 : List Nat} {k : ck_S → Bool} {S : ck_S} {pc pc' : Nat}
theorem ck_g.at {S S' : ck_S} {pc : Nat} {n : ck_N} {ws : va_W} {sh : List Nat} {H : Heap} {locs : List Loc} {ls : Array Slot} {vs : List Value} (h : ck_g p l e R s m args below meth c Q D cl tys M sc A ws0 sh0 S' pc) (o : ck_so (mnL M) (mSG M) S' n ws sh sc ls vs) (hw : ck_wo tys (mTT M) (mSG M) ws sh) (hx : ck_ex (mWr M) ws0 sh0 ws sh) (hP : va_P D cl ws H) (hD : va_D A ws) (hS : va_S A s.heap H locs)
    (ec : S'.2.2.2.2.2 = S.2.2.2.2.2) : W p l e R s m args below meth c H locs (ck_oc R M + S.2.2.2.2.2.1) (ck_os R M + S.2.2.2.2.2.2) Q (F0 m pc ls vs) := by
  have := h n ws sh H locs ls vs o hw hx hP hD hS
  rw [ec] at this
  exact this
theorem ck_tgt_ok {pc : Nat} {off : Int} {k : Nat → Bool} (h : ck_tgt pc off k = true) : ∃ t : Nat, (pc : Int) + off = (t : Int) ∧ k t = true := by
  unfold ck_tgt at h
  rw [Bool.and_eq_true] at h
  have h1 := of_decide_eq_true h.1
  exact ⟨((pc : Int) + off).toNat, by omega, h.2⟩
theorem ck_cmI {cd : ClassFile.Cond} {x y : Int32} : ck_cm cd x.toInt y.toInt ↔ (match cd with | .eq => x = y | .ne => ¬ x = y | .lt => x < y | .ge => y ≤ x | .gt => y < x | .le => x ≤ y) := by
  cases cd
  · exact Int32.toInt_inj
  · exact not_congr Int32.toInt_inj
  · exact Int32.lt_iff_toInt_lt.symm
  · exact Int32.le_iff_toInt_le.symm
  · exact Int32.lt_iff_toInt_lt.symm
  · exact Int32.le_iff_toInt_le.symm
theorem ck_row_icmp (hexec : p.tables.exec = Jvm.exec) (hb : c.code = cc) {cd : ClassFile.Cond} {off : Int} {tgt : Nat} {x y : Int32} {H : Heap} {locs : List Loc} {ls : Array Slot} {cells slots : Nat} {rest : List Value} (hdg : decode cc pc = .ok (.if_icmp cd off, 3)) (ht : (pc : Int) + off = (tgt : Int))
    (kt : ck_cm cd x.toInt y.toInt → W p l e R s m args below meth c H locs cells slots Q (F0 m tgt ls rest)) (kf : ¬ ck_cm cd x.toInt y.toInt → W p l e R s m args below meth c H locs cells slots Q (F0 m (pc + 3) ls rest)) : W p l e R s m args below meth c H locs cells slots Q (F0 m pc ls (.int y :: .int x :: rest)) := by
  have e := @ck_cmI cd x y
  cases cd
  · exact lv_icmp_eq hexec hb hdg ht (fun h => kt (e.mpr h)) (fun h => kf (fun z => h (e.mp z)))
  · exact lv_icmp_ne hexec hb hdg ht (fun h => kt (e.mpr h)) (fun h => kf (fun z => e.mp z h))
  · exact lv_icmp_lt hexec hb hdg ht (fun h => kt (e.mpr h)) (fun h => kf (fun z => h (e.mp z)))
  · exact lv_icmp_ge hexec hb hdg ht (fun h => kt (e.mpr h)) (fun h => kf (fun z => h (e.mp z)))
  · exact lv_icmp_gt hexec hb hdg ht (fun h => kt (e.mpr h)) (fun h => kf (fun z => h (e.mp z)))
  · exact lv_icmp_le hexec hb hdg ht (fun h => kt (e.mpr h)) (fun h => kf (fun z => h (e.mp z)))
theorem ck_row_if (hexec : p.tables.exec = Jvm.exec) (hb : c.code = cc) {cd : ClassFile.Cond} {off : Int} {tgt : Nat} {x : Int32} {H : Heap} {locs : List Loc} {ls : Array Slot} {cells slots : Nat} {rest : List Value} (hdg : decode cc pc = .ok (.ifCond cd off, 3)) (ht : (pc : Int) + off = (tgt : Int))
    (kt : ck_cm cd x.toInt 0 → W p l e R s m args below meth c H locs cells slots Q (F0 m tgt ls rest)) (kf : ¬ ck_cm cd x.toInt 0 → W p l e R s m args below meth c H locs cells slots Q (F0 m (pc + 3) ls rest)) : W p l e R s m args below meth c H locs cells slots Q (F0 m pc ls (.int x :: rest)) := by
  have e := @ck_cmI cd x 0
  rw [Int32.toInt_zero] at e
  cases cd
  · exact lv_if_eq hexec hb hdg ht (fun h => kt (e.mpr h)) (fun h => kf (fun z => h (e.mp z)))
  · exact lv_if_ne hexec hb hdg ht (fun h => kt (e.mpr h)) (fun h => kf (fun z => e.mp z h))
  · exact lv_if_lt hexec hb hdg ht (fun h => kt (e.mpr h)) (fun h => kf (fun z => h (e.mp z)))
  · exact lv_if_ge hexec hb hdg ht (fun h => kt (e.mpr h)) (fun h => kf (fun z => h (e.mp z)))
  · exact lv_if_gt hexec hb hdg ht (fun h => kt (e.mpr h)) (fun h => kf (fun z => h (e.mp z)))
  · exact lv_if_le hexec hb hdg ht (fun h => kt (e.mpr h)) (fun h => kf (fun z => h (e.mp z)))
theorem ck_lg {x y : Int64} : (lg_cmp x y).toInt = if x.toInt < y.toInt then -1 else if x.toInt = y.toInt then 0 else 1 := by
  unfold lg_cmp
  split
  · rename_i h
    have h1 : y.toInt < x.toInt := Int64.lt_iff_toInt_lt.mp h
    rw [if_neg (by omega), if_neg (by omega)]
    decide
  · rename_i h
    have h1 : ¬ y.toInt < x.toInt := fun z => h (Int64.lt_iff_toInt_lt.mpr z)
    split
    · rename_i h2
      rw [h2, if_neg (by omega), if_pos rfl]
      decide
    · rename_i h2
      have h3 : ¬ x.toInt = y.toInt := fun z => h2 (Int64.toInt_inj.mp z)
      rw [if_pos (by omega)]
      decide
theorem ck_cm_lg {cd : ClassFile.Cond} {x y : Int64} : ck_cm cd (lg_cmp x y).toInt 0 ↔ ck_cm cd x.toInt y.toInt := by
  rw [ck_lg]
  cases cd <;> simp only [ck_cm] <;> split <;> (try split) <;> omega
theorem ck_iv_ok {nL : Nat} {SG : List Nat} {n : ck_N} {ws : va_W} {sh : List Nat} {ls : Array Slot} {vs : List Value} (h : ck_so nL SG S n ws sh sc ls vs) {a : Nat} {lo hi : Int} {k : ck_S → Bool} (hk : ck_iv a lo hi S k = true) (h1 : lo ≤ (n a).1) (h2 : (n a).1 ≤ hi) :
    ∃ S' : ck_S, k S' = true ∧ ck_so nL SG S' n ws sh sc ls vs ∧ ck_kn S S' := by
  unfold ck_iv at hk
  split at hk
  · rename_i x hx
    split at hk
    · rename_i hle
      have hb := h.2.2.2.2.1 a x hx hle
      have hlo : ck_max x.1 lo ≤ (n a).1 := ck_max_le.mpr ⟨hb.1, h1⟩
      have hhi : (n a).1 ≤ ck_min x.2 hi := ck_le_min.mpr ⟨hb.2, h2⟩
      rw [if_neg (by omega)] at hk
      have hl : (S.2.2.2.1.set a (ck_max x.1 lo, ck_min x.2 hi)).length = S.2.2.2.1.length := by simp
      refine ⟨_, hk, ⟨?_, ?_, ?_, ?_, ?_, ?_⟩, rfl, rfl, rfl, hl, rfl⟩
      · dsimp only; rw [hl]; exact h.1
      · dsimp only; rw [hl]; exact h.2.1
      · dsimp only; rw [hl]; exact h.2.2.1
      · dsimp only; rw [hl]; exact h.2.2.2.1
      · intro j z hz hzl
        dsimp only at hz
        rw [List.getElem?_set] at hz
        by_cases e : a = j
        · subst e
          rw [if_pos rfl] at hz
          simp only [(List.getElem?_eq_some_iff.mp hx).1, if_true, Option.some.injEq] at hz
          subst hz
          exact ⟨hlo, hhi⟩
        · rw [if_neg e] at hz
          exact h.2.2.2.2.1 j z hz hzl
      · dsimp only; rw [hl]; exact h.2.2.2.2.2
    · cases hk
  · cases hk
/-- other types for a sym -/
theorem ck_sub_ok {ws : va_W} {sh : List Nat} {n : ck_N} {N s0 : Nat} {w : ck_V} (hw : ck_vo ws sh sc n N w (n s0).2) {v : ck_V} {x : Value} (h : ck_vo ws sh sc n N v x) : ck_vo ws sh sc n N (ck_sub s0 w v) x := by
  unfold ck_sub
  split
  · rename_i hc
    have e : x = (n s0).2 := by
      have h2 := h
      unfold ck_vo at h2
      rcases hc.2 with q | q
      · rw [q] at h2
        rw [h2.2.1, hc.1]
      · rw [q] at h2
        rw [h2.2.1, hc.1]
    rw [e]
    exact hw
  · exact h
theorem ck_subS_ok {nL : Nat} {SG : List Nat} {n : ck_N} {ws : va_W} {sh : List Nat} {ls : Array Slot} {vs : List Value} (h : ck_so nL SG S n ws sh sc ls vs) {s0 : Nat} {w : ck_V} (hw : ck_vo ws sh sc n S.2.2.2.1.length w (n s0).2) : ck_so nL SG (ck_subS s0 w S) n ws sh sc ls vs := by
  obtain ⟨lv, l1, l2⟩ := h.2.1
  refine ⟨h.1, ⟨lv, l1, l2.map (P' := fun (x : Nat × ck_V) (y : Nat × Value) => x.1 = y.1 ∧ ck_vo ws sh sc n S.2.2.2.1.length x.2 y.2) _ fun a b hab => ⟨hab.1, ck_sub_ok hw hab.2⟩⟩, h.2.2.1.map _ fun a b hab => ck_sub_ok hw hab, ?_, h.2.2.2.2⟩
  intro x hx
  obtain ⟨y, hy, rfl⟩ := List.mem_map.mp hx
  rcases h.2.2.2.1 y hy with q | ⟨h0, h1, q, a, o, v, h2, h3, h4, h5⟩ | hn
  · rw [if_pos q.1]
    exact Or.inl q
  · rw [if_neg h0]
    exact Or.inr (Or.inl ⟨h0, h1, q, a, o, v, h2, h3, h4, ck_sub_ok hw h5⟩)
  · have e : ck_sub s0 w y.2.2 = y.2.2 := if_neg (fun z => by have := hn.1; have := z.2; omega)
    rw [if_neg hn.2.1, e]
    exact Or.inr (Or.inr hn)
/-- the switch's cases -/
theorem ck_sw_ok {a : Nat} {S : ck_S} {pc : Nat} {k : ck_cont} : ∀ {os : List Int} {lo : Int}, ck_sw a lo S pc k os = true → ∀ (j : Nat) (off : Int), os[j]? = some off → ck_iv a (lo + j) (lo + j) S (fun S => ck_tgt pc off (k S)) = true
  | [], _, _, j, off, h => by simp at h
  | o :: os, lo, h, j, off, hj => by
    rw [ck_sw, Bool.and_eq_true] at h
    cases j with
    | zero =>
      rw [List.getElem?_cons_zero, Option.some.injEq] at hj
      subst hj
      simpa using h.1
    | succ j =>
      rw [List.getElem?_cons_succ] at hj
      have := ck_sw_ok h.2 j off hj
      have e : lo + 1 + (j : Int) = lo + ((j + 1 : Nat) : Int) := by omega
      rw [e] at this
      exact this
theorem ck_nul_ok {kt kf : ck_S → Bool} (h : ck_nul S kt kf = true) {nL : Nat} {SG : List Nat} {n : ck_N} {ws : va_W} {sh : List Nat} {ls : Array Slot} {vs : List Value} (o : ck_so nL SG S n ws sh sc ls vs) : ∃ (v : Value) (vs' : List Value) (S' : ck_S), vs = v :: vs' ∧ ck_so nL SG S' n ws sh sc ls vs' ∧ S'.2.2.2.2.2 = S.2.2.2.2.2 ∧ ((v = .null ∧ kt S' = true) ∨ ((∃ a : Nat, v = .ref a) ∧ kf S' = true)) := by
  unfold ck_nul at h
  split at h
  · rename_i r st hst
    have o3 := o.2.2.1
    rw [hst] at o3
    obtain ⟨v, vs', rfl, h2, h3⟩ := ck_hd o3
    have os : ck_so nL SG (ck_ss S st) n ws sh sc ls vs' := o.ss h3
    refine ⟨v, vs', ?_⟩
    split at h
    · rename_i e
      obtain ⟨-, -, q, a, e', t, rfl, -⟩ := h2.r e
      exact ⟨_, rfl, os, rfl, Or.inr ⟨⟨a, rfl⟩, h⟩⟩
    · split at h
      · rename_i e
        have h4 := h2
        unfold ck_vo at h4
        rw [e] at h4
        exact ⟨_, rfl, os, rfl, Or.inl ⟨h4.2.2, h⟩⟩
      · rw [Bool.and_eq_true, Bool.and_eq_true] at h
        have e := eq_of_beq h.1
        have h4 := h2
        unfold ck_vo at h4
        rw [e] at h4
        obtain ⟨hl, hv, h5⟩ := h4
        rcases h5 with h5 | h5
        · exact ⟨_, rfl, ck_subS_ok os (w := (4, r.2.1, [])) (s0 := r.2.1) ⟨hl, rfl, by rw [← hv]; exact h5⟩, rfl, Or.inl ⟨h5, h.2.2⟩⟩
        · obtain ⟨q, a, e', t, e1, -⟩ := id h5
          exact ⟨_, rfl, ck_subS_ok os (w := (2, r.2.1, r.2.2)) (s0 := r.2.1) ⟨hl, rfl, by rw [← hv]; exact h5⟩, rfl, Or.inr ⟨⟨a, e1⟩, h.2.1⟩⟩
  · cases h
end
end
section
/-! the rows of the tables, and what they say -/
def ck_hg (s : State) (args : Array Value) (own : String) (cl : List vw_C) (x : Nat × Nat × Nat) : Prop := ∃ (C : String) (T : u_T) (N : Nat) (ref : String) (Ts : List Cond), (∀ w ∈ Ts, w.before args s = true) ∧ (∀ w ∈ u_ws C T N, w ∈ Ts) ∧ cl[x.2.1]? = some (C, T, N) ∧ x.2.2 < N ∧
  ((Cond.fieldLink own x.1 ref (T x.2.2).2.1 (T x.2.2).2.2.1).before args s = true ∨ ∃ host, (Cond.fieldLinkNest own x.1 ref (T x.2.2).2.1 (T x.2.2).2.2.1 host).before args s = true) ∧ ∀ y, s.fieldFound? (T x.2.2).1 (T x.2.2).2.1 (T x.2.2).2.2.1 = some y → s.fieldFound? ref (T x.2.2).2.1 (T x.2.2).2.2.1 = some y
def ck_hp (s : State) (args : Array Value) (own : String) (cl : List vw_C) (init : Prop) (x : Nat × Nat × Nat × Nat) : Prop := ∃ (C : String) (T : u_T) (N : Nat) (ref : String) (Ts : List Cond) (ty0 : Nat → FieldType), (∀ w ∈ Ts, w.before args s = true) ∧ (∀ w ∈ u_ws C T N, w ∈ Ts) ∧ (∀ k, k < N → parseFieldDescriptor (T k).2.2.1 = some (ty0 k)) ∧ (∀ a, a < N → ∀ b, b < N → a ≠ b → (T a).2.1 ≠ (T b).2.1) ∧ cl[x.2.1]? = some (C, T, N) ∧ x.2.2.1 < N ∧
  (((Cond.fieldLink own x.1 ref (T x.2.2.1).2.1 (T x.2.2.1).2.2.1).before args s = true ∧ ((T x.2.2.1).2.2.2 = false ∨ ((T x.2.2.1).2.2.2 = true ∧ init ∧ (T x.2.2.1).1 = own))) ∨ ((T x.2.2.1).2.2.2 = false ∧ ∃ host, (Cond.fieldLinkNest own x.1 ref (T x.2.2.1).2.1 (T x.2.2.1).2.2.1 host).before args s = true)) ∧
  (∀ y, s.fieldFound? (T x.2.2.1).1 (T x.2.2.1).2.1 (T x.2.2.1).2.2.1 = some y → s.fieldFound? ref (T x.2.2.1).2.1 (T x.2.2.1).2.2.1 = some y) ∧
  (match x.2.2.2 with
    | 0 => ty0 x.2.2.1 = .int
    | 1 => ty0 x.2.2.1 = .boolean
    | _ => (∃ C, ty0 x.2.2.1 = .object C) ∨ ∃ t, ty0 x.2.2.1 = .array t)
theorem ck_wo_set {tys : List (ClassId × FieldType)} {TT : List ck_D} {SG : List Nat} {Wr : List (Nat × Nat)} {ws : va_W} {sh : List Nat} (h : ck_wo tys TT SG ws sh) {q a t : Nat} {e e' : va_E} (hq : ws[q]? = some (a, e)) (ht : sh[q]? = some t) (hs : ck_sm Wr t e e') {td : ck_D} (hd : TT[t]? = some td) (hc : ck_co tys ws sh td e') :
    ck_wo tys TT SG (ws.set q (a, e')) sh ∧ ck_ex Wr ws sh (ws.set q (a, e')) sh := by
  have hlt : q < ws.length := (List.getElem?_eq_some_iff.mp hq).1
  have hx : ck_ex Wr ws sh (ws.set q (a, e')) sh := by
    refine ⟨fun _ _ h => h, fun r b u v hr hv => ?_⟩
    rw [List.getElem?_set]
    by_cases eq : q = r
    · subst eq
      rw [hq] at hr
      rw [ht] at hv
      cases hr
      cases hv
      exact ⟨e', by simp [hlt], hs⟩
    · exact ⟨u, by rw [if_neg eq]; exact hr, ck_sm.rf⟩
  refine ⟨⟨by rw [List.length_set]; exact h.1, fun r b u v hr hv => ?_, h.2.2⟩, hx⟩
  rw [List.getElem?_set] at hr
  by_cases eq : q = r
  · subst eq
    rw [if_pos rfl, if_pos hlt, Option.some.injEq] at hr
    rw [ht] at hv
    cases hr
    cases hv
    exact ⟨td, hd, hc.mv hx⟩
  · rw [if_neg eq] at hr
    obtain ⟨td', h1, h2⟩ := h.2.1 r b u v hr hv
    exact ⟨td', h1, h2.mv hx⟩
theorem ck_jts_ok {ws : va_W} {sh : List Nat} {f : Nat → Option ck_T} : ∀ {ts : List Nat} {T : ck_T}, ck_jts f ts = some T → ∀ t ∈ ts, ∃ y, f t = some y ∧ ∀ v, ck_fo ws sh y v → ck_fo ws sh T v
  | [], _, h, _, _ => by cases h
  | [t], T, h, u, hu => by
    rw [List.mem_singleton.mp hu]
    exact ⟨T, h, fun _ q => q⟩
  | t :: t2 :: ts, T, h, u, hu => by
    rw [ck_jts] at h
    · split at h
      · rename_i a b ha hb
        have key : (∀ v, ck_fo ws sh a v → ck_fo ws sh T v) ∧ (∀ v, ck_fo ws sh b v → ck_fo ws sh T v) := by
          unfold ck_jt at h
          split at h
          · rename_i h0
            have e := Option.some.inj h
            subst e
            refine ⟨fun v hv => ?_, fun v hv => ?_⟩
            · unfold ck_fo at hv
              rw [h0.1] at hv
              obtain ⟨x, rfl, h1, h2⟩ := hv
              refine ⟨x, rfl, ?_, ?_⟩
              · have p := (ck_le_min.mp (Int.le_refl (ck_min a.2.1 b.2.1))).1
                show ck_min a.2.1 b.2.1 ≤ _
                omega
              · have p := (ck_max_le.mp (Int.le_refl (ck_max a.2.2.1 b.2.2.1))).1
                show _ ≤ ck_max a.2.2.1 b.2.2.1
                omega
            · unfold ck_fo at hv
              rw [h0.2] at hv
              obtain ⟨x, rfl, h1, h2⟩ := hv
              refine ⟨x, rfl, ?_, ?_⟩
              · have p := (ck_le_min.mp (Int.le_refl (ck_min a.2.1 b.2.1))).2
                show ck_min a.2.1 b.2.1 ≤ _
                omega
              · have p := (ck_max_le.mp (Int.le_refl (ck_max a.2.2.1 b.2.2.1))).2
                show _ ≤ ck_max a.2.2.1 b.2.2.1
                omega
          · split at h
            · rename_i h1
              have e := Option.some.inj h
              subst e
              subst h1
              exact ⟨fun _ q => q, fun _ q => q⟩
            · cases h
        rcases List.mem_cons.mp hu with rfl | hu
        · exact ⟨a, ha, key.1⟩
        · obtain ⟨y, h1, h2⟩ := ck_jts_ok hb u hu
          exact ⟨y, h1, fun v hv => key.2 v (h2 v hv)⟩
      · cases h
    · intro z
      cases z
section
variable {p : Program} {l : Launch} {e : Env} {R : Room} {s : State} {m : MethodId} {args : Array Value} {below : List Frame} {meth : Method} {c : Code} {Q : State → Prop} {cc : ByteArray} {own : String} {D : va_G} {cl : List vw_C} {tys : List (ClassId × FieldType)} {M : ck_Me} {sc : ck_sc} {A : Nat → Prop} {ws0 : va_W} {sh0 : List Nat} {k : ck_S → Bool} {S : ck_S} {pc pc' : Nat}
theorem ck_pt_ok {nL : Nat} {SG : List Nat} {n : ck_N} {ws : va_W} {sh : List Nat} {ls : Array Slot} {vs vs' : List Value} {st : List ck_V} {T : ck_T} {S' : ck_S} (h : ck_pt S st T = some S') (o : ck_so nL SG S n ws sh sc ls vs) (hs : ck_two (ck_vo ws sh sc n S.2.2.2.1.length) st vs') {v : Value} (hv : ck_fo ws sh T v) :
    ∃ n', ck_so nL SG S' n' ws sh sc ls (v :: vs') ∧ S'.2.2.2.2.2 = S.2.2.2.2.2 := by
  unfold ck_pt at h
  unfold ck_fo at hv
  split at h
  · rename_i e
    rw [e] at hv
    obtain ⟨x, rfl, h1, h2⟩ := hv
    have e := Option.some.inj h
    subst e
    exact ⟨_, o.new hs (x := (x.toInt, .null)) (.mi (Nat.lt_succ_self _) (by rw [ck_nx_eq])) (fun _ => ⟨h1, h2⟩) (fun r hr => by cases hr), rfl⟩
  · rename_i e
    rw [e] at hv
    obtain ⟨x, rfl⟩ := hv
    have e := Option.some.inj h
    subst e
    exact ⟨_, o.new hs (x := (x.toInt, .null)) (.ml (Nat.lt_succ_self _) (by rw [ck_nx_eq])) (fun _ => ck_r64 x) (fun r hr => by cases hr), rfl⟩
  · rename_i e
    rw [e] at hv
    have e := Option.some.inj h
    subst e
    exact ⟨_, o.new hs (x := (0, v)) ⟨Nat.lt_succ_self _, by rw [ck_nx_eq], hv⟩ (fun z => absurd z (by decide)) (fun r hr => by cases hr), rfl⟩
  · rename_i e
    rw [e] at hv
    have e := Option.some.inj h
    subst e
    exact ⟨_, o.new hs (x := (0, v)) ⟨Nat.lt_succ_self _, by rw [ck_nx_eq], hv⟩ (fun z => absurd z (by decide)) (fun r hr => by cases hr), rfl⟩
  · cases h
theorem ck_ft_ok {i t k : Nat} {y : ck_T} (h : ck_ft M i t = some (k, y)) : ∃ td ci, (mTT M)[t]? = some td ∧ td.1 = 0 ∧ td.2.1 = ci ∧ (i, ci, k) ∈ mfl M ∧ td.2.2.2[k]? = some y := by
  unfold ck_ft at h
  split at h
  · rename_i td htd
    split at h
    · rename_i h0
      split at h
      · rename_i x hx
        have hm := List.mem_of_find?_eq_some hx
        have hp := List.find?_some hx
        simp only [Bool.and_eq_true, beq_iff_eq] at hp
        cases hy : td.2.2.2[x.2.2]? with
        | none => rw [hy] at h; cases h
        | some z =>
          rw [hy] at h
          have e := Option.some.inj h
          have e1 : x.2.2 = k := congrArg Prod.fst e
          have e2 : z = y := congrArg Prod.snd e
          subst e1
          subst e2
          refine ⟨td, x.2.1, htd, h0, hp.2.symm, ?_, hy⟩
          rw [← hp.1]
          exact hm
      · cases h
    · cases h
  · cases h
theorem ck_get_ok (X : ck_cx p l e R s m args below meth c cc own D cl tys M sc A) (hfl : ∀ x ∈ mfl M, ck_hg s args own cl x) {i : Nat} (h : ck_get M i S k = true) (hk : ∀ S, k S = true → ck_g p l e R s m args below meth c Q D cl tys M sc A ws0 sh0 S (pc + 3)) (hdg : decode cc pc = .ok (.getfield i, 3)) : ck_g p l e R s m args below meth c Q D cl tys M sc A ws0 sh0 S pc := by
  intro n ws sh H locs ls vs o hw hx hP hD hS
  obtain ⟨x1, x2, x3, x4, x5, -⟩ := X
  unfold ck_get at h
  split at h
  · rename_i r st hst
    have o3 := o.2.2.1
    rw [hst] at o3
    obtain ⟨v, vs', rfl, h2, h3⟩ := ck_hd o3
    rw [Bool.and_eq_true] at h
    obtain ⟨-, -, q, a, e, t, rfl, hq, ht, htm⟩ := h2.r (eq_of_beq h.1)
    have h4 := h.2
    split at h4
    · rename_i T hT
      obtain ⟨y, hy, hyT⟩ := ck_jts_ok (ws := ws) (sh := sh) hT t htm
      obtain ⟨⟨k0, y'⟩, hf, rfl⟩ : ∃ z, ck_ft M i t = some z ∧ z.2 = y := by
        cases hf : ck_ft M i t with
        | none => rw [hf] at hy; cases hy
        | some z => rw [hf] at hy; exact ⟨z, rfl, Option.some.inj hy⟩
      obtain ⟨td, ci, f1, f2, f3, f4, f5⟩ := ck_ft_ok hf
      obtain ⟨td', g1, g2⟩ := hw.2.1 q a e t hq ht
      have e1 : td' = td := Option.some.inj (g1.symm.trans f1)
      subst e1
      unfold ck_co at g2
      rw [f2] at g2
      obtain ⟨fs, rfl, g3, g4⟩ := g2
      rw [f3] at hq
      obtain ⟨v, g5, g6⟩ := g4 k0 y' f5
      obtain ⟨C, T0, N0, ref, Ts, l1, l2, l3, l4, l5, l6⟩ := hfl _ f4
      have row : ∀ vs, W p l e R s m args below meth c H locs (ck_oc R M + S.2.2.2.2.2.1) (ck_os R M + S.2.2.2.2.2.2) Q (F0 m (pc + 3) ls (v :: vs)) → W p l e R s m args below meth c H locs (ck_oc R M + S.2.2.2.2.2.1) (ck_os R M + S.2.2.2.2.2.2) Q (F0 m pc ls (.ref a :: vs)) := by
        intro vs hW
        rcases l5 with l5 | ⟨host, l5⟩
        · exact va_get x1 x2 l1 l2 x3 x4 hP q hq l3 k0 l4 l5 l6 g5 hdg hW
        · exact va_getN x1 x2 l1 l2 x3 x4 hP q hq l3 k0 l4 l5 l6 g5 hdg hW
      refine row vs' ?_
      have hvT := hyT v g6
      split at h4
      · rename_i t1 ht1
        rw [ht1] at htm
        have e2 := List.mem_singleton.mp htm
        subst e2
        rw [hf] at h4
        dsimp only at h4
        split at h4
        · rename_i w hw1
          unfold ck_mfind at hw1
          cases hfi : S.2.2.1.find? (fun m => m.1 == t && (m.2.1 == k0 && !(m.1 == 0))) with
          | none => rw [hfi] at hw1; cases hw1
          | some mm =>
            rw [hfi] at hw1
            have e3 : mm.2.2 = w := Option.some.inj hw1
            subst e3
            have hm := List.mem_of_find?_eq_some hfi
            have hp := List.find?_some hfi
            simp only [Bool.and_eq_true, beq_iff_eq, Bool.not_eq_true', beq_eq_false_iff_ne, ne_eq] at hp
            rcases o.2.2.2.1 mm hm with ⟨z, -⟩ | ⟨-, z1, q1, a1, o1, v1, z2, z3, z4, z5⟩ | ⟨-, -, z1, -, -, -, q1, a1, cA1, len1, f1, z2, z3, -⟩
            · exact absurd z hp.2.2
            rotate_left
            · have e4 := hw.2.2 mm.1 z1 q1 q z2 (by rw [hp.1]; exact ht)
              subst e4
              rw [hq] at z3
              cases z3
            · have e4 := hw.2.2 mm.1 z1 q1 q z2 (by rw [hp.1]; exact ht)
              subst e4
              rw [hq] at z3
              cases z3
              have e5 : v = v1 := by
                rw [hp.2.1] at z4
                exact Option.some.inj (g5.symm.trans z4)
              subst e5
              exact (hk _ h4).at (o.ss ⟨z5, h3⟩) hw hx hP hD hS rfl
        · split at h4
          · rename_i S' hS'
            obtain ⟨n', o', ec⟩ := ck_pt_ok hS' o h3 hvT
            split at h4
            · rename_i hsg
              split at h4
              · rename_i w st2 hst2
                have o5 := o'.2.2.1
                rw [hst2] at o5
                refine ck_g.at (S' := (S'.1, S'.2.1, (t, k0, w) :: S'.2.2.1, S'.2.2.2)) (hk _ h4) ⟨o'.1, o'.2.1, o'.2.2.1, fun z hz => ?_, o'.2.2.2.2⟩ hw hx hP hD hS ec
                rcases List.mem_cons.mp hz with rfl | hz
                · rw [Bool.and_eq_true, Bool.not_eq_true', beq_eq_false_iff_ne] at hsg
                  exact Or.inr (Or.inl ⟨hsg.2, List.contains_iff_mem.mp hsg.1, q, a, _, v, ht, hq, g5, o5.1⟩)
                · exact o'.2.2.2.1 z hz
              · cases h4
            · exact (hk _ h4).at o' hw hx hP hD hS ec
          · cases h4
      · split at h4
        · rename_i S' hS'
          obtain ⟨n', o', ec⟩ := ck_pt_ok hS' o h3 hvT
          exact (hk _ h4).at o' hw hx hP hD hS ec
        · cases h4
    · cases h4
  · cases h
end
end
section
section
variable {p : Program} {l : Launch} {e : Env} {R : Room} {s : State} {m : MethodId} {args : Array Value} {below : List Frame} {meth : Method} {c : Code} {Q : State → Prop} {cc : ByteArray} {own : String} {D : va_G} {cl : List vw_C} {tys : List (ClassId × FieldType)} {M : ck_Me} {sc : ck_sc} {A : Nat → Prop} {ws0 : va_W} {sh0 : List Nat} {k : ck_S → Bool} {S : ck_S} {pc pc' : Nat}
theorem ck_fit_ok {nL : Nat} {SG : List Nat} {n : ck_N} {ws : va_W} {sh : List Nat} {ls : Array Slot} {vs : List Value} (o : ck_so nL SG S n ws sh sc ls vs) {F : Nat} {t : ck_T} {v : ck_V} {x : Value} (h : ck_fit F S t v = true) (hv : ck_vo ws sh sc n S.2.2.2.1.length v x) : ck_fo ws sh t x := by
  unfold ck_fit at h
  unfold ck_fo
  split at h
  · rename_i e
    rw [Bool.and_eq_true, Bool.and_eq_true] at h
    obtain ⟨-, z, rfl, ez⟩ := hv.i (eq_of_beq h.1)
    have p1 := ck_ent_ok o.2.2.2.2.1 o.2.2.2.2.2 F _ _ _ h.2.1
    have p2 := ck_ent_ok o.2.2.2.2.1 o.2.2.2.2.2 F _ _ _ h.2.2
    rw [o.1.2] at p1 p2
    rw [e]
    exact ⟨z, rfl, by rw [ez]; omega, by rw [ez]; omega⟩
  · rename_i e
    obtain ⟨-, z, rfl, ez⟩ := hv.j (eq_of_beq h)
    rw [e]
    exact ⟨z, rfl⟩
  · rename_i e
    rw [Bool.and_eq_true] at h
    obtain ⟨-, -, h2⟩ := hv.r (eq_of_beq h.1)
    rw [e]
    exact h2.sub fun t ht => List.contains_iff_mem.mp (List.all_eq_true.mp h.2 t ht)
  · rename_i e
    rw [e]
    rw [Bool.or_eq_true, Bool.and_eq_true, Bool.or_eq_true] at h
    have hv2 := hv
    unfold ck_vo at hv2
    rcases h with h | ⟨h | h, h3⟩
    · rw [eq_of_beq h] at hv2
      exact Or.inl hv2.2.2
    · obtain ⟨-, -, h2⟩ := hv.r (eq_of_beq h)
      exact Or.inr (h2.sub fun t ht => List.contains_iff_mem.mp (List.all_eq_true.mp h3 t ht))
    · rw [eq_of_beq h] at hv2
      exact hv2.2.2.imp id (·.sub fun t ht => List.contains_iff_mem.mp (List.all_eq_true.mp h3 t ht))
  · cases h
theorem ck_putT_ok {i t : Nat} {x : Nat × Nat × ck_T} (h : ck_putT M i t = some x) : ∃ td, (mTT M)[t]? = some td ∧ td.1 = 0 ∧ (i, td.2.1, x.1, x.2.1) ∈ mpl M ∧ td.2.2.2[x.1]? = some x.2.2 := by
  unfold ck_putT at h
  split at h
  · rename_i td htd
    split at h
    · rename_i h0
      split at h
      · rename_i z hz
        have hm := List.mem_of_find?_eq_some hz
        have hp := List.find?_some hz
        simp only [Bool.and_eq_true, beq_iff_eq] at hp
        cases hy : td.2.2.2[z.2.2.1]? with
        | none => rw [hy] at h; cases h
        | some y =>
          rw [hy] at h
          have e := Option.some.inj h
          subst e
          refine ⟨td, htd, h0, ?_, hy⟩
          rw [← hp.1, ← hp.2]
          exact hm
      · cases h
    · cases h
  · cases h
theorem ck_nar_b {z : Int32} (h0 : 0 ≤ z.toInt) (h1 : z.toInt ≤ 1) : narrow .boolean (.int z) = .int z ∧ fits .boolean (.int z) = true := by
  have e : z = Int32.ofNat z.toInt.toNat := ck_i32 h0
  have hc : z.toInt.toNat = 0 ∨ z.toInt.toNat = 1 := by omega
  rcases hc with q | q <;> (rw [q] at e; subst e; exact ⟨by rfl, by rfl⟩)
/-- the memory behind a putfield -/
theorem ck_put_ok (X : ck_cx p l e R s m args below meth c cc own D cl tys M sc A) (hpl : ∀ x ∈ mpl M, ck_hp s args own cl (meth.name = "<init>") x) {i : Nat} (h : ck_put M i S k = true) (hk : ∀ S, k S = true → ck_g p l e R s m args below meth c Q D cl tys M sc A ws0 sh0 S (pc + 3)) (hdg : decode cc pc = .ok (.putfield i, 3)) : ck_g p l e R s m args below meth c Q D cl tys M sc A ws0 sh0 S pc := by
  intro n ws sh H locs ls vs o hw hx hP hD hS
  obtain ⟨x1, x2, x3, x4, x5, -⟩ := X
  unfold ck_put at h
  split at h
  · rename_i v r st hst
    have o3 := o.2.2.1
    rw [hst] at o3
    obtain ⟨u, vs1, rfl, h2, h3⟩ := ck_hd o3
    obtain ⟨ra, vs2, rfl, h4, h5⟩ := ck_hd h3
    rw [Bool.and_eq_true, Bool.and_eq_true] at h
    obtain ⟨hr2, hall, hcont⟩ := h
    obtain ⟨-, -, q, a, e, t, rfl, hq, ht, htm⟩ := h4.r (eq_of_beq hr2)
    have h6 := List.all_eq_true.mp hall t htm
    split at h6
    · rename_i x hxT
      rw [Bool.and_eq_true, Bool.and_eq_true] at h6
      obtain ⟨hwr, hfit, hty⟩ := h6
      obtain ⟨td, f1, f2, f3, f4⟩ := ck_putT_ok hxT
      obtain ⟨td', g1, g2⟩ := hw.2.1 q a e t hq ht
      have e1 : td' = td := Option.some.inj (g1.symm.trans f1)
      subst e1
      have g2' := g2
      unfold ck_co at g2
      rw [f2] at g2
      obtain ⟨fs, rfl, g3, g4⟩ := g2
      have hfo := ck_fit_ok o hfit h2
      obtain ⟨C, T0, N0, ref, Ts, ty0, l1, l2, l3, l4, l5, l6, l7, l8, l9⟩ := hpl _ f3
      have hlen : x.1 < fs.length := by rw [g3]; exact (List.getElem?_eq_some_iff.mp f4).1
      have hnf : narrow (ty0 x.1) u = u ∧ fits (ty0 x.1) u = true := by
        dsimp only at l9 hty
        split at l9
        · rename_i eb
          rw [eb] at hty
          have hty := eq_of_beq hty
          unfold ck_fo at hfo
          rw [hty] at hfo
          obtain ⟨z, rfl, -⟩ := hfo
          rw [l9]
          exact ⟨rfl, rfl⟩
        · rename_i eb
          rw [eb] at hty
          simp only [Bool.and_eq_true, beq_iff_eq, decide_eq_true_eq] at hty
          unfold ck_fo at hfo
          rw [hty.1] at hfo
          obtain ⟨z, rfl, p1, p2⟩ := hfo
          rw [l9]
          exact ck_nar_b (Int.le_trans hty.2.1 p1) (Int.le_trans p2 hty.2.2)
        · have hrn : u = .null ∨ ∃ b : Nat, u = .ref b := by
            have hty2 : x.2.2.1 = 2 ∨ x.2.2.1 = 3 := by
              revert hty
              split
              · rename_i z1 z2; exact absurd z2 (by assumption)
              · rename_i z1 z2; exact absurd z2 (by assumption)
              · intro hty
                rw [Bool.or_eq_true] at hty
                exact hty.imp eq_of_beq eq_of_beq
            unfold ck_fo at hfo
            rcases hty2 with z | z
            · rw [z] at hfo
              obtain ⟨_, b, _, _, rfl, -⟩ := hfo
              exact Or.inr ⟨b, rfl⟩
            · rw [z] at hfo
              rcases hfo with rfl | ⟨_, b, _, _, rfl, -⟩
              · exact Or.inl rfl
              · exact Or.inr ⟨b, rfl⟩
          rcases l9 with ⟨C', l9⟩ | ⟨t', l9⟩ <;> rw [l9] <;> rcases hrn with rfl | ⟨b, rfl⟩ <;> exact ⟨rfl, rfl⟩
      have hsm : ck_sm (mWr M) t (.inr (td'.2.1, fs)) (.inr (td'.2.1, fs.set x.1 u)) := by
        refine ⟨rfl, fun j hj => ?_⟩
        have hne : x.1 ≠ j := fun z => hj (by rw [← z]; exact List.contains_iff_mem.mp hwr)
        exact List.getElem?_set_ne hne
      have hco : ck_co tys ws sh td' (.inr (td'.2.1, fs.set x.1 u)) := by
        unfold ck_co
        rw [f2]
        refine ⟨_, rfl, by rw [List.length_set]; exact g3, fun j tj hj => ?_⟩
        by_cases ej : x.1 = j
        · subst ej
          rw [f4] at hj
          have := Option.some.inj hj
          subst this
          exact ⟨u, by simp [hlen], hfo⟩
        · obtain ⟨w, w1, w2⟩ := g4 j tj hj
          exact ⟨w, by rw [List.getElem?_set_ne ej]; exact w1, w2⟩
      obtain ⟨hw', hx'⟩ := ck_wo_set (Wr := mWr M) hw hq ht hsm f1 hco
      have go : ∀ (H1 : Heap) (locs1 : List Loc), va_P D cl (ws.set q (a, .inr (td'.2.1, fs.set x.1 u))) H1 → va_D A (ws.set q (a, .inr (td'.2.1, fs.set x.1 u))) → va_S A s.heap H1 locs1 → W p l e R s m args below meth c H1 locs1 (ck_oc R M + S.2.2.2.2.2.1) (ck_os R M + S.2.2.2.2.2.2) Q (F0 m (pc + 3) ls vs2) := by
        intro H1 locs1 hP1 hD1 hS1
        refine ck_g.at (hk _ hcont) ⟨o.1, o.2.1.mv hx', h5.imp fun _ _ z => z.mv hx', ?_, o.2.2.2.2⟩ hw' (hx.tr (fun _ z => z) hx') hP1 hD1 hS1 rfl
        intro z hz
        rcases List.mem_append.mp hz with hz | hz
        · split at hz
          · rename_i t1 ht1
            split at hz
            · rename_i hsg
              simp only [Bool.and_eq_true, Bool.not_eq_true', beq_eq_false_iff_ne, ne_eq] at hsg
              split at hz
              · rename_i x' hx'T
                have ez := List.mem_singleton.mp hz
                subst ez
                rw [ht1] at htm
                have e2 := List.mem_singleton.mp htm
                subst e2
                rw [hxT] at hx'T
                have e3 := Option.some.inj hx'T
                subst e3
                refine Or.inr (Or.inl ⟨hsg.1.1.1.2, List.contains_iff_mem.mp hsg.1.1.1.1, q, a, (td'.2.1, fs.set x.1 u), u, ht, ?_, ?_, h2.mv hx'⟩)
                · rw [List.getElem?_set_self (List.getElem?_eq_some_iff.mp hq).1]
                · simp [hlen]
              · cases hz
            · cases hz
          · cases hz
        · obtain ⟨hz1, hz2⟩ := List.mem_filter.mp hz
          rcases o.2.2.2.1 z hz1 with q1 | ⟨z0, z1, q1, a1, o1, v1, z2, z3, z4, z5⟩ | ⟨y0, y1, y2, y3, y4, y5, q1, a1, cA1, len1, f1, y6, y7, y8⟩
          · exact Or.inl q1
          rotate_left
          · refine Or.inr (Or.inr ⟨y0, y1, y2, y3, y4, y5, q1, a1, cA1, len1, f1, y6, ?_, y8⟩)
            rw [List.getElem?_set_ne (fun eq => by rw [eq] at hq; rw [hq] at y7; cases y7)]
            exact y7
          · rw [Bool.or_eq_true] at hz2
            rcases hz2 with hz2 | hz2
            · exact absurd (eq_of_beq hz2) z0
            · rw [Bool.not_eq_true', List.any_eq_false] at hz2
              by_cases eq : q = q1
              · subst eq
                rw [hq] at z3
                cases z3
                rw [ht] at z2
                have e2 := Option.some.inj z2
                have hne : x.1 ≠ z.2.1 := by
                  intro en
                  refine hz2 t htm ?_
                  rw [hxT, e2]
                  simp [en]
                refine Or.inr (Or.inl ⟨z0, z1, q, a, (td'.2.1, fs.set x.1 u), v1, by rw [ht, e2], ?_, ?_, z5.mv hx'⟩)
                · rw [List.getElem?_set_self (List.getElem?_eq_some_iff.mp hq).1]
                · dsimp only
                  rw [List.getElem?_set_ne hne]
                  exact z4
              · refine Or.inr (Or.inl ⟨z0, z1, q1, a1, o1, v1, z2, ?_, z4, z5.mv hx'⟩)
                rw [List.getElem?_set_ne eq]
                exact z3
      rcases l7 with ⟨lk, lf | ⟨lf, li, lo⟩⟩ | ⟨lf, host, lk⟩
      · exact va_put x1 x2 l1 l2 ty0 l3 l4 x3 x4 hP hD hS q hq l5 x.1 l6 lk l8 lf (l3 _ l6) hnf.1 hnf.2 hlen hdg go
      · exact va_putF x1 x2 l1 l2 ty0 l3 l4 x3 x4 hP hD hS q hq l5 x.1 l6 lk l8 lf li lo (l3 _ l6) hnf.1 hnf.2 hlen hdg go
      · exact va_putN x1 x2 l1 l2 ty0 l3 l4 x3 x4 hP hD hS q hq l5 x.1 l6 lk l8 lf (l3 _ l6) hnf.1 hnf.2 hlen hdg go
    · cases h6
  · cases h
end
end
section
def ck_eT (kd : Nat) (td : ck_D) (T : ck_T) : Prop := if kd = 2 then T = (1, 0, 0, []) else if kd = 4 then T = (0, 0, 1, []) else td.2.2.2[0]? = some T
section
variable {p : Program} {l : Launch} {e : Env} {R : Room} {s : State} {m : MethodId} {args : Array Value} {below : List Frame} {meth : Method} {c : Code} {Q : State → Prop} {cc : ByteArray} {own : String} {D : va_G} {cl : List vw_C} {tys : List (ClassId × FieldType)} {M : ck_Me} {sc : ck_sc} {A : Nat → Prop} {ws0 : va_W} {sh0 : List Nat} {k : ck_S → Bool} {S : ck_S} {pc pc' : Nat}
theorem ck_el_ok {kd i t : Nat} {T : ck_T} (h : ck_el M S kd i t = some T) : ∃ td, (mTT M)[t]? = some td ∧ td.1 = kd ∧ ck_bd M S i td.2.1 = true ∧ ck_eT kd td T := by
  unfold ck_el at h
  split at h
  · rename_i td htd
    split at h
    · rename_i h0
      refine ⟨td, htd, h0.1, h0.2, ?_⟩
      unfold ck_eT
      split at h
      · rename_i z
        rw [if_pos z]
        exact (Option.some.inj h).symm
      · rename_i z
        rw [if_neg z]
        split at h
        · rename_i z
          rw [if_pos z]
          exact (Option.some.inj h).symm
        · rename_i z
          rw [if_neg z]
          exact h
    · cases h
  · cases h
theorem ck_bd_ok {nL : Nat} {SG : List Nat} {n : ck_N} {ws : va_W} {sh : List Nat} {ls : Array Slot} {vs : List Value} (o : ck_so nL SG S n ws sh sc ls vs) {i N : Nat} (h : ck_bd M S i N = true) {x : Int32} (hx : x.toInt = (n i).1) : vp_in x N ∧ x.toNatClampNeg < N := by
  unfold ck_bd at h
  rw [Bool.and_eq_true] at h
  have p1 := ck_ent_ok o.2.2.2.2.1 o.2.2.2.2.2 _ _ _ _ h.1
  have p2 := ck_ent_ok o.2.2.2.2.1 o.2.2.2.2.2 _ _ _ _ h.2
  rw [o.1.2] at p1 p2
  have hn : x.toNatClampNeg = x.toInt.toNat := rfl
  have h0 : ¬ x < 0 := fun z => by
    have := Int32.lt_iff_toInt_lt.mp z
    rw [Int32.toInt_zero] at this
    omega
  have h1 : x.toNatClampNeg < N := by rw [hn]; omega
  exact ⟨fun z => z.elim h0 (fun z => by omega), h1⟩
theorem ck_ald_ok (X : ck_cx p l e R s m args below meth c cc own D cl tys M sc A) {kd : Nat} (h : ck_ald M kd S k = true) (hk : ∀ S, k S = true → ck_g p l e R s m args below meth c Q D cl tys M sc A ws0 sh0 S (pc + 1))
    (row : ∀ (H : Heap) (locs : List Loc) (ls : Array Slot) (vs : List Value) (ws : va_W) (sh : List Nat) (q a : Nat) (eo : va_E) (td : ck_D) (x : Int32) (T : ck_T), va_P D cl ws H → ws[q]? = some (a, eo) → td.1 = kd → ck_co tys ws sh td eo → vp_in x td.2.1 → x.toNatClampNeg < td.2.1 →
      ck_eT kd td T → (∀ v, ck_fo ws sh T v → W p l e R s m args below meth c H locs (ck_oc R M + S.2.2.2.2.2.1) (ck_os R M + S.2.2.2.2.2.2) Q (F0 m (pc + 1) ls (v :: vs))) → W p l e R s m args below meth c H locs (ck_oc R M + S.2.2.2.2.2.1) (ck_os R M + S.2.2.2.2.2.2) Q (F0 m pc ls (.int x :: .ref a :: vs))) : ck_g p l e R s m args below meth c Q D cl tys M sc A ws0 sh0 S pc := by
  intro n ws sh H locs ls vs o hw hx hP hD hS
  unfold ck_ald at h
  split at h
  · rename_i i r st hst
    have o3 := o.2.2.1
    rw [hst] at o3
    obtain ⟨v, vs1, rfl, h2, h3⟩ := ck_hd o3
    obtain ⟨ra, vs2, rfl, h4, h5⟩ := ck_hd h3
    rw [Bool.and_eq_true, Bool.and_eq_true] at h
    obtain ⟨hi, hr2, h6⟩ := h
    obtain ⟨-, x, rfl, ex⟩ := h2.i (eq_of_beq hi)
    obtain ⟨-, -, q, a, e, t, rfl, hq, ht, htm⟩ := h4.r (eq_of_beq hr2)
    split at h6
    · rename_i T hT
      obtain ⟨y, hy, hyT⟩ := ck_jts_ok (ws := ws) (sh := sh) hT t htm
      obtain ⟨td, f1, f2, f3, f4⟩ := ck_el_ok hy
      obtain ⟨td', g1, g2⟩ := hw.2.1 q a e t hq ht
      have e1 : td' = td := Option.some.inj (g1.symm.trans f1)
      subst e1
      obtain ⟨b1, b2⟩ := ck_bd_ok o f3 ex
      refine row H locs ls vs2 ws sh q a e td' x y hP hq f2 g2 b1 b2 f4 (fun v hv => ?_)
      split at h6
      · rename_i S' hS'
        obtain ⟨n', o', ec⟩ := ck_pt_ok hS' o h5 (hyT v hv)
        exact (hk _ h6).at o' hw hx hP hD hS ec
      · cases h6
    · cases h6
  · cases h
theorem ck_iald_ok (X : ck_cx p l e R s m args below meth c cc own D cl tys M sc A) (h : ck_ald M 1 S k = true) (hk : ∀ S, k S = true → ck_g p l e R s m args below meth c Q D cl tys M sc A ws0 sh0 S (pc + 1)) (hdg : decode cc pc = .ok (.iaload, 1)) : ck_g p l e R s m args below meth c Q D cl tys M sc A ws0 sh0 S pc := by
  refine ck_ald_ok X h hk ?_
  intro H locs ls vs ws sh q a e td x T hP hq hk1 hco hin hlt hT kk
  unfold ck_co at hco
  rw [hk1] at hco
  obtain ⟨cA, f, t1, rfl, t3⟩ := hco
  rw [ck_eT, if_neg (by decide), if_neg (by decide)] at hT
  obtain ⟨u1, u2⟩ := t3 T hT
  refine va_iald X.1 X.2.1 X.2.2.2.1 hP q _ hq t1 hin hdg (kk _ ?_)
  unfold ck_fo
  rw [u1]
  exact ⟨_, rfl, u2 _ hlt⟩
theorem ck_lald_ok (X : ck_cx p l e R s m args below meth c cc own D cl tys M sc A) (h : ck_ald M 2 S k = true) (hk : ∀ S, k S = true → ck_g p l e R s m args below meth c Q D cl tys M sc A ws0 sh0 S (pc + 1)) (hdg : decode cc pc = .ok (.laload, 1)) : ck_g p l e R s m args below meth c Q D cl tys M sc A ws0 sh0 S pc := by
  refine ck_ald_ok X h hk ?_
  intro H locs ls vs ws sh q a e td x T hP hq hk1 hco hin hlt hT kk
  unfold ck_co at hco
  rw [hk1] at hco
  obtain ⟨cA, f, t1, rfl⟩ := hco
  rw [ck_eT, if_pos rfl] at hT
  subst hT
  exact va_lald X.1 X.2.1 X.2.2.2.1 hP q _ hq t1 hin hdg (kk _ ⟨_, rfl⟩)
theorem ck_zald_ok (X : ck_cx p l e R s m args below meth c cc own D cl tys M sc A) (h : ck_ald M 4 S k = true) (hk : ∀ S, k S = true → ck_g p l e R s m args below meth c Q D cl tys M sc A ws0 sh0 S (pc + 1)) (hdg : decode cc pc = .ok (.baload, 1)) : ck_g p l e R s m args below meth c Q D cl tys M sc A ws0 sh0 S pc := by
  refine ck_ald_ok X h hk ?_
  intro H locs ls vs ws sh q a e td x T hP hq hk1 hco hin hlt hT kk
  unfold ck_co at hco
  rw [hk1] at hco
  obtain ⟨cA, f, t1, rfl, t3⟩ := hco
  rw [ck_eT, if_neg (by decide), if_pos rfl] at hT
  subst hT
  exact va_zald X.1 X.2.1 X.2.2.2.1 hP q _ hq t1 hin hdg (kk _ ⟨_, rfl, t3 _ hlt⟩)
theorem ck_aald_ok (X : ck_cx p l e R s m args below meth c cc own D cl tys M sc A) (h : ck_ald M 3 S k = true) (hk : ∀ S, k S = true → ck_g p l e R s m args below meth c Q D cl tys M sc A ws0 sh0 S (pc + 1)) (hdg : decode cc pc = .ok (.aaload, 1)) : ck_g p l e R s m args below meth c Q D cl tys M sc A ws0 sh0 S pc := by
  refine ck_ald_ok X h hk ?_
  intro H locs ls vs ws sh q a e td x T hP hq hk1 hco hin hlt hT kk
  unfold ck_co at hco
  rw [hk1] at hco
  obtain ⟨cA, C, f, t1, rfl, t3⟩ := hco
  rw [ck_eT, if_neg (by decide), if_neg (by decide)] at hT
  exact va_aldq X.1 X.2.1 X.2.2.2.1 hP q _ hq t1 hin hdg (kk _ (t3 T hT _ hlt))
theorem ck_aald5_ok (X : ck_cx p l e R s m args below meth c cc own D cl tys M sc A) (h : ck_ald M 5 S k = true) (hk : ∀ S, k S = true → ck_g p l e R s m args below meth c Q D cl tys M sc A ws0 sh0 S (pc + 1)) (hdg : decode cc pc = .ok (.aaload, 1)) : ck_g p l e R s m args below meth c Q D cl tys M sc A ws0 sh0 S pc := by
  refine ck_ald_ok X h hk ?_
  intro H locs ls vs ws sh q a e td x T hP hq hk1 hco hin hlt hT kk
  unfold ck_co at hco
  rw [hk1] at hco
  obtain ⟨cA, f, t1, rfl, t3⟩ := hco
  rw [ck_eT, if_neg (by decide), if_neg (by decide)] at hT
  have hc : H[a]? = some (vp_cell cA (td.2.1, .inr (.inr (.inr (.inr f))))) := hP q _ hq
  have hA := (X.2.2.2.1.2 _ _ t1).1
  have e1 : vp_cell cA (td.2.1, .inr (.inr (.inr (.inr f)))) = arrV cA td.2.1 (fun j => va_rf (f j)) := rfl
  rw [e1] at hc
  refine W.aald X.1 X.2.1 hc (ty := .array .int) (hA _ _) rfl (by simp [arrV]) (j := x) (v := va_rf (f x.toNatClampNeg)) (by simpa [arrV, vp_in] using hin) ?_ (g := F0 m pc ls (.int x :: .ref a :: vs)) rfl rfl hdg (kk _ (t3 T hT _ hlt))
  simp [arrV, hlt]
theorem ck_ast_ok (X : ck_cx p l e R s m args below meth c cc own D cl tys M sc A) {kd : Nat} (h : ck_ast M kd S k = true) (hk : ∀ S, k S = true → ck_g p l e R s m args below meth c Q D cl tys M sc A ws0 sh0 S (pc + 1))
    (row : ∀ (H : Heap) (locs : List Loc) (ls : Array Slot) (vs : List Value) (ws : va_W) (sh : List Nat) (q a : Nat) (eo : va_E) (td : ck_D) (x : Int32) (T : ck_T) (u : Value), va_P D cl ws H → va_D A ws → va_S A s.heap H locs → ws[q]? = some (a, eo) → td.1 = kd → ck_co tys ws sh td eo → vp_in x td.2.1 →
      ck_eT kd td T → (kd = 4 → ∃ z : Int32, u = .int z) → (kd ≠ 4 → ck_fo ws sh T u) → (∀ (e' : va_E) (H1 : Heap) (locs1 : List Loc), (∃ y y', eo = .inl y ∧ e' = .inl y') → ck_co tys ws sh td e' → va_P D cl (ws.set q (a, e')) H1 → va_D A (ws.set q (a, e')) → va_S A s.heap H1 locs1 → W p l e R s m args below meth c H1 locs1 (ck_oc R M + S.2.2.2.2.2.1) (ck_os R M + S.2.2.2.2.2.2) Q (F0 m (pc + 1) ls vs)) → W p l e R s m args below meth c H locs (ck_oc R M + S.2.2.2.2.2.1) (ck_os R M + S.2.2.2.2.2.2) Q (F0 m pc ls (u :: .int x :: .ref a :: vs))) : ck_g p l e R s m args below meth c Q D cl tys M sc A ws0 sh0 S pc := by
  intro n ws sh H locs ls vs o hw hx hP hD hS
  unfold ck_ast at h
  split at h
  · rename_i v i r st hst
    have o3 := o.2.2.1
    rw [hst] at o3
    obtain ⟨u, vs0, rfl, h1, h1'⟩ := ck_hd o3
    obtain ⟨iv, vs1, rfl, h2, h3⟩ := ck_hd h1'
    obtain ⟨ra, vs2, rfl, h4, h5⟩ := ck_hd h3
    rw [Bool.and_eq_true, Bool.and_eq_true, Bool.and_eq_true] at h
    obtain ⟨hi, hr2, hall, hcont⟩ := h
    obtain ⟨-, x, rfl, ex⟩ := h2.i (eq_of_beq hi)
    obtain ⟨-, -, q, a, e, t, rfl, hq, ht, htm⟩ := h4.r (eq_of_beq hr2)
    have h6 := List.all_eq_true.mp hall t htm
    split at h6
    · rename_i T hT
      rw [Bool.and_eq_true] at h6
      obtain ⟨hwr, hfit⟩ := h6
      obtain ⟨td, f1, f2, f3, f4⟩ := ck_el_ok hT
      obtain ⟨td', g1, g2⟩ := hw.2.1 q a e t hq ht
      have e1 : td' = td := Option.some.inj (g1.symm.trans f1)
      subst e1
      obtain ⟨b1, b2⟩ := ck_bd_ok o f3 ex
      refine row H locs ls vs2 ws sh q a e td' x T u hP hD hS hq f2 g2 b1 f4 (fun z => ?_) (fun z => ?_) (fun e' H1 locs1 he hco hP1 hD1 hS1 => ?_)
      · rw [if_pos z] at hfit
        obtain ⟨-, w, rfl, -⟩ := h1.i (eq_of_beq hfit)
        exact ⟨w, rfl⟩
      · rw [if_neg z] at hfit
        exact ck_fit_ok o hfit h1
      · obtain ⟨y, y', rfl, rfl⟩ := he
        have hsm : ck_sm (mWr M) t (.inl y) (.inl y') := fun z => absurd (List.contains_iff_mem.mp hwr) z
        obtain ⟨hw', hx'⟩ := ck_wo_set (Wr := mWr M) hw hq ht hsm f1 hco
        refine ck_g.at (hk _ hcont) ⟨o.1, o.2.1.mv hx', h5.imp fun _ _ z => z.mv hx', fun z hz => ?_, o.2.2.2.2⟩ hw' (hx.tr (fun _ z => z) hx') hP1 hD1 hS1 rfl
        obtain ⟨hz, hzf⟩ := List.mem_filter.mp hz
        rcases o.2.2.2.1 z hz with q1 | ⟨z0, z1, q1, a1, o1, v1, z2, z3, z4, z5⟩ | ⟨y0, y1, y2, y3, y4, y5, q1, a1, cA1, len1, f1, y6, y7, y8⟩
        · exact Or.inl q1
        rotate_left
        · refine Or.inr (Or.inr ⟨y0, y1, y2, y3, y4, y5, q1, a1, cA1, len1, f1, y6, ?_, y8⟩)
          rw [List.getElem?_set_ne (fun eq => by
            rw [eq] at ht
            rw [y6] at ht
            have et := Option.some.inj ht
            rw [Bool.or_eq_true, decide_eq_true_eq, Bool.not_eq_true'] at hzf
            rcases hzf with w | w
            · omega
            · rw [et, List.contains_iff_mem.mpr htm] at w
              cases w)]
          exact y7
        · have eq : q ≠ q1 := by
            intro eq
            subst eq
            rw [hq] at z3
            cases z3
          exact Or.inr (Or.inl ⟨z0, z1, q1, a1, o1, v1, z2, by rw [List.getElem?_set_ne eq]; exact z3, z4, z5.mv hx'⟩)
    · cases h6
  · cases h
theorem ck_iast_ok (X : ck_cx p l e R s m args below meth c cc own D cl tys M sc A) (h : ck_ast M 1 S k = true) (hk : ∀ S, k S = true → ck_g p l e R s m args below meth c Q D cl tys M sc A ws0 sh0 S (pc + 1)) (hdg : decode cc pc = .ok (.iastore, 1)) : ck_g p l e R s m args below meth c Q D cl tys M sc A ws0 sh0 S pc := by
  refine ck_ast_ok X h hk ?_
  intro H locs ls vs ws sh q a e td x T u hP hD hS hq hk1 hco hin hT h4 hfo kk
  have hfo := hfo (by decide)
  unfold ck_co at hco
  rw [hk1] at hco
  obtain ⟨cA, f, t1, rfl, t3⟩ := hco
  rw [ck_eT, if_neg (by decide), if_neg (by decide)] at hT
  obtain ⟨u1, u2⟩ := t3 T hT
  unfold ck_fo at hfo
  rw [u1] at hfo
  obtain ⟨z, rfl, z1, z2⟩ := hfo
  refine va_iast X.1 X.2.1 X.2.2.2.1 hP hD hS q _ hq t1 hin hdg (fun H1 locs1 hP1 hD1 hS1 => kk _ H1 locs1 ⟨_, _, rfl, rfl⟩ ?_ hP1 hD1 hS1)
  unfold ck_co
  rw [hk1]
  refine ⟨cA, _, t1, rfl, fun T' hT' => ?_⟩
  have eT : T' = T := Option.some.inj (hT'.symm.trans hT)
  subst eT
  refine ⟨u1, fun j hj => ?_⟩
  unfold upd
  split
  · exact ⟨z1, z2⟩
  · exact u2 j hj
theorem ck_last_ok (X : ck_cx p l e R s m args below meth c cc own D cl tys M sc A) (h : ck_ast M 2 S k = true) (hk : ∀ S, k S = true → ck_g p l e R s m args below meth c Q D cl tys M sc A ws0 sh0 S (pc + 1)) (hdg : decode cc pc = .ok (.lastore, 1)) : ck_g p l e R s m args below meth c Q D cl tys M sc A ws0 sh0 S pc := by
  refine ck_ast_ok X h hk ?_
  intro H locs ls vs ws sh q a e td x T u hP hD hS hq hk1 hco hin hT h4 hfo kk
  have hfo := hfo (by decide)
  unfold ck_co at hco
  rw [hk1] at hco
  obtain ⟨cA, f, t1, rfl⟩ := hco
  rw [ck_eT, if_pos rfl] at hT
  subst hT
  obtain ⟨z, rfl⟩ := hfo
  refine va_last X.1 X.2.1 X.2.2.2.1 hP hD hS q _ hq t1 hin hdg (fun H1 locs1 hP1 hD1 hS1 => kk _ H1 locs1 ⟨_, _, rfl, rfl⟩ ?_ hP1 hD1 hS1)
  unfold ck_co
  rw [hk1]
  exact ⟨cA, _, t1, rfl⟩
theorem ck_zast_ok (X : ck_cx p l e R s m args below meth c cc own D cl tys M sc A) (h : ck_ast M 4 S k = true) (hk : ∀ S, k S = true → ck_g p l e R s m args below meth c Q D cl tys M sc A ws0 sh0 S (pc + 1)) (hdg : decode cc pc = .ok (.bastore, 1)) : ck_g p l e R s m args below meth c Q D cl tys M sc A ws0 sh0 S pc := by
  refine ck_ast_ok X h hk ?_
  intro H locs ls vs ws sh q a e td x T u hP hD hS hq hk1 hco hin hT h4 hfo kk
  obtain ⟨z, rfl⟩ := h4 rfl
  unfold ck_co at hco
  rw [hk1] at hco
  obtain ⟨cA, f, t1, rfl, t3⟩ := hco
  refine va_zast X.1 X.2.1 X.2.2.2.1 hP hD hS q _ hq t1 hin hdg (fun H1 locs1 hP1 hD1 hS1 => kk _ H1 locs1 ⟨_, _, rfl, rfl⟩ ?_ hP1 hD1 hS1)
  unfold ck_co
  rw [hk1]
  refine ⟨cA, _, t1, rfl, fun j hj => ?_⟩
  unfold upd
  split
  · have e1 : vp_nar .boolean z = z &&& 1 := rfl
    rw [e1]
    have := ck_and_r (a := z.toBitVec) (b := (1 : Int32).toBitVec) (by decide)
    exact ⟨this.1, Int.le_trans this.2 (by decide)⟩
  · exact t3 j hj
end
end
section
def ck_ha (s : State) (tys : List (ClassId × FieldType)) (cl : List vw_C) (x : Nat × Nat) : Prop := ∃ (cA : ClassId) (E : String) (r : vw_C), tys[x.1]? = some (cA, .object E) ∧ cl[x.2]? = some r ∧ (r.1 = E ∨ va_Nw (.castable r.1 E) s)
def ck_hs (s : State) (args : Array Value) (own : String) (sc : ck_sc) (i : Nat) : Prop := sc.2.1.isSome = true ∧ ∃ ref, (Cond.fieldLink own i ref "WITH" "[J").before args s = true ∧ ∀ x, s.fieldFound? "ReasonDesk$Bits" "WITH" "[J" = some x → s.fieldFound? ref "WITH" "[J" = some x
def ck_hn (s : State) (args : Array Value) (own : String) (cl : List vw_C) (TT : List ck_D) (x : Nat × Nat × Nat × Nat) : Prop := ∃ (C : String) (T : u_T) (Ts : List Cond) (ty : Nat → FieldType), (∀ w ∈ Ts, w.before args s = true) ∧ (∀ w ∈ u_ws C T x.2.2.2, w ∈ Ts) ∧ (∀ k, k < x.2.2.2 → parseFieldDescriptor (T k).2.2.1 = some (ty k)) ∧ (Cond.classLink own x.1 C).before args s = true ∧ (Cond.instantiable C x.2.2.2).before args s = true ∧ (Cond.initialized C).before args s = true ∧ cl[x.2.1]? = some (C, T, x.2.2.2) ∧
  ∀ td, TT[x.2.2.1]? = some td → ∀ (j : Nat) (t : ck_T), td.2.2.2[j]? = some t → (t.1 = 0 → defaultValue (ty j) = .int 0) ∧ (t.1 = 3 → defaultValue (ty j) = .null)
def ck_hi (s : State) (args : Array Value) (own : String) (cl : List vw_C) (x : Nat × Nat × Nat) : Prop := ∃ (r : vw_C) (nm : String), cl[x.2.1]? = some r ∧ (Cond.classLink own x.1 nm).before args s = true ∧ ((x.2.2 = 1 ∧ (r.1 = nm ∨ va_Nw (.castable r.1 nm) s)) ∨ (x.2.2 = 0 ∧ va_Nc r.1 nm s))
def ck_hx (s : State) (args : Array Value) (own : String) (cl : List vw_C) (x : Nat × Nat) : Prop := ∃ (r : vw_C) (nm : String), cl[x.2]? = some r ∧ (Cond.classLink own x.1 nm).before args s = true ∧ (r.1 = nm ∨ va_Nw (.castable r.1 nm) s)
section
variable {p : Program} {l : Launch} {e : Env} {R : Room} {s : State} {m : MethodId} {args : Array Value} {below : List Frame} {meth : Method} {c : Code} {Q : State → Prop} {cc : ByteArray} {own : String} {D : va_G} {cl : List vw_C} {tys : List (ClassId × FieldType)} {M : ck_Me} {sc : ck_sc} {A : Nat → Prop} {ws0 : va_W} {sh0 : List Nat} {k : ck_S → Bool} {S : ck_S} {pc pc' : Nat}
theorem ck_aast_ok (X : ck_cx p l e R s m args below meth c cc own D cl tys M sc A) (hal : ∀ x ∈ mal M, ck_ha s tys cl x) (h : ck_aast M S k = true) (hk : ∀ S, k S = true → ck_g p l e R s m args below meth c Q D cl tys M sc A ws0 sh0 S (pc + 1)) (hdg : decode cc pc = .ok (.aastore, 1)) : ck_g p l e R s m args below meth c Q D cl tys M sc A ws0 sh0 S pc := by
  intro n ws sh H locs ls vs o hw hx hP hD hS
  unfold ck_aast at h
  split at h
  · rename_i v i r st hst
    have o3 := o.2.2.1
    rw [hst] at o3
    obtain ⟨u, vs0, rfl, h1, h1'⟩ := ck_hd o3
    obtain ⟨iv, vs1, rfl, h2, h3⟩ := ck_hd h1'
    obtain ⟨ra, vs2, rfl, h4, h5⟩ := ck_hd h3
    rw [Bool.and_eq_true, Bool.and_eq_true, Bool.and_eq_true] at h
    obtain ⟨hi, hr2, hall, hcont⟩ := h
    obtain ⟨-, x, rfl, ex⟩ := h2.i (eq_of_beq hi)
    obtain ⟨-, -, q, a, e', t, rfl, hq, ht, htm⟩ := h4.r (eq_of_beq hr2)
    have h6 := List.all_eq_true.mp hall t htm
    unfold ck_aso at h6
    split at h6
    · rename_i td f1
      rw [Bool.and_eq_true, Bool.and_eq_true, Bool.and_eq_true] at h6
      obtain ⟨f2, f3, hwr, h7⟩ := h6
      have f2 := eq_of_beq f2
      obtain ⟨td', g1, g2⟩ := hw.2.1 q a e' t hq ht
      have e1 : td' = td := Option.some.inj (g1.symm.trans f1)
      subst e1
      obtain ⟨b1, b2⟩ := ck_bd_ok o f3 ex
      split at h7
      · rename_i T hT
        rw [Bool.and_eq_true, Bool.and_eq_true] at h7
        obtain ⟨⟨h8, h9⟩, h10⟩ := h7
        unfold ck_co at g2
        rw [f2] at g2
        obtain ⟨cA, C, f, t1, rfl, t3⟩ := g2
        have t3 := t3 T (by rw [hT]; rfl)
        -- the value: null, or a cell of one of the element's types, whose class may be stored
        have hT23 : T.1 = 2 ∨ T.1 = 3 := by
          rw [Bool.or_eq_true] at h10
          exact h10.imp eq_of_beq eq_of_beq
        have hval : (u = .null ∧ T.1 = 3) ∨ (ck_rf ws sh v.2.2 u ∧ v.1 ≠ 4) := by
          have hu := h1
          unfold ck_vo at hu
          rw [Bool.or_eq_true, Bool.and_eq_true, Bool.or_eq_true] at h9
          rcases h9 with z | ⟨z | z, z2⟩
          · rw [eq_of_beq z] at hu
            exact Or.inr ⟨hu.2.2, by rw [eq_of_beq z]; decide⟩
          · rw [eq_of_beq z] at hu
            rcases hu.2.2 with w | w
            · exact Or.inl ⟨w, eq_of_beq z2⟩
            · exact Or.inr ⟨w, by rw [eq_of_beq z]; decide⟩
          · rw [eq_of_beq z] at hu
            exact Or.inl ⟨hu.2.2, eq_of_beq z2⟩
        have fin : ∀ (w : Option Nat) (H1 : Heap) (locs1 : List Loc), ck_fo ws sh T (va_rf w) → va_P D cl (ws.set q (a, .inl (cA, td'.2.1, .inr (.inr (.inr (.inr (va_up f x.toNatClampNeg w))))))) H1 → va_D A (ws.set q (a, .inl (cA, td'.2.1, .inr (.inr (.inr (.inr (va_up f x.toNatClampNeg w))))))) → va_S A s.heap H1 locs1 → W p l e R s m args below meth c H1 locs1 (ck_oc R M + S.2.2.2.2.2.1) (ck_os R M + S.2.2.2.2.2.2) Q (F0 m (pc + 1) ls vs2) := by
          intro w H1 locs1 hfo hP1 hD1 hS1
          have hsm : ck_sm (mWr M) t (.inl (cA, td'.2.1, .inr (.inr (.inr (.inr f))))) (.inl (cA, td'.2.1, .inr (.inr (.inr (.inr (va_up f x.toNatClampNeg w)))))) := fun z => absurd (List.contains_iff_mem.mp hwr) z
          have hco : ck_co tys ws sh td' (.inl (cA, td'.2.1, .inr (.inr (.inr (.inr (va_up f x.toNatClampNeg w)))))) := by
            unfold ck_co
            rw [f2]
            refine ⟨cA, C, _, t1, rfl, fun T' hT' j hj => ?_⟩
            rw [hT] at hT'
            have eT := Option.some.inj hT'
            subst eT
            unfold va_up
            split
            · exact hfo
            · exact t3 j hj
          obtain ⟨hw', hx'⟩ := ck_wo_set (Wr := mWr M) hw hq ht hsm f1 hco
          refine ck_g.at (hk _ hcont) ⟨o.1, o.2.1.mv hx', h5.imp fun _ _ z => z.mv hx', fun z hz => ?_, o.2.2.2.2⟩ hw' (hx.tr (fun _ z => z) hx') hP1 hD1 hS1 rfl
          rcases o.2.2.2.1 z hz with q1 | ⟨z0, z1, q1, a1, o1, v1, z2, z3, z4, z5⟩ | ⟨y0, y1, y2, y3, y4, y5, q1, a1, cA1, len1, f1, y6, y7, y8⟩
          · exact Or.inl q1
          rotate_left
          · refine Or.inr (Or.inr ⟨y0, y1, y2, y3, y4, y5, q1, a1, cA1, len1, f1, y6, ?_, y8⟩)
            rw [List.getElem?_set_ne (fun eq => by rw [eq] at hq; rw [hq] at y7; cases y7)]
            exact y7
          · have eq : q ≠ q1 := by
              intro eq
              subst eq
              rw [hq] at z3
              cases z3
            exact Or.inr (Or.inl ⟨z0, z1, q1, a1, o1, v1, z2, by rw [List.getElem?_set_ne eq]; exact z3, z4, z5.mv hx'⟩)
        rcases hval with ⟨rfl, z3⟩ | ⟨hrf, hne⟩
        · refine va_astqN X.1 X.2.1 X.2.2.2.1 hP hD hS q _ hq t1 b1 hdg (fun H1 locs1 hP1 hD1 hS1 => fin none H1 locs1 ?_ hP1 hD1 hS1)
          unfold ck_fo
          rw [z3]
          exact Or.inl rfl
        · obtain ⟨qk, ak, ek, tk, rfl, k1, k2, k3⟩ := id hrf
          rw [Bool.or_eq_true] at h8
          rcases h8 with z | z
          · exact absurd (eq_of_beq z) hne
          have z := List.all_eq_true.mp z tk k3
          rw [Bool.and_eq_true] at z
          obtain ⟨z6, z7⟩ := z
          split at z7
          · rename_i ud hud
            rw [Bool.and_eq_true] at z7
            obtain ⟨ud', i1, i2⟩ := hw.2.1 qk ak ek tk k1 k2
            have e2 : ud' = ud := Option.some.inj (i1.symm.trans hud)
            subst e2
            unfold ck_co at i2
            rw [eq_of_beq z7.1] at i2
            obtain ⟨fs, rfl, -⟩ := i2
            obtain ⟨cA', E, rc, m1, m2, m3⟩ := hal _ (List.contains_iff_mem.mp z7.2)
            have hfo : ck_fo ws sh T (va_rf (some ak)) := by
              have hrf2 : ck_rf ws sh T.2.2.2 (.ref ak) := ⟨qk, ak, _, tk, rfl, k1, k2, List.contains_iff_mem.mp z6⟩
              unfold ck_fo
              rcases hT23 with w | w <;> rw [w]
              · exact hrf2
              · exact Or.inr hrf2
            have et : (cA', FieldType.object E) = (cA, FieldType.object C) := Option.some.inj (m1.symm.trans t1)
            cases et
            rcases m3 with m3 | m3
            · subst m3
              exact va_astq X.1 X.2.1 X.2.2.2.1 hP hD hS q _ qk ud'.2.1 hq t1 k1 m2 b1 hdg (fun H1 locs1 hP1 hD1 hS1 => fin (some ak) H1 locs1 hfo hP1 hD1 hS1)
            · exact va_astqO X.1 X.2.1 X.2.2.2.1 hP hD hS q _ qk ud'.2.1 hq t1 m3 k1 m2 b1 hdg (fun H1 locs1 hP1 hD1 hS1 => fin (some ak) H1 locs1 hfo hP1 hD1 hS1)
          · cases z7
      · cases h7
    · cases h6
  · cases h
theorem ck_len_ok (X : ck_cx p l e R s m args below meth c cc own D cl tys M sc A) (h : ck_len M S k = true) (hk : ∀ S, k S = true → ck_g p l e R s m args below meth c Q D cl tys M sc A ws0 sh0 S (pc + 1)) (hdg : decode cc pc = .ok (.arraylength, 1)) : ck_g p l e R s m args below meth c Q D cl tys M sc A ws0 sh0 S pc := by
  intro n ws sh H locs ls vs o hw hx hP hD hS
  unfold ck_len at h
  split at h
  · rename_i r st hst
    have o3 := o.2.2.1
    rw [hst] at o3
    obtain ⟨ra, vs2, rfl, h4, h5⟩ := ck_hd o3
    split at h
    · rename_i e5
      have hv := h4
      unfold ck_vo at hv
      rw [e5] at hv
      obtain ⟨hl, b, L, xs, z1, rfl, z2⟩ := hv
      obtain ⟨y1, y2, y3, y4⟩ := X.2.2.2.2.2.2.2.2.1 b L xs z1
      refine va_slen X.1 X.2.1 y1 y2 y3 hS hdg ((hk _ h).at (o.ss ⟨.mi hl ?_, h5⟩) hw hx hP hD hS rfl)
      rw [z2, Int32.toInt_ofNat_of_lt y4]
    · split at h
      · rename_i e6
        have hv := h4
        unfold ck_vo at hv
        rw [e6] at hv
        obtain ⟨hl, w, z1, rfl⟩ := hv
        obtain ⟨-, f, y1⟩ := X.2.2.2.2.2.2.2.2.2 w z1
        refine va_tlen X.1 X.2.1 y1 hS rfl hdg (ck_push (hk _ h) o hw hx hP hD hS h5 (z := 6) ⟨Int.le_refl _, Int.le_refl _⟩ (fun _ _ _ g1 g2 => .mi g1 ?_))
        rw [g2]
        decide
      · rw [Bool.and_eq_true] at h
        obtain ⟨-, -, q, a, e', t, rfl, hq, ht, htm⟩ := h4.r (eq_of_beq h.1)
        have h6 := h.2
        split at h6
        · rename_i t0 ts hts
          split at h6
          · rename_i td0 htd0
            rw [Bool.and_eq_true, Bool.and_eq_true] at h6
            have hb := of_decide_eq_true h6.1
            have h7 := List.all_eq_true.mp h6.2.1 t htm
            unfold ck_isn at h7
            split at h7
            · rename_i td f1
              rw [Bool.and_eq_true] at h7
              obtain ⟨td', g1, g2⟩ := hw.2.1 q a e' t hq ht
              have e1 : td' = td := Option.some.inj (g1.symm.trans f1)
              subst e1
              have en := eq_of_beq h7.2
              have key : ∃ (cA : ClassId) (y : vp_A) (ty : FieldType), e' = .inl (cA, y) ∧ y.1 = td'.2.1 ∧ tys[td'.2.2.1]? = some (cA, ty) := by
                simp only [Bool.or_eq_true, beq_iff_eq] at h7
                unfold ck_co at g2
                rcases h7.1 with z | z | z | z | z <;> rw [z] at g2
                · obtain ⟨cA, f, t1, rfl, -⟩ := g2
                  exact ⟨cA, _, _, rfl, rfl, t1⟩
                · obtain ⟨cA, f, t1, rfl⟩ := g2
                  exact ⟨cA, _, _, rfl, rfl, t1⟩
                · obtain ⟨cA, C, f, t1, rfl, -⟩ := g2
                  exact ⟨cA, _, _, rfl, rfl, t1⟩
                · obtain ⟨cA, f, t1, rfl, -⟩ := g2
                  exact ⟨cA, _, _, rfl, rfl, t1⟩
                · obtain ⟨cA, f, t1, rfl, -⟩ := g2
                  exact ⟨cA, _, _, rfl, rfl, t1⟩
              obtain ⟨cA, y, ty, rfl, ey, t1⟩ := key
              refine va_alen X.1 X.2.1 X.2.2.2.1 hP q _ hq t1 rfl hdg (ck_push (hk _ h6.2.2) o hw hx hP hD hS h5 (z := td0.2.1) ⟨Int.le_refl _, Int.le_refl _⟩ (fun _ _ _ g1 g2 => .mi g1 ?_))
              rw [g2, ey, en, Int32.toInt_ofNat_of_lt hb]
            · cases h7
          · cases h6
        · cases h6
  · cases h
theorem ck_sld_ok (X : ck_cx p l e R s m args below meth c cc own D cl tys M sc A) (h : ck_sld M S k = true) (hk : ∀ S, k S = true → ck_g p l e R s m args below meth c Q D cl tys M sc A ws0 sh0 S (pc + 1)) (hdg : decode cc pc = .ok (.iaload, 1)) : ck_g p l e R s m args below meth c Q D cl tys M sc A ws0 sh0 S pc := by
  intro n ws sh H locs ls vs o hw hx hP hD hS
  unfold ck_sld at h
  split at h
  · rename_i i r st hst
    have o3 := o.2.2.1
    rw [hst] at o3
    obtain ⟨iv, vs1, rfl, h2, h3⟩ := ck_hd o3
    obtain ⟨ra, vs2, rfl, h4, h5⟩ := ck_hd h3
    simp only [Bool.and_eq_true] at h
    obtain ⟨hi, hr, b1, b2, h6⟩ := h
    obtain ⟨hl, x, rfl, ex⟩ := h2.i (eq_of_beq hi)
    have hv := h4
    unfold ck_vo at hv
    rw [eq_of_beq hr] at hv
    obtain ⟨-, b, L, xs, z1, rfl, z2⟩ := hv
    obtain ⟨y1, y2, y3, y4⟩ := X.2.2.2.2.2.2.2.2.1 b L xs z1
    have p1 := ck_ent_ok o.2.2.2.2.1 o.2.2.2.2.2 _ _ _ _ b1
    have p2 := ck_ent_ok o.2.2.2.2.1 o.2.2.2.2.2 _ _ _ _ b2
    rw [o.1.2] at p1
    rw [z2] at p2
    have hn : x.toNatClampNeg = x.toInt.toNat := rfl
    have hin : vp_in x L := by
      rintro (z | z)
      · have := Int32.lt_iff_toInt_lt.mp z
        rw [Int32.toInt_zero] at this
        omega
      · omega
    refine va_sld X.1 X.2.1 y1 y2 y3 hS hin hdg ?_
    split at h6
    · rename_i mm hmm
      have hm := List.mem_of_find?_eq_some hmm
      have hp := List.find?_some hmm
      simp only [Bool.and_eq_true, beq_iff_eq] at hp
      rcases o.2.2.2.1 mm hm with ⟨w0, w3, ⟨w2, w1, b', L', xs', w4, w5⟩ | ⟨w2, -⟩⟩ | ⟨w0, -⟩ | ⟨-, w0, -⟩
      · rw [z1] at w4
        cases w4
        refine (hk _ h6).at (o.ss ⟨.mi w3 ?_, h5⟩) hw hx hP hD hS rfl
        rw [w5, hp.2.1, ← ex]
        rfl
      · rw [hp.2.2] at w2
        cases w2
      · exact absurd hp.1 w0
      · exact absurd hp.1 w0
    · have o' := o.new h5 (tag := 0) (ts := []) (iv := ck_top 32) (rs := []) (x := ((xs x.toNatClampNeg).toInt, .null)) (v := .int (xs x.toNatClampNeg)) (.mi (Nat.lt_succ_self _) (by rw [ck_nx_eq])) (fun _ => ck_r32 _) (fun r hr => by cases hr)
      refine ck_g.at (hk _ h6) ⟨o'.1, o'.2.1, o'.2.2.1, fun z hz => ?_, o'.2.2.2.2⟩ hw hx hP hD hS rfl
      rcases List.mem_cons.mp hz with rfl | hz
      · have hlen : (S.2.2.2.1 ++ [ck_top 32]).length = S.2.2.2.1.length + 1 := by simp
        refine Or.inl ⟨rfl, ?_, Or.inl ⟨rfl, ?_, b, L, xs, z1, ?_⟩⟩
        · show S.2.2.2.1.length < (S.2.2.2.1 ++ [ck_top 32]).length
          omega
        · show i.2.1 < (S.2.2.2.1 ++ [ck_top 32]).length
          omega
        · rw [ck_nx_eq, ck_nx_lt _ hl, ← ex]
          rfl
      · exact o'.2.2.2.1 z hz
  · cases h
theorem ck_wld_ok (X : ck_cx p l e R s m args below meth c cc own D cl tys M sc A) (h : ck_wld M S k = true) (hk : ∀ S, k S = true → ck_g p l e R s m args below meth c Q D cl tys M sc A ws0 sh0 S (pc + 1)) (hdg : decode cc pc = .ok (.laload, 1)) : ck_g p l e R s m args below meth c Q D cl tys M sc A ws0 sh0 S pc := by
  intro n ws sh H locs ls vs o hw hx hP hD hS
  unfold ck_wld at h
  split at h
  · rename_i i r st hst
    have o3 := o.2.2.1
    rw [hst] at o3
    obtain ⟨iv, vs1, rfl, h2, h3⟩ := ck_hd o3
    obtain ⟨ra, vs2, rfl, h4, h5⟩ := ck_hd h3
    simp only [Bool.and_eq_true] at h
    obtain ⟨hi, hr, b1, h6⟩ := h
    obtain ⟨hl, x, rfl, ex⟩ := h2.i (eq_of_beq hi)
    have hv := h4
    unfold ck_vo at hv
    rw [eq_of_beq hr] at hv
    obtain ⟨-, w, z1, rfl⟩ := hv
    obtain ⟨-, f, y1⟩ := X.2.2.2.2.2.2.2.2.2 w z1
    obtain ⟨c1, c2⟩ := ck_bd_ok o b1 ex
    exact va_tl X.1 X.2.1 y1 hS c1 rfl hdg (ck_push (hk _ h6) o hw hx hP hD hS h5 (z := (f x.toNatClampNeg).toInt) (ck_r64 _) (fun _ _ _ g1 g2 => .ml g1 (by rw [g2])))
  · cases h
theorem ck_gst_ok (X : ck_cx p l e R s m args below meth c cc own D cl tys M sc A) {i : Nat} (hgl : ck_hs s args own sc i) (hk : ck_g p l e R s m args below meth c Q D cl tys M sc A ws0 sh0 (ck_new S S.2.1 6 [] (1, 0) []) (pc + 3)) (hdg : decode cc pc = .ok (.getstatic i, 3)) : ck_g p l e R s m args below meth c Q D cl tys M sc A ws0 sh0 S pc := by
  intro n ws sh H locs ls vs o hw hx hP hD hS
  obtain ⟨h1, ref, h2, h3⟩ := hgl
  obtain ⟨w, hw1⟩ := Option.isSome_iff_exists.mp h1
  obtain ⟨y1, -⟩ := X.2.2.2.2.2.2.2.2.2 w hw1
  refine va_gets X.1 X.2.1 y1 hS X.2.2.1 h2 h3 hdg (hk.at (o.new o.2.2.1 (x := (0, .null)) ⟨Nat.lt_succ_self _, w, hw1, rfl⟩ (fun z => absurd z (by decide)) (fun r hr => by cases hr)) hw hx hP hD hS rfl)
theorem ck_mk_ok (X : ck_cx p l e R s m args below meth c cc own D cl tys M sc A) (hnl : ∀ x ∈ mnw M, ck_hn s args own cl (mTT M) x) {i : Nat} (h : ck_mk M i S k = true) (hk : ∀ S, k S = true → ck_g p l e R s m args below meth c Q D cl tys M sc A ws0 sh0 S (pc + 3)) (hdg : decode cc pc = .ok (.new i, 3)) : ck_g p l e R s m args below meth c Q D cl tys M sc A ws0 sh0 S pc := by
  intro n ws sh H locs ls vs o hw hx hP hD hS
  unfold ck_mk at h
  split at h
  · rename_i x hfx
    have hm := List.mem_of_find?_eq_some hfx
    have hp := List.find?_some hfx
    have ei : x.1 = i := eq_of_beq hp
    split at h
    · rename_i td htd
      simp only [Bool.and_eq_true, Bool.not_eq_true', decide_eq_true_eq, beq_iff_eq] at h
      obtain ⟨f1, f2, f3, f4, f5, f6, f7, hcont⟩ := h
      obtain ⟨C, T, Ts, ty, l1, l2, l3, l4, l5, l6, l7, l8⟩ := hnl x hm
      rw [ei] at l4
      have hfs : ∀ j, j < x.2.2.2 → defaultValue (ty j) = vp_V ((List.range x.2.2.2).map fun j => defaultValue (ty j)) j := fun j hj => by simp [vp_V, hj]
      refine va_new X.1 X.2.1 l1 l2 ty l3 X.2.2.1 l4 l5 l6 X.2.2.2.1 hP hD hS X.2.2.2.2.1 l7 hfs (ck_ocl X.2.2.2.2.2.2.1.1 f6) (ck_osl X.2.2.2.2.2.2.1.2 f7) hdg (fun q H1 hP1 hD1 hS1 => ?_)
      rw [Nat.add_assoc (ck_oc R M), Nat.add_assoc (ck_os R M)]
      have hxn : ck_ex (mWr M) ws sh (ws ++ [(q, .inr (x.2.1, (List.range x.2.2.2).map fun j => defaultValue (ty j)))]) (sh ++ [x.2.2.1]) := by
        refine ⟨fun q t ht => ?_, fun q a e t hq ht => ?_⟩
        · rw [List.getElem?_append_left (List.getElem?_eq_some_iff.mp ht).1]; exact ht
        · exact ⟨e, by rw [List.getElem?_append_left (List.getElem?_eq_some_iff.mp hq).1]; exact hq, ck_sm.rf⟩
      have hnewq : (ws ++ [(q, .inr (x.2.1, (List.range x.2.2.2).map fun j => defaultValue (ty j)))] : va_W)[ws.length]? = some (q, .inr (x.2.1, (List.range x.2.2.2).map fun j => defaultValue (ty j))) := by simp
      have hnews : (sh ++ [x.2.2.1])[ws.length]? = some x.2.2.1 := by rw [← hw.1]; simp
      have hsg : x.2.2.1 ∉ mSG M := fun z => by
        rw [List.contains_iff_mem.mpr z] at f5
        cases f5
      have hw' : ck_wo tys (mTT M) (mSG M) (ws ++ [(q, .inr (x.2.1, (List.range x.2.2.2).map fun j => defaultValue (ty j)))]) (sh ++ [x.2.2.1]) := by
        refine ⟨by simp [hw.1], fun r b u t hr ht => ?_, fun t ht r1 r2 h1 h2 => ?_⟩
        · by_cases hlt : r < ws.length
          · rw [List.getElem?_append_left hlt] at hr
            rw [List.getElem?_append_left (by rw [hw.1]; exact hlt)] at ht
            obtain ⟨td', g1, g2⟩ := hw.2.1 r b u t hr ht
            exact ⟨td', g1, g2.mv hxn⟩
          · have er : r = ws.length := by
              have := (List.getElem?_eq_some_iff.mp hr).1
              simp at this
              omega
            subst er
            rw [hnewq] at hr
            rw [hnews] at ht
            cases hr
            cases ht
            refine ⟨td, htd, ?_⟩
            unfold ck_co
            rw [f1]
            refine ⟨_, by rw [f2], by simp [f3], fun j tj hj => ?_⟩
            have hjl : j < x.2.2.2 := by rw [← f3]; exact (List.getElem?_eq_some_iff.mp hj).1
            refine ⟨defaultValue (ty j), by simp [hjl], ?_⟩
            obtain ⟨d1, d2⟩ := l8 td htd j tj hj
            have hd := List.all_eq_true.mp f4 tj (List.mem_of_getElem? hj)
            unfold ck_dft at hd
            unfold ck_fo
            split at hd
            · rename_i e0
              rw [Bool.and_eq_true, decide_eq_true_eq, decide_eq_true_eq] at hd
              rw [e0, d1 e0]
              exact ⟨0, rfl, by rw [Int32.toInt_zero]; exact hd.1, by rw [Int32.toInt_zero]; exact hd.2⟩
            · rename_i e3
              rw [e3, d2 e3]
              exact Or.inl rfl
            · cases hd
        · have key : ∀ r : Nat, (sh ++ [x.2.2.1])[r]? = some t → sh[r]? = some t := by
            intro r hr
            by_cases hlt : r < sh.length
            · rw [List.getElem?_append_left hlt] at hr
              exact hr
            · have er : r = ws.length := by
                have := (List.getElem?_eq_some_iff.mp hr).1
                simp at this
                rw [hw.1] at this hlt
                omega
              subst er
              rw [hnews] at hr
              cases hr
              exact absurd ht hsg
          exact hw.2.2 t ht r1 r2 (key r1 h1) (key r2 h2)
      have hl : (S.2.2.2.1 ++ [((1 : Int), (0 : Int))]).length = S.2.2.2.1.length + 1 := by simp
      refine (hk _ hcont) (ck_nx n S.2.2.2.1.length (0, .ref q)) _ _ H1 locs ls _ ⟨⟨?_, ?_⟩, ?_, ⟨?_, ?_⟩, ?_, ?_, ?_⟩ hw' (hx.tr (fun _ z => z) hxn) hP1 hD1 hS1
      · show 0 < (S.2.2.2.1 ++ [((1 : Int), (0 : Int))]).length
        omega
      · rw [ck_nx_lt 0 o.1.1]; exact o.1.2
      · show ck_lo _ _ sc _ (S.2.2.2.1 ++ [((1 : Int), (0 : Int))]).length _ S.1 ls
        rw [hl]
        exact (o.2.1.mv hxn).up ck_nx_lt (Nat.le_succ _)
      · show ck_vo _ _ sc _ (S.2.2.2.1 ++ [((1 : Int), (0 : Int))]).length _ _
        rw [hl]
        exact ⟨Nat.lt_succ_self _, by rw [ck_nx_eq], ws.length, q, _, x.2.2.1, rfl, hnewq, hnews, List.mem_singleton.mpr rfl⟩
      · show ck_two (ck_vo _ _ sc _ (S.2.2.2.1 ++ [((1 : Int), (0 : Int))]).length) _ _
        rw [hl]
        exact o.2.2.1.imp fun _ _ z => (z.mv hxn).up ck_nx_lt (Nat.le_succ _)
      · show ck_mo _ _ _ sc _ (S.2.2.2.1 ++ [((1 : Int), (0 : Int))]).length _
        rw [hl]
        intro z hz
        obtain ⟨hz1, -⟩ := List.mem_filter.mp hz
        rcases o.2.2.2.1 z hz1 with ⟨w0, w3, ⟨w2, w1, b', L', xs', w4, w5⟩ | ⟨w2, w4⟩⟩ | ⟨z0, z1, q1, a1, o1, v1, z2, z3, z4, z5⟩ | hy
        · exact Or.inl ⟨w0, Nat.lt_succ_of_lt w3, Or.inl ⟨w2, Nat.lt_succ_of_lt w1, b', L', xs', w4, by rw [ck_nx_lt _ w1, ck_nx_lt _ w3]; exact w5⟩⟩
        · exact Or.inl ⟨w0, Nat.lt_succ_of_lt w3, Or.inr ⟨w2, by rw [ck_nx_lt _ w3]; exact w4⟩⟩
        · exact Or.inr (Or.inl ⟨z0, z1, q1, a1, o1, v1, by rw [List.getElem?_append_left (List.getElem?_eq_some_iff.mp z2).1]; exact z2, by rw [List.getElem?_append_left (List.getElem?_eq_some_iff.mp z3).1]; exact z3, z4, (z5.mv hxn).up ck_nx_lt (Nat.le_succ _)⟩)
        · obtain ⟨y0, y1, y2, y3, y4, y5, q1, a1, cA1, len1, f1, y6, y7, y8⟩ := hy
          refine Or.inr (Or.inr ⟨y0, y1, y2, y3, Nat.lt_succ_of_lt y4, fun j hj => Nat.lt_succ_of_lt (y5 j hj), q1, a1, cA1, len1, f1, by rw [List.getElem?_append_left (List.getElem?_eq_some_iff.mp y6).1]; exact y6, by rw [List.getElem?_append_left (List.getElem?_eq_some_iff.mp y7).1]; exact y7, ?_⟩)
          rw [ck_nx_lt _ y4, List.map_congr_left (g := fun j => (n j).1) (fun j hj => by rw [ck_nx_lt _ (y5 j hj)])]
          exact y8
      · exact o.2.2.2.2.1.add (fun z => absurd z (by decide))
      · show ck_ro S.2.2.2.2.1 _ (S.2.2.2.1 ++ [((1 : Int), (0 : Int))]).length
        rw [hl]
        exact o.2.2.2.2.2.up ck_nx_lt (Nat.le_succ _)
    · cases h
  · cases h
end
end
section
section
variable {p : Program} {l : Launch} {e : Env} {R : Room} {s : State} {m : MethodId} {args : Array Value} {below : List Frame} {meth : Method} {c : Code} {Q : State → Prop} {cc : ByteArray} {own : String} {D : va_G} {cl : List vw_C} {tys : List (ClassId × FieldType)} {M : ck_Me} {sc : ck_sc} {A : Nat → Prop} {ws0 : va_W} {sh0 : List Nat} {k : ck_S → Bool} {S : ck_S} {pc pc' : Nat}
theorem ck_cellof (X : ck_cx p l e R s m args below meth c cc own D cl tys M sc A) {ws : va_W} {sh : List Nat} {H : Heap} (hw : ck_wo tys (mTT M) (mSG M) ws sh) (hP : va_P D cl ws H) {q a t ci : Nat} {e' : va_E} {r : vw_C} (hq : ws[q]? = some (a, e')) (ht : sh[q]? = some t) (hci : ck_ty0 M t = some ci) (hr : cl[ci]? = some r) : ∃ cell : Cell, H[a]? = some cell ∧ cell.vm.isStatics = false ∧ s.vm.findClass r.1 = some cell.cls := by
  unfold ck_ty0 at hci
  split at hci
  · rename_i td htd
    split at hci
    · rename_i h0
      have ec := Option.some.inj hci
      subst ec
      obtain ⟨td', g1, g2⟩ := hw.2.1 q a e' t hq ht
      have e1 : td' = td := Option.some.inj (g1.symm.trans htd)
      subst e1
      unfold ck_co at g2
      rw [h0] at g2
      obtain ⟨fs, rfl, -⟩ := g2
      exact va_recv X.2.2.2.1 hP hr hq
    · cases hci
  · cases hci
theorem ck_ins_ok (X : ck_cx p l e R s m args below meth c cc own D cl tys M sc A) (hil : ∀ x ∈ mil M, ck_hi s args own cl x) {i : Nat} (h : ck_ins M i S k = true) (hk : ∀ S, k S = true → ck_g p l e R s m args below meth c Q D cl tys M sc A ws0 sh0 S (pc + 3)) (hdg : decode cc pc = .ok (.instanceof i, 3)) : ck_g p l e R s m args below meth c Q D cl tys M sc A ws0 sh0 S pc := by
  intro n ws sh H locs ls vs o hw hx hP hD hS
  unfold ck_ins at h
  split at h
  · rename_i r st hst
    have o3 := o.2.2.1
    rw [hst] at o3
    obtain ⟨ra, vs2, rfl, h4, h5⟩ := ck_hd o3
    rw [Bool.and_eq_true, Bool.and_eq_true, Bool.and_eq_true] at h
    obtain ⟨hr2, hall, hY, hN⟩ := h
    obtain ⟨hl, hv, q, a, e', t, rfl, hq, ht, htm⟩ := h4.r (eq_of_beq hr2)
    have os : ck_so (mnL M) (mSG M) (ck_ss S st) n ws sh sc ls vs2 := o.ss h5
    have fin : ∀ (ts : List Nat) (v : Int) (z : Int32), z.toInt = v → t ∈ ts → k (ck_cst (ck_subS r.2.1 (2, r.2.1, ts) (ck_ss S st)) 0 v) = true → W p l e R s m args below meth c H locs (ck_oc R M + S.2.2.2.2.2.1) (ck_os R M + S.2.2.2.2.2.2) Q (F0 m (pc + 3) ls (.int z :: vs2)) := by
      intro ts v z hz hts hkk
      have o2 := ck_subS_ok os (s0 := r.2.1) (w := (2, r.2.1, ts)) ⟨hl, rfl, by rw [← hv]; exact ⟨q, a, e', t, rfl, hq, ht, hts⟩⟩
      exact ck_push (S := ck_subS r.2.1 (2, r.2.1, ts) (ck_ss S st)) (hk _ hkk) o2 hw hx hP hD hS o2.2.2.1 ⟨Int.le_refl _, Int.le_refl _⟩ (fun _ _ _ g1 g2 => .mi g1 (by rw [g2]; exact hz))
    by_cases hy : ck_iof M i 1 t = true
    · have hy' := hy
      unfold ck_iof at hy
      split at hy
      · rename_i ci hci
        obtain ⟨rc, nm, m1, m2, m3⟩ := hil _ (List.contains_iff_mem.mp hy)
        have hcell := ck_cellof X hw hP hq ht hci m1
        have hmem : t ∈ r.2.2.filter (ck_iof M i 1) := List.mem_filter.mpr ⟨htm, hy'⟩
        have hkk : k (ck_cst (ck_subS r.2.1 (2, r.2.1, r.2.2.filter (ck_iof M i 1)) (ck_ss S st)) 0 1) = true := by
          revert hY
          split
          · rename_i z; rw [z] at hmem; cases hmem
          · exact id
        rcases m3 with ⟨-, m3 | m3⟩ | ⟨m3, -⟩
        · subst m3
          exact va_instE X.1 X.2.1 X.2.2.1 m2 hcell hdg (fin _ 1 1 (by decide) hmem hkk)
        · exact va_instY X.1 X.2.1 X.2.2.1 m2 m3 hcell hdg (fin _ 1 1 (by decide) hmem hkk)
        · cases m3
      · cases hy
    · have hn := List.all_eq_true.mp hall t htm
      rw [Bool.or_eq_true] at hn
      have hn := hn.resolve_left hy
      have hmem : t ∈ r.2.2.filter (fun t => !(ck_iof M i 1 t)) := List.mem_filter.mpr ⟨htm, by rw [Bool.not_eq_true'] ; exact Bool.eq_false_iff.mpr hy⟩
      have hkk : k (ck_cst (ck_subS r.2.1 (2, r.2.1, r.2.2.filter (fun t => !(ck_iof M i 1 t))) (ck_ss S st)) 0 0) = true := by
        revert hN
        split
        · rename_i z; rw [z] at hmem; cases hmem
        · exact id
      unfold ck_iof at hn
      split at hn
      · rename_i ci hci
        obtain ⟨rc, nm, m1, m2, m3⟩ := hil _ (List.contains_iff_mem.mp hn)
        have hcell := ck_cellof X hw hP hq ht hci m1
        rcases m3 with ⟨m3, -⟩ | ⟨-, m3⟩
        · cases m3
        · exact va_instNo X.1 X.2.1 X.2.2.1 m2 m3 hcell hdg (fin _ 0 0 (by decide) hmem hkk)
      · cases hn
  · cases h
theorem ck_cas_ok (X : ck_cx p l e R s m args below meth c cc own D cl tys M sc A) (hxl : ∀ x ∈ mxl M, ck_hx s args own cl x) {i : Nat} (h : ck_cas M i S k = true) (hk : ∀ S, k S = true → ck_g p l e R s m args below meth c Q D cl tys M sc A ws0 sh0 S (pc + 3)) (hdg : decode cc pc = .ok (.checkcast i, 3)) : ck_g p l e R s m args below meth c Q D cl tys M sc A ws0 sh0 S pc := by
  intro n ws sh H locs ls vs o hw hx hP hD hS
  unfold ck_cas at h
  split at h
  · rename_i r st hst
    have o3 := o.2.2.1
    rw [hst] at o3
    obtain ⟨ra, vs2, rfl, h4, h5⟩ := ck_hd o3
    rw [Bool.and_eq_true, Bool.and_eq_true] at h
    obtain ⟨hr2, hall, hkk⟩ := h
    obtain ⟨hl, hv, q, a, e', t, rfl, hq, ht, htm⟩ := h4.r (eq_of_beq hr2)
    have hn := List.all_eq_true.mp hall t htm
    split at hn
    · rename_i ci hci
      obtain ⟨rc, nm, m1, m2, m3⟩ := hxl _ (List.contains_iff_mem.mp hn)
      have hcell := ck_cellof X hw hP hq ht hci m1
      have go : W p l e R s m args below meth c H locs (ck_oc R M + S.2.2.2.2.2.1) (ck_os R M + S.2.2.2.2.2.2) Q (F0 m (pc + 3) ls (.ref a :: vs2)) := (hk _ hkk).at o hw hx hP hD hS rfl
      rcases m3 with m3 | m3
      · subst m3
        exact va_castE X.1 X.2.1 X.2.2.1 m2 hcell hdg go
      · exact va_castY X.1 X.2.1 X.2.2.1 m2 m3 hcell hdg go
    · cases hn
  · cases h
end
/-- the call's instruction, by its key: 0 virtual 1 static 2 special -/
def ck_ik (i : Nat) : Instr := match i % 3 with
  | 0 => .invokevirtual (i / 3)
  | 1 => .invokestatic (i / 3)
  | _ => .invokespecial (i / 3)
/-- what a call does, by its contract -/
def ck_cs (p : Program) (l : Launch) (e : Env) (R : Room) (s : State) (m : MethodId) (args : Array Value) (below : List Frame) (meth : Method) (c : Code) (Q : State → Prop) (cc : ByteArray) (D : va_G) (cl : List vw_C) (tys : List (ClassId × FieldType)) (M : ck_Me) (sc : ck_sc) (A : Nat → Prop) (x : Nat × Nat × Nat × ck_C) : Prop :=
  ∀ (pc : Nat) (ls : Array Slot) (n1 : ck_N) (ws : va_W) (sh : List Nat) (H : Heap) (locs : List Loc) (cells slots : Nat) (As rest : List Value), decode cc pc = .ok (ck_ik x.1, 3) → ls.size = mnL M → As.length = x.2.2.1 → (n1 0).1 = 0 →
    ck_po (mSG M) ws sh sc n1 x.2.2.2.1.2.2.1.length x.2.2.2.1 As → (x.2.1 ≠ 0 → ∃ v, As[0]? = some v ∧ ck_rf ws sh [x.2.1] v) → ck_wo tys (mTT M) (mSG M) ws sh → va_P D cl ws H → va_D A ws → va_S A s.heap H locs →
    cells + x.2.2.2.2.2.2.1 ≤ R.cells → slots + x.2.2.2.2.2.2.2 ≤ R.slots → (rest.map fun v => v.category).sum ≤ 8 →
    (∀ P ∈ x.2.2.2.2.1, ∀ (rv : Option Value) (n2 : ck_N) (ws' : va_W) (sh' : List Nat) (H' : Heap) (locs' : List Loc), (∀ k, k < x.2.2.2.1.2.2.1.length → n2 k = n1 k) → ck_wo tys (mTT M) (mSG M) ws' sh' → ck_ex x.2.2.2.2.2.1 ws sh ws' sh' → va_P D cl ws' H' → va_D A ws' → va_S A s.heap H' locs' →
      ck_po (mSG M) ws' sh' sc n2 P.2.2.1.length P rv.toList → W p l e R s m args below meth c H' locs' (cells + x.2.2.2.2.2.2.1) (slots + x.2.2.2.2.2.2.2) Q (F0 m (pc + 3) ls (rv.toList ++ rest))) →
    W p l e R s m args below meth c H locs cells slots Q (F0 m pc ls (As.reverse ++ rest))
section
variable {p : Program} {l : Launch} {e : Env} {R : Room} {s : State} {m : MethodId} {args : Array Value} {below : List Frame} {meth : Method} {c : Code} {Q : State → Prop} {cc : ByteArray} {own : String} {D : va_G} {cl : List vw_C} {tys : List (ClassId × FieldType)} {M : ck_Me} {sc : ck_sc} {A : Nat → Prop} {ws0 : va_W} {sh0 : List Nat} {S : ck_S} {pc pc' : Nat}
theorem ck_wles_ok {nL : Nat} {SG : List Nat} {n : ck_N} {ws : va_W} {sh : List Nat} {ls : Array Slot} {vs : List Value} {g : List Nat} {N : Nat} {k : ck_S → Bool} : ∀ {rs : List ck_R} {S : ck_S}, ck_wles g N rs S k = true → ck_so nL SG S n ws sh sc ls vs → (∀ r ∈ rs, (n (ck_ren g N r.1)).1 ≤ (n (ck_ren g N r.2.1)).1 + r.2.2) → ∃ S' : ck_S, k S' = true ∧ ck_so nL SG S' n ws sh sc ls vs ∧ ck_kn S S'
  | [], S, h, o, _ => ⟨S, h, o, rfl, rfl, rfl, rfl, rfl⟩
  | r :: rs, S, h, o, hr => by
    rw [ck_wles] at h
    obtain ⟨S1, k1, o1, e1⟩ := ck_wle_ok o h (hr r List.mem_cons_self)
    obtain ⟨S2, k2, o2, e2⟩ := ck_wles_ok k1 o1 (fun r h => hr r (List.mem_cons_of_mem _ h))
    exact ⟨S2, k2, o2, ck_kn.tr e1 e2⟩
/-- a pattern's value in the caller's numbers -/
theorem ck_renV_ok {ws : va_W} {sh : List Nat} {n2 n3 : ck_N} {N N2 N3 : Nat} {g : List Nat} (hn : ∀ k, k < N2 → n3 (ck_ren g N k) = n2 k) (hl : ∀ k, k < N2 → ck_ren g N k < N3) {v : ck_V} (h5 : v.1 < 5) {x : Value} (h : ck_vo ws sh sc n2 N2 v x) : ck_vo ws sh sc n3 N3 (ck_renV g N v) x := by
  unfold ck_vo at h ⊢
  refine ⟨hl _ h.1, ?_⟩
  show match v.1 with
  | 0 => _ | 1 => _ | 2 => _ | 3 => _ | 4 => _ | 5 => _ | 6 => _ | 7 => _ | _ => _
  have e1 : n3 (ck_renV g N v).2.1 = n2 v.2.1 := hn _ h.1
  have e2 : (ck_renV g N v).2.2 = v.2.2 := if_neg (by omega)
  rw [e1, e2]
  have h2 := h.2
  split at h2
  · rename_i e; rw [e]; exact h2
  · rename_i e; rw [e]; exact h2
  · rename_i e; rw [e]; exact h2
  · rename_i e; rw [e]; exact h2
  · rename_i e; rw [e]; exact h2
  · omega
  · omega
  · omega
  · exact h2.elim
end
end
section
section
variable {p : Program} {l : Launch} {e : Env} {R : Room} {s : State} {m : MethodId} {args : Array Value} {below : List Frame} {meth : Method} {c : Code} {Q : State → Prop} {cc : ByteArray} {own : String} {D : va_G} {cl : List vw_C} {tys : List (ClassId × FieldType)} {M : ck_Me} {sc : ck_sc} {A : Nat → Prop} {ws0 : va_W} {sh0 : List Nat} {S : ck_S} {pc pc' : Nat}
theorem ck_aft_ok {nL : Nat} {SG : List Nat} {n n2 : ck_N} {ws ws' : va_W} {sh sh' : List Nat} {ls : Array Slot} {vs rest : List Value} {st : List ck_V} {g : List Nat} {wr : List (Nat × Nat)} {mc ms : Nat} {P : ck_P} {k : ck_S → Bool} {rv : Option Value} (h : ck_aft S st g wr mc ms P k = true)
    (o : ck_so nL SG S n ws sh sc ls vs) (hrest : ck_two (ck_vo ws sh sc n S.2.2.2.1.length) st rest) (hg : ∀ s ∈ g, s < S.2.2.2.1.length) (h1 : P.1.all (fun v => decide (v.1 < 5)) = true) (h2 : P.2.1.all ck_okm = true)
    (hn2 : ∀ k, k < g.length → n2 k = ck_pl g n k) (hx : ck_ex wr ws sh ws' sh') (hpo : ck_po SG ws' sh' sc n2 P.2.2.1.length P rv.toList) :
    ∃ (S' : ck_S) (n3 : ck_N), k S' = true ∧ ck_so nL SG S' n3 ws' sh' sc ls (rv.toList ++ rest) ∧ S'.2.2.2.2.2 = (S.2.2.2.2.2.1 + mc, S.2.2.2.2.2.2 + ms) := by
  obtain ⟨p1, p2, p3, p4⟩ := hpo
  obtain ⟨⟨o0, o00⟩, o1, o2, o3, o4, o5⟩ := o
  generalize hN : S.2.2.2.1.length = N at *
  obtain ⟨n3, hn3⟩ : ∃ n3 : ck_N, n3 = fun k => if k < N then n k else n2 (k - N + g.length) := ⟨_, rfl⟩
  have a1 : ∀ k, k < N → n3 k = n k := fun k hk => by rw [hn3]; exact if_pos hk
  have a2 : ∀ k, N ≤ k → n3 k = n2 (k - N + g.length) := fun k hk => by rw [hn3]; exact if_neg (by omega)
  have hgd : ∀ k, k < g.length → g.getD k 0 < N := fun k hk => by
    rw [List.getD_eq_getElem?_getD, List.getElem?_eq_getElem hk]
    exact hg _ (List.getElem_mem hk)
  have hr : ∀ k, k < P.2.2.1.length → n3 (ck_ren g N k) = n2 k := by
    intro k hk
    unfold ck_ren
    split
    · rename_i q
      rw [a1 _ (hgd k q), hn2 k q]
      rfl
    · rename_i q
      rw [a2 _ (by omega)]
      congr 1
      omega
  have hlE : (S.2.2.2.1 ++ P.2.2.1.drop g.length).length = N + (P.2.2.1.length - g.length) := by simp [hN]
  have hrl : ∀ k, k < P.2.2.1.length → ck_ren g N k < N + (P.2.2.1.length - g.length) := by
    intro k hk
    unfold ck_ren
    split
    · rename_i q
      have := hgd k q
      omega
    · omega
  unfold ck_aft at h
  rw [hN] at h
  have hso : ck_so nL SG (S.1, P.1.map (ck_renV g N) ++ st, P.2.1.map (fun m => (m.1, m.2.1, ck_renV g N m.2.2)) ++ S.2.2.1.filter (fun m => m.1 == 0 || !(wr.contains (m.1, m.2.1))),
      S.2.2.2.1 ++ P.2.2.1.drop g.length, S.2.2.2.2.1, S.2.2.2.2.2.1 + mc, S.2.2.2.2.2.2 + ms) n3 ws' sh' sc ls (rv.toList ++ rest) := by
    unfold ck_so
    dsimp only
    rw [hlE]
    refine ⟨⟨by omega, by rw [a1 0 o0]; exact o00⟩, (o1.mv hx).up a1 (by omega), ?_, ?_, ?_, o5.up a1 (by omega)⟩
    · refine ck_two.app ?_ (hrest.imp fun _ _ z => (z.mv hx).up a1 (by omega))
      have hall : ∀ v ∈ P.1, v.1 < 5 := fun v hv => of_decide_eq_true (List.all_eq_true.mp h1 v hv)
      revert hall p1
      generalize rv.toList = xs
      generalize P.1 = vs
      clear h h1
      intro p1 hall
      induction vs generalizing xs with
      | nil => cases xs with
        | nil => trivial
        | cons _ _ => exact p1.elim
      | cons v vs ih => cases xs with
        | nil => exact p1.elim
        | cons x xs => exact ⟨ck_renV_ok hr hrl (hall v List.mem_cons_self) p1.1, ih xs p1.2 (fun w hw => hall w (List.mem_cons_of_mem _ hw))⟩
    · intro z hz
      rcases List.mem_append.mp hz with hz | hz
      · obtain ⟨y, hy, rfl⟩ := List.mem_map.mp hz
        have hy2 := List.all_eq_true.mp h2 y hy
        unfold ck_okm at hy2
        rw [Bool.and_eq_true, Bool.not_eq_true', beq_eq_false_iff_ne, Bool.or_eq_true, decide_eq_true_eq, decide_eq_true_eq] at hy2
        rcases p2 y hy with ⟨w, -⟩ | ⟨w0, w1, q, a, oo, v, w2, w3, w4, w5⟩ | ⟨w0, w1, w2, w3, w4, w5, q, a, cA, len, f, w6, w7, w8⟩
        · exact absurd w hy2.1
        · refine Or.inr (Or.inl ⟨w0, w1, q, a, oo, v, w2, w3, w4, ck_renV_ok hr hrl ?_ w5⟩)
          rcases hy2.2 with z | z
          · exact z
          · exfalso
            have w5 := w5.2
            split at w5 <;> omega
        · refine Or.inr (Or.inr ⟨w0, w1, w2, w3, hrl _ w4, ?_, q, a, cA, len, f, w6, w7, ?_⟩)
          · intro j hj
            unfold ck_renV at hj
            dsimp only at hj
            rw [if_pos w0] at hj
            obtain ⟨i, hi, rfl⟩ := List.mem_map.mp hj
            exact hrl _ (w5 i hi)
          · unfold ck_renV
            dsimp only
            rw [if_pos w0, hr _ w4, List.map_map, List.map_congr_left (g := fun j => (n2 j).1) (fun j hj => by show (n3 (ck_ren g N j)).1 = _; rw [hr _ (w5 j hj)])]
            exact w8
      · obtain ⟨hz1, hz2⟩ := List.mem_filter.mp hz
        rcases o3 z hz1 with ⟨w0, w3, ⟨w2, w1, b', L', xs', w4, w5⟩ | ⟨w2, w4⟩⟩ | ⟨z0, z1, q1, a1', o1', v1, z2, z3, z4, z5⟩ | hyy
        · exact Or.inl ⟨w0, by omega, Or.inl ⟨w2, by omega, b', L', xs', w4, by rw [a1 _ w1, a1 _ w3]; exact w5⟩⟩
        · exact Or.inl ⟨w0, by omega, Or.inr ⟨w2, by rw [a1 _ w3]; exact w4⟩⟩
        · rw [Bool.or_eq_true] at hz2
          rcases hz2 with hz2 | hz2
          · exact absurd (eq_of_beq hz2) z0
          · have hnw : (z.1, z.2.1) ∉ wr := fun w => by
              rw [List.contains_iff_mem.mpr w] at hz2
              cases hz2
            obtain ⟨e', x1, x2⟩ := hx.2 q1 a1' _ z.1 z3 z2
            cases e' with
            | inl _ => exact x2.elim
            | inr oo => exact Or.inr (Or.inl ⟨z0, z1, q1, a1', oo, v1, hx.1 _ _ z2, x1, by rw [x2.2 _ hnw]; exact z4, (z5.mv hx).up a1 (by omega)⟩)
        · rw [Bool.or_eq_true] at hz2
          rcases hz2 with hz2 | hz2
          · exact absurd (eq_of_beq hz2) hyy.2.1
          · have hnw : (z.1, z.2.1) ∉ wr := fun w => by
              rw [List.contains_iff_mem.mpr w] at hz2
              cases hz2
            exact ck_mo.up (mem := [z]) (N := N) a1 (by omega) (fun y hy' => by rw [List.mem_singleton.mp hy']; exact Or.inr (Or.inr (ck_mo.mv1 hx hnw hyy))) z List.mem_cons_self
    · intro j y hj hle
      by_cases hjN : j < N
      · rw [List.getElem?_append_left (by rw [hN]; exact hjN)] at hj
        rw [a1 j hjN]
        exact o4 j y hj hle
      · rw [List.getElem?_append_right (by rw [hN]; omega), List.getElem?_drop, hN] at hj
        rw [a2 j (by omega)]
        have e1 : j - N + g.length = g.length + (j - N) := by omega
        rw [e1]
        exact p3 _ y hj hle
  obtain ⟨S', k1, q1, q2⟩ := ck_wles_ok h hso (fun r hrr => by
    obtain ⟨r1, r2, r3⟩ := p4 r hrr
    rw [hr _ r1, hr _ r2]
    exact r3)
  exact ⟨S', n3, k1, q1, q2.2.2.2.2⟩
theorem ck_two_take {α β : Type} {P : α → β → Prop} : ∀ {l : List α} {r : List β} (i : Nat), ck_two P l r → ck_two P (l.take i) (r.take i) ∧ ck_two P (l.drop i) (r.drop i)
  | _, _, 0, h => ⟨trivial, h⟩
  | [], [], _ + 1, _ => ⟨trivial, trivial⟩
  | _ :: _, _ :: _, i + 1, h => by
    obtain ⟨a, b⟩ := ck_two_take i h.2
    exact ⟨⟨h.1, a⟩, b⟩
  | [], _ :: _, _ + 1, h => h.elim
  | _ :: _, [], _ + 1, h => h.elim
theorem ck_two_rev {α β : Type} {P : α → β → Prop} : ∀ {l : List α} {r : List β}, ck_two P l r → ck_two P l.reverse r.reverse
  | [], [], _ => trivial
  | a :: l, b :: r, h => by
    rw [List.reverse_cons, List.reverse_cons]
    exact ck_two.app (ck_two_rev h.2) ⟨h.1, trivial⟩
  | [], _ :: _, h => h.elim
  | _ :: _, [], h => h.elim
theorem ck_two_cat {ws : va_W} {sh : List Nat} {n : ck_N} {N : Nat} : ∀ {l : List ck_V} {r : List Value}, ck_two (ck_vo ws sh sc n N) l r → (r.map fun v => v.category).sum = (l.map ck_cat).sum
  | [], [], _ => rfl
  | a :: l, b :: r, h => by
    rw [List.map_cons, List.map_cons, List.sum_cons, List.sum_cons, ck_two_cat h.2, ck_cat_ok h.1]
  | [], _ :: _, h => h.elim
  | _ :: _, [], h => h.elim
theorem ck_call_ok (X : ck_cx p l e R s m args below meth c cc own D cl tys M sc A) {i t na : Nat} {C : ck_C} {k : ck_S → Bool} (hcs : ck_cs p l e R s m args below meth c Q cc D cl tys M sc A (i, t, na, C)) (h : ck_call (mF M) (mWr M) (mRm M) S na C k = true) (hk : ∀ S, k S = true → ck_g p l e R s m args below meth c Q D cl tys M sc A ws0 sh0 S (pc + 3)) (hdg : decode cc pc = .ok (ck_ik i, 3))
    {n : ck_N} {ws : va_W} {sh : List Nat} {H : Heap} {locs : List Loc} {ls : Array Slot} {vs : List Value} (o : ck_so (mnL M) (mSG M) S n ws sh sc ls vs) (hw : ck_wo tys (mTT M) (mSG M) ws sh) (hx : ck_ex (mWr M) ws0 sh0 ws sh) (hP : va_P D cl ws H) (hD : va_D A ws) (hS : va_S A s.heap H locs)
    (hrec : t ≠ 0 → ∃ v, (vs.take na).reverse[0]? = some v ∧ ck_rf ws sh [t] v) : W p l e R s m args below meth c H locs (ck_oc R M + S.2.2.2.2.2.1) (ck_os R M + S.2.2.2.2.2.2) Q (F0 m pc ls vs) := by
  unfold ck_call at h
  simp only [Bool.and_eq_true, decide_eq_true_eq] at h
  obtain ⟨⟨h1, h2, h3, h4⟩, h5, h6⟩ := h
  split at h6
  · rename_i g hg
    rw [Bool.and_eq_true, decide_eq_true_eq] at h6
    obtain ⟨h7, h8⟩ := h6
    obtain ⟨t1, t2⟩ := ck_two_take na o.2.2.1
    obtain ⟨⟨tl, htl⟩, g2, g3⟩ := ck_mt_ok o hg (ck_two_rev t1) (fun s hs => by rw [List.mem_singleton.mp hs]; exact o.1.1)
    have hlen : (vs.take na).reverse.length = na := by
      have := ck_two.len o.2.2.1
      simp
      omega
    have evs : vs = (vs.take na).reverse.reverse ++ vs.drop na := by rw [List.reverse_reverse, List.take_append_drop]
    rw [h7] at g3
    obtain ⟨lv, hlv, -⟩ := id o.2.1
    have key := hcs pc ls (ck_pl g n) ws sh H locs (ck_oc R M + S.2.2.2.2.2.1) (ck_os R M + S.2.2.2.2.2.2) (vs.take na).reverse (vs.drop na) hdg hlv.1 hlen (by rw [htl]; exact o.1.2) g3 hrec hw hP hD hS
      (ck_ocl X.2.2.2.2.2.2.1.1 h2) (ck_osl X.2.2.2.2.2.2.1.2 h3) (by rw [ck_two_cat t2]; exact h4) ?_
    · rw [← evs] at key
      exact key
    · intro P hP' rv n2 ws' sh' H' locs' e1 hw' hx' hP1 hD1 hS1 hpo
      have h9 := List.all_eq_true.mp h8 P hP'
      rw [Bool.and_eq_true, Bool.and_eq_true] at h9
      obtain ⟨S', n3, q1, q2, q3⟩ := ck_aft_ok h9.2 o t2 g2 h9.1.1 h9.1.2 (fun k hk => e1 k (by rw [h7] at hk; exact hk)) hx' hpo
      have hfin := hk S' q1 n3 ws' sh' H' locs' ls _ q2 hw' (hx.tr (fun z hz => List.contains_iff_mem.mp (List.all_eq_true.mp h5 z hz)) hx') hP1 hD1 hS1
      rw [q3] at hfin
      rw [Nat.add_assoc (ck_oc R M), Nat.add_assoc (ck_os R M)]
      exact hfin
  · cases h6
theorem ck_inv_ok (X : ck_cx p l e R s m args below meth c cc own D cl tys M sc A) (hvl : ∀ x ∈ mvl M, ck_cs p l e R s m args below meth c Q cc D cl tys M sc A x) {i : Nat} {k : ck_S → Bool} (h : ck_inv M i S k = true) (hk : ∀ S, k S = true → ck_g p l e R s m args below meth c Q D cl tys M sc A ws0 sh0 S (pc + 3)) (hdg : decode cc pc = .ok (ck_ik i, 3)) : ck_g p l e R s m args below meth c Q D cl tys M sc A ws0 sh0 S pc := by
  intro n ws sh H locs ls vs o hw hx hP hD hS
  unfold ck_inv at h
  split at h
  · rename_i x hfx
    have hm := List.mem_of_find?_eq_some hfx
    have hfp := List.find?_some hfx
    have ei : x.1 = i := eq_of_beq hfp
    split at h
    · obtain ⟨y, hym, h⟩ := List.any_eq_true.mp h
      rw [Bool.and_eq_true, Bool.and_eq_true, beq_iff_eq, beq_iff_eq] at h
      obtain ⟨e1, e2, h⟩ := h
      exact ck_call_ok X (hvl y hym) h hk (by rw [e1]; exact hdg) o hw hx hP hD hS (fun z => absurd e2 z)
    · rw [Bool.and_eq_true, decide_eq_true_eq] at h
      obtain ⟨h1, h2⟩ := h
      split at h2
      · rename_i r hr
        rw [Bool.and_eq_true] at h2
        obtain ⟨hr2, hall⟩ := h2
        -- the receiver
        have hpos : x.2.2.1 - 1 < S.2.1.length := (List.getElem?_eq_some_iff.mp hr).1
        obtain ⟨v, hv, hvo⟩ : ∃ v, vs[x.2.2.1 - 1]? = some v ∧ ck_vo ws sh sc n S.2.2.2.1.length r v := by
          have h3 := (ck_two_take (x.2.2.1 - 1) o.2.2.1).2
          have e1 : S.2.1.drop (x.2.2.1 - 1) = r :: S.2.1.drop (x.2.2.1 - 1 + 1) := by
            rw [List.drop_eq_getElem_cons hpos]
            congr 1
            exact Option.some.inj ((List.getElem?_eq_getElem hpos).symm.trans hr)
          rw [e1] at h3
          obtain ⟨v, vs', e2, h4, -⟩ := ck_hd h3
          refine ⟨v, ?_, h4⟩
          have e3 := congrArg (fun l : List Value => l[0]?) e2
          simpa [List.getElem?_drop] using e3
        obtain ⟨hl, hv2, q, a, e', t, rfl, hq, ht, htm⟩ := hvo.r (eq_of_beq hr2)
        have h6 := List.all_eq_true.mp hall t htm
        obtain ⟨y, hym, h6⟩ := List.any_eq_true.mp h6
        · rw [Bool.and_eq_true] at h6
          obtain ⟨hyp, h6⟩ := h6
          simp only [Bool.and_eq_true, beq_iff_eq, Bool.not_eq_true', beq_eq_false_iff_ne, ne_eq] at hyp h6
          obtain ⟨hna, ht0, hcall⟩ := h6
          have hcs := hvl y hym
          have ey : y = (i, t, x.2.2.1, y.2.2.2) := by
            rw [← hyp.1, ← hyp.2, ← hna]
          rw [ey] at hcs
          have hrec : ∀ (vs : List Value), vs[x.2.2.1 - 1]? = some (.ref a) → t ≠ 0 → ∃ v, (vs.take x.2.2.1).reverse[0]? = some v ∧ ck_rf ws sh [t] v := by
            intro vs hvs _
            refine ⟨.ref a, ?_, q, a, e', t, rfl, hq, ht, List.mem_singleton.mpr rfl⟩
            have hlt := (List.getElem?_eq_some_iff.mp hvs).1
            have hlen : (vs.take x.2.2.1).length = x.2.2.1 := by simp; omega
            rw [List.getElem?_reverse (by omega), hlen, List.getElem?_take_of_lt (by omega)]
            exact hvs
          by_cases he : r.2.2 = [t]
          · rw [if_pos he] at hcall
            exact ck_call_ok X hcs hcall hk (by exact hdg) o hw hx hP hD hS (hrec vs hv)
          · rw [if_neg he] at hcall
            have o2 := ck_subS_ok o (s0 := r.2.1) (w := (2, r.2.1, [t])) ⟨hl, rfl, by rw [← hv2]; exact ⟨q, a, e', t, rfl, hq, ht, List.mem_singleton.mpr rfl⟩⟩
            exact ck_call_ok X hcs hcall hk (by exact hdg) o2 hw hx hP hD hS (hrec vs hv)
      · cases h2
  · cases h
end
end
section
section
variable {p : Program} {l : Launch} {e : Env} {R : Room} {s : State} {m : MethodId} {args : Array Value} {below : List Frame} {meth : Method} {c : Code} {Q : State → Prop} {cc : ByteArray} {own : String} {D : va_G} {cl : List vw_C} {tys : List (ClassId × FieldType)} {M : ck_Me} {sc : ck_sc} {A : Nat → Prop} {ws0 : va_W} {sh0 : List Nat} {k : ck_S → Bool} {S : ck_S} {pc pc' : Nat}
theorem ck_isr_ok {ws : va_W} {sh : List Nat} {n : ck_N} {N : Nat} {b : ck_V} {v : Value} (h : ck_isr b = true) (hv : ck_vo ws sh sc n N b v) : v = .null ∨ ∃ x : Nat, v = .ref x := by
  unfold ck_isr at h
  simp only [Bool.or_eq_true, beq_iff_eq] at h
  unfold ck_vo at hv
  rcases h with z | z | z | z <;> rw [z] at hv
  · obtain ⟨-, -, q, a, e', t, rfl, -⟩ := hv
    exact Or.inr ⟨a, rfl⟩
  · rcases hv.2.2 with w | ⟨q, a, e', t, rfl, -⟩
    · exact Or.inl w
    · exact Or.inr ⟨a, rfl⟩
  · exact Or.inl hv.2.2
  · obtain ⟨-, b, L, xs, -, rfl, -⟩ := hv
    exact Or.inr ⟨b, rfl⟩
theorem ck_rem {x y : Int32} : x - x / y * y = x % y := by
  apply Int32.toInt_inj.mp
  rw [Int32.toInt_sub, Int32.toInt_mul, Int32.toInt_div, Int.bmod_mul_bmod, Int.sub_bmod_bmod, Int32.toInt_mod]
  have e : x.toInt - x.toInt.tdiv y.toInt * y.toInt = x.toInt.tmod y.toInt := by rw [Int.tmod_def, Int.mul_comm]
  rw [e, ← Int32.toInt_mod]
  exact Int32.toInt_bmod (x % y)
theorem ck_isr_ne {b : ck_V} (h : ck_isr b = true) : b.1 ≠ 1 := by
  unfold ck_isr at h
  simp only [Bool.or_eq_true, beq_iff_eq] at h
  omega
theorem ck_iinc_ok (X : ck_cx p l e R s m args below meth c cc own D cl tys M sc A) {i : Nat} {c0 : Int} {k : ck_S → Bool} (h : (decide (-32768 ≤ c0 ∧ c0 < 32768) && (decide (i < mnL M) && match ck_look S.1 i with
    | some v => v.1 == 0 && (let S1 := ck_cst S 0 c0
        match ck_binS 32 0 S1 S.2.1 0 v.2.1 S.2.2.2.1.length with
        | some S' => (match S'.2.1 with
          | w :: _ => k (ck_st1 S.1 i w, S.2.1, S'.2.2)
          | [] => false)
        | none => false)
    | none => false)) = true) (hk : ∀ S, k S = true → ck_g p l e R s m args below meth c Q D cl tys M sc A ws0 sh0 S (pc + 3)) (hdg : decode cc pc = .ok (.iinc i c0, 3)) : ck_g p l e R s m args below meth c Q D cl tys M sc A ws0 sh0 S pc := by
  intro n ws sh H locs ls vs o hw hx hP hD hS
  rw [Bool.and_eq_true, Bool.and_eq_true, decide_eq_true_eq, decide_eq_true_eq] at h
  obtain ⟨hc, hi, h⟩ := h
  split at h
  · rename_i v hv
    rw [Bool.and_eq_true] at h
    obtain ⟨h0, h⟩ := h
    obtain ⟨lv, l1, l2⟩ := id o.2.1
    have hv2 := hv
    unfold ck_look at hv
    cases hf : S.1.find? (fun q => q.1 == i) with
    | none => rw [hf] at hv; cases hv
    | some q0 =>
      rw [hf] at hv
      have e1 : q0.2 = v := Option.some.inj hv
      have hm := List.mem_of_find?_eq_some hf
      have hp := List.find?_some hf
      have hi0 : q0.1 = i := eq_of_beq hp
      obtain ⟨y, hy, z1, z2⟩ := ck_two.mem l2 hm
      rw [e1] at z2
      obtain ⟨hlt, x, ex, ex2⟩ := z2.i (eq_of_beq h0)
      obtain ⟨kk, hkk⟩ := List.getElem?_of_mem hy
      have ey : y = (i, .int x) := by rw [← hi0, z1, ← ex]
      rw [ey] at hkk
      dsimp only at h
      split at h
      · rename_i S' hS'
        split at h
        · rename_i w st hst
          have ec : (Int32.ofInt c0).toInt = c0 := Int32.toInt_ofInt_of_le (by omega) (by omega)
          have oc : ck_so (mnL M) (mSG M) (ck_cst S 0 c0) (ck_nx n S.2.2.2.1.length (c0, .null)) ws sh sc ls (.int (Int32.ofInt c0) :: vs) := o.new o.2.2.1 (tag := 0) (ts := []) (iv := (c0, c0)) (rs := []) (x := (c0, .null)) (v := .int (Int32.ofInt c0)) (.mi (Nat.lt_succ_self _) (by rw [ck_nx_eq]; exact ec)) (fun _ => ⟨Int.le_refl _, Int.le_refl _⟩) (fun r hr => by cases hr)
          have hN : (ck_cst S 0 c0).2.2.2.1.length = S.2.2.2.1.length + 1 := by simp [ck_cst, ck_new]
          have hst1 : ck_two (ck_vo ws sh sc (ck_nx n S.2.2.2.1.length (c0, .null)) (ck_cst S 0 c0).2.2.2.1.length) S.2.1 vs := by
            rw [hN]
            exact o.2.2.1.imp fun _ _ z => z.up ck_nx_lt (Nat.le_succ _)
          have na : (ck_nx n S.2.2.2.1.length (c0, .null) v.2.1).1 = x.toInt := by rw [ck_nx_lt _ hlt]; exact ex2.symm
          have nb : (ck_nx n S.2.2.2.1.length (c0, .null) S.2.2.2.1.length).1 = (Int32.ofInt c0).toInt := by rw [ck_nx_eq]; exact ec.symm
          obtain ⟨n', o', ec', q1, q2⟩ := ck_binS_ok oc hst1 hS' (by rw [hN]; omega) (by rw [hN]; omega) (v := .int (x + Int32.ofInt c0)) (Z := (x + Int32.ofInt c0).toInt) (fun ix iy h1 h2 => by
              rw [na] at h1
              rw [nb] at h2
              refine ⟨ck_bin32 0 h1 h2, fun _ he => ?_, (fun z => by cases z), (fun z => by cases z)⟩
              rw [na, nb]
              exact ck_cl_eq (w := 32) (by decide) (r := (x + Int32.ofInt c0).toBitVec) (z := x.toInt + (Int32.ofInt c0).toInt) (x := (ix.1 + iy.1, ix.2 + iy.2)) (Int32.toInt_add _ _) ⟨Int.add_le_add h1.1 h2.1, Int.add_le_add h1.2 h2.2⟩ (ck_cl_in he))
            (fun z => by cases z) (fun z => by cases z) (fun m N k hk hz => .mi hk hz.symm)
          have o2 := o'.2.2.1
          rw [hst] at o2
          obtain ⟨lv', m1, m2⟩ := id o'.2.1
          have hS1 : S'.1 = S.1 := by
            unfold ck_binS at hS'
            split at hS'
            · split at hS'
              · dsimp only at hS'
                split at hS' <;> (have e := Option.some.inj hS'; subst e; rfl)
              · cases hS'
            · cases hS'
          rw [hS1] at m2
          -- the locals' own list, with the values that stand there
          refine lv_iinc X.1 X.2.1 (v := x + Int32.ofInt c0) hdg l1 hkk rfl hi rfl (fun ls' hls' => ?_)
          refine ck_g.at (hk _ h) ⟨o'.1, ?_, ?_, o'.2.2.2⟩ hw hx hP hD hS ec'
          · refine ⟨_, hls', ⟨rfl, o2.1⟩, ?_⟩
            have hall : ck_two (fun (x : Nat × ck_V) (y : Nat × Value) => x.1 = y.1 ∧ ck_vo ws sh sc n' S'.2.2.2.1.length x.2 y.2) S.1 lv := by
              -- two listings of the same locals: by the values that they hold
              have hup : ∀ (a : Nat × ck_V) (b : Nat × Value), (a.1 = b.1 ∧ ck_vo ws sh sc n S.2.2.2.1.length a.2 b.2) → a.1 = b.1 ∧ ck_vo ws sh sc n' S'.2.2.2.1.length a.2 b.2 := by
                rw [hN] at q1 q2
                exact fun a b hab => ⟨hab.1, hab.2.up (fun k hk => by rw [q1 k (by omega), ck_nx_lt k hk]) (by omega)⟩
              exact l2.imp hup
            exact hall.flt ck_flt1
          · rw [hN] at q1 q2
            exact o.2.2.1.imp fun _ _ z => z.up (fun k hk => by rw [q1 k (by omega), ck_nx_lt k hk]) (by dsimp only; omega)
        · cases h
      · cases h
  · cases h
theorem ck_sh_ok {tag : Nat} {T : Type} {mk : T → Value} (hty : ∀ (n : ck_N) (ws : va_W) (sh : List Nat) (N : Nat) (av : ck_V) (v : Value), av.1 = tag → ck_vo ws sh sc n N av v → ∃ x : T, v = mk x) {top : Int × Int} {k : ck_S → Bool} (h : (match S.2.1 with
    | b :: a :: st => b.1 == 0 && (a.1 == tag && k (ck_new S st tag [] top []))
    | _ => false) = true) (hk : ∀ S, k S = true → ck_g p l e R s m args below meth c Q D cl tys M sc A ws0 sh0 S (pc + 1))
    (row : ∀ (H : Heap) (locs : List Loc) (ls : Array Slot) (vs : List Value) (x : T) (y : Int32), (∀ (z : Int) (v : Value), ck_in top z → (∀ (ws : va_W) (sh : List Nat) (m : ck_N) (N k : Nat), k < N → (m k).1 = z → ck_vo ws sh sc m N (tag, k, []) v) → W p l e R s m args below meth c H locs (ck_oc R M + S.2.2.2.2.2.1) (ck_os R M + S.2.2.2.2.2.2) Q (F0 m (pc + 1) ls (v :: vs))) → W p l e R s m args below meth c H locs (ck_oc R M + S.2.2.2.2.2.1) (ck_os R M + S.2.2.2.2.2.2) Q (F0 m pc ls (.int y :: mk x :: vs))) : ck_g p l e R s m args below meth c Q D cl tys M sc A ws0 sh0 S pc := by
  intro n ws sh H locs ls vs o hw hx hP hD hS
  split at h
  · rename_i b a st hst
    rw [Bool.and_eq_true, Bool.and_eq_true] at h
    have o3 := o.2.2.1
    rw [hst] at o3
    obtain ⟨v, vs1, rfl, h2, h3⟩ := ck_hd o3
    obtain ⟨u, vs2, rfl, h4, h5⟩ := ck_hd h3
    obtain ⟨-, y, rfl, -⟩ := h2.i (eq_of_beq h.1)
    obtain ⟨x, rfl⟩ := hty n ws sh _ a u (eq_of_beq h.2.1) h4
    exact row H locs ls vs2 x y (fun z v hz hv => ck_push (hk _ h.2.2) o hw hx hP hD hS h5 hz (fun m N k => hv ws sh m N k))
  · cases h
theorem ck_lshl_ok (X : ck_cx p l e R s m args below meth c cc own D cl tys M sc A) {k : ck_S → Bool} (h : (match S.2.1 with
    | b :: a :: st => b.1 == 0 && (a.1 == 1 && (match S.2.2.2.1[a.2.1]?, S.2.2.2.1[b.2.1]? with
      | some x, some y => decide (x.1 ≤ x.2 ∧ y.1 ≤ y.2) && k (ck_new S st 1 [] (ck_bin 64 6 x y) [])
      | _, _ => false))
    | _ => false) = true) (hk : ∀ S, k S = true → ck_g p l e R s m args below meth c Q D cl tys M sc A ws0 sh0 S (pc + 1)) (hdg : decode cc pc = .ok (.lshl, 1)) : ck_g p l e R s m args below meth c Q D cl tys M sc A ws0 sh0 S pc := by
  intro n ws sh H locs ls vs o hw hx hP hD hS
  split at h
  · rename_i b a st hst
    rw [Bool.and_eq_true, Bool.and_eq_true] at h
    have o3 := o.2.2.1
    rw [hst] at o3
    obtain ⟨v, vs1, rfl, h2, h3⟩ := ck_hd o3
    obtain ⟨u, vs2, rfl, h4, h5⟩ := ck_hd h3
    obtain ⟨-, y, rfl, ey⟩ := h2.i (eq_of_beq h.1)
    obtain ⟨-, x, rfl, ex⟩ := h4.j (eq_of_beq h.2.1)
    have h6 := h.2.2
    split at h6
    · rename_i ix iy hix hiy
      rw [Bool.and_eq_true, decide_eq_true_eq] at h6
      have b1 := o.2.2.2.2.1 _ _ hix h6.1.1
      have b2 := o.2.2.2.2.1 _ _ hiy h6.1.2
      rw [← ex] at b1
      rw [← ey] at b2
      exact lv_lshl X.1 X.2.1 hdg rfl (ck_push (hk _ h6.2) o hw hx hP hD hS h5 (ck_lshl b1 b2) (fun _ _ _ g1 g2 => .ml g1 (by rw [g2])))
    · cases h6
  · cases h
theorem ck_ineg_ok (X : ck_cx p l e R s m args below meth c cc own D cl tys M sc A) {k : ck_S → Bool} (h : (match S.2.1 with
    | a :: st => a.1 == 0 && (match S.2.2.2.1[a.2.1]? with
      | some x => decide (x.1 ≤ x.2) && k (ck_new S st 0 [] (ck_cl 32 (-x.2, -x.1)) [])
      | none => false)
    | _ => false) = true) (hk : ∀ S, k S = true → ck_g p l e R s m args below meth c Q D cl tys M sc A ws0 sh0 S (pc + 1)) (hdg : decode cc pc = .ok (.ineg, 1)) : ck_g p l e R s m args below meth c Q D cl tys M sc A ws0 sh0 S pc := by
  intro n ws sh H locs ls vs o hw hx hP hD hS
  split at h
  · rename_i a st hst
    rw [Bool.and_eq_true] at h
    have o3 := o.2.2.1
    rw [hst] at o3
    obtain ⟨u, vs2, rfl, h4, h5⟩ := ck_hd o3
    obtain ⟨-, x, rfl, ex⟩ := h4.i (eq_of_beq h.1)
    have h6 := h.2
    split at h6
    · rename_i ix hix
      rw [Bool.and_eq_true, decide_eq_true_eq] at h6
      have b1 := o.2.2.2.2.1 _ _ hix h6.1
      rw [← ex] at b1
      refine lv_ineg X.1 X.2.1 hdg (ck_push (hk _ h6.2) o hw hx hP hD hS h5 (z := (-x).toInt) (ck_cl_ok (w := 32) (by decide) (r := (-x).toBitVec) (z := -x.toInt) (Int32.toInt_neg x) ⟨?_, ?_⟩) (fun _ _ _ g1 g2 => .mi g1 (by rw [g2])))
      · have := b1.2
        dsimp only
        omega
      · have := b1.1
        dsimp only
        omega
    · cases h6
  · cases h
theorem ck_un_ok {f : ck_V → List ck_V → Bool} (h : ck_un S f = true) {nL : Nat} {SG : List Nat} {n : ck_N} {ws : va_W} {sh : List Nat} {ls : Array Slot} {vs : List Value} (o : ck_so nL SG S n ws sh sc ls vs) : ∃ (av : ck_V) (st : List ck_V) (v : Value) (vs' : List Value), S.2.1 = av :: st ∧ f av st = true ∧ vs = v :: vs' ∧ ck_vo ws sh sc n S.2.2.2.1.length av v ∧ ck_two (ck_vo ws sh sc n S.2.2.2.1.length) st vs' := by
  unfold ck_un at h
  split at h
  · rename_i av st hst
    have o3 := o.2.2.1
    rw [hst] at o3
    obtain ⟨v, vs', rfl, h2, h3⟩ := ck_hd o3
    exact ⟨av, st, v, vs', hst, h, rfl, h2, h3⟩
  · cases h
theorem ck_i2l_ok (X : ck_cx p l e R s m args below meth c cc own D cl tys M sc A) {k : ck_S → Bool} (h : ck_un S (fun v st => v.1 == 0 && k (ck_ss S ((1, v.2.1, []) :: st))) = true) (hk : ∀ S, k S = true → ck_g p l e R s m args below meth c Q D cl tys M sc A ws0 sh0 S (pc + 1)) (hdg : decode cc pc = .ok (.i2l, 1)) : ck_g p l e R s m args below meth c Q D cl tys M sc A ws0 sh0 S pc := by
  intro n ws sh H locs ls vs o hw hx hP hD hS
  obtain ⟨av, st, v, vs', -, h1, rfl, h2, h3⟩ := ck_un_ok h o
  rw [Bool.and_eq_true] at h1
  obtain ⟨hl, x, rfl, ex⟩ := h2.i (eq_of_beq h1.1)
  exact lv_i2l X.1 X.2.1 hdg rfl ((hk _ h1.2).at (o.ss ⟨.ml hl (by rw [Int32.toInt_toInt64]; exact ex), h3⟩) hw hx hP hD hS rfl)
theorem ck_l2i_ok (X : ck_cx p l e R s m args below meth c cc own D cl tys M sc A) {k : ck_S → Bool} (h : ck_un S (fun v st => v.1 == 1 && (match S.2.2.2.1[v.2.1]? with
    | some x => decide (x.1 ≤ x.2) && k (if -2147483648 ≤ x.1 ∧ x.2 < 2147483648 then ck_ss S ((0, v.2.1, []) :: st) else ck_new S st 0 [] (ck_top 32) [])
    | none => false)) = true) (hk : ∀ S, k S = true → ck_g p l e R s m args below meth c Q D cl tys M sc A ws0 sh0 S (pc + 1)) (hdg : decode cc pc = .ok (.l2i, 1)) : ck_g p l e R s m args below meth c Q D cl tys M sc A ws0 sh0 S pc := by
  intro n ws sh H locs ls vs o hw hx hP hD hS
  obtain ⟨av, st, v, vs', -, h1, rfl, h2, h3⟩ := ck_un_ok h o
  rw [Bool.and_eq_true] at h1
  obtain ⟨hl, x, rfl, ex⟩ := h2.j (eq_of_beq h1.1)
  have h6 := h1.2
  split at h6
  · rename_i ix hix
    rw [Bool.and_eq_true, decide_eq_true_eq] at h6
    have b1 := o.2.2.2.2.1 _ _ hix h6.1
    rw [← ex] at b1
    refine lv_l2i X.1 X.2.1 hdg rfl ?_
    have h7 := h6.2
    split at h7
    · rename_i hr
      refine (hk _ h7).at (o.ss ⟨.mi hl ?_, h3⟩) hw hx hP hD hS rfl
      rw [← ex, Int64.toInt_toInt32]
      have hb := b1.1
      have hb2 := b1.2
      exact Int.bmod_eq_of_le (by omega) (by omega)
    · exact ck_push (hk _ h7) o hw hx hP hD hS h3 (ck_r32 _) (fun _ _ _ g1 g2 => .mi g1 (by rw [g2]))
  · cases h6
theorem ck_i2b_ok (X : ck_cx p l e R s m args below meth c cc own D cl tys M sc A) {k : ck_S → Bool} (h : ck_un S (fun v st => v.1 == 0 && k (ck_new S st 0 [] (-128, 127) [])) = true) (hk : ∀ S, k S = true → ck_g p l e R s m args below meth c Q D cl tys M sc A ws0 sh0 S (pc + 1)) (hdg : decode cc pc = .ok (.i2b, 1)) : ck_g p l e R s m args below meth c Q D cl tys M sc A ws0 sh0 S pc := by
  intro n ws sh H locs ls vs o hw hx hP hD hS
  obtain ⟨av, st, v, vs', -, h1, rfl, h2, h3⟩ := ck_un_ok h o
  rw [Bool.and_eq_true] at h1
  obtain ⟨hl, x, rfl, ex⟩ := h2.i (eq_of_beq h1.1)
  refine lv_i2b X.1 X.2.1 hdg rfl (ck_push (hk _ h1.2) o hw hx hP hD hS h3 (z := x.toInt8.toInt32.toInt) ?_ (fun _ _ _ g1 g2 => .mi g1 (by rw [g2])))
  rw [Int8.toInt_toInt32]
  have h1 := Int8.toInt_lt x.toInt8
  have h2 := Int8.le_toInt x.toInt8
  exact ⟨by show -128 ≤ _; omega, by show _ ≤ 127; omega⟩
theorem ck_i2s_ok (X : ck_cx p l e R s m args below meth c cc own D cl tys M sc A) {k : ck_S → Bool} (h : ck_un S (fun v st => v.1 == 0 && k (ck_new S st 0 [] (-32768, 32767) [])) = true) (hk : ∀ S, k S = true → ck_g p l e R s m args below meth c Q D cl tys M sc A ws0 sh0 S (pc + 1)) (hdg : decode cc pc = .ok (.i2s, 1)) : ck_g p l e R s m args below meth c Q D cl tys M sc A ws0 sh0 S pc := by
  intro n ws sh H locs ls vs o hw hx hP hD hS
  obtain ⟨av, st, v, vs', -, h1, rfl, h2, h3⟩ := ck_un_ok h o
  rw [Bool.and_eq_true] at h1
  obtain ⟨hl, x, rfl, ex⟩ := h2.i (eq_of_beq h1.1)
  refine lv_i2s X.1 X.2.1 hdg rfl (ck_push (hk _ h1.2) o hw hx hP hD hS h3 (z := x.toInt16.toInt32.toInt) ?_ (fun _ _ _ g1 g2 => .mi g1 (by rw [g2])))
  rw [Int16.toInt_toInt32]
  have h1 := Int16.toInt_lt x.toInt16
  have h2 := Int16.le_toInt x.toInt16
  exact ⟨by show -32768 ≤ _; omega, by show _ ≤ 32767; omega⟩
theorem ck_lcmp_ok (X : ck_cx p l e R s m args below meth c cc own D cl tys M sc A) {k : ck_S → Bool} (h : (match S.2.1 with
    | b :: a :: st => b.1 == 1 && (a.1 == 1 && k (ck_ss S ((7, a.2.1, [b.2.1]) :: st)))
    | _ => false) = true) (hk : ∀ S, k S = true → ck_g p l e R s m args below meth c Q D cl tys M sc A ws0 sh0 S (pc + 1)) (hdg : decode cc pc = .ok (.lcmp, 1)) : ck_g p l e R s m args below meth c Q D cl tys M sc A ws0 sh0 S pc := by
  intro n ws sh H locs ls vs o hw hx hP hD hS
  split at h
  · rename_i b a st hst
    rw [Bool.and_eq_true, Bool.and_eq_true] at h
    have o3 := o.2.2.1
    rw [hst] at o3
    obtain ⟨v, vs1, rfl, h2, h3⟩ := ck_hd o3
    obtain ⟨u, vs2, rfl, h4, h5⟩ := ck_hd h3
    obtain ⟨lb, y, rfl, ey⟩ := h2.j (eq_of_beq h.1)
    obtain ⟨la, x, rfl, ex⟩ := h4.j (eq_of_beq h.2.1)
    exact W.lcmp X.1 X.2.1 hdg ((hk _ h.2.2).at (o.ss ⟨⟨la, b.2.1, rfl, lb, x, y, rfl, ex, ey⟩, h5⟩) hw hx hP hD hS rfl)
  · cases h
theorem ck_anull_ok (X : ck_cx p l e R s m args below meth c cc own D cl tys M sc A) (hk : ck_g p l e R s m args below meth c Q D cl tys M sc A ws0 sh0 (ck_new S S.2.1 4 [] (1, 0) []) (pc + 1)) (hdg : decode cc pc = .ok (.aconst_null, 1)) : ck_g p l e R s m args below meth c Q D cl tys M sc A ws0 sh0 S pc := by
  intro n ws sh H locs ls vs o hw hx hP hD hS
  exact lv_null X.1 X.2.1 hdg (hk.at (o.new o.2.2.1 (x := (0, .null)) ⟨Nat.lt_succ_self _, by rw [ck_nx_eq], rfl⟩ (fun z => absurd z (by decide)) (fun r hr => by cases hr)) hw hx hP hD hS rfl)
theorem ck_dup_ok (X : ck_cx p l e R s m args below meth c cc own D cl tys M sc A) {k : ck_S → Bool} (h : ck_un S (fun v st => ck_cat v == 1 && k (ck_ss S (v :: v :: st))) = true) (hk : ∀ S, k S = true → ck_g p l e R s m args below meth c Q D cl tys M sc A ws0 sh0 S (pc + 1)) (hdg : decode cc pc = .ok (.dup, 1)) : ck_g p l e R s m args below meth c Q D cl tys M sc A ws0 sh0 S pc := by
  intro n ws sh H locs ls vs o hw hx hP hD hS
  obtain ⟨av, st, v, vs', -, h1, rfl, h2, h3⟩ := ck_un_ok h o
  rw [Bool.and_eq_true] at h1
  exact lv_dup X.1 X.2.1 hdg (by rw [ck_cat_ok h2]; exact eq_of_beq h1.1) ((hk _ h1.2).at (o.ss ⟨h2, h2, h3⟩) hw hx hP hD hS rfl)
theorem ck_pop_ok (X : ck_cx p l e R s m args below meth c cc own D cl tys M sc A) {k : ck_S → Bool} (h : ck_un S (fun v st => ck_cat v == 1 && k (ck_ss S st)) = true) (hk : ∀ S, k S = true → ck_g p l e R s m args below meth c Q D cl tys M sc A ws0 sh0 S (pc + 1)) (hdg : decode cc pc = .ok (.pop, 1)) : ck_g p l e R s m args below meth c Q D cl tys M sc A ws0 sh0 S pc := by
  intro n ws sh H locs ls vs o hw hx hP hD hS
  obtain ⟨av, st, v, vs', -, h1, rfl, h2, h3⟩ := ck_un_ok h o
  rw [Bool.and_eq_true] at h1
  exact lv_pop X.1 X.2.1 hdg (by rw [ck_cat_ok h2]; exact eq_of_beq h1.1) ((hk _ h1.2).at (o.ss h3) hw hx hP hD hS rfl)
theorem ck_pop2_ok (X : ck_cx p l e R s m args below meth c cc own D cl tys M sc A) {k : ck_S → Bool} (h : ck_un S (fun v st => v.1 == 1 && k (ck_ss S st)) = true) (hk : ∀ S, k S = true → ck_g p l e R s m args below meth c Q D cl tys M sc A ws0 sh0 S (pc + 1)) (hdg : decode cc pc = .ok (.pop2, 1)) : ck_g p l e R s m args below meth c Q D cl tys M sc A ws0 sh0 S pc := by
  intro n ws sh H locs ls vs o hw hx hP hD hS
  obtain ⟨av, st, v, vs', -, h1, rfl, h2, h3⟩ := ck_un_ok h o
  rw [Bool.and_eq_true] at h1
  obtain ⟨-, x, rfl, -⟩ := h2.j (eq_of_beq h1.1)
  exact lv_pop2_2 X.1 X.2.1 hdg rfl ((hk _ h1.2).at (o.ss h3) hw hx hP hD hS rfl)
theorem ck_dup2_ok (X : ck_cx p l e R s m args below meth c cc own D cl tys M sc A) {k : ck_S → Bool} (h : (match S.2.1 with
    | a :: b :: st => ck_cat a == 1 && (ck_cat b == 1 && k (ck_ss S (a :: b :: a :: b :: st)))
    | _ => false) = true) (hk : ∀ S, k S = true → ck_g p l e R s m args below meth c Q D cl tys M sc A ws0 sh0 S (pc + 1)) (hdg : decode cc pc = .ok (.dup2, 1)) : ck_g p l e R s m args below meth c Q D cl tys M sc A ws0 sh0 S pc := by
  intro n ws sh H locs ls vs o hw hx hP hD hS
  split at h
  · rename_i b a st hst
    rw [Bool.and_eq_true, Bool.and_eq_true] at h
    have o3 := o.2.2.1
    rw [hst] at o3
    obtain ⟨v, vs1, rfl, h2, h3⟩ := ck_hd o3
    obtain ⟨u, vs2, rfl, h4, h5⟩ := ck_hd h3
    exact lv_dup2_11 X.1 X.2.1 hdg (by rw [ck_cat_ok h2]; exact eq_of_beq h.1) (by rw [ck_cat_ok h4]; exact eq_of_beq h.2.1) ((hk _ h.2.2).at (o.ss ⟨h2, h4, h2, h4, h5⟩) hw hx hP hD hS rfl)
  · cases h
variable {kc : ck_cont}
theorem ck_goto_ok (X : ck_cx p l e R s m args below meth c cc own D cl tys M sc A) {off : Int} (h : ck_tgt pc off (kc S) = true) (hk : ∀ S pc, kc S pc = true → ck_g p l e R s m args below meth c Q D cl tys M sc A ws0 sh0 S pc) (hdg : decode cc pc = .ok (.goto off, 3)) : ck_g p l e R s m args below meth c Q D cl tys M sc A ws0 sh0 S pc := by
  intro n ws sh H locs ls vs o hw hx hP hD hS
  obtain ⟨t, ht, h1⟩ := ck_tgt_ok h
  exact lv_goto X.1 X.2.1 hdg ht (hk S t h1 n ws sh H locs ls vs o hw hx hP hD hS)
theorem ck_icmp_ok (X : ck_cx p l e R s m args below meth c cc own D cl tys M sc A) {cd : ClassFile.Cond} {off : Int} (h0 : 0 ≤ (pc : Int) + off) (h : (match S.2.1 with
    | b :: a :: st => b.1 == 0 && (a.1 == 0 && ck_wc (mF M) cd a.2.1 b.2.1 (ck_ss S st) (fun S => ck_tgt pc off (kc S)) (fun S => kc S (pc + 3)))
    | _ => false) = true) (hk : ∀ S pc, kc S pc = true → ck_g p l e R s m args below meth c Q D cl tys M sc A ws0 sh0 S pc) (hdg : decode cc pc = .ok (.if_icmp cd off, 3)) : ck_g p l e R s m args below meth c Q D cl tys M sc A ws0 sh0 S pc := by
  intro n ws sh H locs ls vs o hw hx hP hD hS
  split at h
  · rename_i b a st hst
    rw [Bool.and_eq_true, Bool.and_eq_true] at h
    have o3 := o.2.2.1
    rw [hst] at o3
    obtain ⟨v, vs1, rfl, h2, h3⟩ := ck_hd o3
    obtain ⟨u, vs2, rfl, h4, h5⟩ := ck_hd h3
    obtain ⟨lb, y, rfl, ey⟩ := h2.i (eq_of_beq h.1)
    obtain ⟨la, x, rfl, ex⟩ := h4.i (eq_of_beq h.2.1)
    have os : ck_so (mnL M) (mSG M) (ck_ss S st) n ws sh sc ls vs2 := o.ss h5
    obtain ⟨w1, w2⟩ := ck_wc_ok os h.2.2
    refine ck_row_icmp X.1 X.2.1 hdg (tgt := ((pc : Int) + off).toNat) (by omega) (fun z => ?_) (fun z => ?_)
    · rw [ex, ey] at z
      obtain ⟨S', k1, o', e'⟩ := w1 z
      obtain ⟨t, ht, h1⟩ := ck_tgt_ok k1
      have et : ((pc : Int) + off).toNat = t := by omega
      rw [et]
      exact (hk S' t h1).at o' hw hx hP hD hS e'.2.2.2.2
    · rw [ex, ey] at z
      obtain ⟨S', k1, o', e'⟩ := w2 z
      exact (hk S' _ k1).at o' hw hx hP hD hS e'.2.2.2.2
  · cases h
theorem ck_if_ok (X : ck_cx p l e R s m args below meth c cc own D cl tys M sc A) {cd : ClassFile.Cond} {off : Int} (h0 : 0 ≤ (pc : Int) + off) (h : ck_un S (fun v st => if v.1 = 7 then (match v.2.2 with
      | [b] => ck_wc (mF M) cd v.2.1 b (ck_ss S st) (fun S => ck_tgt pc off (kc S)) (fun S => kc S (pc + 3))
      | _ => false) else v.1 == 0 && ck_wc (mF M) cd v.2.1 0 (ck_ss S st) (fun S => ck_tgt pc off (kc S)) (fun S => kc S (pc + 3))) = true) (hk : ∀ S pc, kc S pc = true → ck_g p l e R s m args below meth c Q D cl tys M sc A ws0 sh0 S pc) (hdg : decode cc pc = .ok (.ifCond cd off, 3)) : ck_g p l e R s m args below meth c Q D cl tys M sc A ws0 sh0 S pc := by
  intro n ws sh H locs ls vs o hw hx hP hD hS
  obtain ⟨av, st, v, vs', -, h1, rfl, h2, h3⟩ := ck_un_ok h o
  have os : ck_so (mnL M) (mSG M) (ck_ss S st) n ws sh sc ls vs' := o.ss h3
  have fin : ∀ (x : Int32) (a b : Nat), v = .int x → (ck_cm cd x.toInt 0 ↔ ck_cm cd (n a).1 (n b).1) → ck_wc (mF M) cd a b (ck_ss S st) (fun S => ck_tgt pc off (kc S)) (fun S => kc S (pc + 3)) = true → W p l e R s m args below meth c H locs (ck_oc R M + S.2.2.2.2.2.1) (ck_os R M + S.2.2.2.2.2.2) Q (F0 m pc ls (v :: vs')) := by
    intro x a b ev hab hwc
    subst ev
    obtain ⟨w1, w2⟩ := ck_wc_ok os hwc
    refine ck_row_if X.1 X.2.1 hdg (tgt := ((pc : Int) + off).toNat) (by omega) (fun z => ?_) (fun z => ?_)
    · obtain ⟨S', k1, o', e'⟩ := w1 (hab.mp z)
      obtain ⟨t, ht, h1⟩ := ck_tgt_ok k1
      have et : ((pc : Int) + off).toNat = t := by omega
      rw [et]
      exact (hk S' t h1).at o' hw hx hP hD hS e'.2.2.2.2
    · obtain ⟨S', k1, o', e'⟩ := w2 (fun q => z (hab.mpr q))
      exact (hk S' _ k1).at o' hw hx hP hD hS e'.2.2.2.2
  split at h1
  · rename_i e7
    have h4 := h2
    unfold ck_vo at h4
    rw [e7] at h4
    obtain ⟨-, k2, e2, -, x, y, ev, ex, ey⟩ := h4
    rw [e2] at h1
    refine fin (lg_cmp x y) av.2.1 k2 ev ?_ h1
    rw [ck_cm_lg, ex, ey]
  · rw [Bool.and_eq_true] at h1
    obtain ⟨-, x, ev, ex⟩ := h2.i (eq_of_beq h1.1)
    refine fin x av.2.1 0 ev ?_ h1.2
    rw [ex, o.1.2]
theorem ck_ifnull_ok (X : ck_cx p l e R s m args below meth c cc own D cl tys M sc A) {off : Int} (h : ck_nul S (fun S => ck_tgt pc off (kc S)) (fun S => kc S (pc + 3)) = true) (hk : ∀ S pc, kc S pc = true → ck_g p l e R s m args below meth c Q D cl tys M sc A ws0 sh0 S pc) (hdg : decode cc pc = .ok (.ifnull off, 3)) : ck_g p l e R s m args below meth c Q D cl tys M sc A ws0 sh0 S pc := by
  intro n ws sh H locs ls vs o hw hx hP hD hS
  obtain ⟨v, vs', S', rfl, o', ec, ⟨rfl, h1⟩ | ⟨⟨a, rfl⟩, h1⟩⟩ := ck_nul_ok h o
  · obtain ⟨t, ht, h2⟩ := ck_tgt_ok h1
    exact lv_ifnullN X.1 X.2.1 hdg ht ((hk S' t h2).at o' hw hx hP hD hS ec)
  · exact lv_ifnull X.1 X.2.1 hdg ((hk S' _ h1).at o' hw hx hP hD hS ec)
theorem ck_ifnon_ok (X : ck_cx p l e R s m args below meth c cc own D cl tys M sc A) {off : Int} (h : ck_nul S (fun S => kc S (pc + 3)) (fun S => ck_tgt pc off (kc S)) = true) (hk : ∀ S pc, kc S pc = true → ck_g p l e R s m args below meth c Q D cl tys M sc A ws0 sh0 S pc) (hdg : decode cc pc = .ok (.ifnonnull off, 3)) : ck_g p l e R s m args below meth c Q D cl tys M sc A ws0 sh0 S pc := by
  intro n ws sh H locs ls vs o hw hx hP hD hS
  obtain ⟨v, vs', S', rfl, o', ec, ⟨rfl, h1⟩ | ⟨⟨a, rfl⟩, h1⟩⟩ := ck_nul_ok h o
  · exact lv_ifnonnullN X.1 X.2.1 hdg ((hk S' _ h1).at o' hw hx hP hD hS ec)
  · obtain ⟨t, ht, h2⟩ := ck_tgt_ok h1
    exact lv_ifnonnull X.1 X.2.1 hdg ht ((hk S' t h2).at o' hw hx hP hD hS ec)
theorem ck_tsw_ok (X : ck_cx p l e R s m args below meth c cc own D cl tys M sc A) {d lo hi : Int} {os : Array Int} {len : Nat} (h : ck_un S (fun v st => v.1 == 0 && (decide (hi = lo + (os.size : Int) - 1) && (ck_sw v.2.1 lo (ck_ss S st) pc kc os.toList &&
      (ck_iv v.2.1 (-2147483648) (lo - 1) (ck_ss S st) (fun S => ck_tgt pc d (kc S)) && ck_iv v.2.1 (hi + 1) 2147483647 (ck_ss S st) (fun S => ck_tgt pc d (kc S)))))) = true) (hk : ∀ S pc, kc S pc = true → ck_g p l e R s m args below meth c Q D cl tys M sc A ws0 sh0 S pc) (hdg : decode cc pc = .ok (.tableswitch d lo hi os, len)) : ck_g p l e R s m args below meth c Q D cl tys M sc A ws0 sh0 S pc := by
  intro n ws sh H locs ls vs o hw hx hP hD hS
  obtain ⟨av, st, v, vs', -, h1, rfl, h2, h3⟩ := ck_un_ok h o
  simp only [Bool.and_eq_true, decide_eq_true_eq] at h1
  obtain ⟨g1, g2, g3, g4, g5⟩ := h1
  obtain ⟨-, x, rfl, ex⟩ := h2.i (eq_of_beq g1)
  have hos : ck_so (mnL M) (mSG M) (ck_ss S st) n ws sh sc ls vs' := o.ss h3
  have r1 := Int32.toInt_lt x
  have r2 := Int32.le_toInt x
  by_cases c1 : x.toInt < lo
  · obtain ⟨S', k1, o', e'⟩ := ck_iv_ok hos g4 (by rw [← ex]; omega) (by rw [← ex]; omega)
    obtain ⟨t, ht, h2⟩ := ck_tgt_ok k1
    exact lv_tableOut X.1 X.2.1 hdg (Or.inl c1) ht ((hk S' t h2).at o' hw hx hP hD hS e'.2.2.2.2)
  · by_cases c2 : hi < x.toInt
    · obtain ⟨S', k1, o', e'⟩ := ck_iv_ok hos g5 (by rw [← ex]; omega) (by rw [← ex]; omega)
      obtain ⟨t, ht, h2⟩ := ck_tgt_ok k1
      exact lv_tableOut X.1 X.2.1 hdg (Or.inr c2) ht ((hk S' t h2).at o' hw hx hP hD hS e'.2.2.2.2)
    · have hj : (x.toInt - lo).toNat < os.size := by omega
      have hoff : os.toList[(x.toInt - lo).toNat]? = some os[(x.toInt - lo).toNat] := by
        rw [Array.getElem?_toList]
        exact Array.getElem?_eq_getElem hj
      have k0 := ck_sw_ok g3 _ _ hoff
      have ej : lo + (((x.toInt - lo).toNat : Nat) : Int) = x.toInt := by omega
      rw [ej] at k0
      obtain ⟨S', k1, o', e'⟩ := ck_iv_ok hos k0 (by rw [← ex]; exact Int.le_refl _) (by rw [← ex]; exact Int.le_refl _)
      obtain ⟨t, ht, h2⟩ := ck_tgt_ok k1
      exact lv_tableIn X.1 X.2.1 hdg c1 c2 (Array.getElem?_eq_getElem hj) ht ((hk S' t h2).at o' hw hx hP hD hS e'.2.2.2.2)
end
end
section
/-- the end's instruction: 0 void 1 int 2 long 3 reference -/
def ck_ri (kd : Nat) : Instr := match kd with
  | 0 => .return_
  | 1 => .ireturn
  | 2 => .lreturn
  | _ => .areturn
def ck_rst (kd : Nat) (S : ck_S) : Prop := match kd with
  | 0 => S.2.1 = []
  | 1 => ∃ v, S.2.1 = [v] ∧ v.1 = 0
  | 2 => ∃ v, S.2.1 = [v] ∧ v.1 = 1
  | _ => ∃ v, S.2.1 = [v] ∧ (v.1 = 2 ∨ (v.1 = 3 ∨ v.1 = 4))
def ck_hk (s : State) (args : Array Value) (own : String) (x : Nat × Nat × Int) : Prop := (x.2.1 = 0 → ∃ v : Int32, v.toInt = x.2.2 ∧ (Cond.constant own x.1 v).before args s = true) ∧ (x.2.1 = 1 → ∃ v : Int64, v.toInt = x.2.2 ∧ (Cond.constantLong own x.1 v).before args s = true)
theorem ck_ik0 (i : Nat) : ck_ik (3 * i) = .invokevirtual i := by
  have h1 : 3 * i % 3 = 0 := by omega
  have h2 : 3 * i / 3 = i := by omega
  unfold ck_ik
  rw [h1, h2]
  rfl
theorem ck_ik1 (i : Nat) : ck_ik (3 * i + 1) = .invokestatic i := by
  have h1 : (3 * i + 1) % 3 = 1 := by omega
  have h2 : (3 * i + 1) / 3 = i := by omega
  unfold ck_ik
  rw [h1, h2]
  rfl
theorem ck_ik2 (i : Nat) : ck_ik (3 * i + 2) = .invokespecial i := by
  have h1 : (3 * i + 2) % 3 = 2 := by omega
  have h2 : (3 * i + 2) / 3 = i := by omega
  unfold ck_ik
  rw [h1, h2]
  rfl
section
variable {p : Program} {l : Launch} {e : Env} {R : Room} {s : State} {m : MethodId} {args : Array Value} {below : List Frame} {meth : Method} {c : Code} {Q : State → Prop} {cc : ByteArray} {own : String} {D : va_G} {cl : List vw_C} {tys : List (ClassId × FieldType)} {M : ck_Me} {sc : ck_sc} {A : Nat → Prop} {ws0 : va_W} {sh0 : List Nat} {kr : Nat → ck_S → Bool} {k : ck_cont} {S : ck_S} {pc : Nat}
theorem ck_step_ok (X : ck_cx p l e R s m args below meth c cc own D cl tys M sc A) (hfl : ∀ x ∈ mfl M, ck_hg s args own cl x) (hpl : ∀ x ∈ mpl M, ck_hp s args own cl (meth.name = "<init>") x) (hnl : ∀ x ∈ mnw M, ck_hn s args own cl (mTT M) x) (hkl : ∀ x ∈ mkl M, ck_hk s args own x) (hil : ∀ x ∈ mil M, ck_hi s args own cl x) (hxl : ∀ x ∈ mxl M, ck_hx s args own cl x) (hal : ∀ x ∈ mal M, ck_ha s tys cl x)
    (hgl : ∀ i ∈ mgl M, ck_hs s args own sc i) (hvl : ∀ x ∈ mvl M, ck_cs p l e R s m args below meth c Q cc D cl tys M sc A x) (hk : ∀ (S : ck_S) (pc : Nat), k S pc = true → ck_g p l e R s m args below meth c Q D cl tys M sc A ws0 sh0 S pc) (hret : ∀ (kd : Nat) (S : ck_S), kr kd S = true → ck_rst kd S → ∀ pc, decode cc pc = .ok (ck_ri kd, 1) → ck_g p l e R s m args below meth c Q D cl tys M sc A ws0 sh0 S pc)
    {ins : Instr} {len : Nat} (h : ck_step M kr k S pc ins len = true) (hdg : decode cc pc = .ok (ins, len)) : ck_g p l e R s m args below meth c Q D cl tys M sc A ws0 sh0 S pc := by
  unfold ck_step at h
  split at h
  · rename_i v
    rw [Bool.and_eq_true] at h
    have el := eq_of_beq h.1
    subst el
    have h := h.2
    rw [Bool.and_eq_true, decide_eq_true_eq] at h
    exact ck_cstI (x := Int32.ofInt v) (Int32.toInt_ofInt_of_le h.1.1 h.1.2) (hk _ _ h.2) (fun H locs ls vs hW => lv_iconst X.1 X.2.1 hdg rfl hW)
  · rename_i v
    rw [Bool.and_eq_true] at h
    have el := eq_of_beq h.1
    subst el
    have h := h.2
    rw [Bool.and_eq_true, decide_eq_true_eq] at h
    exact ck_cstI (x := (Int8.ofInt v).toInt32) (by rw [Int8.toInt_toInt32]; exact Int8.toInt_ofInt_of_le h.1.1 h.1.2) (hk _ _ h.2) (fun H locs ls vs hW => lv_bipush X.1 X.2.1 hdg rfl hW)
  · rename_i v
    rw [Bool.and_eq_true] at h
    have el := eq_of_beq h.1
    subst el
    have h := h.2
    rw [Bool.and_eq_true, decide_eq_true_eq] at h
    exact ck_cstI (x := (Int16.ofInt v).toInt32) (by rw [Int16.toInt_toInt32]; exact Int16.toInt_ofInt_of_le h.1.1 h.1.2) (hk _ _ h.2) (fun H locs ls vs hW => lv_sipush X.1 X.2.1 hdg rfl hW)
  · rename_i v
    rw [Bool.and_eq_true] at h
    have el := eq_of_beq h.1
    subst el
    have h := h.2
    exact ck_cstL (x := Int64.ofNat (v : Nat)) (Int64.toInt_ofNat_of_lt (by have := v.isLt; omega)) (hk _ _ h) (fun H locs ls vs hW => lv_lconst X.1 X.2.1 hdg rfl hW)
  · rw [Bool.and_eq_true] at h
    have el := eq_of_beq h.1
    subst el
    have h := h.2
    split at h
    · rename_i x hfx
      have hm := List.mem_of_find?_eq_some hfx
      have hp := List.find?_some hfx
      rw [Bool.and_eq_true] at hp
      obtain ⟨v, v1, v2⟩ := (hkl x hm).1 (eq_of_beq hp.2)
      rw [eq_of_beq hp.1] at v2
      exact ck_cstI (x := v) v1 (hk _ _ h) (fun H locs ls vs hW => lv_ldc X.1 X.2.1 X.2.2.1 v2 hdg hW)
    · cases h
  · rw [Bool.and_eq_true] at h
    have el := eq_of_beq h.1
    subst el
    have h := h.2
    split at h
    · rename_i x hfx
      have hm := List.mem_of_find?_eq_some hfx
      have hp := List.find?_some hfx
      rw [Bool.and_eq_true] at hp
      obtain ⟨v, v1, v2⟩ := (hkl x hm).1 (eq_of_beq hp.2)
      rw [eq_of_beq hp.1] at v2
      exact ck_cstI (x := v) v1 (hk _ _ h) (fun H locs ls vs hW => lv_ldcw X.1 X.2.1 X.2.2.1 v2 hdg hW)
    · cases h
  · rw [Bool.and_eq_true] at h
    have el := eq_of_beq h.1
    subst el
    have h := h.2
    split at h
    · rename_i x hfx
      have hm := List.mem_of_find?_eq_some hfx
      have hp := List.find?_some hfx
      rw [Bool.and_eq_true] at hp
      obtain ⟨v, v1, v2⟩ := (hkl x hm).2 (eq_of_beq hp.2)
      rw [eq_of_beq hp.1] at v2
      exact ck_cstL (x := v) v1 (hk _ _ h) (fun H locs ls vs hW => lv_ldc2 X.1 X.2.1 X.2.2.1 v2 hdg hW)
    · cases h
  · rw [Bool.and_eq_true] at h
    have el := eq_of_beq h.1
    subst el
    have h := h.2
    exact ck_ld_ok h (fun S hS => hk S _ hS) (fun H locs ls vs av ws sh n N v hok hvo hv hW => by
      obtain ⟨-, x, rfl, -⟩ := hvo.i (eq_of_beq hok)
      exact lv_iload_n X.1 X.2.1 hdg rfl hv hW)
  · rw [Bool.and_eq_true] at h
    have el := eq_of_beq h.1
    subst el
    have h := h.2
    exact ck_ld_ok h (fun S hS => hk S _ hS) (fun H locs ls vs av ws sh n N v hok hvo hv hW => by
      obtain ⟨-, x, rfl, -⟩ := hvo.i (eq_of_beq hok)
      exact lv_iload X.1 X.2.1 hdg hv hW)
  · rw [Bool.and_eq_true] at h
    have el := eq_of_beq h.1
    subst el
    have h := h.2
    exact ck_ld_ok h (fun S hS => hk S _ hS) (fun H locs ls vs av ws sh n N v hok hvo hv hW => by
      obtain ⟨-, x, rfl, -⟩ := hvo.j (eq_of_beq hok)
      exact lv_lload_n X.1 X.2.1 hdg rfl hv hW)
  · rw [Bool.and_eq_true] at h
    have el := eq_of_beq h.1
    subst el
    have h := h.2
    exact ck_ld_ok h (fun S hS => hk S _ hS) (fun H locs ls vs av ws sh n N v hok hvo hv hW => by
      obtain ⟨-, x, rfl, -⟩ := hvo.j (eq_of_beq hok)
      exact lv_lload X.1 X.2.1 hdg hv hW)
  · rw [Bool.and_eq_true] at h
    have el := eq_of_beq h.1
    subst el
    have h := h.2
    exact ck_ld_ok h (fun S hS => hk S _ hS) (fun H locs ls vs av ws sh n N v hok hvo hv hW => by
      rcases ck_isr_ok hok hvo with rfl | ⟨x, rfl⟩
      · exact lv_aload_nN X.1 X.2.1 hdg rfl hv hW
      · exact lv_aload_n X.1 X.2.1 hdg rfl hv hW)
  · rw [Bool.and_eq_true] at h
    have el := eq_of_beq h.1
    subst el
    have h := h.2
    exact ck_ld_ok h (fun S hS => hk S _ hS) (fun H locs ls vs av ws sh n N v hok hvo hv hW => by
      rcases ck_isr_ok hok hvo with rfl | ⟨x, rfl⟩
      · exact lv_aloadN X.1 X.2.1 hdg hv hW
      · exact lv_aload X.1 X.2.1 hdg hv hW)
  · rw [Bool.and_eq_true] at h
    have el := eq_of_beq h.1
    subst el
    have h := h.2
    exact ck_sto_ok h (fun v hv => by rw [eq_of_beq hv]; decide) (fun S hS => hk S _ hS) (fun H locs ls vs av ws sh n N v lv hok hvo hl hi kk => by
      obtain ⟨-, x, rfl, -⟩ := hvo.i (eq_of_beq hok)
      exact lv_istore_n X.1 X.2.1 hdg rfl hl hi rfl kk)
  · rw [Bool.and_eq_true] at h
    have el := eq_of_beq h.1
    subst el
    have h := h.2
    exact ck_sto_ok h (fun v hv => by rw [eq_of_beq hv]; decide) (fun S hS => hk S _ hS) (fun H locs ls vs av ws sh n N v lv hok hvo hl hi kk => by
      obtain ⟨-, x, rfl, -⟩ := hvo.i (eq_of_beq hok)
      exact lv_istore X.1 X.2.1 hdg hl hi rfl kk)
  · rw [Bool.and_eq_true] at h
    have el := eq_of_beq h.1
    subst el
    have h := h.2
    exact ck_sto_ok h (fun v hv => ck_isr_ne hv) (fun S hS => hk S _ hS) (fun H locs ls vs av ws sh n N v lv hok hvo hl hi kk => by
      rcases ck_isr_ok hok hvo with rfl | ⟨x, rfl⟩
      · exact lv_astore_nN X.1 X.2.1 hdg rfl hl hi rfl kk
      · exact lv_astore_n X.1 X.2.1 hdg rfl hl hi rfl kk)
  · rw [Bool.and_eq_true] at h
    have el := eq_of_beq h.1
    subst el
    have h := h.2
    exact ck_sto_ok h (fun v hv => ck_isr_ne hv) (fun S hS => hk S _ hS) (fun H locs ls vs av ws sh n N v lv hok hvo hl hi kk => by
      rcases ck_isr_ok hok hvo with rfl | ⟨x, rfl⟩
      · exact lv_astoreN X.1 X.2.1 hdg hl hi rfl kk
      · exact lv_astore X.1 X.2.1 hdg hl hi rfl kk)
  · rw [Bool.and_eq_true] at h
    have el := eq_of_beq h.1
    subst el
    have h := h.2
    exact ck_sto2_ok h (fun S hS => hk S _ hS) (fun H locs ls vs v lv hl hi kk => lv_lstore_n X.1 X.2.1 hdg rfl hl hi rfl kk)
  · rw [Bool.and_eq_true] at h
    have el := eq_of_beq h.1
    subst el
    have h := h.2
    exact ck_sto2_ok h (fun S hS => hk S _ hS) (fun H locs ls vs v lv hl hi kk => lv_lstore X.1 X.2.1 hdg hl hi rfl kk)
  · rw [Bool.and_eq_true] at h
    have el := eq_of_beq h.1
    subst el
    have h := h.2
    exact ck_iinc_ok X h (fun S hS => hk S _ hS) hdg
  · rw [Bool.and_eq_true] at h
    have el := eq_of_beq h.1
    subst el
    have h := h.2
    exact ck_b2i h (fun S hS => hk S _ hS) (fun H locs ls vs x y _ hW => lv_iadd X.1 X.2.1 hdg hW)
  · rw [Bool.and_eq_true] at h
    have el := eq_of_beq h.1
    subst el
    have h := h.2
    exact ck_b2i h (fun S hS => hk S _ hS) (fun H locs ls vs x y _ hW => lv_isub X.1 X.2.1 hdg hW)
  · rw [Bool.and_eq_true] at h
    have el := eq_of_beq h.1
    subst el
    have h := h.2
    exact ck_b2i h (fun S hS => hk S _ hS) (fun H locs ls vs x y _ hW => lv_imul X.1 X.2.1 hdg hW)
  · rw [Bool.and_eq_true] at h
    have el := eq_of_beq h.1
    subst el
    have h := h.2
    exact ck_b2i h (fun S hS => hk S _ hS) (fun H locs ls vs x y _ hW => lv_iand X.1 X.2.1 hdg hW)
  · rw [Bool.and_eq_true] at h
    have el := eq_of_beq h.1
    subst el
    have h := h.2
    exact ck_b2i h (fun S hS => hk S _ hS) (fun H locs ls vs x y _ hW => lv_ior X.1 X.2.1 hdg hW)
  · rw [Bool.and_eq_true] at h
    have el := eq_of_beq h.1
    subst el
    have h := h.2
    exact ck_b2i h (fun S hS => hk S _ hS) (fun H locs ls vs x y _ hW => lv_ixor X.1 X.2.1 hdg hW)
  · rw [Bool.and_eq_true] at h
    have el := eq_of_beq h.1
    subst el
    have h := h.2
    exact ck_b2i h (fun S hS => hk S _ hS) (fun H locs ls vs x y _ hW => lv_ishl X.1 X.2.1 hdg hW)
  · rw [Bool.and_eq_true] at h
    have el := eq_of_beq h.1
    subst el
    have h := h.2
    exact ck_b2i h (fun S hS => hk S _ hS) (fun H locs ls vs x y _ hW => lv_ishr X.1 X.2.1 hdg hW)
  · rw [Bool.and_eq_true] at h
    have el := eq_of_beq h.1
    subst el
    have h := h.2
    exact ck_b2l (by decide) h (fun S hS => hk S _ hS) (fun H locs ls vs x y hW => lv_ladd X.1 X.2.1 hdg hW)
  · rw [Bool.and_eq_true] at h
    have el := eq_of_beq h.1
    subst el
    have h := h.2
    exact ck_b2l (by decide) h (fun S hS => hk S _ hS) (fun H locs ls vs x y hW => lv_lsub X.1 X.2.1 hdg hW)
  · rw [Bool.and_eq_true] at h
    have el := eq_of_beq h.1
    subst el
    have h := h.2
    exact ck_b2l (by decide) h (fun S hS => hk S _ hS) (fun H locs ls vs x y hW => lv_lmul X.1 X.2.1 hdg hW)
  · rw [Bool.and_eq_true] at h
    have el := eq_of_beq h.1
    subst el
    have h := h.2
    exact ck_b2l (by decide) h (fun S hS => hk S _ hS) (fun H locs ls vs x y hW => lv_land X.1 X.2.1 hdg hW)
  · rw [Bool.and_eq_true] at h
    have el := eq_of_beq h.1
    subst el
    have h := h.2
    exact ck_b2l (by decide) h (fun S hS => hk S _ hS) (fun H locs ls vs x y hW => lv_lor X.1 X.2.1 hdg hW)
  · rw [Bool.and_eq_true] at h
    have el := eq_of_beq h.1
    subst el
    have h := h.2
    exact ck_b2l (by decide) h (fun S hS => hk S _ hS) (fun H locs ls vs x y hW => lv_lxor X.1 X.2.1 hdg hW)
  · rw [Bool.and_eq_true] at h
    have el := eq_of_beq h.1
    subst el
    have h := h.2
    unfold ck_un at h
    split at h
    · rename_i b st hst
      dsimp only at h
      split at h
      · rename_i iv hiv
        rw [Bool.and_eq_true, Bool.and_eq_true, decide_eq_true_eq, decide_eq_true_eq] at h
        refine ck_b2i h.2 (fun S hS => hk S _ hS) (fun H locs ls vs x y hy hW => lv_idiv X.1 X.2.1 hdg (fun z => ?_) hW)
        have := hy b st hst iv hiv h.1.2
        rw [z, Int32.toInt_zero] at this
        have h1 := this.1
        have h2 := h.1.1
        omega
      · cases h
    · cases h
  · rw [Bool.and_eq_true] at h
    have el := eq_of_beq h.1
    subst el
    have h := h.2
    unfold ck_un at h
    split at h
    · rename_i b st hst
      dsimp only at h
      split at h
      · rename_i iv hiv
        rw [Bool.and_eq_true, Bool.and_eq_true, decide_eq_true_eq, decide_eq_true_eq] at h
        refine ck_b2i h.2 (fun S hS => hk S _ hS) (fun H locs ls vs x y hy hW => lv_irem X.1 X.2.1 hdg (fun z => ?_) (by rw [ck_rem]; exact hW))
        have := hy b st hst iv hiv h.1.2
        rw [z, Int32.toInt_zero] at this
        have h1 := this.1
        have h2 := h.1.1
        omega
      · cases h
    · cases h
  · rw [Bool.and_eq_true] at h
    have el := eq_of_beq h.1
    subst el
    have h := h.2
    exact ck_sh_ok (tag := 0) (fun n ws sh N av v z hvo => by
        obtain ⟨-, x, rfl, -⟩ := hvo.i z
        exact ⟨x, rfl⟩) h (fun S hS => hk S _ hS) (fun H locs ls vs x y kk => lv_iushr X.1 X.2.1 hdg rfl (kk _ _ (ck_r32 _) (fun _ _ _ _ _ g1 g2 => .mi g1 (by rw [g2]))))
  · rw [Bool.and_eq_true] at h
    have el := eq_of_beq h.1
    subst el
    have h := h.2
    exact ck_sh_ok (tag := 1) (fun n ws sh N av v z hvo => by
        obtain ⟨-, x, rfl, -⟩ := hvo.j z
        exact ⟨x, rfl⟩) h (fun S hS => hk S _ hS) (fun H locs ls vs x y kk => lv_lushr X.1 X.2.1 hdg rfl (kk _ _ (ck_r64 _) (fun _ _ _ _ _ g1 g2 => .ml g1 (by rw [g2]))))
  · rw [Bool.and_eq_true] at h
    have el := eq_of_beq h.1
    subst el
    have h := h.2
    exact ck_sh_ok (tag := 1) (fun n ws sh N av v z hvo => by
        obtain ⟨-, x, rfl, -⟩ := hvo.j z
        exact ⟨x, rfl⟩) h (fun S hS => hk S _ hS) (fun H locs ls vs x y kk => lv_lshr X.1 X.2.1 hdg rfl (kk _ _ (ck_r64 _) (fun _ _ _ _ _ g1 g2 => .ml g1 (by rw [g2]))))
  · rw [Bool.and_eq_true] at h
    have el := eq_of_beq h.1
    subst el
    have h := h.2
    exact ck_lshl_ok X h (fun S hS => hk S _ hS) hdg
  · rw [Bool.and_eq_true] at h
    have el := eq_of_beq h.1
    subst el
    have h := h.2
    exact ck_ineg_ok X h (fun S hS => hk S _ hS) hdg
  · rw [Bool.and_eq_true] at h
    have el := eq_of_beq h.1
    subst el
    have h := h.2
    exact ck_i2l_ok X h (fun S hS => hk S _ hS) hdg
  · rw [Bool.and_eq_true] at h
    have el := eq_of_beq h.1
    subst el
    have h := h.2
    exact ck_l2i_ok X h (fun S hS => hk S _ hS) hdg
  · rw [Bool.and_eq_true] at h
    have el := eq_of_beq h.1
    subst el
    have h := h.2
    exact ck_i2b_ok X h (fun S hS => hk S _ hS) hdg
  · rw [Bool.and_eq_true] at h
    have el := eq_of_beq h.1
    subst el
    have h := h.2
    exact ck_i2s_ok X h (fun S hS => hk S _ hS) hdg
  · rw [Bool.and_eq_true] at h
    have el := eq_of_beq h.1
    subst el
    have h := h.2
    exact ck_lcmp_ok X h (fun S hS => hk S _ hS) hdg
  · rw [Bool.and_eq_true] at h
    have el := eq_of_beq h.1
    subst el
    have h := h.2
    exact ck_anull_ok X (hk _ _ h) hdg
  · rw [Bool.and_eq_true] at h
    have el := eq_of_beq h.1
    subst el
    have h := h.2
    exact ck_dup_ok X h (fun S hS => hk S _ hS) hdg
  · rw [Bool.and_eq_true] at h
    have el := eq_of_beq h.1
    subst el
    have h := h.2
    exact ck_pop_ok X h (fun S hS => hk S _ hS) hdg
  · rw [Bool.and_eq_true] at h
    have el := eq_of_beq h.1
    subst el
    have h := h.2
    exact ck_pop2_ok X h (fun S hS => hk S _ hS) hdg
  · rw [Bool.and_eq_true] at h
    have el := eq_of_beq h.1
    subst el
    have h := h.2
    exact ck_dup2_ok X h (fun S hS => hk S _ hS) hdg
  · rw [Bool.and_eq_true] at h
    have el := eq_of_beq h.1
    subst el
    have h := h.2
    exact ck_goto_ok X h hk hdg
  · rw [Bool.and_eq_true, Bool.and_eq_true, decide_eq_true_eq] at h
    have el := eq_of_beq h.1.1
    subst el
    exact ck_if_ok X h.1.2 h.2 hk hdg
  · rw [Bool.and_eq_true, Bool.and_eq_true, decide_eq_true_eq] at h
    have el := eq_of_beq h.1.1
    subst el
    exact ck_icmp_ok X h.1.2 h.2 hk hdg
  · rw [Bool.and_eq_true] at h
    have el := eq_of_beq h.1
    subst el
    have h := h.2
    exact ck_ifnull_ok X h hk hdg
  · rw [Bool.and_eq_true] at h
    have el := eq_of_beq h.1
    subst el
    have h := h.2
    exact ck_ifnon_ok X h hk hdg
  · exact ck_tsw_ok X h hk hdg
  · rw [Bool.and_eq_true] at h
    have el := eq_of_beq h.1
    subst el
    have h := h.2
    exact ck_get_ok X hfl h (fun S hS => hk S _ hS) hdg
  · rw [Bool.and_eq_true] at h
    have el := eq_of_beq h.1
    subst el
    have h := h.2
    exact ck_put_ok X hpl h (fun S hS => hk S _ hS) hdg
  · rw [Bool.and_eq_true] at h
    have el := eq_of_beq h.1
    subst el
    have h := h.2
    rw [Bool.and_eq_true] at h
    exact ck_gst_ok X (hgl _ (List.contains_iff_mem.mp h.1)) (hk _ _ h.2) hdg
  · rw [Bool.and_eq_true] at h
    have el := eq_of_beq h.1
    subst el
    have h := h.2
    split at h
    · split at h
      · exact ck_sld_ok X h (fun S hS => hk S _ hS) hdg
      · exact ck_iald_ok X h (fun S hS => hk S _ hS) hdg
    · cases h
  · rw [Bool.and_eq_true] at h
    have el := eq_of_beq h.1
    subst el
    have h := h.2
    split at h
    · split at h
      · exact ck_wld_ok X h (fun S hS => hk S _ hS) hdg
      · exact ck_lald_ok X h (fun S hS => hk S _ hS) hdg
    · cases h
  · rw [Bool.and_eq_true] at h
    have el := eq_of_beq h.1
    subst el
    have h := h.2
    exact ck_zald_ok X h (fun S hS => hk S _ hS) hdg
  · rw [Bool.and_eq_true] at h
    have el := eq_of_beq h.1
    subst el
    have h := h.2
    split at h
    · split at h
      · split at h
        · split at h
          · exact ck_aald_ok X h (fun S hS => hk S _ hS) hdg
          · exact ck_aald5_ok X h (fun S hS => hk S _ hS) hdg
        · cases h
      · cases h
    · cases h
  · rw [Bool.and_eq_true] at h
    have el := eq_of_beq h.1
    subst el
    have h := h.2
    exact ck_iast_ok X h (fun S hS => hk S _ hS) hdg
  · rw [Bool.and_eq_true] at h
    have el := eq_of_beq h.1
    subst el
    have h := h.2
    exact ck_last_ok X h (fun S hS => hk S _ hS) hdg
  · rw [Bool.and_eq_true] at h
    have el := eq_of_beq h.1
    subst el
    have h := h.2
    exact ck_zast_ok X h (fun S hS => hk S _ hS) hdg
  · rw [Bool.and_eq_true] at h
    have el := eq_of_beq h.1
    subst el
    have h := h.2
    exact ck_aast_ok X hal h (fun S hS => hk S _ hS) hdg
  · rw [Bool.and_eq_true] at h
    have el := eq_of_beq h.1
    subst el
    have h := h.2
    exact ck_len_ok X h (fun S hS => hk S _ hS) hdg
  · rw [Bool.and_eq_true] at h
    have el := eq_of_beq h.1
    subst el
    have h := h.2
    exact ck_mk_ok X hnl h (fun S hS => hk S _ hS) hdg
  · rw [Bool.and_eq_true] at h
    have el := eq_of_beq h.1
    subst el
    have h := h.2
    exact ck_ins_ok X hil h (fun S hS => hk S _ hS) hdg
  · rw [Bool.and_eq_true] at h
    have el := eq_of_beq h.1
    subst el
    have h := h.2
    exact ck_cas_ok X hxl h (fun S hS => hk S _ hS) hdg
  · rw [Bool.and_eq_true] at h
    have el := eq_of_beq h.1
    subst el
    have h := h.2
    exact ck_inv_ok X hvl h (fun S hS => hk S _ hS) (by rw [ck_ik0]; exact hdg)
  · rw [Bool.and_eq_true] at h
    have el := eq_of_beq h.1
    subst el
    have h := h.2
    exact ck_inv_ok X hvl h (fun S hS => hk S _ hS) (by rw [ck_ik1]; exact hdg)
  · rw [Bool.and_eq_true] at h
    have el := eq_of_beq h.1
    subst el
    have h := h.2
    exact ck_inv_ok X hvl h (fun S hS => hk S _ hS) (by rw [ck_ik2]; exact hdg)
  · rw [Bool.and_eq_true] at h
    have el := eq_of_beq h.1
    subst el
    have h := h.2
    split at h
    · rename_i hst
      exact hret 0 S h hst pc hdg
    · cases h
  · rw [Bool.and_eq_true] at h
    have el := eq_of_beq h.1
    subst el
    have h := h.2
    split at h
    · rename_i v hst
      rw [Bool.and_eq_true] at h
      exact hret 1 S h.2 ⟨v, hst, eq_of_beq h.1⟩ pc hdg
    · cases h
  · rw [Bool.and_eq_true] at h
    have el := eq_of_beq h.1
    subst el
    have h := h.2
    split at h
    · rename_i v hst
      rw [Bool.and_eq_true] at h
      exact hret 2 S h.2 ⟨v, hst, eq_of_beq h.1⟩ pc hdg
    · cases h
  · rw [Bool.and_eq_true] at h
    have el := eq_of_beq h.1
    subst el
    have h := h.2
    split at h
    · rename_i v hst
      rw [Bool.and_eq_true, Bool.or_eq_true, Bool.or_eq_true] at h
      exact hret 3 S h.2 ⟨v, hst, h.1.imp eq_of_beq (fun z => z.imp eq_of_beq eq_of_beq)⟩ pc hdg
    · cases h
  · cases h
end
end
section
/-! the run of a method: from its entry, and from each place with a picture, by ranks that fall -/
abbrev ck_cd : Type := List (Nat × Instr × Nat)
def ck_fnd (code : ck_cd) (pc : Nat) : Option (Instr × Nat × ck_cd) := match code.dropWhile (fun y => !(y.1 == pc)) with
  | y :: t => if y.1 = pc then some (y.2.1, y.2.2, t) else none
  | [] => none
def ck_sfx (code suf : ck_cd) (pc : Nat) : Option (Instr × Nat × ck_cd) := match suf with
  | y :: t => if y.1 = pc then some (y.2.1, y.2.2, t) else ck_fnd code pc
  | [] => ck_fnd code pc
theorem ck_fnd_ok {code : ck_cd} {pc : Nat} {i : Instr} {l : Nat} {t : ck_cd} (h : ck_fnd code pc = some (i, l, t)) : (pc, i, l) ∈ code ∧ ∀ x ∈ t, x ∈ code := by
  unfold ck_fnd at h
  split at h
  · rename_i y u hy
    split at h
    · rename_i hp
      have e := Option.some.inj h
      have hs : ∀ x ∈ y :: u, x ∈ code := fun x hx => by
        rw [← hy] at hx
        exact (List.dropWhile_sublist _).subset hx
      cases e
      refine ⟨?_, fun x hx => hs x (List.mem_cons_of_mem _ hx)⟩
      rw [← hp]
      exact hs y List.mem_cons_self
    · cases h
  · cases h
theorem ck_sfx_ok {code suf : ck_cd} {pc : Nat} {i : Instr} {l : Nat} {t : ck_cd} (h : ck_sfx code suf pc = some (i, l, t)) (hs : ∀ x ∈ suf, x ∈ code) : (pc, i, l) ∈ code ∧ ∀ x ∈ t, x ∈ code := by
  unfold ck_sfx at h
  split at h
  · rename_i y u
    split at h
    · rename_i hp
      have e := Option.some.inj h
      cases e
      refine ⟨?_, fun x hx => hs x (List.mem_cons_of_mem _ hx)⟩
      rw [← hp]
      exact hs y List.mem_cons_self
    · exact ck_fnd_ok h
  · exact ck_fnd_ok h
/-- a rank's part, of the number z -/
def ck_rv (a : Nat × Nat × Int) (z : Int) : Nat := match a.1 with
  | 0 => a.2.2.toNat
  | 1 => (a.2.2 - z).toNat
  | _ => (z - a.2.2).toNat
def ck_k (K : ck_K) (j : Nat) : Nat × Nat × Int := K.getD j (0, 0, 0)
def ck_rk (K : ck_K) (z : Nat → Int) : Nat × Nat × Nat := (ck_rv (ck_k K 0) (z 0), ck_rv (ck_k K 1) (z 1), ck_rv (ck_k K 2) (z 2))
def ck_lx (a b : Nat × Nat × Nat) : Prop := a.1 < b.1 ∨ (a.1 = b.1 ∧ (a.2.1 < b.2.1 ∨ (a.2.1 = b.2.1 ∧ a.2.2 < b.2.2)))
theorem ck_lx_ind {P : Nat × Nat × Nat → Prop} (h : ∀ a, (∀ b, ck_lx b a → P b) → P a) : ∀ a, P a := by
  have key : ∀ x y z : Nat, P (x, y, z) := by
    intro x
    induction x using Nat.strongRecOn with
    | ind x ihx =>
      intro y
      induction y using Nat.strongRecOn with
      | ind y ihy =>
        intro z
        induction z using Nat.strongRecOn with
        | ind z ihz =>
          refine h _ fun b hb => ?_
          obtain ⟨b1, b2, b3⟩ := b
          rcases hb with hb | ⟨e1, hb | ⟨e2, hb⟩⟩
          · exact ihx b1 hb b2 b3
          · dsimp only at e1 hb
            subst e1
            exact ihy b2 hb b3
          · dsimp only at e1 e2 hb
            subst e1
            subst e2
            exact ihz b3 hb
  exact fun a => key a.1 a.2.1 a.2.2
def ck_bs (S : ck_S) (j : Nat) : Option Nat := (S.2.2.1.find? (fun m => m.1 == 0 && (m.2.1 == j && m.2.2.1 == 8))).map (fun m => m.2.2.2.1)
/-- the part's number is at least d less -/
def ck_rc (F : Nat) (S : ck_S) (g : List Nat) (j : Nat) (a b : Nat × Nat × Int) (d : Int) : Bool :=
  if a.1 = 0 ∧ b.1 = 0 then decide (b.2.2 + d ≤ a.2.2) else
  if a.1 = 0 ∧ b.1 = 1 then (match g[b.2.1]? with
    | some y => ck_ent S.2.2.2.1 S.2.2.2.2.1 F 0 y (a.2.2 - d - b.2.2)
    | none => false) else
  if a.1 = 0 ∧ b.1 = 2 then (match g[b.2.1]? with
    | some y => ck_ent S.2.2.2.1 S.2.2.2.2.1 F y 0 (a.2.2 - d + b.2.2)
    | none => false) else
  if a.1 = 1 ∧ b.1 = 0 then (match ck_bs S j with
    | some x => ck_ent S.2.2.2.1 S.2.2.2.2.1 F x 0 (a.2.2 - d - b.2.2)
    | none => false) else
  if a.1 = 2 ∧ b.1 = 0 then (match ck_bs S j with
    | some x => ck_ent S.2.2.2.1 S.2.2.2.2.1 F 0 x (-a.2.2 - d - b.2.2)
    | none => false) else
  if a.1 = 1 ∧ b.1 = 1 then (match ck_bs S j, g[b.2.1]? with
    | some x, some y => ck_ent S.2.2.2.1 S.2.2.2.2.1 F x y (a.2.2 - d - b.2.2)
    | _, _ => false) else
  if a.1 = 2 ∧ b.1 = 2 then (match ck_bs S j, g[b.2.1]? with
    | some x, some y => ck_ent S.2.2.2.1 S.2.2.2.2.1 F y x (b.2.2 - a.2.2 - d)
    | _, _ => false) else false
def ck_rp (F : Nat) (S : ck_S) (j : Nat) (a : Nat × Nat × Int) : Bool :=
  if a.1 = 0 then decide (1 ≤ a.2.2) else match ck_bs S j with
    | some x => if a.1 = 1 then ck_ent S.2.2.2.1 S.2.2.2.2.1 F x 0 (a.2.2 - 1) else a.1 == 2 && ck_ent S.2.2.2.1 S.2.2.2.2.1 F 0 x (-a.2.2 - 1)
    | none => false
/-- the part falls -/
def ck_rl (F : Nat) (S : ck_S) (g : List Nat) (j : Nat) (a b : Nat × Nat × Int) : Bool := ck_rc F S g j a b 1 && ck_rp F S j a
/-- the part doesn't grow -/
def ck_re (F : Nat) (S : ck_S) (g : List Nat) (j : Nat) (a b : Nat × Nat × Int) : Bool := ck_rc F S g j a b 0
def ck_lex (F : Nat) (S : ck_S) (g : List Nat) (A B : ck_K) : Bool :=
  ck_rl F S g 0 (ck_k A 0) (ck_k B 0) || (ck_re F S g 0 (ck_k A 0) (ck_k B 0) && (ck_rl F S g 1 (ck_k A 1) (ck_k B 1) || (ck_re F S g 1 (ck_k A 1) (ck_k B 1) && ck_rl F S g 2 (ck_k A 2) (ck_k B 2))))
def ck_gl (loc : List (Nat × ck_V)) : List (Nat × ck_V) → Option (List ck_V)
  | [] => some []
  | x :: l => match ck_look loc x.1, ck_gl loc l with
    | some v, some r => some (v :: r)
    | _, _ => none
def ck_ab (nE : Nat) : List ck_M := (List.range nE).map (fun k => (0, 1000 + k, (8, k, [])))
def ck_hb (S : ck_S) (nE : Nat) : Bool := (ck_ab nE).all (fun x => S.2.2.1.contains x)
def ck_rb (K : ck_K) : List ck_M := [(0, 0, (8, (ck_k K 0).2.1, [])), (0, 1, (8, (ck_k K 1).2.1, [])), (0, 2, (8, (ck_k K 2).2.1, []))]
/-- S is as the picture says, and the rank has fallen -/
def ck_to (F nE : Nat) (cur : Option ck_K) (S : ck_S) (I : ck_I) : Bool := match ck_gl S.1 I.1.1 with
  | some vs => (match ck_mt F S (List.range nE) (vs ++ S.2.1) (I.1.1.map Prod.snd ++ I.1.2.1, I.1.2.2.1, I.1.2.2.2.1, I.1.2.2.2.2.1) with
    | some g => decide (g.length = I.1.2.2.2.1.length) && (ck_hb S nE && (decide (I.1.2.2.2.2.2 = S.2.2.2.2.2) && match cur with
      | some K => ck_lex F S g K I.2
      | none => true))
    | none => false)
  | none => false
/-- places with a step of their own, proved by hand: place, where it goes on, what it makes of a state -/
abbrev ck_spc : Type := List (Nat × Nat × (ck_S → Option (List ck_S)))
def ck_do (M : ck_Me) (kr : Nat → ck_S → Bool) (sp : ck_spc) (code suf : ck_cd) (k : ck_cd → ck_S → Nat → Bool) (S : ck_S) (pc : Nat) : Bool := match sp.find? (fun x => x.1 == pc) with
  | some x => (match x.2.2 S with
    | some L => L.all (fun S' => k code S' x.2.1)
    | none => false)
  | none => match ck_sfx code suf pc with
      | some y => ck_step M kr (fun S pc => k y.2.2 S pc) S pc y.1 y.2.1
      | none => false
def ck_go (M : ck_Me) (kr : Nat → ck_S → Bool) (sp : ck_spc) (code : ck_cd) (ivs : List (Nat × ck_I)) (nE : Nat) (cur : Option ck_K) : Nat → ck_cd → ck_S → Nat → Bool
  | 0, _, _, _ => false
  | f + 1, suf, S, pc => if ivs.any (fun x => x.1 == pc) then ivs.any (fun x => x.1 == pc && ck_to (mF M) nE cur S x.2) else ck_do M kr sp code suf (fun suf S pc => ck_go M kr sp code ivs nE cur f suf S pc) S pc
/-- the state that a picture gives to go on from -/
def ck_si (nE : Nat) (I : ck_I) : ck_S := (I.1.1, I.1.2.1, I.1.2.2.1 ++ (ck_ab nE ++ ck_rb I.2), I.1.2.2.2)
def ck_okI (nE : Nat) (I : ck_I) : Bool := I.1.2.2.1.all (fun m => !(m.1 == 0)) && (decide (nE ≤ I.1.2.2.2.1.length) && (ck_rb I.2).all (fun m => decide (m.2.2.2.1 < I.1.2.2.2.1.length)))
def ck_one (M : ck_Me) (kr : Nat → ck_S → Bool) (sp : ck_spc) (code : ck_cd) (ivs : List (Nat × ck_I)) (nE f : Nat) (x : Nat × ck_I) : Bool := ck_okI nE x.2 && ck_do M kr sp code code (fun suf S pc => ck_go M kr sp code ivs nE (some x.2.2) f suf S pc) (ck_si nE x.2) x.1
def ck_chk (M : ck_Me) (kr : Nat → ck_S → Bool) (sp : ck_spc) (code : ck_cd) (ivs : List (Nat × ck_I)) (nE f : Nat) (S : ck_S) : Bool := ck_go M kr sp code ivs nE none f code S 0 && ivs.all (ck_one M kr sp code ivs nE f)
theorem ck_vo.sc {ws : va_W} {sh : List Nat} {sc sc' : ck_sc} (h1 : sc'.1 = sc.1) (h2 : sc'.2.1 = sc.2.1) {n : ck_N} {N : Nat} {av : ck_V} {v : Value} (h : ck_vo ws sh sc n N av v) : ck_vo ws sh sc' n N av v := by
  unfold ck_vo at h ⊢
  rw [h1, h2]
  exact h
theorem ck_mo.sc {SG : List Nat} {ws : va_W} {sh : List Nat} {sc sc' : ck_sc} (h1 : sc'.1 = sc.1) (h2 : sc'.2.1 = sc.2.1) {n : ck_N} {N : Nat} {mem : List ck_M} (hz : ∀ x ∈ mem, x.1 ≠ 0) (h : ck_mo SG ws sh sc n N mem) : ck_mo SG ws sh sc' n N mem := by
  intro x hx
  rcases h x hx with ⟨z, -⟩ | ⟨h0, h3, q, a, o, v, h4, h5, h6, h7⟩ | hy
  · exact absurd z (hz x hx)
  · exact Or.inr (Or.inl ⟨h0, h3, q, a, o, v, h4, h5, h6, h7.sc h1 h2⟩)
  · exact Or.inr (Or.inr hy)
theorem ck_gl_ok {ws : va_W} {sh : List Nat} {sc : ck_sc} {n : ck_N} {N nL : Nat} {loc : List (Nat × ck_V)} {ls : Array Slot} (h : ck_lo ws sh sc n N nL loc ls) : ∀ {l : List (Nat × ck_V)} {r : List ck_V}, ck_gl loc l = some r → ∃ xs, ck_two (ck_vo ws sh sc n N) r xs ∧ xs.length = l.length ∧ ∀ (j : Nat) (x : Nat × ck_V) (v : Value), l[j]? = some x → xs[j]? = some v → ls[x.1]? = some (.val v)
  | [], r, hr => by
    have e := Option.some.inj hr
    subst e
    exact ⟨[], trivial, rfl, fun j x v hj => by simp at hj⟩
  | x :: l, r, hr => by
    rw [ck_gl] at hr
    split at hr
    · rename_i v r' hv hr'
      have e := Option.some.inj hr
      subst e
      obtain ⟨w, w1, w2⟩ := ck_look_ok h hv
      obtain ⟨xs, x1, x2, x3⟩ := ck_gl_ok h hr'
      refine ⟨w :: xs, ⟨w2, x1⟩, by simp [x2], fun j y u hj hu => ?_⟩
      cases j with
      | zero =>
        simp only [List.getElem?_cons_zero, Option.some.injEq] at hj hu
        subst hj
        subst hu
        exact w1
      | succ j =>
        rw [List.getElem?_cons_succ] at hj hu
        exact x3 j y u hj hu
    · cases hr
theorem ck_two_split {α β : Type} {P : α → β → Prop} : ∀ {l l2 : List α} {r r2 : List β}, ck_two P (l ++ l2) (r ++ r2) → l.length = r.length → ck_two P l r ∧ ck_two P l2 r2
  | [], _, [], _, h, _ => ⟨trivial, h⟩
  | _ :: _, _, _ :: _, _, h, e => by
    obtain ⟨a, b⟩ := ck_two_split h.2 (Nat.succ.inj e)
    exact ⟨⟨h.1, a⟩, b⟩
  | [], _, _ :: _, _, _, e => by cases e
  | _ :: _, _, [], _, _, e => by cases e
theorem ck_two_zip {P : ck_V → Value → Prop} : ∀ {l : List (Nat × ck_V)} {xs : List Value}, ck_two P (l.map Prod.snd) xs → ck_two (fun (x : Nat × ck_V) (y : Nat × Value) => x.1 = y.1 ∧ P x.2 y.2) l ((l.map Prod.fst).zip xs)
  | [], [], _ => trivial
  | _ :: _, _ :: _, h => ⟨⟨rfl, h.1⟩, ck_two_zip h.2⟩
  | [], _ :: _, h => h.elim
  | _ :: _, [], h => h.elim
theorem ck_bs_ok {SG : List Nat} {ws : va_W} {sh : List Nat} {sc : ck_sc} {n : ck_N} {N : Nat} {S : ck_S} (h : ck_mo SG ws sh sc n N S.2.2.1) {j x : Nat} (hx : ck_bs S j = some x) : (n x).1 = sc.2.2 j := by
  unfold ck_bs at hx
  cases hf : S.2.2.1.find? (fun m => m.1 == 0 && (m.2.1 == j && m.2.2.1 == 8)) with
  | none => rw [hf] at hx; cases hx
  | some mm =>
    rw [hf] at hx
    have e : mm.2.2.2.1 = x := Option.some.inj hx
    have hm := List.mem_of_find?_eq_some hf
    have hp := List.find?_some hf
    simp only [Bool.and_eq_true, beq_iff_eq] at hp
    rcases h mm hm with ⟨-, -, ⟨z, -⟩ | ⟨-, z⟩⟩ | ⟨z, -⟩ | ⟨-, z, -⟩
    · rw [hp.2.2] at z; cases z
    · rw [← e, z, hp.2.1]
    · exact absurd hp.1 z
    · exact absurd hp.1 z
section
variable {SG : List Nat} {ws : va_W} {sh : List Nat} {sc : ck_sc} {n : ck_N} {nL : Nat} {S : ck_S} {ls : Array Slot} {vs : List Value} {F : Nat} {g : List Nat}
/-- the number of a part -/
def ck_ri0 (a : Nat × Nat × Int) (z : Int) : Int := match a.1 with
  | 0 => a.2.2
  | 1 => a.2.2 - z
  | _ => z - a.2.2
theorem ck_rv_eq (a : Nat × Nat × Int) (z : Int) : ck_rv a z = (ck_ri0 a z).toNat := by
  unfold ck_rv ck_ri0
  split <;> rfl
theorem ck_rc_ok (o : ck_so nL SG S n ws sh sc ls vs) {j : Nat} {a b : Nat × Nat × Int} {d : Int} (h : ck_rc F S g j a b d = true) : ck_ri0 b (ck_pl g n b.2.1).1 ≤ ck_ri0 a (sc.2.2 j) - d := by
  have hE := o.2.2.2.2.1
  have hR := o.2.2.2.2.2
  have hy : ∀ y, g[b.2.1]? = some y → (ck_pl g n b.2.1).1 = (n y).1 := fun y hy => by simp [ck_pl, List.getD_eq_getElem?_getD, hy]
  have hz := o.1.2
  unfold ck_rc at h
  unfold ck_ri0
  split at h
  · rename_i e
    rw [decide_eq_true_eq] at h
    rw [e.1, e.2]
    show b.2.2 ≤ a.2.2 - d
    omega
  · split at h
    · rename_i e
      split at h
      · rename_i y hyy
        have p1 := ck_ent_ok hE hR F _ _ _ h
        rw [e.1, e.2, hy y hyy]
        show b.2.2 - (n y).1 ≤ a.2.2 - d
        omega
      · cases h
    · split at h
      · rename_i e
        split at h
        · rename_i y hyy
          have p1 := ck_ent_ok hE hR F _ _ _ h
          rw [e.1, e.2, hy y hyy]
          show (n y).1 - b.2.2 ≤ a.2.2 - d
          omega
        · cases h
      · split at h
        · rename_i e
          split at h
          · rename_i x hx
            have p1 := ck_ent_ok hE hR F _ _ _ h
            rw [ck_bs_ok o.2.2.2.1 hx] at p1
            rw [e.1, e.2]
            show b.2.2 ≤ a.2.2 - sc.2.2 j - d
            omega
          · cases h
        · split at h
          · rename_i e
            split at h
            · rename_i x hx
              have p1 := ck_ent_ok hE hR F _ _ _ h
              rw [ck_bs_ok o.2.2.2.1 hx] at p1
              rw [e.1, e.2]
              show b.2.2 ≤ sc.2.2 j - a.2.2 - d
              omega
            · cases h
          · split at h
            · rename_i e
              split at h
              · rename_i x y hx hyy
                have p1 := ck_ent_ok hE hR F _ _ _ h
                rw [ck_bs_ok o.2.2.2.1 hx] at p1
                rw [e.1, e.2, hy y hyy]
                show b.2.2 - (n y).1 ≤ a.2.2 - sc.2.2 j - d
                omega
              · cases h
            · split at h
              · rename_i e
                split at h
                · rename_i x y hx hyy
                  have p1 := ck_ent_ok hE hR F _ _ _ h
                  rw [ck_bs_ok o.2.2.2.1 hx] at p1
                  rw [e.1, e.2, hy y hyy]
                  show (n y).1 - b.2.2 ≤ sc.2.2 j - a.2.2 - d
                  omega
                · cases h
              · cases h
theorem ck_rp_ok (o : ck_so nL SG S n ws sh sc ls vs) {j : Nat} {a : Nat × Nat × Int} (h : ck_rp F S j a = true) : 1 ≤ ck_ri0 a (sc.2.2 j) := by
  have hE := o.2.2.2.2.1
  have hR := o.2.2.2.2.2
  have hz := o.1.2
  unfold ck_rp at h
  unfold ck_ri0
  split at h
  · rename_i e
    rw [decide_eq_true_eq] at h
    rw [e]
    exact h
  · split at h
    · rename_i x hx
      split at h
      · rename_i e
        have p1 := ck_ent_ok hE hR F _ _ _ h
        rw [ck_bs_ok o.2.2.2.1 hx] at p1
        rw [e]
        show 1 ≤ a.2.2 - sc.2.2 j
        omega
      · rw [Bool.and_eq_true] at h
        have p1 := ck_ent_ok hE hR F _ _ _ h.2
        rw [ck_bs_ok o.2.2.2.1 hx] at p1
        rw [eq_of_beq h.1]
        show 1 ≤ sc.2.2 j - a.2.2
        omega
    · cases h
theorem ck_rl_ok (o : ck_so nL SG S n ws sh sc ls vs) {j : Nat} {a b : Nat × Nat × Int} (h : ck_rl F S g j a b = true) : ck_rv b (ck_pl g n b.2.1).1 < ck_rv a (sc.2.2 j) := by
  unfold ck_rl at h
  rw [Bool.and_eq_true] at h
  have p1 := ck_rc_ok o h.1
  have p2 := ck_rp_ok o h.2
  rw [ck_rv_eq, ck_rv_eq]
  omega
theorem ck_re_ok (o : ck_so nL SG S n ws sh sc ls vs) {j : Nat} {a b : Nat × Nat × Int} (h : ck_re F S g j a b = true) : ck_rv b (ck_pl g n b.2.1).1 ≤ ck_rv a (sc.2.2 j) := by
  have p1 := ck_rc_ok o h
  rw [ck_rv_eq, ck_rv_eq]
  omega
theorem ck_lex_ok (o : ck_so nL SG S n ws sh sc ls vs) {A B : ck_K} (h : ck_lex F S g A B = true) : ck_lx (ck_rk B (fun j => (ck_pl g n (ck_k B j).2.1).1)) (ck_rk A sc.2.2) := by
  unfold ck_lex at h
  unfold ck_lx ck_rk
  rw [Bool.or_eq_true, Bool.and_eq_true, Bool.or_eq_true, Bool.and_eq_true] at h
  dsimp only
  rcases h with h | ⟨e1, h | ⟨e2, h⟩⟩
  · exact Or.inl (ck_rl_ok o h)
  · rcases Nat.lt_or_ge (ck_rv (ck_k B 0) (ck_pl g n (ck_k B 0).2.1).1) (ck_rv (ck_k A 0) (sc.2.2 0)) with q | q
    · exact Or.inl q
    · exact Or.inr ⟨Nat.le_antisymm (ck_re_ok o e1) q, Or.inl (ck_rl_ok o h)⟩
  · rcases Nat.lt_or_ge (ck_rv (ck_k B 0) (ck_pl g n (ck_k B 0).2.1).1) (ck_rv (ck_k A 0) (sc.2.2 0)) with q | q
    · exact Or.inl q
    · refine Or.inr ⟨Nat.le_antisymm (ck_re_ok o e1) q, ?_⟩
      rcases Nat.lt_or_ge (ck_rv (ck_k B 1) (ck_pl g n (ck_k B 1).2.1).1) (ck_rv (ck_k A 1) (sc.2.2 1)) with q2 | q2
      · exact Or.inl q2
      · exact Or.inr ⟨Nat.le_antisymm (ck_re_ok o e2) q2, ck_rl_ok o h⟩
end
end
section
section
variable {p : Program} {l : Launch} {e : Env} {R : Room} {s : State} {m : MethodId} {args : Array Value} {below : List Frame} {meth : Method} {c : Code} {Q : State → Prop} {cc : ByteArray} {own : String} {D : va_G} {cl : List vw_C} {tys : List (ClassId × FieldType)} {M : ck_Me} {sc : ck_sc} {A : Nat → Prop} {ws0 : va_W} {sh0 : List Nat} {kr : Nat → ck_S → Bool} {sp : ck_spc} {code : ck_cd} {ivs : List (Nat × ck_I)} {nE : Nat} {n1 : ck_N}
/-- the goal at a place with a picture -/
def ck_pi (p : Program) (l : Launch) (e : Env) (R : Room) (s : State) (m : MethodId) (args : Array Value) (below : List Frame) (meth : Method) (c : Code) (Q : State → Prop) (D : va_G) (cl : List vw_C) (tys : List (ClassId × FieldType)) (M : ck_Me) (sc : ck_sc) (A : Nat → Prop) (ws0 : va_W) (sh0 : List Nat) (x : Nat × ck_I) (n : ck_N) : Prop :=
  ∀ (ws : va_W) (sh : List Nat) (H : Heap) (locs : List Loc) (ls : Array Slot) (vs : List Value), ck_so (mnL M) (mSG M) x.2.1 n ws sh sc ls vs → ck_wo tys (mTT M) (mSG M) ws sh → ck_ex (mWr M) ws0 sh0 ws sh → va_P D cl ws H → va_D A ws → va_S A s.heap H locs →
    W p l e R s m args below meth c H locs (ck_oc R M + x.2.1.2.2.2.2.2.1) (ck_os R M + x.2.1.2.2.2.2.2.2) Q (F0 m x.1 ls vs)
theorem ck_rng_get {nE k : Nat} {t : List Nat} (hk : k < nE) : (List.range nE ++ t).getD k 0 = k := by
  rw [List.getD_eq_getElem?_getD, List.getElem?_append_left (by simp [hk])]
  simp [hk]
theorem ck_hb_ok {SG : List Nat} {ws : va_W} {sh : List Nat} {n : ck_N} {N : Nat} {S : ck_S} {b : Nat → Int} {sc : ck_sc} (h : ck_mo SG ws sh (sc.1, sc.2.1, b) n N S.2.2.1) (hh : ck_hb S nE = true) {k : Nat} (hk : k < nE) : (n k).1 = b (1000 + k) := by
  have h1 := List.all_eq_true.mp hh (0, 1000 + k, (8, k, [])) (List.mem_map.mpr ⟨k, List.mem_range.mpr hk, rfl⟩)
  have hm := List.contains_iff_mem.mp h1
  rcases h _ hm with ⟨-, -, ⟨z, -⟩ | ⟨-, z⟩⟩ | ⟨z, -⟩ | ⟨-, z, -⟩
  · cases z
  · exact z
  · exact absurd rfl z
  · exact absurd rfl z
theorem ck_to_ok (hnE : 0 < nE) {b : Nat → Int} (hb : ∀ k, k < nE → b (1000 + k) = (n1 k).1) {cur : Option ck_K} {S : ck_S} {x : Nat × ck_I} (hx : ck_okI nE x.2 = true) (h : ck_to (mF M) nE cur S x.2 = true)
    (hI : ∀ n, (∀ K, cur = some K → ck_lx (ck_rk x.2.2 (fun j => (n (ck_k x.2.2 j).2.1).1)) (ck_rk K b)) → (∀ k, k < nE → (n k).1 = (n1 k).1) → ck_pi p l e R s m args below meth c Q D cl tys M sc A ws0 sh0 x n) : ck_g p l e R s m args below meth c Q D cl tys M (sc.1, sc.2.1, b) A ws0 sh0 S x.1 := by
  intro n ws sh H locs ls vs o hw hx1 hP hD hS
  unfold ck_to at h
  split at h
  · rename_i rs hrs
    split at h
    · rename_i g hg
      simp only [Bool.and_eq_true, decide_eq_true_eq] at h
      obtain ⟨hgl, hhb, hcell, hcur⟩ := h
      obtain ⟨xs, x1, x2, x3⟩ := ck_gl_ok o.2.1 hrs
      obtain ⟨⟨t, rfl⟩, g2, g3, g4, g5, g6⟩ := ck_mt_ok o hg (ck_two.app x1 o.2.2.1) (fun s hs => by
        have := List.mem_range.mp hs
        have h1 := List.contains_iff_mem.mp (List.all_eq_true.mp hhb (0, 1000 + s, (8, s, [])) (List.mem_map.mpr ⟨s, hs, rfl⟩))
        rcases o.2.2.2.1 _ h1 with ⟨-, z, -⟩ | ⟨z, -⟩ | ⟨-, z, -⟩
        · exact z
        · exact absurd rfl z
        · exact absurd rfl z)
      obtain ⟨l1, l2⟩ := ck_two_split g3 (by rw [List.length_map, x2])
      have hn : ∀ k, k < nE → (ck_pl (List.range nE ++ t) n k) = n k := fun k hk => by
        unfold ck_pl
        rw [ck_rng_get hk]
      unfold ck_okI at hx
      simp only [Bool.and_eq_true, decide_eq_true_eq] at hx
      have hz : ∀ y ∈ x.2.1.2.2.1, y.1 ≠ 0 := fun y hy => by
        have := List.all_eq_true.mp hx.1 y hy
        rw [Bool.not_eq_true', beq_eq_false_iff_ne] at this
        exact this
      have hfin := hI (ck_pl (List.range nE ++ t) n) (fun K hK => by
          subst hK
          exact ck_lex_ok o hcur) (fun k hk => by rw [hn k hk, ck_hb_ok o.2.2.2.1 hhb hk]; exact hb k hk) ws sh H locs ls vs
        ⟨⟨by rw [← hgl]; simp; omega, by rw [hn 0 hnE]; exact o.1.2⟩, ?_, ?_, ?_, g5, by rw [← hgl]; exact g6⟩ hw hx1 hP hD hS
      · have ec1 : x.2.1.2.2.2.2.2.1 = S.2.2.2.2.2.1 := congrArg Prod.fst hcell
        have ec2 : x.2.1.2.2.2.2.2.2 = S.2.2.2.2.2.2 := congrArg Prod.snd hcell
        rw [ec1, ec2] at hfin
        exact hfin
      · rw [← hgl]
        obtain ⟨lv, y1, y2⟩ := id o.2.1
        refine ⟨_, ⟨y1.1, y1.2.1, fun q hq => ?_⟩, (ck_two_zip l1).imp fun a b hab => ⟨hab.1, hab.2.sc rfl rfl⟩⟩
        obtain ⟨j, hj⟩ := List.getElem?_of_mem hq
        rw [List.getElem?_zip_eq_some] at hj
        obtain ⟨j1, j2⟩ := hj
        rw [List.getElem?_map] at j1
        cases hxj : x.2.1.1[j]? with
        | none => rw [hxj] at j1; cases j1
        | some z =>
          rw [hxj] at j1
          have ez : z.1 = q.1 := Option.some.inj j1
          rw [← ez]
          exact x3 j z q.2 hxj j2
      · rw [← hgl]
        exact l2.imp fun a b hab => hab.sc rfl rfl
      · rw [← hgl]
        exact ck_mo.sc (sc := (sc.1, sc.2.1, b)) (sc' := sc) rfl rfl hz g4
    · cases h
  · cases h
theorem ck_do_ok (hnE : 0 < nE) (X : ck_cx p l e R s m args below meth c cc own D cl tys M sc A) (hfl : ∀ x ∈ mfl M, ck_hg s args own cl x) (hpl : ∀ x ∈ mpl M, ck_hp s args own cl (meth.name = "<init>") x) (hnl : ∀ x ∈ mnw M, ck_hn s args own cl (mTT M) x) (hkl : ∀ x ∈ mkl M, ck_hk s args own x) (hil : ∀ x ∈ mil M, ck_hi s args own cl x) (hxl : ∀ x ∈ mxl M, ck_hx s args own cl x) (hal : ∀ x ∈ mal M, ck_ha s tys cl x)
    (hgl : ∀ i ∈ mgl M, ck_hs s args own sc i) (hvl : ∀ (b : Nat → Int), ∀ x ∈ mvl M, ck_cs p l e R s m args below meth c Q cc D cl tys M (sc.1, sc.2.1, b) A x) (hcode : ∀ x ∈ code, decode cc x.1 = .ok (x.2.1, x.2.2))
    (hret : ∀ (b : Nat → Int), (∀ k, k < nE → b (1000 + k) = (n1 k).1) → ∀ (kd : Nat) (S : ck_S), kr kd S = true → ck_rst kd S → ∀ pc, decode cc pc = .ok (ck_ri kd, 1) → ck_g p l e R s m args below meth c Q D cl tys M (sc.1, sc.2.1, b) A ws0 sh0 S pc)
    (hsp : ∀ x ∈ sp, ∀ (S : ck_S) (L : List ck_S), x.2.2 S = some L → ∀ b : Nat → Int, (∀ k, k < nE → b (1000 + k) = (n1 k).1) → (∀ S' ∈ L, ck_g p l e R s m args below meth c Q D cl tys M (sc.1, sc.2.1, b) A ws0 sh0 S' x.2.1) → ck_g p l e R s m args below meth c Q D cl tys M (sc.1, sc.2.1, b) A ws0 sh0 S x.1)
    {b : Nat → Int} (hb : ∀ k, k < nE → b (1000 + k) = (n1 k).1) {k : ck_cd → ck_S → Nat → Bool} (hk : ∀ (suf : ck_cd) (S : ck_S) (pc : Nat), (∀ x ∈ suf, x ∈ code) → k suf S pc = true → ck_g p l e R s m args below meth c Q D cl tys M (sc.1, sc.2.1, b) A ws0 sh0 S pc)
    {suf : ck_cd} {S : ck_S} {pc : Nat} (hsuf : ∀ x ∈ suf, x ∈ code) (h : ck_do M kr sp code suf k S pc = true) : ck_g p l e R s m args below meth c Q D cl tys M (sc.1, sc.2.1, b) A ws0 sh0 S pc := by
  unfold ck_do at h
  split at h
  · rename_i x hx
    have hm := List.mem_of_find?_eq_some hx
    have hp : x.1 = pc := by
      have z := List.find?_some hx
      exact eq_of_beq z
    split at h
    · rename_i L hL
      have := hsp x hm S L hL b hb (fun S' hS' => hk code S' x.2.1 (fun _ h => h) (List.all_eq_true.mp h S' hS'))
      rw [hp] at this
      exact this
    · cases h
  · split at h
    · rename_i y hy
      obtain ⟨y1, y2⟩ := ck_sfx_ok (i := y.1) (l := y.2.1) (t := y.2.2) hy hsuf
      have X' : ck_cx p l e R s m args below meth c cc own D cl tys M (sc.1, sc.2.1, b) A := X
      have hgl' : ∀ i ∈ mgl M, ck_hs s args own (sc.1, sc.2.1, b) i := hgl
      exact ck_step_ok (sc := (sc.1, sc.2.1, b)) (kr := kr) (k := fun S pc => k y.2.2 S pc) X' hfl hpl hnl hkl hil hxl hal hgl' (hvl b) (fun S pc hq => hk y.2.2 S pc y2 hq) (hret b hb) h (hcode (pc, y.1, y.2.1) y1)
    · cases h
theorem ck_go_ok (hnE : 0 < nE) (X : ck_cx p l e R s m args below meth c cc own D cl tys M sc A) (hfl : ∀ x ∈ mfl M, ck_hg s args own cl x) (hpl : ∀ x ∈ mpl M, ck_hp s args own cl (meth.name = "<init>") x) (hnl : ∀ x ∈ mnw M, ck_hn s args own cl (mTT M) x) (hkl : ∀ x ∈ mkl M, ck_hk s args own x) (hil : ∀ x ∈ mil M, ck_hi s args own cl x) (hxl : ∀ x ∈ mxl M, ck_hx s args own cl x) (hal : ∀ x ∈ mal M, ck_ha s tys cl x)
    (hgl : ∀ i ∈ mgl M, ck_hs s args own sc i) (hvl : ∀ (b : Nat → Int), ∀ x ∈ mvl M, ck_cs p l e R s m args below meth c Q cc D cl tys M (sc.1, sc.2.1, b) A x) (hcode : ∀ x ∈ code, decode cc x.1 = .ok (x.2.1, x.2.2))
    (hret : ∀ (b : Nat → Int), (∀ k, k < nE → b (1000 + k) = (n1 k).1) → ∀ (kd : Nat) (S : ck_S), kr kd S = true → ck_rst kd S → ∀ pc, decode cc pc = .ok (ck_ri kd, 1) → ck_g p l e R s m args below meth c Q D cl tys M (sc.1, sc.2.1, b) A ws0 sh0 S pc)
    (hsp : ∀ x ∈ sp, ∀ (S : ck_S) (L : List ck_S), x.2.2 S = some L → ∀ b : Nat → Int, (∀ k, k < nE → b (1000 + k) = (n1 k).1) → (∀ S' ∈ L, ck_g p l e R s m args below meth c Q D cl tys M (sc.1, sc.2.1, b) A ws0 sh0 S' x.2.1) → ck_g p l e R s m args below meth c Q D cl tys M (sc.1, sc.2.1, b) A ws0 sh0 S x.1)
    (hiv : ∀ x ∈ ivs, ck_okI nE x.2 = true) {b : Nat → Int} (hb : ∀ k, k < nE → b (1000 + k) = (n1 k).1) {cur : Option ck_K}
    (hI : ∀ x ∈ ivs, ∀ n, (∀ K, cur = some K → ck_lx (ck_rk x.2.2 (fun j => (n (ck_k x.2.2 j).2.1).1)) (ck_rk K b)) → (∀ k, k < nE → (n k).1 = (n1 k).1) → ck_pi p l e R s m args below meth c Q D cl tys M sc A ws0 sh0 x n) :
    ∀ (f : Nat) (suf : ck_cd) (S : ck_S) (pc : Nat), (∀ x ∈ suf, x ∈ code) → ck_go M kr sp code ivs nE cur f suf S pc = true → ck_g p l e R s m args below meth c Q D cl tys M (sc.1, sc.2.1, b) A ws0 sh0 S pc := by
  intro f
  induction f with
  | zero => intro suf S pc _ h; cases h
  | succ f ih =>
    intro suf S pc hsuf h
    rw [ck_go] at h
    split at h
    · obtain ⟨x, hm, hx2⟩ := List.any_eq_true.mp h
      rw [Bool.and_eq_true] at hx2
      have ep : x.1 = pc := eq_of_beq hx2.1
      have := ck_to_ok (p := p) (l := l) (e := e) (R := R) (s := s) (m := m) (args := args) (below := below) (meth := meth) (c := c) (Q := Q) (D := D) (cl := cl) (tys := tys) (A := A) (ws0 := ws0) (sh0 := sh0) hnE hb (hiv x hm) hx2.2 (hI x hm)
      rw [ep] at this
      exact this
    · exact ck_do_ok hnE X hfl hpl hnl hkl hil hxl hal hgl hvl hcode hret hsp hb (fun suf S pc hs hq => ih suf S pc hs hq) hsuf h
theorem ck_run_ok (hnE : 0 < nE) (X : ck_cx p l e R s m args below meth c cc own D cl tys M sc A) (hfl : ∀ x ∈ mfl M, ck_hg s args own cl x) (hpl : ∀ x ∈ mpl M, ck_hp s args own cl (meth.name = "<init>") x) (hnl : ∀ x ∈ mnw M, ck_hn s args own cl (mTT M) x) (hkl : ∀ x ∈ mkl M, ck_hk s args own x) (hil : ∀ x ∈ mil M, ck_hi s args own cl x) (hxl : ∀ x ∈ mxl M, ck_hx s args own cl x) (hal : ∀ x ∈ mal M, ck_ha s tys cl x)
    (hgl : ∀ i ∈ mgl M, ck_hs s args own sc i) (hvl : ∀ (b : Nat → Int), ∀ x ∈ mvl M, ck_cs p l e R s m args below meth c Q cc D cl tys M (sc.1, sc.2.1, b) A x) (hcode : ∀ x ∈ code, decode cc x.1 = .ok (x.2.1, x.2.2))
    (hret : ∀ (b : Nat → Int), (∀ k, k < nE → b (1000 + k) = (n1 k).1) → ∀ (kd : Nat) (S : ck_S), kr kd S = true → ck_rst kd S → ∀ pc, decode cc pc = .ok (ck_ri kd, 1) → ck_g p l e R s m args below meth c Q D cl tys M (sc.1, sc.2.1, b) A ws0 sh0 S pc)
    (hsp : ∀ x ∈ sp, ∀ (S : ck_S) (L : List ck_S), x.2.2 S = some L → ∀ b : Nat → Int, (∀ k, k < nE → b (1000 + k) = (n1 k).1) → (∀ S' ∈ L, ck_g p l e R s m args below meth c Q D cl tys M (sc.1, sc.2.1, b) A ws0 sh0 S' x.2.1) → ck_g p l e R s m args below meth c Q D cl tys M (sc.1, sc.2.1, b) A ws0 sh0 S x.1)
    {f : Nat} {S0 : ck_S} (h : ck_chk M kr sp code ivs nE f S0 = true) {b : Nat → Int} (hb : ∀ k, k < nE → b (1000 + k) = (n1 k).1) : ck_g p l e R s m args below meth c Q D cl tys M (sc.1, sc.2.1, b) A ws0 sh0 S0 0 := by
  unfold ck_chk at h
  rw [Bool.and_eq_true] at h
  obtain ⟨h0, hall⟩ := h
  have hiv : ∀ x ∈ ivs, ck_okI nE x.2 = true := fun x hx => by
    have h1 := List.all_eq_true.mp hall x hx
    unfold ck_one at h1
    rw [Bool.and_eq_true] at h1
    exact h1.1
  have key : ∀ r : Nat × Nat × Nat, ∀ x ∈ ivs, ∀ n : ck_N, ck_rk x.2.2 (fun j => (n (ck_k x.2.2 j).2.1).1) = r → (∀ k, k < nE → (n k).1 = (n1 k).1) → ck_pi p l e R s m args below meth c Q D cl tys M sc A ws0 sh0 x n := by
    refine ck_lx_ind fun r ih => ?_
    intro x hx n hr hn ws sh H locs ls vs o hw hx1 hP hD hS
    have h1 := List.all_eq_true.mp hall x hx
    unfold ck_one at h1
    rw [Bool.and_eq_true] at h1
    obtain ⟨hok, h1⟩ := h1
    obtain ⟨b', hb'⟩ : ∃ b' : Nat → Int, b' = fun j => if j < 1000 then (n (ck_k x.2.2 j).2.1).1 else (n1 (j - 1000)).1 := ⟨_, rfl⟩
    have q1 : ∀ k, k < nE → b' (1000 + k) = (n1 k).1 := fun k _ => by
      rw [hb']
      dsimp only
      rw [if_neg (by omega)]
      have e9 : 1000 + k - 1000 = k := by omega
      rw [e9]
    have q2 : ∀ j, j < 1000 → b' j = (n (ck_k x.2.2 j).2.1).1 := fun j hj => by
      rw [hb']
      exact if_pos hj
    have erk : ck_rk x.2.2 b' = r := by
      rw [← hr]
      unfold ck_rk
      rw [q2 0 (by omega), q2 1 (by omega), q2 2 (by omega)]
    unfold ck_okI at hok
    simp only [Bool.and_eq_true, decide_eq_true_eq] at hok
    obtain ⟨k1, k2, k3⟩ := hok
    have hz : ∀ y ∈ x.2.1.2.2.1, y.1 ≠ 0 := fun y hy => by
      have := List.all_eq_true.mp k1 y hy
      rw [Bool.not_eq_true', beq_eq_false_iff_ne] at this
      exact this
    have X' : ck_cx p l e R s m args below meth c cc own D cl tys M (sc.1, sc.2.1, b') A := X
    have hgl' : ∀ i ∈ mgl M, ck_hs s args own (sc.1, sc.2.1, b') i := hgl
    have hgo : ∀ (suf : ck_cd) (S : ck_S) (pc : Nat), (∀ x ∈ suf, x ∈ code) → ck_go M kr sp code ivs nE (some x.2.2) f suf S pc = true → ck_g p l e R s m args below meth c Q D cl tys M (sc.1, sc.2.1, b') A ws0 sh0 S pc := fun suf S pc hsu hk =>
      ck_go_ok (n1 := n1) (b := b') hnE X hfl hpl hnl hkl hil hxl hal hgl hvl hcode hret hsp hiv q1 (cur := some x.2.2) (fun x' hx' n' hlt hn' => ih _ (by rw [← erk]; exact hlt _ rfl) x' hx' n' rfl hn') f suf S pc hsu hk
    have hg := ck_do_ok (S := ck_si nE x.2) (b := b') hnE X hfl hpl hnl hkl hil hxl hal hgl hvl hcode hret hsp q1 hgo (fun _ h => h) h1
    refine hg n ws sh H locs ls vs ⟨o.1, ?_, o.2.2.1.imp (fun a c hac => hac.sc rfl rfl), ?_, o.2.2.2.2⟩ hw hx1 hP hD hS
    · obtain ⟨lv, u1, u2⟩ := o.2.1
      exact ⟨lv, u1, u2.imp fun a c hac => ⟨hac.1, hac.2.sc rfl rfl⟩⟩
    · intro z hzm
      rcases List.mem_append.mp hzm with hzm | hzm
      · exact (ck_mo.sc (sc := sc) (sc' := (sc.1, sc.2.1, b')) rfl rfl hz o.2.2.2.1) z hzm
      · rcases List.mem_append.mp hzm with hzm | hzm
        · obtain ⟨k, hk, rfl⟩ := List.mem_map.mp hzm
          have hk := List.mem_range.mp hk
          exact Or.inl ⟨rfl, Nat.lt_of_lt_of_le hk k2, Or.inr ⟨rfl, by rw [hn k hk]; exact (q1 k hk).symm⟩⟩
        · have hl := List.all_eq_true.mp k3 z hzm
          rw [decide_eq_true_eq] at hl
          simp only [ck_rb, List.mem_cons, List.not_mem_nil, or_false] at hzm
          rcases hzm with rfl | rfl | rfl
          · exact Or.inl ⟨rfl, hl, Or.inr ⟨rfl, (q2 0 (by omega)).symm⟩⟩
          · exact Or.inl ⟨rfl, hl, Or.inr ⟨rfl, (q2 1 (by omega)).symm⟩⟩
          · exact Or.inl ⟨rfl, hl, Or.inr ⟨rfl, (q2 2 (by omega)).symm⟩⟩
  exact ck_go_ok (n1 := n1) (b := b) hnE X hfl hpl hnl hkl hil hxl hal hgl hvl hcode hret hsp hiv hb (cur := none) (fun x hx n _ hn => key _ x hx n rfl hn) f code S0 0 (fun _ h => h) h0
end
end
section
/-! contracts: a method by its check -/
/-- what all methods share: classes, types, single types, the array classes' kinds, the tables' words, pairs that aren't castable -/
abbrev ck_Wd : Type := List vw_C × List ck_D × List Nat × List FieldType × List Cond × List (String × String) × List Cond
def ck_nk : Cond → Bool
  | .castable _ _ => true
  | .declares _ => true
  | .methodLinkNest _ _ _ _ => true
  | _ => false
/-- the words that the kit carries one by one -/
def ck_nq (V : ck_Wd) (U : State) : Prop := (∀ q ∈ V.2.2.2.2.2.1, va_Nc q.1 q.2 U) ∧ ∀ w ∈ V.2.2.2.2.2.2, ck_nk w = true ∧ va_Nw w U
theorem ck_nq.same {V : ck_Wd} {u U : State} (e : u.vm = U.vm) (h : ck_nq V u) : ck_nq V U :=
  ⟨fun q hq => (h.1 q hq).moved (by rw [e]; exact Vm.Alike.refl _), fun w hw => ⟨(h.2 w hw).1, by
    obtain ⟨h1, h2⟩ := h.2 w hw
    cases w <;> first | exact h2.same rfl e | (cases h1)⟩⟩
theorem ck_nq.warm {V : ck_Wd} {s U : State} (hW : s.WarmedH U.vm) (h : ck_nq V s) : ck_nq V U :=
  ⟨fun q hq => (h.1 q hq).moved hW.alike, fun w hw => ⟨(h.2 w hw).1, by
    obtain ⟨h1, h2⟩ := h.2 w hw
    cases w <;> first | exact h2.warmC hW | exact h2.warmM hW | exact h2.warmD hW | exact va_Nw.warmC hW h2 | exact va_Nw.warmM hW h2 | exact va_Nw.warmD hW h2 | (cases h1)⟩⟩
def ck_st (V : ck_Wd) (D : va_G) (tys : List (ClassId × FieldType)) (ws : va_W) (sz : Nat) (sw : Option Nat) (U : State) : Prop :=
  U.heap.size = sz ∧ va_P D V.1 ws U.heap ∧ va_K D V.1 tys U ∧ va_D (fun _ => True) ws ∧ ck_nq V U ∧
  ∀ w : Nat, sw = some w → va_Z "ReasonDesk$Bits" "WITH" "[J" (.ref w) (va_A ws sz) U U.heap ∧ ∃ f : Nat → Int64, va_T .long w 6 (fun j => .long (f j)) (va_A ws sz) U U.heap
abbrev ck_Ph : Type := va_W → List Nat → ck_N → Prop
abbrev ck_Ps : Type := va_W → List Nat → ck_N → va_W → List Nat → Option Value → Prop
def ck_qp (V : ck_Wd) (D : va_G) (tys : List (ClassId × FieldType)) (ws : va_W) (sh : List Nat) (sz : Nat) (sw : Option Nat) (n1 : ck_N) (C : ck_C) (Ps : ck_Ps) : Array Value → State → Outcome → State → Prop := fun _ st oc t =>
  (∃ P ∈ C.2.1, ∃ (rv : Option Value) (n2 : ck_N) (ws' : va_W) (sh' : List Nat), oc = .returned rv ∧ (∀ k, k < C.1.2.2.1.length → n2 k = n1 k) ∧ ck_wo tys V.2.1 V.2.2.1 ws' sh' ∧ ck_ex C.2.2.1 ws sh ws' sh' ∧ va_P D V.1 ws' t.heap ∧ va_D (va_A ws sz) ws' ∧
    ck_po V.2.2.1 ws' sh' (none, sw, fun _ => 0) n2 P.2.2.1.length P rv.toList ∧ Ps ws sh n1 ws' sh' rv) ∧ va_F (va_A ws sz) st t
/-- a contract; Ph: what is asked besides, Ps: what is said besides -/
def ck_mtx (V : ck_Wd) (l : Launch) (y : MethodName) (cc : ByteArray) (nL : Nat) (ret : Option FieldType) (rm : Room) (C : ck_C) (Ph : ck_Ph) (Ps : ck_Ps) : Prop :=
  ∀ (D : va_G) (tys : List (ClassId × FieldType)) (ws : va_W) (sh : List Nat) (sz : Nat) (n1 : ck_N) (As : List Value) (sw : Option Nat), tys.map Prod.snd = V.2.2.2.1 → sw.isSome = true → (n1 0).1 = 0 → ck_po V.2.2.1 ws sh (none, sw, fun _ => 0) n1 C.1.2.2.1.length C.1 As → ck_wo tys V.2.1 V.2.2.1 ws sh → Ph ws sh n1 →
    Met l y (.code y cc nL ret :: V.2.2.2.2.1) rm (va_Pc As (ck_st V D tys ws sz sw)) (ck_qp V D tys ws sh sz sw n1 C Ps) C.2.2.2.1 C.2.2.2.2 (va_A ws sz)
def ck_met (V : ck_Wd) (l : Launch) (y : MethodName) (cc : ByteArray) (nL : Nat) (ret : Option FieldType) (rm : Room) (C : ck_C) : Prop := ck_mtx V l y cc nL ret rm C (fun _ _ _ => True) (fun _ _ _ _ _ _ => True)
def ck_args : Nat → List ck_V → List (Nat × ck_V)
  | _, [] => []
  | i, v :: vs => (i, v) :: ck_args (if v.1 = 1 then i + 2 else i + 1) vs
def ck_wid : List ck_V → Nat
  | [] => 0
  | v :: vs => ck_cat v + ck_wid vs
/-- the state at the entry -/
def ck_en (C : ck_C) : ck_S := (ck_args 0 C.1.1, [], C.1.2.1 ++ ck_ab C.1.2.2.1.length, C.1.2.2.1, C.1.2.2.2, 0, 0)
/-- a single object's own number is noted at the entry -/
def ck_p1 (M : ck_Me) (S : ck_S) (x : Nat × Nat) : Option ck_S := match S.1 with
  | q :: _ => if q.2.1 = 2 ∧ q.2.2.2 = [x.1] ∧ (mSG M).contains x.1 = true ∧ x.1 ≠ 0 then (match (mTT M)[x.1]? with
    | some td => if td.1 = 0 then (match td.2.2.2[x.2]? with
      | some y => if y.1 = 0 then some (S.1, S.2.1, (x.1, x.2, (0, S.2.2.2.1.length, [])) :: S.2.2.1, S.2.2.2.1 ++ [(y.2.1, y.2.2.1)], S.2.2.2.2) else none
      | none => none) else none
    | none => none) else none
  | [] => none
def ck_pn (M : ck_Me) : List (Nat × Nat) → ck_S → Option ck_S
  | [], S => some S
  | x :: l, S => match ck_p1 M S x with
    | some S' => ck_pn M l S'
    | none => none
theorem ck_p1_ok {M : ck_Me} {S S' : ck_S} {x : Nat × Nat} (h : ck_p1 M S x = some S') {nL : Nat} {n : ck_N} {ws : va_W} {sh : List Nat} {sc : ck_sc} {ls : Array Slot} {vs : List Value} {tys : List (ClassId × FieldType)} (o : ck_so nL (mSG M) S n ws sh sc ls vs) (hw : ck_wo tys (mTT M) (mSG M) ws sh) :
    ∃ n', ck_so nL (mSG M) S' n' ws sh sc ls vs ∧ S'.2.2.2.2.2 = S.2.2.2.2.2 := by
  unfold ck_p1 at h
  split at h
  · rename_i q rest hq
    split at h
    · rename_i hc
      split at h
      · rename_i td htd
        split at h
        · rename_i h0
          split at h
          · rename_i y hy
            split at h
            · rename_i hy0
              have e := Option.some.inj h
              subst e
              obtain ⟨lv, l1, l2⟩ := id o.2.1
              rw [hq] at l2
              cases lv with
              | nil => exact l2.elim
              | cons z lv =>
                obtain ⟨-, -, q0, a, e', t, -, hq0, ht, htm⟩ := l2.1.2.r hc.1
                rw [hc.2.1] at htm
                have et := List.mem_singleton.mp htm
                subst et
                obtain ⟨td', g1, g2⟩ := hw.2.1 q0 a e' x.1 hq0 ht
                have e1 : td' = td := Option.some.inj (g1.symm.trans htd)
                subst e1
                unfold ck_co at g2
                rw [h0] at g2
                obtain ⟨fs, rfl, g3, g4⟩ := g2
                obtain ⟨v, g5, g6⟩ := g4 x.2 y hy
                unfold ck_fo at g6
                rw [hy0] at g6
                obtain ⟨w, rfl, w1, w2⟩ := g6
                have o' := o.new o.2.2.1 (tag := 0) (ts := []) (iv := (y.2.1, y.2.2.1)) (rs := []) (x := (w.toInt, .null)) (v := .int w) (.mi (Nat.lt_succ_self _) (by rw [ck_nx_eq])) (fun _ => ⟨w1, w2⟩) (fun r hr => by cases hr)
                refine ⟨_, ⟨o'.1, o'.2.1, o'.2.2.1.2, fun u hu => ?_, o'.2.2.2.2⟩, rfl⟩
                rcases List.mem_cons.mp hu with rfl | hu
                · exact Or.inr (Or.inl ⟨hc.2.2.2, List.contains_iff_mem.mp hc.2.2.1, q0, a, _, .int w, ht, hq0, g5, o'.2.2.1.1⟩)
                · exact o'.2.2.2.1 u hu
            · cases h
          · cases h
        · cases h
      · cases h
    · cases h
  · cases h
theorem ck_pn_ok {M : ck_Me} {nL : Nat} {ws : va_W} {sh : List Nat} {sc : ck_sc} {ls : Array Slot} {vs : List Value} {tys : List (ClassId × FieldType)} (hw : ck_wo tys (mTT M) (mSG M) ws sh) : ∀ {l : List (Nat × Nat)} {S S' : ck_S} {n : ck_N}, ck_pn M l S = some S' → ck_so nL (mSG M) S n ws sh sc ls vs →
    ∃ n', ck_so nL (mSG M) S' n' ws sh sc ls vs ∧ S'.2.2.2.2.2 = S.2.2.2.2.2
  | [], S, S', n, h, o => by
    have e := Option.some.inj h
    subst e
    exact ⟨n, o, rfl⟩
  | x :: l, S, S', n, h, o => by
    rw [ck_pn] at h
    split at h
    · rename_i S1 h1
      obtain ⟨n1, o1, e1⟩ := ck_p1_ok h1 o hw
      obtain ⟨n2, o2, e2⟩ := ck_pn_ok hw h o1
      exact ⟨n2, o2, e2.trans e1⟩
    · cases h
def ck_fresh (nE : Nat) (v : ck_V) : Bool := v.1 == 0 || (v.1 == 1 || ((v.1 == 2 || (v.1 == 3 || v.1 == 4)) && decide (nE ≤ v.2.1)))
/-- the end: one of the cases is met; rt: 0 void, 1 int, 2 truth, 3 long, 4 reference -/
def ck_kr (F nE rt : Nat) (C : ck_C) (kd : Nat) (S : ck_S) : Bool :=
  (decide (S.2.2.2.2.2.1 ≤ C.2.2.2.1) && (decide (S.2.2.2.2.2.2 ≤ C.2.2.2.2) && (ck_hb S nE && (match rt with
    | 0 => kd == 0
    | 1 => kd == 1
    | 2 => kd == 1 && (match S.2.1 with
      | v :: _ => ck_ent S.2.2.2.1 S.2.2.2.2.1 F v.2.1 0 1 && ck_ent S.2.2.2.1 S.2.2.2.2.1 F 0 v.2.1 0
      | [] => false)
    | 3 => kd == 2
    | _ => kd == 3)))) &&
  C.2.1.any (fun P => P.1.all (ck_fresh nE) && (P.2.1.all (fun m => !(m.1 == 0) && (decide (20 ≤ m.2.2.1) || ck_fresh nE m.2.2)) && match ck_mt F S (List.range nE) S.2.1 P with
    | some g => g.length == P.2.2.1.length
    | none => false))
theorem ck_two_args {ws : va_W} {sh : List Nat} {sc : ck_sc} {n : ck_N} {N : Nat} : ∀ {vs : List ck_V} {xs : List Value} (i : Nat), ck_two (ck_vo ws sh sc n N) vs xs → ck_two (fun (x : Nat × ck_V) (y : Nat × Value) => x.1 = y.1 ∧ ck_vo ws sh sc n N x.2 y.2) (ck_args i vs) (lv_args i xs)
  | [], [], _, _ => trivial
  | v :: vs, x :: xs, i, h => by
    have e : (if x.category = 2 then i + 2 else i + 1) = (if v.1 = 1 then i + 2 else i + 1) := by
      rw [ck_cat_ok h.1]
      unfold ck_cat
      by_cases q : v.1 = 1
      · rw [if_pos q, if_pos q, if_pos rfl]
      · rw [if_neg q, if_neg q, if_neg (by decide)]
    refine ⟨⟨rfl, h.1⟩, ?_⟩
    show ck_two _ (ck_args (if v.1 = 1 then i + 2 else i + 1) vs) (lv_args (if x.category = 2 then i + 2 else i + 1) xs)
    rw [e]
    exact ck_two_args _ h.2
  | [], _ :: _, _, h => h.elim
  | _ :: _, [], _, h => h.elim
theorem ck_vo.ag {ws : va_W} {sh : List Nat} {sc : ck_sc} {n n2 : ck_N} {N nE : Nat} (h1 : ∀ k, k < N → (n2 k).1 = (n k).1) (h2 : ∀ k, nE ≤ k → k < N → n2 k = n k) {v : ck_V} (hf : ck_fresh nE v = true) {x : Value} (h : ck_vo ws sh sc n N v x) : ck_vo ws sh sc n2 N v x := by
  unfold ck_fresh at hf
  simp only [Bool.or_eq_true, Bool.and_eq_true, beq_iff_eq, decide_eq_true_eq] at hf
  unfold ck_vo at h ⊢
  refine ⟨h.1, ?_⟩
  have hx := h.2
  rcases hf with e | e | ⟨e | e | e, hle⟩
  · rw [e] at hx ⊢
    rw [h1 _ h.1]
    exact hx
  · rw [e] at hx ⊢
    rw [h1 _ h.1]
    exact hx
  · rw [e] at hx ⊢
    rw [h2 _ hle h.1]
    exact hx
  · rw [e] at hx ⊢
    rw [h2 _ hle h.1]
    exact hx
  · rw [e] at hx ⊢
    rw [h2 _ hle h.1]
    exact hx
section
variable {p : Program} {l : Launch} {e : Env} {R : Room} {s : State} {m : MethodId} {args : Array Value} {below : List Frame} {meth : Method} {c : Code} {Q : State → Prop} {cc : ByteArray} {own : String} {D : va_G} {cl : List vw_C} {tys : List (ClassId × FieldType)} {M : ck_Me} {sc : ck_sc} {A : Nat → Prop} {ws0 : va_W} {sh0 : List Nat}
theorem ck_kr_ok {F nE rt kd : Nat} {C : ck_C} {S : ck_S} {nL : Nat} {SG : List Nat} {n n1 : ck_N} {ws : va_W} {sh : List Nat} {b : Nat → Int} {ls : Array Slot} {vs : List Value} (h : ck_kr F nE rt C kd S = true) (o : ck_so nL SG S n ws sh (sc.1, sc.2.1, b) ls vs) (hb : ∀ k, k < nE → b (1000 + k) = (n1 k).1) :
    ∃ P ∈ C.2.1, ∃ n2 : ck_N, (∀ k, k < nE → n2 k = n1 k) ∧ ck_po SG ws sh sc n2 P.2.2.1.length P vs := by
  unfold ck_kr at h
  rw [Bool.and_eq_true, List.any_eq_true] at h
  obtain ⟨h1, P, hP, h2⟩ := h
  simp only [Bool.and_eq_true] at h1 h2
  obtain ⟨-, -, hhb, -⟩ := h1
  obtain ⟨hf1, hf2, h3⟩ := h2
  refine ⟨P, hP, ?_⟩
  split at h3
  · rename_i g hg
    obtain ⟨⟨t, rfl⟩, g2, g3, g4, g5, g6⟩ := ck_mt_ok o hg o.2.2.1 (fun s hs => by
      have h1 := List.contains_iff_mem.mp (List.all_eq_true.mp hhb (0, 1000 + s, (8, s, [])) (List.mem_map.mpr ⟨s, hs, rfl⟩))
      rcases o.2.2.2.1 _ h1 with ⟨-, z, -⟩ | ⟨z, -⟩ | ⟨-, z, -⟩
      · exact z
      · exact absurd rfl z
      · exact absurd rfl z)
    have hlen := eq_of_beq h3
    rw [hlen] at g3 g4 g6
    obtain ⟨n2, hn2⟩ : ∃ n2 : ck_N, n2 = fun k => if k < nE then n1 k else ck_pl (List.range nE ++ t) n k := ⟨_, rfl⟩
    have a1 : ∀ k, k < nE → n2 k = n1 k := fun k hk => by rw [hn2]; exact if_pos hk
    have a2 : ∀ k, nE ≤ k → n2 k = ck_pl (List.range nE ++ t) n k := fun k hk => by rw [hn2]; exact if_neg (by omega)
    have a3 : ∀ k, (n2 k).1 = (ck_pl (List.range nE ++ t) n k).1 := fun k => by
      rcases Nat.lt_or_ge k nE with hk | hk
      · rw [a1 k hk]
        unfold ck_pl
        rw [ck_rng_get hk, ck_hb_ok o.2.2.2.1 hhb hk, hb k hk]
      · rw [a2 k hk]
    have hall : ∀ v ∈ P.1, ck_fresh nE v = true := fun v hv => List.all_eq_true.mp hf1 v hv
    refine ⟨n2, a1, ?_, ?_, fun k x hx hle => by rw [a3 k]; exact g5 k x hx hle, fun r hr => ⟨(g6 r hr).1, (g6 r hr).2.1, by rw [a3, a3]; exact (g6 r hr).2.2⟩⟩
    · revert hall g3
      generalize P.1 = ps
      generalize vs = xs
      clear o hg h3
      intro g3 hall
      induction ps generalizing xs with
      | nil => cases xs with
        | nil => trivial
        | cons _ _ => exact g3.elim
      | cons v ps ih => cases xs with
        | nil => exact g3.elim
        | cons x xs => exact ⟨(g3.1.sc (sc' := sc) rfl rfl).ag (nE := nE) (fun k _ => a3 k) (fun k hk _ => a2 k hk) (hall v List.mem_cons_self), ih xs g3.2 (fun w hw => hall w (List.mem_cons_of_mem _ hw))⟩
    · intro x hx
      have hx2 := List.all_eq_true.mp hf2 x hx
      rw [Bool.and_eq_true, Bool.not_eq_true', beq_eq_false_iff_ne] at hx2
      rcases g4 x hx with ⟨z, -⟩ | ⟨z0, z1, q, a, oo, v, z2, z3, z4, z5⟩ | ⟨y0, y1, y2, y3, y4, y5, q, a, cA, len, f, y6, y7, y8⟩
      · exact absurd z hx2.1
      · rw [Bool.or_eq_true, decide_eq_true_eq] at hx2
        rcases hx2.2 with w | w
        · exfalso
          have z5 := z5.2
          split at z5 <;> omega
        · exact Or.inr (Or.inl ⟨z0, z1, q, a, oo, v, z2, z3, z4, (z5.sc (sc' := sc) rfl rfl).ag (nE := nE) (fun k _ => a3 k) (fun k hk _ => a2 k hk) w⟩)
      · refine Or.inr (Or.inr ⟨y0, y1, y2, y3, y4, y5, q, a, cA, len, f, y6, y7, ?_⟩)
        rw [a3, List.map_congr_left (fun j _ => a3 j)]
        exact y8
  · cases h3
end
end
section
theorem ck_ofW {l : Launch} {y : MethodName} {ws ws' : List Cond} {rm : Room} {Pc : Array Value → State → Prop} {Qc : Array Value → State → Outcome → State → Prop} {mc ms : Nat} {free : Addr → Prop} {cc : ByteArray} {maxL : Nat} {ret : Option FieldType}
    (hy : plainFor y = true) (hw : ws = Cond.code y cc maxL ret :: ws')
    (body : ∀ p e s m args below meth c s₁, BodyLoose p l y (headSpec ws rm) cc maxL ret e s m args below meth c s₁ → c.maxLocals = maxL → Pc args s →
      W p l e (headSpec ws rm).room s m args below meth c s.heap [] 0 0 (MQ below Qc args s mc ms free) (entryFrame m args maxL)) : Met l y ws rm Pc Qc mc ms free := by
  refine MetFree.of_bodySF (code := cc) (maxLocals := maxL) (ret := ret) hy (fun args s m h hn => ?_) (fun p e s m args below meth c s₁ B hml hP _ => ?_)
  · obtain ⟨meth, c, h1, h2, h3, h4, h5, h6, -, -⟩ := Cond.code_spec hn (atoms_spec (ws := ws) h _ (by rw [hw]; exact List.mem_cons_self))
    exact ⟨meth, c, h1, h2, h3, h4, h5, h6⟩
  · have hh0 : s₁.heap = s.heap := by rw [B.state]; rfl
    obtain ⟨t, a1, o, b1, b2, b3⟩ := body p e s m args below meth c s₁ B hml hP s₁ hh0 (Stand.of_body B)
    exact ⟨t, o, a1, b1, b2, ⟨b3.1, b3.2⟩⟩
/-- the tables' facts of a method, where the tables' words hold -/
def ck_tb (V : ck_Wd) (own : String) (init : Bool) (M : ck_Me) : Prop := ∀ (s : State) (args : Array Value) (tys : List (ClassId × FieldType)) (meth : Method) (sw : Option Nat), (∀ w ∈ V.2.2.2.2.1, w.before args s = true) → tys.map Prod.snd = V.2.2.2.1 → ck_nq V s → (init = true → meth.name = "<init>") → sw.isSome = true →
  (∀ x ∈ mfl M, ck_hg s args own V.1 x) ∧ (∀ x ∈ mpl M, ck_hp s args own V.1 (meth.name = "<init>") x) ∧ (∀ x ∈ mnw M, ck_hn s args own V.1 (mTT M) x) ∧ (∀ x ∈ mkl M, ck_hk s args own x) ∧ (∀ x ∈ mil M, ck_hi s args own V.1 x) ∧ (∀ x ∈ mxl M, ck_hx s args own V.1 x) ∧ (∀ x ∈ mal M, ck_ha s tys V.1 x) ∧
  ∀ i ∈ mgl M, ∀ b, ck_hs s args own (none, sw, b) i
def ck_rt (rt : Nat) (ret : Option FieldType) : Prop := match rt with
  | 0 => ret = none
  | 1 => ret = some .int
  | 2 => ret = some .boolean
  | 3 => ret = some .long
  | _ => ∃ t, ret = some t ∧ ((∃ n, t = .object n) ∨ ∃ u, t = .array u)
/-- the calls' meaning, wherever the method runs -/
def ck_ca (V : ck_Wd) (own : String) (cc : ByteArray) (rm : Room) (M : ck_Me) : Prop := ∀ (p : Program) (l : Launch) (e : Env) (s : State) (m : MethodId) (args : Array Value) (below : List Frame) (meth : Method) (c : Code) (Q : State → Prop) (D : va_G) (tys : List (ClassId × FieldType)) (sc : ck_sc) (A : Nat → Prop),
  ck_cx p l e rm s m args below meth c cc own D V.1 tys M sc A → (∀ w ∈ V.2.2.2.2.1, w.before args s = true) → tys.map Prod.snd = V.2.2.2.1 → sc.2.1.isSome = true → ck_nq V s → ∀ x ∈ mvl M, ck_cs p l e rm s m args below meth c Q cc D V.1 tys M sc A x
theorem ck_rt_end {p : Program} {l : Launch} {e : Env} {R : Room} {s : State} {m : MethodId} {args : Array Value} {below : List Frame} {meth : Method} {c : Code} {cc : ByteArray} {ret : Option FieldType} {rt kd : Nat} {H : Heap} {locs : List Loc} {cells slots : Nat} {pc : Nat} {ls : Array Slot} {vs : List Value} {Qc : Array Value → State → Outcome → State → Prop} {free : Addr → Prop} {S : ck_S} {n : ck_N} {nL : Nat} {SG : List Nat} {ws : va_W} {sh : List Nat} {sc : ck_sc} {F nE : Nat} {C : ck_C}
    (hx : p.tables.exec = Jvm.exec) (hb : c.code = cc) (hr : meth.sig.returnType = ret) (hlocks : meth.locks = false) (hrt : ck_rt rt ret) (hkr : ck_kr F nE rt C kd S = true) (hst : ck_rst kd S) (o : ck_so nL SG S n ws sh sc ls vs) (hdg : decode cc pc = .ok (ck_ri kd, 1))
    (hq : ∀ (t : State) (rv : Option Value), rv.toList = vs → t.heap = H → s.WarmedH t.vm → Qc args s (.returned rv) t) (hf : ∀ q ∈ locs, free q.base) : W p l e R s m args below meth c H locs cells slots (MQ below Qc args s cells slots free) (F0 m pc ls vs) := by
  have hk := hkr
  unfold ck_kr at hkr
  simp only [Bool.and_eq_true] at hkr
  obtain ⟨⟨-, -, -, h4⟩, -⟩ := hkr
  have o3 := o.2.2.1
  unfold ck_rt at hrt
  split at hrt
  · subst hrt
    have ek := eq_of_beq h4
    subst ek
    rw [show S.2.1 = [] from hst] at o3
    cases vs with
    | nil => exact W.vret hx hb hr (fun t ht hW => hq t none rfl ht hW) hf hdg hlocks
    | cons _ _ => exact o3.elim
  · subst hrt
    have ek := eq_of_beq h4
    subst ek
    obtain ⟨v, hv, e0⟩ := (show ∃ v, S.2.1 = [v] ∧ v.1 = 0 from hst)
    rw [hv] at o3
    obtain ⟨u, vs', rfl, h2, h3⟩ := ck_hd o3
    obtain ⟨-, x, rfl, -⟩ := h2.i e0
    cases vs' with
    | nil => exact W.iret hx hb hr (fun t ht hW => hq t (some (.int x)) rfl ht hW) hf hdg hlocks
    | cons _ _ => exact h3.elim
  · subst hrt
    have h4 : (kd == 1 && (match S.2.1 with
      | v :: _ => ck_ent S.2.2.2.1 S.2.2.2.2.1 F v.2.1 0 1 && ck_ent S.2.2.2.1 S.2.2.2.2.1 F 0 v.2.1 0
      | [] => false)) = true := h4
    rw [Bool.and_eq_true] at h4
    have ek := eq_of_beq h4.1
    subst ek
    obtain ⟨v, hv, e0⟩ := (show ∃ v, S.2.1 = [v] ∧ v.1 = 0 from hst)
    have h5 := h4.2
    rw [hv] at o3 h5
    dsimp only at h5
    rw [Bool.and_eq_true] at h5
    obtain ⟨u, vs', rfl, h2, h3⟩ := ck_hd o3
    obtain ⟨-, x, rfl, ex⟩ := h2.i e0
    have p1 := ck_ent_ok o.2.2.2.2.1 o.2.2.2.2.2 F _ _ _ h5.1
    have p2 := ck_ent_ok o.2.2.2.2.1 o.2.2.2.2.2 F _ _ _ h5.2
    rw [o.1.2] at p1 p2
    cases vs' with
    | nil => exact W.zret hx hb hr (ck_nar_b (by rw [ex]; omega) (by rw [ex]; omega)).1 (fun t ht hW => hq t (some (.int x)) rfl ht hW) hf hdg hlocks
    | cons _ _ => exact h3.elim
  · subst hrt
    have ek := eq_of_beq h4
    subst ek
    obtain ⟨v, hv, e0⟩ := (show ∃ v, S.2.1 = [v] ∧ v.1 = 1 from hst)
    rw [hv] at o3
    obtain ⟨u, vs', rfl, h2, h3⟩ := ck_hd o3
    obtain ⟨-, x, rfl, -⟩ := h2.j e0
    cases vs' with
    | nil => exact W.lret hx hb hr (fun t ht hW => hq t (some (.long x)) rfl ht hW) hf hdg hlocks
    | cons _ _ => exact h3.elim
  · obtain ⟨t, rfl, ht⟩ := hrt
    have ek : kd = 3 := by
      revert h4
      split
      · rename_i z1 z2 z3 z4; exact absurd rfl z1
      · rename_i z1 z2 z3 z4; exact absurd rfl z2
      · rename_i z1 z2 z3 z4; exact absurd rfl z3
      · rename_i z1 z2 z3 z4; exact absurd rfl z4
      · exact eq_of_beq
    subst ek
    obtain ⟨v, hv, e0⟩ := (show ∃ v, S.2.1 = [v] ∧ (v.1 = 2 ∨ (v.1 = 3 ∨ v.1 = 4)) from hst)
    rw [hv] at o3
    obtain ⟨u, vs', rfl, h2, h3⟩ := ck_hd o3
    have hu : u = .null ∨ ∃ a : Nat, u = .ref a := by
      unfold ck_vo at h2
      rcases e0 with e | e | e <;> rw [e] at h2
      · obtain ⟨-, -, q, a, e', t', rfl, -⟩ := h2
        exact Or.inr ⟨a, rfl⟩
      · rcases h2.2.2 with w | ⟨q, a, e', t', rfl, -⟩
        · exact Or.inl w
        · exact Or.inr ⟨a, rfl⟩
      · exact Or.inl h2.2.2
    cases vs' with
    | nil => exact W.aret hx hb hr ht hu (fun t ht hW => hq t (some u) rfl ht hW) hf hdg hlocks
    | cons _ _ => exact h3.elim
theorem ck_wid_ok {ws : va_W} {sh : List Nat} {sc : ck_sc} {n : ck_N} {N : Nat} : ∀ {vs : List ck_V} {xs : List Value}, ck_two (ck_vo ws sh sc n N) vs xs → (lg_sl xs).length = ck_wid vs
  | [], [], _ => rfl
  | v :: vs, x :: xs, h => by
    have ih := ck_wid_ok h.2
    have hc := ck_cat_ok h.1
    have hcat : x.category = 1 ∨ x.category = 2 := lv_cat x
    have key : (lg_sl (x :: xs)).length = x.category + (lg_sl xs).length := by
      rcases hcat with q | q <;> simp [lg_sl, q] <;> omega
    rw [key, ih, hc]
    rfl
  | [], _ :: _, h => h.elim
  | _ :: _, [], h => h.elim
set_option maxHeartbeats 4000000 in
/-- the steps proved by hand, wherever the method runs -/
def ck_sph (V : ck_Wd) (own : String) (cc : ByteArray) (ret : Option FieldType) (rm : Room) (M : ck_Me) (C : ck_C) (Ph : ck_Ph) (Ps : ck_Ps) (sp : ck_spc) : Prop := ∀ (p : Program) (l : Launch) (e : Env) (s : State) (m : MethodId) (As : List Value) (below : List Frame) (meth : Method) (c : Code) (D : va_G) (tys : List (ClassId × FieldType)) (ws : va_W) (sh : List Nat) (n1 : ck_N) (sw : Option Nat),
  (∀ b : Nat → Int, ck_cx p l e rm s m As.toArray below meth c cc own D V.1 tys M (none, sw, b) (va_A ws s.heap.size)) → (∀ w ∈ V.2.2.2.2.1, w.before As.toArray s = true) → tys.map Prod.snd = V.2.2.2.1 → sw.isSome = true → ck_nq V s → meth.sig.returnType = ret → Ph ws sh n1 → ck_po V.2.2.1 ws sh (none, sw, fun _ => 0) n1 C.1.2.2.1.length C.1 As → ck_wo tys V.2.1 V.2.2.1 ws sh →
  ∀ x ∈ sp, ∀ (S : ck_S) (L : List ck_S), x.2.2 S = some L → ∀ b : Nat → Int, (∀ k, k < C.1.2.2.1.length → b (1000 + k) = (n1 k).1) →
    (∀ S' ∈ L, ck_g p l e rm s m As.toArray below meth c (MQ below (ck_qp V D tys ws sh s.heap.size sw n1 C Ps) As.toArray s C.2.2.2.1 C.2.2.2.2 (va_A ws s.heap.size)) D V.1 tys M (none, sw, b) (va_A ws s.heap.size) ws sh S' x.2.1) →
    ck_g p l e rm s m As.toArray below meth c (MQ below (ck_qp V D tys ws sh s.heap.size sw n1 C Ps) As.toArray s C.2.2.2.1 C.2.2.2.2 (va_A ws s.heap.size)) D V.1 tys M (none, sw, b) (va_A ws s.heap.size) ws sh S x.1
theorem ck_ex.wk {W1 W2 : List (Nat × Nat)} {ws ws' : va_W} {sh sh' : List Nat} (hw : ∀ x ∈ W2, x ∈ W1) (h : ck_ex W2 ws sh ws' sh') : ck_ex W1 ws sh ws' sh' := ck_ex.tr hw ck_ex.rf h
theorem ck_methX {Ph : ck_Ph} {Ps : ck_Ps} {sp : ck_spc} {V : ck_Wd} {l : Launch} {y : MethodName} {own : String} {cc : ByteArray} {nL : Nat} {ret : Option FieldType} {rm : Room} {C : ck_C} {M : ck_Me} {code : ck_cd} {ivs : List (Nat × ck_I)} {f rt : Nat} {pre : List (Nat × Nat)} {S0 : ck_S} (init : Bool)
    (hy : plainFor y = true) (ho : y.cls = own) (hinit : init = true → y.name = "<init>") (hM : mTT M = V.2.1 ∧ mSG M = V.2.2.1 ∧ mnL M = nL ∧ (∀ x ∈ mWr M, x ∈ C.2.2.1) ∧ mRm M = (C.2.2.2.1, C.2.2.2.2)) (hrm : rm.cells = C.2.2.2.1 ∧ rm.slots = C.2.2.2.2) (hrt : ck_rt rt ret)
    (hw : ck_wid C.1.1 ≤ nL) (h0 : 0 < C.1.2.2.1.length) (hmz : C.1.2.1.all (fun m => !(m.1 == 0)) = true) (hsp : ck_sph V own cc ret rm M C Ph Ps sp)
    (hps : ∀ (ws : va_W) (sh : List Nat) (n1 n2 : ck_N) (ws' : va_W) (sh' : List Nat) (rv : Option Value) (sw : Option Nat), Ph ws sh n1 → ck_ex (mWr M) ws sh ws' sh' → ∀ P ∈ C.2.1, (∀ k, k < C.1.2.2.1.length → n2 k = n1 k) → ck_po V.2.2.1 ws' sh' (none, sw, fun _ => 0) n2 P.2.2.1.length P rv.toList → Ps ws sh n1 ws' sh' rv)
    (hcode : ∀ x ∈ code, decode cc x.1 = .ok (x.2.1, x.2.2)) (htb : ck_tb V own init M) (hcl : ck_ca V own cc rm M) (hchk : ck_chk M (ck_kr (mF M) C.1.2.2.1.length rt C) sp code ivs C.1.2.2.1.length f S0 = true) (hpre : ck_pn M pre (ck_en C) = some S0) :
    ck_mtx V l y cc nL ret rm C Ph Ps := by
  obtain ⟨m1, m2, m3, m4, m5⟩ := hM
  intro D tys ws sh sz n1 As sw htl hsw1 hn0 hpo hwo hph
  refine ck_ofW (cc := cc) (maxL := nL) (ret := ret) hy rfl ?_
  intro p e s m args below meth c s₁ B hml hv
  obtain ⟨rfl, hsz, hP, hK, hD0, hnc, hsw⟩ := hv
  have hx := B.exec
  have hb := B.bytes
  have hr := B.returns
  have hts0 := atoms_spec (ws := .code y cc nL ret :: V.2.2.2.2.1) B.pre
  have hts : ∀ w ∈ V.2.2.2.2.1, w.before As.toArray s = true := fun w hw => hts0 w (List.mem_cons_of_mem _ hw)
  have hown : s.vm.findClass own = some m.cls := by rw [← ho]; exact findClass_of_methodNamed B.named
  have hlocks := B.notSynchronized
  have hmn : meth.name = y.name := (name_of_methodNamed B.named B.method).1
  subst hsz
  have hD := hD0.self (sz := s.heap.size)
  have hA : ∀ q : Nat, s.heap.size ≤ q → va_A ws s.heap.size q := fun q h => Or.inr h
  have hS : va_S (va_A ws s.heap.size) s.heap s.heap [] := va_S.rf
  have X : ck_cx p l e rm s m As.toArray below meth c cc own D V.1 tys M (none, sw, fun k => (n1 (k - 1000)).1) (va_A ws s.heap.size) :=
    ⟨hx, hb, hown, hK, hA, by rw [m3]; exact hml, by rw [m5]; exact ⟨by rw [hrm.1]; exact Nat.le_refl _, by rw [hrm.2]; exact Nat.le_refl _⟩, hlocks, (fun _ _ _ h => by cases h), hsw⟩
  obtain ⟨t1, t2, t3, t4, t5, t6, t7, t8⟩ := htb s As.toArray tys meth sw hts htl hnc (fun z => by rw [hmn]; exact hinit z) hsw1
  have hl := lv_entry As (n := nL) (by rw [ck_wid_ok hpo.1]; exact hw)
  rw [lg_entry_eq]
  generalize (lg_sl As ++ List.replicate (nL - (lg_sl As).length) Slot.unset).toArray = ls at hl ⊢
  refine W.widen (k := 0) (n := 0) (Nat.le_refl _) (Nat.le_refl _) ?_
  have hb0 : ∀ k, k < C.1.2.2.1.length → (fun j : Nat => (n1 (j - 1000)).1) (1000 + k) = (n1 k).1 := fun k _ => by
    have e9 : 1000 + k - 1000 = k := by omega
    dsimp only
    rw [e9]
  have hrun := ck_run_ok (p := p) (l := l) (e := e) (R := rm) (s := s) (m := m) (args := As.toArray) (below := below) (meth := meth) (c := c) (Q := MQ below (ck_qp V D tys ws sh s.heap.size sw n1 C Ps) As.toArray s C.2.2.2.1 C.2.2.2.2 (va_A ws s.heap.size)) (cc := cc) (own := own) (D := D) (cl := V.1) (tys := tys) (M := M) (sc := (none, sw, fun k => (n1 (k - 1000)).1)) (A := va_A ws s.heap.size) (ws0 := ws) (sh0 := sh) (n1 := n1) (b := fun k => (n1 (k - 1000)).1) h0 X t1 t2 t3 t4 t5 t6 t7 (fun i hi => t8 i hi _) (fun b => hcl p l e s m As.toArray below meth c _ D tys (none, sw, b) (va_A ws s.heap.size) X hts htl hsw1 hnc) hcode ?_ (fun x hx S L hS b hb hk => hsp p l e s m As below meth c D tys ws sh n1 sw (fun b => X) hts htl hsw1 hnc hr hph hpo hwo x hx S L hS b hb hk) hchk hb0
  · have oe : ck_so (mnL M) (mSG M) (ck_en C) n1 ws sh (none, sw, fun k => (n1 (k - 1000)).1) ls [] := by
      refine ⟨⟨h0, hn0⟩, ?_, trivial, ?_, hpo.2.2.1, hpo.2.2.2⟩
      · refine ⟨_, by rw [m3]; exact hl, ck_two_args 0 (hpo.1.imp fun a b hab => hab.sc rfl rfl)⟩
      · intro z hz
        rcases List.mem_append.mp hz with hz | hz
        · have hzn : z.1 ≠ 0 := by
            have := List.all_eq_true.mp hmz z hz
            rw [Bool.not_eq_true', beq_eq_false_iff_ne] at this
            exact this
          rcases hpo.2.1 z hz with ⟨q, -⟩ | ⟨z0, z1, q, a, oo, v, z2, z3, z4, z5⟩ | hy
          · exact absurd q hzn
          · exact Or.inr (Or.inl ⟨z0, by rw [m2]; exact z1, q, a, oo, v, z2, z3, z4, z5.sc rfl rfl⟩)
          · exact Or.inr (Or.inr ⟨hy.1, hy.2.1, by rw [m2]; exact hy.2.2.1, hy.2.2.2⟩)
        · obtain ⟨k, hk, rfl⟩ := List.mem_map.mp hz
          have hk := List.mem_range.mp hk
          exact Or.inl ⟨rfl, hk, Or.inr ⟨rfl, (hb0 k hk).symm⟩⟩
    have hwo' : ck_wo tys (mTT M) (mSG M) ws sh := by rw [m1, m2]; exact hwo
    obtain ⟨n', o', ec⟩ := ck_pn_ok hwo' hpre oe
    have hfin := hrun n' ws sh s.heap [] ls [] o' hwo' ck_ex.rf hP hD hS
    rw [ec] at hfin
    have hoc : ck_oc rm M = 0 := by unfold ck_oc; rw [m5, hrm.1]; exact Nat.sub_self _
    have hos : ck_os rm M = 0 := by unfold ck_os; rw [m5, hrm.2]; exact Nat.sub_self _
    rw [hoc, hos] at hfin
    exact hfin
  · intro b hbb kd S hkr hst pc hdg n ws' sh' H locs ls vs o hw' hx' hP' hD' hS'
    obtain ⟨P, hPm, n2, q1, q2⟩ := ck_kr_ok (sc := (none, sw, fun _ => 0)) hkr o hbb
    have hk2 := hkr
    unfold ck_kr at hk2
    simp only [Bool.and_eq_true, decide_eq_true_eq] at hk2
    have hoc : ck_oc rm M = 0 := by unfold ck_oc; rw [m5, hrm.1]; exact Nat.sub_self _
    have hos : ck_os rm M = 0 := by unfold ck_os; rw [m5, hrm.2]; exact Nat.sub_self _
    rw [hoc, hos, Nat.zero_add, Nat.zero_add]
    refine W.widen hk2.1.1 hk2.1.2.1 ?_
    refine ck_rt_end hx hb hr hlocks hrt hkr hst o hdg (fun t rv hrv ht hW => ?_) hS'.2.2
    subst hrv
    rw [m1, m2] at hw'
    rw [m2] at q2
    exact ⟨⟨P, hPm, rv, n2, ws', sh', rfl, q1, hw', hx'.wk m4, by rw [ht]; exact hP', hD', q2, hps ws sh n1 n2 ws' sh' rv sw hph hx' P hPm q1 q2⟩, hS'.F ht⟩

theorem ck_meth {V : ck_Wd} {l : Launch} {y : MethodName} {own : String} {cc : ByteArray} {nL : Nat} {ret : Option FieldType} {rm : Room} {C : ck_C} {M : ck_Me} {code : ck_cd} {ivs : List (Nat × ck_I)} {f rt : Nat} {pre : List (Nat × Nat)} {S0 : ck_S} (init : Bool)
    (hy : plainFor y = true) (ho : y.cls = own) (hinit : init = true → y.name = "<init>") (hM : mTT M = V.2.1 ∧ mSG M = V.2.2.1 ∧ mnL M = nL ∧ mWr M = C.2.2.1 ∧ mRm M = (C.2.2.2.1, C.2.2.2.2)) (hrm : rm.cells = C.2.2.2.1 ∧ rm.slots = C.2.2.2.2) (hrt : ck_rt rt ret)
    (hw : ck_wid C.1.1 ≤ nL) (h0 : 0 < C.1.2.2.1.length) (hmz : C.1.2.1.all (fun m => !(m.1 == 0)) = true) (hcode : ∀ x ∈ code, decode cc x.1 = .ok (x.2.1, x.2.2)) (htb : ck_tb V own init M) (hcl : ck_ca V own cc rm M) (hchk : ck_chk M (ck_kr (mF M) C.1.2.2.1.length rt C) [] code ivs C.1.2.2.1.length f S0 = true) (hpre : ck_pn M pre (ck_en C) = some S0) :
    ck_met V l y cc nL ret rm C :=
  ck_methX (sp := []) init hy ho hinit ⟨hM.1, hM.2.1, hM.2.2.1, fun x hx => by rw [← hM.2.2.2.1]; exact hx, hM.2.2.2.2⟩ hrm hrt hw h0 hmz (fun _ _ _ _ _ _ _ _ _ _ _ _ _ _ _ _ _ _ _ _ _ _ _ _ x hx => absurd hx List.not_mem_nil) (fun _ _ _ _ _ _ _ _ _ _ _ _ _ _ => trivial) hcode htb hcl hchk hpre
/-- with steps proved by hand -/
theorem ck_methS {sp : ck_spc} {V : ck_Wd} {l : Launch} {y : MethodName} {own : String} {cc : ByteArray} {nL : Nat} {ret : Option FieldType} {rm : Room} {C : ck_C} {M : ck_Me} {code : ck_cd} {ivs : List (Nat × ck_I)} {f rt : Nat} {pre : List (Nat × Nat)} {S0 : ck_S} (init : Bool)
    (hsp : ck_sph V own cc ret rm M C (fun _ _ _ => True) (fun _ _ _ _ _ _ => True) sp)
    (hy : plainFor y = true) (ho : y.cls = own) (hinit : init = true → y.name = "<init>") (hM : mTT M = V.2.1 ∧ mSG M = V.2.2.1 ∧ mnL M = nL ∧ mWr M = C.2.2.1 ∧ mRm M = (C.2.2.2.1, C.2.2.2.2)) (hrm : rm.cells = C.2.2.2.1 ∧ rm.slots = C.2.2.2.2) (hrt : ck_rt rt ret)
    (hw : ck_wid C.1.1 ≤ nL) (h0 : 0 < C.1.2.2.1.length) (hmz : C.1.2.1.all (fun m => !(m.1 == 0)) = true) (hcode : ∀ x ∈ code, decode cc x.1 = .ok (x.2.1, x.2.2)) (htb : ck_tb V own init M) (hcl : ck_ca V own cc rm M) (hchk : ck_chk M (ck_kr (mF M) C.1.2.2.1.length rt C) sp code ivs C.1.2.2.1.length f S0 = true) (hpre : ck_pn M pre (ck_en C) = some S0) :
    ck_met V l y cc nL ret rm C :=
  ck_methX (sp := sp) init hy ho hinit ⟨hM.1, hM.2.1, hM.2.2.1, fun x hx => by rw [← hM.2.2.2.1]; exact hx, hM.2.2.2.2⟩ hrm hrt hw h0 hmz hsp (fun _ _ _ _ _ _ _ _ _ _ _ _ _ _ => trivial) hcode htb hcl hchk hpre
end
section
/-! a contract is the call's meaning -/
def ck_ok5 (C : ck_C) : Bool := C.1.1.all (fun v => decide (v.1 < 5)) && (C.1.2.1.all ck_okm && C.2.1.all (fun P => P.1.all (fun v => decide (v.1 < 5)) && P.2.1.all ck_okm))
theorem ck_vo.sc5 {ws : va_W} {sh : List Nat} {sc sc' : ck_sc} {n : ck_N} {N : Nat} {av : ck_V} {v : Value} (h5 : av.1 < 5) (h : ck_vo ws sh sc n N av v) : ck_vo ws sh sc' n N av v := by
  unfold ck_vo at h ⊢
  refine ⟨h.1, ?_⟩
  have h2 := h.2
  split at h2
  · exact h2
  · exact h2
  · exact h2
  · exact h2
  · exact h2
  · omega
  · omega
  · omega
  · exact h2.elim
theorem ck_po.sc5 {SG : List Nat} {ws : va_W} {sh : List Nat} {sc sc' : ck_sc} {n : ck_N} {N : Nat} {P : ck_P} {xs : List Value} (h1 : P.1.all (fun v => decide (v.1 < 5)) = true) (h2 : P.2.1.all ck_okm = true) (h : ck_po SG ws sh sc n N P xs) : ck_po SG ws sh sc' n N P xs := by
  refine ⟨?_, fun x hx => ?_, h.2.2⟩
  · have hall : ∀ v ∈ P.1, v.1 < 5 := fun v hv => of_decide_eq_true (List.all_eq_true.mp h1 v hv)
    have h3 := h.1
    revert hall h3
    generalize P.1 = ps
    clear h h1 h2
    intro hall h3
    induction ps generalizing xs with
    | nil => cases xs with
      | nil => trivial
      | cons _ _ => exact h3.elim
    | cons v ps ih => cases xs with
      | nil => exact h3.elim
      | cons x xs => exact ⟨h3.1.sc5 (hall v List.mem_cons_self), ih (fun w hw => hall w (List.mem_cons_of_mem _ hw)) h3.2⟩
  · have hx2 := List.all_eq_true.mp h2 x hx
    unfold ck_okm at hx2
    rw [Bool.and_eq_true, Bool.not_eq_true', beq_eq_false_iff_ne, Bool.or_eq_true, decide_eq_true_eq, decide_eq_true_eq] at hx2
    rcases h.2.1 x hx with ⟨z, -⟩ | ⟨z0, z1, q, a, oo, v, z2, z3, z4, z5⟩ | hy
    · exact absurd z hx2.1
    · refine Or.inr (Or.inl ⟨z0, z1, q, a, oo, v, z2, z3, z4, z5.sc5 ?_⟩)
      rcases hx2.2 with w | w
      · exact w
      · exfalso
        have z5 := z5.2
        split at z5 <;> omega
    · exact Or.inr (Or.inr hy)
theorem ck_st_blind {V : ck_Wd} {D : va_G} {tys : List (ClassId × FieldType)} {ws : va_W} {sz : Nat} {sw : Option Nat} {As : List Value} : FrameBlind (va_Pc As (ck_st V D tys ws sz sw)) := by
  intro a U g mk h
  obtain ⟨rfl, h1, h2, h3, h4, h5, h6⟩ := h
  have hal : U.vm.Alike (U.calling g mk As.toArray).vm := Vm.Alike.refl U.vm
  refine ⟨rfl, h1, h2, h3.moved hal, h4, h5.same (show U.vm = (U.calling g mk As.toArray).vm from rfl), fun w hw => ?_⟩
  obtain ⟨g1, f, g2⟩ := h6 w hw
  exact ⟨g1.moved hal, f, g2.moved hal⟩
section
variable {p : Program} {l : Launch} {e : Env} {R : Room} {s : State} {m : MethodId} {args : Array Value} {below : List Frame} {meth : Method} {c : Code} {Q : State → Prop} {cc : ByteArray} {own : String} {D : va_G} {tys : List (ClassId × FieldType)} {M : ck_Me} {sc : ck_sc} {A : Nat → Prop} {V : ck_Wd}
theorem ck_cs_gen {y : MethodName} {cc' : ByteArray} {nL' : Nat} {ret : Option FieldType} {rm : Room} {C : ck_C} {i t na : Nat} (hmet : ck_met V l y cc' nL' ret rm C) (X : ck_cx p l e R s m args below meth c cc own D V.1 tys M sc A) (htl : tys.map Prod.snd = V.2.2.2.1) (hsw : sc.2.1.isSome = true) (hnc : ck_nq V s) (hM : mTT M = V.2.1 ∧ mSG M = V.2.2.1) (h5 : ck_ok5 C = true)
    (hrun : ∀ (pc : Nat) (ls : Array Slot) (ws : va_W) (sh : List Nat) (H : Heap) (locs : List Loc) (cells slots : Nat) (As rest : List Value) (Pc : Array Value → State → Prop) (Qc : Array Value → State → Outcome → State → Prop) (free : Addr → Prop), decode cc pc = .ok (ck_ik i, 3) → ls.size = mnL M → As.length = na → (t ≠ 0 → ∃ v, As[0]? = some v ∧ ck_rf ws sh [t] v) → ck_wo tys (mTT M) (mSG M) ws sh → va_P D V.1 ws H → (rest.map fun v => v.category).sum ≤ 8 → cells + C.2.2.2.1 ≤ R.cells → slots + C.2.2.2.2 ≤ R.slots →
      Met l y (.code y cc' nL' ret :: V.2.2.2.2.1) rm Pc Qc C.2.2.2.1 C.2.2.2.2 free → FrameBlind Pc → (∀ U : State, U.heap = H → s.WarmedH U.vm → Pc As.toArray U) → va_Run p l e R s m args below meth c H locs cells slots C.2.2.2.1 C.2.2.2.2 (F0 m pc ls (As.reverse ++ rest)) rest (Qc As.toArray) free) :
    ck_cs p l e R s m args below meth c Q cc D V.1 tys M sc A (i, t, na, C) := by
  intro pc ls n1 ws sh H locs cells slots As rest hdg hls hlen hn0 hpo hrec hwo hP hD hS hc hs hsum hk
  unfold ck_ok5 at h5
  rw [Bool.and_eq_true, Bool.and_eq_true] at h5
  obtain ⟨h51, h52, h53⟩ := h5
  obtain ⟨x1, x2, x3, x4, x5, x6, x7, x8, x9, x10⟩ := X
  have hA1 : ∀ q, va_A ws H.size q → A q := by
    rintro q (⟨k, e', h⟩ | h)
    · exact hD.2 k _ h
    · exact x5 q (Nat.le_trans hS.1 h)
  have hmet' := hmet D tys ws sh H.size n1 As sc.2.1 htl hsw hn0 (by rw [← hM.2]; exact hpo.sc5 h51 h52) (by rw [← hM.1, ← hM.2]; exact hwo) trivial
  have hpre : ∀ U : State, U.heap = H → s.WarmedH U.vm → va_Pc As (ck_st V D tys ws H.size sc.2.1) As.toArray U := by
    intro U hU hW
    refine ⟨rfl, by rw [hU], by rw [hU]; exact hP, va_K.moved hW.alike x4, hD.weaken (fun _ _ _ _ => trivial), hnc.warm hW, fun w hw => ?_⟩
    obtain ⟨g1, f, g2⟩ := x10 w hw
    exact ⟨by rw [hU]; exact ((g1.kept hS.2.1).narrow hA1).moved hW.alike, f, by rw [hU]; exact ((g2.kept hS.2.1).narrow hA1).moved hW.alike⟩
  have run := hrun pc ls ws sh H locs cells slots As rest _ _ _ hdg hls hlen hrec hwo hP hsum hc hs hmet' ck_st_blind hpre
  intro T hT Xs
  obtain ⟨v, st₀, u, T', L, h0, X', hL, e1, e2, ⟨⟨P, hPm, rv, n2, ws', sh', hrv, q1, q2, q3, q4, q5, q6, -⟩, hz, hkF⟩, st⟩ := run T hT Xs
  cases hrv
  rw [h0] at hz hkF
  have h53' := List.all_eq_true.mp h53 P hPm
  rw [Bool.and_eq_true] at h53'
  obtain ⟨t2, a1, b1⟩ := hk P hPm v n2 ws' sh' T'.heap (locs ++ L) q1 (by rw [hM.1, hM.2]; exact q2) q3 (by rw [e1]; exact q4) (q5.weaken fun k q _ h => hA1 q.1 h)
    ⟨Nat.le_trans hS.1 (by rw [e1]; exact hz), fun q h1 h2 => by rw [e1, hkF q (Nat.lt_of_lt_of_le h1 hS.1) (fun z => h2 (hA1 q z))]; exact hS.2.1 q h1 h2, fun q hq => by
      rcases List.mem_append.mp hq with h | h
      · exact hS.2.2 q h
      · exact hA1 _ (hL q h)⟩ (by rw [hM.2]; exact q6.sc5 h53'.1 h53'.2) T' rfl X'
  exact ⟨t2, st t2 a1, b1⟩
/-- the tables' words are good for callees -/
def ck_gd (Ts : List Cond) : Prop := ∀ w ∈ Ts, ((w.onTables && w.keeps) = true ∨ ∃ ty, w = .arrayClass ty)
theorem ck_good {Ts ws : List Cond} (hg : ck_gd Ts) (h : ∀ w ∈ ws, w ∈ Ts) : GoodIn Ts ws := fun w hw => ⟨h w hw, hg w (h w hw)⟩
theorem ck_lroom {pc : Nat} {ls : Array Slot} {st rest : List Value} (h : (rest.map fun v => v.category).sum ≤ 8) : 2 * (F0 m pc ls st).monitorRoom + (rest.map fun v => v.category).sum ≤ 8 := by
  show 2 * 0 + _ ≤ 8
  omega
theorem ck_recv (X : ck_cx p l e R s m args below meth c cc own D V.1 tys M sc A) {ws : va_W} {sh : List Nat} {H : Heap} {As : List Value} {t ci : Nat} {r : vw_C} (hwo : ck_wo tys (mTT M) (mSG M) ws sh) (hP : va_P D V.1 ws H) (ht : t ≠ 0) (hci : ck_ty0 M t = some ci) (hr : V.1[ci]? = some r) (hrec : t ≠ 0 → ∃ v, As[0]? = some v ∧ ck_rf ws sh [t] v) :
    ∃ (b : Nat) (As' : List Value), As = .ref b :: As' ∧ ∃ cell : Cell, H[b]? = some cell ∧ cell.vm.isStatics = false ∧ s.vm.findClass r.1 = some cell.cls := by
  obtain ⟨v, hv, q, a, e', t', rfl, h1, h2, h3⟩ := hrec ht
  rw [List.mem_singleton.mp h3] at h2
  cases As with
  | nil => simp at hv
  | cons x As' =>
    rw [List.getElem?_cons_zero, Option.some.injEq] at hv
    subst hv
    exact ⟨a, As', rfl, ck_cellof (cl := V.1) X hwo hP h1 h2 hci hr⟩
/-- invokevirtual of a method of the receiver's own class -/
theorem ck_cs_V {y : MethodName} {cc' : ByteArray} {nL' idx : Nat} {ret : Option FieldType} {rm : Room} {C : ck_C} {t na ci : Nat} {r : vw_C} (hmet : ck_met V l y cc' nL' ret rm C) (X : ck_cx p l e R s m args below meth c cc own D V.1 tys M sc A) (hts : ∀ w ∈ V.2.2.2.2.1, w.before args s = true) (htl : tys.map Prod.snd = V.2.2.2.1) (hsw : sc.2.1.isSome = true) (hnc : ck_nq V s) (hM : mTT M = V.2.1 ∧ mSG M = V.2.2.1) (h5 : ck_ok5 C = true)
    (hg : ck_gd V.2.2.2.2.1) (hw : ∀ w ∈ ([.methodLink own idx y, .instanceMethod y, .selects r.1 y y, .initialized r.1, .code y cc' nL' ret] : List Cond), w ∈ V.2.2.2.2.1) (ht : t ≠ 0) (hci : ck_ty0 M t = some ci) (hr : V.1[ci]? = some r) (hyc : y.cls = r.1)
    (hd : y.cls ≠ "java/lang/invoke/MethodHandle" ∧ y.cls ≠ "java/lang/invoke/VarHandle" ∧ (parseMethodDescriptor y.desc).map (fun d => d.parameters.length + 1) = some na) (hrm : rm.cells = C.2.2.2.1 ∧ rm.slots = C.2.2.2.2) (hR : rm.frames + 1 ≤ R.frames ∧ 8 + (nL' + 11) + rm.locals ≤ R.locals) :
    ck_cs p l e R s m args below meth c Q cc D V.1 tys M sc A (3 * idx, t, na, C) := by
  refine ck_cs_gen hmet X htl hsw hnc hM h5 ?_
  intro pc ls ws sh H locs cells slots As rest Pc Qc free hdg hls hlen hrec hwo hP hsum hc hs hMet hbl hpre
  obtain ⟨b, As', rfl, hcell⟩ := ck_recv X hwo hP ht hci hr hrec
  obtain ⟨n, hn1, hn2⟩ : ∃ n, (parseMethodDescriptor y.desc).map (fun d => d.parameters.length) = some n ∧ na = n + 1 := by
    cases hp : parseMethodDescriptor y.desc with
    | none => rw [hp] at hd; cases hd.2.2
    | some d => rw [hp] at hd; exact ⟨d.parameters.length, rfl, (Option.some.inj hd.2.2).symm⟩
  rw [ck_ik0] at hdg
  have hGi : GoodIn V.2.2.2.2.1 (wsV own idx r.1 y (.code y cc' nL' ret :: V.2.2.2.2.1)) := ck_good hg (fun w hww => by
    rcases List.mem_append.mp hww with q | q
    · simp only [List.mem_cons, List.not_mem_nil, or_false] at q
      rcases q with rfl | rfl | rfl | rfl <;> exact hw _ (by simp)
    · rcases List.mem_cons.mp q with rfl | q
      · exact hw _ (by simp)
      · exact q)
  exact va_runV (rest := rest) ⟨X.1, X.2.1, X.2.2.2.2.2.1, X.2.2.1, hts⟩ hMet (cwV n hts hGi rfl hrm.1 hrm.2 ⟨hyc, hd.1, hd.2.1, hn1⟩ hR) ⟨hbl, hcell, hpre⟩ (g := F0 m pc ls ((Value.ref b :: As').reverse ++ rest)) rfl (by simp at hlen; omega) hls (by simp) (ck_lroom hsum) hdg ⟨hc, hs⟩
/-- invokestatic -/
theorem ck_cs_S {y : MethodName} {cc' : ByteArray} {nL' idx : Nat} {ret : Option FieldType} {rm : Room} {C : ck_C} {na : Nat} (hmet : ck_met V l y cc' nL' ret rm C) (X : ck_cx p l e R s m args below meth c cc own D V.1 tys M sc A) (hts : ∀ w ∈ V.2.2.2.2.1, w.before args s = true) (htl : tys.map Prod.snd = V.2.2.2.1) (hsw : sc.2.1.isSome = true) (hnc : ck_nq V s) (hM : mTT M = V.2.1 ∧ mSG M = V.2.2.1) (h5 : ck_ok5 C = true)
    (hg : ck_gd V.2.2.2.2.1) (hw : ∀ w ∈ ([.methodLink own idx y, .static y, .initialized y.cls, .code y cc' nL' ret] : List Cond), w ∈ V.2.2.2.2.1)
    (hd : y.cls ≠ "java/lang/invoke/MethodHandle" ∧ y.cls ≠ "java/lang/invoke/VarHandle" ∧ (parseMethodDescriptor y.desc).map (fun d => d.parameters.length) = some na) (hrm : rm.cells = C.2.2.2.1 ∧ rm.slots = C.2.2.2.2) (hR : rm.frames + 1 ≤ R.frames ∧ 8 + (nL' + 11) + rm.locals ≤ R.locals) :
    ck_cs p l e R s m args below meth c Q cc D V.1 tys M sc A (3 * idx + 1, 0, na, C) := by
  refine ck_cs_gen hmet X htl hsw hnc hM h5 ?_
  intro pc ls ws sh H locs cells slots As rest Pc Qc free hdg hls hlen hrec hwo hP hsum hc hs hMet hbl hpre
  rw [ck_ik1] at hdg
  have hGi : GoodIn V.2.2.2.2.1 (va_wsS own idx y (.code y cc' nL' ret :: V.2.2.2.2.1)) := ck_good hg (fun w hww => by
    rcases List.mem_append.mp hww with q | q
    · simp only [List.mem_cons, List.not_mem_nil, or_false] at q
      rcases q with rfl | rfl | rfl <;> exact hw _ (by simp)
    · rcases List.mem_cons.mp q with rfl | q
      · exact hw _ (by simp)
      · exact q)
  exact va_runS (rest := rest) ⟨X.1, X.2.1, X.2.2.2.2.2.1, X.2.2.1, hts⟩ hMet (va_cwS na hts hGi rfl hrm.1 hrm.2 hd hR) ⟨hbl, hpre⟩ (g := F0 m pc ls (As.reverse ++ rest)) rfl hlen hls rfl (ck_lroom hsum) hdg ⟨hc, hs⟩
/-- invokespecial of a constructor -/
theorem ck_cs_I {y : MethodName} {cc' : ByteArray} {nL' idx : Nat} {rm : Room} {C : ck_C} {t na ci : Nat} {r : vw_C} (hmet : ck_met V l y cc' nL' none rm C) (X : ck_cx p l e R s m args below meth c cc own D V.1 tys M sc A) (hts : ∀ w ∈ V.2.2.2.2.1, w.before args s = true) (htl : tys.map Prod.snd = V.2.2.2.1) (hsw : sc.2.1.isSome = true) (hnc : ck_nq V s) (hM : mTT M = V.2.1 ∧ mSG M = V.2.2.1) (h5 : ck_ok5 C = true)
    (hg : ck_gd V.2.2.2.2.1) (hw : ∀ w ∈ ([.methodLink own idx y, .instanceMethod y, .initialized y.cls, .code y cc' nL' none] : List Cond), w ∈ V.2.2.2.2.1) (ht : t ≠ 0) (hci : ck_ty0 M t = some ci) (hr : V.1[ci]? = some r) (hy1 : y.name = "<init>")
    (hd : y.cls ≠ "java/lang/invoke/MethodHandle" ∧ y.cls ≠ "java/lang/invoke/VarHandle" ∧ (parseMethodDescriptor y.desc).map (fun d => d.parameters.length + 1) = some na) (hrm : rm.cells = C.2.2.2.1 ∧ rm.slots = C.2.2.2.2) (hR : rm.frames + 1 ≤ R.frames ∧ 8 + (nL' + 11) + rm.locals ≤ R.locals) :
    ck_cs p l e R s m args below meth c Q cc D V.1 tys M sc A (3 * idx + 2, t, na, C) := by
  refine ck_cs_gen hmet X htl hsw hnc hM h5 ?_
  intro pc ls ws sh H locs cells slots As rest Pc Qc free hdg hls hlen hrec hwo hP hsum hc hs hMet hbl hpre
  obtain ⟨b, As', rfl, hcell⟩ := ck_recv X hwo hP ht hci hr hrec
  obtain ⟨n, hn1, hn2⟩ : ∃ n, (parseMethodDescriptor y.desc).map (fun d => d.parameters.length) = some n ∧ na = n + 1 := by
    cases hp : parseMethodDescriptor y.desc with
    | none => rw [hp] at hd; cases hd.2.2
    | some d => rw [hp] at hd; exact ⟨d.parameters.length, rfl, (Option.some.inj hd.2.2).symm⟩
  rw [ck_ik2] at hdg
  have hGi : GoodIn V.2.2.2.2.1 (.code y cc' nL' none :: V.2.2.2.2.1) := ck_good hg (fun w hww => by
    rcases List.mem_cons.mp hww with rfl | q
    · exact hw _ (by simp)
    · exact q)
  exact va_runI (rest := rest) ⟨X.1, X.2.1, X.2.2.2.2.2.1, X.2.2.1, hts⟩ hMet (cwI n hts hGi rfl hrm.1 hrm.2 (hts _ (hw _ (by simp))) (hts _ (hw _ (by simp))) (hts _ (hw _ (by simp))) hy1 ⟨hd.1, hd.2.1, hn1⟩ hR) ⟨hbl, hpre⟩ (g := F0 m pc ls ((Value.ref b :: As').reverse ++ rest)) rfl (by simp at hlen; omega) hls (by simp) (ck_lroom hsum) hdg ⟨hc, hs⟩
end
end
section
/-! calls of the other kinds: of a nest mate's private method, of a method that is inherited, of the superclass's own, of Object.<init>, of System.arraycopy -/
section
variable {p : Program} {l : Launch} {e : Env} {R : Room} {s : State} {m : MethodId} {args : Array Value} {below : List Frame} {meth : Method} {c : Code} {Q : State → Prop} {cc : ByteArray} {own : String} {D : va_G} {tys : List (ClassId × FieldType)} {M : ck_Me} {sc : ck_sc} {A : Nat → Prop} {V : ck_Wd}
/-- invokestatic of a nest mate's private method -/
theorem ck_cs_SN {y : MethodName} {host : String} {cc' : ByteArray} {nL' idx : Nat} {ret : Option FieldType} {rm : Room} {C : ck_C} {na : Nat} (hmet : ck_met V l y cc' nL' ret rm C) (X : ck_cx p l e R s m args below meth c cc own D V.1 tys M sc A) (hts : ∀ w ∈ V.2.2.2.2.1, w.before args s = true) (htl : tys.map Prod.snd = V.2.2.2.1) (hsw : sc.2.1.isSome = true) (hnc : ck_nq V s) (hM : mTT M = V.2.1 ∧ mSG M = V.2.2.1) (h5 : ck_ok5 C = true)
    (hg : ck_gd V.2.2.2.2.1) (hl : Cond.methodLinkNest own idx y host ∈ V.2.2.2.2.2.2) (hw : ∀ w ∈ ([.static y, .initialized y.cls, .code y cc' nL' ret] : List Cond), w ∈ V.2.2.2.2.1)
    (hd : y.cls ≠ "java/lang/invoke/MethodHandle" ∧ y.cls ≠ "java/lang/invoke/VarHandle" ∧ (parseMethodDescriptor y.desc).map (fun d => d.parameters.length) = some na) (hrm : rm.cells = C.2.2.2.1 ∧ rm.slots = C.2.2.2.2) (hR : rm.frames + 1 ≤ R.frames ∧ 8 + (nL' + 11) + rm.locals ≤ R.locals) :
    ck_cs p l e R s m args below meth c Q cc D V.1 tys M sc A (3 * idx + 1, 0, na, C) := by
  refine ck_cs_gen hmet X htl hsw hnc hM h5 ?_
  intro pc ls ws sh H locs cells slots As rest Pc Qc free hdg hls hlen hrec hwo hP hsum hc hs hMet hbl hpre
  rw [ck_ik1] at hdg
  have hGi : GoodIn V.2.2.2.2.1 (.code y cc' nL' ret :: V.2.2.2.2.1) := ck_good hg (fun w hww => by
    rcases List.mem_cons.mp hww with rfl | q
    · exact hw _ (by simp)
    · exact q)
  exact va_runSN (rest := rest) ⟨X.1, X.2.1, X.2.2.2.2.2.1, X.2.2.1, hts⟩ hMet ⟨va_cnB na hts hGi rfl hrm.1 hrm.2 (hnc.2 _ hl).2 (hts _ (hw _ (by simp))) hd hR, hts _ (hw _ (by simp)), trivial⟩ ⟨hbl, hpre⟩ (g := F0 m pc ls (As.reverse ++ rest)) rfl hlen hls rfl (ck_lroom hsum) hdg ⟨hc, hs⟩
/-- invokevirtual, where the receiver's class inherits or overrides -/
theorem ck_cs_U {x y : MethodName} {owner : String} {cc' : ByteArray} {nL' idx : Nat} {ret : Option FieldType} {rm : Room} {C : ck_C} {t na ci : Nat} {r : vw_C} (hmet : ck_met V l y cc' nL' ret rm C) (X : ck_cx p l e R s m args below meth c cc own D V.1 tys M sc A) (hts : ∀ w ∈ V.2.2.2.2.1, w.before args s = true) (htl : tys.map Prod.snd = V.2.2.2.1) (hsw : sc.2.1.isSome = true) (hnc : ck_nq V s) (hM : mTT M = V.2.1 ∧ mSG M = V.2.2.1) (h5 : ck_ok5 C = true)
    (ht : t ≠ 0) (hci : ck_ty0 M t = some ci) (hr : V.1[ci]? = some r) (n : Nat) (hn : na = n + 1) (cw : va_CU R s args own r.1 owner idx x y cc' nL' ret (.code y cc' nL' ret :: V.2.2.2.2.1) rm C.2.2.2.1 C.2.2.2.2 n) :
    ck_cs p l e R s m args below meth c Q cc D V.1 tys M sc A (3 * idx, t, na, C) := by
  refine ck_cs_gen hmet X htl hsw hnc hM h5 ?_
  intro pc ls ws sh H locs cells slots As rest Pc Qc free hdg hls hlen hrec hwo hP hsum hc hs hMet hbl hpre
  obtain ⟨b, As', rfl, hcell⟩ := ck_recv X hwo hP ht hci hr hrec
  rw [ck_ik0] at hdg
  exact va_runU (Ts := V.2.2.2.2.1) (rest := rest) ⟨X.1, X.2.1, X.2.2.2.2.2.1, X.2.2.1, hts⟩ hMet cw ⟨hbl, hcell, hpre⟩ (g := F0 m pc ls ((Value.ref b :: As').reverse ++ rest)) rfl (by simp at hlen; omega) hls (by simp) (ck_lroom hsum) hdg ⟨hc, hs⟩
theorem ck_gU {Ts : List Cond} {own C owner : String} {idx : Nat} {x y : MethodName} {cc' : ByteArray} {nL' : Nat} {ret : Option FieldType} (hg : ck_gd Ts) (hw : ∀ w ∈ ([.methodLink own idx x, .sameMethod x.cls owner x.name x.desc, .selects C x y, .instanceMethod y, .initialized y.cls] : List Cond), w ∈ Ts) (hc : Cond.code y cc' nL' ret ∈ Ts) : GoodIn Ts (va_wsU own idx C owner x y (.code y cc' nL' ret :: Ts)) := ck_good hg (fun w hww => by
    rcases List.mem_append.mp hww with q | q
    · exact hw _ q
    · rcases List.mem_cons.mp q with rfl | q
      · exact hc
      · exact q)
theorem ck_gO {Ts : List Cond} {own C owner : String} {idx : Nat} {x y : MethodName} {cc' : ByteArray} {nL' : Nat} {ret : Option FieldType} (hg : ck_gd Ts) (hw : ∀ w ∈ ([.methodLink own idx x, .sameMethod x.cls owner x.name x.desc, .selects C x y, .instanceMethod y, .initialized y.cls] : List Cond), w ∈ Ts) (hi : Cond.instanceMethod ⟨owner, x.name, x.desc⟩ ∈ Ts) (hc : Cond.code y cc' nL' ret ∈ Ts) : GoodIn Ts (va_wsO own idx C owner x y (.code y cc' nL' ret :: Ts)) := ck_good hg (fun w hww => by
    rcases List.mem_append.mp hww with q | q
    · simp only [List.mem_cons, List.not_mem_nil, or_false] at q
      rcases q with rfl | rfl | rfl | rfl | rfl | rfl <;> first | exact hi | exact hw _ (by simp)
    · rcases List.mem_cons.mp q with rfl | q
      · exact hc
      · exact q)
/-- super.m(..) -/
theorem ck_cs_SU {y : MethodName} {cc' : ByteArray} {nL' idx : Nat} {ret : Option FieldType} {rm : Room} {C : ck_C} {t na ci : Nat} {r : vw_C} (hmet : ck_met V l y cc' nL' ret rm C) (X : ck_cx p l e R s m args below meth c cc own D V.1 tys M sc A) (hts : ∀ w ∈ V.2.2.2.2.1, w.before args s = true) (htl : tys.map Prod.snd = V.2.2.2.1) (hsw : sc.2.1.isSome = true) (hnc : ck_nq V s) (hM : mTT M = V.2.1 ∧ mSG M = V.2.2.1) (h5 : ck_ok5 C = true)
    (hg : ck_gd V.2.2.2.2.1) (hw : ∀ w ∈ ([.methodLink own idx y, .sameMethod y.cls y.cls y.name y.desc, .superclass own y.cls, .instanceMethod y, .initialized y.cls] : List Cond), w ∈ V.2.2.2.2.1) (hcd : Cond.code y cc' nL' ret ∈ V.2.2.2.2.1) (ht : t ≠ 0) (hci : ck_ty0 M t = some ci) (hr : V.1[ci]? = some r)
    (hd : y.name ≠ "<init>" ∧ (parseMethodDescriptor y.desc).map (fun d => d.parameters.length + 1) = some na) (hrm : rm.cells = C.2.2.2.1 ∧ rm.slots = C.2.2.2.2) (hR : rm.frames + 1 ≤ R.frames ∧ 8 + (nL' + 11) + rm.locals ≤ R.locals) :
    ck_cs p l e R s m args below meth c Q cc D V.1 tys M sc A (3 * idx + 2, t, na, C) := by
  refine ck_cs_gen hmet X htl hsw hnc hM h5 ?_
  intro pc ls ws sh H locs cells slots As rest Pc Qc free hdg hls hlen hrec hwo hP hsum hc hs hMet hbl hpre
  obtain ⟨b, As', rfl, hcell⟩ := ck_recv X hwo hP ht hci hr hrec
  obtain ⟨n, hn1, hn2⟩ : ∃ n, (parseMethodDescriptor y.desc).map (fun d => d.parameters.length) = some n ∧ na = n + 1 := by
    cases hp : parseMethodDescriptor y.desc with
    | none => rw [hp] at hd; cases hd.2
    | some d => rw [hp] at hd; exact ⟨d.parameters.length, rfl, (Option.some.inj hd.2).symm⟩
  rw [ck_ik2] at hdg
  have hGi : GoodIn V.2.2.2.2.1 (va_wsSU own idx y (.code y cc' nL' ret :: V.2.2.2.2.1)) := ck_good hg (fun w hww => by
    rcases List.mem_append.mp hww with q | q
    · exact hw _ q
    · rcases List.mem_cons.mp q with rfl | q
      · exact hcd
      · exact q)
  exact va_runSU (rest := rest) (X.2.2.2.1.1 ci r hr).2 ⟨X.1, X.2.1, X.2.2.2.2.2.1, X.2.2.1, hts⟩ hMet (va_cwSU n hts hGi rfl hrm.1 hrm.2 ⟨hd.1, hn1⟩ hR) ⟨hbl, hcell, hpre⟩ (g := F0 m pc ls ((Value.ref b :: As').reverse ++ rest)) rfl (by simp at hlen; omega) hls (by simp) (ck_lroom hsum) hdg ⟨hc, hs⟩
/-- Object.<init> -/
def ck_oC (t : Nat) : ck_C := (([(2, 1, [t])], [], [(0, 0), (1, 0)], []), [([], [], [(1, 0), (1, 0)], [])], [], 0, 0)
theorem ck_cs_O (X : ck_cx p l e R s m args below meth c cc own D V.1 tys M sc A) (hts : ∀ w ∈ V.2.2.2.2.1, w.before args s = true) {idx t : Nat} (hw : ∀ w ∈ ([.methodLink own idx Lib.objectInit, .instanceMethod Lib.objectInit, .code Lib.objectInit ⟨#[0xb1]⟩ 1 none] : List Cond), w ∈ V.2.2.2.2.1) (hR : 1 ≤ R.frames ∧ 8 + 12 ≤ R.locals) :
    ck_cs p l e R s m args below meth c Q cc D V.1 tys M sc A (3 * idx + 2, t, 1, ck_oC t) := by
  intro pc ls n1 ws sh H locs cells slots As rest hdg hls hlen hn0 hpo hrec hwo hP hD hS hc hs hsum hk
  rw [ck_ik2] at hdg
  obtain ⟨v, As', rfl, h1, h2⟩ := ck_hd hpo.1
  cases As' with
  | cons _ _ => exact h2.elim
  | nil =>
    obtain ⟨-, -, q, a, e', t', rfl, -⟩ := h1.r rfl
    refine W.objInit X.1 X.2.1 X.2.2.1 (hts _ (hw _ (by simp))) (hts _ (hw _ (by simp))) (hts _ (hw _ (by simp))) (g := F0 m pc ls ([Value.ref a].reverse ++ rest)) rfl (hls.trans X.2.2.2.2.2.1.symm) (a := a) (rest := rest) rfl hdg hR.1 (by show 2 * 0 + _ + 12 ≤ _; omega) ?_
    exact hk _ List.mem_cons_self none n1 ws sh H locs (fun _ _ => rfl) hwo ck_ex.rf hP hD hS ⟨trivial, fun _ h => (List.not_mem_nil h).elim, fun k z hz hle => by
      rcases k with _ | _ | k
      · have := Option.some.inj hz; subst this; exact absurd hle (by decide)
      · have := Option.some.inj hz; subst this; exact absurd hle (by decide)
      · exact absurd hz (by simp [ck_oC]), fun _ h => (List.not_mem_nil h).elim⟩
end
end
section
/-! a static method that the named class inherits; System.arraycopy of longs -/
section
theorem ck_coldS {Q : Unit → Pre} {E : CtlPost} {e : Env} {d : Bool} {acts : List Action} {s s₀ : State} {f : JFrame} {index ci n c : Nat} {m : MethodId} {dk ck : Class} {cf : ClassFile} {name desc : String} (ht : s.topJava?.isSome) (hp : e.platform.polymorphicOnlyByInvokevirtual = true)
    (hW : s₀.WarmedH s.vm) (hE : s₀.MethodEntryUp e s.vm f.method.cls index c m ci) (hd : s₀.vm.classes[f.method.cls]? = some dk) (hcf : dk.cf = some cf) (hcp : cf.constantPool[index]? = some (if false then .interfaceMethodref ci n else .methodref ci n)) (hnt : cf.constantPool.nameAndType? n = some (name, desc))
    (hck : s₀.vm.classes[c]? = some ck) (hno : (ck.methods.any fun x => x.name == name && !x.isStatic && signaturePolymorphic ck x) = false) :
    wp (invokestatic.sem index) Q E e d acts (s.setTop f) ↔ wp (invokestatic.sem index) Q E e d acts ((s.setVm (s.vm.calledUp f.method.cls ci index c m)).setTop f) := by
  have hF := hE.classFirst
  have tn : (s.setVm (s.vm.noted f.method.cls ci (.cls c))).topJava?.isSome := ht
  have tc : (s.setVm (s.vm.calledUp f.method.cls ci index c m)).topJava?.isSome := ht
  obtain ⟨d0, hd0, ed0⟩ := hW.alike.2.2 _ _ hd
  obtain ⟨d2, hd2, ed2⟩ := hE.warmed.alike.2.2 _ _ hd
  obtain ⟨k1, hk1, ek1⟩ := hF.2.2.1.alike.2.2 _ _ hck
  obtain ⟨k2, hk2, ek2⟩ := hE.warmed.alike.2.2 _ _ hck
  have b0 := memberRef_ask_via (e := e) hd0 (by rw [ed0]; exact hcf) hcp hnt
  have b2 := memberRef_ask_via (e := e) hd2 (by rw [ed2]; exact hcf) hcp hnt
  have no1 : (k1.methods.any fun x => x.name == name && !x.isStatic && signaturePolymorphic k1 x) = false := by rw [ek1]; exact hno
  have no2 : (k2.methods.any fun x => x.name == name && !x.isStatic && signaturePolymorphic k2 x) = false := by rw [ek2]; exact hno
  have L : ∀ {Q' : ClassId → Pre} {d' : Bool} {a' : List Action}, wp (Jvm.resolveClassAt ci) Q' E e d' a' (s.setTop f) ↔ Q' c d' a' ((s.setVm (s.vm.noted f.method.cls ci (.cls c))).setTop f) := W.resolveClassAt_links (t := s.setTop f) (State.method?_setTop f ht) hF.1
  have Mt : ∀ {Q' : MethodId → Pre} {d' : Bool} {a' : List Action}, wp (Jvm.resolveMethodAt index) Q' E e d' a' ((s.setVm (s.vm.noted f.method.cls ci (.cls c))).setTop f) ↔ Q' m d' a' ((s.setVm (s.vm.calledUp f.method.cls ci index c m)).setTop f) := W.resolveMethodAt_links (t := (s.setVm (s.vm.noted f.method.cls ci (.cls c))).setTop f) (State.method?_setTop f tn) hF.2.2.2
  simp [invokestatic.sem, hp, Seam.memberRefOf, State.method?_setTop f ht, State.method?_setTop f tc, b0, b2, L, W.resolveClassAt_ready (s := (s.setVm (s.vm.calledUp f.method.cls ci index c m)).setTop f) (State.method?_setTop f tc) hE.classReady, hk1, hk2, no1, no2, Mt, W.resolveMethodAt_ready (s := (s.setVm (s.vm.calledUp f.method.cls ci index c m)).setTop f) (State.method?_setTop f tc) hE.ready, -Array.any_eq_true]
variable {p : Program} {l : Launch} {e : Env} {R : Room} {s : State} {m : MethodId} {args : Array Value} {below : List Frame} {meth : Method} {c : Code} {T : State} {locs : List Loc} {cells slots : Nat}
theorem ck_stUp (X : Stand p l e R s m args below meth c T locs cells slots) (hexec : p.tables.exec = Jvm.exec)
    {own : String} {index : Nat} {x y : MethodName} (hown : s.vm.findClass own = some m.cls) (hlink : (Cond.methodLink own index x).before args s = true) (hyx : y = ⟨y.cls, x.name, x.desc⟩)
    (hsame : (Cond.sameMethod x.cls y.cls x.name x.desc).before args s = true) (hy : y.cls ≠ "java/lang/invoke/MethodHandle" ∧ y.cls ≠ "java/lang/invoke/VarHandle")
    {mk : MethodId} {methM : Method} {kP : Class} (hn : s.methodNamed? y = some mk) (hmk : s.vm.method? mk = some methM) (hst : methM.isStatic = true) (hkP : s.vm.classes[mk.cls]? = some kP) (hini : kP.init = .initialized)
    {g : JFrame} (hg : g.method = m) {As rest : List Value} (hlen : As.length = methM.sig.parameters.length) (hstack : g.stack = As.reverse ++ rest) (hdg : decode c.code g.pc = .ok (.invokestatic index, 3)) :
    ∃ vm', Stand p l e R s m args below meth c (T.setVm vm') locs cells slots ∧
      ∀ target, (∀ acts, Steps p.tables e below (doInvoke e ((T.setVm vm').setTop { g with stack := rest }) acts mk As.toArray).1 target) → Steps p.tables e below (T.setTop g) target := by
  have adm := X.admits.platform
  obtain ⟨cn, ck, r1, hcn, hck, hni, hf, hn1⟩ := Cond.sameMethod_found hsame
  rw [← hyx] at hn1
  cases hn.symm.trans hn1
  obtain ⟨ci, hl, hright⟩ := Cond.methodLink_specUp hown hcn hck hni hf hlink e.platform (by rw [adm]) (by rw [adm])
  have hE : s.MethodEntryUp e T.vm m.cls index cn mk ci := State.methodEntryUp X.warmed hl hright
  obtain ⟨ky, hky, hnm⟩ := className_of_methodNamed hn
  cases hkP.symm.trans hky
  obtain ⟨dk, cf, nt, mname, mdesc, ck', -, -, hd, hcf, hcp, hnt, -, -, hck', -, hnp, -⟩ := hl.here
  cases hck.symm.trans hck'
  have al := hE.warmed.alike
  obtain ⟨d2, hd2, ed2⟩ := al.2.2 _ _ hd
  obtain ⟨p2, hp2, ep2⟩ := al.2.2 _ _ hkP
  obtain ⟨k2, hk2, ek2⟩ := al.2.2 _ _ hck
  have hno : (ck.methods.any fun y => y.name == mname && !y.isStatic && signaturePolymorphic ck y) = false := by simp [hnp]
  have hcp' : cf.constantPool[index]? = some (if false then .interfaceMethodref ci nt else .methodref ci nt) := hcp
  refine ⟨T.vm.calledUp m.cls ci index cn mk, X.noted hE.warmed, fun target hrest => ?_⟩
  subst hg
  jvm_step X.here [hexec, hdg, ck_coldS (e := e) (s := T) (s₀ := s) (f := g) X.here.top (by rw [adm]) X.warmed hE hd hcf hcp' hnt hck hno,
    invokestatic.wp_ready (e := e) (s := T.setVm (T.vm.calledUp g.method.cls ci index cn mk)) (k := p2) (meth := methM) (m := mk) (args := As) (rest := rest) (f := g)
      X.here.top ⟨ci, mname, mdesc, false, cn, k2, memberRef_ask_via (e := e) hd2 (by rw [ed2]; exact hcf) hcp' hnt, hE.classReady, hk2, by rw [ek2]; exact hno⟩ hE.ready hp2
      (by show (T.vm.calledUp g.method.cls ci index cn mk).method? mk = some methM; rw [al.method?]; exact hmk)
      (by rw [ep2]; show signaturePolymorphic kP methM = false; simp [signaturePolymorphic, hnm, hy.1, hy.2]) hst (by rw [ep2]; exact hini) hlen hstack]
  exact fun acts => hrest _
end
section
variable {p : Program} {l : Launch} {e : Env} {R : Room} {s : State} {m : MethodId} {args : Array Value} {below : List Frame} {meth : Method} {c : Code} {Q : State → Prop} {cc : ByteArray} {own : String} {D : va_G} {tys : List (ClassId × FieldType)} {M : ck_Me} {sc : ck_sc} {A : Nat → Prop} {V : ck_Wd}
theorem ck_runSI {H : Heap} {locs : List Loc} {cells slots : Nat} {x y : MethodName} {bytes cc : ByteArray} {maxL nL mc ms n index : Nat} {ret : Option FieldType} {ws : List Cond} {rm : Room} {Pc : Array Value → State → Prop} {Qc : Array Value → State → Outcome → State → Prop} {free : Addr → Prop} {Ts : List Cond} {own : String} {As rest : List Value} {g : JFrame}
    (S : CallFix p m c cc nL s args Ts own) (hM : Met l y ws rm Pc Qc mc ms free) (hbk : rm.cells = mc ∧ rm.slots = ms ∧ rm.frames + 1 ≤ R.frames ∧ 8 + (maxL + 11) + rm.locals ≤ R.locals ∧ (∀ w ∈ ws, ∀ (a' : Array Value) (U : State), s.WarmedH U.vm → w.before a' U = true) ∧ Cond.code y bytes maxL ret ∈ ws) (hlink : (Cond.methodLink own index x).before args s = true) (hsame : (Cond.sameMethod x.cls y.cls x.name x.desc).before args s = true) (hyx : y = ⟨y.cls, x.name, x.desc⟩)
    (hst : (Cond.static y).before args s = true) (hini : (Cond.initialized y.cls).before args s = true) (hcode : (Cond.code y bytes maxL ret).before args s = true) (hy : y.cls ≠ "java/lang/invoke/MethodHandle" ∧ y.cls ≠ "java/lang/invoke/VarHandle") (hle : ∀ sig, parseMethodDescriptor y.desc = some sig → n = sig.parameters.length) (hp : PreS s H Pc As)
    (hg : g.method = m) (hn : As.length = n) (hsize : g.locals.size = nL) (hstack : g.stack = As.reverse ++ rest) (hW : 2 * g.monitorRoom + (rest.map fun v => v.category).sum ≤ 8) (hdg : decode cc g.pc = .ok (.invokestatic index, 3)) (hf : cells + mc ≤ R.cells ∧ slots + ms ≤ R.slots) :
    va_Run p l e R s m args below meth c H locs cells slots mc ms g rest (Qc As.toArray) (free) := by
  obtain ⟨hrc, hrs, hfr, hlo, hws, hcw⟩ := hbk
  have hK : Back l R p e below s args y 3 8 (PreOf R mc ms Pc) (PostOf Qc mc ms free) := back_of (bytes := bytes) (maxL := maxL) (ret := ret) hM hp.1 hrc hrs hfr hlo hws hcw (fun a' U hW => word_at hW (Or.inl (by first | rfl | simp [Cond.onTables, Cond.keeps, Cond.steady])) hini)
  obtain ⟨hx, hb, hml, ho, -⟩ := S
  obtain ⟨mk, hnamed⟩ := Cond.code_named hcode
  obtain ⟨methM, cM, hmethM, -, -, -, -, -, -, hsigM⟩ := Cond.code_spec hnamed hcode
  have hstatic : methM.isStatic = true := Cond.static_spec hnamed hmethM hst
  obtain ⟨kP, hkP, -⟩ := className_of_methodNamed hnamed
  have hinitP : kP.init = .initialized := Cond.initialized_spec (findClass_of_methodNamed hnamed) hkP hini
  intro T hT X
  obtain ⟨vm₁, X₁, hstep₁⟩ := ck_stUp X hx ho hlink hyx hsame hy hnamed hmethM hstatic hkP hinitP (g := g) hg (As := As) (rest := rest) (hn.trans (hle _ hsigM)) hstack (by rw [hb]; exact hdg)
  obtain ⟨v, B, X', hpost, hsteps⟩ := hK m meth c ⟨T.setVm vm₁, locs, cells, slots⟩ { g with stack := rest } (.invokestatic index) mk As.toArray X₁ hg (hsize.trans hml.symm) (by rw [hb]; exact hdg) hW (X₁.named hnamed) ⟨hf.1, hf.2, hp.2 (T.setVm vm₁) hT X₁.warmed⟩
  obtain ⟨U', l2, c2, s2⟩ := B
  obtain ⟨g', mk', t, L, e1, e2, hq, h1, hL, h2, h3⟩ := hpost
  dsimp only [Pt.U, Pt.locs, Pt.cells, Pt.slots] at X' e1 e2 h1 h2 h3 hsteps
  subst h1; subst h2; subst h3
  exact ⟨v, (T.setVm vm₁).calling g' mk' As.toArray, t, U', L, hT, X', hL, e1, e2, hq, fun target h => hstep₁ _ fun acts => by rw [doInvoke_state]; exact hsteps.trans h⟩
theorem ck_cs_SI {x y : MethodName} {cc' : ByteArray} {nL' idx : Nat} {ret : Option FieldType} {rm : Room} {C : ck_C} {na : Nat} (hmet : ck_met V l y cc' nL' ret rm C) (X : ck_cx p l e R s m args below meth c cc own D V.1 tys M sc A) (hts : ∀ w ∈ V.2.2.2.2.1, w.before args s = true) (htl : tys.map Prod.snd = V.2.2.2.1) (hsw : sc.2.1.isSome = true) (hnc : ck_nq V s) (hM : mTT M = V.2.1 ∧ mSG M = V.2.2.1) (h5 : ck_ok5 C = true)
    (hg : ck_gd V.2.2.2.2.1) (hyx : y = ⟨y.cls, x.name, x.desc⟩) (hw : ∀ w ∈ ([.methodLink own idx x, .sameMethod x.cls y.cls x.name x.desc, .static y, .initialized y.cls, .code y cc' nL' ret] : List Cond), w ∈ V.2.2.2.2.1)
    (hd : y.cls ≠ "java/lang/invoke/MethodHandle" ∧ y.cls ≠ "java/lang/invoke/VarHandle" ∧ (parseMethodDescriptor y.desc).map (fun d => d.parameters.length) = some na) (hrm : rm.cells = C.2.2.2.1 ∧ rm.slots = C.2.2.2.2) (hR : rm.frames + 1 ≤ R.frames ∧ 8 + (nL' + 11) + rm.locals ≤ R.locals) :
    ck_cs p l e R s m args below meth c Q cc D V.1 tys M sc A (3 * idx + 1, 0, na, C) := by
  refine ck_cs_gen hmet X htl hsw hnc hM h5 ?_
  intro pc ls ws sh H locs cells slots As rest Pc Qc free hdg hls hlen hrec hwo hP hsum hc hs hMet hbl hpre
  rw [ck_ik1] at hdg
  have hGi : GoodIn V.2.2.2.2.1 (.code y cc' nL' ret :: V.2.2.2.2.1) := ck_good hg (fun w hww => by
    rcases List.mem_cons.mp hww with rfl | q
    · exact hw _ (by simp)
    · exact q)
  exact ck_runSI (Ts := V.2.2.2.2.1) (rest := rest) (n := na) ⟨X.1, X.2.1, X.2.2.2.2.2.1, X.2.2.1, hts⟩ hMet ⟨hrm.1, hrm.2, hR.1, hR.2, pay_in hts hGi, List.mem_cons_self⟩ (hts _ (hw _ (by simp))) (hts _ (hw _ (by simp))) hyx (hts _ (hw _ (by simp))) (hts _ (hw _ (by simp))) (hts _ (hw _ (by simp))) ⟨hd.1, hd.2.1⟩ (fun sig h => by
    have h2 := hd.2.2
    rw [h] at h2
    exact (Option.some.inj h2).symm) ⟨hbl, hpre⟩ (g := F0 m pc ls (As.reverse ++ rest)) rfl hlen hls rfl (ck_lroom hsum) hdg ⟨hc, hs⟩
/-- System.arraycopy(a, 0, b, 0, n) of longs -/
def ck_yC (t0 t1 : Nat) (mx : Int) : ck_C := (([(2, 1, [t0]), (0, 2, []), (2, 3, [t1]), (0, 4, []), (0, 5, [])], [], [(0, 0), (1, 0), (0, 0), (1, 0), (0, 0), (0, mx)], []), [([], [], [(1, 0), (1, 0), (1, 0), (1, 0), (1, 0), (1, 0)], [])], [(t1, 0)], 0, 0)
theorem ck_cs_Y (X : ck_cx p l e R s m args below meth c cc own D V.1 tys M sc A) (hts : ∀ w ∈ V.2.2.2.2.1, w.before args s = true) {idx t0 t1 : Nat} {mx : Int} {n0 n1 k0 k1 : Nat} {F0' F1' : List ck_T} (htl : tys.map Prod.snd = V.2.2.2.1) (h0 : (mTT M)[t0]? = some (2, n0, k0, F0')) (h1 : (mTT M)[t1]? = some (2, n1, k1, F1')) (hmn : 0 ≤ mx) (hm0 : mx ≤ (n0 : Int)) (hm1 : mx ≤ (n1 : Int)) (hw : ∀ w ∈ ([.methodLink own idx arraycopyName, .native arraycopyName, .static arraycopyName, .initialized "java/lang/System"] : List Cond), w ∈ V.2.2.2.2.1) (hR : 1 ≤ R.frames ∧ 60 ≤ R.locals) :
    ck_cs p l e R s m args below meth c Q cc D V.1 tys M sc A (3 * idx + 1, 0, 5, ck_yC t0 t1 mx) := by
  intro pc ls nn ws sh H locs cells slots As rest hdg hls hlen hn0 hpo hrec hwo hP hD hS hc hs hsum hk
  rw [ck_ik1] at hdg
  have hnf : nativeFrameWords "java/lang/System" "arraycopy" 5 + 11 ≤ 52 := by decide +kernel
  obtain ⟨v0, As, rfl, w0, g⟩ := ck_hd hpo.1
  obtain ⟨v1, As, rfl, w1, g⟩ := ck_hd g
  obtain ⟨v2, As, rfl, w2, g⟩ := ck_hd g
  obtain ⟨v3, As, rfl, w3, g⟩ := ck_hd g
  obtain ⟨v4, As, rfl, w4, g⟩ := ck_hd g
  cases As with
  | cons _ _ => exact g.elim
  | nil =>
    have E := hpo.2.2.1
    obtain ⟨-, -, q0, a0, e0, u0, rfl, hq0, hu0, hm0'⟩ := w0.r rfl
    obtain ⟨-, -, q1, a1, e1, u1, rfl, hq1, hu1, hm1'⟩ := w2.r rfl
    rw [List.mem_singleton.mp hm0'] at hu0
    rw [List.mem_singleton.mp hm1'] at hu1
    obtain ⟨-, sp, rfl, hsp⟩ := w1.i rfl
    obtain ⟨-, dp, rfl, hdp⟩ := w3.i rfl
    obtain ⟨-, n, rfl, hn⟩ := w4.i rfl
    have E2 := E 2 (0, 0) rfl (by decide)
    have E4 := E 4 (0, 0) rfl (by decide)
    obtain ⟨td0, g0, c0⟩ := hwo.2.1 q0 a0 e0 t0 hq0 hu0
    obtain ⟨td1, g1, c1⟩ := hwo.2.1 q1 a1 e1 t1 hq1 hu1
    have e0' : td0 = (2, n0, k0, F0') := Option.some.inj (g0.symm.trans h0)
    have e1' : td1 = (2, n1, k1, F1') := Option.some.inj (g1.symm.trans h1)
    subst e0' e1'
    have c1' := c1
    obtain ⟨cA0, f0, y0, rfl⟩ := c0
    obtain ⟨cA1, f1, y1, rfl⟩ := c1
    have s1 : sp.toInt = 0 := by have a := E2.1; have b := E2.2; rw [← hsp] at a b; exact Int.le_antisymm b a
    have s2 : dp.toInt = 0 := by have a := E4.1; have b := E4.2; rw [← hdp] at a b; exact Int.le_antisymm b a
    have sz : sp.toNatClampNeg = 0 := by show sp.toInt.toNat = 0; omega
    have dz : dp.toNatClampNeg = 0 := by show dp.toInt.toNat = 0; omega
    have nneg : ∀ z : Int32, 0 ≤ z.toInt → ¬ z < 0 := fun z hz => by rw [Int32.lt_iff_toInt_lt]; simpa using hz
    have c5 := E 5 (0, mx) rfl hmn
    rw [← hn] at c5
    have nz : (n.toNatClampNeg : Int) = n.toInt := Int.toNat_of_nonneg c5.1
    refine va_copyl (rest := rest) X.1 X.2.1 (X.2.2.2.2.2.1.trans hls.symm) X.2.2.1 (hts _ (hw _ (by simp))) (hts _ (hw _ (by simp))) (hts _ (hw _ (by simp))) (hts _ (hw _ (by simp))) X.2.2.2.1 hP hD hS q0 q1 k0 k1 hq0 hq1 y0 y1 rfl (nneg _ (by omega)) (nneg _ (by omega)) (nneg _ c5.1) (show sp.toNatClampNeg + n.toNatClampNeg ≤ n0 by omega) (show dp.toNatClampNeg + n.toNatClampNeg ≤ n1 by omega) (fun _ _ => rfl) hR.1 (by omega) hdg (fun H1 locs1 P1 D1 S1 => ?_)
    obtain ⟨W1, W2⟩ := ck_wo_set (Wr := [(t1, 0)]) (e' := .inl (cA1, n1, .inr (.inl (va_cpy f0 f1 sp.toNatClampNeg dp.toNatClampNeg n.toNatClampNeg)))) hwo hq1 hu1 (fun z => absurd (List.mem_singleton.mpr rfl) z) h1 ⟨cA1, _, y1, rfl⟩
    exact hk _ List.mem_cons_self none nn _ sh H1 locs1 (fun _ _ => rfl) W1 W2 P1 D1 S1 ⟨trivial, fun _ h => (List.not_mem_nil h).elim, fun k z hz hle => by
      have hz' : ([(1, 0), (1, 0), (1, 0), (1, 0), (1, 0), (1, 0)] : List (Int × Int))[k]? = some z := hz
      have hzm := List.mem_of_getElem? hz'
      simp at hzm
      rw [hzm] at hle
      exact absurd hle (by decide), fun _ h => (List.not_mem_nil h).elim⟩
end
end
section
/-! steps proved by hand: reads and writes of an array of which notes speak -/
abbrev ck_tn (SG : List Nat) (ws : va_W) (sh : List Nat) (n : ck_N) (N : Nat) (x : ck_M) : Prop :=
  20 ≤ x.2.2.1 ∧ x.1 ≠ 0 ∧ x.1 ∈ SG ∧ x.2.1 = 0 ∧ x.2.2.2.1 < N ∧ (∀ j ∈ x.2.2.2.2, j < N) ∧ ∃ (q a : Nat) (cA : ClassId) (len : Nat) (f : Nat → Int32), sh[q]? = some x.1 ∧ ws[q]? = some (a, .inl (cA, len, .inl f)) ∧ ck_nt x.2.2.1 f (n x.2.2.2.1).1 (x.2.2.2.2.map (fun j => (n j).1))
section
variable {nL : Nat} {SG : List Nat} {S : ck_S} {n : ck_N} {ws : va_W} {sh : List Nat} {sc : ck_sc} {ls : Array Slot} {vs : List Value}
theorem ck_so.sym (h : ck_so nL SG S n ws sh sc ls vs) {iv : Int × Int} {rs : List ck_R} {z : Int} (hx : iv.1 ≤ iv.2 → iv.1 ≤ z ∧ z ≤ iv.2) (hr : ck_ro rs (ck_nx n S.2.2.2.1.length (z, .null)) (S.2.2.2.1.length + 1)) :
    ck_so nL SG (S.1, S.2.1, S.2.2.1, S.2.2.2.1 ++ [iv], rs ++ S.2.2.2.2.1, S.2.2.2.2.2) (ck_nx n S.2.2.2.1.length (z, .null)) ws sh sc ls vs := by
  have h1 := h.new h.2.2.1 (tag := 4) (ts := []) (iv := iv) (rs := rs) (x := (z, .null)) (v := .null) ⟨Nat.lt_succ_self _, by rw [ck_nx_eq], rfl⟩ hx hr
  exact h1.ss h1.2.2.1.2
theorem ck_so.nt {x : ck_M} (h : ck_so nL SG S n ws sh sc ls vs) (hx : ck_tn SG ws sh n S.2.2.2.1.length x) : ck_so nL SG (S.1, S.2.1, x :: S.2.2.1, S.2.2.2) n ws sh sc ls vs :=
  ⟨h.1, h.2.1, h.2.2.1, fun y hy => by
    rcases List.mem_cons.mp hy with rfl | hy
    · exact Or.inr (Or.inr hx)
    · exact h.2.2.2.1 y hy, h.2.2.2.2⟩
theorem ck_so.fl (h : ck_so nL SG S n ws sh sc ls vs) (p : ck_M → Bool) : ck_so nL SG (S.1, S.2.1, S.2.2.1.filter p, S.2.2.2) n ws sh sc ls vs :=
  ⟨h.1, h.2.1, h.2.2.1, fun y hy => h.2.2.2.1 y (List.mem_filter.mp hy).1, h.2.2.2.2⟩
theorem ck_mo.wr {t : Nat} {ws' : va_W} {N : Nat} {mem : List ck_M} (hx : ck_ex [(t, 0)] ws sh ws' sh) (h : ck_mo SG ws sh sc n N mem) : ck_mo SG ws' sh sc n N (mem.filter (fun m => !(m.1 == t))) := by
  intro z hz
  obtain ⟨hz, hf⟩ := List.mem_filter.mp hz
  rw [Bool.not_eq_true', beq_eq_false_iff_ne] at hf
  have hnw : (z.1, z.2.1) ∉ [(t, 0)] := fun w => by
    have := List.mem_singleton.mp w
    exact hf (congrArg Prod.fst this)
  rcases h z hz with q | ⟨z0, z1, q1, a1', o1', v1, z2, z3, z4, z5⟩ | hy
  · exact Or.inl q
  · obtain ⟨e', x1, x2⟩ := hx.2 q1 a1' _ z.1 z3 z2
    cases e' with
    | inl _ => exact x2.elim
    | inr oo => exact Or.inr (Or.inl ⟨z0, z1, q1, a1', oo, v1, z2, x1, by rw [x2.2 _ hnw]; exact z4, z5.mv hx⟩)
  · exact Or.inr (Or.inr (ck_mo.mv1 hx hnw hy))
theorem ck_so.wr {t : Nat} {ws' : va_W} {st : List ck_V} {vs' : List Value} (h : ck_so nL SG S n ws sh sc ls vs) (hs : ck_two (ck_vo ws sh sc n S.2.2.2.1.length) st vs') (hx : ck_ex [(t, 0)] ws sh ws' sh) : ck_so nL SG (S.1, st, S.2.2.1.filter (fun m => !(m.1 == t)), S.2.2.2) n ws' sh sc ls vs' :=
  ⟨h.1, h.2.1.mv hx, hs.imp fun _ _ z => z.mv hx, h.2.2.2.1.wr hx, h.2.2.2.2⟩
/-- a note of the signs, whose number is i - d -/
def ck_gf (F tS i : Nat) (d : Int) (S : ck_S) : Option (Nat × Nat × Nat × Nat) := S.2.2.1.findSome? (fun x => if x.1 == tS && (x.2.1 == 0 && (decide (20 ≤ x.2.2.1 ∧ x.2.2.1 < 30) && (ck_ent S.2.2.2.1 S.2.2.2.2.1 F i x.2.2.2.1 d && ck_ent S.2.2.2.1 S.2.2.2.2.1 F x.2.2.2.1 i (-d)))) then (match x.2.2.2.2 with
  | [c, o] => some (x.2.2.1, x.2.2.2.1, c, o)
  | _ => none) else none)
theorem ck_gf_ok {F tS i : Nat} {d : Int} (h : ck_so nL SG S n ws sh sc ls vs) {y : Nat × Nat × Nat × Nat} (hf : ck_gf F tS i d S = some y) (hu : ∀ t ∈ SG, ∀ q r : Nat, sh[q]? = some t → sh[r]? = some t → q = r) {q a : Nat} {e : va_E} (hq : ws[q]? = some (a, e)) (ht : sh[q]? = some tS) :
    tS ∈ SG ∧ tS ≠ 0 ∧ 20 ≤ y.1 ∧ y.1 < 30 ∧ y.2.1 < S.2.2.2.1.length ∧ y.2.2.1 < S.2.2.2.1.length ∧ y.2.2.2 < S.2.2.2.1.length ∧ (n i).1 = (n y.2.1).1 + d ∧ ∃ (cA : ClassId) (len : Nat) (f : Nat → Int32), e = .inl (cA, len, .inl f) ∧ ck_ng y.1 f (n y.2.1).1 [(n y.2.2.1).1, (n y.2.2.2).1] := by
  obtain ⟨x, hx, h1⟩ := List.exists_of_findSome?_eq_some hf
  split at h1
  · rename_i hc
    simp only [Bool.and_eq_true, beq_iff_eq, decide_eq_true_eq] at hc
    obtain ⟨c1, c2, c3, c4, c5⟩ := hc
    have p1 := ck_ent_ok h.2.2.2.2.1 h.2.2.2.2.2 F _ _ _ c4
    have p2 := ck_ent_ok h.2.2.2.2.1 h.2.2.2.2.2 F _ _ _ c5
    split at h1
    · rename_i c o hl
      have ey := Option.some.inj h1
      subst ey
      rcases h.2.2.2.1 x hx with ⟨-, -, ⟨z, -⟩ | ⟨z, -⟩⟩ | ⟨-, -, q1, a', oo, v, -, -, -, w⟩ | ⟨w0, w1, w2, w3, w4, w5, q1, a', cA, len, f, w6, w7, w8⟩
      · omega
      · omega
      · exfalso
        have w := w.2
        split at w <;> omega
      · rw [c1] at w1 w2 w6
        have eq := hu tS w2 q1 q w6 ht
        subst eq
        rw [hq] at w7
        have ee := congrArg Prod.snd (Option.some.inj w7)
        rw [hl] at w5 w8
        unfold ck_nt at w8
        rw [if_pos c3.2] at w8
        exact ⟨w2, w1, c3.1, c3.2, w4, w5 c (by simp), w5 o (by simp), by dsimp only; omega, cA, len, f, ee, w8⟩
    · cases h1
  · cases h1
/-- what a read of the sign on top says -/
def ck_G3 (tS i m c o : Nat) (s : Int) (len : Nat) (S : ck_S) (st : List ck_V) : ck_S :=
  (S.1, (0, S.2.2.2.1.length, []) :: st, (tS, 0, (21, i, [(S.2.2.2.1 ++ [(s, s)]).length, o])) :: (tS, 0, (22, m, [c, o])) :: S.2.2.1, (S.2.2.2.1 ++ [(s, s)]) ++ [(0, (len : Int))], [((S.2.2.2.1 ++ [(s, s)]).length, c, -1), (c, (S.2.2.2.1 ++ [(s, s)]).length, 1), ((S.2.2.2.1 ++ [(s, s)]).length, i, 0), (0, (S.2.2.2.1 ++ [(s, s)]).length, 0), (o, i, 0)] ++ S.2.2.2.2.1, S.2.2.2.2.2)
def ck_G40 (tS i m c o : Nat) (len : Nat) (S : ck_S) (st : List ck_V) : ck_S :=
  (S.1, (0, S.2.2.2.1.length, []) :: st, (tS, 0, (20, i, [c, (S.2.2.2.1 ++ [((40 : Int), (40 : Int))]).length])) :: (tS, 0, (21, m, [c, o])) :: S.2.2.1, (S.2.2.2.1 ++ [((40 : Int), (40 : Int))]) ++ [(0, (len : Int))], [((S.2.2.2.1 ++ [((40 : Int), (40 : Int))]).length, o, -1), (o, (S.2.2.2.1 ++ [((40 : Int), (40 : Int))]).length, 1), ((S.2.2.2.1 ++ [((40 : Int), (40 : Int))]).length, i, 0), (0, (S.2.2.2.1 ++ [((40 : Int), (40 : Int))]).length, 0), (c, i, 0)] ++ S.2.2.2.2.1, S.2.2.2.2.2)
def ck_G45 (tS i c o : Nat) (S : ck_S) (st : List ck_V) : ck_S :=
  (S.1, (0, S.2.2.2.1.length, []) :: st, (tS, 0, (20, i, [c, o])) :: S.2.2.1, S.2.2.2.1 ++ [(45, 45)], [(c, i, 0), (o, i, 0)] ++ S.2.2.2.2.1, S.2.2.2.2.2)
def ck_sGl (F tS len : Nat) (S : ck_S) : Option (List ck_S) := match S.2.1 with
  | i :: r :: st => if i.1 = 0 ∧ r.1 = 2 ∧ r.2.2 = [tS] ∧ ck_ent S.2.2.2.1 S.2.2.2.2.1 F 0 i.2.1 0 = true ∧ ck_ent S.2.2.2.1 S.2.2.2.2.1 F i.2.1 0 ((len : Int) - 1) = true then (match ck_gf F tS i.2.1 (-1) S with
    | some (tag, m, c, o) => some ([ck_G3 tS i.2.1 m c o 38 len S st, ck_G3 tS i.2.1 m c o 62 len S st, ck_G3 tS i.2.1 m c o 124 len S st] ++ ((if tag < 22 then [ck_G40 tS i.2.1 m c o len S st] else []) ++ (if tag < 21 then [ck_G45 tS i.2.1 c o S st] else [])))
    | none => none) else none
  | _ => none
theorem ck_cn_s (p : Int32 → Bool) (f : Nat → Int32) (k : Nat) : ck_cn p f (k + 1) = ck_cn p f k + if p (f k) = true then 1 else 0 := rfl
theorem ck_cn_le (p : Int32 → Bool) (f : Nat → Int32) : ∀ k, ck_cn p f k ≤ k
  | 0 => Nat.le_refl _
  | k + 1 => by
    have := ck_cn_le p f k
    unfold ck_cn
    split <;> omega
end
section
variable {p : Program} {l : Launch} {e : Env} {R : Room} {s : State} {m : MethodId} {args : Array Value} {below : List Frame} {meth : Method} {c : Code} {Q : State → Prop} {cc : ByteArray} {own : String} {D : va_G} {cl : List vw_C} {tys : List (ClassId × FieldType)} {M : ck_Me} {sc : ck_sc} {A : Nat → Prop} {ws0 : va_W} {sh0 : List Nat} {S : ck_S} {pc : Nat}
theorem ck_sGl_ok (X : ck_cx p l e R s m args below meth c cc own D cl tys M sc A) {F tS len k0 : Nat} {Ts : List ck_T} (hTT : (mTT M)[tS]? = some (1, len, k0, Ts)) {L : List ck_S} (h : ck_sGl F tS len S = some L) (hk : ∀ S' ∈ L, ck_g p l e R s m args below meth c Q D cl tys M sc A ws0 sh0 S' (pc + 1)) (hdg : decode cc pc = .ok (.iaload, 1)) : ck_g p l e R s m args below meth c Q D cl tys M sc A ws0 sh0 S pc := by
  intro n ws sh H locs ls vs o hw hx hP hD hS
  unfold ck_sGl at h
  split at h
  · rename_i i r st hst
    split at h
    · rename_i hc
      obtain ⟨hi0, hr2, hrt, hb1, hb2⟩ := hc
      split at h
      · rename_i tag m' c' o' hf
        have eL := Option.some.inj h
        have o3 := o.2.2.1
        rw [hst] at o3
        obtain ⟨iv, vs1, rfl, h2, h3⟩ := ck_hd o3
        obtain ⟨ra, vs2, rfl, h4, h5⟩ := ck_hd h3
        obtain ⟨hil, x, rfl, ex⟩ := h2.i hi0
        obtain ⟨-, -, q, a, e0, t, rfl, hq, ht, htm⟩ := h4.r hr2
        rw [hrt] at htm
        rw [List.mem_singleton.mp htm] at ht
        obtain ⟨g1, g2, g3, g4, g5, g6, g7, g8, cA, len1, f, rfl, hng⟩ := ck_gf_ok o hf hw.2.2 hq ht
        dsimp only at g3 g4 g5 g6 g7 g8 hng
        obtain ⟨td, d1, d2⟩ := hw.2.1 q a _ tS hq ht
        have etd : td = (1, len, k0, Ts) := Option.some.inj (d1.symm.trans hTT)
        subst etd
        obtain ⟨cA', f', t1, e1, -⟩ := d2
        cases e1
        have p1 := ck_ent_ok o.2.2.2.2.1 o.2.2.2.2.2 F _ _ _ hb1
        have p2 := ck_ent_ok o.2.2.2.2.1 o.2.2.2.2.2 F _ _ _ hb2
        rw [o.1.2] at p1 p2
        have p3 : 0 ≤ (n i.2.1).1 := by omega
        have hxn : x.toNatClampNeg = (n i.2.1).1.toNat := by show x.toInt.toNat = _; rw [ex]
        have hin : vp_in x len := by
          rintro (z | z)
          · have := Int32.lt_iff_toInt_lt.mp z
            rw [Int32.toInt_zero] at this
            omega
          · rw [hxn] at z
            omega
        obtain ⟨k, hkm⟩ : ∃ k, (n m').1.toNat = k + 1 := ⟨(n i.2.1).1.toNat, by omega⟩
        have hki : (n i.2.1).1.toNat = k := by omega
        unfold ck_ng at hng
        rw [hkm] at hng
        obtain ⟨n1, n2, n3, n4, n5, n6, n7⟩ := hng
        rw [Nat.add_sub_cancel] at n6 n7
        have n4' : ∀ j, j < k → ck_b3 (f j) = true ∨ f j = 40 ∨ f j = 45 := fun j hj => n4 j (by omega)
        have n5' : ∀ j, j + 1 < k → f j = 45 → f (j + 1) = 45 ∨ f (j + 1) = 40 := fun j hj => n5 j (by omega)
        refine va_iald X.1 X.2.1 X.2.2.2.1 hP q _ hq t1 hin hdg ?_
        rw [hxn, hki]
        have hN1 : ∀ z : Int × Int, (S.2.2.2.1 ++ [z]).length = S.2.2.2.1.length + 1 := fun z => by simp
        -- the two numbers that are new
        have fin : ∀ (sv : Int) (w : Nat) (hwl : w < S.2.2.2.1.length) (u : Nat) (hul : u < S.2.2.2.1.length) (hu : (n u).1 ≤ (k : Int)) (S' : ck_S) (notes : List ck_M), S' ∈ L → (f k).toInt = sv → 1 ≤ (n w).1 → (n w).1 ≤ (k : Int) + 1 →
            S' = (S.1, (0, S.2.2.2.1.length, []) :: st, notes ++ S.2.2.1, (S.2.2.2.1 ++ [(sv, sv)]) ++ [(0, (len : Int))], [((S.2.2.2.1 ++ [(sv, sv)]).length, w, -1), (w, (S.2.2.2.1 ++ [(sv, sv)]).length, 1), ((S.2.2.2.1 ++ [(sv, sv)]).length, i.2.1, 0), (0, (S.2.2.2.1 ++ [(sv, sv)]).length, 0), (u, i.2.1, 0)] ++ S.2.2.2.2.1, S.2.2.2.2.2) →
            (∀ n2 : ck_N, (∀ j, j < S.2.2.2.1.length → n2 j = n j) → (n2 (S.2.2.2.1 ++ [(sv, sv)]).length).1 = (n w).1 - 1 → ∀ y ∈ notes, ck_tn (mSG M) ws sh n2 ((S.2.2.2.1 ++ [(sv, sv)]) ++ [(0, (len : Int))]).length y) →
            W p l e R s m args below meth c H locs (ck_oc R M + S.2.2.2.2.2.1) (ck_os R M + S.2.2.2.2.2.2) Q (F0 m (pc + 1) ls (.int (f k) :: vs2)) := by
          intro sv w hwl u hul hu S' notes hS' hfv hw1 hw2 eS hnotes
          have o1 := o.new h5 (tag := 0) (ts := []) (iv := (sv, sv)) (rs := []) (x := ((f k).toInt, .null)) (v := .int (f k)) (.mi (Nat.lt_succ_self _) (by rw [ck_nx_eq])) (fun _ => by rw [hfv]; exact ⟨Int.le_refl _, Int.le_refl _⟩) (fun r hr => by cases hr)
          have hlt : ∀ j, j < S.2.2.2.1.length → ck_nx (ck_nx n S.2.2.2.1.length ((f k).toInt, .null)) (S.2.2.2.1 ++ [(sv, sv)]).length ((n w).1 - 1, .null) j = n j := fun j hj => by
            rw [ck_nx_lt j (by rw [hN1]; omega), ck_nx_lt j hj]
          have o2 := ck_so.sym (iv := (0, (len : Int))) (rs := [((S.2.2.2.1 ++ [(sv, sv)]).length, w, -1), (w, (S.2.2.2.1 ++ [(sv, sv)]).length, 1), ((S.2.2.2.1 ++ [(sv, sv)]).length, i.2.1, 0), (0, (S.2.2.2.1 ++ [(sv, sv)]).length, 0), (u, i.2.1, 0)]) (z := (n w).1 - 1) o1 (fun _ => ⟨by omega, by omega⟩) (by
            intro r hr
            show r.1 < (S.2.2.2.1 ++ [(sv, sv)]).length + 1 ∧ r.2.1 < (S.2.2.2.1 ++ [(sv, sv)]).length + 1 ∧ (ck_nx (ck_nx n S.2.2.2.1.length ((f k).toInt, .null)) (S.2.2.2.1 ++ [(sv, sv)]).length ((n w).1 - 1, .null) r.1).1 ≤ (ck_nx (ck_nx n S.2.2.2.1.length ((f k).toInt, .null)) (S.2.2.2.1 ++ [(sv, sv)]).length ((n w).1 - 1, .null) r.2.1).1 + r.2.2
            simp only [List.mem_cons, List.not_mem_nil, or_false] at hr
            rcases hr with rfl | rfl | rfl | rfl | rfl
            · refine ⟨Nat.lt_succ_self _, by rw [hN1]; dsimp only; omega, ?_⟩
              dsimp only
              rw [ck_nx_eq, hlt w hwl]
              dsimp only
              omega
            · refine ⟨by rw [hN1]; dsimp only; omega, Nat.lt_succ_self _, ?_⟩
              dsimp only
              rw [ck_nx_eq, hlt w hwl]
              dsimp only
              omega
            · refine ⟨Nat.lt_succ_self _, by rw [hN1]; dsimp only; omega, ?_⟩
              dsimp only
              rw [ck_nx_eq, hlt _ hil]
              dsimp only
              omega
            · refine ⟨by rw [hN1]; dsimp only; omega, Nat.lt_succ_self _, ?_⟩
              dsimp only
              rw [ck_nx_eq, hlt 0 o.1.1, o.1.2]
              dsimp only
              omega
            · refine ⟨by rw [hN1]; dsimp only; omega, by rw [hN1]; dsimp only; omega, ?_⟩
              dsimp only
              rw [hlt _ hul, hlt _ hil]
              omega)
          have o3' : ck_so (mnL M) (mSG M) S' (ck_nx (ck_nx n S.2.2.2.1.length ((f k).toInt, .null)) (S.2.2.2.1 ++ [(sv, sv)]).length ((n w).1 - 1, .null)) ws sh sc ls (.int (f k) :: vs2) := by
            rw [eS]
            refine ⟨o2.1, o2.2.1, o2.2.2.1, fun y hy => ?_, o2.2.2.2.2⟩
            rcases List.mem_append.mp hy with hy | hy
            · exact Or.inr (Or.inr (hnotes _ hlt (by rw [ck_nx_eq]) y hy))
            · exact o2.2.2.2.1 y hy
          exact (hk S' hS').at o3' hw hx hP hD hS (by rw [eS])
        have hlen2 : ∀ z : Int × Int, ((S.2.2.2.1 ++ [z]) ++ [(0, (len : Int))]).length = S.2.2.2.1.length + 2 := fun z => by simp
        rcases n4 k (Nat.lt_succ_self _) with hb | hb | hb
        · -- takes two values
          have hc1 : (n c').1 = (ck_cn ck_b3 f k : Int) + 1 := by
            rw [n2, ck_cn_s, if_pos hb]
            rfl
          have h40 : (f k == 40) = false := by
            cases h40 : (f k == 40) with
            | false => rfl
            | true =>
              rw [eq_of_beq h40] at hb
              exact absurd hb (by decide)
          have ho1 : (n o').1 = (ck_cn (fun x => x == 40) f k : Int) := by
            rw [n3, ck_cn_s, h40]
            simp
          have hle := ck_cn_le ck_b3 f k
          have hle2 := ck_cn_le (fun x => x == 40) f k
          have go : ∀ sv : Int, (f k).toInt = sv → ck_G3 tS i.2.1 m' c' o' sv len S st ∈ L → W p l e R s m args below meth c H locs (ck_oc R M + S.2.2.2.2.2.1) (ck_os R M + S.2.2.2.2.2.2) Q (F0 m (pc + 1) ls (.int (f k) :: vs2)) := by
            intro sv hsv hmem
            refine fin sv c' g6 o' g7 (by omega) _ [(tS, 0, (21, i.2.1, [(S.2.2.2.1 ++ [(sv, sv)]).length, o'])), (tS, 0, (22, m', [c', o']))] hmem hsv (by omega) (by omega) rfl ?_
            intro n2' e1 e2 y hy
            simp only [List.mem_cons, List.not_mem_nil, or_false] at hy
            rcases hy with rfl | rfl
            · refine ⟨by dsimp only; omega, g2, g1, rfl, by rw [hlen2]; dsimp only; omega, fun j hj => ?_, q, a, cA, len, f, ht, hq, ?_⟩
              · simp only [List.mem_cons, List.not_mem_nil, or_false] at hj
                rcases hj with rfl | rfl
                · rw [hlen2, hN1]; omega
                · rw [hlen2]; omega
              · dsimp only [List.map]
                unfold ck_nt
                rw [if_pos (by decide), e1 _ hil, e2, e1 _ g7]
                refine ⟨p3, by rw [hki]; omega, by rw [hki]; exact ho1, by rw [hki]; exact n4', by rw [hki]; exact n5', fun _ hpos he => ?_, fun z => absurd z (by decide)⟩
                rw [hki] at hpos he
                have := n5 (k - 1) (by omega) he
                rw [show k - 1 + 1 = k by omega] at this
                rcases this with z | z
                · rw [z] at hb; exact absurd hb (by decide)
                · rw [z] at hb; exact absurd hb (by decide)
            · refine ⟨by dsimp only; omega, g2, g1, rfl, by rw [hlen2]; dsimp only; omega, fun j hj => ?_, q, a, cA, len, f, ht, hq, ?_⟩
              · simp only [List.mem_cons, List.not_mem_nil, or_false] at hj
                rcases hj with rfl | rfl
                · rw [hlen2]; omega
                · rw [hlen2]; omega
              · dsimp only [List.map]
                unfold ck_nt
                rw [if_pos (by decide), e1 _ g5, e1 _ g6, e1 _ g7]
                refine ⟨n1, by rw [hkm]; exact n2, by rw [hkm]; exact n3, by rw [hkm]; exact n4, by rw [hkm]; exact n5, fun _ _ he => ?_, fun _ => ⟨by omega, by rw [hkm]; exact hb⟩⟩
                rw [hkm, Nat.add_sub_cancel] at he
                rw [he] at hb
                exact absurd hb (by decide)
          have hb3 := hb
          unfold ck_b3 at hb3
          rw [Bool.or_eq_true, Bool.or_eq_true] at hb3
          rcases hb3 with z | z | z
          · exact go 38 (by rw [eq_of_beq z]; rfl) (by rw [← eL]; simp)
          · exact go 62 (by rw [eq_of_beq z]; rfl) (by rw [← eL]; simp)
          · exact go 124 (by rw [eq_of_beq z]; rfl) (by rw [← eL]; simp)
        · -- an open bracket
          have hnb : ck_b3 (f k) = false := by rw [hb]; decide
          have hc1 : (n c').1 = (ck_cn ck_b3 f k : Int) := by
            rw [n2, ck_cn_s, hnb]
            simp
          have ho1 : (n o').1 = (ck_cn (fun x => x == 40) f k : Int) + 1 := by
            rw [n3, ck_cn_s, hb]
            rfl
          have hle := ck_cn_le (fun x => x == 40) f k
          have htag : tag < 22 := by
            rcases Nat.lt_or_ge tag 22 with z | z
            · exact z
            · have := (n7 z).2
              rw [hnb] at this
              cases this
          refine fin 40 o' g7 c' g6 (by have := ck_cn_le ck_b3 f k; omega) (ck_G40 tS i.2.1 m' c' o' len S st) [(tS, 0, (20, i.2.1, [c', (S.2.2.2.1 ++ [((40 : Int), (40 : Int))]).length])), (tS, 0, (21, m', [c', o']))] (by rw [← eL, if_pos htag]; simp) (by rw [hb]; rfl) (by omega) (by omega) rfl ?_
          intro n2' e1 e2 y hy
          simp only [List.mem_cons, List.not_mem_nil, or_false] at hy
          rcases hy with rfl | rfl
          · refine ⟨by dsimp only; omega, g2, g1, rfl, by rw [hlen2]; dsimp only; omega, fun j hj => ?_, q, a, cA, len, f, ht, hq, ?_⟩
            · simp only [List.mem_cons, List.not_mem_nil, or_false] at hj
              rcases hj with rfl | rfl
              · rw [hlen2]; omega
              · rw [hlen2, hN1]; omega
            · dsimp only [List.map]
              unfold ck_nt
              rw [if_pos (by decide), e1 _ hil, e2, e1 _ g6]
              exact ⟨p3, by rw [hki]; exact hc1, by rw [hki]; omega, by rw [hki]; exact n4', by rw [hki]; exact n5', fun z => absurd z (by decide), fun z => absurd z (by decide)⟩
          · refine ⟨by dsimp only; omega, g2, g1, rfl, by rw [hlen2]; dsimp only; omega, fun j hj => ?_, q, a, cA, len, f, ht, hq, ?_⟩
            · simp only [List.mem_cons, List.not_mem_nil, or_false] at hj
              rcases hj with rfl | rfl
              · rw [hlen2]; omega
              · rw [hlen2]; omega
            · dsimp only [List.map]
              unfold ck_nt
              rw [if_pos (by decide), e1 _ g5, e1 _ g6, e1 _ g7]
              refine ⟨n1, by rw [hkm]; exact n2, by rw [hkm]; exact n3, by rw [hkm]; exact n4, by rw [hkm]; exact n5, fun _ _ he => ?_, fun z => absurd z (by decide)⟩
              rw [hkm, Nat.add_sub_cancel, hb] at he
              exact absurd he (by decide)
        · -- a turn
          have hnb : ck_b3 (f k) = false := by rw [hb]; decide
          have hc1 : (n c').1 = (ck_cn ck_b3 f k : Int) := by
            rw [n2, ck_cn_s, hnb]
            simp
          have ho1 : (n o').1 = (ck_cn (fun x => x == 40) f k : Int) := by
            rw [n3, ck_cn_s, hb]
            rfl
          have htag : tag < 21 := by
            rcases Nat.lt_or_ge tag 21 with z | z
            · exact z
            · exact absurd hb (n6 z (Nat.succ_pos _))
          have o1 := o.new h5 (tag := 0) (ts := []) (iv := (45, 45)) (rs := [(c', i.2.1, 0), (o', i.2.1, 0)]) (x := ((f k).toInt, .null)) (v := .int (f k)) (.mi (Nat.lt_succ_self _) (by rw [ck_nx_eq])) (fun _ => by rw [hb]; exact ⟨Int.le_refl _, Int.le_refl _⟩) (fun r hr => by
            have hle := ck_cn_le ck_b3 f k
            have hle2 := ck_cn_le (fun x => x == 40) f k
            simp only [List.mem_cons, List.not_mem_nil, or_false] at hr
            rcases hr with rfl | rfl
            · refine ⟨by dsimp only; omega, by dsimp only; omega, ?_⟩
              dsimp only
              rw [ck_nx_lt _ g6, ck_nx_lt _ hil]
              omega
            · refine ⟨by dsimp only; omega, by dsimp only; omega, ?_⟩
              dsimp only
              rw [ck_nx_lt _ g7, ck_nx_lt _ hil]
              omega)
          have o2 : ck_so (mnL M) (mSG M) (ck_G45 tS i.2.1 c' o' S st) _ ws sh sc ls (.int (f k) :: vs2) := ck_so.nt (x := (tS, 0, (20, i.2.1, [c', o']))) o1 (by
            show ck_tn (mSG M) ws sh _ (S.2.2.2.1 ++ [((45 : Int), (45 : Int))]).length _
            refine ⟨by dsimp only; omega, g2, g1, rfl, by rw [hN1]; dsimp only; omega, fun j hj => ?_, q, a, cA, len, f, ht, hq, ?_⟩
            · simp only [List.mem_cons, List.not_mem_nil, or_false] at hj
              rcases hj with rfl | rfl
              · rw [hN1]; omega
              · rw [hN1]; omega
            · dsimp only [List.map]
              unfold ck_nt
              rw [if_pos (by decide), ck_nx_lt _ hil, ck_nx_lt _ g6, ck_nx_lt _ g7]
              exact ⟨p3, by rw [hki]; exact hc1, by rw [hki]; exact ho1, by rw [hki]; exact n4', by rw [hki]; exact n5', fun z => absurd z (by decide), fun z => absurd z (by decide)⟩)
          exact (hk _ (by rw [← eL, if_pos htag]; simp)).at o2 hw hx hP hD hS rfl
      · cases h
    · cases h
  · cases h
end
end
section
/-! a write of a sign; the beginning: no signs -/
def ck_sGs (F tS len : Nat) (S : ck_S) : Option (List ck_S) := match S.2.1 with
  | v :: i :: r :: st => if v.1 = 0 ∧ i.1 = 0 ∧ r.1 = 2 ∧ r.2.2 = [tS] ∧ ck_ent S.2.2.2.1 S.2.2.2.2.1 F i.2.1 0 ((len : Int) - 1) = true then (match ck_gf F tS i.2.1 0 S, S.2.2.2.1[v.2.1]? with
    | some (tag, _, c, o), some iv => if iv.1 = iv.2 then (
        if iv.1 = 38 ∨ iv.1 = 62 ∨ iv.1 = 124 then (if 21 ≤ tag then some [(S.1, st, (tS, 0, (21, S.2.2.2.1.length, [(S.2.2.2.1 ++ [(1, (len : Int))]).length, o])) :: S.2.2.1.filter (fun m => !(m.1 == tS)), (S.2.2.2.1 ++ [(1, (len : Int))]) ++ [(1, (len : Int))],
          [((S.2.2.2.1 ++ [(1, (len : Int))]).length, c, 1), (c, (S.2.2.2.1 ++ [(1, (len : Int))]).length, -1)] ++ ([(S.2.2.2.1.length, i.2.1, 1), (i.2.1, S.2.2.2.1.length, -1)] ++ S.2.2.2.2.1), S.2.2.2.2.2)] else none)
        else if iv.1 = 40 then some [(S.1, st, (tS, 0, (21, S.2.2.2.1.length, [c, (S.2.2.2.1 ++ [(1, (len : Int))]).length])) :: S.2.2.1.filter (fun m => !(m.1 == tS)), (S.2.2.2.1 ++ [(1, (len : Int))]) ++ [(1, (len : Int))],
          [((S.2.2.2.1 ++ [(1, (len : Int))]).length, o, 1), (o, (S.2.2.2.1 ++ [(1, (len : Int))]).length, -1)] ++ ([(S.2.2.2.1.length, i.2.1, 1), (i.2.1, S.2.2.2.1.length, -1)] ++ S.2.2.2.2.1), S.2.2.2.2.2)]
        else if iv.1 = 45 then some [(S.1, st, (tS, 0, (20, S.2.2.2.1.length, [c, o])) :: S.2.2.1.filter (fun m => !(m.1 == tS)), S.2.2.2.1 ++ [(1, (len : Int))], [(S.2.2.2.1.length, i.2.1, 1), (i.2.1, S.2.2.2.1.length, -1)] ++ S.2.2.2.2.1, S.2.2.2.2.2)]
        else none) else none
    | _, _ => none) else none
  | _ => none
theorem ck_cn_upd {p : Int32 → Bool} {f : Nat → Int32} {k : Nat} {v : Int32} : ∀ {j : Nat}, j ≤ k → ck_cn p (upd f k v) j = ck_cn p f j
  | 0, _ => rfl
  | j + 1, h => by
    rw [ck_cn_s, ck_cn_s, ck_cn_upd (Nat.le_of_succ_le h)]
    have e : upd f k v j = f j := by
      unfold upd
      rw [if_neg (by omega)]
    rw [e]
theorem ck_up_eq {f : Nat → Int32} {k : Nat} {v : Int32} : upd f k v k = v := if_pos rfl
theorem ck_up_ne {f : Nat → Int32} {k j : Nat} {v : Int32} (h : j ≠ k) : upd f k v j = f j := if_neg h
/-- a sign more -/
theorem ck_ng_push {tag : Nat} {f : Nat → Int32} {m c o : Int} {k : Nat} (hk : m.toNat = k) (h : ck_ng tag f m [c, o]) (v : Int32) {tag' : Nat} (hv : ck_b3 v = true ∨ v = 40 ∨ v = 45) (h1 : ck_b3 v = true → 21 ≤ tag) (h2 : 21 ≤ tag' → v ≠ 45) (h3 : tag' < 22) :
    ck_ng tag' (upd f k v) (m + 1) [c + (if ck_b3 v = true then 1 else 0), o + (if v = 40 then 1 else 0)] := by
  unfold ck_ng at h ⊢
  obtain ⟨n1, n2, n3, n4, n5, n6, n7⟩ := h
  have hk1 : (m + 1).toNat = k + 1 := by omega
  rw [hk] at n2 n3 n4 n5 n6 n7
  rw [hk1]
  refine ⟨by omega, ?_, ?_, fun j hj => ?_, fun j hj he => ?_, fun ht _ => ?_, fun ht => by omega⟩
  · rw [ck_cn_s, ck_cn_upd (Nat.le_refl _), ck_up_eq, n2]
    split <;> simp
  · rw [ck_cn_s, ck_cn_upd (Nat.le_refl _), ck_up_eq, n3]
    by_cases e : v = 40
    · rw [if_pos e, if_pos (by rw [e]; rfl)]
      simp
    · rw [if_neg e, if_neg (by simpa using e)]
      simp
  · by_cases e : j = k
    · rw [e, ck_up_eq]
      exact hv
    · rw [ck_up_ne e]
      exact n4 j (by omega)
  · rw [ck_up_ne (show j ≠ k by omega)] at he
    by_cases e : j + 1 = k
    · rw [e, ck_up_eq]
      rcases hv with z | z | z
      · have := n6 (h1 z) (by omega)
        rw [show k - 1 = j by omega] at this
        exact absurd he this
      · exact Or.inr z
      · exact Or.inl z
    · rw [ck_up_ne e]
      exact n5 j (by omega) he
  · rw [Nat.add_sub_cancel, ck_up_eq]
    exact h2 ht
section
variable {p : Program} {l : Launch} {e : Env} {R : Room} {s : State} {m : MethodId} {args : Array Value} {below : List Frame} {meth : Method} {c : Code} {Q : State → Prop} {cc : ByteArray} {own : String} {D : va_G} {cl : List vw_C} {tys : List (ClassId × FieldType)} {M : ck_Me} {sc : ck_sc} {A : Nat → Prop} {ws0 : va_W} {sh0 : List Nat} {S : ck_S} {pc : Nat}
/-- a write of an array of ints: the world behind it -/
theorem ck_ist (X : ck_cx p l e R s m args below meth c cc own D cl tys M sc A) {t len k0 : Nat} {T : ck_T} (hTT : (mTT M)[t]? = some (1, len, k0, [T])) (hW : (t, 0) ∈ mWr M) {ws : va_W} {sh : List Nat} {H : Heap} {locs : List Loc} {ls : Array Slot} {vs : List Value} {cells slots : Nat}
    (hw : ck_wo tys (mTT M) (mSG M) ws sh) (hx : ck_ex (mWr M) ws0 sh0 ws sh) (hP : va_P D cl ws H) (hD : va_D A ws) (hS : va_S A s.heap H locs) {q a : Nat} {e0 : va_E} (hq : ws[q]? = some (a, e0)) (ht : sh[q]? = some t) {x v : Int32} (hx0 : 0 ≤ x.toInt) (hx1 : x.toInt < len) (hv : T.2.1 ≤ v.toInt ∧ v.toInt ≤ T.2.2.1) (hdg : decode cc pc = .ok (.iastore, 1))
    (kk : ∀ (cA : ClassId) (f : Nat → Int32) (H1 : Heap) (locs1 : List Loc), e0 = .inl (cA, len, .inl f) → ck_ex [(t, 0)] ws sh (ws.set q (a, .inl (cA, len, .inl (upd f x.toInt.toNat v)))) sh → ck_wo tys (mTT M) (mSG M) (ws.set q (a, .inl (cA, len, .inl (upd f x.toInt.toNat v)))) sh → ck_ex (mWr M) ws0 sh0 (ws.set q (a, .inl (cA, len, .inl (upd f x.toInt.toNat v)))) sh →
      va_P D cl (ws.set q (a, .inl (cA, len, .inl (upd f x.toInt.toNat v)))) H1 → va_D A (ws.set q (a, .inl (cA, len, .inl (upd f x.toInt.toNat v)))) → va_S A s.heap H1 locs1 → (ws.set q (a, .inl (cA, len, .inl (upd f x.toInt.toNat v))))[q]? = some (a, .inl (cA, len, .inl (upd f x.toInt.toNat v))) → W p l e R s m args below meth c H1 locs1 cells slots Q (F0 m (pc + 1) ls vs)) :
    W p l e R s m args below meth c H locs cells slots Q (F0 m pc ls (.int v :: .int x :: .ref a :: vs)) := by
  obtain ⟨td, d1, d2⟩ := hw.2.1 q a _ t hq ht
  have etd : td = (1, len, k0, [T]) := Option.some.inj (d1.symm.trans hTT)
  subst etd
  obtain ⟨cA, f, t1, rfl, t3⟩ := d2
  have hin : vp_in x len := by
    rintro (z | z)
    · have := Int32.lt_iff_toInt_lt.mp z
      rw [Int32.toInt_zero] at this
      omega
    · have : x.toNatClampNeg = x.toInt.toNat := rfl
      omega
  refine va_iast X.1 X.2.1 X.2.2.2.1 hP hD hS q k0 hq t1 hin hdg (fun H1 locs1 hP1 hD1 hS1 => ?_)
  have hco : ck_co tys ws sh (1, len, k0, [T]) (.inl (cA, len, .inl (upd f x.toInt.toNat v))) := by
    refine ⟨cA, _, t1, rfl, fun T' hT' => ?_⟩
    have eT : T = T' := Option.some.inj hT'
    subst eT
    obtain ⟨u1, u2⟩ := t3 T rfl
    refine ⟨u1, fun j hj => ?_⟩
    unfold upd
    split
    · exact hv
    · exact u2 j hj
  obtain ⟨w1, w2⟩ := ck_wo_set (Wr := [(t, 0)]) (e' := .inl (cA, len, .inl (upd f x.toInt.toNat v))) hw hq ht (fun z => absurd (List.mem_singleton.mpr rfl) z) d1 hco
  exact kk cA f H1 locs1 rfl w2 w1 (hx.tr (fun z hz => by rw [List.mem_singleton.mp hz]; exact hW) w2) hP1 hD1 hS1 (List.getElem?_set_self (List.getElem?_eq_some_iff.mp hq).1)
theorem ck_sGs_ok (X : ck_cx p l e R s m args below meth c cc own D cl tys M sc A) {F tS len k0 : Nat} {lo hi : Int} {ts : List Nat} (hTT : (mTT M)[tS]? = some (1, len, k0, [(0, lo, hi, ts)])) (hT1 : lo ≤ 38) (hT2 : 124 ≤ hi) (hW : (tS, 0) ∈ mWr M) {L : List ck_S} (h : ck_sGs F tS len S = some L) (hk : ∀ S' ∈ L, ck_g p l e R s m args below meth c Q D cl tys M sc A ws0 sh0 S' (pc + 1)) (hdg : decode cc pc = .ok (.iastore, 1)) : ck_g p l e R s m args below meth c Q D cl tys M sc A ws0 sh0 S pc := by
  intro n ws sh H locs ls vs o hw hx hP hD hS
  unfold ck_sGs at h
  split at h
  · rename_i v i r st hst
    split at h
    · rename_i hc
      obtain ⟨hv0, hi0, hr2, hrt, hb2⟩ := hc
      split at h
      · rename_i tag m' c' o' iv hf hiv
        have o3 := o.2.2.1
        rw [hst] at o3
        obtain ⟨vv, vs0, rfl, h1, h1'⟩ := ck_hd o3
        obtain ⟨iv', vs1, rfl, h2, h3⟩ := ck_hd h1'
        obtain ⟨ra, vs2, rfl, h4, h5⟩ := ck_hd h3
        obtain ⟨hvl, v0, rfl, ev⟩ := h1.i hv0
        obtain ⟨hil, x, rfl, ex⟩ := h2.i hi0
        obtain ⟨-, -, q, a, e0, t, rfl, hq, ht, htm⟩ := h4.r hr2
        rw [hrt] at htm
        rw [List.mem_singleton.mp htm] at ht
        obtain ⟨g1, g2, g3, g4, g5, g6, g7, g8, cA, len1, f, rfl, hng⟩ := ck_gf_ok o hf hw.2.2 hq ht
        dsimp only at g3 g4 g5 g6 g7 g8 hng
        have p2 := ck_ent_ok o.2.2.2.2.1 o.2.2.2.2.2 F _ _ _ hb2
        rw [o.1.2] at p2
        have p3 : 0 ≤ (n m').1 := by
          unfold ck_ng at hng
          exact hng.1
        split at h
        · rename_i hcc
          have E := o.2.2.2.2.1 _ _ hiv (by omega)
          have hvv : v0.toInt = iv.1 := by omega
          have hkn : (n m').1.toNat = x.toInt.toNat := by omega
          have e9 : (n i.2.1).1 + 1 = (n m').1 + 1 := by omega
          -- what all three ways share
          have com : ∀ (ivs : Int), iv.1 = ivs → lo ≤ ivs → ivs ≤ hi → (∀ (cA' : ClassId) (ws' : va_W) (H1 : Heap) (locs1 : List Loc), ck_so (mnL M) (mSG M) (S.1, st, S.2.2.1.filter (fun m => !(m.1 == tS)), S.2.2.2.1 ++ [(1, (len : Int))], [(S.2.2.2.1.length, i.2.1, 1), (i.2.1, S.2.2.2.1.length, -1)] ++ S.2.2.2.2.1, S.2.2.2.2.2) (ck_nx n S.2.2.2.1.length ((n m').1 + 1, .null)) ws' sh sc ls vs2 →
              ws'[q]? = some (a, .inl (cA', len, .inl (upd f x.toInt.toNat v0))) → ck_wo tys (mTT M) (mSG M) ws' sh → ck_ex (mWr M) ws0 sh0 ws' sh → va_P D cl ws' H1 → va_D A ws' → va_S A s.heap H1 locs1 → W p l e R s m args below meth c H1 locs1 (ck_oc R M + S.2.2.2.2.2.1) (ck_os R M + S.2.2.2.2.2.2) Q (F0 m (pc + 1) ls vs2)) →
              W p l e R s m args below meth c H locs (ck_oc R M + S.2.2.2.2.2.1) (ck_os R M + S.2.2.2.2.2.2) Q (F0 m pc ls (.int v0 :: .int x :: .ref a :: vs2)) := by
            intro ivs hivs l1 l2 kk
            refine ck_ist X hTT hW hw hx hP hD hS hq ht (by omega) (by omega) ⟨by rw [hvv, hivs]; exact l1, by rw [hvv, hivs]; exact l2⟩ hdg (fun cA' f' H1 locs1 ee w1 w2 w3 hP1 hD1 hS1 hq' => ?_)
            have eff : f = f' := by cases ee; rfl
            subst eff
            refine kk cA' _ H1 locs1 ?_ hq' w2 w3 hP1 hD1 hS1
            have o1 := o.wr h5 w1
            refine ck_so.sym (iv := (1, (len : Int))) (rs := [(S.2.2.2.1.length, i.2.1, 1), (i.2.1, S.2.2.2.1.length, -1)]) (z := (n m').1 + 1) o1 (fun _ => ⟨by omega, by omega⟩) (fun r hr => ?_)
            show r.1 < S.2.2.2.1.length + 1 ∧ r.2.1 < S.2.2.2.1.length + 1 ∧ (ck_nx n S.2.2.2.1.length ((n m').1 + 1, .null) r.1).1 ≤ (ck_nx n S.2.2.2.1.length ((n m').1 + 1, .null) r.2.1).1 + r.2.2
            simp only [List.mem_cons, List.not_mem_nil, or_false] at hr
            rcases hr with rfl | rfl
            · refine ⟨Nat.lt_succ_self _, Nat.lt_succ_of_lt hil, ?_⟩
              dsimp only
              rw [ck_nx_eq, ck_nx_lt _ hil]
              dsimp only
              omega
            · refine ⟨Nat.lt_succ_of_lt hil, Nat.lt_succ_self _, ?_⟩
              dsimp only
              rw [ck_nx_eq, ck_nx_lt _ hil]
              dsimp only
              omega
          have hN1 : (S.2.2.2.1 ++ [(1, (len : Int))]).length = S.2.2.2.1.length + 1 := by simp
          -- one number more
          have two : ∀ (w : Nat) (S' : ck_S) (note : ck_M) (ivs : Int), w < S.2.2.2.1.length → iv.1 = ivs → lo ≤ ivs → ivs ≤ hi → 0 ≤ (n w).1 → (n w).1 ≤ (n m').1 → S' ∈ L →
              S' = (S.1, st, note :: S.2.2.1.filter (fun m => !(m.1 == tS)), (S.2.2.2.1 ++ [(1, (len : Int))]) ++ [(1, (len : Int))], [((S.2.2.2.1 ++ [(1, (len : Int))]).length, w, 1), (w, (S.2.2.2.1 ++ [(1, (len : Int))]).length, -1)] ++ ([(S.2.2.2.1.length, i.2.1, 1), (i.2.1, S.2.2.2.1.length, -1)] ++ S.2.2.2.2.1), S.2.2.2.2.2) →
              (∀ (cA' : ClassId) (ws' : va_W) (n2 : ck_N), ws'[q]? = some (a, .inl (cA', len, .inl (upd f x.toInt.toNat v0))) → (∀ j, j < S.2.2.2.1.length → n2 j = n j) → (n2 S.2.2.2.1.length).1 = (n m').1 + 1 → (n2 (S.2.2.2.1 ++ [(1, (len : Int))]).length).1 = (n w).1 + 1 → ck_tn (mSG M) ws' sh n2 ((S.2.2.2.1 ++ [(1, (len : Int))]) ++ [(1, (len : Int))]).length note) →
              W p l e R s m args below meth c H locs (ck_oc R M + S.2.2.2.2.2.1) (ck_os R M + S.2.2.2.2.2.2) Q (F0 m pc ls (.int v0 :: .int x :: .ref a :: vs2)) := by
            intro w S' note ivs hwl hivs l1 l2 hw0 hw1 hS' eS hnote
            refine com ivs hivs l1 l2 (fun cA' ws' H1 locs1 o1 hq' w2 w3 hP1 hD1 hS1 => ?_)
            have o2 := ck_so.sym (iv := (1, (len : Int))) (rs := [((S.2.2.2.1 ++ [(1, (len : Int))]).length, w, 1), (w, (S.2.2.2.1 ++ [(1, (len : Int))]).length, -1)]) (z := (n w).1 + 1) o1 (fun _ => ⟨by omega, by omega⟩) (fun r hr => by
              show r.1 < (S.2.2.2.1 ++ [(1, (len : Int))]).length + 1 ∧ r.2.1 < (S.2.2.2.1 ++ [(1, (len : Int))]).length + 1 ∧ (ck_nx (ck_nx n S.2.2.2.1.length ((n m').1 + 1, .null)) (S.2.2.2.1 ++ [(1, (len : Int))]).length ((n w).1 + 1, .null) r.1).1 ≤ (ck_nx (ck_nx n S.2.2.2.1.length ((n m').1 + 1, .null)) (S.2.2.2.1 ++ [(1, (len : Int))]).length ((n w).1 + 1, .null) r.2.1).1 + r.2.2
              simp only [List.mem_cons, List.not_mem_nil, or_false] at hr
              have hwl' : w < (S.2.2.2.1 ++ [(1, (len : Int))]).length := by omega
              rcases hr with rfl | rfl
              · refine ⟨Nat.lt_succ_self _, Nat.lt_succ_of_lt hwl', ?_⟩
                dsimp only
                rw [ck_nx_eq, ck_nx_lt _ hwl', ck_nx_lt _ hwl]
                exact Int.le_refl _
              · refine ⟨Nat.lt_succ_of_lt hwl', Nat.lt_succ_self _, ?_⟩
                dsimp only
                rw [ck_nx_eq, ck_nx_lt _ hwl', ck_nx_lt _ hwl]
                dsimp only
                omega)
            have o4 := o2.nt (x := note) (hnote cA' ws' _ hq' (fun j hj => by rw [ck_nx_lt j (by show _ < (S.2.2.2.1 ++ [(1, (len : Int))]).length; omega), ck_nx_lt j hj]) (by rw [ck_nx_lt _ (by show _ < (S.2.2.2.1 ++ [(1, (len : Int))]).length; omega), ck_nx_eq]) (by rw [ck_nx_eq]))
            subst eS
            exact (hk _ hS').at o4 w2 w3 hP1 hD1 hS1 rfl
          have hc0 : 0 ≤ (n c').1 ∧ (n c').1 ≤ (n m').1 := by
            have z := hng
            unfold ck_ng at z
            have := ck_cn_le ck_b3 f (n m').1.toNat
            omega
          have ho0 : 0 ≤ (n o').1 ∧ (n o').1 ≤ (n m').1 := by
            have z := hng
            unfold ck_ng at z
            have := ck_cn_le (fun x => x == 40) f (n m').1.toNat
            omega
          have hlen2 : ((S.2.2.2.1 ++ [(1, (len : Int))]) ++ [(1, (len : Int))]).length = S.2.2.2.1.length + 2 := by simp
          have i32 : ∀ z : Int32, v0.toInt = z.toInt → v0 = z := fun z hz => Int32.toInt_inj.mp hz
          split at h
          · rename_i hs
            split at h
            · rename_i htag
              have eL := Option.some.inj h
              have hb : ck_b3 v0 = true := by
                rcases hs with z | z | z
                · rw [i32 38 (by rw [hvv, z]; rfl)]; rfl
                · rw [i32 62 (by rw [hvv, z]; rfl)]; rfl
                · rw [i32 124 (by rw [hvv, z]; rfl)]; rfl
              have hne : v0 ≠ 40 ∧ v0 ≠ 45 := ⟨fun z => by rw [z] at hb; exact absurd hb (by decide), fun z => by rw [z] at hb; exact absurd hb (by decide)⟩
              refine two c' _ _ iv.1 g6 rfl (by omega) (by omega) hc0.1 hc0.2 (by rw [← eL]; exact List.mem_cons_self) rfl (fun cA' ws' n2 hq' e1 e2 e3 => ?_)
              refine ⟨by dsimp only; omega, g2, g1, rfl, by rw [hlen2]; dsimp only; omega, fun j hj => ?_, q, a, cA', len, _, ht, hq', ?_⟩
              · simp only [List.mem_cons, List.not_mem_nil, or_false] at hj
                rcases hj with rfl | rfl
                · rw [hlen2, hN1]; omega
                · rw [hlen2]; omega
              · dsimp only [List.map]
                unfold ck_nt
                rw [if_pos (by decide), e2, e3, e1 _ g7]
                have := ck_ng_push (tag' := 21) hkn hng v0 (Or.inl hb) (fun _ => htag) (fun _ => hne.2) (by decide)
                rw [if_pos hb, if_neg hne.1, Int.add_zero] at this
                exact this
            · cases h
          · split at h
            · rename_i hs40
              have eL := Option.some.inj h
              have hv40 : v0 = 40 := i32 40 (by rw [hvv, hs40]; rfl)
              refine two o' _ _ iv.1 g7 rfl (by omega) (by omega) ho0.1 ho0.2 (by rw [← eL]; exact List.mem_cons_self) rfl (fun cA' ws' n2 hq' e1 e2 e3 => ?_)
              refine ⟨by dsimp only; omega, g2, g1, rfl, by rw [hlen2]; dsimp only; omega, fun j hj => ?_, q, a, cA', len, _, ht, hq', ?_⟩
              · simp only [List.mem_cons, List.not_mem_nil, or_false] at hj
                rcases hj with rfl | rfl
                · rw [hlen2]; omega
                · rw [hlen2, hN1]; omega
              · dsimp only [List.map]
                unfold ck_nt
                rw [if_pos (by decide), e2, e3, e1 _ g6]
                have := ck_ng_push (tag' := 21) hkn hng v0 (Or.inr (Or.inl hv40)) (fun z => by rw [hv40] at z; exact absurd z (by decide)) (fun _ z => by rw [hv40] at z; exact absurd z (by decide)) (by decide)
                rw [if_neg (by rw [hv40]; decide), if_pos hv40, Int.add_zero] at this
                exact this
            · split at h
              · rename_i hs45
                have eL := Option.some.inj h
                have hv45 : v0 = 45 := i32 45 (by rw [hvv, hs45]; rfl)
                refine com iv.1 rfl (by omega) (by omega) (fun cA' ws' H1 locs1 o1 hq' w2 w3 hP1 hD1 hS1 => ?_)
                have o4 := o1.nt (x := (tS, 0, (20, S.2.2.2.1.length, [c', o']))) (by
                  show ck_tn (mSG M) ws' sh _ (S.2.2.2.1 ++ [(1, (len : Int))]).length _
                  refine ⟨by dsimp only; omega, g2, g1, rfl, by rw [hN1]; dsimp only; omega, fun j hj => ?_, q, a, cA', len, _, ht, hq', ?_⟩
                  · simp only [List.mem_cons, List.not_mem_nil, or_false] at hj
                    rcases hj with rfl | rfl
                    · rw [hN1]; omega
                    · rw [hN1]; omega
                  · dsimp only [List.map]
                    unfold ck_nt
                    rw [if_pos (by decide), ck_nx_eq, ck_nx_lt _ g6, ck_nx_lt _ g7]
                    have := ck_ng_push (tag' := 20) hkn hng v0 (Or.inr (Or.inr hv45)) (fun z => by rw [hv45] at z; exact absurd z (by decide)) (fun z => absurd z (by decide)) (by decide)
                    rw [if_neg (by rw [hv45]; decide), if_neg (by rw [hv45]; decide), Int.add_zero, Int.add_zero] at this
                    exact this)
                exact (hk _ (by rw [← eL]; exact List.mem_cons_self)).at o4 w2 w3 hP1 hD1 hS1 rfl
              · cases h
        · cases h
      · cases h
    · cases h
  · cases h
/-- the first instruction: aload_0; no sign waits -/
def ck_sG0 (tM tS : Nat) (S : ck_S) : Option (List ck_S) := match ck_look S.1 0 with
  | some r => if r.1 = 2 ∧ r.2.2 = [tM] then some [(S.1, r :: S.2.1, (tS, 0, (21, 0, [0, 0])) :: S.2.2.1, S.2.2.2)] else none
  | none => none
theorem ck_sG0_ok (X : ck_cx p l e R s m args below meth c cc own D cl tys M sc A) {tM tS len k0 kf ci : Nat} {Ts : List ck_T} {td : ck_D} {lo hi : Int} (hTT : (mTT M)[tS]? = some (1, len, k0, Ts)) (hM : (mTT M)[tM]? = some td) (hM0 : td.1 = 0) (hMf : td.2.2.2[kf]? = some (2, lo, hi, [tS])) (hSG : tS ∈ mSG M) (ht0 : tS ≠ 0) {L : List ck_S} (h : ck_sG0 tM tS S = some L) (hk : ∀ S' ∈ L, ck_g p l e R s m args below meth c Q D cl tys M sc A ws0 sh0 S' (pc + 1)) (hdg : decode cc pc = .ok (.aload_n 0, 1)) : ck_g p l e R s m args below meth c Q D cl tys M sc A ws0 sh0 S pc := by
  intro n ws sh H locs ls vs o hw hx hP hD hS
  unfold ck_sG0 at h
  split at h
  · rename_i r hr
    split at h
    · rename_i hc
      have eL := Option.some.inj h
      obtain ⟨v, hv1, hv2⟩ := ck_look_ok o.2.1 hr
      obtain ⟨-, -, q, a, e0, t, rfl, hq, ht, htm⟩ := hv2.r hc.1
      rw [hc.2] at htm
      rw [List.mem_singleton.mp htm] at ht
      obtain ⟨td', d1, d2⟩ := hw.2.1 q a _ tM hq ht
      have etd : td' = td := Option.some.inj (d1.symm.trans hM)
      subst etd
      unfold ck_co at d2
      rw [hM0] at d2
      obtain ⟨fs, -, -, d3⟩ := d2
      obtain ⟨u, -, d4⟩ := d3 kf _ hMf
      obtain ⟨q2, a2, e2, t2, rfl, hq2, ht2, htm2⟩ := (show ck_rf ws sh [tS] u from d4)
      rw [List.mem_singleton.mp htm2] at ht2
      obtain ⟨td2, d5, d6⟩ := hw.2.1 q2 a2 _ tS hq2 ht2
      have etd2 : td2 = (1, len, k0, Ts) := Option.some.inj (d5.symm.trans hTT)
      subst etd2
      obtain ⟨cA, f, -, rfl, -⟩ := d6
      have o1 : ck_so (mnL M) (mSG M) (S.1, r :: S.2.1, S.2.2.1, S.2.2.2) n ws sh sc ls (.ref a :: vs) := ⟨o.1, o.2.1, ⟨hv2, o.2.2.1⟩, o.2.2.2⟩
      have o2 := o1.nt (x := (tS, 0, (21, 0, [0, 0]))) ⟨by dsimp only; omega, ht0, hSG, rfl, o.1.1, fun j hj => by
          simp only [List.mem_cons, List.not_mem_nil, or_false, or_self] at hj
          rw [hj]; exact o.1.1, q2, a2, cA, len, f, ht2, hq2, by
          dsimp only [List.map]
          unfold ck_nt
          rw [if_pos (by decide), o.1.2]
          exact ⟨by decide, rfl, rfl, fun j hj => absurd hj (by simp), fun j hj => absurd hj (by simp), fun _ z => absurd z (by decide), fun z => absurd z (by decide)⟩⟩
      refine lv_aload_n X.1 X.2.1 hdg rfl hv1 ?_
      exact (hk _ (by rw [← eL]; exact List.mem_cons_self)).at o2 hw hx hP hD hS rfl
    · cases h
  · cases h
end
end
section
/-! what is held: reads and writes under notes of a set of places -/
/-- a note of this tag -/
def ck_fn (t tag : Nat) (S : ck_S) : Option (Nat × List Nat) := S.2.2.1.findSome? (fun x => if x.1 == t && (x.2.1 == 0 && x.2.2.1 == tag) then some (x.2.2.2.1, x.2.2.2.2) else none)
/-- a note of this tag, of this number -/
def ck_fm (F t tag i : Nat) (S : ck_S) : Option (Nat × List Nat) := S.2.2.1.findSome? (fun x => if x.1 == t && (x.2.1 == 0 && (x.2.2.1 == tag && ck_eq2 F S.2.2.2.1 S.2.2.2.2.1 x.2.2.2.1 i)) then some (x.2.2.2.1, x.2.2.2.2) else none)
/-- a note of this tag, whose last number is this -/
def ck_l1 (l : List Nat) (p : Nat → Bool) : Bool := match l with
  | [k] => p k
  | _ => false
def ck_fl (F t tag i : Nat) (S : ck_S) : Option (Nat × List Nat) := S.2.2.1.findSome? (fun x => if x.1 == t && (x.2.1 == 0 && (x.2.2.1 == tag && ck_l1 x.2.2.2.2 (fun k => ck_eq2 F S.2.2.2.1 S.2.2.2.2.1 k i))) then some (x.2.2.2.1, x.2.2.2.2) else none)
section
variable {nL : Nat} {SG : List Nat} {S : ck_S} {n : ck_N} {ws : va_W} {sh : List Nat} {sc : ck_sc} {ls : Array Slot} {vs : List Value}
theorem ck_note {t tag : Nat} {x : ck_M} (h : ck_so nL SG S n ws sh sc ls vs) (hx : x ∈ S.2.2.1) (h1 : x.1 = t) (h2 : x.2.2.1 = tag) (h20 : 20 ≤ tag) (hu : ∀ t ∈ SG, ∀ q r : Nat, sh[q]? = some t → sh[r]? = some t → q = r) {q a : Nat} {e : va_E} (hq : ws[q]? = some (a, e)) (ht : sh[q]? = some t) :
    t ∈ SG ∧ t ≠ 0 ∧ x.2.2.2.1 < S.2.2.2.1.length ∧ (∀ j ∈ x.2.2.2.2, j < S.2.2.2.1.length) ∧ ∃ (cA : ClassId) (len : Nat) (f : Nat → Int32), e = .inl (cA, len, .inl f) ∧ ck_nt tag f (n x.2.2.2.1).1 (x.2.2.2.2.map (fun j => (n j).1)) := by
  rcases h.2.2.2.1 x hx with ⟨-, -, ⟨z, -⟩ | ⟨z, -⟩⟩ | ⟨-, -, q1, a', oo, v, -, -, -, w⟩ | ⟨w0, w1, w2, w3, w4, w5, q1, a', cA, len, f, w6, w7, w8⟩
  · omega
  · omega
  · exfalso
    have w := w.2
    split at w <;> omega
  · rw [h1] at w1 w2 w6
    have eq := hu t w2 q1 q w6 ht
    subst eq
    rw [hq] at w7
    have ee := congrArg Prod.snd (Option.some.inj w7)
    rw [h2] at w8
    exact ⟨w2, w1, w4, w5, cA, len, f, ee, w8⟩
theorem ck_fn_ok {t tag : Nat} {y : Nat × List Nat} (hf : ck_fn t tag S = some y) : ∃ x ∈ S.2.2.1, x.1 = t ∧ x.2.2.1 = tag ∧ x.2.2.2.1 = y.1 ∧ x.2.2.2.2 = y.2 := by
  obtain ⟨x, hx, h1⟩ := List.exists_of_findSome?_eq_some hf
  split at h1
  · rename_i hc
    simp only [Bool.and_eq_true, beq_iff_eq] at hc
    cases h1
    exact ⟨x, hx, hc.1, hc.2.2, rfl, rfl⟩
  · cases h1
theorem ck_fm_ok {F t tag i : Nat} {y : Nat × List Nat} (h : ck_so nL SG S n ws sh sc ls vs) (hf : ck_fm F t tag i S = some y) : ∃ x ∈ S.2.2.1, x.1 = t ∧ x.2.2.1 = tag ∧ x.2.2.2.1 = y.1 ∧ x.2.2.2.2 = y.2 ∧ (n y.1).1 = (n i).1 := by
  obtain ⟨x, hx, h1⟩ := List.exists_of_findSome?_eq_some hf
  split at h1
  · rename_i hc
    simp only [Bool.and_eq_true, beq_iff_eq] at hc
    cases h1
    exact ⟨x, hx, hc.1, hc.2.2.1, rfl, rfl, ck_eq2_ok h.2.2.2.2.1 h.2.2.2.2.2 hc.2.2.2⟩
  · cases h1
theorem ck_fl_ok {F t tag i : Nat} {y : Nat × List Nat} (h : ck_so nL SG S n ws sh sc ls vs) (hf : ck_fl F t tag i S = some y) : ∃ x ∈ S.2.2.1, ∃ k, x.1 = t ∧ x.2.2.1 = tag ∧ x.2.2.2.1 = y.1 ∧ x.2.2.2.2 = [k] ∧ (n k).1 = (n i).1 := by
  obtain ⟨x, hx, h1⟩ := List.exists_of_findSome?_eq_some hf
  split at h1
  · rename_i hc
    simp only [Bool.and_eq_true, beq_iff_eq] at hc
    cases h1
    obtain ⟨c1, -, c2, c3⟩ := hc
    unfold ck_l1 at c3
    split at c3
    · rename_i k hk
      exact ⟨x, hx, k, c1, c2, rfl, hk, ck_eq2_ok h.2.2.2.2.1 h.2.2.2.2.2 c3⟩
    · cases c3
  · cases h1
end
/-- a read of what is held -/
def ck_sWl (F tW tN len : Nat) (S : ck_S) : Option (List ck_S) := match S.2.1 with
  | i :: r :: st => if i.1 = 0 ∧ r.1 = 2 ∧ r.2.2 = [tW] ∧ ck_ent S.2.2.2.1 S.2.2.2.2.1 F 0 i.2.1 0 = true ∧ ck_ent S.2.2.2.1 S.2.2.2.2.1 F i.2.1 0 ((len : Int) - 1) = true then (match ck_fm F tW 33 i.2.1 S with
    | some (_, [w]) => some [(S.1, (0, w, []) :: st, S.2.2.1, S.2.2.2)]
    | _ => (match ck_fn tW 30 S with
      | some (z, _) => if (S.2.2.1.contains (tN, 0, (31, z, []))) = true then some [
          (S.1, (0, S.2.2.2.1.length, []) :: st, (tW, 0, (33, i.2.1, [S.2.2.2.1.length])) :: S.2.2.1, S.2.2.2.1 ++ [(-2147483648, -1)], S.2.2.2.2.1, S.2.2.2.2.2),
          (S.1, (0, S.2.2.2.1.length, []) :: st, (tW, 0, (33, i.2.1, [S.2.2.2.1.length])) :: S.2.2.1, S.2.2.2.1 ++ [(0, 0)], S.2.2.2.2.1, S.2.2.2.2.2),
          (S.1, (0, S.2.2.2.1.length, []) :: st, (tN, 0, (32, i.2.1, [])) :: (tW, 0, (33, i.2.1, [S.2.2.2.1.length])) :: S.2.2.1, S.2.2.2.1 ++ [(1, 1)], S.2.2.2.2.1, S.2.2.2.2.2)] else none
      | none => none)) else none
  | _ => none
/-- a read of its number -/
def ck_sNl (F tN len : Nat) (lo hi : Int) (S : ck_S) : Option (List ck_S) := match S.2.1 with
  | i :: r :: st => if i.1 = 0 ∧ r.1 = 2 ∧ r.2.2 = [tN] ∧ ck_ent S.2.2.2.1 S.2.2.2.2.1 F 0 i.2.1 0 = true ∧ ck_ent S.2.2.2.1 S.2.2.2.2.1 F i.2.1 0 ((len : Int) - 1) = true then (match ck_fm F tN 32 i.2.1 S with
    | some _ => some [(S.1, (0, S.2.2.2.1.length, []) :: st, S.2.2.1, S.2.2.2.1 ++ [(lo, 9)], S.2.2.2.2.1, S.2.2.2.2.2)]
    | none => some [(S.1, (0, S.2.2.2.1.length, []) :: st, S.2.2.1, S.2.2.2.1 ++ [(lo, hi)], S.2.2.2.2.1, S.2.2.2.2.2)]) else none
  | _ => none
/-- a write of what is held -/
def ck_sWs (F tW tN len : Nat) (S : ck_S) : Option (List ck_S) := match S.2.1 with
  | v :: i :: r :: st => if v.1 = 0 ∧ i.1 = 0 ∧ r.1 = 2 ∧ r.2.2 = [tW] ∧ ck_ent S.2.2.2.1 S.2.2.2.2.1 F 0 i.2.1 0 = true ∧ ck_ent S.2.2.2.1 S.2.2.2.2.1 F i.2.1 0 ((len : Int) - 1) = true then (match ck_fn tW 30 S with
    | some (z, _) => if (S.2.2.1.contains (tN, 0, (31, z, []))) = true then (
        if ck_ent S.2.2.2.1 S.2.2.2.2.1 F v.2.1 0 1 = true ∧ ck_ent S.2.2.2.1 S.2.2.2.2.1 F 0 v.2.1 (-1) = true then
          some [(S.1, st, (tW, 0, (30, S.2.2.2.1.length, [])) :: (tN, 0, (34, S.2.2.2.1.length, [i.2.1])) :: S.2.2.1.filter (fun m => !(m.1 == tW)), S.2.2.2.1 ++ [(1, 0)], S.2.2.2.2.1, S.2.2.2.2.2)]
        else if ck_ent S.2.2.2.1 S.2.2.2.2.1 F v.2.1 0 0 = true ∧ ck_ent S.2.2.2.1 S.2.2.2.2.1 F 0 v.2.1 9 = true then
          some [(S.1, st, (tW, 0, (30, S.2.2.2.1.length, [])) :: (tN, 0, (31, S.2.2.2.1.length, [])) :: (tN, 0, (35, S.2.2.2.1.length, [i.2.1])) :: S.2.2.1.filter (fun m => !(m.1 == tW)), S.2.2.2.1 ++ [(1, 0)], S.2.2.2.2.1, S.2.2.2.2.2)]
        else none) else none
    | none => none) else none
  | _ => none
/-- a write of its number -/
def ck_sNs (F tN len : Nat) (lo hi : Int) (S : ck_S) : Option (List ck_S) := match S.2.1 with
  | v :: i :: r :: st => if v.1 = 0 ∧ i.1 = 0 ∧ r.1 = 2 ∧ r.2.2 = [tN] ∧ ck_ent S.2.2.2.1 S.2.2.2.2.1 F 0 i.2.1 0 = true ∧ ck_ent S.2.2.2.1 S.2.2.2.2.1 F i.2.1 0 ((len : Int) - 1) = true ∧ ck_ent S.2.2.2.1 S.2.2.2.2.1 F v.2.1 0 hi = true ∧ ck_ent S.2.2.2.1 S.2.2.2.2.1 F 0 v.2.1 (-lo) = true then (match ck_fl F tN 35 i.2.1 S with
    | some (z, _) => some [(S.1, st, (tN, 0, (31, z, [])) :: S.2.2.1.filter (fun m => !(m.1 == tN)), S.2.2.2)]
    | none => (match ck_fl F tN 34 i.2.1 S with
      | some (z, _) => if ck_ent S.2.2.2.1 S.2.2.2.2.1 F v.2.1 0 9 = true then some [(S.1, st, (tN, 0, (31, z, [])) :: S.2.2.1.filter (fun m => !(m.1 == tN)), S.2.2.2)] else none
      | none => none)) else none
  | _ => none
/-- a place more, a place less -/
theorem ck_bit6 : ∀ b0 b1 b2 b3 b4 b5 : Bool, (b0.toNat + 2 * b1.toNat + 4 * b2.toNat + 8 * b3.toNat + 16 * b4.toNat + 32 * b5.toNat).testBit 0 = b0 ∧ (b0.toNat + 2 * b1.toNat + 4 * b2.toNat + 8 * b3.toNat + 16 * b4.toNat + 32 * b5.toNat).testBit 1 = b1 ∧ (b0.toNat + 2 * b1.toNat + 4 * b2.toNat + 8 * b3.toNat + 16 * b4.toNat + 32 * b5.toNat).testBit 2 = b2 ∧
    (b0.toNat + 2 * b1.toNat + 4 * b2.toNat + 8 * b3.toNat + 16 * b4.toNat + 32 * b5.toNat).testBit 3 = b3 ∧ (b0.toNat + 2 * b1.toNat + 4 * b2.toNat + 8 * b3.toNat + 16 * b4.toNat + 32 * b5.toNat).testBit 4 = b4 ∧ (b0.toNat + 2 * b1.toNat + 4 * b2.toNat + 8 * b3.toNat + 16 * b4.toNat + 32 * b5.toNat).testBit 5 = b5 := by decide
theorem ck_bits (P : Nat → Bool) : ∃ y : Nat, ∀ i, i < 6 → y.testBit i = P i := by
  obtain ⟨h0, h1, h2, h3, h4, h5⟩ := ck_bit6 (P 0) (P 1) (P 2) (P 3) (P 4) (P 5)
  refine ⟨(P 0).toNat + 2 * (P 1).toNat + 4 * (P 2).toNat + 8 * (P 3).toNat + 16 * (P 4).toNat + 32 * (P 5).toNat, fun i hi => ?_⟩
  rcases (show i = 0 ∨ i = 1 ∨ i = 2 ∨ i = 3 ∨ i = 4 ∨ i = 5 by omega) with rfl | rfl | rfl | rfl | rfl | rfl
  · exact h0
  · exact h1
  · exact h2
  · exact h3
  · exact h4
  · exact h5
section
variable {p : Program} {l : Launch} {e : Env} {R : Room} {s : State} {m : MethodId} {args : Array Value} {below : List Frame} {meth : Method} {c : Code} {Q : State → Prop} {cc : ByteArray} {own : String} {D : va_G} {cl : List vw_C} {tys : List (ClassId × FieldType)} {M : ck_Me} {sc : ck_sc} {A : Nat → Prop} {ws0 : va_W} {sh0 : List Nat} {S : ck_S} {pc : Nat}
theorem ck_ird (X : ck_cx p l e R s m args below meth c cc own D cl tys M sc A) {F t len k0 : Nat} {T : ck_T} (hTT : (mTT M)[t]? = some (1, len, k0, [T])) {i r : ck_V} {st : List ck_V} (hst : S.2.1 = i :: r :: st) (hc : i.1 = 0 ∧ r.1 = 2 ∧ r.2.2 = [t] ∧ ck_ent S.2.2.2.1 S.2.2.2.2.1 F 0 i.2.1 0 = true ∧ ck_ent S.2.2.2.1 S.2.2.2.2.1 F i.2.1 0 ((len : Int) - 1) = true) (hdg : decode cc pc = .ok (.iaload, 1))
    {n : ck_N} {ws : va_W} {sh : List Nat} {H : Heap} {locs : List Loc} {ls : Array Slot} {vs : List Value} {cells slots : Nat} (o : ck_so (mnL M) (mSG M) S n ws sh sc ls vs) (hw : ck_wo tys (mTT M) (mSG M) ws sh) (hP : va_P D cl ws H)
    (kk : ∀ (q a : Nat) (cA : ClassId) (f : Nat → Int32) (vs2 : List Value), ws[q]? = some (a, .inl (cA, len, .inl f)) → sh[q]? = some t → i.2.1 < S.2.2.2.1.length → 0 ≤ (n i.2.1).1 → (n i.2.1).1 < len → (T.2.1 ≤ (f (n i.2.1).1.toNat).toInt ∧ (f (n i.2.1).1.toNat).toInt ≤ T.2.2.1) → ck_two (ck_vo ws sh sc n S.2.2.2.1.length) st vs2 → W p l e R s m args below meth c H locs cells slots Q (F0 m (pc + 1) ls (.int (f (n i.2.1).1.toNat) :: vs2))) :
    W p l e R s m args below meth c H locs cells slots Q (F0 m pc ls vs) := by
  obtain ⟨hi0, hr2, hrt, hb1, hb2⟩ := hc
  have o3 := o.2.2.1
  rw [hst] at o3
  obtain ⟨iv, vs1, rfl, h2, h3⟩ := ck_hd o3
  obtain ⟨ra, vs2, rfl, h4, h5⟩ := ck_hd h3
  obtain ⟨hil, x, rfl, ex⟩ := h2.i hi0
  obtain ⟨-, -, q, a, e0, t', rfl, hq, ht, htm⟩ := h4.r hr2
  rw [hrt] at htm
  rw [List.mem_singleton.mp htm] at ht
  have p1 := ck_ent_ok o.2.2.2.2.1 o.2.2.2.2.2 F _ _ _ hb1
  have p2 := ck_ent_ok o.2.2.2.2.1 o.2.2.2.2.2 F _ _ _ hb2
  rw [o.1.2] at p1 p2
  obtain ⟨td, d1, d2⟩ := hw.2.1 q a _ t hq ht
  have etd : td = (1, len, k0, [T]) := Option.some.inj (d1.symm.trans hTT)
  subst etd
  obtain ⟨cA, f, t1, rfl, t3⟩ := d2
  have hxn : x.toNatClampNeg = (n i.2.1).1.toNat := by show x.toInt.toNat = _; rw [ex]
  have hin : vp_in x len := by
    rintro (z | z)
    · have := Int32.lt_iff_toInt_lt.mp z
      rw [Int32.toInt_zero] at this
      omega
    · rw [hxn] at z
      omega
  refine va_iald X.1 X.2.1 X.2.2.2.1 hP q k0 hq t1 hin hdg ?_
  rw [hxn]
  exact kk q a cA f vs2 hq ht hil (by omega) (by omega) ((t3 T rfl).2 (n i.2.1).1.toNat (show (n i.2.1).1.toNat < len by omega)) h5
theorem ck_sWl_ok (X : ck_cx p l e R s m args below meth c cc own D cl tys M sc A) {F tW tN len k0 : Nat} {T : ck_T} (hTT : (mTT M)[tW]? = some (1, len, k0, [T])) (h6 : len = 6) (hT : T.2.2.1 ≤ 1 ∧ -2147483648 ≤ T.2.1) {L : List ck_S} (h : ck_sWl F tW tN len S = some L) (hk : ∀ S' ∈ L, ck_g p l e R s m args below meth c Q D cl tys M sc A ws0 sh0 S' (pc + 1)) (hdg : decode cc pc = .ok (.iaload, 1)) : ck_g p l e R s m args below meth c Q D cl tys M sc A ws0 sh0 S pc := by
  intro n ws sh H locs ls vs o hw hx hP hD hS
  unfold ck_sWl at h
  split at h
  · rename_i i r st hst
    split at h
    · rename_i hc
      refine ck_ird X hTT hst hc hdg o hw hP (fun q a cA f vs2 hq ht hil hn0 hn1 hb h5 => ?_)
      split at h
      · rename_i z w hf
        have eL := Option.some.inj h
        obtain ⟨x, hx1, x1, x2, x3, x4, x5⟩ := ck_fm_ok o hf
        obtain ⟨g1, g2, g3, g4, cA', len', f', e1, g5⟩ := ck_note o hx1 x1 x2 (by decide) hw.2.2 hq ht
        cases e1
        rw [x4] at g4 g5
        have g5 : (f (n x.2.2.2.1).1.toNat).toInt = (n w).1 := g5
        rw [x3, x5] at g5
        exact (hk (S.1, (0, w, []) :: st, S.2.2.1, S.2.2.2) (by rw [← eL]; exact List.mem_cons_self)).at (o.ss (st := (0, w, []) :: st) (vs' := .int (f (n i.2.1).1.toNat) :: vs2) (show _ ∧ _ from ⟨.mi (g4 w List.mem_cons_self) g5, h5⟩)) hw hx hP hD hS rfl
      · split at h
        · rename_i z zl hf
          split at h
          · rename_i hN
            have eL := Option.some.inj h
            obtain ⟨x, hx1, x1, x2, x3, x4⟩ := ck_fn_ok hf
            obtain ⟨g1, g2, g3, g4, cA', len', f', e1, g5⟩ := ck_note o hx1 x1 x2 (by decide) hw.2.2 hq ht
            cases e1
            have g5 : ∀ j : Nat, j < 6 → (f j).toInt = 1 → (n x.2.2.2.1).1.toNat.testBit j = true := g5
            rw [x3] at g5
            have hN1 : ∀ y : Int × Int, (S.2.2.2.1 ++ [y]).length = S.2.2.2.1.length + 1 := fun y => by simp
            have go : ∀ (lo hi : Int), lo ≤ (f (n i.2.1).1.toNat).toInt → (f (n i.2.1).1.toNat).toInt ≤ hi → ck_so (mnL M) (mSG M) (S.1, (0, S.2.2.2.1.length, []) :: st, (tW, 0, (33, i.2.1, [S.2.2.2.1.length])) :: S.2.2.1, S.2.2.2.1 ++ [(lo, hi)], S.2.2.2.2.1, S.2.2.2.2.2) (ck_nx n S.2.2.2.1.length ((f (n i.2.1).1.toNat).toInt, .null)) ws sh sc ls (.int (f (n i.2.1).1.toNat) :: vs2) := by
              intro lo hi h1 h2
              have o1 := o.new h5 (tag := 0) (ts := []) (iv := (lo, hi)) (rs := []) (x := ((f (n i.2.1).1.toNat).toInt, .null)) (v := .int (f (n i.2.1).1.toNat)) (.mi (Nat.lt_succ_self _) (by rw [ck_nx_eq])) (fun _ => ⟨h1, h2⟩) (fun r hr => by cases hr)
              exact o1.nt (x := (tW, 0, (33, i.2.1, [S.2.2.2.1.length]))) (by
                show ck_tn (mSG M) ws sh _ (S.2.2.2.1 ++ [(lo, hi)]).length _
                refine ⟨by dsimp only; omega, g2, g1, rfl, by rw [hN1]; dsimp only; omega, fun j hj => ?_, q, a, cA, len, f, ht, hq, ?_⟩
                · simp only [List.mem_cons, List.not_mem_nil, or_false] at hj
                  rw [hN1]; omega
                · dsimp only [List.map]
                  unfold ck_nt
                  rw [if_neg (by decide)]
                  show (f _).toInt = _
                  rw [ck_nx_lt _ hil, ck_nx_eq])
            by_cases c1 : (f (n i.2.1).1.toNat).toInt ≤ -1
            · exact (hk _ (by rw [← eL]; exact List.mem_cons_self)).at (go _ _ (by omega) c1) hw hx hP hD hS rfl
            · by_cases c2 : (f (n i.2.1).1.toNat).toInt = 0
              · exact (hk _ (by rw [← eL]; exact List.mem_cons_of_mem _ List.mem_cons_self)).at (go _ _ (by omega) (by omega)) hw hx hP hD hS rfl
              · have c3 : (f (n i.2.1).1.toNat).toInt = 1 := by omega
                have o2 := go 1 1 (by omega) (by omega)
                -- the numbers' array
                rcases o.2.2.2.1 _ (List.contains_iff_mem.mp hN) with ⟨-, -, ⟨y, -⟩ | ⟨y, -⟩⟩ | ⟨-, -, q1, a', oo, v, -, -, -, w⟩ | ⟨w0, w1, w2, w3, w4, w5, q1, a', cA1, len1, f1, w6, w7, w8⟩
                · cases y
                · cases y
                · exact w.2.elim
                · have w8 : ∀ j : Nat, j < 6 → (n z).1.toNat.testBit j = true → (f1 j).toInt ≤ 9 := w8
                  have o3 := o2.nt (x := (tN, 0, (32, i.2.1, []))) (by
                    show ck_tn (mSG M) ws sh _ (S.2.2.2.1 ++ [((1 : Int), (1 : Int))]).length _
                    refine ⟨by dsimp only; omega, w1, w2, rfl, by rw [hN1]; dsimp only; omega, fun j hj => absurd hj List.not_mem_nil, q1, a', cA1, len1, f1, w6, w7, ?_⟩
                    dsimp only [List.map]
                    unfold ck_nt
                    rw [if_neg (by decide)]
                    show (f1 _).toInt ≤ 9
                    rw [ck_nx_lt _ hil]
                    exact w8 _ (by omega) (g5 _ (by omega) c3))
                  exact (hk _ (by rw [← eL]; exact List.mem_cons_of_mem _ (List.mem_cons_of_mem _ List.mem_cons_self))).at o3 hw hx hP hD hS rfl
          · cases h
        · cases h
    · cases h
  · cases h
theorem ck_sNl_ok (X : ck_cx p l e R s m args below meth c cc own D cl tys M sc A) {F tN len k0 : Nat} {lo hi : Int} {ts : List Nat} (hTT : (mTT M)[tN]? = some (1, len, k0, [(0, lo, hi, ts)])) {L : List ck_S} (h : ck_sNl F tN len lo hi S = some L) (hk : ∀ S' ∈ L, ck_g p l e R s m args below meth c Q D cl tys M sc A ws0 sh0 S' (pc + 1)) (hdg : decode cc pc = .ok (.iaload, 1)) : ck_g p l e R s m args below meth c Q D cl tys M sc A ws0 sh0 S pc := by
  intro n ws sh H locs ls vs o hw hx hP hD hS
  unfold ck_sNl at h
  split at h
  · rename_i i r st hst
    split at h
    · rename_i hc
      refine ck_ird X hTT hst hc hdg o hw hP (fun q a cA f vs2 hq ht hil hn0 hn1 hb h5 => ?_)
      have go : ∀ (hi : Int), (f (n i.2.1).1.toNat).toInt ≤ hi → ck_so (mnL M) (mSG M) (S.1, (0, S.2.2.2.1.length, []) :: st, S.2.2.1, S.2.2.2.1 ++ [(lo, hi)], S.2.2.2.2.1, S.2.2.2.2.2) (ck_nx n S.2.2.2.1.length ((f (n i.2.1).1.toNat).toInt, .null)) ws sh sc ls (.int (f (n i.2.1).1.toNat) :: vs2) := by
        intro hi h2
        exact o.new h5 (tag := 0) (ts := []) (iv := (lo, hi)) (rs := []) (x := ((f (n i.2.1).1.toNat).toInt, .null)) (v := .int (f (n i.2.1).1.toNat)) (.mi (Nat.lt_succ_self _) (by rw [ck_nx_eq])) (fun _ => ⟨hb.1, h2⟩) (fun r hr => by cases hr)
      split at h
      · rename_i y hf
        have eL := Option.some.inj h
        obtain ⟨x, hx1, x1, x2, x3, x4, x5⟩ := ck_fm_ok o hf
        obtain ⟨g1, g2, g3, g4, cA', len', f', e1, g5⟩ := ck_note o hx1 x1 x2 (by decide) hw.2.2 hq ht
        cases e1
        have g5 : (f (n x.2.2.2.1).1.toNat).toInt ≤ 9 := g5
        rw [x3, x5] at g5
        exact (hk _ (by rw [← eL]; exact List.mem_cons_self)).at (go 9 g5) hw hx hP hD hS rfl
      · have eL := Option.some.inj h
        exact (hk _ (by rw [← eL]; exact List.mem_cons_self)).at (go hi hb.2) hw hx hP hD hS rfl
    · cases h
  · cases h
theorem ck_sWs_ok (X : ck_cx p l e R s m args below meth c cc own D cl tys M sc A) {F tW tN len k0 : Nat} {lo hi : Int} {ts : List Nat} (hTT : (mTT M)[tW]? = some (1, len, k0, [(0, lo, hi, ts)])) (h6 : len = 6) (hlo : lo ≤ -9) (hhi : 1 ≤ hi) (htN : tN ≠ tW) (hW : (tW, 0) ∈ mWr M) {L : List ck_S} (h : ck_sWs F tW tN len S = some L) (hk : ∀ S' ∈ L, ck_g p l e R s m args below meth c Q D cl tys M sc A ws0 sh0 S' (pc + 1)) (hdg : decode cc pc = .ok (.iastore, 1)) : ck_g p l e R s m args below meth c Q D cl tys M sc A ws0 sh0 S pc := by
  intro n ws sh H locs ls vs o hw hx hP hD hS
  unfold ck_sWs at h
  split at h
  · rename_i v i r st hst
    split at h
    · rename_i hc
      obtain ⟨hv0, hi0, hr2, hrt, hb1, hb2⟩ := hc
      split at h
      · rename_i z zl hf
        split at h
        · rename_i hN
          have o3 := o.2.2.1
          rw [hst] at o3
          obtain ⟨vv, vs0, rfl, h1, h1'⟩ := ck_hd o3
          obtain ⟨iv', vs1, rfl, h2, h3⟩ := ck_hd h1'
          obtain ⟨ra, vs2, rfl, h4, h5⟩ := ck_hd h3
          obtain ⟨hvl, v0, rfl, ev⟩ := h1.i hv0
          obtain ⟨hil, x, rfl, ex⟩ := h2.i hi0
          obtain ⟨-, -, q, a, e0, t, rfl, hq, ht, htm⟩ := h4.r hr2
          rw [hrt] at htm
          rw [List.mem_singleton.mp htm] at ht
          have p1 := ck_ent_ok o.2.2.2.2.1 o.2.2.2.2.2 F _ _ _ hb1
          have p2 := ck_ent_ok o.2.2.2.2.1 o.2.2.2.2.2 F _ _ _ hb2
          rw [o.1.2] at p1 p2
          obtain ⟨y, hy1, x1, x2, x3, x4⟩ := ck_fn_ok hf
          obtain ⟨g1, g2, g3, g4, cA', len', f, rfl, g5⟩ := ck_note o hy1 x1 x2 (by decide) hw.2.2 hq ht
          have g5 : ∀ j : Nat, j < 6 → (f j).toInt = 1 → (n y.2.2.2.1).1.toNat.testBit j = true := g5
          rw [x3] at g5
          rcases o.2.2.2.1 _ (List.contains_iff_mem.mp hN) with ⟨-, -, ⟨w, -⟩ | ⟨w, -⟩⟩ | ⟨-, -, q1, a', oo, v, -, -, -, w⟩ | ⟨w0, w1, w2, w3, w4, w5, q1, a', cA1, len1, f1, w6, w7, w8⟩
          · cases w
          · cases w
          · exact w.2.elim
          have w8 : ∀ j : Nat, j < 6 → (n z).1.toNat.testBit j = true → (f1 j).toInt ≤ 9 := w8
          have hN1 : ∀ y : Int × Int, (S.2.2.2.1 ++ [y]).length = S.2.2.2.1.length + 1 := fun y => by simp
          have hqq : q ≠ q1 := fun eq => by
            rw [eq, w6] at ht
            exact htN (Option.some.inj ht)
          -- what both ways share
          have com : ∀ (Z : Nat), lo ≤ v0.toInt → v0.toInt ≤ hi → (∀ (cA' : ClassId) (ws' : va_W) (H1 : Heap) (locs1 : List Loc), ck_so (mnL M) (mSG M) (S.1, st, S.2.2.1.filter (fun m => !(m.1 == tW)), S.2.2.2.1 ++ [((1 : Int), (0 : Int))], S.2.2.2.2.1, S.2.2.2.2.2) (ck_nx n S.2.2.2.1.length ((Z : Int), .null)) ws' sh sc ls vs2 →
              ws'[q]? = some (a, .inl (cA', len, .inl (upd f x.toInt.toNat v0))) → ws'[q1]? = some (a', .inl (cA1, len1, .inl f1)) → ck_wo tys (mTT M) (mSG M) ws' sh → ck_ex (mWr M) ws0 sh0 ws' sh → va_P D cl ws' H1 → va_D A ws' → va_S A s.heap H1 locs1 → W p l e R s m args below meth c H1 locs1 (ck_oc R M + S.2.2.2.2.2.1) (ck_os R M + S.2.2.2.2.2.2) Q (F0 m (pc + 1) ls vs2)) →
              W p l e R s m args below meth c H locs (ck_oc R M + S.2.2.2.2.2.1) (ck_os R M + S.2.2.2.2.2.2) Q (F0 m pc ls (.int v0 :: .int x :: .ref a :: vs2)) := by
            intro Z l1 l2 kk
            refine ck_ist X hTT hW hw hx hP hD hS hq ht (by omega) (by omega) ⟨l1, l2⟩ hdg (fun cA' f' H1 locs1 ee w1 w2 w3 hP1 hD1 hS1 hq' => ?_)
            have eff : f = f' := by cases ee; rfl
            subst eff
            refine kk cA' _ H1 locs1 ?_ hq' (by rw [List.getElem?_set_ne hqq]; exact w7) w2 w3 hP1 hD1 hS1
            have o1 := o.wr h5 w1
            exact ck_so.sym (iv := ((1 : Int), (0 : Int))) (rs := []) (z := (Z : Int)) o1 (fun hh => absurd hh (by decide)) (fun r hr => by cases hr)
          have hk6 : (n i.2.1).1.toNat < 6 := by omega
          have hxk : x.toInt.toNat = (n i.2.1).1.toNat := by rw [ex]
          -- the notes behind it
          have nW : ∀ (Z : Nat) (ws' : va_W) (cA' : ClassId), (∀ j, j < 6 → (upd f x.toInt.toNat v0 j).toInt = 1 → Z.testBit j = true) → ws'[q]? = some (a, .inl (cA', len, .inl (upd f x.toInt.toNat v0))) → ck_tn (mSG M) ws' sh (ck_nx n S.2.2.2.1.length ((Z : Int), .null)) (S.2.2.2.1 ++ [((1 : Int), (0 : Int))]).length (tW, 0, (30, S.2.2.2.1.length, [])) := by
            intro Z ws' cA' hZ hq'
            refine ⟨by dsimp only; omega, g2, g1, rfl, by rw [hN1]; dsimp only; omega, fun j hj => absurd hj List.not_mem_nil, q, a, cA', len, _, ht, hq', ?_⟩
            unfold ck_nt
            rw [if_neg (by dsimp only; omega)]
            show ∀ j : Nat, j < 6 → _ → _
            rw [ck_nx_eq]
            exact hZ
          split at h
          · rename_i hv1
            obtain ⟨hv1, hv2⟩ := hv1
            have r1 := ck_ent_ok o.2.2.2.2.1 o.2.2.2.2.2 F _ _ _ hv1
            have r2 := ck_ent_ok o.2.2.2.2.1 o.2.2.2.2.2 F _ _ _ hv2
            rw [o.1.2] at r1 r2
            have eL := Option.some.inj h
            obtain ⟨Z, hZ⟩ := ck_bits (fun j => (n z).1.toNat.testBit j || j == (n i.2.1).1.toNat)
            refine com Z (by omega) (by omega) (fun cA' ws' H1 locs1 o1 hq' hq1 w2' w3' hP1 hD1 hS1 => ?_)
            have o2 := o1.nt (x := (tN, 0, (34, S.2.2.2.1.length, [i.2.1]))) (by
              show ck_tn (mSG M) ws' sh _ (S.2.2.2.1 ++ [((1 : Int), (0 : Int))]).length _
              refine ⟨by dsimp only; omega, w1, w2, rfl, by rw [hN1]; dsimp only; omega, fun j hj => by rw [List.mem_singleton.mp hj, hN1]; omega, q1, a', cA1, len1, f1, w6, hq1, ?_⟩
              dsimp only [List.map]
              unfold ck_nt
              rw [if_neg (by decide)]
              show ∀ j : Nat, j < 6 → _ → _ → _
              rw [ck_nx_eq, ck_nx_lt _ hil]
              intro j hj hne hb
              refine w8 j hj ?_
              have hb : Z.testBit j = true := hb
              rw [hZ j hj, Bool.or_eq_true, beq_iff_eq] at hb
              rcases hb with hb | hb
              · exact hb
              · exact absurd hb hne)
            have o4 := o2.nt (x := (tW, 0, (30, S.2.2.2.1.length, []))) (nW Z ws' cA' (fun j hj hu => by
              rw [hZ j hj, Bool.or_eq_true, beq_iff_eq]
              by_cases ej : j = (n i.2.1).1.toNat
              · exact Or.inr ej
              · rw [ck_up_ne (by rw [hxk]; exact ej)] at hu
                exact Or.inl (g5 j hj hu)) hq')
            exact (hk _ (by rw [← eL]; exact List.mem_cons_self)).at o4 w2' w3' hP1 hD1 hS1 rfl
          · split at h
            · rename_i hv1
              obtain ⟨hv1, hv2⟩ := hv1
              have r1 := ck_ent_ok o.2.2.2.2.1 o.2.2.2.2.2 F _ _ _ hv1
              have r2 := ck_ent_ok o.2.2.2.2.1 o.2.2.2.2.2 F _ _ _ hv2
              rw [o.1.2] at r1 r2
              have eL := Option.some.inj h
              obtain ⟨Z, hZ⟩ := ck_bits (fun j => (n z).1.toNat.testBit j && !(j == (n i.2.1).1.toNat))
              refine com Z (by omega) (by omega) (fun cA' ws' H1 locs1 o1 hq' hq1 w2' w3' hP1 hD1 hS1 => ?_)
              have h31 : ∀ j : Nat, j < 6 → Z.testBit j = true → (f1 j).toInt ≤ 9 := fun j hj hb => by
                rw [hZ j hj, Bool.and_eq_true] at hb
                exact w8 j hj hb.1
              have o2 := o1.nt (x := (tN, 0, (35, S.2.2.2.1.length, [i.2.1]))) (by
                show ck_tn (mSG M) ws' sh _ (S.2.2.2.1 ++ [((1 : Int), (0 : Int))]).length _
                refine ⟨by dsimp only; omega, w1, w2, rfl, by rw [hN1]; dsimp only; omega, fun j hj => by rw [List.mem_singleton.mp hj, hN1]; omega, q1, a', cA1, len1, f1, w6, hq1, ?_⟩
                dsimp only [List.map]
                unfold ck_nt
                rw [if_neg (by decide)]
                show (∀ j : Nat, j < 6 → _ → _) ∧ _
                rw [ck_nx_eq, ck_nx_lt _ hil]
                refine ⟨h31, ?_⟩
                show Z.testBit _ = false
                rw [hZ _ hk6]
                simp)
              have o2' := o2.nt (x := (tN, 0, (31, S.2.2.2.1.length, []))) (by
                show ck_tn (mSG M) ws' sh _ (S.2.2.2.1 ++ [((1 : Int), (0 : Int))]).length _
                refine ⟨by dsimp only; omega, w1, w2, rfl, by rw [hN1]; dsimp only; omega, fun j hj => absurd hj List.not_mem_nil, q1, a', cA1, len1, f1, w6, hq1, ?_⟩
                unfold ck_nt
                rw [if_neg (by dsimp only; omega)]
                show ∀ j : Nat, j < 6 → _ → _
                rw [ck_nx_eq]
                exact h31)
              have o4 := o2'.nt (x := (tW, 0, (30, S.2.2.2.1.length, []))) (nW Z ws' cA' (fun j hj hu => by
                rw [hZ j hj, Bool.and_eq_true]
                by_cases ej : j = (n i.2.1).1.toNat
                · rw [ej, ← hxk, ck_up_eq] at hu
                  omega
                · rw [ck_up_ne (by rw [hxk]; exact ej)] at hu
                  exact ⟨g5 j hj hu, by simp [ej]⟩) hq')
              exact (hk _ (by rw [← eL]; exact List.mem_cons_self)).at o4 w2' w3' hP1 hD1 hS1 rfl
            · cases h
        · cases h
      · cases h
    · cases h
  · cases h
theorem ck_sNs_ok (X : ck_cx p l e R s m args below meth c cc own D cl tys M sc A) {F tN len k0 : Nat} {lo hi : Int} {ts : List Nat} (hTT : (mTT M)[tN]? = some (1, len, k0, [(0, lo, hi, ts)])) (h6 : len = 6) (hW : (tN, 0) ∈ mWr M) {L : List ck_S} (h : ck_sNs F tN len lo hi S = some L) (hk : ∀ S' ∈ L, ck_g p l e R s m args below meth c Q D cl tys M sc A ws0 sh0 S' (pc + 1)) (hdg : decode cc pc = .ok (.iastore, 1)) : ck_g p l e R s m args below meth c Q D cl tys M sc A ws0 sh0 S pc := by
  intro n ws sh H locs ls vs o hw hx hP hD hS
  unfold ck_sNs at h
  split at h
  · rename_i v i r st hst
    split at h
    · rename_i hc
      obtain ⟨hv0, hi0, hr2, hrt, hb1, hb2, hb3, hb4⟩ := hc
      have o3 := o.2.2.1
      rw [hst] at o3
      obtain ⟨vv, vs0, rfl, h1, h1'⟩ := ck_hd o3
      obtain ⟨iv', vs1, rfl, h2, h3⟩ := ck_hd h1'
      obtain ⟨ra, vs2, rfl, h4, h5⟩ := ck_hd h3
      obtain ⟨hvl, v0, rfl, ev⟩ := h1.i hv0
      obtain ⟨hil, x, rfl, ex⟩ := h2.i hi0
      obtain ⟨-, -, q, a, e0, t, rfl, hq, ht, htm⟩ := h4.r hr2
      rw [hrt] at htm
      rw [List.mem_singleton.mp htm] at ht
      have p1 := ck_ent_ok o.2.2.2.2.1 o.2.2.2.2.2 F _ _ _ hb1
      have p2 := ck_ent_ok o.2.2.2.2.1 o.2.2.2.2.2 F _ _ _ hb2
      have p3 := ck_ent_ok o.2.2.2.2.1 o.2.2.2.2.2 F _ _ _ hb3
      have p4 := ck_ent_ok o.2.2.2.2.1 o.2.2.2.2.2 F _ _ _ hb4
      rw [o.1.2] at p1 p2 p3 p4
      have hxk : x.toInt.toNat = (n i.2.1).1.toNat := by rw [ex]
      have com : ∀ (f : Nat → Int32) (cA0 : ClassId) (len0 : Nat) (z : Nat), e0 = .inl (cA0, len0, .inl f) → tN ∈ mSG M → tN ≠ 0 → z < S.2.2.2.1.length → (∀ j : Nat, j < 6 → (n z).1.toNat.testBit j = true → (upd f x.toInt.toNat v0 j).toInt ≤ 9) → (S.1, st, (tN, 0, (31, z, [])) :: S.2.2.1.filter (fun m => !(m.1 == tN)), S.2.2.2) ∈ L →
          W p l e R s m args below meth c H locs (ck_oc R M + S.2.2.2.2.2.1) (ck_os R M + S.2.2.2.2.2.2) Q (F0 m pc ls (.int v0 :: .int x :: .ref a :: vs2)) := by
        intro f cA0 len0 z e1 g1 g2 hz hb hmem
        subst e1
        refine ck_ist X hTT hW hw hx hP hD hS hq ht (by omega) (by omega) ⟨by dsimp only; omega, by dsimp only; omega⟩ hdg (fun cA' f' H1 locs1 ee w1 w2 w3 hP1 hD1 hS1 hq' => ?_)
        have eff : f = f' := by cases ee; rfl
        subst eff
        have o1 := o.wr h5 w1
        have o2 := o1.nt (x := (tN, 0, (31, z, []))) (by
          refine ⟨by dsimp only; omega, g2, g1, rfl, hz, fun j hj => absurd hj List.not_mem_nil, q, a, cA', len, _, ht, hq', ?_⟩
          unfold ck_nt
          rw [if_neg (by dsimp only; omega)]
          exact hb)
        exact (hk _ hmem).at o2 w2 w3 hP1 hD1 hS1 rfl
      split at h
      · rename_i z zl hf
        have eL := Option.some.inj h
        obtain ⟨y, hy1, k, x1, x2, x3, x4, x5⟩ := ck_fl_ok o hf
        obtain ⟨g1, g2, g3, g4, cA', len', f, rfl, g5⟩ := ck_note o hy1 x1 x2 (by decide) hw.2.2 hq ht
        rw [x4] at g5
        have g5 : (∀ j : Nat, j < 6 → (n y.2.2.2.1).1.toNat.testBit j = true → (f j).toInt ≤ 9) ∧ (n y.2.2.2.1).1.toNat.testBit (n k).1.toNat = false := g5
        rw [x3, x5] at g5
        rw [x3] at g3
        refine com f cA' len' z rfl g1 g2 g3 (fun j hj hb => ?_) (by rw [← eL]; exact List.mem_cons_self)
        by_cases ej : j = (n i.2.1).1.toNat
        · rw [ej, g5.2] at hb
          cases hb
        · rw [ck_up_ne (by rw [hxk]; exact ej)]
          exact g5.1 j hj hb
      · split at h
        · rename_i z zl hf
          split at h
          · rename_i hv9
            have p5 := ck_ent_ok o.2.2.2.2.1 o.2.2.2.2.2 F _ _ _ hv9
            rw [o.1.2] at p5
            have eL := Option.some.inj h
            obtain ⟨y, hy1, k, x1, x2, x3, x4, x5⟩ := ck_fl_ok o hf
            obtain ⟨g1, g2, g3, g4, cA', len', f, rfl, g5⟩ := ck_note o hy1 x1 x2 (by decide) hw.2.2 hq ht
            rw [x4] at g5
            have g5 : ∀ j : Nat, j < 6 → j ≠ (n k).1.toNat → (n y.2.2.2.1).1.toNat.testBit j = true → (f j).toInt ≤ 9 := g5
            rw [x3, x5] at g5
            rw [x3] at g3
            refine com f cA' len' z rfl g1 g2 g3 (fun j hj hb => ?_) (by rw [← eL]; exact List.mem_cons_self)
            by_cases ej : j = (n i.2.1).1.toNat
            · rw [ej, ← hxk, ck_up_eq]
              omega
            · rw [ck_up_ne (by rw [hxk]; exact ej)]
              exact g5 j hj ej hb
          · cases h
        · cases h
    · cases h
  · cases h
end
end
section
/-! steps proved by hand: what the signs' notes say besides; a contract by parts of an argument; arraycopy of ints -/
def ck_lo1 (E : ck_E) (y : Nat) : ck_E := match E[y]? with
  | some iv => E.set y (max iv.1 1, iv.2)
  | none => E
theorem ck_lo1_len (E : ck_E) (y : Nat) : (ck_lo1 E y).length = E.length := by
  unfold ck_lo1
  split
  · exact List.length_set
  · rfl
theorem ck_lo1_ok {E : ck_E} {n : ck_N} {y : Nat} (h : ck_eo E n) (hy : 1 ≤ (n y).1) : ck_eo (ck_lo1 E y) n := by
  unfold ck_lo1
  split
  · rename_i iv hiv
    intro k x hx hle
    rw [List.getElem?_set] at hx
    split at hx
    · rename_i e
      subst e
      split at hx
      · have ex := Option.some.inj hx
        subst ex
        have h1 : iv.1 ≤ max iv.1 1 := Int.le_max_left _ _
        have h2 := h y iv hiv (Int.le_trans h1 hle)
        exact ⟨Int.max_le.mpr ⟨h2.1, hy⟩, h2.2⟩
      · cases hx
    · exact h k x hx hle
  · exact h
theorem ck_lo1s_ok {n : ck_N} : ∀ {ys : List Nat} {E : ck_E}, ck_eo E n → (∀ y ∈ ys, 1 ≤ (n y).1) → ck_eo (ys.foldl ck_lo1 E) n ∧ (ys.foldl ck_lo1 E).length = E.length
  | [], _, h, _ => ⟨h, rfl⟩
  | y :: ys, E, h, hy => by
    obtain ⟨a, b⟩ := ck_lo1s_ok (ys := ys) (ck_lo1_ok h (hy y List.mem_cons_self)) (fun z hz => hy z (List.mem_cons_of_mem _ hz))
    exact ⟨a, b.trans (ck_lo1_len E y)⟩
def ck_tiY (F tS x : Nat) (S : ck_S) : List Nat := if ck_ent S.2.2.2.1 S.2.2.2.2.1 F 0 x (-1) then (S.2.2.1.flatMap (fun m => if m.1 == tS && decide (20 ≤ m.2.2.1 ∧ m.2.2.1 < 30) then m.2.2.2.1 :: m.2.2.2.2 else [])).filter (fun y => ck_ent S.2.2.2.1 S.2.2.2.2.1 F x y 0) else []
/-- a load of local 0; numbers of the signs' notes that are no less than local j are at least 1 if it is -/
def ck_sTi (F tS j : Nat) (S : ck_S) : Option (List ck_S) := match ck_look S.1 0, ck_look S.1 j with
  | some r, some x => if r.1 = 2 ∧ x.1 = 0 then some [(S.1, r :: S.2.1, S.2.2.1, (ck_tiY F tS x.2.1 S).foldl ck_lo1 S.2.2.2.1, S.2.2.2.2)] else none
  | _, _ => none
/-- a load of local 0; of signs on top that are no turn, none of them open, at least one takes two values -/
def ck_sTc (F tS : Nat) (S : ck_S) : Option (List ck_S) := match ck_look S.1 0 with
  | some r => if r.1 = 2 then (match S.2.2.1.findSome? (fun x => if x.1 == tS && (x.2.1 == 0 && (decide (21 ≤ x.2.2.1 ∧ x.2.2.1 < 30) && ck_ent S.2.2.2.1 S.2.2.2.2.1 F 0 x.2.2.2.1 (-1))) then (match x.2.2.2.2 with
      | [c, o] => if ck_ent S.2.2.2.1 S.2.2.2.2.1 F o 0 0 then some c else none
      | _ => none) else none) with
    | some c => some [(S.1, r :: S.2.1, S.2.2.1, S.2.2.2.1, (0, c, -1) :: S.2.2.2.2.1, S.2.2.2.2.2)]
    | none => none) else none
  | none => none
theorem ck_cn_pos (p : Int32 → Bool) (f : Nat → Int32) {k : Nat} (h : p (f k) = true) : 1 ≤ ck_cn p f (k + 1) := by
  rw [ck_cn_s, if_pos h]
  omega
section
variable {p : Program} {l : Launch} {e : Env} {R : Room} {s : State} {m : MethodId} {args : Array Value} {below : List Frame} {meth : Method} {c : Code} {Q : State → Prop} {cc : ByteArray} {own : String} {D : va_G} {cl : List vw_C} {tys : List (ClassId × FieldType)} {M : ck_Me} {sc : ck_sc} {A : Nat → Prop} {ws0 : va_W} {sh0 : List Nat} {S : ck_S} {pc : Nat}
theorem ck_sTi_ok (X : ck_cx p l e R s m args below meth c cc own D cl tys M sc A) {F tS j : Nat} {L : List ck_S} (h : ck_sTi F tS j S = some L) (hk : ∀ S' ∈ L, ck_g p l e R s m args below meth c Q D cl tys M sc A ws0 sh0 S' (pc + 1)) (hdg : decode cc pc = .ok (.aload_n 0, 1)) : ck_g p l e R s m args below meth c Q D cl tys M sc A ws0 sh0 S pc := by
  intro n ws sh H locs ls vs o hw hx hP hD hS
  unfold ck_sTi at h
  split at h
  · rename_i r x hr hxj
    split at h
    · rename_i hc
      have eL := Option.some.inj h
      obtain ⟨v, hv1, hv2⟩ := ck_look_ok o.2.1 hr
      obtain ⟨-, -, q, a, e0, t, rfl, hq, ht, htm⟩ := hv2.r hc.1
      have key : ∀ y ∈ ck_tiY F tS x.2.1 S, 1 ≤ (n y).1 := fun y hy => by
        unfold ck_tiY at hy
        split at hy
        · rename_i g1
          have g2 := (List.mem_filter.mp hy).2
          have p1 := ck_ent_ok o.2.2.2.2.1 o.2.2.2.2.2 F _ _ _ g1
          have p2 := ck_ent_ok o.2.2.2.2.1 o.2.2.2.2.2 F _ _ _ g2
          rw [o.1.2] at p1
          omega
        · exact absurd hy List.not_mem_nil
      obtain ⟨E1, E2⟩ := ck_lo1s_ok o.2.2.2.2.1 key
      have o2 : ck_so (mnL M) (mSG M) (S.1, r :: S.2.1, S.2.2.1, (ck_tiY F tS x.2.1 S).foldl ck_lo1 S.2.2.2.1, S.2.2.2.2) n ws sh sc ls (.ref a :: vs) := by
        refine ⟨?_, ?_, ?_, ?_, E1, ?_⟩ <;> dsimp only <;> rw [E2]
        · exact o.1
        · exact o.2.1
        · exact ⟨hv2, o.2.2.1⟩
        · exact o.2.2.2.1
        · exact o.2.2.2.2.2
      refine lv_aload_n X.1 X.2.1 hdg rfl hv1 ?_
      exact (hk _ (by rw [← eL]; exact List.mem_cons_self)).at o2 hw hx hP hD hS rfl
    · cases h
  · cases h
theorem ck_sTc_ok (X : ck_cx p l e R s m args below meth c cc own D cl tys M sc A) {F tS : Nat} (hts : tS ≠ 0) {L : List ck_S} (h : ck_sTc F tS S = some L) (hk : ∀ S' ∈ L, ck_g p l e R s m args below meth c Q D cl tys M sc A ws0 sh0 S' (pc + 1)) (hdg : decode cc pc = .ok (.aload_n 0, 1)) : ck_g p l e R s m args below meth c Q D cl tys M sc A ws0 sh0 S pc := by
  intro n ws sh H locs ls vs o hw hx hP hD hS
  unfold ck_sTc at h
  split at h
  · rename_i r hr
    split at h
    · rename_i hc
      split at h
      · rename_i c0 hf
        have eL := Option.some.inj h
        obtain ⟨v, hv1, hv2⟩ := ck_look_ok o.2.1 hr
        obtain ⟨-, -, q, a, e0, t, rfl, hq, ht, htm⟩ := hv2.r hc
        obtain ⟨x, hxm, h1⟩ := List.exists_of_findSome?_eq_some hf
        split at h1
        · rename_i hc1
          simp only [Bool.and_eq_true, beq_iff_eq, decide_eq_true_eq] at hc1
          obtain ⟨c1, c2, c3, c4⟩ := hc1
          split at h1
          · rename_i c' o' hl
            split at h1
            · rename_i c5
              have ec := Option.some.inj h1
              subst ec
              have p1 := ck_ent_ok o.2.2.2.2.1 o.2.2.2.2.2 F _ _ _ c4
              have p2 := ck_ent_ok o.2.2.2.2.1 o.2.2.2.2.2 F _ _ _ c5
              rw [o.1.2] at p1 p2
              have hpos : c' < S.2.2.2.1.length ∧ 1 ≤ (n c').1 := by
                rcases o.2.2.2.1 x hxm with ⟨w, -⟩ | ⟨-, -, q1, a', oo, v, -, -, -, w⟩ | ⟨w0, w1, w2, w3, w4, w5, q1, a', cA, len, f, w6, w7, w8⟩
                · rw [c1] at w
                  exact absurd w hts
                · exfalso
                  have w := w.2
                  split at w <;> omega
                · rw [hl] at w5 w8
                  unfold ck_nt at w8
                  rw [if_pos c3.2] at w8
                  refine ⟨w5 c' (by simp), ?_⟩
                  have w8 : ck_ng x.2.2.1 f (n x.2.2.2.1).1 [(n c').1, (n o').1] := w8
                  unfold ck_ng at w8
                  obtain ⟨n1, n2, n3, n4, n5, n6, n7⟩ := w8
                  obtain ⟨k, hkm⟩ : ∃ k, (n x.2.2.2.1).1.toNat = k + 1 := ⟨(n x.2.2.2.1).1.toNat - 1, by omega⟩
                  rw [hkm] at n2 n3 n4 n6
                  have n6' := n6 c3.1 (Nat.succ_pos _)
                  rw [Nat.add_sub_cancel] at n6'
                  rcases n4 k (Nat.lt_succ_self _) with hb | hb | hb
                  · have := ck_cn_pos ck_b3 f hb
                    omega
                  · have := ck_cn_pos (fun x => x == 40) f (k := k) (by rw [hb]; rfl)
                    omega
                  · exact absurd hb n6'
              have o2 : ck_so (mnL M) (mSG M) (S.1, r :: S.2.1, S.2.2.1, S.2.2.2.1, (0, c', -1) :: S.2.2.2.2.1, S.2.2.2.2.2) n ws sh sc ls (.ref a :: vs) := by
                refine ⟨o.1, o.2.1, ⟨hv2, o.2.2.1⟩, o.2.2.2.1, o.2.2.2.2.1, fun z hz => ?_⟩
                rcases List.mem_cons.mp hz with rfl | hz
                · refine ⟨o.1.1, hpos.1, ?_⟩
                  dsimp only
                  rw [o.1.2]
                  omega
                · exact o.2.2.2.2.2 z hz
              refine lv_aload_n X.1 X.2.1 hdg rfl hv1 ?_
              exact (hk _ (by rw [← eL]; exact List.mem_cons_self)).at o2 hw hx hP hD hS rfl
            · cases h1
          · cases h1
        · cases h1
      · cases h
    · cases h
  · cases h
end
/-- a contract by parts of an argument -/
theorem ck_met_split {V : ck_Wd} {l : Launch} {y : MethodName} {cc : ByteArray} {nL : Nat} {ret : Option FieldType} {rm : Room} {C : ck_C} {k : Nat} {iv : Int × Int} (hk : C.1.2.2.1[k]? = some iv) (hle : iv.1 ≤ iv.2) (ps : List (Int × Int)) (hcov : ∀ z, iv.1 ≤ z → z ≤ iv.2 → ∃ x ∈ ps, x.1 ≤ z ∧ z ≤ x.2)
    (h : ∀ x ∈ ps, ck_met V l y cc nL ret rm ((C.1.1, C.1.2.1, C.1.2.2.1.set k x, C.1.2.2.2), C.2)) : ck_met V l y cc nL ret rm C := by
  intro D tys ws sh sz n1 As sw htl hsw hn0 hpo hwo hph
  obtain ⟨z1, z2⟩ := hpo.2.2.1 k iv hk hle
  obtain ⟨x, hx, x1, x2⟩ := hcov _ z1 z2
  have hl : (C.1.2.2.1.set k x).length = C.1.2.2.1.length := List.length_set
  have hm := h x hx D tys ws sh sz n1 As sw htl hsw hn0 (by
    show ck_po _ _ _ _ _ (C.1.2.2.1.set k x).length (C.1.1, C.1.2.1, C.1.2.2.1.set k x, C.1.2.2.2) As
    rw [hl]
    refine ⟨hpo.1, hpo.2.1, fun j w hj hjl => ?_, hpo.2.2.2⟩
    dsimp only at hj
    rw [List.getElem?_set] at hj
    split at hj
    · rename_i ej
      subst ej
      split at hj
      · have ew := Option.some.inj hj
        subst ew
        exact ⟨x1, x2⟩
      · cases hj
    · exact hpo.2.2.1 j w hj hjl) hwo hph
  have hq : ck_qp V D tys ws sh sz sw n1 ((C.1.1, C.1.2.1, C.1.2.2.1.set k x, C.1.2.2.2), C.2) (fun _ _ _ _ _ _ => True) = ck_qp V D tys ws sh sz sw n1 C (fun _ _ _ _ _ _ => True) := by
    unfold ck_qp
    dsimp only
    rw [hl]
  rw [hq] at hm
  exact hm
section
variable {p : Program} {l : Launch} {e : Env} {R : Room} {s : State} {m : MethodId} {args : Array Value} {below : List Frame} {meth : Method} {c : Code} {Q : State → Prop} {cc : ByteArray} {own : String} {D : va_G} {tys : List (ClassId × FieldType)} {M : ck_Me} {sc : ck_sc} {A : Nat → Prop} {V : ck_Wd}
/-- System.arraycopy(a, i, b, j, v) of ints of any size -/
def ck_zC (t0 t1 : Nat) (v len : Int) : ck_C := (([(2, 1, [t0]), (0, 2, []), (2, 3, [t1]), (0, 4, []), (0, 5, [])], [], [(0, 0), (1, 0), (0, len - v), (1, 0), (0, len - v), (v, v)], []), [([], [], [(1, 0), (1, 0), (1, 0), (1, 0), (1, 0), (1, 0)], [])], [(t1, 0)], 0, 0)
theorem ck_i32_in (x : Int32) : -2147483648 ≤ x.toInt ∧ x.toInt ≤ 2147483647 := by
  have h := ck_r32 x
  exact ⟨h.1, h.2⟩
theorem ck_cs_Z (X : ck_cx p l e R s m args below meth c cc own D V.1 tys M sc A) (hts : ∀ w ∈ V.2.2.2.2.1, w.before args s = true) {idx t0 t1 : Nat} {v len : Int} {n0 n1 k0 k1 : Nat} {F0' : List ck_T} (htl : tys.map Prod.snd = V.2.2.2.1) (h0 : (mTT M)[t0]? = some (1, n0, k0, F0')) (h1 : (mTT M)[t1]? = some (1, n1, k1, [(0, -2147483648, 2147483647, [])])) (hmn : 0 ≤ v ∧ v ≤ len) (hm0 : len ≤ (n0 : Int)) (hm1 : len ≤ (n1 : Int)) (hw : ∀ w ∈ ([.methodLink own idx arraycopyName, .native arraycopyName, .static arraycopyName, .initialized "java/lang/System"] : List Cond), w ∈ V.2.2.2.2.1) (hR : 1 ≤ R.frames ∧ 60 ≤ R.locals) :
    ck_cs p l e R s m args below meth c Q cc D V.1 tys M sc A (3 * idx + 1, 0, 5, ck_zC t0 t1 v len) := by
  intro pc ls nn ws sh H locs cells slots As rest hdg hls hlen hn0 hpo hrec hwo hP hD hS hc hs hsum hk
  rw [ck_ik1] at hdg
  have hnf : nativeFrameWords "java/lang/System" "arraycopy" 5 + 11 ≤ 52 := by decide +kernel
  obtain ⟨v0, As, rfl, w0, g⟩ := ck_hd hpo.1
  obtain ⟨v1, As, rfl, w1, g⟩ := ck_hd g
  obtain ⟨v2, As, rfl, w2, g⟩ := ck_hd g
  obtain ⟨v3, As, rfl, w3, g⟩ := ck_hd g
  obtain ⟨v4, As, rfl, w4, g⟩ := ck_hd g
  cases As with
  | cons _ _ => exact g.elim
  | nil =>
    have E := hpo.2.2.1
    obtain ⟨-, -, q0, a0, e0, u0, rfl, hq0, hu0, hm0'⟩ := w0.r rfl
    obtain ⟨-, -, q1, a1, e1, u1, rfl, hq1, hu1, hm1'⟩ := w2.r rfl
    rw [List.mem_singleton.mp hm0'] at hu0
    rw [List.mem_singleton.mp hm1'] at hu1
    obtain ⟨-, sp, rfl, hsp⟩ := w1.i rfl
    obtain ⟨-, dp, rfl, hdp⟩ := w3.i rfl
    obtain ⟨-, n, rfl, hn⟩ := w4.i rfl
    have E2 := E 2 (0, len - v) rfl (by show (0 : Int) ≤ len - v; omega)
    have E4 := E 4 (0, len - v) rfl (by show (0 : Int) ≤ len - v; omega)
    have E5 := E 5 (v, v) rfl (Int.le_refl _)
    obtain ⟨td0, g0, c0⟩ := hwo.2.1 q0 a0 e0 t0 hq0 hu0
    obtain ⟨td1, g1, c1⟩ := hwo.2.1 q1 a1 e1 t1 hq1 hu1
    have e0' : td0 = (1, n0, k0, F0') := Option.some.inj (g0.symm.trans h0)
    have e1' : td1 = (1, n1, k1, [(0, -2147483648, 2147483647, [])]) := Option.some.inj (g1.symm.trans h1)
    subst e0' e1'
    obtain ⟨cA0, f0, y0, rfl, -⟩ := c0
    obtain ⟨cA1, f1, y1, rfl, -⟩ := c1
    rw [← hsp] at E2
    rw [← hdp] at E4
    rw [← hn] at E5
    dsimp only at E2 E4 E5
    have nneg : ∀ z : Int32, 0 ≤ z.toInt → ¬ z < 0 := fun z hz => by rw [Int32.lt_iff_toInt_lt]; simpa using hz
    have nz : ∀ z : Int32, 0 ≤ z.toInt → (z.toNatClampNeg : Int) = z.toInt := fun z hz => Int.toNat_of_nonneg hz
    have z1 := nz sp E2.1
    have z2 := nz dp E4.1
    have z3 := nz n (by omega)
    refine va_copyi (rest := rest) X.1 X.2.1 (X.2.2.2.2.2.1.trans hls.symm) X.2.2.1 (hts _ (hw _ (by simp))) (hts _ (hw _ (by simp))) (hts _ (hw _ (by simp))) (hts _ (hw _ (by simp))) X.2.2.2.1 hP hD hS q0 q1 k0 k1 hq0 hq1 y0 y1 rfl (nneg _ E2.1) (nneg _ E4.1) (nneg _ (by omega)) (show sp.toNatClampNeg + n.toNatClampNeg ≤ n0 by omega) (show dp.toNatClampNeg + n.toNatClampNeg ≤ n1 by omega) (fun _ _ => rfl) hR.1 (by omega) hdg (fun H1 locs1 P1 D1 S1 => ?_)
    obtain ⟨W1, W2⟩ := ck_wo_set (Wr := [(t1, 0)]) (e' := .inl (cA1, n1, .inl (va_cpy f0 f1 sp.toNatClampNeg dp.toNatClampNeg n.toNatClampNeg))) hwo hq1 hu1 (fun z => absurd (List.mem_singleton.mpr rfl) z) h1 ⟨cA1, _, y1, rfl, fun t ht => by
      have et := Option.some.inj ht
      subst et
      exact ⟨rfl, fun i _ => ck_i32_in _⟩⟩
    exact hk _ List.mem_cons_self none nn _ sh H1 locs1 (fun _ _ => rfl) W1 W2 P1 D1 S1 ⟨trivial, fun _ h => (List.not_mem_nil h).elim, fun k z hz hle => by
      have hz' : ([(1, 0), (1, 0), (1, 0), (1, 0), (1, 0), (1, 0)] : List (Int × Int))[k]? = some z := hz
      have hzm := List.mem_of_getElem? hz'
      simp at hzm
      rw [hzm] at hle
      exact absurd hle (by decide), fun _ h => (List.not_mem_nil h).elim⟩
end
end
section
/-! layWorlds: the least bit of a set -/
def ck_tb1 (A e : Int) : Bool := A.toNat.testBit e.toNat
theorem ck_hb_v {x : Int64} {k : Int32} (h0 : 0 ≤ x.toInt) (hk0 : 0 ≤ k.toInt) (hk1 : k.toInt ≤ 11) : (((x.toUInt64 >>> (k.toInt64.toUInt64 &&& Int64.toUInt64 63)).toInt64 &&& Int64.ofNat 1).toInt = (Int64.ofNat 1).toInt) ↔ ck_tb1 x.toInt k.toInt = true := by
  obtain ⟨K, hK⟩ : ∃ K : Nat, k.toInt = (K : Int) := ⟨k.toInt.toNat, by omega⟩
  have hK11 : K ≤ 11 := by omega
  have hk : k = Int32.ofNat K := by
    have := ck_i32 (b := k) hk0
    rw [hK] at this
    exact this
  have hsh : ∀ j, j < 12 → ((Int32.ofNat j).toInt64.toUInt64 &&& Int64.toUInt64 63).toNat % 64 = j := by decide +kernel
  have hs := hsh K (by omega)
  rw [← hk] at hs
  have hx : x.toInt = (x.toUInt64.toNat : Int) := by
    have h1 : x.toInt = x.toBitVec.toInt := rfl
    have h2 : x.toUInt64.toNat = x.toBitVec.toNat := rfl
    rw [h1] at h0 ⊢
    rw [h2]
    rw [BitVec.toInt_eq_toNat_cond] at h0 ⊢
    split
    · rfl
    · rename_i hn
      rw [if_neg hn] at h0
      have := x.toBitVec.isLt
      omega
  have e1 : ((x.toUInt64 >>> (k.toInt64.toUInt64 &&& Int64.toUInt64 63)).toInt64 &&& Int64.ofNat 1).toInt = ((x.toUInt64.toNat >>> K % 2 : Nat) : Int) := by
    have hb : ((x.toUInt64 >>> (k.toInt64.toUInt64 &&& Int64.toUInt64 63)).toInt64 &&& Int64.ofNat 1).toBitVec.toNat = x.toUInt64.toNat >>> K % 2 := by
      show ((x.toUInt64 >>> (k.toInt64.toUInt64 &&& Int64.toUInt64 63)).toBitVec &&& (Int64.ofNat 1).toBitVec).toNat = _
      rw [BitVec.toNat_and]
      show (x.toUInt64 >>> (k.toInt64.toUInt64 &&& Int64.toUInt64 63)).toNat &&& 1 = _
      rw [UInt64.toNat_shiftRight, hs, Nat.and_one_is_mod]
    show BitVec.toInt _ = _
    rw [BitVec.toInt_eq_toNat_cond, if_pos (by omega), hb]
  rw [e1]
  unfold ck_tb1
  rw [hx, hK, Int.toNat_natCast, Int.toNat_natCast, Nat.testBit, Nat.one_and_eq_mod_two]
  have h2 : (Int64.ofNat 1).toInt = 1 := by decide
  rw [h2]
  have h3 := Nat.mod_two_eq_zero_or_one (x.toUInt64.toNat >>> K)
  rcases h3 with h3 | h3 <;> rw [h3] <;> decide
/-- hasBit says whether the bit is there -/
theorem ck_hb_met {l : Launch} {V : ck_Wd} {D : va_G} {tys : List (ClassId × FieldType)} {ws : va_W} {sz : Nat} {sw : Option Nat} {x : Int64} {k : Int32} (h0 : 0 ≤ x.toInt) (hk0 : 0 ≤ k.toInt) (hk1 : k.toInt ≤ 11) :
    Met l yX12_hasBit (.code yX12_hasBit cX12_hasBit 3 (some .boolean) :: V.2.2.2.2.1) ⟨0, 0, 0, 0⟩ (va_Pc [.long x, .int k] (ck_st V D tys ws sz sw))
      (fun _ st oc t => ∃ b : Int32, oc = .returned (some (.int b)) ∧ (¬ b.toInt = 0 ↔ ck_tb1 x.toInt k.toInt = true) ∧ t.heap = st.heap) 0 0 (va_A ws sz) := by
  refine ck_ofW (cc := cX12_hasBit) (maxL := 3) (ret := some .boolean) (by decide +kernel) rfl ?_
  intro p e s m args below meth c s₁ B hml hv
  obtain ⟨rfl, -⟩ := hv
  have hx := B.exec
  have hb := B.bytes
  have hr := B.returns
  have hlocks := B.notSynchronized
  have hl := lv_entry [Value.long x, Value.int k] (n := 3) (show 3 ≤ 3 from Nat.le_refl 3)
  rw [lg_entry_eq]
  generalize (lg_sl [Value.long x, Value.int k] ++ List.replicate (3 - (lg_sl [Value.long x, Value.int k]).length) Slot.unset).toArray = ls at hl ⊢
  have hl1 : lv_has ls 3 [(0, .long x), (2, .int k)] := hl
  refine lv_lload_n hx hb (k := 0) (by decide +kernel) rfl (lv_at hl1 0 rfl) ?_
  refine lv_iload_n hx hb (k := 2) (by decide +kernel) rfl (lv_at hl1 1 rfl) ?_
  refine lv_lushr hx hb (by decide +kernel) rfl ?_
  refine lv_lconst hx hb (n := 1) (v := Int64.ofNat 1) (by decide +kernel) rfl ?_
  refine lv_land hx hb (by decide +kernel) ?_
  refine lv_lconst hx hb (n := 1) (v := Int64.ofNat 1) (by decide +kernel) rfl ?_
  refine W.lcmp hx hb (by decide +kernel) ?_
  have hv := ck_hb_v h0 hk0 hk1
  have fin : ∀ b : Int32, b.toInt = 0 ∨ b.toInt = 1 → (¬ b.toInt = 0 ↔ ck_tb1 x.toInt k.toInt = true) → W p l e (headSpec (.code yX12_hasBit cX12_hasBit 3 (some .boolean) :: V.2.2.2.2.1) ⟨0, 0, 0, 0⟩).room s m [Value.long x, Value.int k].toArray below meth c s.heap [] 0 0 (MQ below (fun _ st oc t => ∃ b : Int32, oc = .returned (some (.int b)) ∧ (¬ b.toInt = 0 ↔ ck_tb1 x.toInt k.toInt = true) ∧ t.heap = st.heap) [Value.long x, Value.int k].toArray s 0 0 (va_A ws sz)) (F0 m 15 ls [.int b]) := by
    intro b hb1 hb2
    refine W.zret hx hb hr (ck_nar_b (by omega) (by omega)).1 (fun t ht hW => ⟨b, rfl, hb2, ht⟩) (fun q hq => absurd hq List.not_mem_nil) (by decide +kernel) hlocks
  refine ck_row_if hx hb (cd := .ne) (off := 7) (tgt := 14) (by decide +kernel) (by decide) (fun h => ?_) (fun h => ?_)
  · have h : ¬ (lg_cmp _ _).toInt = 0 := h
    rw [ck_lg] at h
    refine lv_iconst hx hb (n := 0) (by decide +kernel) rfl ?_
    refine fin _ (Or.inl (by decide)) ⟨fun z => absurd (by decide) z, fun z => ?_⟩
    have := hv.mpr z
    rw [this] at h
    exact absurd (by rw [if_neg (Int.lt_irrefl _), if_pos rfl]) h
  · have h : ¬ ¬ (lg_cmp _ _).toInt = 0 := h
    rw [ck_lg] at h
    refine lv_iconst hx hb (n := 1) (by decide +kernel) rfl ?_
    refine lv_goto hx hb (off := 4) (tgt := 15) (by decide +kernel) (by decide) ?_
    refine fin _ (Or.inr (by decide)) ⟨fun _ => hv.mp ?_, fun _ => by decide⟩
    have h := Decidable.of_not_not h
    split at h
    · exact absurd h (by decide)
    · split at h
      · assumption
      · exact absurd h (by decide)
theorem ck_no_low {A : Int} (h1 : 1 ≤ A) (h2 : A ≤ 4095) (h : ∀ i : Nat, i < 12 → A.toNat.testBit i = false) : False := by
  have hz : A.toNat = 0 := by
    refine Nat.eq_of_testBit_eq (fun i => ?_)
    rw [Nat.zero_testBit]
    rcases Nat.lt_or_ge i 12 with hi | hi
    · exact h i hi
    · refine Nat.testBit_lt_two_pow (Nat.lt_of_lt_of_le (show A.toNat < 2 ^ 12 by omega) (Nat.pow_le_pow_right (by decide) hi))
  omega
section
variable {p : Program} {l : Launch} {e : Env} {R : Room} {s : State} {m : MethodId} {args : Array Value} {below : List Frame} {meth : Method} {c : Code} {Q : State → Prop} {D : va_G} {tys : List (ClassId × FieldType)} {M : ck_Me} {sc : ck_sc} {A : Nat → Prop} {V : ck_Wd} {ws0 : va_W} {sh0 : List Nat}
/-- while (!hasBit(set, e)) e++: ends with e in 0..11 -/
theorem ck_lw_loop (X : ck_cx p l e R s m args below meth c cX12_layWorlds "ReasonDeskModel" D V.1 tys M sc A) (hts : ∀ w ∈ V.2.2.2.2.1, w.before args s = true) (htl : tys.map Prod.snd = V.2.2.2.1) (hsw : sc.2.1.isSome = true) (hnc : ck_nq V s) (hg : ck_gd V.2.2.2.2.1)
    (hwd : ∀ w ∈ ([.methodLink "ReasonDeskModel" 158 yX12_hasBit, .static yX12_hasBit, .initialized yX12_hasBit.cls, .code yX12_hasBit cX12_hasBit 3 (some .boolean)] : List Cond), w ∈ V.2.2.2.2.1) (hR : 1 ≤ R.frames ∧ 30 ≤ R.locals)
    {ws : va_W} {H : Heap} {cells slots : Nat} (hP : va_P D V.1 ws H) (hD : va_D A ws) (hcs : cells ≤ R.cells ∧ slots ≤ R.slots) {x : Int32} (x1 : 1 ≤ x.toInt) (x2 : x.toInt ≤ 4095) {lvr : List (Nat × Value)} (hfil : lvr.filter (fun q => !(q.1 == 2) && !(q.1 + 1 == 2 && q.2.category == 2)) = lvr) (hm1 : (1, Value.int x) ∈ lvr) (hn2 : 2 < mnL M)
    (kk : ∀ (e' : Int32) (ls' : Array Slot) (locs' : List Loc), 0 ≤ e'.toInt → e'.toInt ≤ 11 → lv_has ls' (mnL M) ((2, .int e') :: lvr) → va_S A s.heap H locs' → W p l e R s m args below meth c H locs' cells slots Q (F0 m 64 ls' [])) :
    ∀ (f j : Nat), j + f = 12 → ∀ (e0 : Int32) (ls : Array Slot) (locs : List Loc), e0.toInt = (j : Int) → (∀ i, i < j → x.toInt.toNat.testBit i = false) → lv_has ls (mnL M) ((2, .int e0) :: lvr) → va_S A s.heap H locs → W p l e R s m args below meth c H locs cells slots Q (F0 m 49 ls []) := by
  intro f
  induction f with
  | zero =>
    intro j hj e0 ls locs he hbits hls hS
    exact (ck_no_low x1 x2 (fun i hi => hbits i (by omega))).elim
  | succ f ih =>
    intro j hj e0 ls locs he hbits hls hS
    have hb := X.2.1
    refine lv_iload_n X.1 hb (k := 1) (by decide +kernel) rfl (hls.2.2 (1, .int x) (List.mem_cons_of_mem _ hm1)) ?_
    refine lv_i2l X.1 hb (by decide +kernel) rfl ?_
    refine lv_iload_n X.1 hb (k := 2) (by decide +kernel) rfl (hls.2.2 (2, .int e0) List.mem_cons_self) ?_
    have hxl : x.toInt64.toInt = x.toInt := Int32.toInt_toInt64 x
    have hA1 : ∀ q, va_A ws H.size q → A q := by
      rintro q (⟨k, e', h⟩ | h)
      · exact hD.2 k _ h
      · exact X.2.2.2.2.1 q (Nat.le_trans hS.1 h)
    have hMet := ck_hb_met (l := l) (V := V) (D := D) (tys := tys) (ws := ws) (sz := H.size) (sw := sc.2.1) (x := x.toInt64) (k := e0) (by omega) (by omega) (by omega)
    have hpre : ∀ U : State, U.heap = H → s.WarmedH U.vm → va_Pc [.long x.toInt64, .int e0] (ck_st V D tys ws H.size sc.2.1) [Value.long x.toInt64, Value.int e0].toArray U := by
      intro U hU hW
      refine ⟨rfl, by rw [hU], by rw [hU]; exact hP, va_K.moved hW.alike X.2.2.2.1, hD.weaken (fun _ _ _ _ => trivial), hnc.warm hW, fun w hw => ?_⟩
      obtain ⟨g1, f, g2⟩ := X.2.2.2.2.2.2.2.2.2 w hw
      exact ⟨by rw [hU]; exact ((g1.kept hS.2.1).narrow hA1).moved hW.alike, f, by rw [hU]; exact ((g2.kept hS.2.1).narrow hA1).moved hW.alike⟩
    have hGi : GoodIn V.2.2.2.2.1 (va_wsS "ReasonDeskModel" 158 yX12_hasBit (.code yX12_hasBit cX12_hasBit 3 (some .boolean) :: V.2.2.2.2.1)) := ck_good hg (fun w hww => by
      rcases List.mem_append.mp hww with q | q
      · simp only [List.mem_cons, List.not_mem_nil, or_false] at q
        rcases q with rfl | rfl | rfl <;> exact hwd _ (by simp)
      · rcases List.mem_cons.mp q with rfl | q
        · exact hwd _ (by simp)
        · exact q)
    have hd52 : decode cX12_layWorlds 52 = .ok (.invokestatic 158, 3) := by decide +kernel
    have run := va_runS (rest := []) (nL := mnL M) ⟨X.1, hb, X.2.2.2.2.2.1, X.2.2.1, hts⟩ hMet (va_cwS (R := R) (maxL := 3) 2 hts hGi rfl rfl rfl ⟨by decide, by decide, by decide +kernel⟩ ⟨by show 0 + 1 ≤ _; omega, by show 8 + (3 + 11) + 0 ≤ _; omega⟩) (l := l) (e := e) (below := below) (meth := meth) (locs := locs) (cells := cells) (slots := slots) ⟨ck_st_blind, hpre⟩ (g := F0 m 52 ls [.int e0, .long x.toInt64]) rfl rfl hls.1 rfl (ck_lroom (by decide)) hd52 ⟨hcs.1, hcs.2⟩
    intro T hT Xs
    obtain ⟨v, st₀, u, T', L, h0, X', hL, e1, e2, ⟨b, hrv, hbt, hheap⟩, st⟩ := run T hT Xs
    cases hrv
    have hS' : va_S A s.heap H (locs ++ L) := ⟨hS.1, hS.2.1, fun q hq => by
      rcases List.mem_append.mp hq with h | h
      · exact hS.2.2 q h
      · exact hA1 _ (hL q h)⟩
    have next : W p l e R s m args below meth c H (locs ++ L) cells slots Q (F0 m 55 ls [.int b]) := by
      refine ck_row_if X.1 hb (cd := .ne) (off := 9) (tgt := 64) (by decide +kernel) (by decide) (fun h => ?_) (fun h => ?_)
      · exact kk e0 ls _ (by omega) (by omega) hls hS'
      · have h : ¬ ¬ b.toInt = 0 := h
        have hbf : x.toInt.toNat.testBit j = false := by
          cases hc : x.toInt.toNat.testBit j with
          | false => rfl
          | true =>
            refine absurd (hbt.mpr ?_) h
            unfold ck_tb1
            rw [hxl, he]
            exact hc
        refine lv_iinc X.1 hb (v := e0 + Int32.ofInt 1) (k := 0) (by decide +kernel) hls rfl rfl hn2 rfl (fun ls' hls' => ?_)
        rw [List.filter_cons] at hls'
        simp only [beq_self_eq_true, Bool.not_true, Bool.false_and, Bool.false_eq_true, if_false] at hls'
        rw [hfil] at hls'
        refine lv_goto X.1 hb (off := -12) (tgt := 49) (by decide +kernel) (by decide) ?_
        have hj11 : j ≤ 11 := by omega
        refine ih (j + 1) (by omega) _ ls' _ ?_ (fun i hi => ?_) hls' hS'
        · have h1 : (Int32.ofInt 1).toInt = 1 := by decide
          have e32 : e0 = Int32.ofNat j := by
            have := ck_i32 (b := e0) (by omega)
            rw [he] at this
            exact this
          rw [e32]
          have hd : ∀ j, j < 12 → (Int32.ofNat j + Int32.ofInt 1).toInt = ((j + 1 : Nat) : Int) := by decide +kernel
          exact hd j (by omega)
        · rcases Nat.lt_or_ge i j with hij | hij
          · exact hbits i hij
          · rw [show i = j by omega]
            exact hbf
    obtain ⟨t2, a1, b1⟩ := next T' (by rw [e1, hheap, h0]) X'
    exact ⟨t2, st t2 a1, b1⟩
/-- from 49 to 64 -/
def ck_sLw (F : Nat) (S : ck_S) : Option (List ck_S) := match S.2.1, ck_look S.1 1, ck_look S.1 2 with
  | [], some a, some b => if a.1 = 0 ∧ b.1 = 0 ∧ ck_ent S.2.2.2.1 S.2.2.2.2.1 F 0 a.2.1 (-1) = true ∧ ck_ent S.2.2.2.1 S.2.2.2.2.1 F a.2.1 0 4095 = true ∧ ck_ent S.2.2.2.1 S.2.2.2.2.1 F 0 b.2.1 0 = true ∧ ck_ent S.2.2.2.1 S.2.2.2.2.1 F b.2.1 0 0 = true ∧ S.2.2.2.2.2 = (0, 0) then
      some [(ck_st1 S.1 2 (0, S.2.2.2.1.length, []), [], S.2.2.1, S.2.2.2.1 ++ [(0, 11)], S.2.2.2.2.1, S.2.2.2.2.2)] else none
  | _, _, _ => none
theorem ck_sLw_ok (X : ck_cx p l e R s m args below meth c cX12_layWorlds "ReasonDeskModel" D V.1 tys M sc A) (hts : ∀ w ∈ V.2.2.2.2.1, w.before args s = true) (htl : tys.map Prod.snd = V.2.2.2.1) (hsw : sc.2.1.isSome = true) (hnc : ck_nq V s) (hg : ck_gd V.2.2.2.2.1)
    (hwd : ∀ w ∈ ([.methodLink "ReasonDeskModel" 158 yX12_hasBit, .static yX12_hasBit, .initialized yX12_hasBit.cls, .code yX12_hasBit cX12_hasBit 3 (some .boolean)] : List Cond), w ∈ V.2.2.2.2.1) (hR : 1 ≤ R.frames ∧ 30 ≤ R.locals) (hn2 : 2 < mnL M)
    {F : Nat} {S : ck_S} {L : List ck_S} (h : ck_sLw F S = some L) (hk : ∀ S' ∈ L, ck_g p l e R s m args below meth c Q D V.1 tys M sc A ws0 sh0 S' 64) : ck_g p l e R s m args below meth c Q D V.1 tys M sc A ws0 sh0 S 49 := by
  intro n ws sh H locs ls vs o hw hx hP hD hS
  unfold ck_sLw at h
  split at h
  · rename_i a b hst ha hb
    split at h
    · rename_i hc
      obtain ⟨c1, c2, c3, c4, c5, c6, c7⟩ := hc
      have hcs : ck_oc R M + S.2.2.2.2.2.1 ≤ R.cells ∧ ck_os R M + S.2.2.2.2.2.2 ≤ R.slots := by rw [c7]; exact ⟨Nat.sub_le _ _, Nat.sub_le _ _⟩
      have eL := Option.some.inj h
      have o3 := o.2.2.1
      rw [hst] at o3
      cases vs with
      | cons _ _ => exact o3.elim
      | nil =>
        have p3 := ck_ent_ok o.2.2.2.2.1 o.2.2.2.2.2 F _ _ _ c3
        have p4 := ck_ent_ok o.2.2.2.2.1 o.2.2.2.2.2 F _ _ _ c4
        have p5 := ck_ent_ok o.2.2.2.2.1 o.2.2.2.2.2 F _ _ _ c5
        have p6 := ck_ent_ok o.2.2.2.2.1 o.2.2.2.2.2 F _ _ _ c6
        rw [o.1.2] at p3 p4 p5 p6
        obtain ⟨lv, l1, l2⟩ := id o.2.1
        have get : ∀ (i : Nat) (v : ck_V), ck_look S.1 i = some v → v.1 = 0 → ∃ z : Int32, (i, Value.int z) ∈ lv ∧ z.toInt = (n v.2.1).1 := by
          intro i v hv h0
          unfold ck_look at hv
          cases hf : S.1.find? (fun q => q.1 == i) with
          | none => rw [hf] at hv; cases hv
          | some q0 =>
            rw [hf] at hv
            have e1 : q0.2 = v := Option.some.inj hv
            have hm := List.mem_of_find?_eq_some hf
            have hp := List.find?_some hf
            have hi0 : q0.1 = i := eq_of_beq hp
            obtain ⟨y, hy, z1, z2⟩ := ck_two.mem l2 hm
            rw [e1] at z2
            obtain ⟨hlt, x, ex, ex2⟩ := z2.i h0
            refine ⟨x, ?_, ex2⟩
            have ey : y = (i, .int x) := by rw [← hi0, z1, ← ex]
            rw [← ey]
            exact hy
        obtain ⟨x, hx1, ex⟩ := get 1 a ha c1
        obtain ⟨e0, hx2, ee⟩ := get 2 b hb c2
        have hfil : (lv.filter (fun q => !(q.1 == 2) && !(q.1 + 1 == 2 && q.2.category == 2))).filter (fun q => !(q.1 == 2) && !(q.1 + 1 == 2 && q.2.category == 2)) = lv.filter (fun q => !(q.1 == 2) && !(q.1 + 1 == 2 && q.2.category == 2)) := by
          rw [List.filter_filter]
          congr 1
          funext q
          exact Bool.and_self _
        refine ck_lw_loop X hts htl hsw hnc hg hwd hR hP hD hcs (x := x) (by omega) (by omega) hfil (List.mem_filter.mpr ⟨hx1, rfl⟩) hn2 (fun e' ls' locs' h1 h2 hl hS' => ?_) 12 0 rfl e0 ls locs (by omega) (fun i hi => absurd hi (Nat.not_lt_zero i)) ⟨l1.1, l1.2.1, fun q hq => ?_⟩ hS
        · have hlen : (S.2.2.2.1 ++ [((0 : Int), (11 : Int))]).length = S.2.2.2.1.length + 1 := by simp
          have o1 := o.new (st := []) (vs' := []) trivial (tag := 0) (ts := []) (iv := (0, 11)) (rs := []) (x := (e'.toInt, .null)) (v := .int e') (.mi (Nat.lt_succ_self _) (by rw [ck_nx_eq])) (fun _ => ⟨h1, h2⟩) (fun r hr => by cases hr)
          obtain ⟨lv', k1, k2⟩ := o1.2.1
          have o2 : ck_so (mnL M) (mSG M) (ck_st1 S.1 2 (0, S.2.2.2.1.length, []), [], S.2.2.1, S.2.2.2.1 ++ [(0, 11)], S.2.2.2.2.1, S.2.2.2.2.2) (ck_nx n S.2.2.2.1.length (e'.toInt, .null)) ws sh sc ls' [] := by
            refine ⟨o1.1, ⟨_, hl, ⟨⟨rfl, ?_⟩, ?_⟩⟩, trivial, o1.2.2.2⟩
            · refine .mi ?_ (by rw [ck_nx_eq])
              show _ < (S.2.2.2.1 ++ [((0 : Int), (11 : Int))]).length
              rw [hlen]
              exact Nat.lt_succ_self _
            · have l3 := (ck_lo.up (n' := ck_nx n S.2.2.2.1.length (e'.toInt, .null)) ck_nx_lt (N' := (S.2.2.2.1 ++ [((0 : Int), (11 : Int))]).length) (by rw [hlen]; exact Nat.le_succ _) (⟨lv, l1, l2⟩ : ck_lo ws sh sc n S.2.2.2.1.length (mnL M) S.1 ls))
              exact ((l2.imp fun u w huw => ⟨huw.1, huw.2.up (n' := ck_nx n S.2.2.2.1.length (e'.toInt, .null)) ck_nx_lt (N' := (S.2.2.2.1 ++ [((0 : Int), (11 : Int))]).length) (by rw [hlen]; exact Nat.le_succ _)⟩) : ck_two _ S.1 lv).flt ck_flt1
          exact (hk _ (by rw [← eL]; exact List.mem_cons_self)).at o2 hw hx hP hD hS' rfl
        · rcases List.mem_cons.mp hq with rfl | hq
          · exact l1.2.2 _ hx2
          · exact l1.2.2 q (List.mem_filter.mp hq).1
    · cases h
  · cases h
end
end
section
/-! an array's content, by its note: loads and stores at a known place; a contract by parts with cases of their own -/
def ck_k1 (E : ck_E) (i : Nat) : Option Nat := match E[i]? with
  | some iv => if iv.1 = iv.2 ∧ 0 ≤ iv.1 then some iv.1.toNat else none
  | none => none
theorem ck_k1_ok {E : ck_E} {n : ck_N} {i z : Nat} (h : ck_k1 E i = some z) (he : ck_eo E n) : (n i).1 = (z : Int) := by
  unfold ck_k1 at h
  split at h
  · rename_i iv hiv
    split at h
    · rename_i hc
      have e := Option.some.inj h
      have p := he i iv hiv (by omega)
      omega
    · cases h
  · cases h
def ck_sCl (F t len : Nat) (S : ck_S) : Option (List ck_S) := match S.2.1 with
  | i :: r :: st => if i.1 = 0 ∧ r.1 = 2 ∧ r.2.2 = [t] ∧ ck_ent S.2.2.2.1 S.2.2.2.2.1 F 0 i.2.1 0 = true ∧ ck_ent S.2.2.2.1 S.2.2.2.2.1 F i.2.1 0 ((len : Int) - 1) = true then (match ck_k1 S.2.2.2.1 i.2.1, ck_fn t 50 S with
    | some z, some y => (match y.2[z]? with
      | some k => some [(S.1, (0, k, []) :: st, S.2.2)]
      | none => none)
    | _, _ => none) else none
  | _ => none
def ck_sCs (F t len : Nat) (lo hi : Int) (S : ck_S) : Option (List ck_S) := match S.2.1 with
  | v :: i :: r :: st => if v.1 = 0 ∧ i.1 = 0 ∧ r.1 = 2 ∧ r.2.2 = [t] ∧ ck_ent S.2.2.2.1 S.2.2.2.2.1 F 0 i.2.1 0 = true ∧ ck_ent S.2.2.2.1 S.2.2.2.2.1 F i.2.1 0 ((len : Int) - 1) = true ∧ ck_ent S.2.2.2.1 S.2.2.2.2.1 F v.2.1 0 hi = true ∧ ck_ent S.2.2.2.1 S.2.2.2.2.1 F 0 v.2.1 (-lo) = true then (match ck_k1 S.2.2.2.1 i.2.1, ck_fn t 50 S with
    | some z, some y => some [(S.1, st, (t, 0, (50, y.1, y.2.set z v.2.1)) :: S.2.2.1.filter (fun m => !(m.1 == t)), S.2.2.2)]
    | _, _ => none) else none
  | _ => none
section
variable {p : Program} {l : Launch} {e : Env} {R : Room} {s : State} {m : MethodId} {args : Array Value} {below : List Frame} {meth : Method} {c : Code} {Q : State → Prop} {cc : ByteArray} {own : String} {D : va_G} {cl : List vw_C} {tys : List (ClassId × FieldType)} {M : ck_Me} {sc : ck_sc} {A : Nat → Prop} {ws0 : va_W} {sh0 : List Nat} {S : ck_S} {pc : Nat}
theorem ck_sCl_ok (X : ck_cx p l e R s m args below meth c cc own D cl tys M sc A) {F t len k0 : Nat} {T : ck_T} (hTT : (mTT M)[t]? = some (1, len, k0, [T])) {L : List ck_S} (h : ck_sCl F t len S = some L) (hk : ∀ S' ∈ L, ck_g p l e R s m args below meth c Q D cl tys M sc A ws0 sh0 S' (pc + 1)) (hdg : decode cc pc = .ok (.iaload, 1)) : ck_g p l e R s m args below meth c Q D cl tys M sc A ws0 sh0 S pc := by
  intro n ws sh H locs ls vs o hw hx hP hD hS
  unfold ck_sCl at h
  split at h
  · rename_i i r st hst
    split at h
    · rename_i hc
      split at h
      · rename_i z y hz hy
        split at h
        · rename_i k hky
          have eL := Option.some.inj h
          refine ck_ird X hTT hst hc hdg o hw hP (fun q a cA f vs2 hq ht hil hn0 hn1 hb h5 => ?_)
          obtain ⟨x, hx1, x1, x2, x3, x4⟩ := ck_fn_ok hy
          obtain ⟨g1, g2, g3, g4, cA', len', f', e1, g5⟩ := ck_note o hx1 x1 x2 (by decide) hw.2.2 hq ht
          cases e1
          have g5 : ∀ (i : Nat) (z : Int), (x.2.2.2.2.map (fun j => (n j).1))[i]? = some z → (f i).toInt = z := g5
          have hzi := ck_k1_ok hz o.2.2.2.2.1
          have hmem : k ∈ x.2.2.2.2 := by rw [x4]; exact List.mem_of_getElem? hky
          have hv := g5 z (n k).1 (by rw [List.getElem?_map, x4, hky]; rfl)
          have ez : (n i.2.1).1.toNat = z := by omega
          rw [ez]
          exact (hk (S.1, (0, k, []) :: st, S.2.2) (by rw [← eL]; exact List.mem_cons_self)).at (S := S) (o.ss (st := (0, k, []) :: st) ⟨.mi (g4 k hmem) hv, h5⟩) hw hx hP hD hS rfl
        · cases h
      · cases h
    · cases h
  · cases h
theorem ck_sCs_ok (X : ck_cx p l e R s m args below meth c cc own D cl tys M sc A) {F t len k0 : Nat} {lo hi : Int} {ts : List Nat} (hTT : (mTT M)[t]? = some (1, len, k0, [(0, lo, hi, ts)])) (hW : (t, 0) ∈ mWr M) {L : List ck_S} (h : ck_sCs F t len lo hi S = some L) (hk : ∀ S' ∈ L, ck_g p l e R s m args below meth c Q D cl tys M sc A ws0 sh0 S' (pc + 1)) (hdg : decode cc pc = .ok (.iastore, 1)) : ck_g p l e R s m args below meth c Q D cl tys M sc A ws0 sh0 S pc := by
  intro n ws sh H locs ls vs o hw hx hP hD hS
  unfold ck_sCs at h
  split at h
  · rename_i v i r st hst
    split at h
    · rename_i hc
      obtain ⟨hv0, hi0, hr2, hrt, hb1, hb2, hb3, hb4⟩ := hc
      split at h
      · rename_i z y hz hy
        have eL := Option.some.inj h
        have o3 := o.2.2.1
        rw [hst] at o3
        obtain ⟨vv, vs0, rfl, h1, h1'⟩ := ck_hd o3
        obtain ⟨iv', vs1, rfl, h2, h3⟩ := ck_hd h1'
        obtain ⟨ra, vs2, rfl, h4, h5⟩ := ck_hd h3
        obtain ⟨hvl, v0, rfl, ev⟩ := h1.i hv0
        obtain ⟨hil, x, rfl, ex⟩ := h2.i hi0
        obtain ⟨-, -, q, a, e0, t', rfl, hq, ht, htm⟩ := h4.r hr2
        rw [hrt] at htm
        rw [List.mem_singleton.mp htm] at ht
        have p1 := ck_ent_ok o.2.2.2.2.1 o.2.2.2.2.2 F _ _ _ hb1
        have p2 := ck_ent_ok o.2.2.2.2.1 o.2.2.2.2.2 F _ _ _ hb2
        have p3 := ck_ent_ok o.2.2.2.2.1 o.2.2.2.2.2 F _ _ _ hb3
        have p4 := ck_ent_ok o.2.2.2.2.1 o.2.2.2.2.2 F _ _ _ hb4
        rw [o.1.2] at p1 p2 p3 p4
        obtain ⟨y0, hy1, x1, x2, x3, x4⟩ := ck_fn_ok hy
        obtain ⟨g1, g2, g3, g4, cA0, len0, f0, e1, g5⟩ := ck_note o hy1 x1 x2 (by decide) hw.2.2 hq ht
        have hzi := ck_k1_ok hz o.2.2.2.2.1
        subst e1
        refine ck_ist X hTT hW hw hx hP hD hS hq ht (by omega) (by omega) ⟨by dsimp only; omega, by dsimp only; omega⟩ hdg (fun cA' f' H1 locs1 ee w1 w2 w3 hP1 hD1 hS1 hq' => ?_)
        have eff : f0 = f' := by cases ee; rfl
        subst eff
        have g5 : ∀ (i : Nat) (z : Int), (y0.2.2.2.2.map (fun j => (n j).1))[i]? = some z → (f0 i).toInt = z := g5
        have o1 := o.wr h5 w1
        have o2 := o1.nt (x := (t, 0, (50, y.1, y.2.set z v.2.1))) (by
          refine ⟨by dsimp only; omega, g2, g1, rfl, by rw [← x3]; exact g3, fun j hj => ?_, q, a, cA', len, upd f0 x.toInt.toNat v0, ht, hq', ?_⟩
          · rcases List.mem_or_eq_of_mem_set hj with hj | rfl
            · exact g4 j (by rw [x4]; exact hj)
            · exact hvl
          · show ∀ (i : Nat) (z' : Int), ((y.2.set z v.2.1).map (fun j => (n j).1))[i]? = some z' → (upd f0 x.toInt.toNat v0 i).toInt = z'
            intro j z' hj
            have ez : x.toInt.toNat = z := by omega
            rw [ez]
            unfold upd
            rw [List.getElem?_map, List.getElem?_set] at hj
            by_cases ej : z = j
            · rw [if_pos ej] at hj
              rw [if_pos ej.symm]
              split at hj
              · have h7 : (n v.2.1).1 = z' := Option.some.inj hj
                omega
              · cases hj
            · rw [if_neg ej] at hj
              rw [if_neg (fun q => ej q.symm)]
              exact g5 j z' (by rw [List.getElem?_map, x4]; exact hj))
        exact (hk _ (by rw [← eL]; exact List.mem_cons_self)).at o2 w2 w3 hP1 hD1 hS1 rfl
      · cases h
    · cases h
  · cases h
end
/-- a contract by parts of an argument, each with cases of its own -/
theorem ck_met_splitC {V : ck_Wd} {l : Launch} {y : MethodName} {cc : ByteArray} {nL : Nat} {ret : Option FieldType} {rm : Room} {C : ck_C} {k : Nat} {iv : Int × Int} (hk : C.1.2.2.1[k]? = some iv) (hle : iv.1 ≤ iv.2) (ps : List ((Int × Int) × List ck_P)) (hcov : ∀ z, iv.1 ≤ z → z ≤ iv.2 → ∃ x ∈ ps, x.1.1 ≤ z ∧ z ≤ x.1.2)
    (h0 : 0 < C.1.2.2.1.length) (hsub : ∀ x ∈ ps, ∀ P ∈ x.2, C.1.2.2.1.length ≤ P.2.2.1.length ∧ (P.1, P.2.1, P.2.2.1, (k, 0, x.1.2) :: (0, k, -x.1.1) :: P.2.2.2) ∈ C.2.1)
    (h : ∀ x ∈ ps, ck_met V l y cc nL ret rm ((C.1.1, C.1.2.1, C.1.2.2.1.set k x.1, C.1.2.2.2), x.2, C.2.2)) : ck_met V l y cc nL ret rm C := by
  intro D tys ws sh sz n1 As sw htl hsw hn0 hpo hwo hph
  obtain ⟨z1, z2⟩ := hpo.2.2.1 k iv hk hle
  obtain ⟨x, hx, x1, x2⟩ := hcov _ z1 z2
  have hkl : k < C.1.2.2.1.length := (List.getElem?_eq_some_iff.mp hk).1
  have hl : (C.1.2.2.1.set k x.1).length = C.1.2.2.1.length := List.length_set
  have hm := h x hx D tys ws sh sz n1 As sw htl hsw hn0 (by
    show ck_po _ _ _ _ _ (C.1.2.2.1.set k x.1).length (C.1.1, C.1.2.1, C.1.2.2.1.set k x.1, C.1.2.2.2) As
    rw [hl]
    refine ⟨hpo.1, hpo.2.1, fun j w hj hjl => ?_, hpo.2.2.2⟩
    dsimp only at hj
    by_cases ej : k = j
    · subst ej
      rw [List.getElem?_set_self hkl] at hj
      have ew := Option.some.inj hj
      rw [← ew]
      exact ⟨x1, x2⟩
    · rw [List.getElem?_set_ne ej] at hj
      exact hpo.2.2.1 j w hj hjl) hwo hph
  refine MetFree.mono hm (fun _ _ h => h) (fun _ _ _ _ _ h => h) ?_
  rintro a st oc t - ⟨⟨⟨P, hP, rv, n2, ws', sh', q1, q2, q3, q4, q5, q6, q7, q8⟩, q9⟩, hfr⟩
  dsimp only at q2
  rw [hl] at q2
  obtain ⟨hPl, hPm⟩ := hsub x hx P hP
  refine ⟨⟨⟨_, hPm, rv, n2, ws', sh', q1, q2, q3, q4, q5, q6, ⟨q7.1, q7.2.1, q7.2.2.1, fun r hr => ?_⟩, q8⟩, q9⟩, hfr⟩
  have hn20 : (n2 0).1 = 0 := by rw [q2 0 h0]; exact hn0
  have hn2k : (n2 k).1 = (n1 k).1 := by rw [q2 k hkl]
  have hlt : k < P.2.2.1.length := Nat.lt_of_lt_of_le hkl hPl
  have hlt0 : 0 < P.2.2.1.length := Nat.lt_of_lt_of_le h0 hPl
  rcases List.mem_cons.mp hr with rfl | hr
  · refine ⟨hlt, hlt0, ?_⟩
    dsimp only
    rw [hn20, hn2k]
    omega
  · rcases List.mem_cons.mp hr with rfl | hr
    · refine ⟨hlt0, hlt, ?_⟩
      dsimp only
      rw [hn20, hn2k]
      omega
    · exact q7.2.2.2 r hr
/-- parts one behind the other leave nothing out -/
def ck_cv (lo hi : Int) : List (Int × Int) → Bool
  | [] => decide (hi < lo)
  | p :: l => decide (p.1 ≤ lo) && ck_cv (p.2 + 1) hi l
theorem ck_cv_ok {hi : Int} : ∀ {l : List ((Int × Int) × List ck_P)} {lo : Int}, ck_cv lo hi (l.map Prod.fst) = true → ∀ z, lo ≤ z → z ≤ hi → ∃ x ∈ l, x.1.1 ≤ z ∧ z ≤ x.1.2
  | [], lo, h, z, h1, h2 => by
    have h3 := of_decide_eq_true h
    omega
  | p :: l, lo, h, z, h1, h2 => by
    rw [List.map_cons, ck_cv, Bool.and_eq_true, decide_eq_true_eq] at h
    rcases Int.lt_or_le p.1.2 z with h3 | h3
    · obtain ⟨x, hx, g⟩ := ck_cv_ok h.2 z (by omega) h2
      exact ⟨x, List.mem_cons_of_mem _ hx, g⟩
    · exact ⟨p, List.mem_cons_self, by omega, h3⟩
end
section
/-! the types, the tables by place -/
abbrev cw_cls : List vw_C := [(RX0, TX0, 5), (RX1, TX1, 1), (RX2, TX2, 12), (RX3, TX3, 17), (RX4, TX4, 7), (RX5, TX5, 5), (RX6, TX6, 4), (RX7, TX7, 4), (RX8, TX8, 5), (RX9, TX9, 12), (RX4, TX4, 7), (RX11, TX11, 15), (RX12, TX12, 68)]
def cw_TT : List ck_D := [
  (9, 0, 0, []),
  (0, 1, 0, [(2, 0, 0, [2])]),
  (2, 4, 1, []),
  (0, 1, 0, [(2, 0, 0, [4])]),
  (2, 16, 1, []),
  (0, 1, 0, [(2, 0, 0, [6])]),
  (2, 64, 1, []),
  (0, 4, 0, [(0, (-2147483648), 2147483647, []), (0, (-2147483648), 2147483647, []), (0, 0, 5, []), (0, (-2147483648), 2147483647, []), (0, (-2147483648), 2147483647, []), (0, (-2147483648), 2147483647, []), (0, (-2147483648), 2147483647, [])]),
  (0, 8, 0, [(0, (-2147483648), 2147483647, []), (0, (-2147483648), 2147483647, []), (0, (-2147483648), 2147483647, []), (0, (-2147483648), 2147483647, []), (0, (-2147483648), 2147483647, [])]),
  (0, 0, 0, [(0, (-2147483648), 2147483647, []), (0, (-2147483648), 2147483647, []), (0, (-2147483648), 2147483647, []), (0, (-2147483648), 2147483647, []), (0, (-2147483648), 2147483647, [])]),
  (0, 5, 0, [(0, (-2147483648), 2147483647, []), (0, (-2147483648), 2147483647, []), (0, (-2147483648), 2147483647, []), (0, (-2147483648), 2147483647, []), (0, (-2147483648), 2147483647, [])]),
  (0, 11, 0, [(2, 0, 0, [18]), (0, 0, 60, []), (2, 0, 0, [1]), (2, 0, 0, [1]), (2, 0, 0, [12]), (2, 0, 0, [13]), (2, 0, 0, [14]), (2, 0, 0, [15]), (2, 0, 0, [16]), (2, 0, 0, [19]), (2, 0, 0, [21]), (2, 0, 0, [22]), (2, 0, 0, [23]), (2, 0, 0, [24]), (0, (-2147483648), 2147483647, [])]),
  (0, 7, 0, [(2, 0, 0, [25]), (2, 0, 0, [26]), (0, 0, 60, []), (0, 0, 32, [])]),
  (0, 2, 0, [(2, 0, 0, [27]), (0, 0, 12, []), (0, (-2147483648), 2147483647, []), (0, (-2147483648), 2147483647, []), (2, 0, 0, [28]), (2, 0, 0, [29]), (2, 0, 0, [1]), (2, 0, 0, [5]), (2, 0, 0, [5]), (2, 0, 0, [5]), (2, 0, 0, [5]), (0, (-2147483648), 2147483647, [])]),
  (0, 9, 0, [(2, 0, 0, [1]), (0, 0, 10, []), (2, 0, 0, [30]), (2, 0, 0, [31]), (2, 0, 0, [32]), (2, 0, 0, [33]), (2, 0, 0, [1]), (2, 0, 0, [1]), (2, 0, 0, [3]), (2, 0, 0, [3]), (0, (-2147483648), 2147483647, []), (0, (-2147483648), 2147483647, [])]),
  (0, 3, 0, [(0, 0, 12, []), (0, (-2147483648), 2147483647, []), (2, 0, 0, [34]), (2, 0, 0, [38]), (2, 0, 0, [35]), (2, 0, 0, [36]), (2, 0, 0, [5]), (2, 0, 0, [5]), (2, 0, 0, [5]), (2, 0, 0, [37]), (2, 0, 0, [39]), (2, 0, 0, [40]), (2, 0, 0, [5]), (2, 0, 0, [41]), (2, 0, 0, [42]), (0, (-2147483648), 2147483647, []), (0, (-2147483648), 2147483647, [])]),
  (0, 6, 0, [(2, 0, 0, [44]), (0, (-2147483648), 2147483647, []), (2, 0, 0, [1]), (0, (-2147483648), 2147483647, [])]),
  (0, 12, 0, [(0, (-2147483648), 2147483647, []), (0, 0, 60, []), (2, 0, 0, [45]), (2, 0, 0, [46]), (2, 0, 0, [47]), (0, 0, 64, []), (2, 0, 0, [48]), (0, 0, 64, []), (0, 0, 12, []), (2, 0, 0, [49]), (2, 0, 0, [50]), (2, 0, 0, [51]), (2, 0, 0, [52]), (2, 0, 0, [53]), (2, 0, 0, [54]), (0, (-2147483648), 2147483647, []), (0, (-2147483648), 2147483647, []), (0, 0, 1, []), (2, 0, 0, [55]), (0, 0, 1, []), (0, 0, 4095, []), (0, 0, 4096, []), (2, 0, 0, [56]), (0, 0, 4096, []), (2, 0, 0, [57]), (0, (-2147483648), 2147483647, []), (0, 0, 4095, []), (0, 0, 10, []), (2, 0, 0, [58]), (2, 0, 0, [59]), (2, 0, 0, [60]), (2, 0, 0, [61]), (2, 0, 0, [62]), (0, 0, 1, []), (2, 0, 0, [63]), (0, 0, 1024, []), (2, 0, 0, [64]), (0, 0, 1024, []), (2, 0, 0, [65]), (2, 0, 0, [66]), (0, 0, 12, []), (2, 0, 0, [67]), (2, 0, 0, [68]), (0, 0, 1, []), (2, 0, 0, [69]), (2, 0, 0, [70]), (2, 0, 0, [71]), (0, 0, 4095, []), (0, (-2147483648), 2147483647, []), (0, 0, 4096, []), (2, 0, 0, [72]), (0, 0, 4096, []), (2, 0, 0, [73]), (2, 0, 0, [74]), (2, 0, 0, [75]), (0, 0, 1, []), (0, (-2147483648), 2147483647, []), (2, 0, 0, [76]), (2, 0, 0, [77]), (2, 0, 0, [78]), (2, 0, 0, [79]), (2, 0, 0, [80]), (2, 0, 0, [81]), (0, (-2147483648), 2147483647, []), (2, 0, 0, [82]), (2, 0, 0, [83]), (2, 0, 0, [84]), (2, 0, 0, [85])]),
  (3, 60, 3, [(2, 0, 0, [1])]),
  (3, 6, 6, [(3, 0, 0, [7, 8, 9, 10])]),
  (1, 60, 0, [(0, (-2147483648), 2147483647, [])]),
  (5, 4, 7, [(2, 0, 0, [20])]),
  (1, 4, 0, [(0, (-2147483648), 2147483647, [])]),
  (1, 4, 0, [(0, 0, 60, [])]),
  (1, 1, 0, [(0, (-2147483648), 2147483647, [])]),
  (1, 60, 0, [(0, (-2147483648), 2147483647, [])]),
  (3, 32, 3, [(2, 0, 0, [1])]),
  (1, 6, 0, [(0, (-2147483648), 2147483647, [])]),
  (3, 12, 4, [(3, 0, 0, [7])]),
  (1, 256, 0, [(0, (-2147483648), 2147483647, [])]),
  (3, 10, 5, [(3, 0, 0, [8, 9, 10])]),
  (3, 10, 3, [(2, 0, 0, [1])]),
  (3, 10, 3, [(2, 0, 0, [1])]),
  (3, 10, 3, [(2, 0, 0, [1])]),
  (1, 12, 0, [(0, (-2147483648), 2147483647, [])]),
  (1, 12, 0, [(0, (-2147483648), 2147483647, [])]),
  (1, 12, 0, [(0, (-2147483648), 2147483647, [])]),
  (1, 12, 0, [(0, (-2147483648), 2147483647, [])]),
  (1, 12, 0, [(0, 0, 5, [])]),
  (3, 12, 3, [(2, 0, 0, [1])]),
  (1, 6, 0, [(0, (-2147483648), 2147483647, [])]),
  (1, 64, 0, [(0, (-2147483648), 2147483647, [])]),
  (1, 64, 0, [(0, (-2147483648), 2147483647, [])]),
  (1, 256, 0, [(0, (-2147483648), 2147483647, [])]),
  (5, 6, 7, [(2, 0, 0, [43])]),
  (2, 240, 1, []),
  (1, 6, 0, [(0, (-2147483648), 2147483647, [])]),
  (2, 256, 1, []),
  (1, 64, 0, [(0, (-2147483648), 2147483647, [])]),
  (1, 12, 0, [(0, 0, 59, [])]),
  (1, 12, 0, [(0, 0, 5, [])]),
  (1, 12, 0, [(0, (-2147483648), 2147483647, [])]),
  (1, 12, 0, [(0, (-2147483648), 2147483647, [])]),
  (1, 12, 0, [(0, (-2147483648), 2147483647, [])]),
  (1, 12, 0, [(0, (-2147483648), 2147483647, [])]),
  (2, 16384, 1, []),
  (1, 4096, 0, [(0, 0, 4095, [])]),
  (1, 4096, 0, [(0, 0, 4095, [])]),
  (1, 10, 0, [(0, (-2147483648), 2147483647, [])]),
  (1, 10, 0, [(0, 0, 59, [])]),
  (1, 10, 0, [(0, 0, 59, [])]),
  (1, 10, 0, [(0, 0, 59, [])]),
  (1, 10, 0, [(0, (-2147483648), 2147483647, [])]),
  (2, 4, 1, []),
  (1, 1024, 0, [(0, (-2147483648), 2147483647, [])]),
  (1, 1024, 0, [(0, (-2147483648), 2147483647, [])]),
  (1, 10, 0, [(0, (-2147483648), 2147483647, [])]),
  (1, 12, 0, [(0, 0, 59, [])]),
  (1, 12, 0, [(0, 0, 5, [])]),
  (1, 12, 0, [(0, (-2147483648), 2147483647, [])]),
  (1, 12, 0, [(0, (-2147483648), 2147483647, [])]),
  (1, 12, 0, [(0, (-2147483648), 2147483647, [])]),
  (1, 4096, 0, [(0, (-2147483648), 2147483647, [])]),
  (1, 4096, 0, [(0, (-2147483648), 2147483647, [])]),
  (4, 4096, 2, []),
  (4, 49152, 2, []),
  (1, 1536, 0, [(0, (-2147483648), 2147483647, [])]),
  (1, 6, 0, [(0, (-2147483648), 2147483647, [])]),
  (1, 6, 0, [(0, (-2147483648), 2147483647, [])]),
  (2, 4, 1, []),
  (1, 6, 0, [(0, (-9), 1, [])]),
  (1, 6, 0, [(0, 0, 11, [])]),
  (1, 4, 0, [(0, (-1), 60, [])]),
  (1, 4, 0, [(0, (-2147483648), 2147483647, [])]),
  (1, 240, 0, [(0, (-2147483648), 2147483647, [])]),
  (1, 60, 0, [(0, (-2147483648), 2147483647, [])])]
def cw_SG : List Nat := [11, 12, 13, 14, 15, 16, 17, 27, 46, 48, 80, 81]
def cw_tl : List FieldType := [.int, .long, .boolean, (.object "ReasonDesk$Bits"), (.object "ReasonDesk$Entry"), (.object "ReasonDesk$Rule"), (.object "ReasonDesk$Thing"), (.array .int)]
def cw_nc : List (String × String) := [("ReasonDesk$Entry", "ReasonDesk$Rule"), ("ReasonDesk$Entry", "ReasonDesk$Barred"), ("ReasonDesk$Entry", "ReasonDesk$Loose"), ("ReasonDesk$Rule", "ReasonDesk$Entry"), ("ReasonDesk$Barred", "ReasonDesk$Entry"), ("ReasonDesk$Loose", "ReasonDesk$Entry"), ("ReasonDesk$Rule", "ReasonDesk$Barred"), ("ReasonDesk$Rule", "ReasonDesk$Loose"), ("ReasonDesk$Barred", "ReasonDesk$Loose")]
def cw_nw : List Cond := [.castable "ReasonDesk$Loose" "ReasonDesk$Barred", .castable "ReasonDesk$Barred" "ReasonDesk$Rule", .castable "ReasonDesk$Loose" "ReasonDesk$Rule", .castable "ReasonDesk$Entry" "ReasonDesk$Thing", .castable "ReasonDesk$Rule" "ReasonDesk$Thing", .castable "ReasonDesk$Barred" "ReasonDesk$Thing", .castable "ReasonDesk$Loose" "ReasonDesk$Thing", .methodLinkNest RX11 33 yX7_init "ReasonDesk", .methodLinkNest RX7 15 yX11_rowOfBits "ReasonDesk", .methodLinkNest RX11 47 yX9_init "ReasonDesk", .methodLinkNest RX9 26 yX11_rowOfBits "ReasonDesk", .methodLinkNest RX11 54 yX3_init "ReasonDesk", .methodLinkNest RX3 42 yX11_rowOfBits "ReasonDesk", .methodLinkNest RX11 61 yX6_init "ReasonDesk", .methodLinkNest RX2 90 yX11_isSource "ReasonDesk", .methodLinkNest RX3 100 yX11_isSource "ReasonDesk", .declares ⟨"ReasonDesk$Thing", "told", "([I)I"⟩, .declares yX8_plainly]
def cw_tb : List Cond := lw_tbl.filter goodWord
def cw_V : ck_Wd := (cw_cls, cw_TT, cw_SG, cw_tl, cw_tb, cw_nc, cw_nw)
abbrev cw_ps : List (Int × Int) := [((-2147483648), (-1)), (0, 0), (1, 1), (2, 2), (3, 3), (4, 4), (5, 5), (6, 6), (7, 7), (8, 8), (9, 9), (10, 10), (11, 11), (12, 12), (13, 13), (14, 14), (15, 15), (16, 16), (17, 17), (18, 18), (19, 19), (20, 20), (21, 21), (22, 22), (23, 23), (24, 24), (25, 25), (26, 26), (27, 27), (28, 28), (29, 29), (30, 30), (31, 31), (32, 32), (33, 33), (34, 34), (35, 35), (36, 36), (37, 37), (38, 38), (39, 39), (40, 40), (41, 41), (42, 42), (43, 43), (44, 44), (45, 45), (46, 46), (47, 47), (48, 48), (49, 49), (50, 50), (51, 51), (52, 52), (53, 53), (54, 54), (55, 55), (56, 56), (57, 57), (58, 58), (59, 59), (60, 60), (61, 2147483647)]
theorem cw_cov : ∀ z : Int, -2147483648 ≤ z → z ≤ 2147483647 → ∃ x ∈ cw_ps, x.1 ≤ z ∧ z ≤ x.2 := by
  intro z h1 h2
  rcases Int.lt_or_le z 0 with h | h
  · exact ⟨(-2147483648, -1), List.mem_cons_self, h1, by omega⟩
  · rcases Int.lt_or_le 60 z with h3 | h3
    · exact ⟨(61, 2147483647), by decide, by omega, h2⟩
    · have hd : ∀ k : Nat, k < 61 → ∃ x ∈ cw_ps, x.1 ≤ (k : Int) ∧ (k : Int) ≤ x.2 := by decide +kernel
      obtain ⟨x, hx, x1, x2⟩ := hd z.toNat (by omega)
      exact ⟨x, hx, by omega, by omega⟩
theorem ck_pos {ws big : List Cond} (ps : List Nat) (h : ws.map some = ps.map (fun i => big[i]?)) : ∀ w ∈ ws, w ∈ big := by
  intro w hw
  have h1 : some w ∈ ws.map some := List.mem_map.mpr ⟨w, hw, rfl⟩
  rw [h] at h1
  obtain ⟨i, -, hi⟩ := List.mem_map.mp h1
  exact List.mem_of_getElem? hi
theorem ck_m3 {L : List Cond} {a b c : Cond} (h1 : a ∈ L) (h2 : b ∈ L) (h3 : c ∈ L) : ∀ w ∈ ([a, b, c] : List Cond), w ∈ L := by
  intro w hw
  simp only [List.mem_cons, List.not_mem_nil, or_false] at hw
  rcases hw with rfl | rfl | rfl <;> assumption
theorem ck_m4 {L : List Cond} {a b c d : Cond} (h1 : a ∈ L) (h2 : b ∈ L) (h3 : c ∈ L) (h4 : d ∈ L) : ∀ w ∈ ([a, b, c, d] : List Cond), w ∈ L := by
  intro w hw
  simp only [List.mem_cons, List.not_mem_nil, or_false] at hw
  rcases hw with rfl | rfl | rfl | rfl <;> assumption
theorem ck_m5 {L : List Cond} {a b c d e : Cond} (h1 : a ∈ L) (h2 : b ∈ L) (h3 : c ∈ L) (h4 : d ∈ L) (h5 : e ∈ L) : ∀ w ∈ ([a, b, c, d, e] : List Cond), w ∈ L := by
  intro w hw
  simp only [List.mem_cons, List.not_mem_nil, or_false] at hw
  rcases hw with rfl | rfl | rfl | rfl | rfl <;> assumption
theorem cw_good : ck_gd cw_tb := fun w hw => good_of_word (List.mem_filter.mp hw).2
theorem cw_tbs {w : Cond} (h : w ∈ cw_tb) : w ∈ lw_tbl := (List.mem_filter.mp h).1
theorem cw_nws : ∀ w ∈ cw_nw, w ∈ lw_tbl := by
  have h : cw_nw.all (fun w => decide (w ∈ lw_tbl)) = true := by decide +kernel
  exact fun w hw => of_decide_eq_true (List.all_eq_true.mp h w hw)
theorem ck_pog {ws : List Cond} (ps : List Nat) (h : ws.map some = ps.map (fun i => lw_tbl[i]?)) (hg : ws.all goodWord = true) : ∀ w ∈ ws, w ∈ cw_tb :=
  fun w hw => List.mem_filter.mpr ⟨ck_pos ps h w hw, List.all_eq_true.mp hg w hw⟩
theorem cw_in_X0 : ∀ w ∈ u_ws RX0 TX0 5, w ∈ cw_tb := ck_pog [901, 902, 903, 904, 905] (by decide +kernel) (by decide +kernel)
theorem cw_in_X1 : ∀ w ∈ u_ws RX1 TX1 1, w ∈ cw_tb := ck_pog [136] (by decide +kernel) (by decide +kernel)
theorem cw_in_X2 : ∀ w ∈ u_ws RX2 TX2 12, w ∈ cw_tb := ck_pog [191, 193, 195, 197, 199, 201, 203, 205, 207, 209, 211, 213] (by decide +kernel) (by decide +kernel)
theorem cw_in_X3 : ∀ w ∈ u_ws RX3 TX3 17, w ∈ cw_tb := ck_pog [301, 303, 305, 307, 309, 311, 313, 315, 317, 319, 321, 323, 325, 327, 329, 331, 333] (by decide +kernel) (by decide +kernel)
theorem cw_in_X4 : ∀ w ∈ u_ws RX4 TX4 7, w ∈ cw_tb := ck_pog [630, 618, 620, 622, 624, 626, 628] (by decide +kernel) (by decide +kernel)
theorem cw_in_X5 : ∀ w ∈ u_ws RX5 TX5 5, w ∈ cw_tb := ck_pog [913, 914, 915, 916, 917] (by decide +kernel) (by decide +kernel)
theorem cw_in_X6 : ∀ w ∈ u_ws RX6 TX6 4, w ∈ cw_tb := ck_pog [352, 354, 356, 358] (by decide +kernel) (by decide +kernel)
theorem cw_in_X7 : ∀ w ∈ u_ws RX7 TX7 4, w ∈ cw_tb := ck_pog [151, 153, 155, 157] (by decide +kernel) (by decide +kernel)
theorem cw_in_X8 : ∀ w ∈ u_ws RX8 TX8 5, w ∈ cw_tb := ck_pog [893, 885, 887, 889, 891] (by decide +kernel) (by decide +kernel)
theorem cw_in_X9 : ∀ w ∈ u_ws RX9 TX9 12, w ∈ cw_tb := ck_pog [241, 243, 245, 247, 249, 251, 253, 255, 257, 259, 261, 263] (by decide +kernel) (by decide +kernel)
theorem cw_in_X11 : ∀ w ∈ u_ws RX11 TX11 15, w ∈ cw_tb := ck_pog [380, 382, 384, 386, 388, 390, 392, 394, 396, 398, 400, 402, 404, 406, 408] (by decide +kernel) (by decide +kernel)
theorem cw_in_X12 : ∀ w ∈ u_ws RX12 TX12 68, w ∈ cw_tb := ck_pog [1339, 1341, 1343, 1345, 1347, 1349, 1351, 1353, 1355, 1357, 1359, 1361, 1363, 1365, 1367, 1369, 1371, 1373, 1375, 1377, 1379, 1381, 1383, 1385, 1387, 1389, 1391, 1393, 1395, 1397, 1399, 1401, 1403, 1405, 1407, 1409, 1411, 1413, 1415, 1417, 1419, 1421, 1423, 1425, 1427, 1429, 1431, 1433, 1435, 1437, 1439, 1441, 1443, 1445, 1447, 1449, 1451, 1453, 1455, 1457, 1459, 1461, 1463, 1465, 1467, 1469, 1471, 1473] (by decide +kernel) (by decide +kernel)
end
section
/-! the words of the tables that are used, by place -/
def cw_w0 : List Cond := [.selects RX12 yX12_otherView yX12_otherView, .initialized RX11, .initialized RX12, .initialized RX4, .initialized RX8, .initialized RX0, .initialized RX5, .fieldLink RX1 13 "ReasonDesk$Bits" "rows" "[J", .fieldLink RX7 9 "ReasonDesk$Reader" "marks" "[I", .fieldLink RX7 19 "ReasonDesk$Reader" "values" "[LReasonDesk$Bits;", .fieldLink RX7 31 "ReasonDesk$Reader" "markCount" "I", .fieldLink RX7 35 "ReasonDesk$Reader" "valueCount" "I", .fieldLink RX2 9 "ReasonDesk$Book" "trusted" "[I", .fieldLink RX6 69 "ReasonDesk$Book" "trusted" "[I", .fieldLink RX11 165 "ReasonDesk$Book" "trusted" "[I", .fieldLink RX2 58 "ReasonDesk$Book" "count" "I", .fieldLink RX11 177 "ReasonDesk$Book" "count" "I", .fieldLink RX2 75 "ReasonDesk$Book" "time" "I", .fieldLink RX11 187 "ReasonDesk$Book" "time" "I", .fieldLink RX2 15 "ReasonDesk$Book" "asKnown" "I", .fieldLink RX11 190 "ReasonDesk$Book" "asKnown" "I", .fieldLink RX2 21 "ReasonDesk$Book" "entries" "[LReasonDesk$Entry;", .fieldLink RX2 25 "ReasonDesk$Book" "trueIn" "[I", .fieldLink RX2 33 "ReasonDesk$Book" "nowhere" "LReasonDesk$Bits;", .fieldLink RX2 37 "ReasonDesk$Book" "family" "LReasonDesk$Bits;", .fieldLink RX2 40 "ReasonDesk$Book" "lows" "LReasonDesk$Bits;", .fieldLink RX2 43 "ReasonDesk$Book" "harmonious" "LReasonDesk$Bits;", .fieldLink RX2 46 "ReasonDesk$Book" "best" "LReasonDesk$Bits;", .fieldLink RX2 49 "ReasonDesk$Book" "harmonyView" "I", .fieldLink RX9 14 "ReasonDesk$Rules" "base" "LReasonDesk$Bits;", .fieldLink RX11 337 "ReasonDesk$Rules" "base" "LReasonDesk$Bits;", .fieldLink RX9 59 "ReasonDesk$Rules" "count" "I", .fieldLink RX11 287 "ReasonDesk$Rules" "count" "I", .fieldLink RX9 22 "ReasonDesk$Rules" "rules" "[LReasonDesk$Rule;", .fieldLink RX9 30 "ReasonDesk$Rules" "whens" "[LReasonDesk$Bits;", .fieldLink RX9 34 "ReasonDesk$Rules" "thens" "[LReasonDesk$Bits;", .fieldLink RX9 37 "ReasonDesk$Rules" "unlesses" "[LReasonDesk$Bits;", .fieldLink RX9 40 "ReasonDesk$Rules" "within" "LReasonDesk$Bits;", .fieldLink RX9 43 "ReasonDesk$Rules" "ahead" "LReasonDesk$Bits;", .fieldLink RX9 46 "ReasonDesk$Rules" "extended" "LReasonDesk$Bits;"]
theorem cw_w0_ok : ∀ w ∈ cw_w0, w ∈ cw_tb := ck_pog [41, 95, 104, 108, 110, 111, 112, 135, 147, 148, 149, 150, 174, 175, 176, 177, 178, 179, 180, 181, 182, 183, 184, 185, 186, 187, 188, 189, 190, 227, 228, 229, 230, 231, 232, 233, 234, 235, 236, 237] (by decide +kernel) (by decide +kernel)
theorem tw_41 : (.selects RX12 yX12_otherView yX12_otherView : Cond) ∈ cw_tb := cw_w0_ok _ (List.mem_of_getElem? (i := 0) rfl)
theorem tw_95 : (.initialized RX11 : Cond) ∈ cw_tb := cw_w0_ok _ (List.mem_of_getElem? (i := 1) rfl)
theorem tw_104 : (.initialized RX12 : Cond) ∈ cw_tb := cw_w0_ok _ (List.mem_of_getElem? (i := 2) rfl)
theorem tw_108 : (.initialized RX4 : Cond) ∈ cw_tb := cw_w0_ok _ (List.mem_of_getElem? (i := 3) rfl)
theorem tw_110 : (.initialized RX8 : Cond) ∈ cw_tb := cw_w0_ok _ (List.mem_of_getElem? (i := 4) rfl)
theorem tw_111 : (.initialized RX0 : Cond) ∈ cw_tb := cw_w0_ok _ (List.mem_of_getElem? (i := 5) rfl)
theorem tw_112 : (.initialized RX5 : Cond) ∈ cw_tb := cw_w0_ok _ (List.mem_of_getElem? (i := 6) rfl)
theorem tw_135 : (.fieldLink RX1 13 "ReasonDesk$Bits" "rows" "[J" : Cond) ∈ cw_tb := cw_w0_ok _ (List.mem_of_getElem? (i := 7) rfl)
theorem tw_147 : (.fieldLink RX7 9 "ReasonDesk$Reader" "marks" "[I" : Cond) ∈ cw_tb := cw_w0_ok _ (List.mem_of_getElem? (i := 8) rfl)
theorem tw_148 : (.fieldLink RX7 19 "ReasonDesk$Reader" "values" "[LReasonDesk$Bits;" : Cond) ∈ cw_tb := cw_w0_ok _ (List.mem_of_getElem? (i := 9) rfl)
theorem tw_149 : (.fieldLink RX7 31 "ReasonDesk$Reader" "markCount" "I" : Cond) ∈ cw_tb := cw_w0_ok _ (List.mem_of_getElem? (i := 10) rfl)
theorem tw_150 : (.fieldLink RX7 35 "ReasonDesk$Reader" "valueCount" "I" : Cond) ∈ cw_tb := cw_w0_ok _ (List.mem_of_getElem? (i := 11) rfl)
theorem tw_174 : (.fieldLink RX2 9 "ReasonDesk$Book" "trusted" "[I" : Cond) ∈ cw_tb := cw_w0_ok _ (List.mem_of_getElem? (i := 12) rfl)
theorem tw_175 : (.fieldLink RX6 69 "ReasonDesk$Book" "trusted" "[I" : Cond) ∈ cw_tb := cw_w0_ok _ (List.mem_of_getElem? (i := 13) rfl)
theorem tw_176 : (.fieldLink RX11 165 "ReasonDesk$Book" "trusted" "[I" : Cond) ∈ cw_tb := cw_w0_ok _ (List.mem_of_getElem? (i := 14) rfl)
theorem tw_177 : (.fieldLink RX2 58 "ReasonDesk$Book" "count" "I" : Cond) ∈ cw_tb := cw_w0_ok _ (List.mem_of_getElem? (i := 15) rfl)
theorem tw_178 : (.fieldLink RX11 177 "ReasonDesk$Book" "count" "I" : Cond) ∈ cw_tb := cw_w0_ok _ (List.mem_of_getElem? (i := 16) rfl)
theorem tw_179 : (.fieldLink RX2 75 "ReasonDesk$Book" "time" "I" : Cond) ∈ cw_tb := cw_w0_ok _ (List.mem_of_getElem? (i := 17) rfl)
theorem tw_180 : (.fieldLink RX11 187 "ReasonDesk$Book" "time" "I" : Cond) ∈ cw_tb := cw_w0_ok _ (List.mem_of_getElem? (i := 18) rfl)
theorem tw_181 : (.fieldLink RX2 15 "ReasonDesk$Book" "asKnown" "I" : Cond) ∈ cw_tb := cw_w0_ok _ (List.mem_of_getElem? (i := 19) rfl)
theorem tw_182 : (.fieldLink RX11 190 "ReasonDesk$Book" "asKnown" "I" : Cond) ∈ cw_tb := cw_w0_ok _ (List.mem_of_getElem? (i := 20) rfl)
theorem tw_183 : (.fieldLink RX2 21 "ReasonDesk$Book" "entries" "[LReasonDesk$Entry;" : Cond) ∈ cw_tb := cw_w0_ok _ (List.mem_of_getElem? (i := 21) rfl)
theorem tw_184 : (.fieldLink RX2 25 "ReasonDesk$Book" "trueIn" "[I" : Cond) ∈ cw_tb := cw_w0_ok _ (List.mem_of_getElem? (i := 22) rfl)
theorem tw_185 : (.fieldLink RX2 33 "ReasonDesk$Book" "nowhere" "LReasonDesk$Bits;" : Cond) ∈ cw_tb := cw_w0_ok _ (List.mem_of_getElem? (i := 23) rfl)
theorem tw_186 : (.fieldLink RX2 37 "ReasonDesk$Book" "family" "LReasonDesk$Bits;" : Cond) ∈ cw_tb := cw_w0_ok _ (List.mem_of_getElem? (i := 24) rfl)
theorem tw_187 : (.fieldLink RX2 40 "ReasonDesk$Book" "lows" "LReasonDesk$Bits;" : Cond) ∈ cw_tb := cw_w0_ok _ (List.mem_of_getElem? (i := 25) rfl)
theorem tw_188 : (.fieldLink RX2 43 "ReasonDesk$Book" "harmonious" "LReasonDesk$Bits;" : Cond) ∈ cw_tb := cw_w0_ok _ (List.mem_of_getElem? (i := 26) rfl)
theorem tw_189 : (.fieldLink RX2 46 "ReasonDesk$Book" "best" "LReasonDesk$Bits;" : Cond) ∈ cw_tb := cw_w0_ok _ (List.mem_of_getElem? (i := 27) rfl)
theorem tw_190 : (.fieldLink RX2 49 "ReasonDesk$Book" "harmonyView" "I" : Cond) ∈ cw_tb := cw_w0_ok _ (List.mem_of_getElem? (i := 28) rfl)
theorem tw_227 : (.fieldLink RX9 14 "ReasonDesk$Rules" "base" "LReasonDesk$Bits;" : Cond) ∈ cw_tb := cw_w0_ok _ (List.mem_of_getElem? (i := 29) rfl)
theorem tw_228 : (.fieldLink RX11 337 "ReasonDesk$Rules" "base" "LReasonDesk$Bits;" : Cond) ∈ cw_tb := cw_w0_ok _ (List.mem_of_getElem? (i := 30) rfl)
theorem tw_229 : (.fieldLink RX9 59 "ReasonDesk$Rules" "count" "I" : Cond) ∈ cw_tb := cw_w0_ok _ (List.mem_of_getElem? (i := 31) rfl)
theorem tw_230 : (.fieldLink RX11 287 "ReasonDesk$Rules" "count" "I" : Cond) ∈ cw_tb := cw_w0_ok _ (List.mem_of_getElem? (i := 32) rfl)
theorem tw_231 : (.fieldLink RX9 22 "ReasonDesk$Rules" "rules" "[LReasonDesk$Rule;" : Cond) ∈ cw_tb := cw_w0_ok _ (List.mem_of_getElem? (i := 33) rfl)
theorem tw_232 : (.fieldLink RX9 30 "ReasonDesk$Rules" "whens" "[LReasonDesk$Bits;" : Cond) ∈ cw_tb := cw_w0_ok _ (List.mem_of_getElem? (i := 34) rfl)
theorem tw_233 : (.fieldLink RX9 34 "ReasonDesk$Rules" "thens" "[LReasonDesk$Bits;" : Cond) ∈ cw_tb := cw_w0_ok _ (List.mem_of_getElem? (i := 35) rfl)
theorem tw_234 : (.fieldLink RX9 37 "ReasonDesk$Rules" "unlesses" "[LReasonDesk$Bits;" : Cond) ∈ cw_tb := cw_w0_ok _ (List.mem_of_getElem? (i := 36) rfl)
theorem tw_235 : (.fieldLink RX9 40 "ReasonDesk$Rules" "within" "LReasonDesk$Bits;" : Cond) ∈ cw_tb := cw_w0_ok _ (List.mem_of_getElem? (i := 37) rfl)
theorem tw_236 : (.fieldLink RX9 43 "ReasonDesk$Rules" "ahead" "LReasonDesk$Bits;" : Cond) ∈ cw_tb := cw_w0_ok _ (List.mem_of_getElem? (i := 38) rfl)
theorem tw_237 : (.fieldLink RX9 46 "ReasonDesk$Rules" "extended" "LReasonDesk$Bits;" : Cond) ∈ cw_tb := cw_w0_ok _ (List.mem_of_getElem? (i := 39) rfl)
def cw_w1 : List Cond := [.fieldLink RX9 49 "ReasonDesk$Rules" "best" "LReasonDesk$Bits;", .fieldLink RX9 52 "ReasonDesk$Rules" "baseView" "I", .fieldLink RX9 56 "ReasonDesk$Rules" "foundCount" "I", .fieldLink RX3 69 "ReasonDesk$Claims" "count" "I", .fieldLink RX11 430 "ReasonDesk$Claims" "count" "I", .fieldLink RX3 103 "ReasonDesk$Claims" "standing" "I", .fieldLink RX11 360 "ReasonDesk$Claims" "standing" "I", .fieldLink RX3 9 "ReasonDesk$Claims" "said" "[I", .fieldLink RX11 363 "ReasonDesk$Claims" "said" "[I", .fieldLink RX3 15 "ReasonDesk$Claims" "sources" "[I", .fieldLink RX11 366 "ReasonDesk$Claims" "sources" "[I", .fieldLink RX3 18 "ReasonDesk$Claims" "strikers" "[I", .fieldLink RX11 357 "ReasonDesk$Claims" "strikers" "[I", .fieldLink RX3 21 "ReasonDesk$Claims" "rounds" "[I", .fieldLink RX11 369 "ReasonDesk$Claims" "rounds" "[I", .fieldLink RX3 29 "ReasonDesk$Claims" "sound" "LReasonDesk$Bits;", .fieldLink RX11 384 "ReasonDesk$Claims" "sound" "LReasonDesk$Bits;", .fieldLink RX3 33 "ReasonDesk$Claims" "preferred" "LReasonDesk$Bits;", .fieldLink RX11 375 "ReasonDesk$Claims" "preferred" "LReasonDesk$Bits;", .fieldLink RX3 36 "ReasonDesk$Claims" "stable" "LReasonDesk$Bits;", .fieldLink RX11 378 "ReasonDesk$Claims" "stable" "LReasonDesk$Bits;", .fieldLink RX3 39 "ReasonDesk$Claims" "struck" "[I", .fieldLink RX3 46 "ReasonDesk$Claims" "places" "[LReasonDesk$Bits;", .fieldLink RX3 50 "ReasonDesk$Claims" "trusted" "[I", .fieldLink RX3 53 "ReasonDesk$Claims" "closed" "LReasonDesk$Bits;", .fieldLink RX3 56 "ReasonDesk$Claims" "struckByLow" "[I", .fieldLink RX3 59 "ReasonDesk$Claims" "strikersOfLow" "[I", .fieldLink RX3 62 "ReasonDesk$Claims" "settledCount" "I", .fieldLink RX3 66 "ReasonDesk$Claims" "soughtCount" "I", .fieldLink RX6 11 "ReasonDesk$Merging" "fars" "[[I", .fieldLink RX11 391 "ReasonDesk$Merging" "fars" "[[I", .fieldLink RX6 35 "ReasonDesk$Merging" "taking" "I", .fieldLink RX11 388 "ReasonDesk$Merging" "taking" "I", .fieldLink RX6 21 "ReasonDesk$Merging" "nearest" "LReasonDesk$Bits;", .fieldLink RX6 25 "ReasonDesk$Merging" "settledView" "I", .fieldLink RX11 15 "ReasonDesk" "sentences" "[LReasonDesk$Bits;", .fieldLink RX11 108 "ReasonDesk" "sentenceCount" "I", .fieldLink RX11 24 "ReasonDesk" "contrary" "LReasonDesk$Bits;", .fieldLink RX11 28 "ReasonDesk" "scratch" "LReasonDesk$Bits;", .fieldLink RX11 34 "ReasonDesk" "reader" "LReasonDesk$Reader;"]
theorem cw_w1_ok : ∀ w ∈ cw_w1, w ∈ cw_tb := ck_pog [238, 239, 240, 275, 276, 277, 278, 279, 280, 281, 282, 283, 284, 285, 286, 287, 288, 289, 290, 291, 292, 293, 294, 295, 296, 297, 298, 299, 300, 346, 347, 348, 349, 350, 351, 365, 366, 367, 368, 369] (by decide +kernel) (by decide +kernel)
theorem tw_238 : (.fieldLink RX9 49 "ReasonDesk$Rules" "best" "LReasonDesk$Bits;" : Cond) ∈ cw_tb := cw_w1_ok _ (List.mem_of_getElem? (i := 0) rfl)
theorem tw_239 : (.fieldLink RX9 52 "ReasonDesk$Rules" "baseView" "I" : Cond) ∈ cw_tb := cw_w1_ok _ (List.mem_of_getElem? (i := 1) rfl)
theorem tw_240 : (.fieldLink RX9 56 "ReasonDesk$Rules" "foundCount" "I" : Cond) ∈ cw_tb := cw_w1_ok _ (List.mem_of_getElem? (i := 2) rfl)
theorem tw_275 : (.fieldLink RX3 69 "ReasonDesk$Claims" "count" "I" : Cond) ∈ cw_tb := cw_w1_ok _ (List.mem_of_getElem? (i := 3) rfl)
theorem tw_276 : (.fieldLink RX11 430 "ReasonDesk$Claims" "count" "I" : Cond) ∈ cw_tb := cw_w1_ok _ (List.mem_of_getElem? (i := 4) rfl)
theorem tw_277 : (.fieldLink RX3 103 "ReasonDesk$Claims" "standing" "I" : Cond) ∈ cw_tb := cw_w1_ok _ (List.mem_of_getElem? (i := 5) rfl)
theorem tw_278 : (.fieldLink RX11 360 "ReasonDesk$Claims" "standing" "I" : Cond) ∈ cw_tb := cw_w1_ok _ (List.mem_of_getElem? (i := 6) rfl)
theorem tw_279 : (.fieldLink RX3 9 "ReasonDesk$Claims" "said" "[I" : Cond) ∈ cw_tb := cw_w1_ok _ (List.mem_of_getElem? (i := 7) rfl)
theorem tw_280 : (.fieldLink RX11 363 "ReasonDesk$Claims" "said" "[I" : Cond) ∈ cw_tb := cw_w1_ok _ (List.mem_of_getElem? (i := 8) rfl)
theorem tw_281 : (.fieldLink RX3 15 "ReasonDesk$Claims" "sources" "[I" : Cond) ∈ cw_tb := cw_w1_ok _ (List.mem_of_getElem? (i := 9) rfl)
theorem tw_282 : (.fieldLink RX11 366 "ReasonDesk$Claims" "sources" "[I" : Cond) ∈ cw_tb := cw_w1_ok _ (List.mem_of_getElem? (i := 10) rfl)
theorem tw_283 : (.fieldLink RX3 18 "ReasonDesk$Claims" "strikers" "[I" : Cond) ∈ cw_tb := cw_w1_ok _ (List.mem_of_getElem? (i := 11) rfl)
theorem tw_284 : (.fieldLink RX11 357 "ReasonDesk$Claims" "strikers" "[I" : Cond) ∈ cw_tb := cw_w1_ok _ (List.mem_of_getElem? (i := 12) rfl)
theorem tw_285 : (.fieldLink RX3 21 "ReasonDesk$Claims" "rounds" "[I" : Cond) ∈ cw_tb := cw_w1_ok _ (List.mem_of_getElem? (i := 13) rfl)
theorem tw_286 : (.fieldLink RX11 369 "ReasonDesk$Claims" "rounds" "[I" : Cond) ∈ cw_tb := cw_w1_ok _ (List.mem_of_getElem? (i := 14) rfl)
theorem tw_287 : (.fieldLink RX3 29 "ReasonDesk$Claims" "sound" "LReasonDesk$Bits;" : Cond) ∈ cw_tb := cw_w1_ok _ (List.mem_of_getElem? (i := 15) rfl)
theorem tw_288 : (.fieldLink RX11 384 "ReasonDesk$Claims" "sound" "LReasonDesk$Bits;" : Cond) ∈ cw_tb := cw_w1_ok _ (List.mem_of_getElem? (i := 16) rfl)
theorem tw_289 : (.fieldLink RX3 33 "ReasonDesk$Claims" "preferred" "LReasonDesk$Bits;" : Cond) ∈ cw_tb := cw_w1_ok _ (List.mem_of_getElem? (i := 17) rfl)
theorem tw_290 : (.fieldLink RX11 375 "ReasonDesk$Claims" "preferred" "LReasonDesk$Bits;" : Cond) ∈ cw_tb := cw_w1_ok _ (List.mem_of_getElem? (i := 18) rfl)
theorem tw_291 : (.fieldLink RX3 36 "ReasonDesk$Claims" "stable" "LReasonDesk$Bits;" : Cond) ∈ cw_tb := cw_w1_ok _ (List.mem_of_getElem? (i := 19) rfl)
theorem tw_292 : (.fieldLink RX11 378 "ReasonDesk$Claims" "stable" "LReasonDesk$Bits;" : Cond) ∈ cw_tb := cw_w1_ok _ (List.mem_of_getElem? (i := 20) rfl)
theorem tw_293 : (.fieldLink RX3 39 "ReasonDesk$Claims" "struck" "[I" : Cond) ∈ cw_tb := cw_w1_ok _ (List.mem_of_getElem? (i := 21) rfl)
theorem tw_294 : (.fieldLink RX3 46 "ReasonDesk$Claims" "places" "[LReasonDesk$Bits;" : Cond) ∈ cw_tb := cw_w1_ok _ (List.mem_of_getElem? (i := 22) rfl)
theorem tw_295 : (.fieldLink RX3 50 "ReasonDesk$Claims" "trusted" "[I" : Cond) ∈ cw_tb := cw_w1_ok _ (List.mem_of_getElem? (i := 23) rfl)
theorem tw_296 : (.fieldLink RX3 53 "ReasonDesk$Claims" "closed" "LReasonDesk$Bits;" : Cond) ∈ cw_tb := cw_w1_ok _ (List.mem_of_getElem? (i := 24) rfl)
theorem tw_297 : (.fieldLink RX3 56 "ReasonDesk$Claims" "struckByLow" "[I" : Cond) ∈ cw_tb := cw_w1_ok _ (List.mem_of_getElem? (i := 25) rfl)
theorem tw_298 : (.fieldLink RX3 59 "ReasonDesk$Claims" "strikersOfLow" "[I" : Cond) ∈ cw_tb := cw_w1_ok _ (List.mem_of_getElem? (i := 26) rfl)
theorem tw_299 : (.fieldLink RX3 62 "ReasonDesk$Claims" "settledCount" "I" : Cond) ∈ cw_tb := cw_w1_ok _ (List.mem_of_getElem? (i := 27) rfl)
theorem tw_300 : (.fieldLink RX3 66 "ReasonDesk$Claims" "soughtCount" "I" : Cond) ∈ cw_tb := cw_w1_ok _ (List.mem_of_getElem? (i := 28) rfl)
theorem tw_346 : (.fieldLink RX6 11 "ReasonDesk$Merging" "fars" "[[I" : Cond) ∈ cw_tb := cw_w1_ok _ (List.mem_of_getElem? (i := 29) rfl)
theorem tw_347 : (.fieldLink RX11 391 "ReasonDesk$Merging" "fars" "[[I" : Cond) ∈ cw_tb := cw_w1_ok _ (List.mem_of_getElem? (i := 30) rfl)
theorem tw_348 : (.fieldLink RX6 35 "ReasonDesk$Merging" "taking" "I" : Cond) ∈ cw_tb := cw_w1_ok _ (List.mem_of_getElem? (i := 31) rfl)
theorem tw_349 : (.fieldLink RX11 388 "ReasonDesk$Merging" "taking" "I" : Cond) ∈ cw_tb := cw_w1_ok _ (List.mem_of_getElem? (i := 32) rfl)
theorem tw_350 : (.fieldLink RX6 21 "ReasonDesk$Merging" "nearest" "LReasonDesk$Bits;" : Cond) ∈ cw_tb := cw_w1_ok _ (List.mem_of_getElem? (i := 33) rfl)
theorem tw_351 : (.fieldLink RX6 25 "ReasonDesk$Merging" "settledView" "I" : Cond) ∈ cw_tb := cw_w1_ok _ (List.mem_of_getElem? (i := 34) rfl)
theorem tw_365 : (.fieldLink RX11 15 "ReasonDesk" "sentences" "[LReasonDesk$Bits;" : Cond) ∈ cw_tb := cw_w1_ok _ (List.mem_of_getElem? (i := 35) rfl)
theorem tw_366 : (.fieldLink RX11 108 "ReasonDesk" "sentenceCount" "I" : Cond) ∈ cw_tb := cw_w1_ok _ (List.mem_of_getElem? (i := 36) rfl)
theorem tw_367 : (.fieldLink RX11 24 "ReasonDesk" "contrary" "LReasonDesk$Bits;" : Cond) ∈ cw_tb := cw_w1_ok _ (List.mem_of_getElem? (i := 37) rfl)
theorem tw_368 : (.fieldLink RX11 28 "ReasonDesk" "scratch" "LReasonDesk$Bits;" : Cond) ∈ cw_tb := cw_w1_ok _ (List.mem_of_getElem? (i := 38) rfl)
theorem tw_369 : (.fieldLink RX11 34 "ReasonDesk" "reader" "LReasonDesk$Reader;" : Cond) ∈ cw_tb := cw_w1_ok _ (List.mem_of_getElem? (i := 39) rfl)
def cw_w2 : List Cond := [.fieldLink RX11 41 "ReasonDesk" "book" "LReasonDesk$Book;", .fieldLink RX11 48 "ReasonDesk" "rules" "LReasonDesk$Rules;", .fieldLink RX11 55 "ReasonDesk" "claims" "LReasonDesk$Claims;", .fieldLink RX11 62 "ReasonDesk" "merging" "LReasonDesk$Merging;", .fieldLink RX11 68 "ReasonDesk" "things" "[LReasonDesk$Thing;", .fieldLink RX11 74 "ReasonDesk" "cells" "[[I", .fieldLink RX11 77 "ReasonDesk" "lanes" "[I", .fieldLink RX11 87 "ReasonDesk" "sizes" "[I", .fieldLink RX11 90 "ReasonDesk" "trail" "[I", .fieldLink RX11 93 "ReasonDesk" "lastFault" "I", .constantLong RX1 25 (-1), .fieldLink RX1 27 "ReasonDesk$Bits" "WITH" "[J", .constantLong RJ13 314 (6148914691236517205), .constantLong RJ13 316 (3689348814741910323), .constantLong RJ13 318 (1085102592571150095), .methodLink RX11 162 yX11_isSource, .static yX11_isSource, .code yX11_isSource cX11_isSource 1 (some .boolean), .classLink RX11 175 "ReasonDesk$Entry", .instantiable RX4 7, .fieldLink RX4 9 "ReasonDesk$Entry" "sentence" "I", .fieldLink RX11 205 "ReasonDesk$Entry" "sentence" "I", .fieldLink RX4 15 "ReasonDesk$Entry" "source" "I", .fieldLink RX2 87 "ReasonDesk$Entry" "source" "I", .fieldLink RX11 208 "ReasonDesk$Entry" "source" "I", .fieldLink RX4 18 "ReasonDesk$Entry" "from" "I", .fieldLink RX2 72 "ReasonDesk$Entry" "from" "I", .fieldLink RX11 211 "ReasonDesk$Entry" "from" "I", .fieldLink RX4 21 "ReasonDesk$Entry" "to" "I", .fieldLink RX2 78 "ReasonDesk$Entry" "to" "I", .fieldLink RX11 214 "ReasonDesk$Entry" "to" "I", .fieldLink RX4 24 "ReasonDesk$Entry" "known" "I", .fieldLink RX2 81 "ReasonDesk$Entry" "known" "I", .fieldLink RX11 217 "ReasonDesk$Entry" "known" "I", .fieldLink RX4 27 "ReasonDesk$Entry" "givenUp" "I", .fieldLink RX2 84 "ReasonDesk$Entry" "givenUp" "I", .fieldLink RX11 220 "ReasonDesk$Entry" "givenUp" "I", .fieldLink RX10 7 "ReasonDesk$Thing" "number" "I", .fieldLink RX2 65 "ReasonDesk$Entry" "number" "I", .sameField "ReasonDesk$Entry" "ReasonDesk$Thing" "number" "I"]
theorem cw_w2_ok : ∀ w ∈ cw_w2, w ∈ cw_tb := ck_pog [370, 371, 372, 373, 374, 375, 376, 377, 378, 379, 464, 493, 541, 542, 543, 571, 572, 573, 585, 586, 594, 595, 596, 597, 598, 599, 600, 601, 602, 603, 604, 605, 606, 607, 608, 609, 610, 611, 612, 613] (by decide +kernel) (by decide +kernel)
theorem tw_370 : (.fieldLink RX11 41 "ReasonDesk" "book" "LReasonDesk$Book;" : Cond) ∈ cw_tb := cw_w2_ok _ (List.mem_of_getElem? (i := 0) rfl)
theorem tw_371 : (.fieldLink RX11 48 "ReasonDesk" "rules" "LReasonDesk$Rules;" : Cond) ∈ cw_tb := cw_w2_ok _ (List.mem_of_getElem? (i := 1) rfl)
theorem tw_372 : (.fieldLink RX11 55 "ReasonDesk" "claims" "LReasonDesk$Claims;" : Cond) ∈ cw_tb := cw_w2_ok _ (List.mem_of_getElem? (i := 2) rfl)
theorem tw_373 : (.fieldLink RX11 62 "ReasonDesk" "merging" "LReasonDesk$Merging;" : Cond) ∈ cw_tb := cw_w2_ok _ (List.mem_of_getElem? (i := 3) rfl)
theorem tw_374 : (.fieldLink RX11 68 "ReasonDesk" "things" "[LReasonDesk$Thing;" : Cond) ∈ cw_tb := cw_w2_ok _ (List.mem_of_getElem? (i := 4) rfl)
theorem tw_375 : (.fieldLink RX11 74 "ReasonDesk" "cells" "[[I" : Cond) ∈ cw_tb := cw_w2_ok _ (List.mem_of_getElem? (i := 5) rfl)
theorem tw_376 : (.fieldLink RX11 77 "ReasonDesk" "lanes" "[I" : Cond) ∈ cw_tb := cw_w2_ok _ (List.mem_of_getElem? (i := 6) rfl)
theorem tw_377 : (.fieldLink RX11 87 "ReasonDesk" "sizes" "[I" : Cond) ∈ cw_tb := cw_w2_ok _ (List.mem_of_getElem? (i := 7) rfl)
theorem tw_378 : (.fieldLink RX11 90 "ReasonDesk" "trail" "[I" : Cond) ∈ cw_tb := cw_w2_ok _ (List.mem_of_getElem? (i := 8) rfl)
theorem tw_379 : (.fieldLink RX11 93 "ReasonDesk" "lastFault" "I" : Cond) ∈ cw_tb := cw_w2_ok _ (List.mem_of_getElem? (i := 9) rfl)
theorem tw_464 : (.constantLong RX1 25 (-1) : Cond) ∈ cw_tb := cw_w2_ok _ (List.mem_of_getElem? (i := 10) rfl)
theorem tw_493 : (.fieldLink RX1 27 "ReasonDesk$Bits" "WITH" "[J" : Cond) ∈ cw_tb := cw_w2_ok _ (List.mem_of_getElem? (i := 11) rfl)
theorem tw_541 : (.constantLong RJ13 314 (6148914691236517205) : Cond) ∈ cw_tb := cw_w2_ok _ (List.mem_of_getElem? (i := 12) rfl)
theorem tw_542 : (.constantLong RJ13 316 (3689348814741910323) : Cond) ∈ cw_tb := cw_w2_ok _ (List.mem_of_getElem? (i := 13) rfl)
theorem tw_543 : (.constantLong RJ13 318 (1085102592571150095) : Cond) ∈ cw_tb := cw_w2_ok _ (List.mem_of_getElem? (i := 14) rfl)
theorem tw_571 : (.methodLink RX11 162 yX11_isSource : Cond) ∈ cw_tb := cw_w2_ok _ (List.mem_of_getElem? (i := 15) rfl)
theorem tw_572 : (.static yX11_isSource : Cond) ∈ cw_tb := cw_w2_ok _ (List.mem_of_getElem? (i := 16) rfl)
theorem tw_573 : (.code yX11_isSource cX11_isSource 1 (some .boolean) : Cond) ∈ cw_tb := cw_w2_ok _ (List.mem_of_getElem? (i := 17) rfl)
theorem tw_585 : (.classLink RX11 175 "ReasonDesk$Entry" : Cond) ∈ cw_tb := cw_w2_ok _ (List.mem_of_getElem? (i := 18) rfl)
theorem tw_586 : (.instantiable RX4 7 : Cond) ∈ cw_tb := cw_w2_ok _ (List.mem_of_getElem? (i := 19) rfl)
theorem tw_594 : (.fieldLink RX4 9 "ReasonDesk$Entry" "sentence" "I" : Cond) ∈ cw_tb := cw_w2_ok _ (List.mem_of_getElem? (i := 20) rfl)
theorem tw_595 : (.fieldLink RX11 205 "ReasonDesk$Entry" "sentence" "I" : Cond) ∈ cw_tb := cw_w2_ok _ (List.mem_of_getElem? (i := 21) rfl)
theorem tw_596 : (.fieldLink RX4 15 "ReasonDesk$Entry" "source" "I" : Cond) ∈ cw_tb := cw_w2_ok _ (List.mem_of_getElem? (i := 22) rfl)
theorem tw_597 : (.fieldLink RX2 87 "ReasonDesk$Entry" "source" "I" : Cond) ∈ cw_tb := cw_w2_ok _ (List.mem_of_getElem? (i := 23) rfl)
theorem tw_598 : (.fieldLink RX11 208 "ReasonDesk$Entry" "source" "I" : Cond) ∈ cw_tb := cw_w2_ok _ (List.mem_of_getElem? (i := 24) rfl)
theorem tw_599 : (.fieldLink RX4 18 "ReasonDesk$Entry" "from" "I" : Cond) ∈ cw_tb := cw_w2_ok _ (List.mem_of_getElem? (i := 25) rfl)
theorem tw_600 : (.fieldLink RX2 72 "ReasonDesk$Entry" "from" "I" : Cond) ∈ cw_tb := cw_w2_ok _ (List.mem_of_getElem? (i := 26) rfl)
theorem tw_601 : (.fieldLink RX11 211 "ReasonDesk$Entry" "from" "I" : Cond) ∈ cw_tb := cw_w2_ok _ (List.mem_of_getElem? (i := 27) rfl)
theorem tw_602 : (.fieldLink RX4 21 "ReasonDesk$Entry" "to" "I" : Cond) ∈ cw_tb := cw_w2_ok _ (List.mem_of_getElem? (i := 28) rfl)
theorem tw_603 : (.fieldLink RX2 78 "ReasonDesk$Entry" "to" "I" : Cond) ∈ cw_tb := cw_w2_ok _ (List.mem_of_getElem? (i := 29) rfl)
theorem tw_604 : (.fieldLink RX11 214 "ReasonDesk$Entry" "to" "I" : Cond) ∈ cw_tb := cw_w2_ok _ (List.mem_of_getElem? (i := 30) rfl)
theorem tw_605 : (.fieldLink RX4 24 "ReasonDesk$Entry" "known" "I" : Cond) ∈ cw_tb := cw_w2_ok _ (List.mem_of_getElem? (i := 31) rfl)
theorem tw_606 : (.fieldLink RX2 81 "ReasonDesk$Entry" "known" "I" : Cond) ∈ cw_tb := cw_w2_ok _ (List.mem_of_getElem? (i := 32) rfl)
theorem tw_607 : (.fieldLink RX11 217 "ReasonDesk$Entry" "known" "I" : Cond) ∈ cw_tb := cw_w2_ok _ (List.mem_of_getElem? (i := 33) rfl)
theorem tw_608 : (.fieldLink RX4 27 "ReasonDesk$Entry" "givenUp" "I" : Cond) ∈ cw_tb := cw_w2_ok _ (List.mem_of_getElem? (i := 34) rfl)
theorem tw_609 : (.fieldLink RX2 84 "ReasonDesk$Entry" "givenUp" "I" : Cond) ∈ cw_tb := cw_w2_ok _ (List.mem_of_getElem? (i := 35) rfl)
theorem tw_610 : (.fieldLink RX11 220 "ReasonDesk$Entry" "givenUp" "I" : Cond) ∈ cw_tb := cw_w2_ok _ (List.mem_of_getElem? (i := 36) rfl)
theorem tw_611 : (.fieldLink RX10 7 "ReasonDesk$Thing" "number" "I" : Cond) ∈ cw_tb := cw_w2_ok _ (List.mem_of_getElem? (i := 37) rfl)
theorem tw_612 : (.fieldLink RX2 65 "ReasonDesk$Entry" "number" "I" : Cond) ∈ cw_tb := cw_w2_ok _ (List.mem_of_getElem? (i := 38) rfl)
theorem tw_613 : (.sameField "ReasonDesk$Entry" "ReasonDesk$Thing" "number" "I" : Cond) ∈ cw_tb := cw_w2_ok _ (List.mem_of_getElem? (i := 39) rfl)
def cw_w3 : List Cond := [.fieldLink RX8 30 "ReasonDesk$Rule" "number" "I", .sameField "ReasonDesk$Rule" "ReasonDesk$Thing" "number" "I", .fieldLink RX9 66 "ReasonDesk$Rule" "number" "I", .fieldLink RX11 408 "ReasonDesk$Thing" "number" "I", .constant RJ6 265 (1431655765), .constant RJ6 266 (858993459), .constant RJ6 267 (252645135), .constant RX2 169 (2147483647), .classLink RX11 288 "ReasonDesk$Rule", .instantiable RX8 5, .fieldLink RX8 7 "ReasonDesk$Rule" "when" "I", .fieldLink RX11 310 "ReasonDesk$Rule" "when" "I", .fieldLink RX8 13 "ReasonDesk$Rule" "then" "I", .fieldLink RX11 313 "ReasonDesk$Rule" "then" "I", .fieldLink RX8 16 "ReasonDesk$Rule" "unless" "I", .fieldLink RX0 17 "ReasonDesk$Barred" "unless" "I", .sameField "ReasonDesk$Barred" "ReasonDesk$Rule" "unless" "I", .fieldLink RX11 316 "ReasonDesk$Rule" "unless" "I", .fieldLink RX8 19 "ReasonDesk$Rule" "rank" "I", .fieldLink RX9 123 "ReasonDesk$Rule" "rank" "I", .fieldLink RX11 319 "ReasonDesk$Rule" "rank" "I", .classLink RX11 293 "ReasonDesk$Barred", .instantiable RX0 5, .classLink RX11 296 "ReasonDesk$Loose", .instantiable RX5 5, .constant RX3 131 (2147483647), .constant RX6 65 (2147483647), .constantLong RX11 422 (-9223372036854775808), .constant RX12 102 (49152), .fieldLink RX12 142 "ReasonDeskModel" "fault" "I", .fieldLink RX12 149 "ReasonDeskModel" "sentences" "I", .fieldLink RX12 7 "ReasonDeskModel" "trueIn" "[J", .fieldLink RX12 13 "ReasonDeskModel" "trusts" "[I", .fieldLink RX12 17 "ReasonDeskModel" "values" "[J", .fieldLink RX12 162 "ReasonDeskModel" "valueMany" "I", .fieldLink RX12 20 "ReasonDeskModel" "signs" "[I", .fieldLink RX12 167 "ReasonDeskModel" "signMany" "I", .fieldLink RX12 263 "ReasonDeskModel" "entries" "I", .fieldLink RX12 23 "ReasonDeskModel" "sentenceOf" "[I", .fieldLink RX12 26 "ReasonDeskModel" "sourceOf" "[I"]
theorem cw_w3_ok : ∀ w ∈ cw_w3, w ∈ cw_tb := ck_pog [614, 615, 616, 617, 653, 654, 655, 823, 868, 869, 874, 875, 876, 877, 878, 879, 880, 881, 882, 883, 884, 895, 896, 907, 908, 1086, 1135, 1245, 1270, 1271, 1272, 1273, 1274, 1275, 1276, 1277, 1278, 1279, 1280, 1281] (by decide +kernel) (by decide +kernel)
theorem tw_614 : (.fieldLink RX8 30 "ReasonDesk$Rule" "number" "I" : Cond) ∈ cw_tb := cw_w3_ok _ (List.mem_of_getElem? (i := 0) rfl)
theorem tw_615 : (.sameField "ReasonDesk$Rule" "ReasonDesk$Thing" "number" "I" : Cond) ∈ cw_tb := cw_w3_ok _ (List.mem_of_getElem? (i := 1) rfl)
theorem tw_616 : (.fieldLink RX9 66 "ReasonDesk$Rule" "number" "I" : Cond) ∈ cw_tb := cw_w3_ok _ (List.mem_of_getElem? (i := 2) rfl)
theorem tw_617 : (.fieldLink RX11 408 "ReasonDesk$Thing" "number" "I" : Cond) ∈ cw_tb := cw_w3_ok _ (List.mem_of_getElem? (i := 3) rfl)
theorem tw_653 : (.constant RJ6 265 (1431655765) : Cond) ∈ cw_tb := cw_w3_ok _ (List.mem_of_getElem? (i := 4) rfl)
theorem tw_654 : (.constant RJ6 266 (858993459) : Cond) ∈ cw_tb := cw_w3_ok _ (List.mem_of_getElem? (i := 5) rfl)
theorem tw_655 : (.constant RJ6 267 (252645135) : Cond) ∈ cw_tb := cw_w3_ok _ (List.mem_of_getElem? (i := 6) rfl)
theorem tw_823 : (.constant RX2 169 (2147483647) : Cond) ∈ cw_tb := cw_w3_ok _ (List.mem_of_getElem? (i := 7) rfl)
theorem tw_868 : (.classLink RX11 288 "ReasonDesk$Rule" : Cond) ∈ cw_tb := cw_w3_ok _ (List.mem_of_getElem? (i := 8) rfl)
theorem tw_869 : (.instantiable RX8 5 : Cond) ∈ cw_tb := cw_w3_ok _ (List.mem_of_getElem? (i := 9) rfl)
theorem tw_874 : (.fieldLink RX8 7 "ReasonDesk$Rule" "when" "I" : Cond) ∈ cw_tb := cw_w3_ok _ (List.mem_of_getElem? (i := 10) rfl)
theorem tw_875 : (.fieldLink RX11 310 "ReasonDesk$Rule" "when" "I" : Cond) ∈ cw_tb := cw_w3_ok _ (List.mem_of_getElem? (i := 11) rfl)
theorem tw_876 : (.fieldLink RX8 13 "ReasonDesk$Rule" "then" "I" : Cond) ∈ cw_tb := cw_w3_ok _ (List.mem_of_getElem? (i := 12) rfl)
theorem tw_877 : (.fieldLink RX11 313 "ReasonDesk$Rule" "then" "I" : Cond) ∈ cw_tb := cw_w3_ok _ (List.mem_of_getElem? (i := 13) rfl)
theorem tw_878 : (.fieldLink RX8 16 "ReasonDesk$Rule" "unless" "I" : Cond) ∈ cw_tb := cw_w3_ok _ (List.mem_of_getElem? (i := 14) rfl)
theorem tw_879 : (.fieldLink RX0 17 "ReasonDesk$Barred" "unless" "I" : Cond) ∈ cw_tb := cw_w3_ok _ (List.mem_of_getElem? (i := 15) rfl)
theorem tw_880 : (.sameField "ReasonDesk$Barred" "ReasonDesk$Rule" "unless" "I" : Cond) ∈ cw_tb := cw_w3_ok _ (List.mem_of_getElem? (i := 16) rfl)
theorem tw_881 : (.fieldLink RX11 316 "ReasonDesk$Rule" "unless" "I" : Cond) ∈ cw_tb := cw_w3_ok _ (List.mem_of_getElem? (i := 17) rfl)
theorem tw_882 : (.fieldLink RX8 19 "ReasonDesk$Rule" "rank" "I" : Cond) ∈ cw_tb := cw_w3_ok _ (List.mem_of_getElem? (i := 18) rfl)
theorem tw_883 : (.fieldLink RX9 123 "ReasonDesk$Rule" "rank" "I" : Cond) ∈ cw_tb := cw_w3_ok _ (List.mem_of_getElem? (i := 19) rfl)
theorem tw_884 : (.fieldLink RX11 319 "ReasonDesk$Rule" "rank" "I" : Cond) ∈ cw_tb := cw_w3_ok _ (List.mem_of_getElem? (i := 20) rfl)
theorem tw_895 : (.classLink RX11 293 "ReasonDesk$Barred" : Cond) ∈ cw_tb := cw_w3_ok _ (List.mem_of_getElem? (i := 21) rfl)
theorem tw_896 : (.instantiable RX0 5 : Cond) ∈ cw_tb := cw_w3_ok _ (List.mem_of_getElem? (i := 22) rfl)
theorem tw_907 : (.classLink RX11 296 "ReasonDesk$Loose" : Cond) ∈ cw_tb := cw_w3_ok _ (List.mem_of_getElem? (i := 23) rfl)
theorem tw_908 : (.instantiable RX5 5 : Cond) ∈ cw_tb := cw_w3_ok _ (List.mem_of_getElem? (i := 24) rfl)
theorem tw_1086 : (.constant RX3 131 (2147483647) : Cond) ∈ cw_tb := cw_w3_ok _ (List.mem_of_getElem? (i := 25) rfl)
theorem tw_1135 : (.constant RX6 65 (2147483647) : Cond) ∈ cw_tb := cw_w3_ok _ (List.mem_of_getElem? (i := 26) rfl)
theorem tw_1245 : (.constantLong RX11 422 (-9223372036854775808) : Cond) ∈ cw_tb := cw_w3_ok _ (List.mem_of_getElem? (i := 27) rfl)
theorem tw_1270 : (.constant RX12 102 (49152) : Cond) ∈ cw_tb := cw_w3_ok _ (List.mem_of_getElem? (i := 28) rfl)
theorem tw_1271 : (.fieldLink RX12 142 "ReasonDeskModel" "fault" "I" : Cond) ∈ cw_tb := cw_w3_ok _ (List.mem_of_getElem? (i := 29) rfl)
theorem tw_1272 : (.fieldLink RX12 149 "ReasonDeskModel" "sentences" "I" : Cond) ∈ cw_tb := cw_w3_ok _ (List.mem_of_getElem? (i := 30) rfl)
theorem tw_1273 : (.fieldLink RX12 7 "ReasonDeskModel" "trueIn" "[J" : Cond) ∈ cw_tb := cw_w3_ok _ (List.mem_of_getElem? (i := 31) rfl)
theorem tw_1274 : (.fieldLink RX12 13 "ReasonDeskModel" "trusts" "[I" : Cond) ∈ cw_tb := cw_w3_ok _ (List.mem_of_getElem? (i := 32) rfl)
theorem tw_1275 : (.fieldLink RX12 17 "ReasonDeskModel" "values" "[J" : Cond) ∈ cw_tb := cw_w3_ok _ (List.mem_of_getElem? (i := 33) rfl)
theorem tw_1276 : (.fieldLink RX12 162 "ReasonDeskModel" "valueMany" "I" : Cond) ∈ cw_tb := cw_w3_ok _ (List.mem_of_getElem? (i := 34) rfl)
theorem tw_1277 : (.fieldLink RX12 20 "ReasonDeskModel" "signs" "[I" : Cond) ∈ cw_tb := cw_w3_ok _ (List.mem_of_getElem? (i := 35) rfl)
theorem tw_1278 : (.fieldLink RX12 167 "ReasonDeskModel" "signMany" "I" : Cond) ∈ cw_tb := cw_w3_ok _ (List.mem_of_getElem? (i := 36) rfl)
theorem tw_1279 : (.fieldLink RX12 263 "ReasonDeskModel" "entries" "I" : Cond) ∈ cw_tb := cw_w3_ok _ (List.mem_of_getElem? (i := 37) rfl)
theorem tw_1280 : (.fieldLink RX12 23 "ReasonDeskModel" "sentenceOf" "[I" : Cond) ∈ cw_tb := cw_w3_ok _ (List.mem_of_getElem? (i := 38) rfl)
theorem tw_1281 : (.fieldLink RX12 26 "ReasonDeskModel" "sourceOf" "[I" : Cond) ∈ cw_tb := cw_w3_ok _ (List.mem_of_getElem? (i := 39) rfl)
def cw_w4 : List Cond := [.fieldLink RX12 29 "ReasonDeskModel" "from" "[I", .fieldLink RX12 32 "ReasonDeskModel" "to" "[I", .fieldLink RX12 35 "ReasonDeskModel" "known" "[I", .fieldLink RX12 38 "ReasonDeskModel" "givenUp" "[I", .fieldLink RX12 269 "ReasonDeskModel" "viewT" "I", .fieldLink RX12 136 "ReasonDeskModel" "viewK" "I", .fieldLink RX12 266 "ReasonDeskModel" "isLaid" "Z", .fieldLink RX12 41 "ReasonDeskModel" "worldsOf" "[J", .fieldLink RX12 254 "ReasonDeskModel" "isViewed" "Z", .fieldLink RX12 275 "ReasonDeskModel" "view" "I", .fieldLink RX12 284 "ReasonDeskModel" "harmonyMany" "I", .fieldLink RX12 44 "ReasonDeskModel" "harmonySets" "[I", .fieldLink RX12 287 "ReasonDeskModel" "bestMany" "I", .fieldLink RX12 47 "ReasonDeskModel" "bestSets" "[I", .fieldLink RX12 290 "ReasonDeskModel" "bestWeight" "I", .fieldLink RX12 293 "ReasonDeskModel" "free" "I", .fieldLink RX12 358 "ReasonDeskModel" "rules" "I", .fieldLink RX12 50 "ReasonDeskModel" "ruleKind" "[I", .fieldLink RX12 53 "ReasonDeskModel" "ifOf" "[I", .fieldLink RX12 56 "ReasonDeskModel" "thenOf" "[I", .fieldLink RX12 59 "ReasonDeskModel" "unlessOf" "[I", .fieldLink RX12 62 "ReasonDeskModel" "rankOf" "[I", .fieldLink RX12 257 "ReasonDeskModel" "isRuled" "Z", .fieldLink RX12 65 "ReasonDeskModel" "e4" "[J", .fieldLink RX12 373 "ReasonDeskModel" "extensionMany" "I", .fieldLink RX12 68 "ReasonDeskModel" "extensionSets" "[I", .fieldLink RX12 376 "ReasonDeskModel" "bestExtensionMany" "I", .fieldLink RX12 71 "ReasonDeskModel" "bestExtensions" "[I", .fieldLink RX12 74 "ReasonDeskModel" "bars" "[I", .fieldLink RX12 401 "ReasonDeskModel" "claims" "I", .fieldLink RX12 77 "ReasonDeskModel" "claimOf" "[I", .fieldLink RX12 80 "ReasonDeskModel" "claimBy" "[I", .fieldLink RX12 250 "ReasonDeskModel" "isClaimed" "Z", .fieldLink RX12 83 "ReasonDeskModel" "struckBy" "[I", .fieldLink RX12 86 "ReasonDeskModel" "strikesAll" "[I", .fieldLink RX12 89 "ReasonDeskModel" "roundOf" "[I", .fieldLink RX12 413 "ReasonDeskModel" "standing" "I", .fieldLink RX12 419 "ReasonDeskModel" "soundMany" "I", .fieldLink RX12 422 "ReasonDeskModel" "preferredMany" "I", .fieldLink RX12 92 "ReasonDeskModel" "preferred" "[I"]
theorem cw_w4_ok : ∀ w ∈ cw_w4, w ∈ cw_tb := ck_pog [1282, 1283, 1284, 1285, 1286, 1287, 1288, 1289, 1290, 1291, 1292, 1293, 1294, 1295, 1296, 1297, 1298, 1299, 1300, 1301, 1302, 1303, 1304, 1305, 1306, 1307, 1308, 1309, 1310, 1311, 1312, 1313, 1314, 1315, 1316, 1317, 1318, 1319, 1320, 1321] (by decide +kernel) (by decide +kernel)
theorem tw_1282 : (.fieldLink RX12 29 "ReasonDeskModel" "from" "[I" : Cond) ∈ cw_tb := cw_w4_ok _ (List.mem_of_getElem? (i := 0) rfl)
theorem tw_1283 : (.fieldLink RX12 32 "ReasonDeskModel" "to" "[I" : Cond) ∈ cw_tb := cw_w4_ok _ (List.mem_of_getElem? (i := 1) rfl)
theorem tw_1284 : (.fieldLink RX12 35 "ReasonDeskModel" "known" "[I" : Cond) ∈ cw_tb := cw_w4_ok _ (List.mem_of_getElem? (i := 2) rfl)
theorem tw_1285 : (.fieldLink RX12 38 "ReasonDeskModel" "givenUp" "[I" : Cond) ∈ cw_tb := cw_w4_ok _ (List.mem_of_getElem? (i := 3) rfl)
theorem tw_1286 : (.fieldLink RX12 269 "ReasonDeskModel" "viewT" "I" : Cond) ∈ cw_tb := cw_w4_ok _ (List.mem_of_getElem? (i := 4) rfl)
theorem tw_1287 : (.fieldLink RX12 136 "ReasonDeskModel" "viewK" "I" : Cond) ∈ cw_tb := cw_w4_ok _ (List.mem_of_getElem? (i := 5) rfl)
theorem tw_1288 : (.fieldLink RX12 266 "ReasonDeskModel" "isLaid" "Z" : Cond) ∈ cw_tb := cw_w4_ok _ (List.mem_of_getElem? (i := 6) rfl)
theorem tw_1289 : (.fieldLink RX12 41 "ReasonDeskModel" "worldsOf" "[J" : Cond) ∈ cw_tb := cw_w4_ok _ (List.mem_of_getElem? (i := 7) rfl)
theorem tw_1290 : (.fieldLink RX12 254 "ReasonDeskModel" "isViewed" "Z" : Cond) ∈ cw_tb := cw_w4_ok _ (List.mem_of_getElem? (i := 8) rfl)
theorem tw_1291 : (.fieldLink RX12 275 "ReasonDeskModel" "view" "I" : Cond) ∈ cw_tb := cw_w4_ok _ (List.mem_of_getElem? (i := 9) rfl)
theorem tw_1292 : (.fieldLink RX12 284 "ReasonDeskModel" "harmonyMany" "I" : Cond) ∈ cw_tb := cw_w4_ok _ (List.mem_of_getElem? (i := 10) rfl)
theorem tw_1293 : (.fieldLink RX12 44 "ReasonDeskModel" "harmonySets" "[I" : Cond) ∈ cw_tb := cw_w4_ok _ (List.mem_of_getElem? (i := 11) rfl)
theorem tw_1294 : (.fieldLink RX12 287 "ReasonDeskModel" "bestMany" "I" : Cond) ∈ cw_tb := cw_w4_ok _ (List.mem_of_getElem? (i := 12) rfl)
theorem tw_1295 : (.fieldLink RX12 47 "ReasonDeskModel" "bestSets" "[I" : Cond) ∈ cw_tb := cw_w4_ok _ (List.mem_of_getElem? (i := 13) rfl)
theorem tw_1296 : (.fieldLink RX12 290 "ReasonDeskModel" "bestWeight" "I" : Cond) ∈ cw_tb := cw_w4_ok _ (List.mem_of_getElem? (i := 14) rfl)
theorem tw_1297 : (.fieldLink RX12 293 "ReasonDeskModel" "free" "I" : Cond) ∈ cw_tb := cw_w4_ok _ (List.mem_of_getElem? (i := 15) rfl)
theorem tw_1298 : (.fieldLink RX12 358 "ReasonDeskModel" "rules" "I" : Cond) ∈ cw_tb := cw_w4_ok _ (List.mem_of_getElem? (i := 16) rfl)
theorem tw_1299 : (.fieldLink RX12 50 "ReasonDeskModel" "ruleKind" "[I" : Cond) ∈ cw_tb := cw_w4_ok _ (List.mem_of_getElem? (i := 17) rfl)
theorem tw_1300 : (.fieldLink RX12 53 "ReasonDeskModel" "ifOf" "[I" : Cond) ∈ cw_tb := cw_w4_ok _ (List.mem_of_getElem? (i := 18) rfl)
theorem tw_1301 : (.fieldLink RX12 56 "ReasonDeskModel" "thenOf" "[I" : Cond) ∈ cw_tb := cw_w4_ok _ (List.mem_of_getElem? (i := 19) rfl)
theorem tw_1302 : (.fieldLink RX12 59 "ReasonDeskModel" "unlessOf" "[I" : Cond) ∈ cw_tb := cw_w4_ok _ (List.mem_of_getElem? (i := 20) rfl)
theorem tw_1303 : (.fieldLink RX12 62 "ReasonDeskModel" "rankOf" "[I" : Cond) ∈ cw_tb := cw_w4_ok _ (List.mem_of_getElem? (i := 21) rfl)
theorem tw_1304 : (.fieldLink RX12 257 "ReasonDeskModel" "isRuled" "Z" : Cond) ∈ cw_tb := cw_w4_ok _ (List.mem_of_getElem? (i := 22) rfl)
theorem tw_1305 : (.fieldLink RX12 65 "ReasonDeskModel" "e4" "[J" : Cond) ∈ cw_tb := cw_w4_ok _ (List.mem_of_getElem? (i := 23) rfl)
theorem tw_1306 : (.fieldLink RX12 373 "ReasonDeskModel" "extensionMany" "I" : Cond) ∈ cw_tb := cw_w4_ok _ (List.mem_of_getElem? (i := 24) rfl)
theorem tw_1307 : (.fieldLink RX12 68 "ReasonDeskModel" "extensionSets" "[I" : Cond) ∈ cw_tb := cw_w4_ok _ (List.mem_of_getElem? (i := 25) rfl)
theorem tw_1308 : (.fieldLink RX12 376 "ReasonDeskModel" "bestExtensionMany" "I" : Cond) ∈ cw_tb := cw_w4_ok _ (List.mem_of_getElem? (i := 26) rfl)
theorem tw_1309 : (.fieldLink RX12 71 "ReasonDeskModel" "bestExtensions" "[I" : Cond) ∈ cw_tb := cw_w4_ok _ (List.mem_of_getElem? (i := 27) rfl)
theorem tw_1310 : (.fieldLink RX12 74 "ReasonDeskModel" "bars" "[I" : Cond) ∈ cw_tb := cw_w4_ok _ (List.mem_of_getElem? (i := 28) rfl)
theorem tw_1311 : (.fieldLink RX12 401 "ReasonDeskModel" "claims" "I" : Cond) ∈ cw_tb := cw_w4_ok _ (List.mem_of_getElem? (i := 29) rfl)
theorem tw_1312 : (.fieldLink RX12 77 "ReasonDeskModel" "claimOf" "[I" : Cond) ∈ cw_tb := cw_w4_ok _ (List.mem_of_getElem? (i := 30) rfl)
theorem tw_1313 : (.fieldLink RX12 80 "ReasonDeskModel" "claimBy" "[I" : Cond) ∈ cw_tb := cw_w4_ok _ (List.mem_of_getElem? (i := 31) rfl)
theorem tw_1314 : (.fieldLink RX12 250 "ReasonDeskModel" "isClaimed" "Z" : Cond) ∈ cw_tb := cw_w4_ok _ (List.mem_of_getElem? (i := 32) rfl)
theorem tw_1315 : (.fieldLink RX12 83 "ReasonDeskModel" "struckBy" "[I" : Cond) ∈ cw_tb := cw_w4_ok _ (List.mem_of_getElem? (i := 33) rfl)
theorem tw_1316 : (.fieldLink RX12 86 "ReasonDeskModel" "strikesAll" "[I" : Cond) ∈ cw_tb := cw_w4_ok _ (List.mem_of_getElem? (i := 34) rfl)
theorem tw_1317 : (.fieldLink RX12 89 "ReasonDeskModel" "roundOf" "[I" : Cond) ∈ cw_tb := cw_w4_ok _ (List.mem_of_getElem? (i := 35) rfl)
theorem tw_1318 : (.fieldLink RX12 413 "ReasonDeskModel" "standing" "I" : Cond) ∈ cw_tb := cw_w4_ok _ (List.mem_of_getElem? (i := 36) rfl)
theorem tw_1319 : (.fieldLink RX12 419 "ReasonDeskModel" "soundMany" "I" : Cond) ∈ cw_tb := cw_w4_ok _ (List.mem_of_getElem? (i := 37) rfl)
theorem tw_1320 : (.fieldLink RX12 422 "ReasonDeskModel" "preferredMany" "I" : Cond) ∈ cw_tb := cw_w4_ok _ (List.mem_of_getElem? (i := 38) rfl)
theorem tw_1321 : (.fieldLink RX12 92 "ReasonDeskModel" "preferred" "[I" : Cond) ∈ cw_tb := cw_w4_ok _ (List.mem_of_getElem? (i := 39) rfl)
def cw_w5 : List Cond := [.fieldLink RX12 425 "ReasonDeskModel" "stableMany" "I", .fieldLink RX12 95 "ReasonDeskModel" "stable" "[I", .fieldLink RX12 98 "ReasonDeskModel" "isSound" "[Z", .fieldLink RX12 103 "ReasonDeskModel" "wins" "[Z", .fieldLink RX12 260 "ReasonDeskModel" "isMerged" "Z", .fieldLink RX12 452 "ReasonDeskModel" "taking" "I", .fieldLink RX12 106 "ReasonDeskModel" "fars" "[I", .fieldLink RX12 109 "ReasonDeskModel" "rows" "[I", .fieldLink RX12 112 "ReasonDeskModel" "bestRow" "[I", .fieldLink RX12 115 "ReasonDeskModel" "merged4" "[J", .fieldLink RX12 118 "ReasonDeskModel" "heldWhat" "[I", .fieldLink RX12 121 "ReasonDeskModel" "heldNumber" "[I", .fieldLink RX12 477 "ReasonDeskModel" "trace" "I", .fieldLink RX12 124 "ReasonDeskModel" "sheetSize" "[I", .fieldLink RX12 127 "ReasonDeskModel" "sheetLane" "[I", .fieldLink RX12 130 "ReasonDeskModel" "sheet" "[I", .fieldLink RX12 133 "ReasonDeskModel" "hands" "[I", .constantLong RX12 353 (3), .methodLink RX12 152 yX12_in, .static yX12_in, .code yX12_in cX12_in 6 (some .boolean), .constantLong RX12 208 (2), .constantLong RX12 191 (97), .constantLong RX12 193 (104), .constantLong RX12 165 (-1), .constantLong RX12 221 (4), .constantLong RX12 233 (255), .methodLink RX12 242 yX12_noSource, .static yX12_noSource, .code yX12_noSource cX12_noSource 1 (some .boolean), .constantLong RX12 156 (5), .constantLong RX12 245 (9), .methodLink RX12 247 yX12_otherView, .instanceMethod yX12_otherView, .code yX12_otherView cX12_otherView 1 none, .constantLong RX12 302 (99), .constantLong RX12 140 (-9223372036854775808)]
theorem cw_w5_ok : ∀ w ∈ cw_w5, w ∈ cw_tb := ck_pog [1322, 1323, 1324, 1325, 1326, 1327, 1328, 1329, 1330, 1331, 1332, 1333, 1334, 1335, 1336, 1337, 1338, 1484, 1485, 1486, 1487, 1492, 1504, 1505, 1521, 1545, 1565, 1582, 1583, 1584, 1585, 1586, 1587, 1589, 1590, 1595, 1967] (by decide +kernel) (by decide +kernel)
theorem tw_1322 : (.fieldLink RX12 425 "ReasonDeskModel" "stableMany" "I" : Cond) ∈ cw_tb := cw_w5_ok _ (List.mem_of_getElem? (i := 0) rfl)
theorem tw_1323 : (.fieldLink RX12 95 "ReasonDeskModel" "stable" "[I" : Cond) ∈ cw_tb := cw_w5_ok _ (List.mem_of_getElem? (i := 1) rfl)
theorem tw_1324 : (.fieldLink RX12 98 "ReasonDeskModel" "isSound" "[Z" : Cond) ∈ cw_tb := cw_w5_ok _ (List.mem_of_getElem? (i := 2) rfl)
theorem tw_1325 : (.fieldLink RX12 103 "ReasonDeskModel" "wins" "[Z" : Cond) ∈ cw_tb := cw_w5_ok _ (List.mem_of_getElem? (i := 3) rfl)
theorem tw_1326 : (.fieldLink RX12 260 "ReasonDeskModel" "isMerged" "Z" : Cond) ∈ cw_tb := cw_w5_ok _ (List.mem_of_getElem? (i := 4) rfl)
theorem tw_1327 : (.fieldLink RX12 452 "ReasonDeskModel" "taking" "I" : Cond) ∈ cw_tb := cw_w5_ok _ (List.mem_of_getElem? (i := 5) rfl)
theorem tw_1328 : (.fieldLink RX12 106 "ReasonDeskModel" "fars" "[I" : Cond) ∈ cw_tb := cw_w5_ok _ (List.mem_of_getElem? (i := 6) rfl)
theorem tw_1329 : (.fieldLink RX12 109 "ReasonDeskModel" "rows" "[I" : Cond) ∈ cw_tb := cw_w5_ok _ (List.mem_of_getElem? (i := 7) rfl)
theorem tw_1330 : (.fieldLink RX12 112 "ReasonDeskModel" "bestRow" "[I" : Cond) ∈ cw_tb := cw_w5_ok _ (List.mem_of_getElem? (i := 8) rfl)
theorem tw_1331 : (.fieldLink RX12 115 "ReasonDeskModel" "merged4" "[J" : Cond) ∈ cw_tb := cw_w5_ok _ (List.mem_of_getElem? (i := 9) rfl)
theorem tw_1332 : (.fieldLink RX12 118 "ReasonDeskModel" "heldWhat" "[I" : Cond) ∈ cw_tb := cw_w5_ok _ (List.mem_of_getElem? (i := 10) rfl)
theorem tw_1333 : (.fieldLink RX12 121 "ReasonDeskModel" "heldNumber" "[I" : Cond) ∈ cw_tb := cw_w5_ok _ (List.mem_of_getElem? (i := 11) rfl)
theorem tw_1334 : (.fieldLink RX12 477 "ReasonDeskModel" "trace" "I" : Cond) ∈ cw_tb := cw_w5_ok _ (List.mem_of_getElem? (i := 12) rfl)
theorem tw_1335 : (.fieldLink RX12 124 "ReasonDeskModel" "sheetSize" "[I" : Cond) ∈ cw_tb := cw_w5_ok _ (List.mem_of_getElem? (i := 13) rfl)
theorem tw_1336 : (.fieldLink RX12 127 "ReasonDeskModel" "sheetLane" "[I" : Cond) ∈ cw_tb := cw_w5_ok _ (List.mem_of_getElem? (i := 14) rfl)
theorem tw_1337 : (.fieldLink RX12 130 "ReasonDeskModel" "sheet" "[I" : Cond) ∈ cw_tb := cw_w5_ok _ (List.mem_of_getElem? (i := 15) rfl)
theorem tw_1338 : (.fieldLink RX12 133 "ReasonDeskModel" "hands" "[I" : Cond) ∈ cw_tb := cw_w5_ok _ (List.mem_of_getElem? (i := 16) rfl)
theorem tw_1484 : (.constantLong RX12 353 (3) : Cond) ∈ cw_tb := cw_w5_ok _ (List.mem_of_getElem? (i := 17) rfl)
theorem tw_1485 : (.methodLink RX12 152 yX12_in : Cond) ∈ cw_tb := cw_w5_ok _ (List.mem_of_getElem? (i := 18) rfl)
theorem tw_1486 : (.static yX12_in : Cond) ∈ cw_tb := cw_w5_ok _ (List.mem_of_getElem? (i := 19) rfl)
theorem tw_1487 : (.code yX12_in cX12_in 6 (some .boolean) : Cond) ∈ cw_tb := cw_w5_ok _ (List.mem_of_getElem? (i := 20) rfl)
theorem tw_1492 : (.constantLong RX12 208 (2) : Cond) ∈ cw_tb := cw_w5_ok _ (List.mem_of_getElem? (i := 21) rfl)
theorem tw_1504 : (.constantLong RX12 191 (97) : Cond) ∈ cw_tb := cw_w5_ok _ (List.mem_of_getElem? (i := 22) rfl)
theorem tw_1505 : (.constantLong RX12 193 (104) : Cond) ∈ cw_tb := cw_w5_ok _ (List.mem_of_getElem? (i := 23) rfl)
theorem tw_1521 : (.constantLong RX12 165 (-1) : Cond) ∈ cw_tb := cw_w5_ok _ (List.mem_of_getElem? (i := 24) rfl)
theorem tw_1545 : (.constantLong RX12 221 (4) : Cond) ∈ cw_tb := cw_w5_ok _ (List.mem_of_getElem? (i := 25) rfl)
theorem tw_1565 : (.constantLong RX12 233 (255) : Cond) ∈ cw_tb := cw_w5_ok _ (List.mem_of_getElem? (i := 26) rfl)
theorem tw_1582 : (.methodLink RX12 242 yX12_noSource : Cond) ∈ cw_tb := cw_w5_ok _ (List.mem_of_getElem? (i := 27) rfl)
theorem tw_1583 : (.static yX12_noSource : Cond) ∈ cw_tb := cw_w5_ok _ (List.mem_of_getElem? (i := 28) rfl)
theorem tw_1584 : (.code yX12_noSource cX12_noSource 1 (some .boolean) : Cond) ∈ cw_tb := cw_w5_ok _ (List.mem_of_getElem? (i := 29) rfl)
theorem tw_1585 : (.constantLong RX12 156 (5) : Cond) ∈ cw_tb := cw_w5_ok _ (List.mem_of_getElem? (i := 30) rfl)
theorem tw_1586 : (.constantLong RX12 245 (9) : Cond) ∈ cw_tb := cw_w5_ok _ (List.mem_of_getElem? (i := 31) rfl)
theorem tw_1587 : (.methodLink RX12 247 yX12_otherView : Cond) ∈ cw_tb := cw_w5_ok _ (List.mem_of_getElem? (i := 32) rfl)
theorem tw_1589 : (.instanceMethod yX12_otherView : Cond) ∈ cw_tb := cw_w5_ok _ (List.mem_of_getElem? (i := 33) rfl)
theorem tw_1590 : (.code yX12_otherView cX12_otherView 1 none : Cond) ∈ cw_tb := cw_w5_ok _ (List.mem_of_getElem? (i := 34) rfl)
theorem tw_1595 : (.constantLong RX12 302 (99) : Cond) ∈ cw_tb := cw_w5_ok _ (List.mem_of_getElem? (i := 35) rfl)
theorem tw_1967 : (.constantLong RX12 140 (-9223372036854775808) : Cond) ∈ cw_tb := cw_w5_ok _ (List.mem_of_getElem? (i := 36) rfl)
end
section
def fl_X11 : List (Nat × Nat × Nat) := [(15, 11, 0), (24, 11, 2), (28, 11, 3), (34, 11, 4), (41, 11, 5), (48, 11, 6), (55, 11, 7), (62, 11, 8), (68, 11, 9), (74, 11, 10), (77, 11, 11), (87, 11, 12), (90, 11, 13), (93, 11, 14), (108, 11, 1), (165, 2, 0), (177, 2, 1), (187, 2, 2), (190, 2, 3), (205, 4, 1), (208, 4, 2), (211, 4, 3), (214, 4, 4), (217, 4, 5), (220, 4, 6), (287, 9, 1), (310, 0, 0), (310, 5, 0), (310, 8, 1), (313, 0, 1), (313, 5, 1), (313, 8, 2), (316, 0, 2), (316, 5, 2), (316, 8, 3), (319, 0, 3), (319, 5, 3), (319, 8, 4), (337, 9, 0), (357, 3, 4), (360, 3, 1), (363, 3, 2), (366, 3, 3), (369, 3, 5), (375, 3, 7), (378, 3, 8), (384, 3, 6), (388, 6, 1), (391, 6, 0), (408, 0, 4), (408, 4, 0), (408, 5, 4), (408, 8, 0), (430, 3, 0)]
def pl_X11 : List (Nat × Nat × Nat × Nat) := [(93, 11, 14, 0), (108, 11, 1, 0), (187, 2, 2, 0), (190, 2, 3, 0), (220, 4, 6, 0)]
def pI_X11 : List (Nat × Nat × Nat × Nat) := [(15, 11, 0, 2), (24, 11, 2, 2), (28, 11, 3, 2), (34, 11, 4, 2), (41, 11, 5, 2), (48, 11, 6, 2), (55, 11, 7, 2), (62, 11, 8, 2), (68, 11, 9, 2), (74, 11, 10, 2), (77, 11, 11, 2), (87, 11, 12, 2), (90, 11, 13, 2), (93, 11, 14, 0), (108, 11, 1, 0), (187, 2, 2, 0), (190, 2, 3, 0), (220, 4, 6, 0)]
def nw_X11 : List (Nat × Nat × Nat × Nat) := [(175, 4, 7, 7), (288, 8, 8, 5), (293, 0, 9, 5), (296, 5, 10, 5)]
def kl_X11 : List (Nat × Nat × Int) := [(422, 1, (-9223372036854775808))]
def il_X11 : List (Nat × Nat × Nat) := [(175, 4, 1), (175, 8, 0), (175, 0, 0), (175, 5, 0), (288, 4, 0), (288, 8, 1), (288, 0, 1), (288, 5, 1), (293, 4, 0), (293, 8, 0), (293, 0, 1), (293, 5, 1), (296, 4, 0), (296, 8, 0), (296, 0, 0), (296, 5, 1)]
def xl_X11 : List (Nat × Nat) := [(288, 8), (288, 0), (288, 5)]
def gl_X11 : List Nat := []
theorem pfl_X11 {s : State} {args : Array Value} (hts : ∀ w ∈ cw_tb, w.before args s = true) : ∀ x ∈ fl_X11, ck_hg s args RX11 cw_cls x :=
  (List.forall_mem_cons.mpr ⟨⟨RX11, TX11, 15, "ReasonDesk", cw_tb, hts, cw_in_X11, rfl, by decide, Or.inl (hts _ tw_365), (fun _ h => h)⟩, (List.forall_mem_cons.mpr ⟨⟨RX11, TX11, 15, "ReasonDesk", cw_tb, hts, cw_in_X11, rfl, by decide, Or.inl (hts _ tw_367), (fun _ h => h)⟩, (List.forall_mem_cons.mpr ⟨⟨RX11, TX11, 15, "ReasonDesk", cw_tb, hts, cw_in_X11, rfl, by decide, Or.inl (hts _ tw_368), (fun _ h => h)⟩, (List.forall_mem_cons.mpr ⟨⟨RX11, TX11, 15, "ReasonDesk", cw_tb, hts, cw_in_X11, rfl, by decide, Or.inl (hts _ tw_369), (fun _ h => h)⟩, (List.forall_mem_cons.mpr ⟨⟨RX11, TX11, 15, "ReasonDesk", cw_tb, hts, cw_in_X11, rfl, by decide, Or.inl (hts _ tw_370), (fun _ h => h)⟩, (List.forall_mem_cons.mpr ⟨⟨RX11, TX11, 15, "ReasonDesk", cw_tb, hts, cw_in_X11, rfl, by decide, Or.inl (hts _ tw_371), (fun _ h => h)⟩, (List.forall_mem_cons.mpr ⟨⟨RX11, TX11, 15, "ReasonDesk", cw_tb, hts, cw_in_X11, rfl, by decide, Or.inl (hts _ tw_372), (fun _ h => h)⟩, (List.forall_mem_cons.mpr ⟨⟨RX11, TX11, 15, "ReasonDesk", cw_tb, hts, cw_in_X11, rfl, by decide, Or.inl (hts _ tw_373), (fun _ h => h)⟩, (List.forall_mem_cons.mpr ⟨⟨RX11, TX11, 15, "ReasonDesk", cw_tb, hts, cw_in_X11, rfl, by decide, Or.inl (hts _ tw_374), (fun _ h => h)⟩, (List.forall_mem_cons.mpr ⟨⟨RX11, TX11, 15, "ReasonDesk", cw_tb, hts, cw_in_X11, rfl, by decide, Or.inl (hts _ tw_375), (fun _ h => h)⟩, (List.forall_mem_cons.mpr ⟨⟨RX11, TX11, 15, "ReasonDesk", cw_tb, hts, cw_in_X11, rfl, by decide, Or.inl (hts _ tw_376), (fun _ h => h)⟩, (List.forall_mem_cons.mpr ⟨⟨RX11, TX11, 15, "ReasonDesk", cw_tb, hts, cw_in_X11, rfl, by decide, Or.inl (hts _ tw_377), (fun _ h => h)⟩, (List.forall_mem_cons.mpr ⟨⟨RX11, TX11, 15, "ReasonDesk", cw_tb, hts, cw_in_X11, rfl, by decide, Or.inl (hts _ tw_378), (fun _ h => h)⟩, (List.forall_mem_cons.mpr ⟨⟨RX11, TX11, 15, "ReasonDesk", cw_tb, hts, cw_in_X11, rfl, by decide, Or.inl (hts _ tw_379), (fun _ h => h)⟩, (List.forall_mem_cons.mpr ⟨⟨RX11, TX11, 15, "ReasonDesk", cw_tb, hts, cw_in_X11, rfl, by decide, Or.inl (hts _ tw_366), (fun _ h => h)⟩, (List.forall_mem_cons.mpr ⟨⟨RX2, TX2, 12, "ReasonDesk$Book", cw_tb, hts, cw_in_X2, rfl, by decide, Or.inl (hts _ tw_176), (fun _ h => h)⟩, (List.forall_mem_cons.mpr ⟨⟨RX2, TX2, 12, "ReasonDesk$Book", cw_tb, hts, cw_in_X2, rfl, by decide, Or.inl (hts _ tw_178), (fun _ h => h)⟩, (List.forall_mem_cons.mpr ⟨⟨RX2, TX2, 12, "ReasonDesk$Book", cw_tb, hts, cw_in_X2, rfl, by decide, Or.inl (hts _ tw_180), (fun _ h => h)⟩, (List.forall_mem_cons.mpr ⟨⟨RX2, TX2, 12, "ReasonDesk$Book", cw_tb, hts, cw_in_X2, rfl, by decide, Or.inl (hts _ tw_182), (fun _ h => h)⟩, (List.forall_mem_cons.mpr ⟨⟨RX4, TX4, 7, "ReasonDesk$Entry", cw_tb, hts, cw_in_X4, rfl, by decide, Or.inl (hts _ tw_595), (fun _ h => h)⟩, (List.forall_mem_cons.mpr ⟨⟨RX4, TX4, 7, "ReasonDesk$Entry", cw_tb, hts, cw_in_X4, rfl, by decide, Or.inl (hts _ tw_598), (fun _ h => h)⟩, (List.forall_mem_cons.mpr ⟨⟨RX4, TX4, 7, "ReasonDesk$Entry", cw_tb, hts, cw_in_X4, rfl, by decide, Or.inl (hts _ tw_601), (fun _ h => h)⟩, (List.forall_mem_cons.mpr ⟨⟨RX4, TX4, 7, "ReasonDesk$Entry", cw_tb, hts, cw_in_X4, rfl, by decide, Or.inl (hts _ tw_604), (fun _ h => h)⟩, (List.forall_mem_cons.mpr ⟨⟨RX4, TX4, 7, "ReasonDesk$Entry", cw_tb, hts, cw_in_X4, rfl, by decide, Or.inl (hts _ tw_607), (fun _ h => h)⟩, (List.forall_mem_cons.mpr ⟨⟨RX4, TX4, 7, "ReasonDesk$Entry", cw_tb, hts, cw_in_X4, rfl, by decide, Or.inl (hts _ tw_610), (fun _ h => h)⟩, (List.forall_mem_cons.mpr ⟨⟨RX9, TX9, 12, "ReasonDesk$Rules", cw_tb, hts, cw_in_X9, rfl, by decide, Or.inl (hts _ tw_230), (fun _ h => h)⟩, (List.forall_mem_cons.mpr ⟨⟨RX0, TX0, 5, "ReasonDesk$Rule", cw_tb, hts, cw_in_X0, rfl, by decide, Or.inl (hts _ tw_875), (fun _ h => h)⟩, (List.forall_mem_cons.mpr ⟨⟨RX5, TX5, 5, "ReasonDesk$Rule", cw_tb, hts, cw_in_X5, rfl, by decide, Or.inl (hts _ tw_875), (fun _ h => h)⟩, (List.forall_mem_cons.mpr ⟨⟨RX8, TX8, 5, "ReasonDesk$Rule", cw_tb, hts, cw_in_X8, rfl, by decide, Or.inl (hts _ tw_875), (fun _ h => h)⟩, (List.forall_mem_cons.mpr ⟨⟨RX0, TX0, 5, "ReasonDesk$Rule", cw_tb, hts, cw_in_X0, rfl, by decide, Or.inl (hts _ tw_877), (fun _ h => h)⟩, (List.forall_mem_cons.mpr ⟨⟨RX5, TX5, 5, "ReasonDesk$Rule", cw_tb, hts, cw_in_X5, rfl, by decide, Or.inl (hts _ tw_877), (fun _ h => h)⟩, (List.forall_mem_cons.mpr ⟨⟨RX8, TX8, 5, "ReasonDesk$Rule", cw_tb, hts, cw_in_X8, rfl, by decide, Or.inl (hts _ tw_877), (fun _ h => h)⟩, (List.forall_mem_cons.mpr ⟨⟨RX0, TX0, 5, "ReasonDesk$Rule", cw_tb, hts, cw_in_X0, rfl, by decide, Or.inl (hts _ tw_881), (fun _ h => h)⟩, (List.forall_mem_cons.mpr ⟨⟨RX5, TX5, 5, "ReasonDesk$Rule", cw_tb, hts, cw_in_X5, rfl, by decide, Or.inl (hts _ tw_881), (fun _ h => h)⟩, (List.forall_mem_cons.mpr ⟨⟨RX8, TX8, 5, "ReasonDesk$Rule", cw_tb, hts, cw_in_X8, rfl, by decide, Or.inl (hts _ tw_881), (fun _ h => h)⟩, (List.forall_mem_cons.mpr ⟨⟨RX0, TX0, 5, "ReasonDesk$Rule", cw_tb, hts, cw_in_X0, rfl, by decide, Or.inl (hts _ tw_884), (fun _ h => h)⟩, (List.forall_mem_cons.mpr ⟨⟨RX5, TX5, 5, "ReasonDesk$Rule", cw_tb, hts, cw_in_X5, rfl, by decide, Or.inl (hts _ tw_884), (fun _ h => h)⟩, (List.forall_mem_cons.mpr ⟨⟨RX8, TX8, 5, "ReasonDesk$Rule", cw_tb, hts, cw_in_X8, rfl, by decide, Or.inl (hts _ tw_884), (fun _ h => h)⟩, (List.forall_mem_cons.mpr ⟨⟨RX9, TX9, 12, "ReasonDesk$Rules", cw_tb, hts, cw_in_X9, rfl, by decide, Or.inl (hts _ tw_228), (fun _ h => h)⟩, (List.forall_mem_cons.mpr ⟨⟨RX3, TX3, 17, "ReasonDesk$Claims", cw_tb, hts, cw_in_X3, rfl, by decide, Or.inl (hts _ tw_284), (fun _ h => h)⟩, (List.forall_mem_cons.mpr ⟨⟨RX3, TX3, 17, "ReasonDesk$Claims", cw_tb, hts, cw_in_X3, rfl, by decide, Or.inl (hts _ tw_278), (fun _ h => h)⟩, (List.forall_mem_cons.mpr ⟨⟨RX3, TX3, 17, "ReasonDesk$Claims", cw_tb, hts, cw_in_X3, rfl, by decide, Or.inl (hts _ tw_280), (fun _ h => h)⟩, (List.forall_mem_cons.mpr ⟨⟨RX3, TX3, 17, "ReasonDesk$Claims", cw_tb, hts, cw_in_X3, rfl, by decide, Or.inl (hts _ tw_282), (fun _ h => h)⟩, (List.forall_mem_cons.mpr ⟨⟨RX3, TX3, 17, "ReasonDesk$Claims", cw_tb, hts, cw_in_X3, rfl, by decide, Or.inl (hts _ tw_286), (fun _ h => h)⟩, (List.forall_mem_cons.mpr ⟨⟨RX3, TX3, 17, "ReasonDesk$Claims", cw_tb, hts, cw_in_X3, rfl, by decide, Or.inl (hts _ tw_290), (fun _ h => h)⟩, (List.forall_mem_cons.mpr ⟨⟨RX3, TX3, 17, "ReasonDesk$Claims", cw_tb, hts, cw_in_X3, rfl, by decide, Or.inl (hts _ tw_292), (fun _ h => h)⟩, (List.forall_mem_cons.mpr ⟨⟨RX3, TX3, 17, "ReasonDesk$Claims", cw_tb, hts, cw_in_X3, rfl, by decide, Or.inl (hts _ tw_288), (fun _ h => h)⟩, (List.forall_mem_cons.mpr ⟨⟨RX6, TX6, 4, "ReasonDesk$Merging", cw_tb, hts, cw_in_X6, rfl, by decide, Or.inl (hts _ tw_349), (fun _ h => h)⟩, (List.forall_mem_cons.mpr ⟨⟨RX6, TX6, 4, "ReasonDesk$Merging", cw_tb, hts, cw_in_X6, rfl, by decide, Or.inl (hts _ tw_347), (fun _ h => h)⟩, (List.forall_mem_cons.mpr ⟨⟨RX0, TX0, 5, "ReasonDesk$Thing", cw_tb, hts, cw_in_X0, rfl, by decide, Or.inl (hts _ tw_617), (fun _ h => h)⟩, (List.forall_mem_cons.mpr ⟨⟨RX4, TX4, 7, "ReasonDesk$Thing", cw_tb, hts, cw_in_X4, rfl, by decide, Or.inl (hts _ tw_617), (fun _ h => h)⟩, (List.forall_mem_cons.mpr ⟨⟨RX5, TX5, 5, "ReasonDesk$Thing", cw_tb, hts, cw_in_X5, rfl, by decide, Or.inl (hts _ tw_617), (fun _ h => h)⟩, (List.forall_mem_cons.mpr ⟨⟨RX8, TX8, 5, "ReasonDesk$Thing", cw_tb, hts, cw_in_X8, rfl, by decide, Or.inl (hts _ tw_617), (fun _ h => h)⟩, (List.forall_mem_cons.mpr ⟨⟨RX3, TX3, 17, "ReasonDesk$Claims", cw_tb, hts, cw_in_X3, rfl, by decide, Or.inl (hts _ tw_276), (fun _ h => h)⟩, (fun _ h => absurd h List.not_mem_nil)⟩)⟩)⟩)⟩)⟩)⟩)⟩)⟩)⟩)⟩)⟩)⟩)⟩)⟩)⟩)⟩)⟩)⟩)⟩)⟩)⟩)⟩)⟩)⟩)⟩)⟩)⟩)⟩)⟩)⟩)⟩)⟩)⟩)⟩)⟩)⟩)⟩)⟩)⟩)⟩)⟩)⟩)⟩)⟩)⟩)⟩)⟩)⟩)⟩)⟩)⟩)⟩)⟩)⟩)
theorem ppl_X11 {s : State} {args : Array Value} (hts : ∀ w ∈ cw_tb, w.before args s = true) {P : Prop} : ∀ x ∈ pl_X11, ck_hp s args RX11 cw_cls P x :=
  (List.forall_mem_cons.mpr ⟨⟨RX11, TX11, 15, "ReasonDesk", cw_tb, tyX11, hts, cw_in_X11, tyX11_ok, nmX11, rfl, by decide, Or.inl ⟨hts _ tw_379, Or.inl rfl⟩, (fun _ h => h), rfl⟩, (List.forall_mem_cons.mpr ⟨⟨RX11, TX11, 15, "ReasonDesk", cw_tb, tyX11, hts, cw_in_X11, tyX11_ok, nmX11, rfl, by decide, Or.inl ⟨hts _ tw_366, Or.inl rfl⟩, (fun _ h => h), rfl⟩, (List.forall_mem_cons.mpr ⟨⟨RX2, TX2, 12, "ReasonDesk$Book", cw_tb, tyX2, hts, cw_in_X2, tyX2_ok, nmX2, rfl, by decide, Or.inl ⟨hts _ tw_180, Or.inl rfl⟩, (fun _ h => h), rfl⟩, (List.forall_mem_cons.mpr ⟨⟨RX2, TX2, 12, "ReasonDesk$Book", cw_tb, tyX2, hts, cw_in_X2, tyX2_ok, nmX2, rfl, by decide, Or.inl ⟨hts _ tw_182, Or.inl rfl⟩, (fun _ h => h), rfl⟩, (List.forall_mem_cons.mpr ⟨⟨RX4, TX4, 7, "ReasonDesk$Entry", cw_tb, tyX4, hts, cw_in_X4, tyX4_ok, nmX4, rfl, by decide, Or.inl ⟨hts _ tw_610, Or.inl rfl⟩, (fun _ h => h), rfl⟩, (fun _ h => absurd h List.not_mem_nil)⟩)⟩)⟩)⟩)⟩)
theorem ppI_X11 {s : State} {args : Array Value} (hts : ∀ w ∈ cw_tb, w.before args s = true) {P : Prop} (hin : P) : ∀ x ∈ pI_X11, ck_hp s args RX11 cw_cls P x :=
  (List.forall_mem_cons.mpr ⟨⟨RX11, TX11, 15, "ReasonDesk", cw_tb, tyX11, hts, cw_in_X11, tyX11_ok, nmX11, rfl, by decide, Or.inl ⟨hts _ tw_365, Or.inr ⟨rfl, hin, rfl⟩⟩, (fun _ h => h), Or.inr ⟨_, rfl⟩⟩, (List.forall_mem_cons.mpr ⟨⟨RX11, TX11, 15, "ReasonDesk", cw_tb, tyX11, hts, cw_in_X11, tyX11_ok, nmX11, rfl, by decide, Or.inl ⟨hts _ tw_367, Or.inr ⟨rfl, hin, rfl⟩⟩, (fun _ h => h), Or.inl ⟨_, rfl⟩⟩, (List.forall_mem_cons.mpr ⟨⟨RX11, TX11, 15, "ReasonDesk", cw_tb, tyX11, hts, cw_in_X11, tyX11_ok, nmX11, rfl, by decide, Or.inl ⟨hts _ tw_368, Or.inr ⟨rfl, hin, rfl⟩⟩, (fun _ h => h), Or.inl ⟨_, rfl⟩⟩, (List.forall_mem_cons.mpr ⟨⟨RX11, TX11, 15, "ReasonDesk", cw_tb, tyX11, hts, cw_in_X11, tyX11_ok, nmX11, rfl, by decide, Or.inl ⟨hts _ tw_369, Or.inr ⟨rfl, hin, rfl⟩⟩, (fun _ h => h), Or.inl ⟨_, rfl⟩⟩, (List.forall_mem_cons.mpr ⟨⟨RX11, TX11, 15, "ReasonDesk", cw_tb, tyX11, hts, cw_in_X11, tyX11_ok, nmX11, rfl, by decide, Or.inl ⟨hts _ tw_370, Or.inr ⟨rfl, hin, rfl⟩⟩, (fun _ h => h), Or.inl ⟨_, rfl⟩⟩, (List.forall_mem_cons.mpr ⟨⟨RX11, TX11, 15, "ReasonDesk", cw_tb, tyX11, hts, cw_in_X11, tyX11_ok, nmX11, rfl, by decide, Or.inl ⟨hts _ tw_371, Or.inr ⟨rfl, hin, rfl⟩⟩, (fun _ h => h), Or.inl ⟨_, rfl⟩⟩, (List.forall_mem_cons.mpr ⟨⟨RX11, TX11, 15, "ReasonDesk", cw_tb, tyX11, hts, cw_in_X11, tyX11_ok, nmX11, rfl, by decide, Or.inl ⟨hts _ tw_372, Or.inr ⟨rfl, hin, rfl⟩⟩, (fun _ h => h), Or.inl ⟨_, rfl⟩⟩, (List.forall_mem_cons.mpr ⟨⟨RX11, TX11, 15, "ReasonDesk", cw_tb, tyX11, hts, cw_in_X11, tyX11_ok, nmX11, rfl, by decide, Or.inl ⟨hts _ tw_373, Or.inr ⟨rfl, hin, rfl⟩⟩, (fun _ h => h), Or.inl ⟨_, rfl⟩⟩, (List.forall_mem_cons.mpr ⟨⟨RX11, TX11, 15, "ReasonDesk", cw_tb, tyX11, hts, cw_in_X11, tyX11_ok, nmX11, rfl, by decide, Or.inl ⟨hts _ tw_374, Or.inr ⟨rfl, hin, rfl⟩⟩, (fun _ h => h), Or.inr ⟨_, rfl⟩⟩, (List.forall_mem_cons.mpr ⟨⟨RX11, TX11, 15, "ReasonDesk", cw_tb, tyX11, hts, cw_in_X11, tyX11_ok, nmX11, rfl, by decide, Or.inl ⟨hts _ tw_375, Or.inr ⟨rfl, hin, rfl⟩⟩, (fun _ h => h), Or.inr ⟨_, rfl⟩⟩, (List.forall_mem_cons.mpr ⟨⟨RX11, TX11, 15, "ReasonDesk", cw_tb, tyX11, hts, cw_in_X11, tyX11_ok, nmX11, rfl, by decide, Or.inl ⟨hts _ tw_376, Or.inr ⟨rfl, hin, rfl⟩⟩, (fun _ h => h), Or.inr ⟨_, rfl⟩⟩, (List.forall_mem_cons.mpr ⟨⟨RX11, TX11, 15, "ReasonDesk", cw_tb, tyX11, hts, cw_in_X11, tyX11_ok, nmX11, rfl, by decide, Or.inl ⟨hts _ tw_377, Or.inr ⟨rfl, hin, rfl⟩⟩, (fun _ h => h), Or.inr ⟨_, rfl⟩⟩, (List.forall_mem_cons.mpr ⟨⟨RX11, TX11, 15, "ReasonDesk", cw_tb, tyX11, hts, cw_in_X11, tyX11_ok, nmX11, rfl, by decide, Or.inl ⟨hts _ tw_378, Or.inr ⟨rfl, hin, rfl⟩⟩, (fun _ h => h), Or.inr ⟨_, rfl⟩⟩, (List.forall_mem_cons.mpr ⟨⟨RX11, TX11, 15, "ReasonDesk", cw_tb, tyX11, hts, cw_in_X11, tyX11_ok, nmX11, rfl, by decide, Or.inl ⟨hts _ tw_379, Or.inl rfl⟩, (fun _ h => h), rfl⟩, (List.forall_mem_cons.mpr ⟨⟨RX11, TX11, 15, "ReasonDesk", cw_tb, tyX11, hts, cw_in_X11, tyX11_ok, nmX11, rfl, by decide, Or.inl ⟨hts _ tw_366, Or.inl rfl⟩, (fun _ h => h), rfl⟩, (List.forall_mem_cons.mpr ⟨⟨RX2, TX2, 12, "ReasonDesk$Book", cw_tb, tyX2, hts, cw_in_X2, tyX2_ok, nmX2, rfl, by decide, Or.inl ⟨hts _ tw_180, Or.inl rfl⟩, (fun _ h => h), rfl⟩, (List.forall_mem_cons.mpr ⟨⟨RX2, TX2, 12, "ReasonDesk$Book", cw_tb, tyX2, hts, cw_in_X2, tyX2_ok, nmX2, rfl, by decide, Or.inl ⟨hts _ tw_182, Or.inl rfl⟩, (fun _ h => h), rfl⟩, (List.forall_mem_cons.mpr ⟨⟨RX4, TX4, 7, "ReasonDesk$Entry", cw_tb, tyX4, hts, cw_in_X4, tyX4_ok, nmX4, rfl, by decide, Or.inl ⟨hts _ tw_610, Or.inl rfl⟩, (fun _ h => h), rfl⟩, (fun _ h => absurd h List.not_mem_nil)⟩)⟩)⟩)⟩)⟩)⟩)⟩)⟩)⟩)⟩)⟩)⟩)⟩)⟩)⟩)⟩)⟩)⟩)
theorem pnw_X11 {s : State} {args : Array Value} (hts : ∀ w ∈ cw_tb, w.before args s = true) : ∀ x ∈ nw_X11, ck_hn s args RX11 cw_cls cw_TT x :=
  (List.forall_mem_cons.mpr ⟨⟨RX4, TX4, cw_tb, tyX4, hts, cw_in_X4, tyX4_ok, hts _ tw_585, hts _ tw_586, hts _ tw_108, rfl, fun td htd j t ht => by
    have e := Option.some.inj htd
    subst e
    rcases j with _ | _ | _ | _ | _ | _ | _ | j <;> first | (have e2 := Option.some.inj ht; subst e2; exact ⟨fun _ => rfl, (fun z => by cases z)⟩) | (exact absurd ht (by simp))⟩, (List.forall_mem_cons.mpr ⟨⟨RX8, TX8, cw_tb, tyX8, hts, cw_in_X8, tyX8_ok, hts _ tw_868, hts _ tw_869, hts _ tw_110, rfl, fun td htd j t ht => by
    have e := Option.some.inj htd
    subst e
    rcases j with _ | _ | _ | _ | _ | _ | _ | j <;> first | (have e2 := Option.some.inj ht; subst e2; exact ⟨fun _ => rfl, (fun z => by cases z)⟩) | (exact absurd ht (by simp))⟩, (List.forall_mem_cons.mpr ⟨⟨RX0, TX0, cw_tb, tyX0, hts, cw_in_X0, tyX0_ok, hts _ tw_895, hts _ tw_896, hts _ tw_111, rfl, fun td htd j t ht => by
    have e := Option.some.inj htd
    subst e
    rcases j with _ | _ | _ | _ | _ | _ | _ | j <;> first | (have e2 := Option.some.inj ht; subst e2; exact ⟨fun _ => rfl, (fun z => by cases z)⟩) | (exact absurd ht (by simp))⟩, (List.forall_mem_cons.mpr ⟨⟨RX5, TX5, cw_tb, tyX5, hts, cw_in_X5, tyX5_ok, hts _ tw_907, hts _ tw_908, hts _ tw_112, rfl, fun td htd j t ht => by
    have e := Option.some.inj htd
    subst e
    rcases j with _ | _ | _ | _ | _ | _ | _ | j <;> first | (have e2 := Option.some.inj ht; subst e2; exact ⟨fun _ => rfl, (fun z => by cases z)⟩) | (exact absurd ht (by simp))⟩, (fun _ h => absurd h List.not_mem_nil)⟩)⟩)⟩)⟩)
theorem pkl_X11 {s : State} {args : Array Value} (hts : ∀ w ∈ cw_tb, w.before args s = true) : ∀ x ∈ kl_X11, ck_hk s args RX11 x :=
  (List.forall_mem_cons.mpr ⟨⟨(fun z => by cases z), fun _ => ⟨(-9223372036854775808), by decide, hts _ tw_1245⟩⟩, (fun _ h => absurd h List.not_mem_nil)⟩)
theorem pil_X11 {s : State} {args : Array Value} (hts : ∀ w ∈ cw_tb, w.before args s = true) (hnc : ck_nq cw_V s) : ∀ x ∈ il_X11, ck_hi s args RX11 cw_cls x :=
  (List.forall_mem_cons.mpr ⟨⟨(RX4, TX4, 7), "ReasonDesk$Entry", rfl, hts _ tw_585, Or.inl ⟨rfl, Or.inl rfl⟩⟩, (List.forall_mem_cons.mpr ⟨⟨(RX8, TX8, 5), "ReasonDesk$Entry", rfl, hts _ tw_585, Or.inr ⟨rfl, hnc.1 ("ReasonDesk$Rule", "ReasonDesk$Entry") (by decide +kernel)⟩⟩, (List.forall_mem_cons.mpr ⟨⟨(RX0, TX0, 5), "ReasonDesk$Entry", rfl, hts _ tw_585, Or.inr ⟨rfl, hnc.1 ("ReasonDesk$Barred", "ReasonDesk$Entry") (by decide +kernel)⟩⟩, (List.forall_mem_cons.mpr ⟨⟨(RX5, TX5, 5), "ReasonDesk$Entry", rfl, hts _ tw_585, Or.inr ⟨rfl, hnc.1 ("ReasonDesk$Loose", "ReasonDesk$Entry") (by decide +kernel)⟩⟩, (List.forall_mem_cons.mpr ⟨⟨(RX4, TX4, 7), "ReasonDesk$Rule", rfl, hts _ tw_868, Or.inr ⟨rfl, hnc.1 ("ReasonDesk$Entry", "ReasonDesk$Rule") (by decide +kernel)⟩⟩, (List.forall_mem_cons.mpr ⟨⟨(RX8, TX8, 5), "ReasonDesk$Rule", rfl, hts _ tw_868, Or.inl ⟨rfl, Or.inl rfl⟩⟩, (List.forall_mem_cons.mpr ⟨⟨(RX0, TX0, 5), "ReasonDesk$Rule", rfl, hts _ tw_868, Or.inl ⟨rfl, Or.inr (hnc.2 (.castable "ReasonDesk$Barred" "ReasonDesk$Rule") (by decide +kernel)).2⟩⟩, (List.forall_mem_cons.mpr ⟨⟨(RX5, TX5, 5), "ReasonDesk$Rule", rfl, hts _ tw_868, Or.inl ⟨rfl, Or.inr (hnc.2 (.castable "ReasonDesk$Loose" "ReasonDesk$Rule") (by decide +kernel)).2⟩⟩, (List.forall_mem_cons.mpr ⟨⟨(RX4, TX4, 7), "ReasonDesk$Barred", rfl, hts _ tw_895, Or.inr ⟨rfl, hnc.1 ("ReasonDesk$Entry", "ReasonDesk$Barred") (by decide +kernel)⟩⟩, (List.forall_mem_cons.mpr ⟨⟨(RX8, TX8, 5), "ReasonDesk$Barred", rfl, hts _ tw_895, Or.inr ⟨rfl, hnc.1 ("ReasonDesk$Rule", "ReasonDesk$Barred") (by decide +kernel)⟩⟩, (List.forall_mem_cons.mpr ⟨⟨(RX0, TX0, 5), "ReasonDesk$Barred", rfl, hts _ tw_895, Or.inl ⟨rfl, Or.inl rfl⟩⟩, (List.forall_mem_cons.mpr ⟨⟨(RX5, TX5, 5), "ReasonDesk$Barred", rfl, hts _ tw_895, Or.inl ⟨rfl, Or.inr (hnc.2 (.castable "ReasonDesk$Loose" "ReasonDesk$Barred") (by decide +kernel)).2⟩⟩, (List.forall_mem_cons.mpr ⟨⟨(RX4, TX4, 7), "ReasonDesk$Loose", rfl, hts _ tw_907, Or.inr ⟨rfl, hnc.1 ("ReasonDesk$Entry", "ReasonDesk$Loose") (by decide +kernel)⟩⟩, (List.forall_mem_cons.mpr ⟨⟨(RX8, TX8, 5), "ReasonDesk$Loose", rfl, hts _ tw_907, Or.inr ⟨rfl, hnc.1 ("ReasonDesk$Rule", "ReasonDesk$Loose") (by decide +kernel)⟩⟩, (List.forall_mem_cons.mpr ⟨⟨(RX0, TX0, 5), "ReasonDesk$Loose", rfl, hts _ tw_907, Or.inr ⟨rfl, hnc.1 ("ReasonDesk$Barred", "ReasonDesk$Loose") (by decide +kernel)⟩⟩, (List.forall_mem_cons.mpr ⟨⟨(RX5, TX5, 5), "ReasonDesk$Loose", rfl, hts _ tw_907, Or.inl ⟨rfl, Or.inl rfl⟩⟩, (fun _ h => absurd h List.not_mem_nil)⟩)⟩)⟩)⟩)⟩)⟩)⟩)⟩)⟩)⟩)⟩)⟩)⟩)⟩)⟩)⟩)
theorem pxl_X11 {s : State} {args : Array Value} (hts : ∀ w ∈ cw_tb, w.before args s = true) (hnc : ck_nq cw_V s) : ∀ x ∈ xl_X11, ck_hx s args RX11 cw_cls x :=
  (List.forall_mem_cons.mpr ⟨⟨(RX8, TX8, 5), "ReasonDesk$Rule", rfl, hts _ tw_868, Or.inl rfl⟩, (List.forall_mem_cons.mpr ⟨⟨(RX0, TX0, 5), "ReasonDesk$Rule", rfl, hts _ tw_868, Or.inr (hnc.2 (.castable "ReasonDesk$Barred" "ReasonDesk$Rule") (by decide +kernel)).2⟩, (List.forall_mem_cons.mpr ⟨⟨(RX5, TX5, 5), "ReasonDesk$Rule", rfl, hts _ tw_868, Or.inr (hnc.2 (.castable "ReasonDesk$Loose" "ReasonDesk$Rule") (by decide +kernel)).2⟩, (fun _ h => absurd h List.not_mem_nil)⟩)⟩)⟩)
theorem pgl_X11 {s : State} {args : Array Value} (hts : ∀ w ∈ cw_tb, w.before args s = true) {sw : Option Nat} (hsw : sw.isSome = true) (b : Nat → Int) : ∀ i ∈ gl_X11, ck_hs s args RX11 (none, sw, b) i :=
  (fun _ h => absurd h List.not_mem_nil)
def fl_X0 : List (Nat × Nat × Nat) := [(17, 0, 2), (17, 5, 2), (17, 8, 3)]
def pl_X0 : List (Nat × Nat × Nat × Nat) := []
def pI_X0 : List (Nat × Nat × Nat × Nat) := []
def nw_X0 : List (Nat × Nat × Nat × Nat) := []
def kl_X0 : List (Nat × Nat × Int) := []
def il_X0 : List (Nat × Nat × Nat) := []
def xl_X0 : List (Nat × Nat) := []
def gl_X0 : List Nat := []
theorem pfl_X0 {s : State} {args : Array Value} (hts : ∀ w ∈ cw_tb, w.before args s = true) : ∀ x ∈ fl_X0, ck_hg s args RX0 cw_cls x :=
  (List.forall_mem_cons.mpr ⟨⟨RX0, TX0, 5, "ReasonDesk$Barred", cw_tb, hts, cw_in_X0, rfl, by decide, Or.inl (hts _ tw_879), (fun x h => u_same (hts _ tw_880) x h)⟩, (List.forall_mem_cons.mpr ⟨⟨RX5, TX5, 5, "ReasonDesk$Barred", cw_tb, hts, cw_in_X5, rfl, by decide, Or.inl (hts _ tw_879), (fun x h => u_same (hts _ tw_880) x h)⟩, (List.forall_mem_cons.mpr ⟨⟨RX8, TX8, 5, "ReasonDesk$Barred", cw_tb, hts, cw_in_X8, rfl, by decide, Or.inl (hts _ tw_879), (fun x h => u_same (hts _ tw_880) x h)⟩, (fun _ h => absurd h List.not_mem_nil)⟩)⟩)⟩)
theorem ppl_X0 {s : State} {args : Array Value} (hts : ∀ w ∈ cw_tb, w.before args s = true) {P : Prop} : ∀ x ∈ pl_X0, ck_hp s args RX0 cw_cls P x :=
  (fun _ h => absurd h List.not_mem_nil)
theorem ppI_X0 {s : State} {args : Array Value} (hts : ∀ w ∈ cw_tb, w.before args s = true) {P : Prop} (hin : P) : ∀ x ∈ pI_X0, ck_hp s args RX0 cw_cls P x :=
  (fun _ h => absurd h List.not_mem_nil)
theorem pnw_X0 {s : State} {args : Array Value} (hts : ∀ w ∈ cw_tb, w.before args s = true) : ∀ x ∈ nw_X0, ck_hn s args RX0 cw_cls cw_TT x :=
  (fun _ h => absurd h List.not_mem_nil)
theorem pkl_X0 {s : State} {args : Array Value} (hts : ∀ w ∈ cw_tb, w.before args s = true) : ∀ x ∈ kl_X0, ck_hk s args RX0 x :=
  (fun _ h => absurd h List.not_mem_nil)
theorem pil_X0 {s : State} {args : Array Value} (hts : ∀ w ∈ cw_tb, w.before args s = true) (hnc : ck_nq cw_V s) : ∀ x ∈ il_X0, ck_hi s args RX0 cw_cls x :=
  (fun _ h => absurd h List.not_mem_nil)
theorem pxl_X0 {s : State} {args : Array Value} (hts : ∀ w ∈ cw_tb, w.before args s = true) (hnc : ck_nq cw_V s) : ∀ x ∈ xl_X0, ck_hx s args RX0 cw_cls x :=
  (fun _ h => absurd h List.not_mem_nil)
theorem pgl_X0 {s : State} {args : Array Value} (hts : ∀ w ∈ cw_tb, w.before args s = true) {sw : Option Nat} (hsw : sw.isSome = true) (b : Nat → Int) : ∀ i ∈ gl_X0, ck_hs s args RX0 (none, sw, b) i :=
  (fun _ h => absurd h List.not_mem_nil)
def fl_X1 : List (Nat × Nat × Nat) := [(13, 1, 0)]
def pl_X1 : List (Nat × Nat × Nat × Nat) := []
def pI_X1 : List (Nat × Nat × Nat × Nat) := [(13, 1, 0, 2)]
def nw_X1 : List (Nat × Nat × Nat × Nat) := []
def kl_X1 : List (Nat × Nat × Int) := [(25, 1, (-1))]
def il_X1 : List (Nat × Nat × Nat) := []
def xl_X1 : List (Nat × Nat) := []
def gl_X1 : List Nat := [27]
theorem pfl_X1 {s : State} {args : Array Value} (hts : ∀ w ∈ cw_tb, w.before args s = true) : ∀ x ∈ fl_X1, ck_hg s args RX1 cw_cls x :=
  (List.forall_mem_cons.mpr ⟨⟨RX1, TX1, 1, "ReasonDesk$Bits", cw_tb, hts, cw_in_X1, rfl, by decide, Or.inl (hts _ tw_135), (fun _ h => h)⟩, (fun _ h => absurd h List.not_mem_nil)⟩)
theorem ppl_X1 {s : State} {args : Array Value} (hts : ∀ w ∈ cw_tb, w.before args s = true) {P : Prop} : ∀ x ∈ pl_X1, ck_hp s args RX1 cw_cls P x :=
  (fun _ h => absurd h List.not_mem_nil)
theorem ppI_X1 {s : State} {args : Array Value} (hts : ∀ w ∈ cw_tb, w.before args s = true) {P : Prop} (hin : P) : ∀ x ∈ pI_X1, ck_hp s args RX1 cw_cls P x :=
  (List.forall_mem_cons.mpr ⟨⟨RX1, TX1, 1, "ReasonDesk$Bits", cw_tb, tyX1, hts, cw_in_X1, tyX1_ok, nmX1, rfl, by decide, Or.inl ⟨hts _ tw_135, Or.inr ⟨rfl, hin, rfl⟩⟩, (fun _ h => h), Or.inr ⟨_, rfl⟩⟩, (fun _ h => absurd h List.not_mem_nil)⟩)
theorem pnw_X1 {s : State} {args : Array Value} (hts : ∀ w ∈ cw_tb, w.before args s = true) : ∀ x ∈ nw_X1, ck_hn s args RX1 cw_cls cw_TT x :=
  (fun _ h => absurd h List.not_mem_nil)
theorem pkl_X1 {s : State} {args : Array Value} (hts : ∀ w ∈ cw_tb, w.before args s = true) : ∀ x ∈ kl_X1, ck_hk s args RX1 x :=
  (List.forall_mem_cons.mpr ⟨⟨(fun z => by cases z), fun _ => ⟨(-1), by decide, hts _ tw_464⟩⟩, (fun _ h => absurd h List.not_mem_nil)⟩)
theorem pil_X1 {s : State} {args : Array Value} (hts : ∀ w ∈ cw_tb, w.before args s = true) (hnc : ck_nq cw_V s) : ∀ x ∈ il_X1, ck_hi s args RX1 cw_cls x :=
  (fun _ h => absurd h List.not_mem_nil)
theorem pxl_X1 {s : State} {args : Array Value} (hts : ∀ w ∈ cw_tb, w.before args s = true) (hnc : ck_nq cw_V s) : ∀ x ∈ xl_X1, ck_hx s args RX1 cw_cls x :=
  (fun _ h => absurd h List.not_mem_nil)
theorem pgl_X1 {s : State} {args : Array Value} (hts : ∀ w ∈ cw_tb, w.before args s = true) {sw : Option Nat} (hsw : sw.isSome = true) (b : Nat → Int) : ∀ i ∈ gl_X1, ck_hs s args RX1 (none, sw, b) i :=
  (List.forall_mem_cons.mpr ⟨⟨hsw, "ReasonDesk$Bits", hts _ tw_493, fun _ h => h⟩, (fun _ h => absurd h List.not_mem_nil)⟩)
def fl_X2 : List (Nat × Nat × Nat) := [(9, 2, 0), (15, 2, 3), (21, 2, 4), (25, 2, 5), (33, 2, 6), (37, 2, 7), (40, 2, 8), (43, 2, 9), (46, 2, 10), (49, 2, 11), (58, 2, 1), (65, 0, 4), (65, 4, 0), (65, 5, 4), (65, 8, 0), (72, 4, 3), (75, 2, 2), (78, 4, 4), (81, 4, 5), (84, 4, 6), (87, 4, 2)]
def pl_X2 : List (Nat × Nat × Nat × Nat) := [(15, 2, 3, 0), (49, 2, 11, 0), (58, 2, 1, 0), (84, 4, 6, 0)]
def pI_X2 : List (Nat × Nat × Nat × Nat) := [(9, 2, 0, 2), (15, 2, 3, 0), (21, 2, 4, 2), (25, 2, 5, 2), (33, 2, 6, 2), (37, 2, 7, 2), (40, 2, 8, 2), (43, 2, 9, 2), (46, 2, 10, 2), (49, 2, 11, 0), (58, 2, 1, 0), (84, 4, 6, 0)]
def nw_X2 : List (Nat × Nat × Nat × Nat) := []
def kl_X2 : List (Nat × Nat × Int) := [(169, 0, 2147483647)]
def il_X2 : List (Nat × Nat × Nat) := []
def xl_X2 : List (Nat × Nat) := []
def gl_X2 : List Nat := []
theorem pfl_X2 {s : State} {args : Array Value} (hts : ∀ w ∈ cw_tb, w.before args s = true) : ∀ x ∈ fl_X2, ck_hg s args RX2 cw_cls x :=
  (List.forall_mem_cons.mpr ⟨⟨RX2, TX2, 12, "ReasonDesk$Book", cw_tb, hts, cw_in_X2, rfl, by decide, Or.inl (hts _ tw_174), (fun _ h => h)⟩, (List.forall_mem_cons.mpr ⟨⟨RX2, TX2, 12, "ReasonDesk$Book", cw_tb, hts, cw_in_X2, rfl, by decide, Or.inl (hts _ tw_181), (fun _ h => h)⟩, (List.forall_mem_cons.mpr ⟨⟨RX2, TX2, 12, "ReasonDesk$Book", cw_tb, hts, cw_in_X2, rfl, by decide, Or.inl (hts _ tw_183), (fun _ h => h)⟩, (List.forall_mem_cons.mpr ⟨⟨RX2, TX2, 12, "ReasonDesk$Book", cw_tb, hts, cw_in_X2, rfl, by decide, Or.inl (hts _ tw_184), (fun _ h => h)⟩, (List.forall_mem_cons.mpr ⟨⟨RX2, TX2, 12, "ReasonDesk$Book", cw_tb, hts, cw_in_X2, rfl, by decide, Or.inl (hts _ tw_185), (fun _ h => h)⟩, (List.forall_mem_cons.mpr ⟨⟨RX2, TX2, 12, "ReasonDesk$Book", cw_tb, hts, cw_in_X2, rfl, by decide, Or.inl (hts _ tw_186), (fun _ h => h)⟩, (List.forall_mem_cons.mpr ⟨⟨RX2, TX2, 12, "ReasonDesk$Book", cw_tb, hts, cw_in_X2, rfl, by decide, Or.inl (hts _ tw_187), (fun _ h => h)⟩, (List.forall_mem_cons.mpr ⟨⟨RX2, TX2, 12, "ReasonDesk$Book", cw_tb, hts, cw_in_X2, rfl, by decide, Or.inl (hts _ tw_188), (fun _ h => h)⟩, (List.forall_mem_cons.mpr ⟨⟨RX2, TX2, 12, "ReasonDesk$Book", cw_tb, hts, cw_in_X2, rfl, by decide, Or.inl (hts _ tw_189), (fun _ h => h)⟩, (List.forall_mem_cons.mpr ⟨⟨RX2, TX2, 12, "ReasonDesk$Book", cw_tb, hts, cw_in_X2, rfl, by decide, Or.inl (hts _ tw_190), (fun _ h => h)⟩, (List.forall_mem_cons.mpr ⟨⟨RX2, TX2, 12, "ReasonDesk$Book", cw_tb, hts, cw_in_X2, rfl, by decide, Or.inl (hts _ tw_177), (fun _ h => h)⟩, (List.forall_mem_cons.mpr ⟨⟨RX0, TX0, 5, "ReasonDesk$Entry", cw_tb, hts, cw_in_X0, rfl, by decide, Or.inl (hts _ tw_612), (fun x h => u_same (hts _ tw_613) x h)⟩, (List.forall_mem_cons.mpr ⟨⟨RX4, TX4, 7, "ReasonDesk$Entry", cw_tb, hts, cw_in_X4, rfl, by decide, Or.inl (hts _ tw_612), (fun x h => u_same (hts _ tw_613) x h)⟩, (List.forall_mem_cons.mpr ⟨⟨RX5, TX5, 5, "ReasonDesk$Entry", cw_tb, hts, cw_in_X5, rfl, by decide, Or.inl (hts _ tw_612), (fun x h => u_same (hts _ tw_613) x h)⟩, (List.forall_mem_cons.mpr ⟨⟨RX8, TX8, 5, "ReasonDesk$Entry", cw_tb, hts, cw_in_X8, rfl, by decide, Or.inl (hts _ tw_612), (fun x h => u_same (hts _ tw_613) x h)⟩, (List.forall_mem_cons.mpr ⟨⟨RX4, TX4, 7, "ReasonDesk$Entry", cw_tb, hts, cw_in_X4, rfl, by decide, Or.inl (hts _ tw_600), (fun _ h => h)⟩, (List.forall_mem_cons.mpr ⟨⟨RX2, TX2, 12, "ReasonDesk$Book", cw_tb, hts, cw_in_X2, rfl, by decide, Or.inl (hts _ tw_179), (fun _ h => h)⟩, (List.forall_mem_cons.mpr ⟨⟨RX4, TX4, 7, "ReasonDesk$Entry", cw_tb, hts, cw_in_X4, rfl, by decide, Or.inl (hts _ tw_603), (fun _ h => h)⟩, (List.forall_mem_cons.mpr ⟨⟨RX4, TX4, 7, "ReasonDesk$Entry", cw_tb, hts, cw_in_X4, rfl, by decide, Or.inl (hts _ tw_606), (fun _ h => h)⟩, (List.forall_mem_cons.mpr ⟨⟨RX4, TX4, 7, "ReasonDesk$Entry", cw_tb, hts, cw_in_X4, rfl, by decide, Or.inl (hts _ tw_609), (fun _ h => h)⟩, (List.forall_mem_cons.mpr ⟨⟨RX4, TX4, 7, "ReasonDesk$Entry", cw_tb, hts, cw_in_X4, rfl, by decide, Or.inl (hts _ tw_597), (fun _ h => h)⟩, (fun _ h => absurd h List.not_mem_nil)⟩)⟩)⟩)⟩)⟩)⟩)⟩)⟩)⟩)⟩)⟩)⟩)⟩)⟩)⟩)⟩)⟩)⟩)⟩)⟩)⟩)
theorem ppl_X2 {s : State} {args : Array Value} (hts : ∀ w ∈ cw_tb, w.before args s = true) {P : Prop} : ∀ x ∈ pl_X2, ck_hp s args RX2 cw_cls P x :=
  (List.forall_mem_cons.mpr ⟨⟨RX2, TX2, 12, "ReasonDesk$Book", cw_tb, tyX2, hts, cw_in_X2, tyX2_ok, nmX2, rfl, by decide, Or.inl ⟨hts _ tw_181, Or.inl rfl⟩, (fun _ h => h), rfl⟩, (List.forall_mem_cons.mpr ⟨⟨RX2, TX2, 12, "ReasonDesk$Book", cw_tb, tyX2, hts, cw_in_X2, tyX2_ok, nmX2, rfl, by decide, Or.inl ⟨hts _ tw_190, Or.inl rfl⟩, (fun _ h => h), rfl⟩, (List.forall_mem_cons.mpr ⟨⟨RX2, TX2, 12, "ReasonDesk$Book", cw_tb, tyX2, hts, cw_in_X2, tyX2_ok, nmX2, rfl, by decide, Or.inl ⟨hts _ tw_177, Or.inl rfl⟩, (fun _ h => h), rfl⟩, (List.forall_mem_cons.mpr ⟨⟨RX4, TX4, 7, "ReasonDesk$Entry", cw_tb, tyX4, hts, cw_in_X4, tyX4_ok, nmX4, rfl, by decide, Or.inl ⟨hts _ tw_609, Or.inl rfl⟩, (fun _ h => h), rfl⟩, (fun _ h => absurd h List.not_mem_nil)⟩)⟩)⟩)⟩)
theorem ppI_X2 {s : State} {args : Array Value} (hts : ∀ w ∈ cw_tb, w.before args s = true) {P : Prop} (hin : P) : ∀ x ∈ pI_X2, ck_hp s args RX2 cw_cls P x :=
  (List.forall_mem_cons.mpr ⟨⟨RX2, TX2, 12, "ReasonDesk$Book", cw_tb, tyX2, hts, cw_in_X2, tyX2_ok, nmX2, rfl, by decide, Or.inl ⟨hts _ tw_174, Or.inr ⟨rfl, hin, rfl⟩⟩, (fun _ h => h), Or.inr ⟨_, rfl⟩⟩, (List.forall_mem_cons.mpr ⟨⟨RX2, TX2, 12, "ReasonDesk$Book", cw_tb, tyX2, hts, cw_in_X2, tyX2_ok, nmX2, rfl, by decide, Or.inl ⟨hts _ tw_181, Or.inl rfl⟩, (fun _ h => h), rfl⟩, (List.forall_mem_cons.mpr ⟨⟨RX2, TX2, 12, "ReasonDesk$Book", cw_tb, tyX2, hts, cw_in_X2, tyX2_ok, nmX2, rfl, by decide, Or.inl ⟨hts _ tw_183, Or.inr ⟨rfl, hin, rfl⟩⟩, (fun _ h => h), Or.inr ⟨_, rfl⟩⟩, (List.forall_mem_cons.mpr ⟨⟨RX2, TX2, 12, "ReasonDesk$Book", cw_tb, tyX2, hts, cw_in_X2, tyX2_ok, nmX2, rfl, by decide, Or.inl ⟨hts _ tw_184, Or.inr ⟨rfl, hin, rfl⟩⟩, (fun _ h => h), Or.inr ⟨_, rfl⟩⟩, (List.forall_mem_cons.mpr ⟨⟨RX2, TX2, 12, "ReasonDesk$Book", cw_tb, tyX2, hts, cw_in_X2, tyX2_ok, nmX2, rfl, by decide, Or.inl ⟨hts _ tw_185, Or.inr ⟨rfl, hin, rfl⟩⟩, (fun _ h => h), Or.inl ⟨_, rfl⟩⟩, (List.forall_mem_cons.mpr ⟨⟨RX2, TX2, 12, "ReasonDesk$Book", cw_tb, tyX2, hts, cw_in_X2, tyX2_ok, nmX2, rfl, by decide, Or.inl ⟨hts _ tw_186, Or.inr ⟨rfl, hin, rfl⟩⟩, (fun _ h => h), Or.inl ⟨_, rfl⟩⟩, (List.forall_mem_cons.mpr ⟨⟨RX2, TX2, 12, "ReasonDesk$Book", cw_tb, tyX2, hts, cw_in_X2, tyX2_ok, nmX2, rfl, by decide, Or.inl ⟨hts _ tw_187, Or.inr ⟨rfl, hin, rfl⟩⟩, (fun _ h => h), Or.inl ⟨_, rfl⟩⟩, (List.forall_mem_cons.mpr ⟨⟨RX2, TX2, 12, "ReasonDesk$Book", cw_tb, tyX2, hts, cw_in_X2, tyX2_ok, nmX2, rfl, by decide, Or.inl ⟨hts _ tw_188, Or.inr ⟨rfl, hin, rfl⟩⟩, (fun _ h => h), Or.inl ⟨_, rfl⟩⟩, (List.forall_mem_cons.mpr ⟨⟨RX2, TX2, 12, "ReasonDesk$Book", cw_tb, tyX2, hts, cw_in_X2, tyX2_ok, nmX2, rfl, by decide, Or.inl ⟨hts _ tw_189, Or.inr ⟨rfl, hin, rfl⟩⟩, (fun _ h => h), Or.inl ⟨_, rfl⟩⟩, (List.forall_mem_cons.mpr ⟨⟨RX2, TX2, 12, "ReasonDesk$Book", cw_tb, tyX2, hts, cw_in_X2, tyX2_ok, nmX2, rfl, by decide, Or.inl ⟨hts _ tw_190, Or.inl rfl⟩, (fun _ h => h), rfl⟩, (List.forall_mem_cons.mpr ⟨⟨RX2, TX2, 12, "ReasonDesk$Book", cw_tb, tyX2, hts, cw_in_X2, tyX2_ok, nmX2, rfl, by decide, Or.inl ⟨hts _ tw_177, Or.inl rfl⟩, (fun _ h => h), rfl⟩, (List.forall_mem_cons.mpr ⟨⟨RX4, TX4, 7, "ReasonDesk$Entry", cw_tb, tyX4, hts, cw_in_X4, tyX4_ok, nmX4, rfl, by decide, Or.inl ⟨hts _ tw_609, Or.inl rfl⟩, (fun _ h => h), rfl⟩, (fun _ h => absurd h List.not_mem_nil)⟩)⟩)⟩)⟩)⟩)⟩)⟩)⟩)⟩)⟩)⟩)⟩)
theorem pnw_X2 {s : State} {args : Array Value} (hts : ∀ w ∈ cw_tb, w.before args s = true) : ∀ x ∈ nw_X2, ck_hn s args RX2 cw_cls cw_TT x :=
  (fun _ h => absurd h List.not_mem_nil)
theorem pkl_X2 {s : State} {args : Array Value} (hts : ∀ w ∈ cw_tb, w.before args s = true) : ∀ x ∈ kl_X2, ck_hk s args RX2 x :=
  (List.forall_mem_cons.mpr ⟨⟨fun _ => ⟨(2147483647), by decide, hts _ tw_823⟩, (fun z => by cases z)⟩, (fun _ h => absurd h List.not_mem_nil)⟩)
theorem pil_X2 {s : State} {args : Array Value} (hts : ∀ w ∈ cw_tb, w.before args s = true) (hnc : ck_nq cw_V s) : ∀ x ∈ il_X2, ck_hi s args RX2 cw_cls x :=
  (fun _ h => absurd h List.not_mem_nil)
theorem pxl_X2 {s : State} {args : Array Value} (hts : ∀ w ∈ cw_tb, w.before args s = true) (hnc : ck_nq cw_V s) : ∀ x ∈ xl_X2, ck_hx s args RX2 cw_cls x :=
  (fun _ h => absurd h List.not_mem_nil)
theorem pgl_X2 {s : State} {args : Array Value} (hts : ∀ w ∈ cw_tb, w.before args s = true) {sw : Option Nat} (hsw : sw.isSome = true) (b : Nat → Int) : ∀ i ∈ gl_X2, ck_hs s args RX2 (none, sw, b) i :=
  (fun _ h => absurd h List.not_mem_nil)
def fl_X3 : List (Nat × Nat × Nat) := [(9, 3, 2), (15, 3, 3), (18, 3, 4), (21, 3, 5), (29, 3, 6), (33, 3, 7), (36, 3, 8), (39, 3, 9), (46, 3, 10), (50, 3, 11), (53, 3, 12), (56, 3, 13), (59, 3, 14), (62, 3, 15), (66, 3, 16), (69, 3, 0), (103, 3, 1)]
def pl_X3 : List (Nat × Nat × Nat × Nat) := [(62, 3, 15, 0), (66, 3, 16, 0), (69, 3, 0, 0), (103, 3, 1, 0)]
def pI_X3 : List (Nat × Nat × Nat × Nat) := [(9, 3, 2, 2), (15, 3, 3, 2), (18, 3, 4, 2), (21, 3, 5, 2), (29, 3, 6, 2), (33, 3, 7, 2), (36, 3, 8, 2), (39, 3, 9, 2), (46, 3, 10, 2), (50, 3, 11, 2), (53, 3, 12, 2), (56, 3, 13, 2), (59, 3, 14, 2), (62, 3, 15, 0), (66, 3, 16, 0), (69, 3, 0, 0), (103, 3, 1, 0)]
def nw_X3 : List (Nat × Nat × Nat × Nat) := []
def kl_X3 : List (Nat × Nat × Int) := [(131, 0, 2147483647)]
def il_X3 : List (Nat × Nat × Nat) := []
def xl_X3 : List (Nat × Nat) := []
def gl_X3 : List Nat := []
theorem pfl_X3 {s : State} {args : Array Value} (hts : ∀ w ∈ cw_tb, w.before args s = true) : ∀ x ∈ fl_X3, ck_hg s args RX3 cw_cls x :=
  (List.forall_mem_cons.mpr ⟨⟨RX3, TX3, 17, "ReasonDesk$Claims", cw_tb, hts, cw_in_X3, rfl, by decide, Or.inl (hts _ tw_279), (fun _ h => h)⟩, (List.forall_mem_cons.mpr ⟨⟨RX3, TX3, 17, "ReasonDesk$Claims", cw_tb, hts, cw_in_X3, rfl, by decide, Or.inl (hts _ tw_281), (fun _ h => h)⟩, (List.forall_mem_cons.mpr ⟨⟨RX3, TX3, 17, "ReasonDesk$Claims", cw_tb, hts, cw_in_X3, rfl, by decide, Or.inl (hts _ tw_283), (fun _ h => h)⟩, (List.forall_mem_cons.mpr ⟨⟨RX3, TX3, 17, "ReasonDesk$Claims", cw_tb, hts, cw_in_X3, rfl, by decide, Or.inl (hts _ tw_285), (fun _ h => h)⟩, (List.forall_mem_cons.mpr ⟨⟨RX3, TX3, 17, "ReasonDesk$Claims", cw_tb, hts, cw_in_X3, rfl, by decide, Or.inl (hts _ tw_287), (fun _ h => h)⟩, (List.forall_mem_cons.mpr ⟨⟨RX3, TX3, 17, "ReasonDesk$Claims", cw_tb, hts, cw_in_X3, rfl, by decide, Or.inl (hts _ tw_289), (fun _ h => h)⟩, (List.forall_mem_cons.mpr ⟨⟨RX3, TX3, 17, "ReasonDesk$Claims", cw_tb, hts, cw_in_X3, rfl, by decide, Or.inl (hts _ tw_291), (fun _ h => h)⟩, (List.forall_mem_cons.mpr ⟨⟨RX3, TX3, 17, "ReasonDesk$Claims", cw_tb, hts, cw_in_X3, rfl, by decide, Or.inl (hts _ tw_293), (fun _ h => h)⟩, (List.forall_mem_cons.mpr ⟨⟨RX3, TX3, 17, "ReasonDesk$Claims", cw_tb, hts, cw_in_X3, rfl, by decide, Or.inl (hts _ tw_294), (fun _ h => h)⟩, (List.forall_mem_cons.mpr ⟨⟨RX3, TX3, 17, "ReasonDesk$Claims", cw_tb, hts, cw_in_X3, rfl, by decide, Or.inl (hts _ tw_295), (fun _ h => h)⟩, (List.forall_mem_cons.mpr ⟨⟨RX3, TX3, 17, "ReasonDesk$Claims", cw_tb, hts, cw_in_X3, rfl, by decide, Or.inl (hts _ tw_296), (fun _ h => h)⟩, (List.forall_mem_cons.mpr ⟨⟨RX3, TX3, 17, "ReasonDesk$Claims", cw_tb, hts, cw_in_X3, rfl, by decide, Or.inl (hts _ tw_297), (fun _ h => h)⟩, (List.forall_mem_cons.mpr ⟨⟨RX3, TX3, 17, "ReasonDesk$Claims", cw_tb, hts, cw_in_X3, rfl, by decide, Or.inl (hts _ tw_298), (fun _ h => h)⟩, (List.forall_mem_cons.mpr ⟨⟨RX3, TX3, 17, "ReasonDesk$Claims", cw_tb, hts, cw_in_X3, rfl, by decide, Or.inl (hts _ tw_299), (fun _ h => h)⟩, (List.forall_mem_cons.mpr ⟨⟨RX3, TX3, 17, "ReasonDesk$Claims", cw_tb, hts, cw_in_X3, rfl, by decide, Or.inl (hts _ tw_300), (fun _ h => h)⟩, (List.forall_mem_cons.mpr ⟨⟨RX3, TX3, 17, "ReasonDesk$Claims", cw_tb, hts, cw_in_X3, rfl, by decide, Or.inl (hts _ tw_275), (fun _ h => h)⟩, (List.forall_mem_cons.mpr ⟨⟨RX3, TX3, 17, "ReasonDesk$Claims", cw_tb, hts, cw_in_X3, rfl, by decide, Or.inl (hts _ tw_277), (fun _ h => h)⟩, (fun _ h => absurd h List.not_mem_nil)⟩)⟩)⟩)⟩)⟩)⟩)⟩)⟩)⟩)⟩)⟩)⟩)⟩)⟩)⟩)⟩)⟩)
theorem ppl_X3 {s : State} {args : Array Value} (hts : ∀ w ∈ cw_tb, w.before args s = true) {P : Prop} : ∀ x ∈ pl_X3, ck_hp s args RX3 cw_cls P x :=
  (List.forall_mem_cons.mpr ⟨⟨RX3, TX3, 17, "ReasonDesk$Claims", cw_tb, tyX3, hts, cw_in_X3, tyX3_ok, nmX3, rfl, by decide, Or.inl ⟨hts _ tw_299, Or.inl rfl⟩, (fun _ h => h), rfl⟩, (List.forall_mem_cons.mpr ⟨⟨RX3, TX3, 17, "ReasonDesk$Claims", cw_tb, tyX3, hts, cw_in_X3, tyX3_ok, nmX3, rfl, by decide, Or.inl ⟨hts _ tw_300, Or.inl rfl⟩, (fun _ h => h), rfl⟩, (List.forall_mem_cons.mpr ⟨⟨RX3, TX3, 17, "ReasonDesk$Claims", cw_tb, tyX3, hts, cw_in_X3, tyX3_ok, nmX3, rfl, by decide, Or.inl ⟨hts _ tw_275, Or.inl rfl⟩, (fun _ h => h), rfl⟩, (List.forall_mem_cons.mpr ⟨⟨RX3, TX3, 17, "ReasonDesk$Claims", cw_tb, tyX3, hts, cw_in_X3, tyX3_ok, nmX3, rfl, by decide, Or.inl ⟨hts _ tw_277, Or.inl rfl⟩, (fun _ h => h), rfl⟩, (fun _ h => absurd h List.not_mem_nil)⟩)⟩)⟩)⟩)
theorem ppI_X3 {s : State} {args : Array Value} (hts : ∀ w ∈ cw_tb, w.before args s = true) {P : Prop} (hin : P) : ∀ x ∈ pI_X3, ck_hp s args RX3 cw_cls P x :=
  (List.forall_mem_cons.mpr ⟨⟨RX3, TX3, 17, "ReasonDesk$Claims", cw_tb, tyX3, hts, cw_in_X3, tyX3_ok, nmX3, rfl, by decide, Or.inl ⟨hts _ tw_279, Or.inr ⟨rfl, hin, rfl⟩⟩, (fun _ h => h), Or.inr ⟨_, rfl⟩⟩, (List.forall_mem_cons.mpr ⟨⟨RX3, TX3, 17, "ReasonDesk$Claims", cw_tb, tyX3, hts, cw_in_X3, tyX3_ok, nmX3, rfl, by decide, Or.inl ⟨hts _ tw_281, Or.inr ⟨rfl, hin, rfl⟩⟩, (fun _ h => h), Or.inr ⟨_, rfl⟩⟩, (List.forall_mem_cons.mpr ⟨⟨RX3, TX3, 17, "ReasonDesk$Claims", cw_tb, tyX3, hts, cw_in_X3, tyX3_ok, nmX3, rfl, by decide, Or.inl ⟨hts _ tw_283, Or.inr ⟨rfl, hin, rfl⟩⟩, (fun _ h => h), Or.inr ⟨_, rfl⟩⟩, (List.forall_mem_cons.mpr ⟨⟨RX3, TX3, 17, "ReasonDesk$Claims", cw_tb, tyX3, hts, cw_in_X3, tyX3_ok, nmX3, rfl, by decide, Or.inl ⟨hts _ tw_285, Or.inr ⟨rfl, hin, rfl⟩⟩, (fun _ h => h), Or.inr ⟨_, rfl⟩⟩, (List.forall_mem_cons.mpr ⟨⟨RX3, TX3, 17, "ReasonDesk$Claims", cw_tb, tyX3, hts, cw_in_X3, tyX3_ok, nmX3, rfl, by decide, Or.inl ⟨hts _ tw_287, Or.inr ⟨rfl, hin, rfl⟩⟩, (fun _ h => h), Or.inl ⟨_, rfl⟩⟩, (List.forall_mem_cons.mpr ⟨⟨RX3, TX3, 17, "ReasonDesk$Claims", cw_tb, tyX3, hts, cw_in_X3, tyX3_ok, nmX3, rfl, by decide, Or.inl ⟨hts _ tw_289, Or.inr ⟨rfl, hin, rfl⟩⟩, (fun _ h => h), Or.inl ⟨_, rfl⟩⟩, (List.forall_mem_cons.mpr ⟨⟨RX3, TX3, 17, "ReasonDesk$Claims", cw_tb, tyX3, hts, cw_in_X3, tyX3_ok, nmX3, rfl, by decide, Or.inl ⟨hts _ tw_291, Or.inr ⟨rfl, hin, rfl⟩⟩, (fun _ h => h), Or.inl ⟨_, rfl⟩⟩, (List.forall_mem_cons.mpr ⟨⟨RX3, TX3, 17, "ReasonDesk$Claims", cw_tb, tyX3, hts, cw_in_X3, tyX3_ok, nmX3, rfl, by decide, Or.inl ⟨hts _ tw_293, Or.inr ⟨rfl, hin, rfl⟩⟩, (fun _ h => h), Or.inr ⟨_, rfl⟩⟩, (List.forall_mem_cons.mpr ⟨⟨RX3, TX3, 17, "ReasonDesk$Claims", cw_tb, tyX3, hts, cw_in_X3, tyX3_ok, nmX3, rfl, by decide, Or.inl ⟨hts _ tw_294, Or.inr ⟨rfl, hin, rfl⟩⟩, (fun _ h => h), Or.inr ⟨_, rfl⟩⟩, (List.forall_mem_cons.mpr ⟨⟨RX3, TX3, 17, "ReasonDesk$Claims", cw_tb, tyX3, hts, cw_in_X3, tyX3_ok, nmX3, rfl, by decide, Or.inl ⟨hts _ tw_295, Or.inr ⟨rfl, hin, rfl⟩⟩, (fun _ h => h), Or.inr ⟨_, rfl⟩⟩, (List.forall_mem_cons.mpr ⟨⟨RX3, TX3, 17, "ReasonDesk$Claims", cw_tb, tyX3, hts, cw_in_X3, tyX3_ok, nmX3, rfl, by decide, Or.inl ⟨hts _ tw_296, Or.inr ⟨rfl, hin, rfl⟩⟩, (fun _ h => h), Or.inl ⟨_, rfl⟩⟩, (List.forall_mem_cons.mpr ⟨⟨RX3, TX3, 17, "ReasonDesk$Claims", cw_tb, tyX3, hts, cw_in_X3, tyX3_ok, nmX3, rfl, by decide, Or.inl ⟨hts _ tw_297, Or.inr ⟨rfl, hin, rfl⟩⟩, (fun _ h => h), Or.inr ⟨_, rfl⟩⟩, (List.forall_mem_cons.mpr ⟨⟨RX3, TX3, 17, "ReasonDesk$Claims", cw_tb, tyX3, hts, cw_in_X3, tyX3_ok, nmX3, rfl, by decide, Or.inl ⟨hts _ tw_298, Or.inr ⟨rfl, hin, rfl⟩⟩, (fun _ h => h), Or.inr ⟨_, rfl⟩⟩, (List.forall_mem_cons.mpr ⟨⟨RX3, TX3, 17, "ReasonDesk$Claims", cw_tb, tyX3, hts, cw_in_X3, tyX3_ok, nmX3, rfl, by decide, Or.inl ⟨hts _ tw_299, Or.inl rfl⟩, (fun _ h => h), rfl⟩, (List.forall_mem_cons.mpr ⟨⟨RX3, TX3, 17, "ReasonDesk$Claims", cw_tb, tyX3, hts, cw_in_X3, tyX3_ok, nmX3, rfl, by decide, Or.inl ⟨hts _ tw_300, Or.inl rfl⟩, (fun _ h => h), rfl⟩, (List.forall_mem_cons.mpr ⟨⟨RX3, TX3, 17, "ReasonDesk$Claims", cw_tb, tyX3, hts, cw_in_X3, tyX3_ok, nmX3, rfl, by decide, Or.inl ⟨hts _ tw_275, Or.inl rfl⟩, (fun _ h => h), rfl⟩, (List.forall_mem_cons.mpr ⟨⟨RX3, TX3, 17, "ReasonDesk$Claims", cw_tb, tyX3, hts, cw_in_X3, tyX3_ok, nmX3, rfl, by decide, Or.inl ⟨hts _ tw_277, Or.inl rfl⟩, (fun _ h => h), rfl⟩, (fun _ h => absurd h List.not_mem_nil)⟩)⟩)⟩)⟩)⟩)⟩)⟩)⟩)⟩)⟩)⟩)⟩)⟩)⟩)⟩)⟩)⟩)
theorem pnw_X3 {s : State} {args : Array Value} (hts : ∀ w ∈ cw_tb, w.before args s = true) : ∀ x ∈ nw_X3, ck_hn s args RX3 cw_cls cw_TT x :=
  (fun _ h => absurd h List.not_mem_nil)
theorem pkl_X3 {s : State} {args : Array Value} (hts : ∀ w ∈ cw_tb, w.before args s = true) : ∀ x ∈ kl_X3, ck_hk s args RX3 x :=
  (List.forall_mem_cons.mpr ⟨⟨fun _ => ⟨(2147483647), by decide, hts _ tw_1086⟩, (fun z => by cases z)⟩, (fun _ h => absurd h List.not_mem_nil)⟩)
theorem pil_X3 {s : State} {args : Array Value} (hts : ∀ w ∈ cw_tb, w.before args s = true) (hnc : ck_nq cw_V s) : ∀ x ∈ il_X3, ck_hi s args RX3 cw_cls x :=
  (fun _ h => absurd h List.not_mem_nil)
theorem pxl_X3 {s : State} {args : Array Value} (hts : ∀ w ∈ cw_tb, w.before args s = true) (hnc : ck_nq cw_V s) : ∀ x ∈ xl_X3, ck_hx s args RX3 cw_cls x :=
  (fun _ h => absurd h List.not_mem_nil)
theorem pgl_X3 {s : State} {args : Array Value} (hts : ∀ w ∈ cw_tb, w.before args s = true) {sw : Option Nat} (hsw : sw.isSome = true) (b : Nat → Int) : ∀ i ∈ gl_X3, ck_hs s args RX3 (none, sw, b) i :=
  (fun _ h => absurd h List.not_mem_nil)
def fl_X4 : List (Nat × Nat × Nat) := [(9, 4, 1)]
def pl_X4 : List (Nat × Nat × Nat × Nat) := [(27, 4, 6, 0)]
def pI_X4 : List (Nat × Nat × Nat × Nat) := [(9, 4, 1, 0), (15, 4, 2, 0), (18, 4, 3, 0), (21, 4, 4, 0), (24, 4, 5, 0), (27, 4, 6, 0)]
def nw_X4 : List (Nat × Nat × Nat × Nat) := []
def kl_X4 : List (Nat × Nat × Int) := []
def il_X4 : List (Nat × Nat × Nat) := []
def xl_X4 : List (Nat × Nat) := []
def gl_X4 : List Nat := []
theorem pfl_X4 {s : State} {args : Array Value} (hts : ∀ w ∈ cw_tb, w.before args s = true) : ∀ x ∈ fl_X4, ck_hg s args RX4 cw_cls x :=
  (List.forall_mem_cons.mpr ⟨⟨RX4, TX4, 7, "ReasonDesk$Entry", cw_tb, hts, cw_in_X4, rfl, by decide, Or.inl (hts _ tw_594), (fun _ h => h)⟩, (fun _ h => absurd h List.not_mem_nil)⟩)
theorem ppl_X4 {s : State} {args : Array Value} (hts : ∀ w ∈ cw_tb, w.before args s = true) {P : Prop} : ∀ x ∈ pl_X4, ck_hp s args RX4 cw_cls P x :=
  (List.forall_mem_cons.mpr ⟨⟨RX4, TX4, 7, "ReasonDesk$Entry", cw_tb, tyX4, hts, cw_in_X4, tyX4_ok, nmX4, rfl, by decide, Or.inl ⟨hts _ tw_608, Or.inl rfl⟩, (fun _ h => h), rfl⟩, (fun _ h => absurd h List.not_mem_nil)⟩)
theorem ppI_X4 {s : State} {args : Array Value} (hts : ∀ w ∈ cw_tb, w.before args s = true) {P : Prop} (hin : P) : ∀ x ∈ pI_X4, ck_hp s args RX4 cw_cls P x :=
  (List.forall_mem_cons.mpr ⟨⟨RX4, TX4, 7, "ReasonDesk$Entry", cw_tb, tyX4, hts, cw_in_X4, tyX4_ok, nmX4, rfl, by decide, Or.inl ⟨hts _ tw_594, Or.inr ⟨rfl, hin, rfl⟩⟩, (fun _ h => h), rfl⟩, (List.forall_mem_cons.mpr ⟨⟨RX4, TX4, 7, "ReasonDesk$Entry", cw_tb, tyX4, hts, cw_in_X4, tyX4_ok, nmX4, rfl, by decide, Or.inl ⟨hts _ tw_596, Or.inr ⟨rfl, hin, rfl⟩⟩, (fun _ h => h), rfl⟩, (List.forall_mem_cons.mpr ⟨⟨RX4, TX4, 7, "ReasonDesk$Entry", cw_tb, tyX4, hts, cw_in_X4, tyX4_ok, nmX4, rfl, by decide, Or.inl ⟨hts _ tw_599, Or.inr ⟨rfl, hin, rfl⟩⟩, (fun _ h => h), rfl⟩, (List.forall_mem_cons.mpr ⟨⟨RX4, TX4, 7, "ReasonDesk$Entry", cw_tb, tyX4, hts, cw_in_X4, tyX4_ok, nmX4, rfl, by decide, Or.inl ⟨hts _ tw_602, Or.inr ⟨rfl, hin, rfl⟩⟩, (fun _ h => h), rfl⟩, (List.forall_mem_cons.mpr ⟨⟨RX4, TX4, 7, "ReasonDesk$Entry", cw_tb, tyX4, hts, cw_in_X4, tyX4_ok, nmX4, rfl, by decide, Or.inl ⟨hts _ tw_605, Or.inr ⟨rfl, hin, rfl⟩⟩, (fun _ h => h), rfl⟩, (List.forall_mem_cons.mpr ⟨⟨RX4, TX4, 7, "ReasonDesk$Entry", cw_tb, tyX4, hts, cw_in_X4, tyX4_ok, nmX4, rfl, by decide, Or.inl ⟨hts _ tw_608, Or.inl rfl⟩, (fun _ h => h), rfl⟩, (fun _ h => absurd h List.not_mem_nil)⟩)⟩)⟩)⟩)⟩)⟩)
theorem pnw_X4 {s : State} {args : Array Value} (hts : ∀ w ∈ cw_tb, w.before args s = true) : ∀ x ∈ nw_X4, ck_hn s args RX4 cw_cls cw_TT x :=
  (fun _ h => absurd h List.not_mem_nil)
theorem pkl_X4 {s : State} {args : Array Value} (hts : ∀ w ∈ cw_tb, w.before args s = true) : ∀ x ∈ kl_X4, ck_hk s args RX4 x :=
  (fun _ h => absurd h List.not_mem_nil)
theorem pil_X4 {s : State} {args : Array Value} (hts : ∀ w ∈ cw_tb, w.before args s = true) (hnc : ck_nq cw_V s) : ∀ x ∈ il_X4, ck_hi s args RX4 cw_cls x :=
  (fun _ h => absurd h List.not_mem_nil)
theorem pxl_X4 {s : State} {args : Array Value} (hts : ∀ w ∈ cw_tb, w.before args s = true) (hnc : ck_nq cw_V s) : ∀ x ∈ xl_X4, ck_hx s args RX4 cw_cls x :=
  (fun _ h => absurd h List.not_mem_nil)
theorem pgl_X4 {s : State} {args : Array Value} (hts : ∀ w ∈ cw_tb, w.before args s = true) {sw : Option Nat} (hsw : sw.isSome = true) (b : Nat → Int) : ∀ i ∈ gl_X4, ck_hs s args RX4 (none, sw, b) i :=
  (fun _ h => absurd h List.not_mem_nil)
def fl_X5 : List (Nat × Nat × Nat) := []
def pl_X5 : List (Nat × Nat × Nat × Nat) := []
def pI_X5 : List (Nat × Nat × Nat × Nat) := []
def nw_X5 : List (Nat × Nat × Nat × Nat) := []
def kl_X5 : List (Nat × Nat × Int) := []
def il_X5 : List (Nat × Nat × Nat) := []
def xl_X5 : List (Nat × Nat) := []
def gl_X5 : List Nat := []
theorem pfl_X5 {s : State} {args : Array Value} (hts : ∀ w ∈ cw_tb, w.before args s = true) : ∀ x ∈ fl_X5, ck_hg s args RX5 cw_cls x :=
  (fun _ h => absurd h List.not_mem_nil)
theorem ppl_X5 {s : State} {args : Array Value} (hts : ∀ w ∈ cw_tb, w.before args s = true) {P : Prop} : ∀ x ∈ pl_X5, ck_hp s args RX5 cw_cls P x :=
  (fun _ h => absurd h List.not_mem_nil)
theorem ppI_X5 {s : State} {args : Array Value} (hts : ∀ w ∈ cw_tb, w.before args s = true) {P : Prop} (hin : P) : ∀ x ∈ pI_X5, ck_hp s args RX5 cw_cls P x :=
  (fun _ h => absurd h List.not_mem_nil)
theorem pnw_X5 {s : State} {args : Array Value} (hts : ∀ w ∈ cw_tb, w.before args s = true) : ∀ x ∈ nw_X5, ck_hn s args RX5 cw_cls cw_TT x :=
  (fun _ h => absurd h List.not_mem_nil)
theorem pkl_X5 {s : State} {args : Array Value} (hts : ∀ w ∈ cw_tb, w.before args s = true) : ∀ x ∈ kl_X5, ck_hk s args RX5 x :=
  (fun _ h => absurd h List.not_mem_nil)
theorem pil_X5 {s : State} {args : Array Value} (hts : ∀ w ∈ cw_tb, w.before args s = true) (hnc : ck_nq cw_V s) : ∀ x ∈ il_X5, ck_hi s args RX5 cw_cls x :=
  (fun _ h => absurd h List.not_mem_nil)
theorem pxl_X5 {s : State} {args : Array Value} (hts : ∀ w ∈ cw_tb, w.before args s = true) (hnc : ck_nq cw_V s) : ∀ x ∈ xl_X5, ck_hx s args RX5 cw_cls x :=
  (fun _ h => absurd h List.not_mem_nil)
theorem pgl_X5 {s : State} {args : Array Value} (hts : ∀ w ∈ cw_tb, w.before args s = true) {sw : Option Nat} (hsw : sw.isSome = true) (b : Nat → Int) : ∀ i ∈ gl_X5, ck_hs s args RX5 (none, sw, b) i :=
  (fun _ h => absurd h List.not_mem_nil)
def fl_X6 : List (Nat × Nat × Nat) := [(11, 6, 0), (21, 6, 2), (25, 6, 3), (35, 6, 1), (69, 2, 0)]
def pl_X6 : List (Nat × Nat × Nat × Nat) := [(25, 6, 3, 0), (35, 6, 1, 0)]
def pI_X6 : List (Nat × Nat × Nat × Nat) := [(11, 6, 0, 2), (21, 6, 2, 2), (25, 6, 3, 0), (35, 6, 1, 0)]
def nw_X6 : List (Nat × Nat × Nat × Nat) := []
def kl_X6 : List (Nat × Nat × Int) := [(65, 0, 2147483647)]
def il_X6 : List (Nat × Nat × Nat) := []
def xl_X6 : List (Nat × Nat) := []
def gl_X6 : List Nat := []
theorem pfl_X6 {s : State} {args : Array Value} (hts : ∀ w ∈ cw_tb, w.before args s = true) : ∀ x ∈ fl_X6, ck_hg s args RX6 cw_cls x :=
  (List.forall_mem_cons.mpr ⟨⟨RX6, TX6, 4, "ReasonDesk$Merging", cw_tb, hts, cw_in_X6, rfl, by decide, Or.inl (hts _ tw_346), (fun _ h => h)⟩, (List.forall_mem_cons.mpr ⟨⟨RX6, TX6, 4, "ReasonDesk$Merging", cw_tb, hts, cw_in_X6, rfl, by decide, Or.inl (hts _ tw_350), (fun _ h => h)⟩, (List.forall_mem_cons.mpr ⟨⟨RX6, TX6, 4, "ReasonDesk$Merging", cw_tb, hts, cw_in_X6, rfl, by decide, Or.inl (hts _ tw_351), (fun _ h => h)⟩, (List.forall_mem_cons.mpr ⟨⟨RX6, TX6, 4, "ReasonDesk$Merging", cw_tb, hts, cw_in_X6, rfl, by decide, Or.inl (hts _ tw_348), (fun _ h => h)⟩, (List.forall_mem_cons.mpr ⟨⟨RX2, TX2, 12, "ReasonDesk$Book", cw_tb, hts, cw_in_X2, rfl, by decide, Or.inl (hts _ tw_175), (fun _ h => h)⟩, (fun _ h => absurd h List.not_mem_nil)⟩)⟩)⟩)⟩)⟩)
theorem ppl_X6 {s : State} {args : Array Value} (hts : ∀ w ∈ cw_tb, w.before args s = true) {P : Prop} : ∀ x ∈ pl_X6, ck_hp s args RX6 cw_cls P x :=
  (List.forall_mem_cons.mpr ⟨⟨RX6, TX6, 4, "ReasonDesk$Merging", cw_tb, tyX6, hts, cw_in_X6, tyX6_ok, nmX6, rfl, by decide, Or.inl ⟨hts _ tw_351, Or.inl rfl⟩, (fun _ h => h), rfl⟩, (List.forall_mem_cons.mpr ⟨⟨RX6, TX6, 4, "ReasonDesk$Merging", cw_tb, tyX6, hts, cw_in_X6, tyX6_ok, nmX6, rfl, by decide, Or.inl ⟨hts _ tw_348, Or.inl rfl⟩, (fun _ h => h), rfl⟩, (fun _ h => absurd h List.not_mem_nil)⟩)⟩)
theorem ppI_X6 {s : State} {args : Array Value} (hts : ∀ w ∈ cw_tb, w.before args s = true) {P : Prop} (hin : P) : ∀ x ∈ pI_X6, ck_hp s args RX6 cw_cls P x :=
  (List.forall_mem_cons.mpr ⟨⟨RX6, TX6, 4, "ReasonDesk$Merging", cw_tb, tyX6, hts, cw_in_X6, tyX6_ok, nmX6, rfl, by decide, Or.inl ⟨hts _ tw_346, Or.inr ⟨rfl, hin, rfl⟩⟩, (fun _ h => h), Or.inr ⟨_, rfl⟩⟩, (List.forall_mem_cons.mpr ⟨⟨RX6, TX6, 4, "ReasonDesk$Merging", cw_tb, tyX6, hts, cw_in_X6, tyX6_ok, nmX6, rfl, by decide, Or.inl ⟨hts _ tw_350, Or.inr ⟨rfl, hin, rfl⟩⟩, (fun _ h => h), Or.inl ⟨_, rfl⟩⟩, (List.forall_mem_cons.mpr ⟨⟨RX6, TX6, 4, "ReasonDesk$Merging", cw_tb, tyX6, hts, cw_in_X6, tyX6_ok, nmX6, rfl, by decide, Or.inl ⟨hts _ tw_351, Or.inl rfl⟩, (fun _ h => h), rfl⟩, (List.forall_mem_cons.mpr ⟨⟨RX6, TX6, 4, "ReasonDesk$Merging", cw_tb, tyX6, hts, cw_in_X6, tyX6_ok, nmX6, rfl, by decide, Or.inl ⟨hts _ tw_348, Or.inl rfl⟩, (fun _ h => h), rfl⟩, (fun _ h => absurd h List.not_mem_nil)⟩)⟩)⟩)⟩)
theorem pnw_X6 {s : State} {args : Array Value} (hts : ∀ w ∈ cw_tb, w.before args s = true) : ∀ x ∈ nw_X6, ck_hn s args RX6 cw_cls cw_TT x :=
  (fun _ h => absurd h List.not_mem_nil)
theorem pkl_X6 {s : State} {args : Array Value} (hts : ∀ w ∈ cw_tb, w.before args s = true) : ∀ x ∈ kl_X6, ck_hk s args RX6 x :=
  (List.forall_mem_cons.mpr ⟨⟨fun _ => ⟨(2147483647), by decide, hts _ tw_1135⟩, (fun z => by cases z)⟩, (fun _ h => absurd h List.not_mem_nil)⟩)
theorem pil_X6 {s : State} {args : Array Value} (hts : ∀ w ∈ cw_tb, w.before args s = true) (hnc : ck_nq cw_V s) : ∀ x ∈ il_X6, ck_hi s args RX6 cw_cls x :=
  (fun _ h => absurd h List.not_mem_nil)
theorem pxl_X6 {s : State} {args : Array Value} (hts : ∀ w ∈ cw_tb, w.before args s = true) (hnc : ck_nq cw_V s) : ∀ x ∈ xl_X6, ck_hx s args RX6 cw_cls x :=
  (fun _ h => absurd h List.not_mem_nil)
theorem pgl_X6 {s : State} {args : Array Value} (hts : ∀ w ∈ cw_tb, w.before args s = true) {sw : Option Nat} (hsw : sw.isSome = true) (b : Nat → Int) : ∀ i ∈ gl_X6, ck_hs s args RX6 (none, sw, b) i :=
  (fun _ h => absurd h List.not_mem_nil)
def fl_X7 : List (Nat × Nat × Nat) := [(9, 7, 0), (19, 7, 1), (31, 7, 2), (35, 7, 3)]
def pl_X7 : List (Nat × Nat × Nat × Nat) := [(31, 7, 2, 0), (35, 7, 3, 0)]
def pI_X7 : List (Nat × Nat × Nat × Nat) := [(9, 7, 0, 2), (19, 7, 1, 2), (31, 7, 2, 0), (35, 7, 3, 0)]
def nw_X7 : List (Nat × Nat × Nat × Nat) := []
def kl_X7 : List (Nat × Nat × Int) := []
def il_X7 : List (Nat × Nat × Nat) := []
def xl_X7 : List (Nat × Nat) := []
def gl_X7 : List Nat := []
theorem pfl_X7 {s : State} {args : Array Value} (hts : ∀ w ∈ cw_tb, w.before args s = true) : ∀ x ∈ fl_X7, ck_hg s args RX7 cw_cls x :=
  (List.forall_mem_cons.mpr ⟨⟨RX7, TX7, 4, "ReasonDesk$Reader", cw_tb, hts, cw_in_X7, rfl, by decide, Or.inl (hts _ tw_147), (fun _ h => h)⟩, (List.forall_mem_cons.mpr ⟨⟨RX7, TX7, 4, "ReasonDesk$Reader", cw_tb, hts, cw_in_X7, rfl, by decide, Or.inl (hts _ tw_148), (fun _ h => h)⟩, (List.forall_mem_cons.mpr ⟨⟨RX7, TX7, 4, "ReasonDesk$Reader", cw_tb, hts, cw_in_X7, rfl, by decide, Or.inl (hts _ tw_149), (fun _ h => h)⟩, (List.forall_mem_cons.mpr ⟨⟨RX7, TX7, 4, "ReasonDesk$Reader", cw_tb, hts, cw_in_X7, rfl, by decide, Or.inl (hts _ tw_150), (fun _ h => h)⟩, (fun _ h => absurd h List.not_mem_nil)⟩)⟩)⟩)⟩)
theorem ppl_X7 {s : State} {args : Array Value} (hts : ∀ w ∈ cw_tb, w.before args s = true) {P : Prop} : ∀ x ∈ pl_X7, ck_hp s args RX7 cw_cls P x :=
  (List.forall_mem_cons.mpr ⟨⟨RX7, TX7, 4, "ReasonDesk$Reader", cw_tb, tyX7, hts, cw_in_X7, tyX7_ok, nmX7, rfl, by decide, Or.inl ⟨hts _ tw_149, Or.inl rfl⟩, (fun _ h => h), rfl⟩, (List.forall_mem_cons.mpr ⟨⟨RX7, TX7, 4, "ReasonDesk$Reader", cw_tb, tyX7, hts, cw_in_X7, tyX7_ok, nmX7, rfl, by decide, Or.inl ⟨hts _ tw_150, Or.inl rfl⟩, (fun _ h => h), rfl⟩, (fun _ h => absurd h List.not_mem_nil)⟩)⟩)
theorem ppI_X7 {s : State} {args : Array Value} (hts : ∀ w ∈ cw_tb, w.before args s = true) {P : Prop} (hin : P) : ∀ x ∈ pI_X7, ck_hp s args RX7 cw_cls P x :=
  (List.forall_mem_cons.mpr ⟨⟨RX7, TX7, 4, "ReasonDesk$Reader", cw_tb, tyX7, hts, cw_in_X7, tyX7_ok, nmX7, rfl, by decide, Or.inl ⟨hts _ tw_147, Or.inr ⟨rfl, hin, rfl⟩⟩, (fun _ h => h), Or.inr ⟨_, rfl⟩⟩, (List.forall_mem_cons.mpr ⟨⟨RX7, TX7, 4, "ReasonDesk$Reader", cw_tb, tyX7, hts, cw_in_X7, tyX7_ok, nmX7, rfl, by decide, Or.inl ⟨hts _ tw_148, Or.inr ⟨rfl, hin, rfl⟩⟩, (fun _ h => h), Or.inr ⟨_, rfl⟩⟩, (List.forall_mem_cons.mpr ⟨⟨RX7, TX7, 4, "ReasonDesk$Reader", cw_tb, tyX7, hts, cw_in_X7, tyX7_ok, nmX7, rfl, by decide, Or.inl ⟨hts _ tw_149, Or.inl rfl⟩, (fun _ h => h), rfl⟩, (List.forall_mem_cons.mpr ⟨⟨RX7, TX7, 4, "ReasonDesk$Reader", cw_tb, tyX7, hts, cw_in_X7, tyX7_ok, nmX7, rfl, by decide, Or.inl ⟨hts _ tw_150, Or.inl rfl⟩, (fun _ h => h), rfl⟩, (fun _ h => absurd h List.not_mem_nil)⟩)⟩)⟩)⟩)
theorem pnw_X7 {s : State} {args : Array Value} (hts : ∀ w ∈ cw_tb, w.before args s = true) : ∀ x ∈ nw_X7, ck_hn s args RX7 cw_cls cw_TT x :=
  (fun _ h => absurd h List.not_mem_nil)
theorem pkl_X7 {s : State} {args : Array Value} (hts : ∀ w ∈ cw_tb, w.before args s = true) : ∀ x ∈ kl_X7, ck_hk s args RX7 x :=
  (fun _ h => absurd h List.not_mem_nil)
theorem pil_X7 {s : State} {args : Array Value} (hts : ∀ w ∈ cw_tb, w.before args s = true) (hnc : ck_nq cw_V s) : ∀ x ∈ il_X7, ck_hi s args RX7 cw_cls x :=
  (fun _ h => absurd h List.not_mem_nil)
theorem pxl_X7 {s : State} {args : Array Value} (hts : ∀ w ∈ cw_tb, w.before args s = true) (hnc : ck_nq cw_V s) : ∀ x ∈ xl_X7, ck_hx s args RX7 cw_cls x :=
  (fun _ h => absurd h List.not_mem_nil)
theorem pgl_X7 {s : State} {args : Array Value} (hts : ∀ w ∈ cw_tb, w.before args s = true) {sw : Option Nat} (hsw : sw.isSome = true) (b : Nat → Int) : ∀ i ∈ gl_X7, ck_hs s args RX7 (none, sw, b) i :=
  (fun _ h => absurd h List.not_mem_nil)
def fl_X8 : List (Nat × Nat × Nat) := [(13, 0, 1), (13, 5, 1), (13, 8, 2), (30, 0, 4), (30, 4, 0), (30, 5, 4), (30, 8, 0)]
def pl_X8 : List (Nat × Nat × Nat × Nat) := []
def pI_X8 : List (Nat × Nat × Nat × Nat) := [(7, 0, 0, 0), (7, 5, 0, 0), (7, 8, 1, 0), (13, 0, 1, 0), (13, 5, 1, 0), (13, 8, 2, 0), (16, 0, 2, 0), (16, 5, 2, 0), (16, 8, 3, 0), (19, 0, 3, 0), (19, 5, 3, 0), (19, 8, 4, 0)]
def nw_X8 : List (Nat × Nat × Nat × Nat) := []
def kl_X8 : List (Nat × Nat × Int) := []
def il_X8 : List (Nat × Nat × Nat) := []
def xl_X8 : List (Nat × Nat) := []
def gl_X8 : List Nat := []
theorem pfl_X8 {s : State} {args : Array Value} (hts : ∀ w ∈ cw_tb, w.before args s = true) : ∀ x ∈ fl_X8, ck_hg s args RX8 cw_cls x :=
  (List.forall_mem_cons.mpr ⟨⟨RX0, TX0, 5, "ReasonDesk$Rule", cw_tb, hts, cw_in_X0, rfl, by decide, Or.inl (hts _ tw_876), (fun _ h => h)⟩, (List.forall_mem_cons.mpr ⟨⟨RX5, TX5, 5, "ReasonDesk$Rule", cw_tb, hts, cw_in_X5, rfl, by decide, Or.inl (hts _ tw_876), (fun _ h => h)⟩, (List.forall_mem_cons.mpr ⟨⟨RX8, TX8, 5, "ReasonDesk$Rule", cw_tb, hts, cw_in_X8, rfl, by decide, Or.inl (hts _ tw_876), (fun _ h => h)⟩, (List.forall_mem_cons.mpr ⟨⟨RX0, TX0, 5, "ReasonDesk$Rule", cw_tb, hts, cw_in_X0, rfl, by decide, Or.inl (hts _ tw_614), (fun x h => u_same (hts _ tw_615) x h)⟩, (List.forall_mem_cons.mpr ⟨⟨RX4, TX4, 7, "ReasonDesk$Rule", cw_tb, hts, cw_in_X4, rfl, by decide, Or.inl (hts _ tw_614), (fun x h => u_same (hts _ tw_615) x h)⟩, (List.forall_mem_cons.mpr ⟨⟨RX5, TX5, 5, "ReasonDesk$Rule", cw_tb, hts, cw_in_X5, rfl, by decide, Or.inl (hts _ tw_614), (fun x h => u_same (hts _ tw_615) x h)⟩, (List.forall_mem_cons.mpr ⟨⟨RX8, TX8, 5, "ReasonDesk$Rule", cw_tb, hts, cw_in_X8, rfl, by decide, Or.inl (hts _ tw_614), (fun x h => u_same (hts _ tw_615) x h)⟩, (fun _ h => absurd h List.not_mem_nil)⟩)⟩)⟩)⟩)⟩)⟩)⟩)
theorem ppl_X8 {s : State} {args : Array Value} (hts : ∀ w ∈ cw_tb, w.before args s = true) {P : Prop} : ∀ x ∈ pl_X8, ck_hp s args RX8 cw_cls P x :=
  (fun _ h => absurd h List.not_mem_nil)
theorem ppI_X8 {s : State} {args : Array Value} (hts : ∀ w ∈ cw_tb, w.before args s = true) {P : Prop} (hin : P) : ∀ x ∈ pI_X8, ck_hp s args RX8 cw_cls P x :=
  (List.forall_mem_cons.mpr ⟨⟨RX0, TX0, 5, "ReasonDesk$Rule", cw_tb, tyX0, hts, cw_in_X0, tyX0_ok, nmX0, rfl, by decide, Or.inl ⟨hts _ tw_874, Or.inr ⟨rfl, hin, rfl⟩⟩, (fun _ h => h), rfl⟩, (List.forall_mem_cons.mpr ⟨⟨RX5, TX5, 5, "ReasonDesk$Rule", cw_tb, tyX5, hts, cw_in_X5, tyX5_ok, nmX5, rfl, by decide, Or.inl ⟨hts _ tw_874, Or.inr ⟨rfl, hin, rfl⟩⟩, (fun _ h => h), rfl⟩, (List.forall_mem_cons.mpr ⟨⟨RX8, TX8, 5, "ReasonDesk$Rule", cw_tb, tyX8, hts, cw_in_X8, tyX8_ok, nmX8, rfl, by decide, Or.inl ⟨hts _ tw_874, Or.inr ⟨rfl, hin, rfl⟩⟩, (fun _ h => h), rfl⟩, (List.forall_mem_cons.mpr ⟨⟨RX0, TX0, 5, "ReasonDesk$Rule", cw_tb, tyX0, hts, cw_in_X0, tyX0_ok, nmX0, rfl, by decide, Or.inl ⟨hts _ tw_876, Or.inr ⟨rfl, hin, rfl⟩⟩, (fun _ h => h), rfl⟩, (List.forall_mem_cons.mpr ⟨⟨RX5, TX5, 5, "ReasonDesk$Rule", cw_tb, tyX5, hts, cw_in_X5, tyX5_ok, nmX5, rfl, by decide, Or.inl ⟨hts _ tw_876, Or.inr ⟨rfl, hin, rfl⟩⟩, (fun _ h => h), rfl⟩, (List.forall_mem_cons.mpr ⟨⟨RX8, TX8, 5, "ReasonDesk$Rule", cw_tb, tyX8, hts, cw_in_X8, tyX8_ok, nmX8, rfl, by decide, Or.inl ⟨hts _ tw_876, Or.inr ⟨rfl, hin, rfl⟩⟩, (fun _ h => h), rfl⟩, (List.forall_mem_cons.mpr ⟨⟨RX0, TX0, 5, "ReasonDesk$Rule", cw_tb, tyX0, hts, cw_in_X0, tyX0_ok, nmX0, rfl, by decide, Or.inl ⟨hts _ tw_878, Or.inr ⟨rfl, hin, rfl⟩⟩, (fun _ h => h), rfl⟩, (List.forall_mem_cons.mpr ⟨⟨RX5, TX5, 5, "ReasonDesk$Rule", cw_tb, tyX5, hts, cw_in_X5, tyX5_ok, nmX5, rfl, by decide, Or.inl ⟨hts _ tw_878, Or.inr ⟨rfl, hin, rfl⟩⟩, (fun _ h => h), rfl⟩, (List.forall_mem_cons.mpr ⟨⟨RX8, TX8, 5, "ReasonDesk$Rule", cw_tb, tyX8, hts, cw_in_X8, tyX8_ok, nmX8, rfl, by decide, Or.inl ⟨hts _ tw_878, Or.inr ⟨rfl, hin, rfl⟩⟩, (fun _ h => h), rfl⟩, (List.forall_mem_cons.mpr ⟨⟨RX0, TX0, 5, "ReasonDesk$Rule", cw_tb, tyX0, hts, cw_in_X0, tyX0_ok, nmX0, rfl, by decide, Or.inl ⟨hts _ tw_882, Or.inr ⟨rfl, hin, rfl⟩⟩, (fun _ h => h), rfl⟩, (List.forall_mem_cons.mpr ⟨⟨RX5, TX5, 5, "ReasonDesk$Rule", cw_tb, tyX5, hts, cw_in_X5, tyX5_ok, nmX5, rfl, by decide, Or.inl ⟨hts _ tw_882, Or.inr ⟨rfl, hin, rfl⟩⟩, (fun _ h => h), rfl⟩, (List.forall_mem_cons.mpr ⟨⟨RX8, TX8, 5, "ReasonDesk$Rule", cw_tb, tyX8, hts, cw_in_X8, tyX8_ok, nmX8, rfl, by decide, Or.inl ⟨hts _ tw_882, Or.inr ⟨rfl, hin, rfl⟩⟩, (fun _ h => h), rfl⟩, (fun _ h => absurd h List.not_mem_nil)⟩)⟩)⟩)⟩)⟩)⟩)⟩)⟩)⟩)⟩)⟩)⟩)
theorem pnw_X8 {s : State} {args : Array Value} (hts : ∀ w ∈ cw_tb, w.before args s = true) : ∀ x ∈ nw_X8, ck_hn s args RX8 cw_cls cw_TT x :=
  (fun _ h => absurd h List.not_mem_nil)
theorem pkl_X8 {s : State} {args : Array Value} (hts : ∀ w ∈ cw_tb, w.before args s = true) : ∀ x ∈ kl_X8, ck_hk s args RX8 x :=
  (fun _ h => absurd h List.not_mem_nil)
theorem pil_X8 {s : State} {args : Array Value} (hts : ∀ w ∈ cw_tb, w.before args s = true) (hnc : ck_nq cw_V s) : ∀ x ∈ il_X8, ck_hi s args RX8 cw_cls x :=
  (fun _ h => absurd h List.not_mem_nil)
theorem pxl_X8 {s : State} {args : Array Value} (hts : ∀ w ∈ cw_tb, w.before args s = true) (hnc : ck_nq cw_V s) : ∀ x ∈ xl_X8, ck_hx s args RX8 cw_cls x :=
  (fun _ h => absurd h List.not_mem_nil)
theorem pgl_X8 {s : State} {args : Array Value} (hts : ∀ w ∈ cw_tb, w.before args s = true) {sw : Option Nat} (hsw : sw.isSome = true) (b : Nat → Int) : ∀ i ∈ gl_X8, ck_hs s args RX8 (none, sw, b) i :=
  (fun _ h => absurd h List.not_mem_nil)
def fl_X9 : List (Nat × Nat × Nat) := [(14, 9, 0), (22, 9, 2), (30, 9, 3), (34, 9, 4), (37, 9, 5), (40, 9, 6), (43, 9, 7), (46, 9, 8), (49, 9, 9), (52, 9, 10), (56, 9, 11), (59, 9, 1), (66, 0, 4), (66, 4, 0), (66, 5, 4), (66, 8, 0), (123, 0, 3), (123, 5, 3), (123, 8, 4)]
def pl_X9 : List (Nat × Nat × Nat × Nat) := [(52, 9, 10, 0), (56, 9, 11, 0), (59, 9, 1, 0)]
def pI_X9 : List (Nat × Nat × Nat × Nat) := [(14, 9, 0, 2), (22, 9, 2, 2), (30, 9, 3, 2), (34, 9, 4, 2), (37, 9, 5, 2), (40, 9, 6, 2), (43, 9, 7, 2), (46, 9, 8, 2), (49, 9, 9, 2), (52, 9, 10, 0), (56, 9, 11, 0), (59, 9, 1, 0)]
def nw_X9 : List (Nat × Nat × Nat × Nat) := []
def kl_X9 : List (Nat × Nat × Int) := []
def il_X9 : List (Nat × Nat × Nat) := []
def xl_X9 : List (Nat × Nat) := []
def gl_X9 : List Nat := []
theorem pfl_X9 {s : State} {args : Array Value} (hts : ∀ w ∈ cw_tb, w.before args s = true) : ∀ x ∈ fl_X9, ck_hg s args RX9 cw_cls x :=
  (List.forall_mem_cons.mpr ⟨⟨RX9, TX9, 12, "ReasonDesk$Rules", cw_tb, hts, cw_in_X9, rfl, by decide, Or.inl (hts _ tw_227), (fun _ h => h)⟩, (List.forall_mem_cons.mpr ⟨⟨RX9, TX9, 12, "ReasonDesk$Rules", cw_tb, hts, cw_in_X9, rfl, by decide, Or.inl (hts _ tw_231), (fun _ h => h)⟩, (List.forall_mem_cons.mpr ⟨⟨RX9, TX9, 12, "ReasonDesk$Rules", cw_tb, hts, cw_in_X9, rfl, by decide, Or.inl (hts _ tw_232), (fun _ h => h)⟩, (List.forall_mem_cons.mpr ⟨⟨RX9, TX9, 12, "ReasonDesk$Rules", cw_tb, hts, cw_in_X9, rfl, by decide, Or.inl (hts _ tw_233), (fun _ h => h)⟩, (List.forall_mem_cons.mpr ⟨⟨RX9, TX9, 12, "ReasonDesk$Rules", cw_tb, hts, cw_in_X9, rfl, by decide, Or.inl (hts _ tw_234), (fun _ h => h)⟩, (List.forall_mem_cons.mpr ⟨⟨RX9, TX9, 12, "ReasonDesk$Rules", cw_tb, hts, cw_in_X9, rfl, by decide, Or.inl (hts _ tw_235), (fun _ h => h)⟩, (List.forall_mem_cons.mpr ⟨⟨RX9, TX9, 12, "ReasonDesk$Rules", cw_tb, hts, cw_in_X9, rfl, by decide, Or.inl (hts _ tw_236), (fun _ h => h)⟩, (List.forall_mem_cons.mpr ⟨⟨RX9, TX9, 12, "ReasonDesk$Rules", cw_tb, hts, cw_in_X9, rfl, by decide, Or.inl (hts _ tw_237), (fun _ h => h)⟩, (List.forall_mem_cons.mpr ⟨⟨RX9, TX9, 12, "ReasonDesk$Rules", cw_tb, hts, cw_in_X9, rfl, by decide, Or.inl (hts _ tw_238), (fun _ h => h)⟩, (List.forall_mem_cons.mpr ⟨⟨RX9, TX9, 12, "ReasonDesk$Rules", cw_tb, hts, cw_in_X9, rfl, by decide, Or.inl (hts _ tw_239), (fun _ h => h)⟩, (List.forall_mem_cons.mpr ⟨⟨RX9, TX9, 12, "ReasonDesk$Rules", cw_tb, hts, cw_in_X9, rfl, by decide, Or.inl (hts _ tw_240), (fun _ h => h)⟩, (List.forall_mem_cons.mpr ⟨⟨RX9, TX9, 12, "ReasonDesk$Rules", cw_tb, hts, cw_in_X9, rfl, by decide, Or.inl (hts _ tw_229), (fun _ h => h)⟩, (List.forall_mem_cons.mpr ⟨⟨RX0, TX0, 5, "ReasonDesk$Rule", cw_tb, hts, cw_in_X0, rfl, by decide, Or.inl (hts _ tw_616), (fun x h => u_same (hts _ tw_615) x h)⟩, (List.forall_mem_cons.mpr ⟨⟨RX4, TX4, 7, "ReasonDesk$Rule", cw_tb, hts, cw_in_X4, rfl, by decide, Or.inl (hts _ tw_616), (fun x h => u_same (hts _ tw_615) x h)⟩, (List.forall_mem_cons.mpr ⟨⟨RX5, TX5, 5, "ReasonDesk$Rule", cw_tb, hts, cw_in_X5, rfl, by decide, Or.inl (hts _ tw_616), (fun x h => u_same (hts _ tw_615) x h)⟩, (List.forall_mem_cons.mpr ⟨⟨RX8, TX8, 5, "ReasonDesk$Rule", cw_tb, hts, cw_in_X8, rfl, by decide, Or.inl (hts _ tw_616), (fun x h => u_same (hts _ tw_615) x h)⟩, (List.forall_mem_cons.mpr ⟨⟨RX0, TX0, 5, "ReasonDesk$Rule", cw_tb, hts, cw_in_X0, rfl, by decide, Or.inl (hts _ tw_883), (fun _ h => h)⟩, (List.forall_mem_cons.mpr ⟨⟨RX5, TX5, 5, "ReasonDesk$Rule", cw_tb, hts, cw_in_X5, rfl, by decide, Or.inl (hts _ tw_883), (fun _ h => h)⟩, (List.forall_mem_cons.mpr ⟨⟨RX8, TX8, 5, "ReasonDesk$Rule", cw_tb, hts, cw_in_X8, rfl, by decide, Or.inl (hts _ tw_883), (fun _ h => h)⟩, (fun _ h => absurd h List.not_mem_nil)⟩)⟩)⟩)⟩)⟩)⟩)⟩)⟩)⟩)⟩)⟩)⟩)⟩)⟩)⟩)⟩)⟩)⟩)⟩)
theorem ppl_X9 {s : State} {args : Array Value} (hts : ∀ w ∈ cw_tb, w.before args s = true) {P : Prop} : ∀ x ∈ pl_X9, ck_hp s args RX9 cw_cls P x :=
  (List.forall_mem_cons.mpr ⟨⟨RX9, TX9, 12, "ReasonDesk$Rules", cw_tb, tyX9, hts, cw_in_X9, tyX9_ok, nmX9, rfl, by decide, Or.inl ⟨hts _ tw_239, Or.inl rfl⟩, (fun _ h => h), rfl⟩, (List.forall_mem_cons.mpr ⟨⟨RX9, TX9, 12, "ReasonDesk$Rules", cw_tb, tyX9, hts, cw_in_X9, tyX9_ok, nmX9, rfl, by decide, Or.inl ⟨hts _ tw_240, Or.inl rfl⟩, (fun _ h => h), rfl⟩, (List.forall_mem_cons.mpr ⟨⟨RX9, TX9, 12, "ReasonDesk$Rules", cw_tb, tyX9, hts, cw_in_X9, tyX9_ok, nmX9, rfl, by decide, Or.inl ⟨hts _ tw_229, Or.inl rfl⟩, (fun _ h => h), rfl⟩, (fun _ h => absurd h List.not_mem_nil)⟩)⟩)⟩)
theorem ppI_X9 {s : State} {args : Array Value} (hts : ∀ w ∈ cw_tb, w.before args s = true) {P : Prop} (hin : P) : ∀ x ∈ pI_X9, ck_hp s args RX9 cw_cls P x :=
  (List.forall_mem_cons.mpr ⟨⟨RX9, TX9, 12, "ReasonDesk$Rules", cw_tb, tyX9, hts, cw_in_X9, tyX9_ok, nmX9, rfl, by decide, Or.inl ⟨hts _ tw_227, Or.inr ⟨rfl, hin, rfl⟩⟩, (fun _ h => h), Or.inl ⟨_, rfl⟩⟩, (List.forall_mem_cons.mpr ⟨⟨RX9, TX9, 12, "ReasonDesk$Rules", cw_tb, tyX9, hts, cw_in_X9, tyX9_ok, nmX9, rfl, by decide, Or.inl ⟨hts _ tw_231, Or.inr ⟨rfl, hin, rfl⟩⟩, (fun _ h => h), Or.inr ⟨_, rfl⟩⟩, (List.forall_mem_cons.mpr ⟨⟨RX9, TX9, 12, "ReasonDesk$Rules", cw_tb, tyX9, hts, cw_in_X9, tyX9_ok, nmX9, rfl, by decide, Or.inl ⟨hts _ tw_232, Or.inr ⟨rfl, hin, rfl⟩⟩, (fun _ h => h), Or.inr ⟨_, rfl⟩⟩, (List.forall_mem_cons.mpr ⟨⟨RX9, TX9, 12, "ReasonDesk$Rules", cw_tb, tyX9, hts, cw_in_X9, tyX9_ok, nmX9, rfl, by decide, Or.inl ⟨hts _ tw_233, Or.inr ⟨rfl, hin, rfl⟩⟩, (fun _ h => h), Or.inr ⟨_, rfl⟩⟩, (List.forall_mem_cons.mpr ⟨⟨RX9, TX9, 12, "ReasonDesk$Rules", cw_tb, tyX9, hts, cw_in_X9, tyX9_ok, nmX9, rfl, by decide, Or.inl ⟨hts _ tw_234, Or.inr ⟨rfl, hin, rfl⟩⟩, (fun _ h => h), Or.inr ⟨_, rfl⟩⟩, (List.forall_mem_cons.mpr ⟨⟨RX9, TX9, 12, "ReasonDesk$Rules", cw_tb, tyX9, hts, cw_in_X9, tyX9_ok, nmX9, rfl, by decide, Or.inl ⟨hts _ tw_235, Or.inr ⟨rfl, hin, rfl⟩⟩, (fun _ h => h), Or.inl ⟨_, rfl⟩⟩, (List.forall_mem_cons.mpr ⟨⟨RX9, TX9, 12, "ReasonDesk$Rules", cw_tb, tyX9, hts, cw_in_X9, tyX9_ok, nmX9, rfl, by decide, Or.inl ⟨hts _ tw_236, Or.inr ⟨rfl, hin, rfl⟩⟩, (fun _ h => h), Or.inl ⟨_, rfl⟩⟩, (List.forall_mem_cons.mpr ⟨⟨RX9, TX9, 12, "ReasonDesk$Rules", cw_tb, tyX9, hts, cw_in_X9, tyX9_ok, nmX9, rfl, by decide, Or.inl ⟨hts _ tw_237, Or.inr ⟨rfl, hin, rfl⟩⟩, (fun _ h => h), Or.inl ⟨_, rfl⟩⟩, (List.forall_mem_cons.mpr ⟨⟨RX9, TX9, 12, "ReasonDesk$Rules", cw_tb, tyX9, hts, cw_in_X9, tyX9_ok, nmX9, rfl, by decide, Or.inl ⟨hts _ tw_238, Or.inr ⟨rfl, hin, rfl⟩⟩, (fun _ h => h), Or.inl ⟨_, rfl⟩⟩, (List.forall_mem_cons.mpr ⟨⟨RX9, TX9, 12, "ReasonDesk$Rules", cw_tb, tyX9, hts, cw_in_X9, tyX9_ok, nmX9, rfl, by decide, Or.inl ⟨hts _ tw_239, Or.inl rfl⟩, (fun _ h => h), rfl⟩, (List.forall_mem_cons.mpr ⟨⟨RX9, TX9, 12, "ReasonDesk$Rules", cw_tb, tyX9, hts, cw_in_X9, tyX9_ok, nmX9, rfl, by decide, Or.inl ⟨hts _ tw_240, Or.inl rfl⟩, (fun _ h => h), rfl⟩, (List.forall_mem_cons.mpr ⟨⟨RX9, TX9, 12, "ReasonDesk$Rules", cw_tb, tyX9, hts, cw_in_X9, tyX9_ok, nmX9, rfl, by decide, Or.inl ⟨hts _ tw_229, Or.inl rfl⟩, (fun _ h => h), rfl⟩, (fun _ h => absurd h List.not_mem_nil)⟩)⟩)⟩)⟩)⟩)⟩)⟩)⟩)⟩)⟩)⟩)⟩)
theorem pnw_X9 {s : State} {args : Array Value} (hts : ∀ w ∈ cw_tb, w.before args s = true) : ∀ x ∈ nw_X9, ck_hn s args RX9 cw_cls cw_TT x :=
  (fun _ h => absurd h List.not_mem_nil)
theorem pkl_X9 {s : State} {args : Array Value} (hts : ∀ w ∈ cw_tb, w.before args s = true) : ∀ x ∈ kl_X9, ck_hk s args RX9 x :=
  (fun _ h => absurd h List.not_mem_nil)
theorem pil_X9 {s : State} {args : Array Value} (hts : ∀ w ∈ cw_tb, w.before args s = true) (hnc : ck_nq cw_V s) : ∀ x ∈ il_X9, ck_hi s args RX9 cw_cls x :=
  (fun _ h => absurd h List.not_mem_nil)
theorem pxl_X9 {s : State} {args : Array Value} (hts : ∀ w ∈ cw_tb, w.before args s = true) (hnc : ck_nq cw_V s) : ∀ x ∈ xl_X9, ck_hx s args RX9 cw_cls x :=
  (fun _ h => absurd h List.not_mem_nil)
theorem pgl_X9 {s : State} {args : Array Value} (hts : ∀ w ∈ cw_tb, w.before args s = true) {sw : Option Nat} (hsw : sw.isSome = true) (b : Nat → Int) : ∀ i ∈ gl_X9, ck_hs s args RX9 (none, sw, b) i :=
  (fun _ h => absurd h List.not_mem_nil)
def fl_X10 : List (Nat × Nat × Nat) := []
def pl_X10 : List (Nat × Nat × Nat × Nat) := []
def pI_X10 : List (Nat × Nat × Nat × Nat) := [(7, 0, 4, 0), (7, 4, 0, 0), (7, 5, 4, 0), (7, 8, 0, 0)]
def nw_X10 : List (Nat × Nat × Nat × Nat) := []
def kl_X10 : List (Nat × Nat × Int) := []
def il_X10 : List (Nat × Nat × Nat) := []
def xl_X10 : List (Nat × Nat) := []
def gl_X10 : List Nat := []
theorem pfl_X10 {s : State} {args : Array Value} (hts : ∀ w ∈ cw_tb, w.before args s = true) : ∀ x ∈ fl_X10, ck_hg s args RX10 cw_cls x :=
  (fun _ h => absurd h List.not_mem_nil)
theorem ppl_X10 {s : State} {args : Array Value} (hts : ∀ w ∈ cw_tb, w.before args s = true) {P : Prop} : ∀ x ∈ pl_X10, ck_hp s args RX10 cw_cls P x :=
  (fun _ h => absurd h List.not_mem_nil)
theorem ppI_X10 {s : State} {args : Array Value} (hts : ∀ w ∈ cw_tb, w.before args s = true) {P : Prop} (hin : P) : ∀ x ∈ pI_X10, ck_hp s args RX10 cw_cls P x :=
  (List.forall_mem_cons.mpr ⟨⟨RX0, TX0, 5, "ReasonDesk$Thing", cw_tb, tyX0, hts, cw_in_X0, tyX0_ok, nmX0, rfl, by decide, Or.inl ⟨hts _ tw_611, Or.inr ⟨rfl, hin, rfl⟩⟩, (fun _ h => h), rfl⟩, (List.forall_mem_cons.mpr ⟨⟨RX4, TX4, 7, "ReasonDesk$Thing", cw_tb, tyX4, hts, cw_in_X4, tyX4_ok, nmX4, rfl, by decide, Or.inl ⟨hts _ tw_611, Or.inr ⟨rfl, hin, rfl⟩⟩, (fun _ h => h), rfl⟩, (List.forall_mem_cons.mpr ⟨⟨RX5, TX5, 5, "ReasonDesk$Thing", cw_tb, tyX5, hts, cw_in_X5, tyX5_ok, nmX5, rfl, by decide, Or.inl ⟨hts _ tw_611, Or.inr ⟨rfl, hin, rfl⟩⟩, (fun _ h => h), rfl⟩, (List.forall_mem_cons.mpr ⟨⟨RX8, TX8, 5, "ReasonDesk$Thing", cw_tb, tyX8, hts, cw_in_X8, tyX8_ok, nmX8, rfl, by decide, Or.inl ⟨hts _ tw_611, Or.inr ⟨rfl, hin, rfl⟩⟩, (fun _ h => h), rfl⟩, (fun _ h => absurd h List.not_mem_nil)⟩)⟩)⟩)⟩)
theorem pnw_X10 {s : State} {args : Array Value} (hts : ∀ w ∈ cw_tb, w.before args s = true) : ∀ x ∈ nw_X10, ck_hn s args RX10 cw_cls cw_TT x :=
  (fun _ h => absurd h List.not_mem_nil)
theorem pkl_X10 {s : State} {args : Array Value} (hts : ∀ w ∈ cw_tb, w.before args s = true) : ∀ x ∈ kl_X10, ck_hk s args RX10 x :=
  (fun _ h => absurd h List.not_mem_nil)
theorem pil_X10 {s : State} {args : Array Value} (hts : ∀ w ∈ cw_tb, w.before args s = true) (hnc : ck_nq cw_V s) : ∀ x ∈ il_X10, ck_hi s args RX10 cw_cls x :=
  (fun _ h => absurd h List.not_mem_nil)
theorem pxl_X10 {s : State} {args : Array Value} (hts : ∀ w ∈ cw_tb, w.before args s = true) (hnc : ck_nq cw_V s) : ∀ x ∈ xl_X10, ck_hx s args RX10 cw_cls x :=
  (fun _ h => absurd h List.not_mem_nil)
theorem pgl_X10 {s : State} {args : Array Value} (hts : ∀ w ∈ cw_tb, w.before args s = true) {sw : Option Nat} (hsw : sw.isSome = true) (b : Nat → Int) : ∀ i ∈ gl_X10, ck_hs s args RX10 (none, sw, b) i :=
  (fun _ h => absurd h List.not_mem_nil)
def fl_X12 : List (Nat × Nat × Nat) := [(7, 12, 2), (13, 12, 3), (17, 12, 4), (20, 12, 6), (23, 12, 9), (26, 12, 10), (29, 12, 11), (32, 12, 12), (35, 12, 13), (38, 12, 14), (41, 12, 18), (44, 12, 22), (47, 12, 24), (50, 12, 28), (53, 12, 29), (56, 12, 30), (59, 12, 31), (62, 12, 32), (65, 12, 34), (68, 12, 36), (71, 12, 38), (74, 12, 39), (77, 12, 41), (80, 12, 42), (83, 12, 44), (86, 12, 45), (89, 12, 46), (92, 12, 50), (95, 12, 52), (98, 12, 53), (103, 12, 54), (106, 12, 57), (109, 12, 58), (112, 12, 59), (115, 12, 60), (118, 12, 61), (121, 12, 62), (124, 12, 64), (127, 12, 65), (130, 12, 66), (133, 12, 67), (136, 12, 16), (142, 12, 0), (149, 12, 1), (162, 12, 5), (167, 12, 7), (250, 12, 43), (254, 12, 19), (257, 12, 33), (260, 12, 55), (263, 12, 8), (266, 12, 17), (269, 12, 15), (275, 12, 20), (284, 12, 21), (287, 12, 23), (290, 12, 25), (293, 12, 26), (358, 12, 27), (373, 12, 35), (376, 12, 37), (401, 12, 40), (413, 12, 47), (419, 12, 48), (422, 12, 49), (425, 12, 51), (452, 12, 56), (477, 12, 63)]
def pl_X12 : List (Nat × Nat × Nat × Nat) := [(136, 12, 16, 0), (142, 12, 0, 0), (149, 12, 1, 0), (162, 12, 5, 0), (167, 12, 7, 0), (250, 12, 43, 1), (254, 12, 19, 1), (257, 12, 33, 1), (260, 12, 55, 1), (263, 12, 8, 0), (266, 12, 17, 1), (269, 12, 15, 0), (275, 12, 20, 0), (284, 12, 21, 0), (287, 12, 23, 0), (290, 12, 25, 0), (293, 12, 26, 0), (358, 12, 27, 0), (373, 12, 35, 0), (376, 12, 37, 0), (401, 12, 40, 0), (413, 12, 47, 0), (419, 12, 48, 0), (422, 12, 49, 0), (425, 12, 51, 0), (452, 12, 56, 0), (477, 12, 63, 0)]
def pI_X12 : List (Nat × Nat × Nat × Nat) := [(7, 12, 2, 2), (13, 12, 3, 2), (17, 12, 4, 2), (20, 12, 6, 2), (23, 12, 9, 2), (26, 12, 10, 2), (29, 12, 11, 2), (32, 12, 12, 2), (35, 12, 13, 2), (38, 12, 14, 2), (41, 12, 18, 2), (44, 12, 22, 2), (47, 12, 24, 2), (50, 12, 28, 2), (53, 12, 29, 2), (56, 12, 30, 2), (59, 12, 31, 2), (62, 12, 32, 2), (65, 12, 34, 2), (68, 12, 36, 2), (71, 12, 38, 2), (74, 12, 39, 2), (77, 12, 41, 2), (80, 12, 42, 2), (83, 12, 44, 2), (86, 12, 45, 2), (89, 12, 46, 2), (92, 12, 50, 2), (95, 12, 52, 2), (98, 12, 53, 2), (103, 12, 54, 2), (106, 12, 57, 2), (109, 12, 58, 2), (112, 12, 59, 2), (115, 12, 60, 2), (118, 12, 61, 2), (121, 12, 62, 2), (124, 12, 64, 2), (127, 12, 65, 2), (130, 12, 66, 2), (133, 12, 67, 2), (136, 12, 16, 0), (142, 12, 0, 0), (149, 12, 1, 0), (162, 12, 5, 0), (167, 12, 7, 0), (250, 12, 43, 1), (254, 12, 19, 1), (257, 12, 33, 1), (260, 12, 55, 1), (263, 12, 8, 0), (266, 12, 17, 1), (269, 12, 15, 0), (275, 12, 20, 0), (284, 12, 21, 0), (287, 12, 23, 0), (290, 12, 25, 0), (293, 12, 26, 0), (358, 12, 27, 0), (373, 12, 35, 0), (376, 12, 37, 0), (401, 12, 40, 0), (413, 12, 47, 0), (419, 12, 48, 0), (422, 12, 49, 0), (425, 12, 51, 0), (452, 12, 56, 0), (477, 12, 63, 0)]
def nw_X12 : List (Nat × Nat × Nat × Nat) := []
def kl_X12 : List (Nat × Nat × Int) := [(102, 0, 49152), (140, 1, (-9223372036854775808)), (156, 1, 5), (165, 1, (-1)), (191, 1, 97), (193, 1, 104), (208, 1, 2), (221, 1, 4), (233, 1, 255), (245, 1, 9), (302, 1, 99), (353, 1, 3)]
def il_X12 : List (Nat × Nat × Nat) := []
def xl_X12 : List (Nat × Nat) := []
def gl_X12 : List Nat := []
theorem pfl_X12 {s : State} {args : Array Value} (hts : ∀ w ∈ cw_tb, w.before args s = true) : ∀ x ∈ fl_X12, ck_hg s args RX12 cw_cls x :=
  (List.forall_mem_cons.mpr ⟨⟨RX12, TX12, 68, "ReasonDeskModel", cw_tb, hts, cw_in_X12, rfl, by decide, Or.inl (hts _ tw_1273), (fun _ h => h)⟩, (List.forall_mem_cons.mpr ⟨⟨RX12, TX12, 68, "ReasonDeskModel", cw_tb, hts, cw_in_X12, rfl, by decide, Or.inl (hts _ tw_1274), (fun _ h => h)⟩, (List.forall_mem_cons.mpr ⟨⟨RX12, TX12, 68, "ReasonDeskModel", cw_tb, hts, cw_in_X12, rfl, by decide, Or.inl (hts _ tw_1275), (fun _ h => h)⟩, (List.forall_mem_cons.mpr ⟨⟨RX12, TX12, 68, "ReasonDeskModel", cw_tb, hts, cw_in_X12, rfl, by decide, Or.inl (hts _ tw_1277), (fun _ h => h)⟩, (List.forall_mem_cons.mpr ⟨⟨RX12, TX12, 68, "ReasonDeskModel", cw_tb, hts, cw_in_X12, rfl, by decide, Or.inl (hts _ tw_1280), (fun _ h => h)⟩, (List.forall_mem_cons.mpr ⟨⟨RX12, TX12, 68, "ReasonDeskModel", cw_tb, hts, cw_in_X12, rfl, by decide, Or.inl (hts _ tw_1281), (fun _ h => h)⟩, (List.forall_mem_cons.mpr ⟨⟨RX12, TX12, 68, "ReasonDeskModel", cw_tb, hts, cw_in_X12, rfl, by decide, Or.inl (hts _ tw_1282), (fun _ h => h)⟩, (List.forall_mem_cons.mpr ⟨⟨RX12, TX12, 68, "ReasonDeskModel", cw_tb, hts, cw_in_X12, rfl, by decide, Or.inl (hts _ tw_1283), (fun _ h => h)⟩, (List.forall_mem_cons.mpr ⟨⟨RX12, TX12, 68, "ReasonDeskModel", cw_tb, hts, cw_in_X12, rfl, by decide, Or.inl (hts _ tw_1284), (fun _ h => h)⟩, (List.forall_mem_cons.mpr ⟨⟨RX12, TX12, 68, "ReasonDeskModel", cw_tb, hts, cw_in_X12, rfl, by decide, Or.inl (hts _ tw_1285), (fun _ h => h)⟩, (List.forall_mem_cons.mpr ⟨⟨RX12, TX12, 68, "ReasonDeskModel", cw_tb, hts, cw_in_X12, rfl, by decide, Or.inl (hts _ tw_1289), (fun _ h => h)⟩, (List.forall_mem_cons.mpr ⟨⟨RX12, TX12, 68, "ReasonDeskModel", cw_tb, hts, cw_in_X12, rfl, by decide, Or.inl (hts _ tw_1293), (fun _ h => h)⟩, (List.forall_mem_cons.mpr ⟨⟨RX12, TX12, 68, "ReasonDeskModel", cw_tb, hts, cw_in_X12, rfl, by decide, Or.inl (hts _ tw_1295), (fun _ h => h)⟩, (List.forall_mem_cons.mpr ⟨⟨RX12, TX12, 68, "ReasonDeskModel", cw_tb, hts, cw_in_X12, rfl, by decide, Or.inl (hts _ tw_1299), (fun _ h => h)⟩, (List.forall_mem_cons.mpr ⟨⟨RX12, TX12, 68, "ReasonDeskModel", cw_tb, hts, cw_in_X12, rfl, by decide, Or.inl (hts _ tw_1300), (fun _ h => h)⟩, (List.forall_mem_cons.mpr ⟨⟨RX12, TX12, 68, "ReasonDeskModel", cw_tb, hts, cw_in_X12, rfl, by decide, Or.inl (hts _ tw_1301), (fun _ h => h)⟩, (List.forall_mem_cons.mpr ⟨⟨RX12, TX12, 68, "ReasonDeskModel", cw_tb, hts, cw_in_X12, rfl, by decide, Or.inl (hts _ tw_1302), (fun _ h => h)⟩, (List.forall_mem_cons.mpr ⟨⟨RX12, TX12, 68, "ReasonDeskModel", cw_tb, hts, cw_in_X12, rfl, by decide, Or.inl (hts _ tw_1303), (fun _ h => h)⟩, (List.forall_mem_cons.mpr ⟨⟨RX12, TX12, 68, "ReasonDeskModel", cw_tb, hts, cw_in_X12, rfl, by decide, Or.inl (hts _ tw_1305), (fun _ h => h)⟩, (List.forall_mem_cons.mpr ⟨⟨RX12, TX12, 68, "ReasonDeskModel", cw_tb, hts, cw_in_X12, rfl, by decide, Or.inl (hts _ tw_1307), (fun _ h => h)⟩, (List.forall_mem_cons.mpr ⟨⟨RX12, TX12, 68, "ReasonDeskModel", cw_tb, hts, cw_in_X12, rfl, by decide, Or.inl (hts _ tw_1309), (fun _ h => h)⟩, (List.forall_mem_cons.mpr ⟨⟨RX12, TX12, 68, "ReasonDeskModel", cw_tb, hts, cw_in_X12, rfl, by decide, Or.inl (hts _ tw_1310), (fun _ h => h)⟩, (List.forall_mem_cons.mpr ⟨⟨RX12, TX12, 68, "ReasonDeskModel", cw_tb, hts, cw_in_X12, rfl, by decide, Or.inl (hts _ tw_1312), (fun _ h => h)⟩, (List.forall_mem_cons.mpr ⟨⟨RX12, TX12, 68, "ReasonDeskModel", cw_tb, hts, cw_in_X12, rfl, by decide, Or.inl (hts _ tw_1313), (fun _ h => h)⟩, (List.forall_mem_cons.mpr ⟨⟨RX12, TX12, 68, "ReasonDeskModel", cw_tb, hts, cw_in_X12, rfl, by decide, Or.inl (hts _ tw_1315), (fun _ h => h)⟩, (List.forall_mem_cons.mpr ⟨⟨RX12, TX12, 68, "ReasonDeskModel", cw_tb, hts, cw_in_X12, rfl, by decide, Or.inl (hts _ tw_1316), (fun _ h => h)⟩, (List.forall_mem_cons.mpr ⟨⟨RX12, TX12, 68, "ReasonDeskModel", cw_tb, hts, cw_in_X12, rfl, by decide, Or.inl (hts _ tw_1317), (fun _ h => h)⟩, (List.forall_mem_cons.mpr ⟨⟨RX12, TX12, 68, "ReasonDeskModel", cw_tb, hts, cw_in_X12, rfl, by decide, Or.inl (hts _ tw_1321), (fun _ h => h)⟩, (List.forall_mem_cons.mpr ⟨⟨RX12, TX12, 68, "ReasonDeskModel", cw_tb, hts, cw_in_X12, rfl, by decide, Or.inl (hts _ tw_1323), (fun _ h => h)⟩, (List.forall_mem_cons.mpr ⟨⟨RX12, TX12, 68, "ReasonDeskModel", cw_tb, hts, cw_in_X12, rfl, by decide, Or.inl (hts _ tw_1324), (fun _ h => h)⟩, (List.forall_mem_cons.mpr ⟨⟨RX12, TX12, 68, "ReasonDeskModel", cw_tb, hts, cw_in_X12, rfl, by decide, Or.inl (hts _ tw_1325), (fun _ h => h)⟩, (List.forall_mem_cons.mpr ⟨⟨RX12, TX12, 68, "ReasonDeskModel", cw_tb, hts, cw_in_X12, rfl, by decide, Or.inl (hts _ tw_1328), (fun _ h => h)⟩, (List.forall_mem_cons.mpr ⟨⟨RX12, TX12, 68, "ReasonDeskModel", cw_tb, hts, cw_in_X12, rfl, by decide, Or.inl (hts _ tw_1329), (fun _ h => h)⟩, (List.forall_mem_cons.mpr ⟨⟨RX12, TX12, 68, "ReasonDeskModel", cw_tb, hts, cw_in_X12, rfl, by decide, Or.inl (hts _ tw_1330), (fun _ h => h)⟩, (List.forall_mem_cons.mpr ⟨⟨RX12, TX12, 68, "ReasonDeskModel", cw_tb, hts, cw_in_X12, rfl, by decide, Or.inl (hts _ tw_1331), (fun _ h => h)⟩, (List.forall_mem_cons.mpr ⟨⟨RX12, TX12, 68, "ReasonDeskModel", cw_tb, hts, cw_in_X12, rfl, by decide, Or.inl (hts _ tw_1332), (fun _ h => h)⟩, (List.forall_mem_cons.mpr ⟨⟨RX12, TX12, 68, "ReasonDeskModel", cw_tb, hts, cw_in_X12, rfl, by decide, Or.inl (hts _ tw_1333), (fun _ h => h)⟩, (List.forall_mem_cons.mpr ⟨⟨RX12, TX12, 68, "ReasonDeskModel", cw_tb, hts, cw_in_X12, rfl, by decide, Or.inl (hts _ tw_1335), (fun _ h => h)⟩, (List.forall_mem_cons.mpr ⟨⟨RX12, TX12, 68, "ReasonDeskModel", cw_tb, hts, cw_in_X12, rfl, by decide, Or.inl (hts _ tw_1336), (fun _ h => h)⟩, (List.forall_mem_cons.mpr ⟨⟨RX12, TX12, 68, "ReasonDeskModel", cw_tb, hts, cw_in_X12, rfl, by decide, Or.inl (hts _ tw_1337), (fun _ h => h)⟩, (List.forall_mem_cons.mpr ⟨⟨RX12, TX12, 68, "ReasonDeskModel", cw_tb, hts, cw_in_X12, rfl, by decide, Or.inl (hts _ tw_1338), (fun _ h => h)⟩, (List.forall_mem_cons.mpr ⟨⟨RX12, TX12, 68, "ReasonDeskModel", cw_tb, hts, cw_in_X12, rfl, by decide, Or.inl (hts _ tw_1287), (fun _ h => h)⟩, (List.forall_mem_cons.mpr ⟨⟨RX12, TX12, 68, "ReasonDeskModel", cw_tb, hts, cw_in_X12, rfl, by decide, Or.inl (hts _ tw_1271), (fun _ h => h)⟩, (List.forall_mem_cons.mpr ⟨⟨RX12, TX12, 68, "ReasonDeskModel", cw_tb, hts, cw_in_X12, rfl, by decide, Or.inl (hts _ tw_1272), (fun _ h => h)⟩, (List.forall_mem_cons.mpr ⟨⟨RX12, TX12, 68, "ReasonDeskModel", cw_tb, hts, cw_in_X12, rfl, by decide, Or.inl (hts _ tw_1276), (fun _ h => h)⟩, (List.forall_mem_cons.mpr ⟨⟨RX12, TX12, 68, "ReasonDeskModel", cw_tb, hts, cw_in_X12, rfl, by decide, Or.inl (hts _ tw_1278), (fun _ h => h)⟩, (List.forall_mem_cons.mpr ⟨⟨RX12, TX12, 68, "ReasonDeskModel", cw_tb, hts, cw_in_X12, rfl, by decide, Or.inl (hts _ tw_1314), (fun _ h => h)⟩, (List.forall_mem_cons.mpr ⟨⟨RX12, TX12, 68, "ReasonDeskModel", cw_tb, hts, cw_in_X12, rfl, by decide, Or.inl (hts _ tw_1290), (fun _ h => h)⟩, (List.forall_mem_cons.mpr ⟨⟨RX12, TX12, 68, "ReasonDeskModel", cw_tb, hts, cw_in_X12, rfl, by decide, Or.inl (hts _ tw_1304), (fun _ h => h)⟩, (List.forall_mem_cons.mpr ⟨⟨RX12, TX12, 68, "ReasonDeskModel", cw_tb, hts, cw_in_X12, rfl, by decide, Or.inl (hts _ tw_1326), (fun _ h => h)⟩, (List.forall_mem_cons.mpr ⟨⟨RX12, TX12, 68, "ReasonDeskModel", cw_tb, hts, cw_in_X12, rfl, by decide, Or.inl (hts _ tw_1279), (fun _ h => h)⟩, (List.forall_mem_cons.mpr ⟨⟨RX12, TX12, 68, "ReasonDeskModel", cw_tb, hts, cw_in_X12, rfl, by decide, Or.inl (hts _ tw_1288), (fun _ h => h)⟩, (List.forall_mem_cons.mpr ⟨⟨RX12, TX12, 68, "ReasonDeskModel", cw_tb, hts, cw_in_X12, rfl, by decide, Or.inl (hts _ tw_1286), (fun _ h => h)⟩, (List.forall_mem_cons.mpr ⟨⟨RX12, TX12, 68, "ReasonDeskModel", cw_tb, hts, cw_in_X12, rfl, by decide, Or.inl (hts _ tw_1291), (fun _ h => h)⟩, (List.forall_mem_cons.mpr ⟨⟨RX12, TX12, 68, "ReasonDeskModel", cw_tb, hts, cw_in_X12, rfl, by decide, Or.inl (hts _ tw_1292), (fun _ h => h)⟩, (List.forall_mem_cons.mpr ⟨⟨RX12, TX12, 68, "ReasonDeskModel", cw_tb, hts, cw_in_X12, rfl, by decide, Or.inl (hts _ tw_1294), (fun _ h => h)⟩, (List.forall_mem_cons.mpr ⟨⟨RX12, TX12, 68, "ReasonDeskModel", cw_tb, hts, cw_in_X12, rfl, by decide, Or.inl (hts _ tw_1296), (fun _ h => h)⟩, (List.forall_mem_cons.mpr ⟨⟨RX12, TX12, 68, "ReasonDeskModel", cw_tb, hts, cw_in_X12, rfl, by decide, Or.inl (hts _ tw_1297), (fun _ h => h)⟩, (List.forall_mem_cons.mpr ⟨⟨RX12, TX12, 68, "ReasonDeskModel", cw_tb, hts, cw_in_X12, rfl, by decide, Or.inl (hts _ tw_1298), (fun _ h => h)⟩, (List.forall_mem_cons.mpr ⟨⟨RX12, TX12, 68, "ReasonDeskModel", cw_tb, hts, cw_in_X12, rfl, by decide, Or.inl (hts _ tw_1306), (fun _ h => h)⟩, (List.forall_mem_cons.mpr ⟨⟨RX12, TX12, 68, "ReasonDeskModel", cw_tb, hts, cw_in_X12, rfl, by decide, Or.inl (hts _ tw_1308), (fun _ h => h)⟩, (List.forall_mem_cons.mpr ⟨⟨RX12, TX12, 68, "ReasonDeskModel", cw_tb, hts, cw_in_X12, rfl, by decide, Or.inl (hts _ tw_1311), (fun _ h => h)⟩, (List.forall_mem_cons.mpr ⟨⟨RX12, TX12, 68, "ReasonDeskModel", cw_tb, hts, cw_in_X12, rfl, by decide, Or.inl (hts _ tw_1318), (fun _ h => h)⟩, (List.forall_mem_cons.mpr ⟨⟨RX12, TX12, 68, "ReasonDeskModel", cw_tb, hts, cw_in_X12, rfl, by decide, Or.inl (hts _ tw_1319), (fun _ h => h)⟩, (List.forall_mem_cons.mpr ⟨⟨RX12, TX12, 68, "ReasonDeskModel", cw_tb, hts, cw_in_X12, rfl, by decide, Or.inl (hts _ tw_1320), (fun _ h => h)⟩, (List.forall_mem_cons.mpr ⟨⟨RX12, TX12, 68, "ReasonDeskModel", cw_tb, hts, cw_in_X12, rfl, by decide, Or.inl (hts _ tw_1322), (fun _ h => h)⟩, (List.forall_mem_cons.mpr ⟨⟨RX12, TX12, 68, "ReasonDeskModel", cw_tb, hts, cw_in_X12, rfl, by decide, Or.inl (hts _ tw_1327), (fun _ h => h)⟩, (List.forall_mem_cons.mpr ⟨⟨RX12, TX12, 68, "ReasonDeskModel", cw_tb, hts, cw_in_X12, rfl, by decide, Or.inl (hts _ tw_1334), (fun _ h => h)⟩, (fun _ h => absurd h List.not_mem_nil)⟩)⟩)⟩)⟩)⟩)⟩)⟩)⟩)⟩)⟩)⟩)⟩)⟩)⟩)⟩)⟩)⟩)⟩)⟩)⟩)⟩)⟩)⟩)⟩)⟩)⟩)⟩)⟩)⟩)⟩)⟩)⟩)⟩)⟩)⟩)⟩)⟩)⟩)⟩)⟩)⟩)⟩)⟩)⟩)⟩)⟩)⟩)⟩)⟩)⟩)⟩)⟩)⟩)⟩)⟩)⟩)⟩)⟩)⟩)⟩)⟩)⟩)⟩)⟩)⟩)⟩)⟩)⟩)
theorem ppl_X12 {s : State} {args : Array Value} (hts : ∀ w ∈ cw_tb, w.before args s = true) {P : Prop} : ∀ x ∈ pl_X12, ck_hp s args RX12 cw_cls P x :=
  (List.forall_mem_cons.mpr ⟨⟨RX12, TX12, 68, "ReasonDeskModel", cw_tb, tyX12, hts, cw_in_X12, tyX12_ok, nmX12, rfl, by decide, Or.inl ⟨hts _ tw_1287, Or.inl rfl⟩, (fun _ h => h), rfl⟩, (List.forall_mem_cons.mpr ⟨⟨RX12, TX12, 68, "ReasonDeskModel", cw_tb, tyX12, hts, cw_in_X12, tyX12_ok, nmX12, rfl, by decide, Or.inl ⟨hts _ tw_1271, Or.inl rfl⟩, (fun _ h => h), rfl⟩, (List.forall_mem_cons.mpr ⟨⟨RX12, TX12, 68, "ReasonDeskModel", cw_tb, tyX12, hts, cw_in_X12, tyX12_ok, nmX12, rfl, by decide, Or.inl ⟨hts _ tw_1272, Or.inl rfl⟩, (fun _ h => h), rfl⟩, (List.forall_mem_cons.mpr ⟨⟨RX12, TX12, 68, "ReasonDeskModel", cw_tb, tyX12, hts, cw_in_X12, tyX12_ok, nmX12, rfl, by decide, Or.inl ⟨hts _ tw_1276, Or.inl rfl⟩, (fun _ h => h), rfl⟩, (List.forall_mem_cons.mpr ⟨⟨RX12, TX12, 68, "ReasonDeskModel", cw_tb, tyX12, hts, cw_in_X12, tyX12_ok, nmX12, rfl, by decide, Or.inl ⟨hts _ tw_1278, Or.inl rfl⟩, (fun _ h => h), rfl⟩, (List.forall_mem_cons.mpr ⟨⟨RX12, TX12, 68, "ReasonDeskModel", cw_tb, tyX12, hts, cw_in_X12, tyX12_ok, nmX12, rfl, by decide, Or.inl ⟨hts _ tw_1314, Or.inl rfl⟩, (fun _ h => h), rfl⟩, (List.forall_mem_cons.mpr ⟨⟨RX12, TX12, 68, "ReasonDeskModel", cw_tb, tyX12, hts, cw_in_X12, tyX12_ok, nmX12, rfl, by decide, Or.inl ⟨hts _ tw_1290, Or.inl rfl⟩, (fun _ h => h), rfl⟩, (List.forall_mem_cons.mpr ⟨⟨RX12, TX12, 68, "ReasonDeskModel", cw_tb, tyX12, hts, cw_in_X12, tyX12_ok, nmX12, rfl, by decide, Or.inl ⟨hts _ tw_1304, Or.inl rfl⟩, (fun _ h => h), rfl⟩, (List.forall_mem_cons.mpr ⟨⟨RX12, TX12, 68, "ReasonDeskModel", cw_tb, tyX12, hts, cw_in_X12, tyX12_ok, nmX12, rfl, by decide, Or.inl ⟨hts _ tw_1326, Or.inl rfl⟩, (fun _ h => h), rfl⟩, (List.forall_mem_cons.mpr ⟨⟨RX12, TX12, 68, "ReasonDeskModel", cw_tb, tyX12, hts, cw_in_X12, tyX12_ok, nmX12, rfl, by decide, Or.inl ⟨hts _ tw_1279, Or.inl rfl⟩, (fun _ h => h), rfl⟩, (List.forall_mem_cons.mpr ⟨⟨RX12, TX12, 68, "ReasonDeskModel", cw_tb, tyX12, hts, cw_in_X12, tyX12_ok, nmX12, rfl, by decide, Or.inl ⟨hts _ tw_1288, Or.inl rfl⟩, (fun _ h => h), rfl⟩, (List.forall_mem_cons.mpr ⟨⟨RX12, TX12, 68, "ReasonDeskModel", cw_tb, tyX12, hts, cw_in_X12, tyX12_ok, nmX12, rfl, by decide, Or.inl ⟨hts _ tw_1286, Or.inl rfl⟩, (fun _ h => h), rfl⟩, (List.forall_mem_cons.mpr ⟨⟨RX12, TX12, 68, "ReasonDeskModel", cw_tb, tyX12, hts, cw_in_X12, tyX12_ok, nmX12, rfl, by decide, Or.inl ⟨hts _ tw_1291, Or.inl rfl⟩, (fun _ h => h), rfl⟩, (List.forall_mem_cons.mpr ⟨⟨RX12, TX12, 68, "ReasonDeskModel", cw_tb, tyX12, hts, cw_in_X12, tyX12_ok, nmX12, rfl, by decide, Or.inl ⟨hts _ tw_1292, Or.inl rfl⟩, (fun _ h => h), rfl⟩, (List.forall_mem_cons.mpr ⟨⟨RX12, TX12, 68, "ReasonDeskModel", cw_tb, tyX12, hts, cw_in_X12, tyX12_ok, nmX12, rfl, by decide, Or.inl ⟨hts _ tw_1294, Or.inl rfl⟩, (fun _ h => h), rfl⟩, (List.forall_mem_cons.mpr ⟨⟨RX12, TX12, 68, "ReasonDeskModel", cw_tb, tyX12, hts, cw_in_X12, tyX12_ok, nmX12, rfl, by decide, Or.inl ⟨hts _ tw_1296, Or.inl rfl⟩, (fun _ h => h), rfl⟩, (List.forall_mem_cons.mpr ⟨⟨RX12, TX12, 68, "ReasonDeskModel", cw_tb, tyX12, hts, cw_in_X12, tyX12_ok, nmX12, rfl, by decide, Or.inl ⟨hts _ tw_1297, Or.inl rfl⟩, (fun _ h => h), rfl⟩, (List.forall_mem_cons.mpr ⟨⟨RX12, TX12, 68, "ReasonDeskModel", cw_tb, tyX12, hts, cw_in_X12, tyX12_ok, nmX12, rfl, by decide, Or.inl ⟨hts _ tw_1298, Or.inl rfl⟩, (fun _ h => h), rfl⟩, (List.forall_mem_cons.mpr ⟨⟨RX12, TX12, 68, "ReasonDeskModel", cw_tb, tyX12, hts, cw_in_X12, tyX12_ok, nmX12, rfl, by decide, Or.inl ⟨hts _ tw_1306, Or.inl rfl⟩, (fun _ h => h), rfl⟩, (List.forall_mem_cons.mpr ⟨⟨RX12, TX12, 68, "ReasonDeskModel", cw_tb, tyX12, hts, cw_in_X12, tyX12_ok, nmX12, rfl, by decide, Or.inl ⟨hts _ tw_1308, Or.inl rfl⟩, (fun _ h => h), rfl⟩, (List.forall_mem_cons.mpr ⟨⟨RX12, TX12, 68, "ReasonDeskModel", cw_tb, tyX12, hts, cw_in_X12, tyX12_ok, nmX12, rfl, by decide, Or.inl ⟨hts _ tw_1311, Or.inl rfl⟩, (fun _ h => h), rfl⟩, (List.forall_mem_cons.mpr ⟨⟨RX12, TX12, 68, "ReasonDeskModel", cw_tb, tyX12, hts, cw_in_X12, tyX12_ok, nmX12, rfl, by decide, Or.inl ⟨hts _ tw_1318, Or.inl rfl⟩, (fun _ h => h), rfl⟩, (List.forall_mem_cons.mpr ⟨⟨RX12, TX12, 68, "ReasonDeskModel", cw_tb, tyX12, hts, cw_in_X12, tyX12_ok, nmX12, rfl, by decide, Or.inl ⟨hts _ tw_1319, Or.inl rfl⟩, (fun _ h => h), rfl⟩, (List.forall_mem_cons.mpr ⟨⟨RX12, TX12, 68, "ReasonDeskModel", cw_tb, tyX12, hts, cw_in_X12, tyX12_ok, nmX12, rfl, by decide, Or.inl ⟨hts _ tw_1320, Or.inl rfl⟩, (fun _ h => h), rfl⟩, (List.forall_mem_cons.mpr ⟨⟨RX12, TX12, 68, "ReasonDeskModel", cw_tb, tyX12, hts, cw_in_X12, tyX12_ok, nmX12, rfl, by decide, Or.inl ⟨hts _ tw_1322, Or.inl rfl⟩, (fun _ h => h), rfl⟩, (List.forall_mem_cons.mpr ⟨⟨RX12, TX12, 68, "ReasonDeskModel", cw_tb, tyX12, hts, cw_in_X12, tyX12_ok, nmX12, rfl, by decide, Or.inl ⟨hts _ tw_1327, Or.inl rfl⟩, (fun _ h => h), rfl⟩, (List.forall_mem_cons.mpr ⟨⟨RX12, TX12, 68, "ReasonDeskModel", cw_tb, tyX12, hts, cw_in_X12, tyX12_ok, nmX12, rfl, by decide, Or.inl ⟨hts _ tw_1334, Or.inl rfl⟩, (fun _ h => h), rfl⟩, (fun _ h => absurd h List.not_mem_nil)⟩)⟩)⟩)⟩)⟩)⟩)⟩)⟩)⟩)⟩)⟩)⟩)⟩)⟩)⟩)⟩)⟩)⟩)⟩)⟩)⟩)⟩)⟩)⟩)⟩)⟩)⟩)
theorem ppI_X12 {s : State} {args : Array Value} (hts : ∀ w ∈ cw_tb, w.before args s = true) {P : Prop} (hin : P) : ∀ x ∈ pI_X12, ck_hp s args RX12 cw_cls P x :=
  (List.forall_mem_cons.mpr ⟨⟨RX12, TX12, 68, "ReasonDeskModel", cw_tb, tyX12, hts, cw_in_X12, tyX12_ok, nmX12, rfl, by decide, Or.inl ⟨hts _ tw_1273, Or.inr ⟨rfl, hin, rfl⟩⟩, (fun _ h => h), Or.inr ⟨_, rfl⟩⟩, (List.forall_mem_cons.mpr ⟨⟨RX12, TX12, 68, "ReasonDeskModel", cw_tb, tyX12, hts, cw_in_X12, tyX12_ok, nmX12, rfl, by decide, Or.inl ⟨hts _ tw_1274, Or.inr ⟨rfl, hin, rfl⟩⟩, (fun _ h => h), Or.inr ⟨_, rfl⟩⟩, (List.forall_mem_cons.mpr ⟨⟨RX12, TX12, 68, "ReasonDeskModel", cw_tb, tyX12, hts, cw_in_X12, tyX12_ok, nmX12, rfl, by decide, Or.inl ⟨hts _ tw_1275, Or.inr ⟨rfl, hin, rfl⟩⟩, (fun _ h => h), Or.inr ⟨_, rfl⟩⟩, (List.forall_mem_cons.mpr ⟨⟨RX12, TX12, 68, "ReasonDeskModel", cw_tb, tyX12, hts, cw_in_X12, tyX12_ok, nmX12, rfl, by decide, Or.inl ⟨hts _ tw_1277, Or.inr ⟨rfl, hin, rfl⟩⟩, (fun _ h => h), Or.inr ⟨_, rfl⟩⟩, (List.forall_mem_cons.mpr ⟨⟨RX12, TX12, 68, "ReasonDeskModel", cw_tb, tyX12, hts, cw_in_X12, tyX12_ok, nmX12, rfl, by decide, Or.inl ⟨hts _ tw_1280, Or.inr ⟨rfl, hin, rfl⟩⟩, (fun _ h => h), Or.inr ⟨_, rfl⟩⟩, (List.forall_mem_cons.mpr ⟨⟨RX12, TX12, 68, "ReasonDeskModel", cw_tb, tyX12, hts, cw_in_X12, tyX12_ok, nmX12, rfl, by decide, Or.inl ⟨hts _ tw_1281, Or.inr ⟨rfl, hin, rfl⟩⟩, (fun _ h => h), Or.inr ⟨_, rfl⟩⟩, (List.forall_mem_cons.mpr ⟨⟨RX12, TX12, 68, "ReasonDeskModel", cw_tb, tyX12, hts, cw_in_X12, tyX12_ok, nmX12, rfl, by decide, Or.inl ⟨hts _ tw_1282, Or.inr ⟨rfl, hin, rfl⟩⟩, (fun _ h => h), Or.inr ⟨_, rfl⟩⟩, (List.forall_mem_cons.mpr ⟨⟨RX12, TX12, 68, "ReasonDeskModel", cw_tb, tyX12, hts, cw_in_X12, tyX12_ok, nmX12, rfl, by decide, Or.inl ⟨hts _ tw_1283, Or.inr ⟨rfl, hin, rfl⟩⟩, (fun _ h => h), Or.inr ⟨_, rfl⟩⟩, (List.forall_mem_cons.mpr ⟨⟨RX12, TX12, 68, "ReasonDeskModel", cw_tb, tyX12, hts, cw_in_X12, tyX12_ok, nmX12, rfl, by decide, Or.inl ⟨hts _ tw_1284, Or.inr ⟨rfl, hin, rfl⟩⟩, (fun _ h => h), Or.inr ⟨_, rfl⟩⟩, (List.forall_mem_cons.mpr ⟨⟨RX12, TX12, 68, "ReasonDeskModel", cw_tb, tyX12, hts, cw_in_X12, tyX12_ok, nmX12, rfl, by decide, Or.inl ⟨hts _ tw_1285, Or.inr ⟨rfl, hin, rfl⟩⟩, (fun _ h => h), Or.inr ⟨_, rfl⟩⟩, (List.forall_mem_cons.mpr ⟨⟨RX12, TX12, 68, "ReasonDeskModel", cw_tb, tyX12, hts, cw_in_X12, tyX12_ok, nmX12, rfl, by decide, Or.inl ⟨hts _ tw_1289, Or.inr ⟨rfl, hin, rfl⟩⟩, (fun _ h => h), Or.inr ⟨_, rfl⟩⟩, (List.forall_mem_cons.mpr ⟨⟨RX12, TX12, 68, "ReasonDeskModel", cw_tb, tyX12, hts, cw_in_X12, tyX12_ok, nmX12, rfl, by decide, Or.inl ⟨hts _ tw_1293, Or.inr ⟨rfl, hin, rfl⟩⟩, (fun _ h => h), Or.inr ⟨_, rfl⟩⟩, (List.forall_mem_cons.mpr ⟨⟨RX12, TX12, 68, "ReasonDeskModel", cw_tb, tyX12, hts, cw_in_X12, tyX12_ok, nmX12, rfl, by decide, Or.inl ⟨hts _ tw_1295, Or.inr ⟨rfl, hin, rfl⟩⟩, (fun _ h => h), Or.inr ⟨_, rfl⟩⟩, (List.forall_mem_cons.mpr ⟨⟨RX12, TX12, 68, "ReasonDeskModel", cw_tb, tyX12, hts, cw_in_X12, tyX12_ok, nmX12, rfl, by decide, Or.inl ⟨hts _ tw_1299, Or.inr ⟨rfl, hin, rfl⟩⟩, (fun _ h => h), Or.inr ⟨_, rfl⟩⟩, (List.forall_mem_cons.mpr ⟨⟨RX12, TX12, 68, "ReasonDeskModel", cw_tb, tyX12, hts, cw_in_X12, tyX12_ok, nmX12, rfl, by decide, Or.inl ⟨hts _ tw_1300, Or.inr ⟨rfl, hin, rfl⟩⟩, (fun _ h => h), Or.inr ⟨_, rfl⟩⟩, (List.forall_mem_cons.mpr ⟨⟨RX12, TX12, 68, "ReasonDeskModel", cw_tb, tyX12, hts, cw_in_X12, tyX12_ok, nmX12, rfl, by decide, Or.inl ⟨hts _ tw_1301, Or.inr ⟨rfl, hin, rfl⟩⟩, (fun _ h => h), Or.inr ⟨_, rfl⟩⟩, (List.forall_mem_cons.mpr ⟨⟨RX12, TX12, 68, "ReasonDeskModel", cw_tb, tyX12, hts, cw_in_X12, tyX12_ok, nmX12, rfl, by decide, Or.inl ⟨hts _ tw_1302, Or.inr ⟨rfl, hin, rfl⟩⟩, (fun _ h => h), Or.inr ⟨_, rfl⟩⟩, (List.forall_mem_cons.mpr ⟨⟨RX12, TX12, 68, "ReasonDeskModel", cw_tb, tyX12, hts, cw_in_X12, tyX12_ok, nmX12, rfl, by decide, Or.inl ⟨hts _ tw_1303, Or.inr ⟨rfl, hin, rfl⟩⟩, (fun _ h => h), Or.inr ⟨_, rfl⟩⟩, (List.forall_mem_cons.mpr ⟨⟨RX12, TX12, 68, "ReasonDeskModel", cw_tb, tyX12, hts, cw_in_X12, tyX12_ok, nmX12, rfl, by decide, Or.inl ⟨hts _ tw_1305, Or.inr ⟨rfl, hin, rfl⟩⟩, (fun _ h => h), Or.inr ⟨_, rfl⟩⟩, (List.forall_mem_cons.mpr ⟨⟨RX12, TX12, 68, "ReasonDeskModel", cw_tb, tyX12, hts, cw_in_X12, tyX12_ok, nmX12, rfl, by decide, Or.inl ⟨hts _ tw_1307, Or.inr ⟨rfl, hin, rfl⟩⟩, (fun _ h => h), Or.inr ⟨_, rfl⟩⟩, (List.forall_mem_cons.mpr ⟨⟨RX12, TX12, 68, "ReasonDeskModel", cw_tb, tyX12, hts, cw_in_X12, tyX12_ok, nmX12, rfl, by decide, Or.inl ⟨hts _ tw_1309, Or.inr ⟨rfl, hin, rfl⟩⟩, (fun _ h => h), Or.inr ⟨_, rfl⟩⟩, (List.forall_mem_cons.mpr ⟨⟨RX12, TX12, 68, "ReasonDeskModel", cw_tb, tyX12, hts, cw_in_X12, tyX12_ok, nmX12, rfl, by decide, Or.inl ⟨hts _ tw_1310, Or.inr ⟨rfl, hin, rfl⟩⟩, (fun _ h => h), Or.inr ⟨_, rfl⟩⟩, (List.forall_mem_cons.mpr ⟨⟨RX12, TX12, 68, "ReasonDeskModel", cw_tb, tyX12, hts, cw_in_X12, tyX12_ok, nmX12, rfl, by decide, Or.inl ⟨hts _ tw_1312, Or.inr ⟨rfl, hin, rfl⟩⟩, (fun _ h => h), Or.inr ⟨_, rfl⟩⟩, (List.forall_mem_cons.mpr ⟨⟨RX12, TX12, 68, "ReasonDeskModel", cw_tb, tyX12, hts, cw_in_X12, tyX12_ok, nmX12, rfl, by decide, Or.inl ⟨hts _ tw_1313, Or.inr ⟨rfl, hin, rfl⟩⟩, (fun _ h => h), Or.inr ⟨_, rfl⟩⟩, (List.forall_mem_cons.mpr ⟨⟨RX12, TX12, 68, "ReasonDeskModel", cw_tb, tyX12, hts, cw_in_X12, tyX12_ok, nmX12, rfl, by decide, Or.inl ⟨hts _ tw_1315, Or.inr ⟨rfl, hin, rfl⟩⟩, (fun _ h => h), Or.inr ⟨_, rfl⟩⟩, (List.forall_mem_cons.mpr ⟨⟨RX12, TX12, 68, "ReasonDeskModel", cw_tb, tyX12, hts, cw_in_X12, tyX12_ok, nmX12, rfl, by decide, Or.inl ⟨hts _ tw_1316, Or.inr ⟨rfl, hin, rfl⟩⟩, (fun _ h => h), Or.inr ⟨_, rfl⟩⟩, (List.forall_mem_cons.mpr ⟨⟨RX12, TX12, 68, "ReasonDeskModel", cw_tb, tyX12, hts, cw_in_X12, tyX12_ok, nmX12, rfl, by decide, Or.inl ⟨hts _ tw_1317, Or.inr ⟨rfl, hin, rfl⟩⟩, (fun _ h => h), Or.inr ⟨_, rfl⟩⟩, (List.forall_mem_cons.mpr ⟨⟨RX12, TX12, 68, "ReasonDeskModel", cw_tb, tyX12, hts, cw_in_X12, tyX12_ok, nmX12, rfl, by decide, Or.inl ⟨hts _ tw_1321, Or.inr ⟨rfl, hin, rfl⟩⟩, (fun _ h => h), Or.inr ⟨_, rfl⟩⟩, (List.forall_mem_cons.mpr ⟨⟨RX12, TX12, 68, "ReasonDeskModel", cw_tb, tyX12, hts, cw_in_X12, tyX12_ok, nmX12, rfl, by decide, Or.inl ⟨hts _ tw_1323, Or.inr ⟨rfl, hin, rfl⟩⟩, (fun _ h => h), Or.inr ⟨_, rfl⟩⟩, (List.forall_mem_cons.mpr ⟨⟨RX12, TX12, 68, "ReasonDeskModel", cw_tb, tyX12, hts, cw_in_X12, tyX12_ok, nmX12, rfl, by decide, Or.inl ⟨hts _ tw_1324, Or.inr ⟨rfl, hin, rfl⟩⟩, (fun _ h => h), Or.inr ⟨_, rfl⟩⟩, (List.forall_mem_cons.mpr ⟨⟨RX12, TX12, 68, "ReasonDeskModel", cw_tb, tyX12, hts, cw_in_X12, tyX12_ok, nmX12, rfl, by decide, Or.inl ⟨hts _ tw_1325, Or.inr ⟨rfl, hin, rfl⟩⟩, (fun _ h => h), Or.inr ⟨_, rfl⟩⟩, (List.forall_mem_cons.mpr ⟨⟨RX12, TX12, 68, "ReasonDeskModel", cw_tb, tyX12, hts, cw_in_X12, tyX12_ok, nmX12, rfl, by decide, Or.inl ⟨hts _ tw_1328, Or.inr ⟨rfl, hin, rfl⟩⟩, (fun _ h => h), Or.inr ⟨_, rfl⟩⟩, (List.forall_mem_cons.mpr ⟨⟨RX12, TX12, 68, "ReasonDeskModel", cw_tb, tyX12, hts, cw_in_X12, tyX12_ok, nmX12, rfl, by decide, Or.inl ⟨hts _ tw_1329, Or.inr ⟨rfl, hin, rfl⟩⟩, (fun _ h => h), Or.inr ⟨_, rfl⟩⟩, (List.forall_mem_cons.mpr ⟨⟨RX12, TX12, 68, "ReasonDeskModel", cw_tb, tyX12, hts, cw_in_X12, tyX12_ok, nmX12, rfl, by decide, Or.inl ⟨hts _ tw_1330, Or.inr ⟨rfl, hin, rfl⟩⟩, (fun _ h => h), Or.inr ⟨_, rfl⟩⟩, (List.forall_mem_cons.mpr ⟨⟨RX12, TX12, 68, "ReasonDeskModel", cw_tb, tyX12, hts, cw_in_X12, tyX12_ok, nmX12, rfl, by decide, Or.inl ⟨hts _ tw_1331, Or.inr ⟨rfl, hin, rfl⟩⟩, (fun _ h => h), Or.inr ⟨_, rfl⟩⟩, (List.forall_mem_cons.mpr ⟨⟨RX12, TX12, 68, "ReasonDeskModel", cw_tb, tyX12, hts, cw_in_X12, tyX12_ok, nmX12, rfl, by decide, Or.inl ⟨hts _ tw_1332, Or.inr ⟨rfl, hin, rfl⟩⟩, (fun _ h => h), Or.inr ⟨_, rfl⟩⟩, (List.forall_mem_cons.mpr ⟨⟨RX12, TX12, 68, "ReasonDeskModel", cw_tb, tyX12, hts, cw_in_X12, tyX12_ok, nmX12, rfl, by decide, Or.inl ⟨hts _ tw_1333, Or.inr ⟨rfl, hin, rfl⟩⟩, (fun _ h => h), Or.inr ⟨_, rfl⟩⟩, (List.forall_mem_cons.mpr ⟨⟨RX12, TX12, 68, "ReasonDeskModel", cw_tb, tyX12, hts, cw_in_X12, tyX12_ok, nmX12, rfl, by decide, Or.inl ⟨hts _ tw_1335, Or.inr ⟨rfl, hin, rfl⟩⟩, (fun _ h => h), Or.inr ⟨_, rfl⟩⟩, (List.forall_mem_cons.mpr ⟨⟨RX12, TX12, 68, "ReasonDeskModel", cw_tb, tyX12, hts, cw_in_X12, tyX12_ok, nmX12, rfl, by decide, Or.inl ⟨hts _ tw_1336, Or.inr ⟨rfl, hin, rfl⟩⟩, (fun _ h => h), Or.inr ⟨_, rfl⟩⟩, (List.forall_mem_cons.mpr ⟨⟨RX12, TX12, 68, "ReasonDeskModel", cw_tb, tyX12, hts, cw_in_X12, tyX12_ok, nmX12, rfl, by decide, Or.inl ⟨hts _ tw_1337, Or.inr ⟨rfl, hin, rfl⟩⟩, (fun _ h => h), Or.inr ⟨_, rfl⟩⟩, (List.forall_mem_cons.mpr ⟨⟨RX12, TX12, 68, "ReasonDeskModel", cw_tb, tyX12, hts, cw_in_X12, tyX12_ok, nmX12, rfl, by decide, Or.inl ⟨hts _ tw_1338, Or.inr ⟨rfl, hin, rfl⟩⟩, (fun _ h => h), Or.inr ⟨_, rfl⟩⟩, (List.forall_mem_cons.mpr ⟨⟨RX12, TX12, 68, "ReasonDeskModel", cw_tb, tyX12, hts, cw_in_X12, tyX12_ok, nmX12, rfl, by decide, Or.inl ⟨hts _ tw_1287, Or.inl rfl⟩, (fun _ h => h), rfl⟩, (List.forall_mem_cons.mpr ⟨⟨RX12, TX12, 68, "ReasonDeskModel", cw_tb, tyX12, hts, cw_in_X12, tyX12_ok, nmX12, rfl, by decide, Or.inl ⟨hts _ tw_1271, Or.inl rfl⟩, (fun _ h => h), rfl⟩, (List.forall_mem_cons.mpr ⟨⟨RX12, TX12, 68, "ReasonDeskModel", cw_tb, tyX12, hts, cw_in_X12, tyX12_ok, nmX12, rfl, by decide, Or.inl ⟨hts _ tw_1272, Or.inl rfl⟩, (fun _ h => h), rfl⟩, (List.forall_mem_cons.mpr ⟨⟨RX12, TX12, 68, "ReasonDeskModel", cw_tb, tyX12, hts, cw_in_X12, tyX12_ok, nmX12, rfl, by decide, Or.inl ⟨hts _ tw_1276, Or.inl rfl⟩, (fun _ h => h), rfl⟩, (List.forall_mem_cons.mpr ⟨⟨RX12, TX12, 68, "ReasonDeskModel", cw_tb, tyX12, hts, cw_in_X12, tyX12_ok, nmX12, rfl, by decide, Or.inl ⟨hts _ tw_1278, Or.inl rfl⟩, (fun _ h => h), rfl⟩, (List.forall_mem_cons.mpr ⟨⟨RX12, TX12, 68, "ReasonDeskModel", cw_tb, tyX12, hts, cw_in_X12, tyX12_ok, nmX12, rfl, by decide, Or.inl ⟨hts _ tw_1314, Or.inl rfl⟩, (fun _ h => h), rfl⟩, (List.forall_mem_cons.mpr ⟨⟨RX12, TX12, 68, "ReasonDeskModel", cw_tb, tyX12, hts, cw_in_X12, tyX12_ok, nmX12, rfl, by decide, Or.inl ⟨hts _ tw_1290, Or.inl rfl⟩, (fun _ h => h), rfl⟩, (List.forall_mem_cons.mpr ⟨⟨RX12, TX12, 68, "ReasonDeskModel", cw_tb, tyX12, hts, cw_in_X12, tyX12_ok, nmX12, rfl, by decide, Or.inl ⟨hts _ tw_1304, Or.inl rfl⟩, (fun _ h => h), rfl⟩, (List.forall_mem_cons.mpr ⟨⟨RX12, TX12, 68, "ReasonDeskModel", cw_tb, tyX12, hts, cw_in_X12, tyX12_ok, nmX12, rfl, by decide, Or.inl ⟨hts _ tw_1326, Or.inl rfl⟩, (fun _ h => h), rfl⟩, (List.forall_mem_cons.mpr ⟨⟨RX12, TX12, 68, "ReasonDeskModel", cw_tb, tyX12, hts, cw_in_X12, tyX12_ok, nmX12, rfl, by decide, Or.inl ⟨hts _ tw_1279, Or.inl rfl⟩, (fun _ h => h), rfl⟩, (List.forall_mem_cons.mpr ⟨⟨RX12, TX12, 68, "ReasonDeskModel", cw_tb, tyX12, hts, cw_in_X12, tyX12_ok, nmX12, rfl, by decide, Or.inl ⟨hts _ tw_1288, Or.inl rfl⟩, (fun _ h => h), rfl⟩, (List.forall_mem_cons.mpr ⟨⟨RX12, TX12, 68, "ReasonDeskModel", cw_tb, tyX12, hts, cw_in_X12, tyX12_ok, nmX12, rfl, by decide, Or.inl ⟨hts _ tw_1286, Or.inl rfl⟩, (fun _ h => h), rfl⟩, (List.forall_mem_cons.mpr ⟨⟨RX12, TX12, 68, "ReasonDeskModel", cw_tb, tyX12, hts, cw_in_X12, tyX12_ok, nmX12, rfl, by decide, Or.inl ⟨hts _ tw_1291, Or.inl rfl⟩, (fun _ h => h), rfl⟩, (List.forall_mem_cons.mpr ⟨⟨RX12, TX12, 68, "ReasonDeskModel", cw_tb, tyX12, hts, cw_in_X12, tyX12_ok, nmX12, rfl, by decide, Or.inl ⟨hts _ tw_1292, Or.inl rfl⟩, (fun _ h => h), rfl⟩, (List.forall_mem_cons.mpr ⟨⟨RX12, TX12, 68, "ReasonDeskModel", cw_tb, tyX12, hts, cw_in_X12, tyX12_ok, nmX12, rfl, by decide, Or.inl ⟨hts _ tw_1294, Or.inl rfl⟩, (fun _ h => h), rfl⟩, (List.forall_mem_cons.mpr ⟨⟨RX12, TX12, 68, "ReasonDeskModel", cw_tb, tyX12, hts, cw_in_X12, tyX12_ok, nmX12, rfl, by decide, Or.inl ⟨hts _ tw_1296, Or.inl rfl⟩, (fun _ h => h), rfl⟩, (List.forall_mem_cons.mpr ⟨⟨RX12, TX12, 68, "ReasonDeskModel", cw_tb, tyX12, hts, cw_in_X12, tyX12_ok, nmX12, rfl, by decide, Or.inl ⟨hts _ tw_1297, Or.inl rfl⟩, (fun _ h => h), rfl⟩, (List.forall_mem_cons.mpr ⟨⟨RX12, TX12, 68, "ReasonDeskModel", cw_tb, tyX12, hts, cw_in_X12, tyX12_ok, nmX12, rfl, by decide, Or.inl ⟨hts _ tw_1298, Or.inl rfl⟩, (fun _ h => h), rfl⟩, (List.forall_mem_cons.mpr ⟨⟨RX12, TX12, 68, "ReasonDeskModel", cw_tb, tyX12, hts, cw_in_X12, tyX12_ok, nmX12, rfl, by decide, Or.inl ⟨hts _ tw_1306, Or.inl rfl⟩, (fun _ h => h), rfl⟩, (List.forall_mem_cons.mpr ⟨⟨RX12, TX12, 68, "ReasonDeskModel", cw_tb, tyX12, hts, cw_in_X12, tyX12_ok, nmX12, rfl, by decide, Or.inl ⟨hts _ tw_1308, Or.inl rfl⟩, (fun _ h => h), rfl⟩, (List.forall_mem_cons.mpr ⟨⟨RX12, TX12, 68, "ReasonDeskModel", cw_tb, tyX12, hts, cw_in_X12, tyX12_ok, nmX12, rfl, by decide, Or.inl ⟨hts _ tw_1311, Or.inl rfl⟩, (fun _ h => h), rfl⟩, (List.forall_mem_cons.mpr ⟨⟨RX12, TX12, 68, "ReasonDeskModel", cw_tb, tyX12, hts, cw_in_X12, tyX12_ok, nmX12, rfl, by decide, Or.inl ⟨hts _ tw_1318, Or.inl rfl⟩, (fun _ h => h), rfl⟩, (List.forall_mem_cons.mpr ⟨⟨RX12, TX12, 68, "ReasonDeskModel", cw_tb, tyX12, hts, cw_in_X12, tyX12_ok, nmX12, rfl, by decide, Or.inl ⟨hts _ tw_1319, Or.inl rfl⟩, (fun _ h => h), rfl⟩, (List.forall_mem_cons.mpr ⟨⟨RX12, TX12, 68, "ReasonDeskModel", cw_tb, tyX12, hts, cw_in_X12, tyX12_ok, nmX12, rfl, by decide, Or.inl ⟨hts _ tw_1320, Or.inl rfl⟩, (fun _ h => h), rfl⟩, (List.forall_mem_cons.mpr ⟨⟨RX12, TX12, 68, "ReasonDeskModel", cw_tb, tyX12, hts, cw_in_X12, tyX12_ok, nmX12, rfl, by decide, Or.inl ⟨hts _ tw_1322, Or.inl rfl⟩, (fun _ h => h), rfl⟩, (List.forall_mem_cons.mpr ⟨⟨RX12, TX12, 68, "ReasonDeskModel", cw_tb, tyX12, hts, cw_in_X12, tyX12_ok, nmX12, rfl, by decide, Or.inl ⟨hts _ tw_1327, Or.inl rfl⟩, (fun _ h => h), rfl⟩, (List.forall_mem_cons.mpr ⟨⟨RX12, TX12, 68, "ReasonDeskModel", cw_tb, tyX12, hts, cw_in_X12, tyX12_ok, nmX12, rfl, by decide, Or.inl ⟨hts _ tw_1334, Or.inl rfl⟩, (fun _ h => h), rfl⟩, (fun _ h => absurd h List.not_mem_nil)⟩)⟩)⟩)⟩)⟩)⟩)⟩)⟩)⟩)⟩)⟩)⟩)⟩)⟩)⟩)⟩)⟩)⟩)⟩)⟩)⟩)⟩)⟩)⟩)⟩)⟩)⟩)⟩)⟩)⟩)⟩)⟩)⟩)⟩)⟩)⟩)⟩)⟩)⟩)⟩)⟩)⟩)⟩)⟩)⟩)⟩)⟩)⟩)⟩)⟩)⟩)⟩)⟩)⟩)⟩)⟩)⟩)⟩)⟩)⟩)⟩)⟩)⟩)⟩)⟩)⟩)⟩)⟩)
theorem pnw_X12 {s : State} {args : Array Value} (hts : ∀ w ∈ cw_tb, w.before args s = true) : ∀ x ∈ nw_X12, ck_hn s args RX12 cw_cls cw_TT x :=
  (fun _ h => absurd h List.not_mem_nil)
theorem pkl_X12 {s : State} {args : Array Value} (hts : ∀ w ∈ cw_tb, w.before args s = true) : ∀ x ∈ kl_X12, ck_hk s args RX12 x :=
  (List.forall_mem_cons.mpr ⟨⟨fun _ => ⟨(49152), by decide, hts _ tw_1270⟩, (fun z => by cases z)⟩, (List.forall_mem_cons.mpr ⟨⟨(fun z => by cases z), fun _ => ⟨(-9223372036854775808), by decide, hts _ tw_1967⟩⟩, (List.forall_mem_cons.mpr ⟨⟨(fun z => by cases z), fun _ => ⟨(5), by decide, hts _ tw_1585⟩⟩, (List.forall_mem_cons.mpr ⟨⟨(fun z => by cases z), fun _ => ⟨(-1), by decide, hts _ tw_1521⟩⟩, (List.forall_mem_cons.mpr ⟨⟨(fun z => by cases z), fun _ => ⟨(97), by decide, hts _ tw_1504⟩⟩, (List.forall_mem_cons.mpr ⟨⟨(fun z => by cases z), fun _ => ⟨(104), by decide, hts _ tw_1505⟩⟩, (List.forall_mem_cons.mpr ⟨⟨(fun z => by cases z), fun _ => ⟨(2), by decide, hts _ tw_1492⟩⟩, (List.forall_mem_cons.mpr ⟨⟨(fun z => by cases z), fun _ => ⟨(4), by decide, hts _ tw_1545⟩⟩, (List.forall_mem_cons.mpr ⟨⟨(fun z => by cases z), fun _ => ⟨(255), by decide, hts _ tw_1565⟩⟩, (List.forall_mem_cons.mpr ⟨⟨(fun z => by cases z), fun _ => ⟨(9), by decide, hts _ tw_1586⟩⟩, (List.forall_mem_cons.mpr ⟨⟨(fun z => by cases z), fun _ => ⟨(99), by decide, hts _ tw_1595⟩⟩, (List.forall_mem_cons.mpr ⟨⟨(fun z => by cases z), fun _ => ⟨(3), by decide, hts _ tw_1484⟩⟩, (fun _ h => absurd h List.not_mem_nil)⟩)⟩)⟩)⟩)⟩)⟩)⟩)⟩)⟩)⟩)⟩)⟩)
theorem pil_X12 {s : State} {args : Array Value} (hts : ∀ w ∈ cw_tb, w.before args s = true) (hnc : ck_nq cw_V s) : ∀ x ∈ il_X12, ck_hi s args RX12 cw_cls x :=
  (fun _ h => absurd h List.not_mem_nil)
theorem pxl_X12 {s : State} {args : Array Value} (hts : ∀ w ∈ cw_tb, w.before args s = true) (hnc : ck_nq cw_V s) : ∀ x ∈ xl_X12, ck_hx s args RX12 cw_cls x :=
  (fun _ h => absurd h List.not_mem_nil)
theorem pgl_X12 {s : State} {args : Array Value} (hts : ∀ w ∈ cw_tb, w.before args s = true) {sw : Option Nat} (hsw : sw.isSome = true) (b : Nat → Int) : ∀ i ∈ gl_X12, ck_hs s args RX12 (none, sw, b) i :=
  (fun _ h => absurd h List.not_mem_nil)
def fl_J6 : List (Nat × Nat × Nat) := []
def pl_J6 : List (Nat × Nat × Nat × Nat) := []
def pI_J6 : List (Nat × Nat × Nat × Nat) := []
def nw_J6 : List (Nat × Nat × Nat × Nat) := []
def kl_J6 : List (Nat × Nat × Int) := [(265, 0, 1431655765), (266, 0, 858993459), (267, 0, 252645135)]
def il_J6 : List (Nat × Nat × Nat) := []
def xl_J6 : List (Nat × Nat) := []
def gl_J6 : List Nat := []
theorem pfl_J6 {s : State} {args : Array Value} (hts : ∀ w ∈ cw_tb, w.before args s = true) : ∀ x ∈ fl_J6, ck_hg s args RJ6 cw_cls x :=
  (fun _ h => absurd h List.not_mem_nil)
theorem ppl_J6 {s : State} {args : Array Value} (hts : ∀ w ∈ cw_tb, w.before args s = true) {P : Prop} : ∀ x ∈ pl_J6, ck_hp s args RJ6 cw_cls P x :=
  (fun _ h => absurd h List.not_mem_nil)
theorem ppI_J6 {s : State} {args : Array Value} (hts : ∀ w ∈ cw_tb, w.before args s = true) {P : Prop} (hin : P) : ∀ x ∈ pI_J6, ck_hp s args RJ6 cw_cls P x :=
  (fun _ h => absurd h List.not_mem_nil)
theorem pnw_J6 {s : State} {args : Array Value} (hts : ∀ w ∈ cw_tb, w.before args s = true) : ∀ x ∈ nw_J6, ck_hn s args RJ6 cw_cls cw_TT x :=
  (fun _ h => absurd h List.not_mem_nil)
theorem pkl_J6 {s : State} {args : Array Value} (hts : ∀ w ∈ cw_tb, w.before args s = true) : ∀ x ∈ kl_J6, ck_hk s args RJ6 x :=
  (List.forall_mem_cons.mpr ⟨⟨fun _ => ⟨(1431655765), by decide, hts _ tw_653⟩, (fun z => by cases z)⟩, (List.forall_mem_cons.mpr ⟨⟨fun _ => ⟨(858993459), by decide, hts _ tw_654⟩, (fun z => by cases z)⟩, (List.forall_mem_cons.mpr ⟨⟨fun _ => ⟨(252645135), by decide, hts _ tw_655⟩, (fun z => by cases z)⟩, (fun _ h => absurd h List.not_mem_nil)⟩)⟩)⟩)
theorem pil_J6 {s : State} {args : Array Value} (hts : ∀ w ∈ cw_tb, w.before args s = true) (hnc : ck_nq cw_V s) : ∀ x ∈ il_J6, ck_hi s args RJ6 cw_cls x :=
  (fun _ h => absurd h List.not_mem_nil)
theorem pxl_J6 {s : State} {args : Array Value} (hts : ∀ w ∈ cw_tb, w.before args s = true) (hnc : ck_nq cw_V s) : ∀ x ∈ xl_J6, ck_hx s args RJ6 cw_cls x :=
  (fun _ h => absurd h List.not_mem_nil)
theorem pgl_J6 {s : State} {args : Array Value} (hts : ∀ w ∈ cw_tb, w.before args s = true) {sw : Option Nat} (hsw : sw.isSome = true) (b : Nat → Int) : ∀ i ∈ gl_J6, ck_hs s args RJ6 (none, sw, b) i :=
  (fun _ h => absurd h List.not_mem_nil)
def fl_J13 : List (Nat × Nat × Nat) := []
def pl_J13 : List (Nat × Nat × Nat × Nat) := []
def pI_J13 : List (Nat × Nat × Nat × Nat) := []
def nw_J13 : List (Nat × Nat × Nat × Nat) := []
def kl_J13 : List (Nat × Nat × Int) := [(314, 1, 6148914691236517205), (316, 1, 3689348814741910323), (318, 1, 1085102592571150095)]
def il_J13 : List (Nat × Nat × Nat) := []
def xl_J13 : List (Nat × Nat) := []
def gl_J13 : List Nat := []
theorem pfl_J13 {s : State} {args : Array Value} (hts : ∀ w ∈ cw_tb, w.before args s = true) : ∀ x ∈ fl_J13, ck_hg s args RJ13 cw_cls x :=
  (fun _ h => absurd h List.not_mem_nil)
theorem ppl_J13 {s : State} {args : Array Value} (hts : ∀ w ∈ cw_tb, w.before args s = true) {P : Prop} : ∀ x ∈ pl_J13, ck_hp s args RJ13 cw_cls P x :=
  (fun _ h => absurd h List.not_mem_nil)
theorem ppI_J13 {s : State} {args : Array Value} (hts : ∀ w ∈ cw_tb, w.before args s = true) {P : Prop} (hin : P) : ∀ x ∈ pI_J13, ck_hp s args RJ13 cw_cls P x :=
  (fun _ h => absurd h List.not_mem_nil)
theorem pnw_J13 {s : State} {args : Array Value} (hts : ∀ w ∈ cw_tb, w.before args s = true) : ∀ x ∈ nw_J13, ck_hn s args RJ13 cw_cls cw_TT x :=
  (fun _ h => absurd h List.not_mem_nil)
theorem pkl_J13 {s : State} {args : Array Value} (hts : ∀ w ∈ cw_tb, w.before args s = true) : ∀ x ∈ kl_J13, ck_hk s args RJ13 x :=
  (List.forall_mem_cons.mpr ⟨⟨(fun z => by cases z), fun _ => ⟨(6148914691236517205), by decide, hts _ tw_541⟩⟩, (List.forall_mem_cons.mpr ⟨⟨(fun z => by cases z), fun _ => ⟨(3689348814741910323), by decide, hts _ tw_542⟩⟩, (List.forall_mem_cons.mpr ⟨⟨(fun z => by cases z), fun _ => ⟨(1085102592571150095), by decide, hts _ tw_543⟩⟩, (fun _ h => absurd h List.not_mem_nil)⟩)⟩)⟩)
theorem pil_J13 {s : State} {args : Array Value} (hts : ∀ w ∈ cw_tb, w.before args s = true) (hnc : ck_nq cw_V s) : ∀ x ∈ il_J13, ck_hi s args RJ13 cw_cls x :=
  (fun _ h => absurd h List.not_mem_nil)
theorem pxl_J13 {s : State} {args : Array Value} (hts : ∀ w ∈ cw_tb, w.before args s = true) (hnc : ck_nq cw_V s) : ∀ x ∈ xl_J13, ck_hx s args RJ13 cw_cls x :=
  (fun _ h => absurd h List.not_mem_nil)
theorem pgl_J13 {s : State} {args : Array Value} (hts : ∀ w ∈ cw_tb, w.before args s = true) {sw : Option Nat} (hsw : sw.isSome = true) (b : Nat → Int) : ∀ i ∈ gl_J13, ck_hs s args RJ13 (none, sw, b) i :=
  (fun _ h => absurd h List.not_mem_nil)
def fl_J9 : List (Nat × Nat × Nat) := []
def pl_J9 : List (Nat × Nat × Nat × Nat) := []
def pI_J9 : List (Nat × Nat × Nat × Nat) := []
def nw_J9 : List (Nat × Nat × Nat × Nat) := []
def kl_J9 : List (Nat × Nat × Int) := []
def il_J9 : List (Nat × Nat × Nat) := []
def xl_J9 : List (Nat × Nat) := []
def gl_J9 : List Nat := []
theorem pfl_J9 {s : State} {args : Array Value} (hts : ∀ w ∈ cw_tb, w.before args s = true) : ∀ x ∈ fl_J9, ck_hg s args RJ9 cw_cls x :=
  (fun _ h => absurd h List.not_mem_nil)
theorem ppl_J9 {s : State} {args : Array Value} (hts : ∀ w ∈ cw_tb, w.before args s = true) {P : Prop} : ∀ x ∈ pl_J9, ck_hp s args RJ9 cw_cls P x :=
  (fun _ h => absurd h List.not_mem_nil)
theorem ppI_J9 {s : State} {args : Array Value} (hts : ∀ w ∈ cw_tb, w.before args s = true) {P : Prop} (hin : P) : ∀ x ∈ pI_J9, ck_hp s args RJ9 cw_cls P x :=
  (fun _ h => absurd h List.not_mem_nil)
theorem pnw_J9 {s : State} {args : Array Value} (hts : ∀ w ∈ cw_tb, w.before args s = true) : ∀ x ∈ nw_J9, ck_hn s args RJ9 cw_cls cw_TT x :=
  (fun _ h => absurd h List.not_mem_nil)
theorem pkl_J9 {s : State} {args : Array Value} (hts : ∀ w ∈ cw_tb, w.before args s = true) : ∀ x ∈ kl_J9, ck_hk s args RJ9 x :=
  (fun _ h => absurd h List.not_mem_nil)
theorem pil_J9 {s : State} {args : Array Value} (hts : ∀ w ∈ cw_tb, w.before args s = true) (hnc : ck_nq cw_V s) : ∀ x ∈ il_J9, ck_hi s args RJ9 cw_cls x :=
  (fun _ h => absurd h List.not_mem_nil)
theorem pxl_J9 {s : State} {args : Array Value} (hts : ∀ w ∈ cw_tb, w.before args s = true) (hnc : ck_nq cw_V s) : ∀ x ∈ xl_J9, ck_hx s args RJ9 cw_cls x :=
  (fun _ h => absurd h List.not_mem_nil)
theorem pgl_J9 {s : State} {args : Array Value} (hts : ∀ w ∈ cw_tb, w.before args s = true) {sw : Option Nat} (hsw : sw.isSome = true) (b : Nat → Int) : ∀ i ∈ gl_J9, ck_hs s args RJ9 (none, sw, b) i :=
  (fun _ h => absurd h List.not_mem_nil)
def fl_J7 : List (Nat × Nat × Nat) := []
def pl_J7 : List (Nat × Nat × Nat × Nat) := []
def pI_J7 : List (Nat × Nat × Nat × Nat) := []
def nw_J7 : List (Nat × Nat × Nat × Nat) := []
def kl_J7 : List (Nat × Nat × Int) := []
def il_J7 : List (Nat × Nat × Nat) := []
def xl_J7 : List (Nat × Nat) := []
def gl_J7 : List Nat := []
theorem pfl_J7 {s : State} {args : Array Value} (hts : ∀ w ∈ cw_tb, w.before args s = true) : ∀ x ∈ fl_J7, ck_hg s args RJ7 cw_cls x :=
  (fun _ h => absurd h List.not_mem_nil)
theorem ppl_J7 {s : State} {args : Array Value} (hts : ∀ w ∈ cw_tb, w.before args s = true) {P : Prop} : ∀ x ∈ pl_J7, ck_hp s args RJ7 cw_cls P x :=
  (fun _ h => absurd h List.not_mem_nil)
theorem ppI_J7 {s : State} {args : Array Value} (hts : ∀ w ∈ cw_tb, w.before args s = true) {P : Prop} (hin : P) : ∀ x ∈ pI_J7, ck_hp s args RJ7 cw_cls P x :=
  (fun _ h => absurd h List.not_mem_nil)
theorem pnw_J7 {s : State} {args : Array Value} (hts : ∀ w ∈ cw_tb, w.before args s = true) : ∀ x ∈ nw_J7, ck_hn s args RJ7 cw_cls cw_TT x :=
  (fun _ h => absurd h List.not_mem_nil)
theorem pkl_J7 {s : State} {args : Array Value} (hts : ∀ w ∈ cw_tb, w.before args s = true) : ∀ x ∈ kl_J7, ck_hk s args RJ7 x :=
  (fun _ h => absurd h List.not_mem_nil)
theorem pil_J7 {s : State} {args : Array Value} (hts : ∀ w ∈ cw_tb, w.before args s = true) (hnc : ck_nq cw_V s) : ∀ x ∈ il_J7, ck_hi s args RJ7 cw_cls x :=
  (fun _ h => absurd h List.not_mem_nil)
theorem pxl_J7 {s : State} {args : Array Value} (hts : ∀ w ∈ cw_tb, w.before args s = true) (hnc : ck_nq cw_V s) : ∀ x ∈ xl_J7, ck_hx s args RJ7 cw_cls x :=
  (fun _ h => absurd h List.not_mem_nil)
theorem pgl_J7 {s : State} {args : Array Value} (hts : ∀ w ∈ cw_tb, w.before args s = true) {sw : Option Nat} (hsw : sw.isSome = true) (b : Nat → Int) : ∀ i ∈ gl_J7, ck_hs s args RJ7 (none, sw, b) i :=
  (fun _ h => absurd h List.not_mem_nil)
def cw_al : List (Nat × Nat) := [(4, 4), (5, 8), (5, 0), (5, 5), (6, 4), (6, 8), (6, 0), (6, 5)]
theorem cw_ty {tys : List (ClassId × FieldType)} (h : tys.map Prod.snd = cw_tl) {k : Nat} {ty : FieldType} (hk : cw_tl[k]? = some ty) : ∃ cA, tys[k]? = some (cA, ty) := by
  rw [← h, List.getElem?_map] at hk
  cases he : tys[k]? with
  | none => rw [he] at hk; cases hk
  | some x =>
    rw [he] at hk
    exact ⟨x.1, by rw [← Option.some.inj hk]⟩
theorem cw_pal {s : State} (hnc : ck_nq cw_V s) {tys : List (ClassId × FieldType)} (htl : tys.map Prod.snd = cw_tl) : ∀ x ∈ cw_al, ck_ha s tys cw_cls x :=
  (List.forall_mem_cons.mpr ⟨(by
    obtain ⟨cA, h⟩ := cw_ty htl (k := 4) rfl
    exact ⟨cA, _, (RX4, TX4, 7), h, rfl, Or.inl rfl⟩), (List.forall_mem_cons.mpr ⟨(by
    obtain ⟨cA, h⟩ := cw_ty htl (k := 5) rfl
    exact ⟨cA, _, (RX8, TX8, 5), h, rfl, Or.inl rfl⟩), (List.forall_mem_cons.mpr ⟨(by
    obtain ⟨cA, h⟩ := cw_ty htl (k := 5) rfl
    exact ⟨cA, _, (RX0, TX0, 5), h, rfl, Or.inr (hnc.2 (.castable "ReasonDesk$Barred" "ReasonDesk$Rule") (by decide +kernel)).2⟩), (List.forall_mem_cons.mpr ⟨(by
    obtain ⟨cA, h⟩ := cw_ty htl (k := 5) rfl
    exact ⟨cA, _, (RX5, TX5, 5), h, rfl, Or.inr (hnc.2 (.castable "ReasonDesk$Loose" "ReasonDesk$Rule") (by decide +kernel)).2⟩), (List.forall_mem_cons.mpr ⟨(by
    obtain ⟨cA, h⟩ := cw_ty htl (k := 6) rfl
    exact ⟨cA, _, (RX4, TX4, 7), h, rfl, Or.inr (hnc.2 (.castable "ReasonDesk$Entry" "ReasonDesk$Thing") (by decide +kernel)).2⟩), (List.forall_mem_cons.mpr ⟨(by
    obtain ⟨cA, h⟩ := cw_ty htl (k := 6) rfl
    exact ⟨cA, _, (RX8, TX8, 5), h, rfl, Or.inr (hnc.2 (.castable "ReasonDesk$Rule" "ReasonDesk$Thing") (by decide +kernel)).2⟩), (List.forall_mem_cons.mpr ⟨(by
    obtain ⟨cA, h⟩ := cw_ty htl (k := 6) rfl
    exact ⟨cA, _, (RX0, TX0, 5), h, rfl, Or.inr (hnc.2 (.castable "ReasonDesk$Barred" "ReasonDesk$Thing") (by decide +kernel)).2⟩), (List.forall_mem_cons.mpr ⟨(by
    obtain ⟨cA, h⟩ := cw_ty htl (k := 6) rfl
    exact ⟨cA, _, (RX5, TX5, 5), h, rfl, Or.inr (hnc.2 (.castable "ReasonDesk$Loose" "ReasonDesk$Thing") (by decide +kernel)).2⟩), (fun _ h => absurd h List.not_mem_nil)⟩)⟩)⟩)⟩)⟩)⟩)⟩)⟩)
/-! the tables of a class, for its methods -/
theorem tb_X11 {M : ck_Me} (h : mfl M = fl_X11 ∧ mpl M = pl_X11 ∧ mnw M = nw_X11 ∧ mTT M = cw_TT ∧ mkl M = kl_X11 ∧ mil M = il_X11 ∧ mxl M = xl_X11 ∧ mal M = cw_al ∧ mgl M = gl_X11) : ck_tb cw_V RX11 false M := by
  obtain ⟨h1, h2, h3, h4, h5, h6, h7, h8, h9⟩ := h
  intro s args tys meth sw hts htl hnc hin hsw
  rw [h1, h2, h3, h4, h5, h6, h7, h8, h9]
  exact ⟨pfl_X11 hts, ppl_X11 hts, pnw_X11 hts, pkl_X11 hts, pil_X11 hts hnc, pxl_X11 hts hnc, cw_pal hnc htl, fun i hi b => pgl_X11 hts hsw b i hi⟩
theorem tI_X11 {M : ck_Me} (h : mfl M = fl_X11 ∧ mpl M = pI_X11 ∧ mnw M = nw_X11 ∧ mTT M = cw_TT ∧ mkl M = kl_X11 ∧ mil M = il_X11 ∧ mxl M = xl_X11 ∧ mal M = cw_al ∧ mgl M = gl_X11) : ck_tb cw_V RX11 true M := by
  obtain ⟨h1, h2, h3, h4, h5, h6, h7, h8, h9⟩ := h
  intro s args tys meth sw hts htl hnc hin hsw
  rw [h1, h2, h3, h4, h5, h6, h7, h8, h9]
  exact ⟨pfl_X11 hts, ppI_X11 hts (hin rfl), pnw_X11 hts, pkl_X11 hts, pil_X11 hts hnc, pxl_X11 hts hnc, cw_pal hnc htl, fun i hi b => pgl_X11 hts hsw b i hi⟩
theorem tb_X0 {M : ck_Me} (h : mfl M = fl_X0 ∧ mpl M = pl_X0 ∧ mnw M = nw_X0 ∧ mTT M = cw_TT ∧ mkl M = kl_X0 ∧ mil M = il_X0 ∧ mxl M = xl_X0 ∧ mal M = cw_al ∧ mgl M = gl_X0) : ck_tb cw_V RX0 false M := by
  obtain ⟨h1, h2, h3, h4, h5, h6, h7, h8, h9⟩ := h
  intro s args tys meth sw hts htl hnc hin hsw
  rw [h1, h2, h3, h4, h5, h6, h7, h8, h9]
  exact ⟨pfl_X0 hts, ppl_X0 hts, pnw_X0 hts, pkl_X0 hts, pil_X0 hts hnc, pxl_X0 hts hnc, cw_pal hnc htl, fun i hi b => pgl_X0 hts hsw b i hi⟩
theorem tI_X0 {M : ck_Me} (h : mfl M = fl_X0 ∧ mpl M = pI_X0 ∧ mnw M = nw_X0 ∧ mTT M = cw_TT ∧ mkl M = kl_X0 ∧ mil M = il_X0 ∧ mxl M = xl_X0 ∧ mal M = cw_al ∧ mgl M = gl_X0) : ck_tb cw_V RX0 true M := by
  obtain ⟨h1, h2, h3, h4, h5, h6, h7, h8, h9⟩ := h
  intro s args tys meth sw hts htl hnc hin hsw
  rw [h1, h2, h3, h4, h5, h6, h7, h8, h9]
  exact ⟨pfl_X0 hts, ppI_X0 hts (hin rfl), pnw_X0 hts, pkl_X0 hts, pil_X0 hts hnc, pxl_X0 hts hnc, cw_pal hnc htl, fun i hi b => pgl_X0 hts hsw b i hi⟩
theorem tb_X1 {M : ck_Me} (h : mfl M = fl_X1 ∧ mpl M = pl_X1 ∧ mnw M = nw_X1 ∧ mTT M = cw_TT ∧ mkl M = kl_X1 ∧ mil M = il_X1 ∧ mxl M = xl_X1 ∧ mal M = cw_al ∧ mgl M = gl_X1) : ck_tb cw_V RX1 false M := by
  obtain ⟨h1, h2, h3, h4, h5, h6, h7, h8, h9⟩ := h
  intro s args tys meth sw hts htl hnc hin hsw
  rw [h1, h2, h3, h4, h5, h6, h7, h8, h9]
  exact ⟨pfl_X1 hts, ppl_X1 hts, pnw_X1 hts, pkl_X1 hts, pil_X1 hts hnc, pxl_X1 hts hnc, cw_pal hnc htl, fun i hi b => pgl_X1 hts hsw b i hi⟩
theorem tI_X1 {M : ck_Me} (h : mfl M = fl_X1 ∧ mpl M = pI_X1 ∧ mnw M = nw_X1 ∧ mTT M = cw_TT ∧ mkl M = kl_X1 ∧ mil M = il_X1 ∧ mxl M = xl_X1 ∧ mal M = cw_al ∧ mgl M = gl_X1) : ck_tb cw_V RX1 true M := by
  obtain ⟨h1, h2, h3, h4, h5, h6, h7, h8, h9⟩ := h
  intro s args tys meth sw hts htl hnc hin hsw
  rw [h1, h2, h3, h4, h5, h6, h7, h8, h9]
  exact ⟨pfl_X1 hts, ppI_X1 hts (hin rfl), pnw_X1 hts, pkl_X1 hts, pil_X1 hts hnc, pxl_X1 hts hnc, cw_pal hnc htl, fun i hi b => pgl_X1 hts hsw b i hi⟩
theorem tb_X2 {M : ck_Me} (h : mfl M = fl_X2 ∧ mpl M = pl_X2 ∧ mnw M = nw_X2 ∧ mTT M = cw_TT ∧ mkl M = kl_X2 ∧ mil M = il_X2 ∧ mxl M = xl_X2 ∧ mal M = cw_al ∧ mgl M = gl_X2) : ck_tb cw_V RX2 false M := by
  obtain ⟨h1, h2, h3, h4, h5, h6, h7, h8, h9⟩ := h
  intro s args tys meth sw hts htl hnc hin hsw
  rw [h1, h2, h3, h4, h5, h6, h7, h8, h9]
  exact ⟨pfl_X2 hts, ppl_X2 hts, pnw_X2 hts, pkl_X2 hts, pil_X2 hts hnc, pxl_X2 hts hnc, cw_pal hnc htl, fun i hi b => pgl_X2 hts hsw b i hi⟩
theorem tI_X2 {M : ck_Me} (h : mfl M = fl_X2 ∧ mpl M = pI_X2 ∧ mnw M = nw_X2 ∧ mTT M = cw_TT ∧ mkl M = kl_X2 ∧ mil M = il_X2 ∧ mxl M = xl_X2 ∧ mal M = cw_al ∧ mgl M = gl_X2) : ck_tb cw_V RX2 true M := by
  obtain ⟨h1, h2, h3, h4, h5, h6, h7, h8, h9⟩ := h
  intro s args tys meth sw hts htl hnc hin hsw
  rw [h1, h2, h3, h4, h5, h6, h7, h8, h9]
  exact ⟨pfl_X2 hts, ppI_X2 hts (hin rfl), pnw_X2 hts, pkl_X2 hts, pil_X2 hts hnc, pxl_X2 hts hnc, cw_pal hnc htl, fun i hi b => pgl_X2 hts hsw b i hi⟩
theorem tb_X3 {M : ck_Me} (h : mfl M = fl_X3 ∧ mpl M = pl_X3 ∧ mnw M = nw_X3 ∧ mTT M = cw_TT ∧ mkl M = kl_X3 ∧ mil M = il_X3 ∧ mxl M = xl_X3 ∧ mal M = cw_al ∧ mgl M = gl_X3) : ck_tb cw_V RX3 false M := by
  obtain ⟨h1, h2, h3, h4, h5, h6, h7, h8, h9⟩ := h
  intro s args tys meth sw hts htl hnc hin hsw
  rw [h1, h2, h3, h4, h5, h6, h7, h8, h9]
  exact ⟨pfl_X3 hts, ppl_X3 hts, pnw_X3 hts, pkl_X3 hts, pil_X3 hts hnc, pxl_X3 hts hnc, cw_pal hnc htl, fun i hi b => pgl_X3 hts hsw b i hi⟩
theorem tI_X3 {M : ck_Me} (h : mfl M = fl_X3 ∧ mpl M = pI_X3 ∧ mnw M = nw_X3 ∧ mTT M = cw_TT ∧ mkl M = kl_X3 ∧ mil M = il_X3 ∧ mxl M = xl_X3 ∧ mal M = cw_al ∧ mgl M = gl_X3) : ck_tb cw_V RX3 true M := by
  obtain ⟨h1, h2, h3, h4, h5, h6, h7, h8, h9⟩ := h
  intro s args tys meth sw hts htl hnc hin hsw
  rw [h1, h2, h3, h4, h5, h6, h7, h8, h9]
  exact ⟨pfl_X3 hts, ppI_X3 hts (hin rfl), pnw_X3 hts, pkl_X3 hts, pil_X3 hts hnc, pxl_X3 hts hnc, cw_pal hnc htl, fun i hi b => pgl_X3 hts hsw b i hi⟩
theorem tb_X4 {M : ck_Me} (h : mfl M = fl_X4 ∧ mpl M = pl_X4 ∧ mnw M = nw_X4 ∧ mTT M = cw_TT ∧ mkl M = kl_X4 ∧ mil M = il_X4 ∧ mxl M = xl_X4 ∧ mal M = cw_al ∧ mgl M = gl_X4) : ck_tb cw_V RX4 false M := by
  obtain ⟨h1, h2, h3, h4, h5, h6, h7, h8, h9⟩ := h
  intro s args tys meth sw hts htl hnc hin hsw
  rw [h1, h2, h3, h4, h5, h6, h7, h8, h9]
  exact ⟨pfl_X4 hts, ppl_X4 hts, pnw_X4 hts, pkl_X4 hts, pil_X4 hts hnc, pxl_X4 hts hnc, cw_pal hnc htl, fun i hi b => pgl_X4 hts hsw b i hi⟩
theorem tI_X4 {M : ck_Me} (h : mfl M = fl_X4 ∧ mpl M = pI_X4 ∧ mnw M = nw_X4 ∧ mTT M = cw_TT ∧ mkl M = kl_X4 ∧ mil M = il_X4 ∧ mxl M = xl_X4 ∧ mal M = cw_al ∧ mgl M = gl_X4) : ck_tb cw_V RX4 true M := by
  obtain ⟨h1, h2, h3, h4, h5, h6, h7, h8, h9⟩ := h
  intro s args tys meth sw hts htl hnc hin hsw
  rw [h1, h2, h3, h4, h5, h6, h7, h8, h9]
  exact ⟨pfl_X4 hts, ppI_X4 hts (hin rfl), pnw_X4 hts, pkl_X4 hts, pil_X4 hts hnc, pxl_X4 hts hnc, cw_pal hnc htl, fun i hi b => pgl_X4 hts hsw b i hi⟩
theorem tb_X5 {M : ck_Me} (h : mfl M = fl_X5 ∧ mpl M = pl_X5 ∧ mnw M = nw_X5 ∧ mTT M = cw_TT ∧ mkl M = kl_X5 ∧ mil M = il_X5 ∧ mxl M = xl_X5 ∧ mal M = cw_al ∧ mgl M = gl_X5) : ck_tb cw_V RX5 false M := by
  obtain ⟨h1, h2, h3, h4, h5, h6, h7, h8, h9⟩ := h
  intro s args tys meth sw hts htl hnc hin hsw
  rw [h1, h2, h3, h4, h5, h6, h7, h8, h9]
  exact ⟨pfl_X5 hts, ppl_X5 hts, pnw_X5 hts, pkl_X5 hts, pil_X5 hts hnc, pxl_X5 hts hnc, cw_pal hnc htl, fun i hi b => pgl_X5 hts hsw b i hi⟩
theorem tI_X5 {M : ck_Me} (h : mfl M = fl_X5 ∧ mpl M = pI_X5 ∧ mnw M = nw_X5 ∧ mTT M = cw_TT ∧ mkl M = kl_X5 ∧ mil M = il_X5 ∧ mxl M = xl_X5 ∧ mal M = cw_al ∧ mgl M = gl_X5) : ck_tb cw_V RX5 true M := by
  obtain ⟨h1, h2, h3, h4, h5, h6, h7, h8, h9⟩ := h
  intro s args tys meth sw hts htl hnc hin hsw
  rw [h1, h2, h3, h4, h5, h6, h7, h8, h9]
  exact ⟨pfl_X5 hts, ppI_X5 hts (hin rfl), pnw_X5 hts, pkl_X5 hts, pil_X5 hts hnc, pxl_X5 hts hnc, cw_pal hnc htl, fun i hi b => pgl_X5 hts hsw b i hi⟩
theorem tb_X6 {M : ck_Me} (h : mfl M = fl_X6 ∧ mpl M = pl_X6 ∧ mnw M = nw_X6 ∧ mTT M = cw_TT ∧ mkl M = kl_X6 ∧ mil M = il_X6 ∧ mxl M = xl_X6 ∧ mal M = cw_al ∧ mgl M = gl_X6) : ck_tb cw_V RX6 false M := by
  obtain ⟨h1, h2, h3, h4, h5, h6, h7, h8, h9⟩ := h
  intro s args tys meth sw hts htl hnc hin hsw
  rw [h1, h2, h3, h4, h5, h6, h7, h8, h9]
  exact ⟨pfl_X6 hts, ppl_X6 hts, pnw_X6 hts, pkl_X6 hts, pil_X6 hts hnc, pxl_X6 hts hnc, cw_pal hnc htl, fun i hi b => pgl_X6 hts hsw b i hi⟩
theorem tI_X6 {M : ck_Me} (h : mfl M = fl_X6 ∧ mpl M = pI_X6 ∧ mnw M = nw_X6 ∧ mTT M = cw_TT ∧ mkl M = kl_X6 ∧ mil M = il_X6 ∧ mxl M = xl_X6 ∧ mal M = cw_al ∧ mgl M = gl_X6) : ck_tb cw_V RX6 true M := by
  obtain ⟨h1, h2, h3, h4, h5, h6, h7, h8, h9⟩ := h
  intro s args tys meth sw hts htl hnc hin hsw
  rw [h1, h2, h3, h4, h5, h6, h7, h8, h9]
  exact ⟨pfl_X6 hts, ppI_X6 hts (hin rfl), pnw_X6 hts, pkl_X6 hts, pil_X6 hts hnc, pxl_X6 hts hnc, cw_pal hnc htl, fun i hi b => pgl_X6 hts hsw b i hi⟩
theorem tb_X7 {M : ck_Me} (h : mfl M = fl_X7 ∧ mpl M = pl_X7 ∧ mnw M = nw_X7 ∧ mTT M = cw_TT ∧ mkl M = kl_X7 ∧ mil M = il_X7 ∧ mxl M = xl_X7 ∧ mal M = cw_al ∧ mgl M = gl_X7) : ck_tb cw_V RX7 false M := by
  obtain ⟨h1, h2, h3, h4, h5, h6, h7, h8, h9⟩ := h
  intro s args tys meth sw hts htl hnc hin hsw
  rw [h1, h2, h3, h4, h5, h6, h7, h8, h9]
  exact ⟨pfl_X7 hts, ppl_X7 hts, pnw_X7 hts, pkl_X7 hts, pil_X7 hts hnc, pxl_X7 hts hnc, cw_pal hnc htl, fun i hi b => pgl_X7 hts hsw b i hi⟩
theorem tI_X7 {M : ck_Me} (h : mfl M = fl_X7 ∧ mpl M = pI_X7 ∧ mnw M = nw_X7 ∧ mTT M = cw_TT ∧ mkl M = kl_X7 ∧ mil M = il_X7 ∧ mxl M = xl_X7 ∧ mal M = cw_al ∧ mgl M = gl_X7) : ck_tb cw_V RX7 true M := by
  obtain ⟨h1, h2, h3, h4, h5, h6, h7, h8, h9⟩ := h
  intro s args tys meth sw hts htl hnc hin hsw
  rw [h1, h2, h3, h4, h5, h6, h7, h8, h9]
  exact ⟨pfl_X7 hts, ppI_X7 hts (hin rfl), pnw_X7 hts, pkl_X7 hts, pil_X7 hts hnc, pxl_X7 hts hnc, cw_pal hnc htl, fun i hi b => pgl_X7 hts hsw b i hi⟩
theorem tb_X8 {M : ck_Me} (h : mfl M = fl_X8 ∧ mpl M = pl_X8 ∧ mnw M = nw_X8 ∧ mTT M = cw_TT ∧ mkl M = kl_X8 ∧ mil M = il_X8 ∧ mxl M = xl_X8 ∧ mal M = cw_al ∧ mgl M = gl_X8) : ck_tb cw_V RX8 false M := by
  obtain ⟨h1, h2, h3, h4, h5, h6, h7, h8, h9⟩ := h
  intro s args tys meth sw hts htl hnc hin hsw
  rw [h1, h2, h3, h4, h5, h6, h7, h8, h9]
  exact ⟨pfl_X8 hts, ppl_X8 hts, pnw_X8 hts, pkl_X8 hts, pil_X8 hts hnc, pxl_X8 hts hnc, cw_pal hnc htl, fun i hi b => pgl_X8 hts hsw b i hi⟩
theorem tI_X8 {M : ck_Me} (h : mfl M = fl_X8 ∧ mpl M = pI_X8 ∧ mnw M = nw_X8 ∧ mTT M = cw_TT ∧ mkl M = kl_X8 ∧ mil M = il_X8 ∧ mxl M = xl_X8 ∧ mal M = cw_al ∧ mgl M = gl_X8) : ck_tb cw_V RX8 true M := by
  obtain ⟨h1, h2, h3, h4, h5, h6, h7, h8, h9⟩ := h
  intro s args tys meth sw hts htl hnc hin hsw
  rw [h1, h2, h3, h4, h5, h6, h7, h8, h9]
  exact ⟨pfl_X8 hts, ppI_X8 hts (hin rfl), pnw_X8 hts, pkl_X8 hts, pil_X8 hts hnc, pxl_X8 hts hnc, cw_pal hnc htl, fun i hi b => pgl_X8 hts hsw b i hi⟩
theorem tb_X9 {M : ck_Me} (h : mfl M = fl_X9 ∧ mpl M = pl_X9 ∧ mnw M = nw_X9 ∧ mTT M = cw_TT ∧ mkl M = kl_X9 ∧ mil M = il_X9 ∧ mxl M = xl_X9 ∧ mal M = cw_al ∧ mgl M = gl_X9) : ck_tb cw_V RX9 false M := by
  obtain ⟨h1, h2, h3, h4, h5, h6, h7, h8, h9⟩ := h
  intro s args tys meth sw hts htl hnc hin hsw
  rw [h1, h2, h3, h4, h5, h6, h7, h8, h9]
  exact ⟨pfl_X9 hts, ppl_X9 hts, pnw_X9 hts, pkl_X9 hts, pil_X9 hts hnc, pxl_X9 hts hnc, cw_pal hnc htl, fun i hi b => pgl_X9 hts hsw b i hi⟩
theorem tI_X9 {M : ck_Me} (h : mfl M = fl_X9 ∧ mpl M = pI_X9 ∧ mnw M = nw_X9 ∧ mTT M = cw_TT ∧ mkl M = kl_X9 ∧ mil M = il_X9 ∧ mxl M = xl_X9 ∧ mal M = cw_al ∧ mgl M = gl_X9) : ck_tb cw_V RX9 true M := by
  obtain ⟨h1, h2, h3, h4, h5, h6, h7, h8, h9⟩ := h
  intro s args tys meth sw hts htl hnc hin hsw
  rw [h1, h2, h3, h4, h5, h6, h7, h8, h9]
  exact ⟨pfl_X9 hts, ppI_X9 hts (hin rfl), pnw_X9 hts, pkl_X9 hts, pil_X9 hts hnc, pxl_X9 hts hnc, cw_pal hnc htl, fun i hi b => pgl_X9 hts hsw b i hi⟩
theorem tb_X10 {M : ck_Me} (h : mfl M = fl_X10 ∧ mpl M = pl_X10 ∧ mnw M = nw_X10 ∧ mTT M = cw_TT ∧ mkl M = kl_X10 ∧ mil M = il_X10 ∧ mxl M = xl_X10 ∧ mal M = cw_al ∧ mgl M = gl_X10) : ck_tb cw_V RX10 false M := by
  obtain ⟨h1, h2, h3, h4, h5, h6, h7, h8, h9⟩ := h
  intro s args tys meth sw hts htl hnc hin hsw
  rw [h1, h2, h3, h4, h5, h6, h7, h8, h9]
  exact ⟨pfl_X10 hts, ppl_X10 hts, pnw_X10 hts, pkl_X10 hts, pil_X10 hts hnc, pxl_X10 hts hnc, cw_pal hnc htl, fun i hi b => pgl_X10 hts hsw b i hi⟩
theorem tI_X10 {M : ck_Me} (h : mfl M = fl_X10 ∧ mpl M = pI_X10 ∧ mnw M = nw_X10 ∧ mTT M = cw_TT ∧ mkl M = kl_X10 ∧ mil M = il_X10 ∧ mxl M = xl_X10 ∧ mal M = cw_al ∧ mgl M = gl_X10) : ck_tb cw_V RX10 true M := by
  obtain ⟨h1, h2, h3, h4, h5, h6, h7, h8, h9⟩ := h
  intro s args tys meth sw hts htl hnc hin hsw
  rw [h1, h2, h3, h4, h5, h6, h7, h8, h9]
  exact ⟨pfl_X10 hts, ppI_X10 hts (hin rfl), pnw_X10 hts, pkl_X10 hts, pil_X10 hts hnc, pxl_X10 hts hnc, cw_pal hnc htl, fun i hi b => pgl_X10 hts hsw b i hi⟩
theorem tb_X12 {M : ck_Me} (h : mfl M = fl_X12 ∧ mpl M = pl_X12 ∧ mnw M = nw_X12 ∧ mTT M = cw_TT ∧ mkl M = kl_X12 ∧ mil M = il_X12 ∧ mxl M = xl_X12 ∧ mal M = cw_al ∧ mgl M = gl_X12) : ck_tb cw_V RX12 false M := by
  obtain ⟨h1, h2, h3, h4, h5, h6, h7, h8, h9⟩ := h
  intro s args tys meth sw hts htl hnc hin hsw
  rw [h1, h2, h3, h4, h5, h6, h7, h8, h9]
  exact ⟨pfl_X12 hts, ppl_X12 hts, pnw_X12 hts, pkl_X12 hts, pil_X12 hts hnc, pxl_X12 hts hnc, cw_pal hnc htl, fun i hi b => pgl_X12 hts hsw b i hi⟩
theorem tI_X12 {M : ck_Me} (h : mfl M = fl_X12 ∧ mpl M = pI_X12 ∧ mnw M = nw_X12 ∧ mTT M = cw_TT ∧ mkl M = kl_X12 ∧ mil M = il_X12 ∧ mxl M = xl_X12 ∧ mal M = cw_al ∧ mgl M = gl_X12) : ck_tb cw_V RX12 true M := by
  obtain ⟨h1, h2, h3, h4, h5, h6, h7, h8, h9⟩ := h
  intro s args tys meth sw hts htl hnc hin hsw
  rw [h1, h2, h3, h4, h5, h6, h7, h8, h9]
  exact ⟨pfl_X12 hts, ppI_X12 hts (hin rfl), pnw_X12 hts, pkl_X12 hts, pil_X12 hts hnc, pxl_X12 hts hnc, cw_pal hnc htl, fun i hi b => pgl_X12 hts hsw b i hi⟩
theorem tb_J6 {M : ck_Me} (h : mfl M = fl_J6 ∧ mpl M = pl_J6 ∧ mnw M = nw_J6 ∧ mTT M = cw_TT ∧ mkl M = kl_J6 ∧ mil M = il_J6 ∧ mxl M = xl_J6 ∧ mal M = cw_al ∧ mgl M = gl_J6) : ck_tb cw_V RJ6 false M := by
  obtain ⟨h1, h2, h3, h4, h5, h6, h7, h8, h9⟩ := h
  intro s args tys meth sw hts htl hnc hin hsw
  rw [h1, h2, h3, h4, h5, h6, h7, h8, h9]
  exact ⟨pfl_J6 hts, ppl_J6 hts, pnw_J6 hts, pkl_J6 hts, pil_J6 hts hnc, pxl_J6 hts hnc, cw_pal hnc htl, fun i hi b => pgl_J6 hts hsw b i hi⟩
theorem tI_J6 {M : ck_Me} (h : mfl M = fl_J6 ∧ mpl M = pI_J6 ∧ mnw M = nw_J6 ∧ mTT M = cw_TT ∧ mkl M = kl_J6 ∧ mil M = il_J6 ∧ mxl M = xl_J6 ∧ mal M = cw_al ∧ mgl M = gl_J6) : ck_tb cw_V RJ6 true M := by
  obtain ⟨h1, h2, h3, h4, h5, h6, h7, h8, h9⟩ := h
  intro s args tys meth sw hts htl hnc hin hsw
  rw [h1, h2, h3, h4, h5, h6, h7, h8, h9]
  exact ⟨pfl_J6 hts, ppI_J6 hts (hin rfl), pnw_J6 hts, pkl_J6 hts, pil_J6 hts hnc, pxl_J6 hts hnc, cw_pal hnc htl, fun i hi b => pgl_J6 hts hsw b i hi⟩
theorem tb_J13 {M : ck_Me} (h : mfl M = fl_J13 ∧ mpl M = pl_J13 ∧ mnw M = nw_J13 ∧ mTT M = cw_TT ∧ mkl M = kl_J13 ∧ mil M = il_J13 ∧ mxl M = xl_J13 ∧ mal M = cw_al ∧ mgl M = gl_J13) : ck_tb cw_V RJ13 false M := by
  obtain ⟨h1, h2, h3, h4, h5, h6, h7, h8, h9⟩ := h
  intro s args tys meth sw hts htl hnc hin hsw
  rw [h1, h2, h3, h4, h5, h6, h7, h8, h9]
  exact ⟨pfl_J13 hts, ppl_J13 hts, pnw_J13 hts, pkl_J13 hts, pil_J13 hts hnc, pxl_J13 hts hnc, cw_pal hnc htl, fun i hi b => pgl_J13 hts hsw b i hi⟩
theorem tI_J13 {M : ck_Me} (h : mfl M = fl_J13 ∧ mpl M = pI_J13 ∧ mnw M = nw_J13 ∧ mTT M = cw_TT ∧ mkl M = kl_J13 ∧ mil M = il_J13 ∧ mxl M = xl_J13 ∧ mal M = cw_al ∧ mgl M = gl_J13) : ck_tb cw_V RJ13 true M := by
  obtain ⟨h1, h2, h3, h4, h5, h6, h7, h8, h9⟩ := h
  intro s args tys meth sw hts htl hnc hin hsw
  rw [h1, h2, h3, h4, h5, h6, h7, h8, h9]
  exact ⟨pfl_J13 hts, ppI_J13 hts (hin rfl), pnw_J13 hts, pkl_J13 hts, pil_J13 hts hnc, pxl_J13 hts hnc, cw_pal hnc htl, fun i hi b => pgl_J13 hts hsw b i hi⟩
theorem tb_J9 {M : ck_Me} (h : mfl M = fl_J9 ∧ mpl M = pl_J9 ∧ mnw M = nw_J9 ∧ mTT M = cw_TT ∧ mkl M = kl_J9 ∧ mil M = il_J9 ∧ mxl M = xl_J9 ∧ mal M = cw_al ∧ mgl M = gl_J9) : ck_tb cw_V RJ9 false M := by
  obtain ⟨h1, h2, h3, h4, h5, h6, h7, h8, h9⟩ := h
  intro s args tys meth sw hts htl hnc hin hsw
  rw [h1, h2, h3, h4, h5, h6, h7, h8, h9]
  exact ⟨pfl_J9 hts, ppl_J9 hts, pnw_J9 hts, pkl_J9 hts, pil_J9 hts hnc, pxl_J9 hts hnc, cw_pal hnc htl, fun i hi b => pgl_J9 hts hsw b i hi⟩
theorem tI_J9 {M : ck_Me} (h : mfl M = fl_J9 ∧ mpl M = pI_J9 ∧ mnw M = nw_J9 ∧ mTT M = cw_TT ∧ mkl M = kl_J9 ∧ mil M = il_J9 ∧ mxl M = xl_J9 ∧ mal M = cw_al ∧ mgl M = gl_J9) : ck_tb cw_V RJ9 true M := by
  obtain ⟨h1, h2, h3, h4, h5, h6, h7, h8, h9⟩ := h
  intro s args tys meth sw hts htl hnc hin hsw
  rw [h1, h2, h3, h4, h5, h6, h7, h8, h9]
  exact ⟨pfl_J9 hts, ppI_J9 hts (hin rfl), pnw_J9 hts, pkl_J9 hts, pil_J9 hts hnc, pxl_J9 hts hnc, cw_pal hnc htl, fun i hi b => pgl_J9 hts hsw b i hi⟩
theorem tb_J7 {M : ck_Me} (h : mfl M = fl_J7 ∧ mpl M = pl_J7 ∧ mnw M = nw_J7 ∧ mTT M = cw_TT ∧ mkl M = kl_J7 ∧ mil M = il_J7 ∧ mxl M = xl_J7 ∧ mal M = cw_al ∧ mgl M = gl_J7) : ck_tb cw_V RJ7 false M := by
  obtain ⟨h1, h2, h3, h4, h5, h6, h7, h8, h9⟩ := h
  intro s args tys meth sw hts htl hnc hin hsw
  rw [h1, h2, h3, h4, h5, h6, h7, h8, h9]
  exact ⟨pfl_J7 hts, ppl_J7 hts, pnw_J7 hts, pkl_J7 hts, pil_J7 hts hnc, pxl_J7 hts hnc, cw_pal hnc htl, fun i hi b => pgl_J7 hts hsw b i hi⟩
theorem tI_J7 {M : ck_Me} (h : mfl M = fl_J7 ∧ mpl M = pI_J7 ∧ mnw M = nw_J7 ∧ mTT M = cw_TT ∧ mkl M = kl_J7 ∧ mil M = il_J7 ∧ mxl M = xl_J7 ∧ mal M = cw_al ∧ mgl M = gl_J7) : ck_tb cw_V RJ7 true M := by
  obtain ⟨h1, h2, h3, h4, h5, h6, h7, h8, h9⟩ := h
  intro s args tys meth sw hts htl hnc hin hsw
  rw [h1, h2, h3, h4, h5, h6, h7, h8, h9]
  exact ⟨pfl_J7 hts, ppI_J7 hts (hin rfl), pnw_J7 hts, pkl_J7 hts, pil_J7 hts hnc, pxl_J7 hts hnc, cw_pal hnc htl, fun i hi b => pgl_J7 hts hsw b i hi⟩
end
section
/-! methods, 0 -/
theorem hd_X11_isSource : yX11_isSource.cls ≠ "java/lang/invoke/MethodHandle" ∧ yX11_isSource.cls ≠ "java/lang/invoke/VarHandle" ∧ (parseMethodDescriptor yX11_isSource.desc).map (fun d => d.parameters.length) = some 1 := ⟨by decide, by decide, by decide +kernel⟩
theorem he_X11_isSource : yX11_isSource.cls ≠ "java/lang/invoke/MethodHandle" ∧ yX11_isSource.cls ≠ "java/lang/invoke/VarHandle" ∧ (parseMethodDescriptor yX11_isSource.desc).map (fun d => d.parameters.length + 1) = some 2 := ⟨by decide, by decide, by decide +kernel⟩
theorem pn_X11_isSource : plainFor yX11_isSource = true := by decide +kernel
def K_X11_isSource : ck_cd := [(0, .iload_n 0, 1), (1, .ifCond .lt 13, 3), (4, .iload_n 0, 1), (5, .bipush 6, 2), (7, .if_icmp .ge 7, 3), (10, .iconst 1, 1), (11, .goto 4, 3), (14, .iconst 0, 1), (15, .ireturn, 1)]
theorem k_X11_isSource : ∀ x ∈ K_X11_isSource, decode cX11_isSource x.1 = .ok (x.2.1, x.2.2) := by decide +kernel
def C_X11_isSource : ck_C := (([(0, 1, [])], [], [(0, 0), ((-2147483648), 2147483647)], []), [([(0, 2, [])], [], [(1, 0), (1, 0), (1, 1)], [(1, 0, 5), (0, 1, 0)]), ([(0, 2, [])], [], [(1, 0), (1, 0), (0, 0)], [(0, 1, (-6))]), ([(0, 2, [])], [], [(1, 0), (1, 0), (0, 0)], [(1, 0, (-1))])], [], 0, 0)
def M_X11_isSource : ck_Me := (4, cw_TT, cw_SG, 1, fl_X11, pl_X11, nw_X11, kl_X11, il_X11, xl_X11, cw_al, [], [], (0, 0), gl_X11)
def I_X11_isSource : List (Nat × ck_I) := []
def S_X11_isSource : ck_S := ([(0, (0, 1, []))], [], [(0, 1000, (8, 0, [])), (0, 1001, (8, 1, []))], [(0, 0), ((-2147483648), 2147483647)], [], 0, 0)
theorem h_X11_isSource : ck_chk M_X11_isSource (ck_kr (mF M_X11_isSource) 2 2 C_X11_isSource) [] K_X11_isSource I_X11_isSource 2 14 S_X11_isSource = true := by decide +kernel
theorem o_X11_isSource : ck_ok5 C_X11_isSource = true := by decide +kernel
theorem a_X11_isSource : ck_ca cw_V RX11 cX11_isSource ⟨0, 0, 0, 0⟩ M_X11_isSource := fun _ _ _ _ _ _ _ _ _ _ _ _ _ _ _ _ _ _ _ _ h => absurd h List.not_mem_nil
theorem t_X11_isSource (l : Launch) : ck_met cw_V l yX11_isSource cX11_isSource 1 (some .boolean) ⟨0, 0, 0, 0⟩ C_X11_isSource :=
  ck_meth (M := M_X11_isSource) (rt := 2) (pre := []) false  pn_X11_isSource rfl (fun h => by cases h) ⟨rfl, rfl, rfl, rfl, rfl⟩ ⟨rfl, rfl⟩ rfl (by decide) (by decide) (by decide) k_X11_isSource (tb_X11 ⟨rfl, rfl, rfl, rfl, rfl, rfl, rfl, rfl, rfl⟩) a_X11_isSource h_X11_isSource rfl
theorem hd_X11_trust : yX11_trust.cls ≠ "java/lang/invoke/MethodHandle" ∧ yX11_trust.cls ≠ "java/lang/invoke/VarHandle" ∧ (parseMethodDescriptor yX11_trust.desc).map (fun d => d.parameters.length) = some 2 := ⟨by decide, by decide, by decide +kernel⟩
theorem he_X11_trust : yX11_trust.cls ≠ "java/lang/invoke/MethodHandle" ∧ yX11_trust.cls ≠ "java/lang/invoke/VarHandle" ∧ (parseMethodDescriptor yX11_trust.desc).map (fun d => d.parameters.length + 1) = some 3 := ⟨by decide, by decide, by decide +kernel⟩
theorem pn_X11_trust : plainFor yX11_trust = true := by decide +kernel
def K_X11_trust : ck_cd := [(0, .iload_n 1, 1), (1, .invokestatic 162, 3), (4, .ifCond .ne 5, 3), (7, .iconst (-1), 1), (8, .ireturn, 1), (9, .iload_n 2, 1), (10, .iconst 1, 1), (11, .if_icmp .lt 9, 3), (14, .iload_n 2, 1), (15, .bipush 9, 2), (17, .if_icmp .le 6, 3), (20, .bipush (-2), 2), (22, .ireturn, 1), (23, .aload_n 0, 1), (24, .getfield 41, 3), (27, .getfield 165, 3), (30, .iload_n 1, 1), (31, .iaload, 1), (32, .istore_n 3, 1), (33, .aload_n 0, 1), (34, .getfield 41, 3), (37, .getfield 165, 3), (40, .iload_n 1, 1), (41, .iload_n 2, 1), (42, .iastore, 1), (43, .iload_n 3, 1), (44, .ireturn, 1)]
theorem k_X11_trust : ∀ x ∈ K_X11_trust, decode cX11_trust x.1 = .ok (x.2.1, x.2.2) := by decide +kernel
def C_X11_trust : ck_C := (([(2, 1, [11]), (0, 2, []), (0, 3, [])], [(27, 0, (50, 10, [4, 5, 6, 7, 8, 9]))], [(0, 0), (1, 0), ((-2147483648), (-1)), ((-2147483648), 2147483647), ((-2147483648), 2147483647), ((-2147483648), 2147483647), ((-2147483648), 2147483647), ((-2147483648), 2147483647), ((-2147483648), 2147483647), ((-2147483648), 2147483647), (1, 0)], []), [([(0, 11, [])], [(27, 0, (50, 12, [13, 14, 15, 16, 17, 18]))], [(1, 0), (1, 0), (1, 0), (1, 0), (1, 0), (1, 0), (1, 0), (1, 0), (1, 0), (1, 0), (1, 0), ((-1), (-1)), (1, 0), ((-2147483648), 2147483647), ((-2147483648), 2147483647), ((-2147483648), 2147483647), ((-2147483648), 2147483647), ((-2147483648), 2147483647), ((-2147483648), 2147483647)], [(13, 4, 0), (14, 5, 0), (15, 6, 0), (16, 7, 0), (17, 8, 0), (18, 9, 0), (4, 13, 0), (5, 14, 0), (6, 15, 0), (7, 16, 0), (8, 17, 0), (9, 18, 0)])], [(27, 0)], 0, 0)
def M_X11_trust : ck_Me := (4, cw_TT, cw_SG, 4, fl_X11, pl_X11, nw_X11, kl_X11, il_X11, xl_X11, cw_al, [(3 * 162 + 1, 0, 1, C_X11_isSource)], [(27, 0)], (0, 0), gl_X11)
def I_X11_trust : List (Nat × ck_I) := []
def S_X11_trust : ck_S := ([(0, (2, 1, [11])), (1, (0, 2, [])), (2, (0, 3, []))], [], [(27, 0, (50, 10, [4, 5, 6, 7, 8, 9])), (0, 1000, (8, 0, [])), (0, 1001, (8, 1, [])), (0, 1002, (8, 2, [])), (0, 1003, (8, 3, [])), (0, 1004, (8, 4, [])), (0, 1005, (8, 5, [])), (0, 1006, (8, 6, [])), (0, 1007, (8, 7, [])), (0, 1008, (8, 8, [])), (0, 1009, (8, 9, [])), (0, 1010, (8, 10, []))], [(0, 0), (1, 0), ((-2147483648), (-1)), ((-2147483648), 2147483647), ((-2147483648), 2147483647), ((-2147483648), 2147483647), ((-2147483648), 2147483647), ((-2147483648), 2147483647), ((-2147483648), 2147483647), ((-2147483648), 2147483647), (1, 0)], [], 0, 0)
theorem h_X11_trust : ck_chk M_X11_trust (ck_kr (mF M_X11_trust) 11 1 C_X11_trust) [] K_X11_trust I_X11_trust 11 32 S_X11_trust = true := by decide +kernel
theorem o_X11_trust : ck_ok5 C_X11_trust = true := by decide +kernel
theorem a_X11_trust : ck_ca cw_V RX11 cX11_trust ⟨1, 0, 0, 20⟩ M_X11_trust := fun _ l _ _ _ _ _ _ _ _ _ _ _ _ X hts htl hsw hnq =>
  (List.forall_mem_cons.mpr ⟨ck_cs_S (t_X11_isSource l) X hts htl hsw hnq ⟨rfl, rfl⟩ o_X11_isSource cw_good (ck_m4 tw_571 tw_572 tw_95 tw_573) hd_X11_isSource ⟨rfl, rfl⟩ ⟨by decide, by decide⟩, (fun _ h => absurd h List.not_mem_nil)⟩)
theorem t_X11_trust (l : Launch) : ck_met cw_V l yX11_trust cX11_trust 4 (some .int) ⟨1, 0, 0, 20⟩ C_X11_trust :=
  ck_meth (M := M_X11_trust) (rt := 1) (pre := []) false  pn_X11_trust rfl (fun h => by cases h) ⟨rfl, rfl, rfl, rfl, rfl⟩ ⟨rfl, rfl⟩ rfl (by decide) (by decide) (by decide) k_X11_trust (tb_X11 ⟨rfl, rfl, rfl, rfl, rfl, rfl, rfl, rfl, rfl⟩) a_X11_trust h_X11_trust rfl
def C_X11_trust_v2 : ck_C := (([(2, 1, [11]), (0, 2, []), (0, 3, [])], [(27, 0, (50, 10, [4, 5, 6, 7, 8, 9]))], [(0, 0), (1, 0), (0, 0), ((-2147483648), 2147483647), ((-2147483648), 2147483647), ((-2147483648), 2147483647), ((-2147483648), 2147483647), ((-2147483648), 2147483647), ((-2147483648), 2147483647), ((-2147483648), 2147483647), (1, 0)], []), [([(0, 11, [])], [(27, 0, (50, 12, [13, 14, 15, 16, 17, 18]))], [(1, 0), (1, 0), (1, 0), (1, 0), (1, 0), (1, 0), (1, 0), (1, 0), (1, 0), (1, 0), (1, 0), ((-2), (-2)), (1, 0), ((-2147483648), 2147483647), ((-2147483648), 2147483647), ((-2147483648), 2147483647), ((-2147483648), 2147483647), ((-2147483648), 2147483647), ((-2147483648), 2147483647)], [(0, 3, (-10)), (13, 4, 0), (14, 5, 0), (15, 6, 0), (16, 7, 0), (17, 8, 0), (18, 9, 0), (4, 13, 0), (5, 14, 0), (6, 15, 0), (7, 16, 0), (8, 17, 0), (9, 18, 0)]), ([(0, 11, [])], [(27, 0, (50, 12, [13, 14, 15, 16, 17, 18]))], [(1, 0), (1, 0), (1, 0), (1, 0), (1, 0), (1, 0), (1, 0), (1, 0), (1, 0), (1, 0), (1, 0), ((-2147483648), 2147483647), (1, 0), (1, 9), ((-2147483648), 2147483647), ((-2147483648), 2147483647), ((-2147483648), 2147483647), ((-2147483648), 2147483647), ((-2147483648), 2147483647)], [(3, 0, 9), (0, 3, (-1)), (13, 3, 0), (14, 5, 0), (15, 6, 0), (16, 7, 0), (17, 8, 0), (18, 9, 0), (11, 4, 0), (3, 13, 0), (4, 11, 0), (5, 14, 0), (6, 15, 0), (7, 16, 0), (8, 17, 0), (9, 18, 0)]), ([(0, 11, [])], [(27, 0, (50, 12, [13, 14, 15, 16, 17, 18]))], [(1, 0), (1, 0), (1, 0), (1, 0), (1, 0), (1, 0), (1, 0), (1, 0), (1, 0), (1, 0), (1, 0), ((-2), (-2)), (1, 0), ((-2147483648), 2147483647), ((-2147483648), 2147483647), ((-2147483648), 2147483647), ((-2147483648), 2147483647), ((-2147483648), 2147483647), ((-2147483648), 2147483647)], [(3, 0, 0), (13, 4, 0), (14, 5, 0), (15, 6, 0), (16, 7, 0), (17, 8, 0), (18, 9, 0), (4, 13, 0), (5, 14, 0), (6, 15, 0), (7, 16, 0), (8, 17, 0), (9, 18, 0)])], [(27, 0)], 0, 0)
def M_X11_trust_v2 : ck_Me := (4, cw_TT, cw_SG, 4, fl_X11, pl_X11, nw_X11, kl_X11, il_X11, xl_X11, cw_al, [(3 * 162 + 1, 0, 1, C_X11_isSource)], [(27, 0)], (0, 0), gl_X11)
def I_X11_trust_v2 : List (Nat × ck_I) := []
def S_X11_trust_v2 : ck_S := ([(0, (2, 1, [11])), (1, (0, 2, [])), (2, (0, 3, []))], [], [(27, 0, (50, 10, [4, 5, 6, 7, 8, 9])), (0, 1000, (8, 0, [])), (0, 1001, (8, 1, [])), (0, 1002, (8, 2, [])), (0, 1003, (8, 3, [])), (0, 1004, (8, 4, [])), (0, 1005, (8, 5, [])), (0, 1006, (8, 6, [])), (0, 1007, (8, 7, [])), (0, 1008, (8, 8, [])), (0, 1009, (8, 9, [])), (0, 1010, (8, 10, []))], [(0, 0), (1, 0), (0, 0), ((-2147483648), 2147483647), ((-2147483648), 2147483647), ((-2147483648), 2147483647), ((-2147483648), 2147483647), ((-2147483648), 2147483647), ((-2147483648), 2147483647), ((-2147483648), 2147483647), (1, 0)], [], 0, 0)
def sp_X11_trust_v2 : ck_spc := [(31, 32, ck_sCl 4 27 6), (42, 43, ck_sCs 4 27 6 (-2147483648) 2147483647)]
theorem h_X11_trust_v2 : ck_chk M_X11_trust_v2 (ck_kr (mF M_X11_trust_v2) 11 1 C_X11_trust_v2) sp_X11_trust_v2 K_X11_trust I_X11_trust_v2 11 32 S_X11_trust_v2 = true := by decide +kernel
theorem o_X11_trust_v2 : ck_ok5 C_X11_trust_v2 = true := by decide +kernel
theorem a_X11_trust_v2 : ck_ca cw_V RX11 cX11_trust ⟨1, 0, 0, 20⟩ M_X11_trust_v2 := fun _ l _ _ _ _ _ _ _ _ _ _ _ _ X hts htl hsw hnq =>
  (List.forall_mem_cons.mpr ⟨ck_cs_S (t_X11_isSource l) X hts htl hsw hnq ⟨rfl, rfl⟩ o_X11_isSource cw_good (ck_m4 tw_571 tw_572 tw_95 tw_573) hd_X11_isSource ⟨rfl, rfl⟩ ⟨by decide, by decide⟩, (fun _ h => absurd h List.not_mem_nil)⟩)
theorem t_X11_trust_v2 (l : Launch) : ck_met cw_V l yX11_trust cX11_trust 4 (some .int) ⟨1, 0, 0, 20⟩ C_X11_trust_v2 :=
  ck_methS (sp := sp_X11_trust_v2) (M := M_X11_trust_v2) (rt := 1) (pre := []) false (fun p l e s m As below meth c D tys ws sh n1 sw X hts htl hsw hnq hret hph hpo hwo => (List.forall_mem_cons.mpr ⟨fun S L hS b hb hk => ck_sCl_ok (F := 4) (t := 27) (len := 6) (X b) rfl hS hk (k_X11_trust (31, .iaload, 1) (List.mem_of_getElem? (i := 17) rfl)), (List.forall_mem_cons.mpr ⟨fun S L hS b hb hk => ck_sCs_ok (F := 4) (t := 27) (len := 6) (lo := -2147483648) (hi := 2147483647) (X b) rfl (by decide +kernel) hS hk (k_X11_trust (42, .iastore, 1) (List.mem_of_getElem? (i := 24) rfl)), (fun _ h => absurd h List.not_mem_nil)⟩)⟩)) pn_X11_trust rfl (fun h => by cases h) ⟨rfl, rfl, rfl, rfl, rfl⟩ ⟨rfl, rfl⟩ rfl (by decide) (by decide) (by decide) k_X11_trust (tb_X11 ⟨rfl, rfl, rfl, rfl, rfl, rfl, rfl, rfl, rfl⟩) a_X11_trust_v2 h_X11_trust_v2 rfl
def C_X11_trust_v3 : ck_C := (([(2, 1, [11]), (0, 2, []), (0, 3, [])], [(27, 0, (50, 10, [4, 5, 6, 7, 8, 9]))], [(0, 0), (1, 0), (1, 1), ((-2147483648), 2147483647), ((-2147483648), 2147483647), ((-2147483648), 2147483647), ((-2147483648), 2147483647), ((-2147483648), 2147483647), ((-2147483648), 2147483647), ((-2147483648), 2147483647), (1, 0)], []), [([(0, 11, [])], [(27, 0, (50, 12, [13, 14, 15, 16, 17, 18]))], [(1, 0), (1, 0), (1, 0), (1, 0), (1, 0), (1, 0), (1, 0), (1, 0), (1, 0), (1, 0), (1, 0), ((-2), (-2)), (1, 0), ((-2147483648), 2147483647), ((-2147483648), 2147483647), ((-2147483648), 2147483647), ((-2147483648), 2147483647), ((-2147483648), 2147483647), ((-2147483648), 2147483647)], [(0, 3, (-10)), (13, 4, 0), (14, 5, 0), (15, 6, 0), (16, 7, 0), (17, 8, 0), (18, 9, 0), (4, 13, 0), (5, 14, 0), (6, 15, 0), (7, 16, 0), (8, 17, 0), (9, 18, 0)]), ([(0, 11, [])], [(27, 0, (50, 12, [13, 14, 15, 16, 17, 18]))], [(1, 0), (1, 0), (1, 0), (1, 0), (1, 0), (1, 0), (1, 0), (1, 0), (1, 0), (1, 0), (1, 0), ((-2147483648), 2147483647), (1, 0), ((-2147483648), 2147483647), (1, 9), ((-2147483648), 2147483647), ((-2147483648), 2147483647), ((-2147483648), 2147483647), ((-2147483648), 2147483647)], [(3, 0, 9), (0, 3, (-1)), (13, 4, 0), (14, 3, 0), (15, 6, 0), (16, 7, 0), (17, 8, 0), (18, 9, 0), (11, 5, 0), (3, 14, 0), (4, 13, 0), (5, 11, 0), (6, 15, 0), (7, 16, 0), (8, 17, 0), (9, 18, 0)]), ([(0, 11, [])], [(27, 0, (50, 12, [13, 14, 15, 16, 17, 18]))], [(1, 0), (1, 0), (1, 0), (1, 0), (1, 0), (1, 0), (1, 0), (1, 0), (1, 0), (1, 0), (1, 0), ((-2), (-2)), (1, 0), ((-2147483648), 2147483647), ((-2147483648), 2147483647), ((-2147483648), 2147483647), ((-2147483648), 2147483647), ((-2147483648), 2147483647), ((-2147483648), 2147483647)], [(3, 0, 0), (13, 4, 0), (14, 5, 0), (15, 6, 0), (16, 7, 0), (17, 8, 0), (18, 9, 0), (4, 13, 0), (5, 14, 0), (6, 15, 0), (7, 16, 0), (8, 17, 0), (9, 18, 0)])], [(27, 0)], 0, 0)
def M_X11_trust_v3 : ck_Me := (4, cw_TT, cw_SG, 4, fl_X11, pl_X11, nw_X11, kl_X11, il_X11, xl_X11, cw_al, [(3 * 162 + 1, 0, 1, C_X11_isSource)], [(27, 0)], (0, 0), gl_X11)
def I_X11_trust_v3 : List (Nat × ck_I) := []
def S_X11_trust_v3 : ck_S := ([(0, (2, 1, [11])), (1, (0, 2, [])), (2, (0, 3, []))], [], [(27, 0, (50, 10, [4, 5, 6, 7, 8, 9])), (0, 1000, (8, 0, [])), (0, 1001, (8, 1, [])), (0, 1002, (8, 2, [])), (0, 1003, (8, 3, [])), (0, 1004, (8, 4, [])), (0, 1005, (8, 5, [])), (0, 1006, (8, 6, [])), (0, 1007, (8, 7, [])), (0, 1008, (8, 8, [])), (0, 1009, (8, 9, [])), (0, 1010, (8, 10, []))], [(0, 0), (1, 0), (1, 1), ((-2147483648), 2147483647), ((-2147483648), 2147483647), ((-2147483648), 2147483647), ((-2147483648), 2147483647), ((-2147483648), 2147483647), ((-2147483648), 2147483647), ((-2147483648), 2147483647), (1, 0)], [], 0, 0)
def sp_X11_trust_v3 : ck_spc := [(31, 32, ck_sCl 4 27 6), (42, 43, ck_sCs 4 27 6 (-2147483648) 2147483647)]
theorem h_X11_trust_v3 : ck_chk M_X11_trust_v3 (ck_kr (mF M_X11_trust_v3) 11 1 C_X11_trust_v3) sp_X11_trust_v3 K_X11_trust I_X11_trust_v3 11 32 S_X11_trust_v3 = true := by decide +kernel
theorem o_X11_trust_v3 : ck_ok5 C_X11_trust_v3 = true := by decide +kernel
theorem a_X11_trust_v3 : ck_ca cw_V RX11 cX11_trust ⟨1, 0, 0, 20⟩ M_X11_trust_v3 := fun _ l _ _ _ _ _ _ _ _ _ _ _ _ X hts htl hsw hnq =>
  (List.forall_mem_cons.mpr ⟨ck_cs_S (t_X11_isSource l) X hts htl hsw hnq ⟨rfl, rfl⟩ o_X11_isSource cw_good (ck_m4 tw_571 tw_572 tw_95 tw_573) hd_X11_isSource ⟨rfl, rfl⟩ ⟨by decide, by decide⟩, (fun _ h => absurd h List.not_mem_nil)⟩)
theorem t_X11_trust_v3 (l : Launch) : ck_met cw_V l yX11_trust cX11_trust 4 (some .int) ⟨1, 0, 0, 20⟩ C_X11_trust_v3 :=
  ck_methS (sp := sp_X11_trust_v3) (M := M_X11_trust_v3) (rt := 1) (pre := []) false (fun p l e s m As below meth c D tys ws sh n1 sw X hts htl hsw hnq hret hph hpo hwo => (List.forall_mem_cons.mpr ⟨fun S L hS b hb hk => ck_sCl_ok (F := 4) (t := 27) (len := 6) (X b) rfl hS hk (k_X11_trust (31, .iaload, 1) (List.mem_of_getElem? (i := 17) rfl)), (List.forall_mem_cons.mpr ⟨fun S L hS b hb hk => ck_sCs_ok (F := 4) (t := 27) (len := 6) (lo := -2147483648) (hi := 2147483647) (X b) rfl (by decide +kernel) hS hk (k_X11_trust (42, .iastore, 1) (List.mem_of_getElem? (i := 24) rfl)), (fun _ h => absurd h List.not_mem_nil)⟩)⟩)) pn_X11_trust rfl (fun h => by cases h) ⟨rfl, rfl, rfl, rfl, rfl⟩ ⟨rfl, rfl⟩ rfl (by decide) (by decide) (by decide) k_X11_trust (tb_X11 ⟨rfl, rfl, rfl, rfl, rfl, rfl, rfl, rfl, rfl⟩) a_X11_trust_v3 h_X11_trust_v3 rfl
def C_X11_trust_v4 : ck_C := (([(2, 1, [11]), (0, 2, []), (0, 3, [])], [(27, 0, (50, 10, [4, 5, 6, 7, 8, 9]))], [(0, 0), (1, 0), (2, 2), ((-2147483648), 2147483647), ((-2147483648), 2147483647), ((-2147483648), 2147483647), ((-2147483648), 2147483647), ((-2147483648), 2147483647), ((-2147483648), 2147483647), ((-2147483648), 2147483647), (1, 0)], []), [([(0, 11, [])], [(27, 0, (50, 12, [13, 14, 15, 16, 17, 18]))], [(1, 0), (1, 0), (1, 0), (1, 0), (1, 0), (1, 0), (1, 0), (1, 0), (1, 0), (1, 0), (1, 0), ((-2), (-2)), (1, 0), ((-2147483648), 2147483647), ((-2147483648), 2147483647), ((-2147483648), 2147483647), ((-2147483648), 2147483647), ((-2147483648), 2147483647), ((-2147483648), 2147483647)], [(0, 3, (-10)), (13, 4, 0), (14, 5, 0), (15, 6, 0), (16, 7, 0), (17, 8, 0), (18, 9, 0), (4, 13, 0), (5, 14, 0), (6, 15, 0), (7, 16, 0), (8, 17, 0), (9, 18, 0)]), ([(0, 11, [])], [(27, 0, (50, 12, [13, 14, 15, 16, 17, 18]))], [(1, 0), (1, 0), (1, 0), (1, 0), (1, 0), (1, 0), (1, 0), (1, 0), (1, 0), (1, 0), (1, 0), ((-2147483648), 2147483647), (1, 0), ((-2147483648), 2147483647), ((-2147483648), 2147483647), (1, 9), ((-2147483648), 2147483647), ((-2147483648), 2147483647), ((-2147483648), 2147483647)], [(3, 0, 9), (0, 3, (-1)), (13, 4, 0), (14, 5, 0), (15, 3, 0), (16, 7, 0), (17, 8, 0), (18, 9, 0), (11, 6, 0), (3, 15, 0), (4, 13, 0), (5, 14, 0), (6, 11, 0), (7, 16, 0), (8, 17, 0), (9, 18, 0)]), ([(0, 11, [])], [(27, 0, (50, 12, [13, 14, 15, 16, 17, 18]))], [(1, 0), (1, 0), (1, 0), (1, 0), (1, 0), (1, 0), (1, 0), (1, 0), (1, 0), (1, 0), (1, 0), ((-2), (-2)), (1, 0), ((-2147483648), 2147483647), ((-2147483648), 2147483647), ((-2147483648), 2147483647), ((-2147483648), 2147483647), ((-2147483648), 2147483647), ((-2147483648), 2147483647)], [(3, 0, 0), (13, 4, 0), (14, 5, 0), (15, 6, 0), (16, 7, 0), (17, 8, 0), (18, 9, 0), (4, 13, 0), (5, 14, 0), (6, 15, 0), (7, 16, 0), (8, 17, 0), (9, 18, 0)])], [(27, 0)], 0, 0)
def M_X11_trust_v4 : ck_Me := (4, cw_TT, cw_SG, 4, fl_X11, pl_X11, nw_X11, kl_X11, il_X11, xl_X11, cw_al, [(3 * 162 + 1, 0, 1, C_X11_isSource)], [(27, 0)], (0, 0), gl_X11)
def I_X11_trust_v4 : List (Nat × ck_I) := []
def S_X11_trust_v4 : ck_S := ([(0, (2, 1, [11])), (1, (0, 2, [])), (2, (0, 3, []))], [], [(27, 0, (50, 10, [4, 5, 6, 7, 8, 9])), (0, 1000, (8, 0, [])), (0, 1001, (8, 1, [])), (0, 1002, (8, 2, [])), (0, 1003, (8, 3, [])), (0, 1004, (8, 4, [])), (0, 1005, (8, 5, [])), (0, 1006, (8, 6, [])), (0, 1007, (8, 7, [])), (0, 1008, (8, 8, [])), (0, 1009, (8, 9, [])), (0, 1010, (8, 10, []))], [(0, 0), (1, 0), (2, 2), ((-2147483648), 2147483647), ((-2147483648), 2147483647), ((-2147483648), 2147483647), ((-2147483648), 2147483647), ((-2147483648), 2147483647), ((-2147483648), 2147483647), ((-2147483648), 2147483647), (1, 0)], [], 0, 0)
def sp_X11_trust_v4 : ck_spc := [(31, 32, ck_sCl 4 27 6), (42, 43, ck_sCs 4 27 6 (-2147483648) 2147483647)]
theorem h_X11_trust_v4 : ck_chk M_X11_trust_v4 (ck_kr (mF M_X11_trust_v4) 11 1 C_X11_trust_v4) sp_X11_trust_v4 K_X11_trust I_X11_trust_v4 11 32 S_X11_trust_v4 = true := by decide +kernel
theorem o_X11_trust_v4 : ck_ok5 C_X11_trust_v4 = true := by decide +kernel
theorem a_X11_trust_v4 : ck_ca cw_V RX11 cX11_trust ⟨1, 0, 0, 20⟩ M_X11_trust_v4 := fun _ l _ _ _ _ _ _ _ _ _ _ _ _ X hts htl hsw hnq =>
  (List.forall_mem_cons.mpr ⟨ck_cs_S (t_X11_isSource l) X hts htl hsw hnq ⟨rfl, rfl⟩ o_X11_isSource cw_good (ck_m4 tw_571 tw_572 tw_95 tw_573) hd_X11_isSource ⟨rfl, rfl⟩ ⟨by decide, by decide⟩, (fun _ h => absurd h List.not_mem_nil)⟩)
theorem t_X11_trust_v4 (l : Launch) : ck_met cw_V l yX11_trust cX11_trust 4 (some .int) ⟨1, 0, 0, 20⟩ C_X11_trust_v4 :=
  ck_methS (sp := sp_X11_trust_v4) (M := M_X11_trust_v4) (rt := 1) (pre := []) false (fun p l e s m As below meth c D tys ws sh n1 sw X hts htl hsw hnq hret hph hpo hwo => (List.forall_mem_cons.mpr ⟨fun S L hS b hb hk => ck_sCl_ok (F := 4) (t := 27) (len := 6) (X b) rfl hS hk (k_X11_trust (31, .iaload, 1) (List.mem_of_getElem? (i := 17) rfl)), (List.forall_mem_cons.mpr ⟨fun S L hS b hb hk => ck_sCs_ok (F := 4) (t := 27) (len := 6) (lo := -2147483648) (hi := 2147483647) (X b) rfl (by decide +kernel) hS hk (k_X11_trust (42, .iastore, 1) (List.mem_of_getElem? (i := 24) rfl)), (fun _ h => absurd h List.not_mem_nil)⟩)⟩)) pn_X11_trust rfl (fun h => by cases h) ⟨rfl, rfl, rfl, rfl, rfl⟩ ⟨rfl, rfl⟩ rfl (by decide) (by decide) (by decide) k_X11_trust (tb_X11 ⟨rfl, rfl, rfl, rfl, rfl, rfl, rfl, rfl, rfl⟩) a_X11_trust_v4 h_X11_trust_v4 rfl
def C_X11_trust_v5 : ck_C := (([(2, 1, [11]), (0, 2, []), (0, 3, [])], [(27, 0, (50, 10, [4, 5, 6, 7, 8, 9]))], [(0, 0), (1, 0), (3, 3), ((-2147483648), 2147483647), ((-2147483648), 2147483647), ((-2147483648), 2147483647), ((-2147483648), 2147483647), ((-2147483648), 2147483647), ((-2147483648), 2147483647), ((-2147483648), 2147483647), (1, 0)], []), [([(0, 11, [])], [(27, 0, (50, 12, [13, 14, 15, 16, 17, 18]))], [(1, 0), (1, 0), (1, 0), (1, 0), (1, 0), (1, 0), (1, 0), (1, 0), (1, 0), (1, 0), (1, 0), ((-2), (-2)), (1, 0), ((-2147483648), 2147483647), ((-2147483648), 2147483647), ((-2147483648), 2147483647), ((-2147483648), 2147483647), ((-2147483648), 2147483647), ((-2147483648), 2147483647)], [(0, 3, (-10)), (13, 4, 0), (14, 5, 0), (15, 6, 0), (16, 7, 0), (17, 8, 0), (18, 9, 0), (4, 13, 0), (5, 14, 0), (6, 15, 0), (7, 16, 0), (8, 17, 0), (9, 18, 0)]), ([(0, 11, [])], [(27, 0, (50, 12, [13, 14, 15, 16, 17, 18]))], [(1, 0), (1, 0), (1, 0), (1, 0), (1, 0), (1, 0), (1, 0), (1, 0), (1, 0), (1, 0), (1, 0), ((-2147483648), 2147483647), (1, 0), ((-2147483648), 2147483647), ((-2147483648), 2147483647), ((-2147483648), 2147483647), (1, 9), ((-2147483648), 2147483647), ((-2147483648), 2147483647)], [(3, 0, 9), (0, 3, (-1)), (13, 4, 0), (14, 5, 0), (15, 6, 0), (16, 3, 0), (17, 8, 0), (18, 9, 0), (11, 7, 0), (3, 16, 0), (4, 13, 0), (5, 14, 0), (6, 15, 0), (7, 11, 0), (8, 17, 0), (9, 18, 0)]), ([(0, 11, [])], [(27, 0, (50, 12, [13, 14, 15, 16, 17, 18]))], [(1, 0), (1, 0), (1, 0), (1, 0), (1, 0), (1, 0), (1, 0), (1, 0), (1, 0), (1, 0), (1, 0), ((-2), (-2)), (1, 0), ((-2147483648), 2147483647), ((-2147483648), 2147483647), ((-2147483648), 2147483647), ((-2147483648), 2147483647), ((-2147483648), 2147483647), ((-2147483648), 2147483647)], [(3, 0, 0), (13, 4, 0), (14, 5, 0), (15, 6, 0), (16, 7, 0), (17, 8, 0), (18, 9, 0), (4, 13, 0), (5, 14, 0), (6, 15, 0), (7, 16, 0), (8, 17, 0), (9, 18, 0)])], [(27, 0)], 0, 0)
def M_X11_trust_v5 : ck_Me := (4, cw_TT, cw_SG, 4, fl_X11, pl_X11, nw_X11, kl_X11, il_X11, xl_X11, cw_al, [(3 * 162 + 1, 0, 1, C_X11_isSource)], [(27, 0)], (0, 0), gl_X11)
def I_X11_trust_v5 : List (Nat × ck_I) := []
def S_X11_trust_v5 : ck_S := ([(0, (2, 1, [11])), (1, (0, 2, [])), (2, (0, 3, []))], [], [(27, 0, (50, 10, [4, 5, 6, 7, 8, 9])), (0, 1000, (8, 0, [])), (0, 1001, (8, 1, [])), (0, 1002, (8, 2, [])), (0, 1003, (8, 3, [])), (0, 1004, (8, 4, [])), (0, 1005, (8, 5, [])), (0, 1006, (8, 6, [])), (0, 1007, (8, 7, [])), (0, 1008, (8, 8, [])), (0, 1009, (8, 9, [])), (0, 1010, (8, 10, []))], [(0, 0), (1, 0), (3, 3), ((-2147483648), 2147483647), ((-2147483648), 2147483647), ((-2147483648), 2147483647), ((-2147483648), 2147483647), ((-2147483648), 2147483647), ((-2147483648), 2147483647), ((-2147483648), 2147483647), (1, 0)], [], 0, 0)
def sp_X11_trust_v5 : ck_spc := [(31, 32, ck_sCl 4 27 6), (42, 43, ck_sCs 4 27 6 (-2147483648) 2147483647)]
theorem h_X11_trust_v5 : ck_chk M_X11_trust_v5 (ck_kr (mF M_X11_trust_v5) 11 1 C_X11_trust_v5) sp_X11_trust_v5 K_X11_trust I_X11_trust_v5 11 32 S_X11_trust_v5 = true := by decide +kernel
theorem o_X11_trust_v5 : ck_ok5 C_X11_trust_v5 = true := by decide +kernel
theorem a_X11_trust_v5 : ck_ca cw_V RX11 cX11_trust ⟨1, 0, 0, 20⟩ M_X11_trust_v5 := fun _ l _ _ _ _ _ _ _ _ _ _ _ _ X hts htl hsw hnq =>
  (List.forall_mem_cons.mpr ⟨ck_cs_S (t_X11_isSource l) X hts htl hsw hnq ⟨rfl, rfl⟩ o_X11_isSource cw_good (ck_m4 tw_571 tw_572 tw_95 tw_573) hd_X11_isSource ⟨rfl, rfl⟩ ⟨by decide, by decide⟩, (fun _ h => absurd h List.not_mem_nil)⟩)
theorem t_X11_trust_v5 (l : Launch) : ck_met cw_V l yX11_trust cX11_trust 4 (some .int) ⟨1, 0, 0, 20⟩ C_X11_trust_v5 :=
  ck_methS (sp := sp_X11_trust_v5) (M := M_X11_trust_v5) (rt := 1) (pre := []) false (fun p l e s m As below meth c D tys ws sh n1 sw X hts htl hsw hnq hret hph hpo hwo => (List.forall_mem_cons.mpr ⟨fun S L hS b hb hk => ck_sCl_ok (F := 4) (t := 27) (len := 6) (X b) rfl hS hk (k_X11_trust (31, .iaload, 1) (List.mem_of_getElem? (i := 17) rfl)), (List.forall_mem_cons.mpr ⟨fun S L hS b hb hk => ck_sCs_ok (F := 4) (t := 27) (len := 6) (lo := -2147483648) (hi := 2147483647) (X b) rfl (by decide +kernel) hS hk (k_X11_trust (42, .iastore, 1) (List.mem_of_getElem? (i := 24) rfl)), (fun _ h => absurd h List.not_mem_nil)⟩)⟩)) pn_X11_trust rfl (fun h => by cases h) ⟨rfl, rfl, rfl, rfl, rfl⟩ ⟨rfl, rfl⟩ rfl (by decide) (by decide) (by decide) k_X11_trust (tb_X11 ⟨rfl, rfl, rfl, rfl, rfl, rfl, rfl, rfl, rfl⟩) a_X11_trust_v5 h_X11_trust_v5 rfl
def C_X11_trust_v6 : ck_C := (([(2, 1, [11]), (0, 2, []), (0, 3, [])], [(27, 0, (50, 10, [4, 5, 6, 7, 8, 9]))], [(0, 0), (1, 0), (4, 4), ((-2147483648), 2147483647), ((-2147483648), 2147483647), ((-2147483648), 2147483647), ((-2147483648), 2147483647), ((-2147483648), 2147483647), ((-2147483648), 2147483647), ((-2147483648), 2147483647), (1, 0)], []), [([(0, 11, [])], [(27, 0, (50, 12, [13, 14, 15, 16, 17, 18]))], [(1, 0), (1, 0), (1, 0), (1, 0), (1, 0), (1, 0), (1, 0), (1, 0), (1, 0), (1, 0), (1, 0), ((-2), (-2)), (1, 0), ((-2147483648), 2147483647), ((-2147483648), 2147483647), ((-2147483648), 2147483647), ((-2147483648), 2147483647), ((-2147483648), 2147483647), ((-2147483648), 2147483647)], [(0, 3, (-10)), (13, 4, 0), (14, 5, 0), (15, 6, 0), (16, 7, 0), (17, 8, 0), (18, 9, 0), (4, 13, 0), (5, 14, 0), (6, 15, 0), (7, 16, 0), (8, 17, 0), (9, 18, 0)]), ([(0, 11, [])], [(27, 0, (50, 12, [13, 14, 15, 16, 17, 18]))], [(1, 0), (1, 0), (1, 0), (1, 0), (1, 0), (1, 0), (1, 0), (1, 0), (1, 0), (1, 0), (1, 0), ((-2147483648), 2147483647), (1, 0), ((-2147483648), 2147483647), ((-2147483648), 2147483647), ((-2147483648), 2147483647), ((-2147483648), 2147483647), (1, 9), ((-2147483648), 2147483647)], [(3, 0, 9), (0, 3, (-1)), (13, 4, 0), (14, 5, 0), (15, 6, 0), (16, 7, 0), (17, 3, 0), (18, 9, 0), (11, 8, 0), (3, 17, 0), (4, 13, 0), (5, 14, 0), (6, 15, 0), (7, 16, 0), (8, 11, 0), (9, 18, 0)]), ([(0, 11, [])], [(27, 0, (50, 12, [13, 14, 15, 16, 17, 18]))], [(1, 0), (1, 0), (1, 0), (1, 0), (1, 0), (1, 0), (1, 0), (1, 0), (1, 0), (1, 0), (1, 0), ((-2), (-2)), (1, 0), ((-2147483648), 2147483647), ((-2147483648), 2147483647), ((-2147483648), 2147483647), ((-2147483648), 2147483647), ((-2147483648), 2147483647), ((-2147483648), 2147483647)], [(3, 0, 0), (13, 4, 0), (14, 5, 0), (15, 6, 0), (16, 7, 0), (17, 8, 0), (18, 9, 0), (4, 13, 0), (5, 14, 0), (6, 15, 0), (7, 16, 0), (8, 17, 0), (9, 18, 0)])], [(27, 0)], 0, 0)
def M_X11_trust_v6 : ck_Me := (4, cw_TT, cw_SG, 4, fl_X11, pl_X11, nw_X11, kl_X11, il_X11, xl_X11, cw_al, [(3 * 162 + 1, 0, 1, C_X11_isSource)], [(27, 0)], (0, 0), gl_X11)
def I_X11_trust_v6 : List (Nat × ck_I) := []
def S_X11_trust_v6 : ck_S := ([(0, (2, 1, [11])), (1, (0, 2, [])), (2, (0, 3, []))], [], [(27, 0, (50, 10, [4, 5, 6, 7, 8, 9])), (0, 1000, (8, 0, [])), (0, 1001, (8, 1, [])), (0, 1002, (8, 2, [])), (0, 1003, (8, 3, [])), (0, 1004, (8, 4, [])), (0, 1005, (8, 5, [])), (0, 1006, (8, 6, [])), (0, 1007, (8, 7, [])), (0, 1008, (8, 8, [])), (0, 1009, (8, 9, [])), (0, 1010, (8, 10, []))], [(0, 0), (1, 0), (4, 4), ((-2147483648), 2147483647), ((-2147483648), 2147483647), ((-2147483648), 2147483647), ((-2147483648), 2147483647), ((-2147483648), 2147483647), ((-2147483648), 2147483647), ((-2147483648), 2147483647), (1, 0)], [], 0, 0)
def sp_X11_trust_v6 : ck_spc := [(31, 32, ck_sCl 4 27 6), (42, 43, ck_sCs 4 27 6 (-2147483648) 2147483647)]
theorem h_X11_trust_v6 : ck_chk M_X11_trust_v6 (ck_kr (mF M_X11_trust_v6) 11 1 C_X11_trust_v6) sp_X11_trust_v6 K_X11_trust I_X11_trust_v6 11 32 S_X11_trust_v6 = true := by decide +kernel
theorem o_X11_trust_v6 : ck_ok5 C_X11_trust_v6 = true := by decide +kernel
theorem a_X11_trust_v6 : ck_ca cw_V RX11 cX11_trust ⟨1, 0, 0, 20⟩ M_X11_trust_v6 := fun _ l _ _ _ _ _ _ _ _ _ _ _ _ X hts htl hsw hnq =>
  (List.forall_mem_cons.mpr ⟨ck_cs_S (t_X11_isSource l) X hts htl hsw hnq ⟨rfl, rfl⟩ o_X11_isSource cw_good (ck_m4 tw_571 tw_572 tw_95 tw_573) hd_X11_isSource ⟨rfl, rfl⟩ ⟨by decide, by decide⟩, (fun _ h => absurd h List.not_mem_nil)⟩)
theorem t_X11_trust_v6 (l : Launch) : ck_met cw_V l yX11_trust cX11_trust 4 (some .int) ⟨1, 0, 0, 20⟩ C_X11_trust_v6 :=
  ck_methS (sp := sp_X11_trust_v6) (M := M_X11_trust_v6) (rt := 1) (pre := []) false (fun p l e s m As below meth c D tys ws sh n1 sw X hts htl hsw hnq hret hph hpo hwo => (List.forall_mem_cons.mpr ⟨fun S L hS b hb hk => ck_sCl_ok (F := 4) (t := 27) (len := 6) (X b) rfl hS hk (k_X11_trust (31, .iaload, 1) (List.mem_of_getElem? (i := 17) rfl)), (List.forall_mem_cons.mpr ⟨fun S L hS b hb hk => ck_sCs_ok (F := 4) (t := 27) (len := 6) (lo := -2147483648) (hi := 2147483647) (X b) rfl (by decide +kernel) hS hk (k_X11_trust (42, .iastore, 1) (List.mem_of_getElem? (i := 24) rfl)), (fun _ h => absurd h List.not_mem_nil)⟩)⟩)) pn_X11_trust rfl (fun h => by cases h) ⟨rfl, rfl, rfl, rfl, rfl⟩ ⟨rfl, rfl⟩ rfl (by decide) (by decide) (by decide) k_X11_trust (tb_X11 ⟨rfl, rfl, rfl, rfl, rfl, rfl, rfl, rfl, rfl⟩) a_X11_trust_v6 h_X11_trust_v6 rfl
def C_X11_trust_v7 : ck_C := (([(2, 1, [11]), (0, 2, []), (0, 3, [])], [(27, 0, (50, 10, [4, 5, 6, 7, 8, 9]))], [(0, 0), (1, 0), (5, 5), ((-2147483648), 2147483647), ((-2147483648), 2147483647), ((-2147483648), 2147483647), ((-2147483648), 2147483647), ((-2147483648), 2147483647), ((-2147483648), 2147483647), ((-2147483648), 2147483647), (1, 0)], []), [([(0, 11, [])], [(27, 0, (50, 12, [13, 14, 15, 16, 17, 18]))], [(1, 0), (1, 0), (1, 0), (1, 0), (1, 0), (1, 0), (1, 0), (1, 0), (1, 0), (1, 0), (1, 0), ((-2), (-2)), (1, 0), ((-2147483648), 2147483647), ((-2147483648), 2147483647), ((-2147483648), 2147483647), ((-2147483648), 2147483647), ((-2147483648), 2147483647), ((-2147483648), 2147483647)], [(0, 3, (-10)), (13, 4, 0), (14, 5, 0), (15, 6, 0), (16, 7, 0), (17, 8, 0), (18, 9, 0), (4, 13, 0), (5, 14, 0), (6, 15, 0), (7, 16, 0), (8, 17, 0), (9, 18, 0)]), ([(0, 11, [])], [(27, 0, (50, 12, [13, 14, 15, 16, 17, 18]))], [(1, 0), (1, 0), (1, 0), (1, 0), (1, 0), (1, 0), (1, 0), (1, 0), (1, 0), (1, 0), (1, 0), ((-2147483648), 2147483647), (1, 0), ((-2147483648), 2147483647), ((-2147483648), 2147483647), ((-2147483648), 2147483647), ((-2147483648), 2147483647), ((-2147483648), 2147483647), (1, 9)], [(3, 0, 9), (0, 3, (-1)), (13, 4, 0), (14, 5, 0), (15, 6, 0), (16, 7, 0), (17, 8, 0), (18, 3, 0), (11, 9, 0), (3, 18, 0), (4, 13, 0), (5, 14, 0), (6, 15, 0), (7, 16, 0), (8, 17, 0), (9, 11, 0)]), ([(0, 11, [])], [(27, 0, (50, 12, [13, 14, 15, 16, 17, 18]))], [(1, 0), (1, 0), (1, 0), (1, 0), (1, 0), (1, 0), (1, 0), (1, 0), (1, 0), (1, 0), (1, 0), ((-2), (-2)), (1, 0), ((-2147483648), 2147483647), ((-2147483648), 2147483647), ((-2147483648), 2147483647), ((-2147483648), 2147483647), ((-2147483648), 2147483647), ((-2147483648), 2147483647)], [(3, 0, 0), (13, 4, 0), (14, 5, 0), (15, 6, 0), (16, 7, 0), (17, 8, 0), (18, 9, 0), (4, 13, 0), (5, 14, 0), (6, 15, 0), (7, 16, 0), (8, 17, 0), (9, 18, 0)])], [(27, 0)], 0, 0)
def M_X11_trust_v7 : ck_Me := (4, cw_TT, cw_SG, 4, fl_X11, pl_X11, nw_X11, kl_X11, il_X11, xl_X11, cw_al, [(3 * 162 + 1, 0, 1, C_X11_isSource)], [(27, 0)], (0, 0), gl_X11)
def I_X11_trust_v7 : List (Nat × ck_I) := []
def S_X11_trust_v7 : ck_S := ([(0, (2, 1, [11])), (1, (0, 2, [])), (2, (0, 3, []))], [], [(27, 0, (50, 10, [4, 5, 6, 7, 8, 9])), (0, 1000, (8, 0, [])), (0, 1001, (8, 1, [])), (0, 1002, (8, 2, [])), (0, 1003, (8, 3, [])), (0, 1004, (8, 4, [])), (0, 1005, (8, 5, [])), (0, 1006, (8, 6, [])), (0, 1007, (8, 7, [])), (0, 1008, (8, 8, [])), (0, 1009, (8, 9, [])), (0, 1010, (8, 10, []))], [(0, 0), (1, 0), (5, 5), ((-2147483648), 2147483647), ((-2147483648), 2147483647), ((-2147483648), 2147483647), ((-2147483648), 2147483647), ((-2147483648), 2147483647), ((-2147483648), 2147483647), ((-2147483648), 2147483647), (1, 0)], [], 0, 0)
def sp_X11_trust_v7 : ck_spc := [(31, 32, ck_sCl 4 27 6), (42, 43, ck_sCs 4 27 6 (-2147483648) 2147483647)]
theorem h_X11_trust_v7 : ck_chk M_X11_trust_v7 (ck_kr (mF M_X11_trust_v7) 11 1 C_X11_trust_v7) sp_X11_trust_v7 K_X11_trust I_X11_trust_v7 11 32 S_X11_trust_v7 = true := by decide +kernel
theorem o_X11_trust_v7 : ck_ok5 C_X11_trust_v7 = true := by decide +kernel
theorem a_X11_trust_v7 : ck_ca cw_V RX11 cX11_trust ⟨1, 0, 0, 20⟩ M_X11_trust_v7 := fun _ l _ _ _ _ _ _ _ _ _ _ _ _ X hts htl hsw hnq =>
  (List.forall_mem_cons.mpr ⟨ck_cs_S (t_X11_isSource l) X hts htl hsw hnq ⟨rfl, rfl⟩ o_X11_isSource cw_good (ck_m4 tw_571 tw_572 tw_95 tw_573) hd_X11_isSource ⟨rfl, rfl⟩ ⟨by decide, by decide⟩, (fun _ h => absurd h List.not_mem_nil)⟩)
theorem t_X11_trust_v7 (l : Launch) : ck_met cw_V l yX11_trust cX11_trust 4 (some .int) ⟨1, 0, 0, 20⟩ C_X11_trust_v7 :=
  ck_methS (sp := sp_X11_trust_v7) (M := M_X11_trust_v7) (rt := 1) (pre := []) false (fun p l e s m As below meth c D tys ws sh n1 sw X hts htl hsw hnq hret hph hpo hwo => (List.forall_mem_cons.mpr ⟨fun S L hS b hb hk => ck_sCl_ok (F := 4) (t := 27) (len := 6) (X b) rfl hS hk (k_X11_trust (31, .iaload, 1) (List.mem_of_getElem? (i := 17) rfl)), (List.forall_mem_cons.mpr ⟨fun S L hS b hb hk => ck_sCs_ok (F := 4) (t := 27) (len := 6) (lo := -2147483648) (hi := 2147483647) (X b) rfl (by decide +kernel) hS hk (k_X11_trust (42, .iastore, 1) (List.mem_of_getElem? (i := 24) rfl)), (fun _ h => absurd h List.not_mem_nil)⟩)⟩)) pn_X11_trust rfl (fun h => by cases h) ⟨rfl, rfl, rfl, rfl, rfl⟩ ⟨rfl, rfl⟩ rfl (by decide) (by decide) (by decide) k_X11_trust (tb_X11 ⟨rfl, rfl, rfl, rfl, rfl, rfl, rfl, rfl, rfl⟩) a_X11_trust_v7 h_X11_trust_v7 rfl
def C_X11_trust_v8 : ck_C := (([(2, 1, [11]), (0, 2, []), (0, 3, [])], [(27, 0, (50, 10, [4, 5, 6, 7, 8, 9]))], [(0, 0), (1, 0), (6, 2147483647), ((-2147483648), 2147483647), ((-2147483648), 2147483647), ((-2147483648), 2147483647), ((-2147483648), 2147483647), ((-2147483648), 2147483647), ((-2147483648), 2147483647), ((-2147483648), 2147483647), (1, 0)], []), [([(0, 11, [])], [(27, 0, (50, 12, [13, 14, 15, 16, 17, 18]))], [(1, 0), (1, 0), (1, 0), (1, 0), (1, 0), (1, 0), (1, 0), (1, 0), (1, 0), (1, 0), (1, 0), ((-1), (-1)), (1, 0), ((-2147483648), 2147483647), ((-2147483648), 2147483647), ((-2147483648), 2147483647), ((-2147483648), 2147483647), ((-2147483648), 2147483647), ((-2147483648), 2147483647)], [(13, 4, 0), (14, 5, 0), (15, 6, 0), (16, 7, 0), (17, 8, 0), (18, 9, 0), (4, 13, 0), (5, 14, 0), (6, 15, 0), (7, 16, 0), (8, 17, 0), (9, 18, 0)])], [(27, 0)], 0, 0)
def M_X11_trust_v8 : ck_Me := (4, cw_TT, cw_SG, 4, fl_X11, pl_X11, nw_X11, kl_X11, il_X11, xl_X11, cw_al, [(3 * 162 + 1, 0, 1, C_X11_isSource)], [(27, 0)], (0, 0), gl_X11)
def I_X11_trust_v8 : List (Nat × ck_I) := []
def S_X11_trust_v8 : ck_S := ([(0, (2, 1, [11])), (1, (0, 2, [])), (2, (0, 3, []))], [], [(27, 0, (50, 10, [4, 5, 6, 7, 8, 9])), (0, 1000, (8, 0, [])), (0, 1001, (8, 1, [])), (0, 1002, (8, 2, [])), (0, 1003, (8, 3, [])), (0, 1004, (8, 4, [])), (0, 1005, (8, 5, [])), (0, 1006, (8, 6, [])), (0, 1007, (8, 7, [])), (0, 1008, (8, 8, [])), (0, 1009, (8, 9, [])), (0, 1010, (8, 10, []))], [(0, 0), (1, 0), (6, 2147483647), ((-2147483648), 2147483647), ((-2147483648), 2147483647), ((-2147483648), 2147483647), ((-2147483648), 2147483647), ((-2147483648), 2147483647), ((-2147483648), 2147483647), ((-2147483648), 2147483647), (1, 0)], [], 0, 0)
theorem h_X11_trust_v8 : ck_chk M_X11_trust_v8 (ck_kr (mF M_X11_trust_v8) 11 1 C_X11_trust_v8) [] K_X11_trust I_X11_trust_v8 11 32 S_X11_trust_v8 = true := by decide +kernel
theorem o_X11_trust_v8 : ck_ok5 C_X11_trust_v8 = true := by decide +kernel
theorem a_X11_trust_v8 : ck_ca cw_V RX11 cX11_trust ⟨1, 0, 0, 20⟩ M_X11_trust_v8 := fun _ l _ _ _ _ _ _ _ _ _ _ _ _ X hts htl hsw hnq =>
  (List.forall_mem_cons.mpr ⟨ck_cs_S (t_X11_isSource l) X hts htl hsw hnq ⟨rfl, rfl⟩ o_X11_isSource cw_good (ck_m4 tw_571 tw_572 tw_95 tw_573) hd_X11_isSource ⟨rfl, rfl⟩ ⟨by decide, by decide⟩, (fun _ h => absurd h List.not_mem_nil)⟩)
theorem t_X11_trust_v8 (l : Launch) : ck_met cw_V l yX11_trust cX11_trust 4 (some .int) ⟨1, 0, 0, 20⟩ C_X11_trust_v8 :=
  ck_meth (M := M_X11_trust_v8) (rt := 1) (pre := []) false  pn_X11_trust rfl (fun h => by cases h) ⟨rfl, rfl, rfl, rfl, rfl⟩ ⟨rfl, rfl⟩ rfl (by decide) (by decide) (by decide) k_X11_trust (tb_X11 ⟨rfl, rfl, rfl, rfl, rfl, rfl, rfl, rfl, rfl⟩) a_X11_trust_v8 h_X11_trust_v8 rfl
def C_X11_trust_v9 : ck_C := (([(2, 1, [11]), (0, 2, []), (0, 3, [])], [(27, 0, (50, 10, [4, 5, 6, 7, 8, 9]))], [(0, 0), (1, 0), ((-2147483648), 2147483647), ((-2147483648), 2147483647), ((-2147483648), 2147483647), ((-2147483648), 2147483647), ((-2147483648), 2147483647), ((-2147483648), 2147483647), ((-2147483648), 2147483647), ((-2147483648), 2147483647), (1, 0)], []), [([(0, 11, [])], [(27, 0, (50, 12, [13, 14, 15, 16, 17, 18]))], [(1, 0), (1, 0), (1, 0), (1, 0), (1, 0), (1, 0), (1, 0), (1, 0), (1, 0), (1, 0), (1, 0), ((-1), (-1)), (1, 0), ((-2147483648), 2147483647), ((-2147483648), 2147483647), ((-2147483648), 2147483647), ((-2147483648), 2147483647), ((-2147483648), 2147483647), ((-2147483648), 2147483647)], [(2, 0, (-1)), (0, 2, 2147483648), (13, 4, 0), (14, 5, 0), (15, 6, 0), (16, 7, 0), (17, 8, 0), (18, 9, 0), (4, 13, 0), (5, 14, 0), (6, 15, 0), (7, 16, 0), (8, 17, 0), (9, 18, 0)]), ([(0, 11, [])], [(27, 0, (50, 12, [13, 14, 15, 16, 17, 18]))], [(1, 0), (1, 0), (1, 0), (1, 0), (1, 0), (1, 0), (1, 0), (1, 0), (1, 0), (1, 0), (1, 0), ((-2), (-2)), (1, 0), ((-2147483648), 2147483647), ((-2147483648), 2147483647), ((-2147483648), 2147483647), ((-2147483648), 2147483647), ((-2147483648), 2147483647), ((-2147483648), 2147483647)], [(2, 0, 0), (0, 2, 0), (0, 3, (-10)), (13, 4, 0), (14, 5, 0), (15, 6, 0), (16, 7, 0), (17, 8, 0), (18, 9, 0), (4, 13, 0), (5, 14, 0), (6, 15, 0), (7, 16, 0), (8, 17, 0), (9, 18, 0)]), ([(0, 11, [])], [(27, 0, (50, 12, [13, 14, 15, 16, 17, 18]))], [(1, 0), (1, 0), (1, 0), (1, 0), (1, 0), (1, 0), (1, 0), (1, 0), (1, 0), (1, 0), (1, 0), ((-2147483648), 2147483647), (1, 0), (1, 9), ((-2147483648), 2147483647), ((-2147483648), 2147483647), ((-2147483648), 2147483647), ((-2147483648), 2147483647), ((-2147483648), 2147483647)], [(2, 0, 0), (0, 2, 0), (3, 0, 9), (0, 3, (-1)), (13, 3, 0), (14, 5, 0), (15, 6, 0), (16, 7, 0), (17, 8, 0), (18, 9, 0), (11, 4, 0), (3, 13, 0), (4, 11, 0), (5, 14, 0), (6, 15, 0), (7, 16, 0), (8, 17, 0), (9, 18, 0)]), ([(0, 11, [])], [(27, 0, (50, 12, [13, 14, 15, 16, 17, 18]))], [(1, 0), (1, 0), (1, 0), (1, 0), (1, 0), (1, 0), (1, 0), (1, 0), (1, 0), (1, 0), (1, 0), ((-2), (-2)), (1, 0), ((-2147483648), 2147483647), ((-2147483648), 2147483647), ((-2147483648), 2147483647), ((-2147483648), 2147483647), ((-2147483648), 2147483647), ((-2147483648), 2147483647)], [(2, 0, 0), (0, 2, 0), (3, 0, 0), (13, 4, 0), (14, 5, 0), (15, 6, 0), (16, 7, 0), (17, 8, 0), (18, 9, 0), (4, 13, 0), (5, 14, 0), (6, 15, 0), (7, 16, 0), (8, 17, 0), (9, 18, 0)]), ([(0, 11, [])], [(27, 0, (50, 12, [13, 14, 15, 16, 17, 18]))], [(1, 0), (1, 0), (1, 0), (1, 0), (1, 0), (1, 0), (1, 0), (1, 0), (1, 0), (1, 0), (1, 0), ((-2), (-2)), (1, 0), ((-2147483648), 2147483647), ((-2147483648), 2147483647), ((-2147483648), 2147483647), ((-2147483648), 2147483647), ((-2147483648), 2147483647), ((-2147483648), 2147483647)], [(2, 0, 1), (0, 2, (-1)), (0, 3, (-10)), (13, 4, 0), (14, 5, 0), (15, 6, 0), (16, 7, 0), (17, 8, 0), (18, 9, 0), (4, 13, 0), (5, 14, 0), (6, 15, 0), (7, 16, 0), (8, 17, 0), (9, 18, 0)]), ([(0, 11, [])], [(27, 0, (50, 12, [13, 14, 15, 16, 17, 18]))], [(1, 0), (1, 0), (1, 0), (1, 0), (1, 0), (1, 0), (1, 0), (1, 0), (1, 0), (1, 0), (1, 0), ((-2147483648), 2147483647), (1, 0), ((-2147483648), 2147483647), (1, 9), ((-2147483648), 2147483647), ((-2147483648), 2147483647), ((-2147483648), 2147483647), ((-2147483648), 2147483647)], [(2, 0, 1), (0, 2, (-1)), (3, 0, 9), (0, 3, (-1)), (13, 4, 0), (14, 3, 0), (15, 6, 0), (16, 7, 0), (17, 8, 0), (18, 9, 0), (11, 5, 0), (3, 14, 0), (4, 13, 0), (5, 11, 0), (6, 15, 0), (7, 16, 0), (8, 17, 0), (9, 18, 0)]), ([(0, 11, [])], [(27, 0, (50, 12, [13, 14, 15, 16, 17, 18]))], [(1, 0), (1, 0), (1, 0), (1, 0), (1, 0), (1, 0), (1, 0), (1, 0), (1, 0), (1, 0), (1, 0), ((-2), (-2)), (1, 0), ((-2147483648), 2147483647), ((-2147483648), 2147483647), ((-2147483648), 2147483647), ((-2147483648), 2147483647), ((-2147483648), 2147483647), ((-2147483648), 2147483647)], [(2, 0, 1), (0, 2, (-1)), (3, 0, 0), (13, 4, 0), (14, 5, 0), (15, 6, 0), (16, 7, 0), (17, 8, 0), (18, 9, 0), (4, 13, 0), (5, 14, 0), (6, 15, 0), (7, 16, 0), (8, 17, 0), (9, 18, 0)]), ([(0, 11, [])], [(27, 0, (50, 12, [13, 14, 15, 16, 17, 18]))], [(1, 0), (1, 0), (1, 0), (1, 0), (1, 0), (1, 0), (1, 0), (1, 0), (1, 0), (1, 0), (1, 0), ((-2), (-2)), (1, 0), ((-2147483648), 2147483647), ((-2147483648), 2147483647), ((-2147483648), 2147483647), ((-2147483648), 2147483647), ((-2147483648), 2147483647), ((-2147483648), 2147483647)], [(2, 0, 2), (0, 2, (-2)), (0, 3, (-10)), (13, 4, 0), (14, 5, 0), (15, 6, 0), (16, 7, 0), (17, 8, 0), (18, 9, 0), (4, 13, 0), (5, 14, 0), (6, 15, 0), (7, 16, 0), (8, 17, 0), (9, 18, 0)]), ([(0, 11, [])], [(27, 0, (50, 12, [13, 14, 15, 16, 17, 18]))], [(1, 0), (1, 0), (1, 0), (1, 0), (1, 0), (1, 0), (1, 0), (1, 0), (1, 0), (1, 0), (1, 0), ((-2147483648), 2147483647), (1, 0), ((-2147483648), 2147483647), ((-2147483648), 2147483647), (1, 9), ((-2147483648), 2147483647), ((-2147483648), 2147483647), ((-2147483648), 2147483647)], [(2, 0, 2), (0, 2, (-2)), (3, 0, 9), (0, 3, (-1)), (13, 4, 0), (14, 5, 0), (15, 3, 0), (16, 7, 0), (17, 8, 0), (18, 9, 0), (11, 6, 0), (3, 15, 0), (4, 13, 0), (5, 14, 0), (6, 11, 0), (7, 16, 0), (8, 17, 0), (9, 18, 0)]), ([(0, 11, [])], [(27, 0, (50, 12, [13, 14, 15, 16, 17, 18]))], [(1, 0), (1, 0), (1, 0), (1, 0), (1, 0), (1, 0), (1, 0), (1, 0), (1, 0), (1, 0), (1, 0), ((-2), (-2)), (1, 0), ((-2147483648), 2147483647), ((-2147483648), 2147483647), ((-2147483648), 2147483647), ((-2147483648), 2147483647), ((-2147483648), 2147483647), ((-2147483648), 2147483647)], [(2, 0, 2), (0, 2, (-2)), (3, 0, 0), (13, 4, 0), (14, 5, 0), (15, 6, 0), (16, 7, 0), (17, 8, 0), (18, 9, 0), (4, 13, 0), (5, 14, 0), (6, 15, 0), (7, 16, 0), (8, 17, 0), (9, 18, 0)]), ([(0, 11, [])], [(27, 0, (50, 12, [13, 14, 15, 16, 17, 18]))], [(1, 0), (1, 0), (1, 0), (1, 0), (1, 0), (1, 0), (1, 0), (1, 0), (1, 0), (1, 0), (1, 0), ((-2), (-2)), (1, 0), ((-2147483648), 2147483647), ((-2147483648), 2147483647), ((-2147483648), 2147483647), ((-2147483648), 2147483647), ((-2147483648), 2147483647), ((-2147483648), 2147483647)], [(2, 0, 3), (0, 2, (-3)), (0, 3, (-10)), (13, 4, 0), (14, 5, 0), (15, 6, 0), (16, 7, 0), (17, 8, 0), (18, 9, 0), (4, 13, 0), (5, 14, 0), (6, 15, 0), (7, 16, 0), (8, 17, 0), (9, 18, 0)]), ([(0, 11, [])], [(27, 0, (50, 12, [13, 14, 15, 16, 17, 18]))], [(1, 0), (1, 0), (1, 0), (1, 0), (1, 0), (1, 0), (1, 0), (1, 0), (1, 0), (1, 0), (1, 0), ((-2147483648), 2147483647), (1, 0), ((-2147483648), 2147483647), ((-2147483648), 2147483647), ((-2147483648), 2147483647), (1, 9), ((-2147483648), 2147483647), ((-2147483648), 2147483647)], [(2, 0, 3), (0, 2, (-3)), (3, 0, 9), (0, 3, (-1)), (13, 4, 0), (14, 5, 0), (15, 6, 0), (16, 3, 0), (17, 8, 0), (18, 9, 0), (11, 7, 0), (3, 16, 0), (4, 13, 0), (5, 14, 0), (6, 15, 0), (7, 11, 0), (8, 17, 0), (9, 18, 0)]), ([(0, 11, [])], [(27, 0, (50, 12, [13, 14, 15, 16, 17, 18]))], [(1, 0), (1, 0), (1, 0), (1, 0), (1, 0), (1, 0), (1, 0), (1, 0), (1, 0), (1, 0), (1, 0), ((-2), (-2)), (1, 0), ((-2147483648), 2147483647), ((-2147483648), 2147483647), ((-2147483648), 2147483647), ((-2147483648), 2147483647), ((-2147483648), 2147483647), ((-2147483648), 2147483647)], [(2, 0, 3), (0, 2, (-3)), (3, 0, 0), (13, 4, 0), (14, 5, 0), (15, 6, 0), (16, 7, 0), (17, 8, 0), (18, 9, 0), (4, 13, 0), (5, 14, 0), (6, 15, 0), (7, 16, 0), (8, 17, 0), (9, 18, 0)]), ([(0, 11, [])], [(27, 0, (50, 12, [13, 14, 15, 16, 17, 18]))], [(1, 0), (1, 0), (1, 0), (1, 0), (1, 0), (1, 0), (1, 0), (1, 0), (1, 0), (1, 0), (1, 0), ((-2), (-2)), (1, 0), ((-2147483648), 2147483647), ((-2147483648), 2147483647), ((-2147483648), 2147483647), ((-2147483648), 2147483647), ((-2147483648), 2147483647), ((-2147483648), 2147483647)], [(2, 0, 4), (0, 2, (-4)), (0, 3, (-10)), (13, 4, 0), (14, 5, 0), (15, 6, 0), (16, 7, 0), (17, 8, 0), (18, 9, 0), (4, 13, 0), (5, 14, 0), (6, 15, 0), (7, 16, 0), (8, 17, 0), (9, 18, 0)]), ([(0, 11, [])], [(27, 0, (50, 12, [13, 14, 15, 16, 17, 18]))], [(1, 0), (1, 0), (1, 0), (1, 0), (1, 0), (1, 0), (1, 0), (1, 0), (1, 0), (1, 0), (1, 0), ((-2147483648), 2147483647), (1, 0), ((-2147483648), 2147483647), ((-2147483648), 2147483647), ((-2147483648), 2147483647), ((-2147483648), 2147483647), (1, 9), ((-2147483648), 2147483647)], [(2, 0, 4), (0, 2, (-4)), (3, 0, 9), (0, 3, (-1)), (13, 4, 0), (14, 5, 0), (15, 6, 0), (16, 7, 0), (17, 3, 0), (18, 9, 0), (11, 8, 0), (3, 17, 0), (4, 13, 0), (5, 14, 0), (6, 15, 0), (7, 16, 0), (8, 11, 0), (9, 18, 0)]), ([(0, 11, [])], [(27, 0, (50, 12, [13, 14, 15, 16, 17, 18]))], [(1, 0), (1, 0), (1, 0), (1, 0), (1, 0), (1, 0), (1, 0), (1, 0), (1, 0), (1, 0), (1, 0), ((-2), (-2)), (1, 0), ((-2147483648), 2147483647), ((-2147483648), 2147483647), ((-2147483648), 2147483647), ((-2147483648), 2147483647), ((-2147483648), 2147483647), ((-2147483648), 2147483647)], [(2, 0, 4), (0, 2, (-4)), (3, 0, 0), (13, 4, 0), (14, 5, 0), (15, 6, 0), (16, 7, 0), (17, 8, 0), (18, 9, 0), (4, 13, 0), (5, 14, 0), (6, 15, 0), (7, 16, 0), (8, 17, 0), (9, 18, 0)]), ([(0, 11, [])], [(27, 0, (50, 12, [13, 14, 15, 16, 17, 18]))], [(1, 0), (1, 0), (1, 0), (1, 0), (1, 0), (1, 0), (1, 0), (1, 0), (1, 0), (1, 0), (1, 0), ((-2), (-2)), (1, 0), ((-2147483648), 2147483647), ((-2147483648), 2147483647), ((-2147483648), 2147483647), ((-2147483648), 2147483647), ((-2147483648), 2147483647), ((-2147483648), 2147483647)], [(2, 0, 5), (0, 2, (-5)), (0, 3, (-10)), (13, 4, 0), (14, 5, 0), (15, 6, 0), (16, 7, 0), (17, 8, 0), (18, 9, 0), (4, 13, 0), (5, 14, 0), (6, 15, 0), (7, 16, 0), (8, 17, 0), (9, 18, 0)]), ([(0, 11, [])], [(27, 0, (50, 12, [13, 14, 15, 16, 17, 18]))], [(1, 0), (1, 0), (1, 0), (1, 0), (1, 0), (1, 0), (1, 0), (1, 0), (1, 0), (1, 0), (1, 0), ((-2147483648), 2147483647), (1, 0), ((-2147483648), 2147483647), ((-2147483648), 2147483647), ((-2147483648), 2147483647), ((-2147483648), 2147483647), ((-2147483648), 2147483647), (1, 9)], [(2, 0, 5), (0, 2, (-5)), (3, 0, 9), (0, 3, (-1)), (13, 4, 0), (14, 5, 0), (15, 6, 0), (16, 7, 0), (17, 8, 0), (18, 3, 0), (11, 9, 0), (3, 18, 0), (4, 13, 0), (5, 14, 0), (6, 15, 0), (7, 16, 0), (8, 17, 0), (9, 11, 0)]), ([(0, 11, [])], [(27, 0, (50, 12, [13, 14, 15, 16, 17, 18]))], [(1, 0), (1, 0), (1, 0), (1, 0), (1, 0), (1, 0), (1, 0), (1, 0), (1, 0), (1, 0), (1, 0), ((-2), (-2)), (1, 0), ((-2147483648), 2147483647), ((-2147483648), 2147483647), ((-2147483648), 2147483647), ((-2147483648), 2147483647), ((-2147483648), 2147483647), ((-2147483648), 2147483647)], [(2, 0, 5), (0, 2, (-5)), (3, 0, 0), (13, 4, 0), (14, 5, 0), (15, 6, 0), (16, 7, 0), (17, 8, 0), (18, 9, 0), (4, 13, 0), (5, 14, 0), (6, 15, 0), (7, 16, 0), (8, 17, 0), (9, 18, 0)]), ([(0, 11, [])], [(27, 0, (50, 12, [13, 14, 15, 16, 17, 18]))], [(1, 0), (1, 0), (1, 0), (1, 0), (1, 0), (1, 0), (1, 0), (1, 0), (1, 0), (1, 0), (1, 0), ((-1), (-1)), (1, 0), ((-2147483648), 2147483647), ((-2147483648), 2147483647), ((-2147483648), 2147483647), ((-2147483648), 2147483647), ((-2147483648), 2147483647), ((-2147483648), 2147483647)], [(2, 0, 2147483647), (0, 2, (-6)), (13, 4, 0), (14, 5, 0), (15, 6, 0), (16, 7, 0), (17, 8, 0), (18, 9, 0), (4, 13, 0), (5, 14, 0), (6, 15, 0), (7, 16, 0), (8, 17, 0), (9, 18, 0)])], [(27, 0)], 0, 0)
theorem o_X11_trust_v9 : ck_ok5 C_X11_trust_v9 = true := by decide +kernel
theorem t_X11_trust_v9 (l : Launch) : ck_met cw_V l yX11_trust cX11_trust 4 (some .int) ⟨1, 0, 0, 20⟩ C_X11_trust_v9 :=
  ck_met_splitC (k := 2) (iv := (-2147483648, 2147483647)) rfl (by decide) [(((-2147483648), (-1)), C_X11_trust.2.1), ((0, 0), C_X11_trust_v2.2.1), ((1, 1), C_X11_trust_v3.2.1), ((2, 2), C_X11_trust_v4.2.1), ((3, 3), C_X11_trust_v5.2.1), ((4, 4), C_X11_trust_v6.2.1), ((5, 5), C_X11_trust_v7.2.1), ((6, 2147483647), C_X11_trust_v8.2.1)] (ck_cv_ok (by decide)) (by decide) (List.forall_mem_cons.mpr ⟨(List.forall_mem_cons.mpr ⟨⟨Nat.le_of_ble_eq_true rfl, List.mem_of_getElem? (i := 0) rfl⟩, (fun _ h => absurd h List.not_mem_nil)⟩), (List.forall_mem_cons.mpr ⟨(List.forall_mem_cons.mpr ⟨⟨Nat.le_of_ble_eq_true rfl, List.mem_of_getElem? (i := 1) rfl⟩, (List.forall_mem_cons.mpr ⟨⟨Nat.le_of_ble_eq_true rfl, List.mem_of_getElem? (i := 2) rfl⟩, (List.forall_mem_cons.mpr ⟨⟨Nat.le_of_ble_eq_true rfl, List.mem_of_getElem? (i := 3) rfl⟩, (fun _ h => absurd h List.not_mem_nil)⟩)⟩)⟩), (List.forall_mem_cons.mpr ⟨(List.forall_mem_cons.mpr ⟨⟨Nat.le_of_ble_eq_true rfl, List.mem_of_getElem? (i := 4) rfl⟩, (List.forall_mem_cons.mpr ⟨⟨Nat.le_of_ble_eq_true rfl, List.mem_of_getElem? (i := 5) rfl⟩, (List.forall_mem_cons.mpr ⟨⟨Nat.le_of_ble_eq_true rfl, List.mem_of_getElem? (i := 6) rfl⟩, (fun _ h => absurd h List.not_mem_nil)⟩)⟩)⟩), (List.forall_mem_cons.mpr ⟨(List.forall_mem_cons.mpr ⟨⟨Nat.le_of_ble_eq_true rfl, List.mem_of_getElem? (i := 7) rfl⟩, (List.forall_mem_cons.mpr ⟨⟨Nat.le_of_ble_eq_true rfl, List.mem_of_getElem? (i := 8) rfl⟩, (List.forall_mem_cons.mpr ⟨⟨Nat.le_of_ble_eq_true rfl, List.mem_of_getElem? (i := 9) rfl⟩, (fun _ h => absurd h List.not_mem_nil)⟩)⟩)⟩), (List.forall_mem_cons.mpr ⟨(List.forall_mem_cons.mpr ⟨⟨Nat.le_of_ble_eq_true rfl, List.mem_of_getElem? (i := 10) rfl⟩, (List.forall_mem_cons.mpr ⟨⟨Nat.le_of_ble_eq_true rfl, List.mem_of_getElem? (i := 11) rfl⟩, (List.forall_mem_cons.mpr ⟨⟨Nat.le_of_ble_eq_true rfl, List.mem_of_getElem? (i := 12) rfl⟩, (fun _ h => absurd h List.not_mem_nil)⟩)⟩)⟩), (List.forall_mem_cons.mpr ⟨(List.forall_mem_cons.mpr ⟨⟨Nat.le_of_ble_eq_true rfl, List.mem_of_getElem? (i := 13) rfl⟩, (List.forall_mem_cons.mpr ⟨⟨Nat.le_of_ble_eq_true rfl, List.mem_of_getElem? (i := 14) rfl⟩, (List.forall_mem_cons.mpr ⟨⟨Nat.le_of_ble_eq_true rfl, List.mem_of_getElem? (i := 15) rfl⟩, (fun _ h => absurd h List.not_mem_nil)⟩)⟩)⟩), (List.forall_mem_cons.mpr ⟨(List.forall_mem_cons.mpr ⟨⟨Nat.le_of_ble_eq_true rfl, List.mem_of_getElem? (i := 16) rfl⟩, (List.forall_mem_cons.mpr ⟨⟨Nat.le_of_ble_eq_true rfl, List.mem_of_getElem? (i := 17) rfl⟩, (List.forall_mem_cons.mpr ⟨⟨Nat.le_of_ble_eq_true rfl, List.mem_of_getElem? (i := 18) rfl⟩, (fun _ h => absurd h List.not_mem_nil)⟩)⟩)⟩), (List.forall_mem_cons.mpr ⟨(List.forall_mem_cons.mpr ⟨⟨Nat.le_of_ble_eq_true rfl, List.mem_of_getElem? (i := 19) rfl⟩, (fun _ h => absurd h List.not_mem_nil)⟩), (fun _ h => absurd h List.not_mem_nil)⟩)⟩)⟩)⟩)⟩)⟩)⟩)⟩) (List.forall_mem_cons.mpr ⟨t_X11_trust l, (List.forall_mem_cons.mpr ⟨t_X11_trust_v2 l, (List.forall_mem_cons.mpr ⟨t_X11_trust_v3 l, (List.forall_mem_cons.mpr ⟨t_X11_trust_v4 l, (List.forall_mem_cons.mpr ⟨t_X11_trust_v5 l, (List.forall_mem_cons.mpr ⟨t_X11_trust_v6 l, (List.forall_mem_cons.mpr ⟨t_X11_trust_v7 l, (List.forall_mem_cons.mpr ⟨t_X11_trust_v8 l, (fun _ h => absurd h List.not_mem_nil)⟩)⟩)⟩)⟩)⟩)⟩)⟩)⟩)
theorem hd_X12_in : yX12_in.cls ≠ "java/lang/invoke/MethodHandle" ∧ yX12_in.cls ≠ "java/lang/invoke/VarHandle" ∧ (parseMethodDescriptor yX12_in.desc).map (fun d => d.parameters.length) = some 3 := ⟨by decide, by decide, by decide +kernel⟩
theorem he_X12_in : yX12_in.cls ≠ "java/lang/invoke/MethodHandle" ∧ yX12_in.cls ≠ "java/lang/invoke/VarHandle" ∧ (parseMethodDescriptor yX12_in.desc).map (fun d => d.parameters.length + 1) = some 4 := ⟨by decide, by decide, by decide +kernel⟩
theorem pn_X12_in : plainFor yX12_in = true := by decide +kernel
def K_X12_in : ck_cd := [(0, .lload_n 0, 1), (1, .lload_n 2, 1), (2, .lcmp, 1), (3, .ifCond .lt 14, 3), (6, .lload_n 0, 1), (7, .lload 4, 2), (9, .lcmp, 1), (10, .ifCond .gt 7, 3), (13, .iconst 1, 1), (14, .goto 4, 3), (17, .iconst 0, 1), (18, .ireturn, 1)]
theorem k_X12_in : ∀ x ∈ K_X12_in, decode cX12_in x.1 = .ok (x.2.1, x.2.2) := by decide +kernel
def C_X12_in : ck_C := (([(1, 1, []), (1, 2, []), (1, 3, [])], [], [(0, 0), ((-9223372036854775808), 9223372036854775807), ((-9223372036854775808), 9223372036854775807), ((-9223372036854775808), 9223372036854775807)], []), [([(0, 4, [])], [], [(1, 0), (1, 0), (1, 0), (1, 0), (1, 1)], [(1, 3, 0), (2, 1, 0), (2, 3, 0)]), ([(0, 4, [])], [], [(1, 0), (1, 0), (1, 0), (1, 0), (0, 0)], [(0, 1, 9223372036854775807), (3, 0, 9223372036854775806), (2, 1, 0), (3, 1, (-1))]), ([(0, 4, [])], [], [(1, 0), (1, 0), (1, 0), (1, 0), (0, 0)], [(1, 0, 9223372036854775806), (0, 2, 9223372036854775807), (1, 2, (-1))])], [], 0, 0)
def M_X12_in : ck_Me := (4, cw_TT, cw_SG, 6, fl_X12, pl_X12, nw_X12, kl_X12, il_X12, xl_X12, cw_al, [], [], (0, 0), gl_X12)
def I_X12_in : List (Nat × ck_I) := []
def S_X12_in : ck_S := ([(0, (1, 1, [])), (2, (1, 2, [])), (4, (1, 3, []))], [], [(0, 1000, (8, 0, [])), (0, 1001, (8, 1, [])), (0, 1002, (8, 2, [])), (0, 1003, (8, 3, []))], [(0, 0), ((-9223372036854775808), 9223372036854775807), ((-9223372036854775808), 9223372036854775807), ((-9223372036854775808), 9223372036854775807)], [], 0, 0)
theorem h_X12_in : ck_chk M_X12_in (ck_kr (mF M_X12_in) 4 2 C_X12_in) [] K_X12_in I_X12_in 4 17 S_X12_in = true := by decide +kernel
theorem o_X12_in : ck_ok5 C_X12_in = true := by decide +kernel
theorem a_X12_in : ck_ca cw_V RX12 cX12_in ⟨0, 0, 0, 0⟩ M_X12_in := fun _ _ _ _ _ _ _ _ _ _ _ _ _ _ _ _ _ _ _ _ h => absurd h List.not_mem_nil
theorem t_X12_in (l : Launch) : ck_met cw_V l yX12_in cX12_in 6 (some .boolean) ⟨0, 0, 0, 0⟩ C_X12_in :=
  ck_meth (M := M_X12_in) (rt := 2) (pre := []) false  pn_X12_in rfl (fun h => by cases h) ⟨rfl, rfl, rfl, rfl, rfl⟩ ⟨rfl, rfl⟩ rfl (by decide) (by decide) (by decide) k_X12_in (tb_X12 ⟨rfl, rfl, rfl, rfl, rfl, rfl, rfl, rfl, rfl⟩) a_X12_in h_X12_in rfl
theorem hd_X12_noSource : yX12_noSource.cls ≠ "java/lang/invoke/MethodHandle" ∧ yX12_noSource.cls ≠ "java/lang/invoke/VarHandle" ∧ (parseMethodDescriptor yX12_noSource.desc).map (fun d => d.parameters.length) = some 1 := ⟨by decide, by decide, by decide +kernel⟩
theorem he_X12_noSource : yX12_noSource.cls ≠ "java/lang/invoke/MethodHandle" ∧ yX12_noSource.cls ≠ "java/lang/invoke/VarHandle" ∧ (parseMethodDescriptor yX12_noSource.desc).map (fun d => d.parameters.length + 1) = some 2 := ⟨by decide, by decide, by decide +kernel⟩
theorem pn_X12_noSource : plainFor yX12_noSource = true := by decide +kernel
def K_X12_noSource : ck_cd := [(0, .iload_n 0, 1), (1, .i2l, 1), (2, .lconst 0, 1), (3, .ldc2_w 156, 3), (6, .invokestatic 152, 3), (9, .ifCond .ne 7, 3), (12, .iconst 1, 1), (13, .goto 4, 3), (16, .iconst 0, 1), (17, .ireturn, 1)]
theorem k_X12_noSource : ∀ x ∈ K_X12_noSource, decode cX12_noSource x.1 = .ok (x.2.1, x.2.2) := by decide +kernel
def C_X12_noSource : ck_C := (([(0, 1, [])], [], [(0, 0), ((-2147483648), 2147483647)], []), [([(0, 2, [])], [], [(1, 0), (1, 0), (1, 1)], [(1, 0, (-1))]), ([(0, 2, [])], [], [(1, 0), (1, 0), (1, 1)], [(0, 1, (-6))]), ([(0, 2, [])], [], [(1, 0), (1, 0), (0, 0)], [(1, 0, 5), (0, 1, 0)])], [], 0, 0)
def M_X12_noSource : ck_Me := (4, cw_TT, cw_SG, 1, fl_X12, pl_X12, nw_X12, kl_X12, il_X12, xl_X12, cw_al, [(3 * 152 + 1, 0, 3, C_X12_in)], [], (0, 0), gl_X12)
def I_X12_noSource : List (Nat × ck_I) := []
def S_X12_noSource : ck_S := ([(0, (0, 1, []))], [], [(0, 1000, (8, 0, [])), (0, 1001, (8, 1, []))], [(0, 0), ((-2147483648), 2147483647)], [], 0, 0)
theorem h_X12_noSource : ck_chk M_X12_noSource (ck_kr (mF M_X12_noSource) 2 2 C_X12_noSource) [] K_X12_noSource I_X12_noSource 2 15 S_X12_noSource = true := by decide +kernel
theorem o_X12_noSource : ck_ok5 C_X12_noSource = true := by decide +kernel
theorem a_X12_noSource : ck_ca cw_V RX12 cX12_noSource ⟨1, 0, 0, 25⟩ M_X12_noSource := fun _ l _ _ _ _ _ _ _ _ _ _ _ _ X hts htl hsw hnq =>
  (List.forall_mem_cons.mpr ⟨ck_cs_S (t_X12_in l) X hts htl hsw hnq ⟨rfl, rfl⟩ o_X12_in cw_good (ck_m4 tw_1485 tw_1486 tw_104 tw_1487) hd_X12_in ⟨rfl, rfl⟩ ⟨by decide, by decide⟩, (fun _ h => absurd h List.not_mem_nil)⟩)
theorem t_X12_noSource (l : Launch) : ck_met cw_V l yX12_noSource cX12_noSource 1 (some .boolean) ⟨1, 0, 0, 25⟩ C_X12_noSource :=
  ck_meth (M := M_X12_noSource) (rt := 2) (pre := []) false  pn_X12_noSource rfl (fun h => by cases h) ⟨rfl, rfl, rfl, rfl, rfl⟩ ⟨rfl, rfl⟩ rfl (by decide) (by decide) (by decide) k_X12_noSource (tb_X12 ⟨rfl, rfl, rfl, rfl, rfl, rfl, rfl, rfl, rfl⟩) a_X12_noSource h_X12_noSource rfl
theorem hd_X12_trust : yX12_trust.cls ≠ "java/lang/invoke/MethodHandle" ∧ yX12_trust.cls ≠ "java/lang/invoke/VarHandle" ∧ (parseMethodDescriptor yX12_trust.desc).map (fun d => d.parameters.length) = some 2 := ⟨by decide, by decide, by decide +kernel⟩
theorem he_X12_trust : yX12_trust.cls ≠ "java/lang/invoke/MethodHandle" ∧ yX12_trust.cls ≠ "java/lang/invoke/VarHandle" ∧ (parseMethodDescriptor yX12_trust.desc).map (fun d => d.parameters.length + 1) = some 3 := ⟨by decide, by decide, by decide +kernel⟩
theorem pn_X12_trust : plainFor yX12_trust = true := by decide +kernel
def K_X12_trust : ck_cd := [(0, .iload_n 1, 1), (1, .invokestatic 242, 3), (4, .ifCond .eq 5, 3), (7, .iconst (-1), 1), (8, .ireturn, 1), (9, .iload_n 2, 1), (10, .i2l, 1), (11, .lconst 1, 1), (12, .ldc2_w 245, 3), (15, .invokestatic 152, 3), (18, .ifCond .ne 6, 3), (21, .bipush (-2), 2), (23, .ireturn, 1), (24, .aload_n 0, 1), (25, .getfield 13, 3), (28, .iload_n 1, 1), (29, .iaload, 1), (30, .istore_n 3, 1), (31, .aload_n 0, 1), (32, .getfield 13, 3), (35, .iload_n 1, 1), (36, .iload_n 2, 1), (37, .iastore, 1), (38, .aload_n 0, 1), (39, .invokevirtual 247, 3), (42, .aload_n 0, 1), (43, .iconst 0, 1), (44, .putfield 250, 3), (47, .iload_n 3, 1), (48, .ireturn, 1)]
theorem k_X12_trust : ∀ x ∈ K_X12_trust, decode cX12_trust x.1 = .ok (x.2.1, x.2.2) := by decide +kernel
def C_X12_trust : ck_C := (([(2, 1, [17]), (0, 2, []), (0, 3, [])], [(46, 0, (50, 10, [4, 5, 6, 7, 8, 9]))], [(0, 0), (1, 0), ((-2147483648), (-1)), ((-2147483648), 2147483647), ((-2147483648), 2147483647), ((-2147483648), 2147483647), ((-2147483648), 2147483647), ((-2147483648), 2147483647), ((-2147483648), 2147483647), ((-2147483648), 2147483647), (1, 0)], []), [([(0, 11, [])], [(46, 0, (50, 12, [13, 14, 15, 16, 17, 18]))], [(1, 0), (1, 0), (1, 0), (1, 0), (1, 0), (1, 0), (1, 0), (1, 0), (1, 0), (1, 0), (1, 0), ((-1), (-1)), (1, 0), ((-2147483648), 2147483647), ((-2147483648), 2147483647), ((-2147483648), 2147483647), ((-2147483648), 2147483647), ((-2147483648), 2147483647), ((-2147483648), 2147483647)], [(13, 4, 0), (14, 5, 0), (15, 6, 0), (16, 7, 0), (17, 8, 0), (18, 9, 0), (4, 13, 0), (5, 14, 0), (6, 15, 0), (7, 16, 0), (8, 17, 0), (9, 18, 0)])], [(17, 19), (17, 33), (17, 43), (17, 55), (46, 0)], 0, 0)
def M_X12_trust : ck_Me := (4, cw_TT, cw_SG, 4, fl_X12, pl_X12, nw_X12, kl_X12, il_X12, xl_X12, cw_al, [(3 * 242 + 1, 0, 1, C_X12_noSource)], [(17, 19), (17, 33), (17, 43), (17, 55), (46, 0)], (0, 0), gl_X12)
def I_X12_trust : List (Nat × ck_I) := []
def S_X12_trust : ck_S := ([(0, (2, 1, [17])), (1, (0, 2, [])), (2, (0, 3, []))], [], [(46, 0, (50, 10, [4, 5, 6, 7, 8, 9])), (0, 1000, (8, 0, [])), (0, 1001, (8, 1, [])), (0, 1002, (8, 2, [])), (0, 1003, (8, 3, [])), (0, 1004, (8, 4, [])), (0, 1005, (8, 5, [])), (0, 1006, (8, 6, [])), (0, 1007, (8, 7, [])), (0, 1008, (8, 8, [])), (0, 1009, (8, 9, [])), (0, 1010, (8, 10, []))], [(0, 0), (1, 0), ((-2147483648), (-1)), ((-2147483648), 2147483647), ((-2147483648), 2147483647), ((-2147483648), 2147483647), ((-2147483648), 2147483647), ((-2147483648), 2147483647), ((-2147483648), 2147483647), ((-2147483648), 2147483647), (1, 0)], [], 0, 0)
theorem h_X12_trust : ck_chk M_X12_trust (ck_kr (mF M_X12_trust) 11 1 C_X12_trust) [] K_X12_trust I_X12_trust 11 35 S_X12_trust = true := by decide +kernel
theorem o_X12_trust : ck_ok5 C_X12_trust = true := by decide +kernel
theorem a_X12_trust : ck_ca cw_V RX12 cX12_trust ⟨2, 0, 0, 45⟩ M_X12_trust := fun _ l _ _ _ _ _ _ _ _ _ _ _ _ X hts htl hsw hnq =>
  (List.forall_mem_cons.mpr ⟨ck_cs_S (t_X12_noSource l) X hts htl hsw hnq ⟨rfl, rfl⟩ o_X12_noSource cw_good (ck_m4 tw_1582 tw_1583 tw_104 tw_1584) hd_X12_noSource ⟨rfl, rfl⟩ ⟨by decide, by decide⟩, (fun _ h => absurd h List.not_mem_nil)⟩)
theorem t_X12_trust (l : Launch) : ck_met cw_V l yX12_trust cX12_trust 4 (some .int) ⟨2, 0, 0, 45⟩ C_X12_trust :=
  ck_meth (M := M_X12_trust) (rt := 1) (pre := []) false  pn_X12_trust rfl (fun h => by cases h) ⟨rfl, rfl, rfl, rfl, rfl⟩ ⟨rfl, rfl⟩ rfl (by decide) (by decide) (by decide) k_X12_trust (tb_X12 ⟨rfl, rfl, rfl, rfl, rfl, rfl, rfl, rfl, rfl⟩) a_X12_trust h_X12_trust rfl
theorem hd_X12_otherView : yX12_otherView.cls ≠ "java/lang/invoke/MethodHandle" ∧ yX12_otherView.cls ≠ "java/lang/invoke/VarHandle" ∧ (parseMethodDescriptor yX12_otherView.desc).map (fun d => d.parameters.length) = some 0 := ⟨by decide, by decide, by decide +kernel⟩
theorem he_X12_otherView : yX12_otherView.cls ≠ "java/lang/invoke/MethodHandle" ∧ yX12_otherView.cls ≠ "java/lang/invoke/VarHandle" ∧ (parseMethodDescriptor yX12_otherView.desc).map (fun d => d.parameters.length + 1) = some 1 := ⟨by decide, by decide, by decide +kernel⟩
theorem pn_X12_otherView : plainFor yX12_otherView = true := by decide +kernel
def K_X12_otherView : ck_cd := [(0, .aload_n 0, 1), (1, .iconst 0, 1), (2, .putfield 254, 3), (5, .aload_n 0, 1), (6, .iconst 0, 1), (7, .putfield 257, 3), (10, .aload_n 0, 1), (11, .iconst 0, 1), (12, .putfield 260, 3), (15, .return_, 1)]
theorem k_X12_otherView : ∀ x ∈ K_X12_otherView, decode cX12_otherView x.1 = .ok (x.2.1, x.2.2) := by decide +kernel
def C_X12_otherView : ck_C := (([(2, 1, [17])], [], [(0, 0), (1, 0)], []), [([], [], [(1, 0), (1, 0)], [])], [(17, 19), (17, 33), (17, 55)], 0, 0)
def M_X12_otherView : ck_Me := (4, cw_TT, cw_SG, 1, fl_X12, pl_X12, nw_X12, kl_X12, il_X12, xl_X12, cw_al, [], [(17, 19), (17, 33), (17, 55)], (0, 0), gl_X12)
def I_X12_otherView : List (Nat × ck_I) := []
def S_X12_otherView : ck_S := ([(0, (2, 1, [17]))], [], [(0, 1000, (8, 0, [])), (0, 1001, (8, 1, []))], [(0, 0), (1, 0)], [], 0, 0)
theorem h_X12_otherView : ck_chk M_X12_otherView (ck_kr (mF M_X12_otherView) 2 0 C_X12_otherView) [] K_X12_otherView I_X12_otherView 2 15 S_X12_otherView = true := by decide +kernel
theorem o_X12_otherView : ck_ok5 C_X12_otherView = true := by decide +kernel
theorem a_X12_otherView : ck_ca cw_V RX12 cX12_otherView ⟨0, 0, 0, 0⟩ M_X12_otherView := fun _ _ _ _ _ _ _ _ _ _ _ _ _ _ _ _ _ _ _ _ h => absurd h List.not_mem_nil
theorem t_X12_otherView (l : Launch) : ck_met cw_V l yX12_otherView cX12_otherView 1 none ⟨0, 0, 0, 0⟩ C_X12_otherView :=
  ck_meth (M := M_X12_otherView) (rt := 0) (pre := []) false  pn_X12_otherView rfl (fun h => by cases h) ⟨rfl, rfl, rfl, rfl, rfl⟩ ⟨rfl, rfl⟩ rfl (by decide) (by decide) (by decide) k_X12_otherView (tb_X12 ⟨rfl, rfl, rfl, rfl, rfl, rfl, rfl, rfl, rfl⟩) a_X12_otherView h_X12_otherView rfl
def C_X12_trust_v2 : ck_C := (([(2, 1, [17]), (0, 2, []), (0, 3, [])], [(46, 0, (50, 10, [4, 5, 6, 7, 8, 9]))], [(0, 0), (1, 0), (0, 0), ((-2147483648), 2147483647), ((-2147483648), 2147483647), ((-2147483648), 2147483647), ((-2147483648), 2147483647), ((-2147483648), 2147483647), ((-2147483648), 2147483647), ((-2147483648), 2147483647), (1, 0)], []), [([(0, 11, [])], [(46, 0, (50, 12, [13, 14, 15, 16, 17, 18]))], [(1, 0), (1, 0), (1, 0), (1, 0), (1, 0), (1, 0), (1, 0), (1, 0), (1, 0), (1, 0), (1, 0), ((-2), (-2)), (1, 0), ((-2147483648), 2147483647), ((-2147483648), 2147483647), ((-2147483648), 2147483647), ((-2147483648), 2147483647), ((-2147483648), 2147483647), ((-2147483648), 2147483647)], [(3, 0, 0), (13, 4, 0), (14, 5, 0), (15, 6, 0), (16, 7, 0), (17, 8, 0), (18, 9, 0), (4, 13, 0), (5, 14, 0), (6, 15, 0), (7, 16, 0), (8, 17, 0), (9, 18, 0)]), ([(0, 11, [])], [(46, 0, (50, 12, [13, 14, 15, 16, 17, 18]))], [(1, 0), (1, 0), (1, 0), (1, 0), (1, 0), (1, 0), (1, 0), (1, 0), (1, 0), (1, 0), (1, 0), ((-2), (-2)), (1, 0), ((-2147483648), 2147483647), ((-2147483648), 2147483647), ((-2147483648), 2147483647), ((-2147483648), 2147483647), ((-2147483648), 2147483647), ((-2147483648), 2147483647)], [(0, 3, (-10)), (13, 4, 0), (14, 5, 0), (15, 6, 0), (16, 7, 0), (17, 8, 0), (18, 9, 0), (4, 13, 0), (5, 14, 0), (6, 15, 0), (7, 16, 0), (8, 17, 0), (9, 18, 0)]), ([(0, 11, [])], [(46, 0, (50, 12, [13, 14, 15, 16, 17, 18]))], [(1, 0), (1, 0), (1, 0), (1, 0), (1, 0), (1, 0), (1, 0), (1, 0), (1, 0), (1, 0), (1, 0), ((-2147483648), 2147483647), (1, 0), (1, 9), ((-2147483648), 2147483647), ((-2147483648), 2147483647), ((-2147483648), 2147483647), ((-2147483648), 2147483647), ((-2147483648), 2147483647)], [(3, 0, 9), (0, 3, (-1)), (13, 3, 0), (14, 5, 0), (15, 6, 0), (16, 7, 0), (17, 8, 0), (18, 9, 0), (11, 4, 0), (3, 13, 0), (4, 11, 0), (5, 14, 0), (6, 15, 0), (7, 16, 0), (8, 17, 0), (9, 18, 0)])], [(17, 19), (17, 33), (17, 43), (17, 55), (46, 0)], 0, 0)
def M_X12_trust_v2 : ck_Me := (4, cw_TT, cw_SG, 4, fl_X12, pl_X12, nw_X12, kl_X12, il_X12, xl_X12, cw_al, [(3 * 152 + 1, 0, 3, C_X12_in), (3 * 242 + 1, 0, 1, C_X12_noSource), (3 * 247, 17, 1, C_X12_otherView)], [(17, 19), (17, 33), (17, 43), (17, 55), (46, 0)], (0, 0), gl_X12)
def I_X12_trust_v2 : List (Nat × ck_I) := []
def S_X12_trust_v2 : ck_S := ([(0, (2, 1, [17])), (1, (0, 2, [])), (2, (0, 3, []))], [], [(46, 0, (50, 10, [4, 5, 6, 7, 8, 9])), (0, 1000, (8, 0, [])), (0, 1001, (8, 1, [])), (0, 1002, (8, 2, [])), (0, 1003, (8, 3, [])), (0, 1004, (8, 4, [])), (0, 1005, (8, 5, [])), (0, 1006, (8, 6, [])), (0, 1007, (8, 7, [])), (0, 1008, (8, 8, [])), (0, 1009, (8, 9, [])), (0, 1010, (8, 10, []))], [(0, 0), (1, 0), (0, 0), ((-2147483648), 2147483647), ((-2147483648), 2147483647), ((-2147483648), 2147483647), ((-2147483648), 2147483647), ((-2147483648), 2147483647), ((-2147483648), 2147483647), ((-2147483648), 2147483647), (1, 0)], [], 0, 0)
def sp_X12_trust_v2 : ck_spc := [(29, 30, ck_sCl 4 46 6), (37, 38, ck_sCs 4 46 6 (-2147483648) 2147483647)]
theorem h_X12_trust_v2 : ck_chk M_X12_trust_v2 (ck_kr (mF M_X12_trust_v2) 11 1 C_X12_trust_v2) sp_X12_trust_v2 K_X12_trust I_X12_trust_v2 11 35 S_X12_trust_v2 = true := by decide +kernel
theorem o_X12_trust_v2 : ck_ok5 C_X12_trust_v2 = true := by decide +kernel
theorem a_X12_trust_v2 : ck_ca cw_V RX12 cX12_trust ⟨2, 0, 0, 45⟩ M_X12_trust_v2 := fun _ l _ _ _ _ _ _ _ _ _ _ _ _ X hts htl hsw hnq =>
  (List.forall_mem_cons.mpr ⟨ck_cs_S (t_X12_in l) X hts htl hsw hnq ⟨rfl, rfl⟩ o_X12_in cw_good (ck_m4 tw_1485 tw_1486 tw_104 tw_1487) hd_X12_in ⟨rfl, rfl⟩ ⟨by decide, by decide⟩, (List.forall_mem_cons.mpr ⟨ck_cs_S (t_X12_noSource l) X hts htl hsw hnq ⟨rfl, rfl⟩ o_X12_noSource cw_good (ck_m4 tw_1582 tw_1583 tw_104 tw_1584) hd_X12_noSource ⟨rfl, rfl⟩ ⟨by decide, by decide⟩, (List.forall_mem_cons.mpr ⟨ck_cs_V (t_X12_otherView l) X hts htl hsw hnq ⟨rfl, rfl⟩ o_X12_otherView cw_good (ck_m5 tw_1587 tw_1589 tw_41 tw_104 tw_1590) (by decide) rfl rfl rfl he_X12_otherView ⟨rfl, rfl⟩ ⟨by decide, by decide⟩, (fun _ h => absurd h List.not_mem_nil)⟩)⟩)⟩)
theorem t_X12_trust_v2 (l : Launch) : ck_met cw_V l yX12_trust cX12_trust 4 (some .int) ⟨2, 0, 0, 45⟩ C_X12_trust_v2 :=
  ck_methS (sp := sp_X12_trust_v2) (M := M_X12_trust_v2) (rt := 1) (pre := []) false (fun p l e s m As below meth c D tys ws sh n1 sw X hts htl hsw hnq hret hph hpo hwo => (List.forall_mem_cons.mpr ⟨fun S L hS b hb hk => ck_sCl_ok (F := 4) (t := 46) (len := 6) (X b) rfl hS hk (k_X12_trust (29, .iaload, 1) (List.mem_of_getElem? (i := 16) rfl)), (List.forall_mem_cons.mpr ⟨fun S L hS b hb hk => ck_sCs_ok (F := 4) (t := 46) (len := 6) (lo := -2147483648) (hi := 2147483647) (X b) rfl (by decide +kernel) hS hk (k_X12_trust (37, .iastore, 1) (List.mem_of_getElem? (i := 22) rfl)), (fun _ h => absurd h List.not_mem_nil)⟩)⟩)) pn_X12_trust rfl (fun h => by cases h) ⟨rfl, rfl, rfl, rfl, rfl⟩ ⟨rfl, rfl⟩ rfl (by decide) (by decide) (by decide) k_X12_trust (tb_X12 ⟨rfl, rfl, rfl, rfl, rfl, rfl, rfl, rfl, rfl⟩) a_X12_trust_v2 h_X12_trust_v2 rfl
def C_X12_trust_v3 : ck_C := (([(2, 1, [17]), (0, 2, []), (0, 3, [])], [(46, 0, (50, 10, [4, 5, 6, 7, 8, 9]))], [(0, 0), (1, 0), (1, 1), ((-2147483648), 2147483647), ((-2147483648), 2147483647), ((-2147483648), 2147483647), ((-2147483648), 2147483647), ((-2147483648), 2147483647), ((-2147483648), 2147483647), ((-2147483648), 2147483647), (1, 0)], []), [([(0, 11, [])], [(46, 0, (50, 12, [13, 14, 15, 16, 17, 18]))], [(1, 0), (1, 0), (1, 0), (1, 0), (1, 0), (1, 0), (1, 0), (1, 0), (1, 0), (1, 0), (1, 0), ((-2), (-2)), (1, 0), ((-2147483648), 2147483647), ((-2147483648), 2147483647), ((-2147483648), 2147483647), ((-2147483648), 2147483647), ((-2147483648), 2147483647), ((-2147483648), 2147483647)], [(3, 0, 0), (13, 4, 0), (14, 5, 0), (15, 6, 0), (16, 7, 0), (17, 8, 0), (18, 9, 0), (4, 13, 0), (5, 14, 0), (6, 15, 0), (7, 16, 0), (8, 17, 0), (9, 18, 0)]), ([(0, 11, [])], [(46, 0, (50, 12, [13, 14, 15, 16, 17, 18]))], [(1, 0), (1, 0), (1, 0), (1, 0), (1, 0), (1, 0), (1, 0), (1, 0), (1, 0), (1, 0), (1, 0), ((-2), (-2)), (1, 0), ((-2147483648), 2147483647), ((-2147483648), 2147483647), ((-2147483648), 2147483647), ((-2147483648), 2147483647), ((-2147483648), 2147483647), ((-2147483648), 2147483647)], [(0, 3, (-10)), (13, 4, 0), (14, 5, 0), (15, 6, 0), (16, 7, 0), (17, 8, 0), (18, 9, 0), (4, 13, 0), (5, 14, 0), (6, 15, 0), (7, 16, 0), (8, 17, 0), (9, 18, 0)]), ([(0, 11, [])], [(46, 0, (50, 12, [13, 14, 15, 16, 17, 18]))], [(1, 0), (1, 0), (1, 0), (1, 0), (1, 0), (1, 0), (1, 0), (1, 0), (1, 0), (1, 0), (1, 0), ((-2147483648), 2147483647), (1, 0), ((-2147483648), 2147483647), (1, 9), ((-2147483648), 2147483647), ((-2147483648), 2147483647), ((-2147483648), 2147483647), ((-2147483648), 2147483647)], [(3, 0, 9), (0, 3, (-1)), (13, 4, 0), (14, 3, 0), (15, 6, 0), (16, 7, 0), (17, 8, 0), (18, 9, 0), (11, 5, 0), (3, 14, 0), (4, 13, 0), (5, 11, 0), (6, 15, 0), (7, 16, 0), (8, 17, 0), (9, 18, 0)])], [(17, 19), (17, 33), (17, 43), (17, 55), (46, 0)], 0, 0)
def M_X12_trust_v3 : ck_Me := (4, cw_TT, cw_SG, 4, fl_X12, pl_X12, nw_X12, kl_X12, il_X12, xl_X12, cw_al, [(3 * 152 + 1, 0, 3, C_X12_in), (3 * 242 + 1, 0, 1, C_X12_noSource), (3 * 247, 17, 1, C_X12_otherView)], [(17, 19), (17, 33), (17, 43), (17, 55), (46, 0)], (0, 0), gl_X12)
def I_X12_trust_v3 : List (Nat × ck_I) := []
def S_X12_trust_v3 : ck_S := ([(0, (2, 1, [17])), (1, (0, 2, [])), (2, (0, 3, []))], [], [(46, 0, (50, 10, [4, 5, 6, 7, 8, 9])), (0, 1000, (8, 0, [])), (0, 1001, (8, 1, [])), (0, 1002, (8, 2, [])), (0, 1003, (8, 3, [])), (0, 1004, (8, 4, [])), (0, 1005, (8, 5, [])), (0, 1006, (8, 6, [])), (0, 1007, (8, 7, [])), (0, 1008, (8, 8, [])), (0, 1009, (8, 9, [])), (0, 1010, (8, 10, []))], [(0, 0), (1, 0), (1, 1), ((-2147483648), 2147483647), ((-2147483648), 2147483647), ((-2147483648), 2147483647), ((-2147483648), 2147483647), ((-2147483648), 2147483647), ((-2147483648), 2147483647), ((-2147483648), 2147483647), (1, 0)], [], 0, 0)
def sp_X12_trust_v3 : ck_spc := [(29, 30, ck_sCl 4 46 6), (37, 38, ck_sCs 4 46 6 (-2147483648) 2147483647)]
theorem h_X12_trust_v3 : ck_chk M_X12_trust_v3 (ck_kr (mF M_X12_trust_v3) 11 1 C_X12_trust_v3) sp_X12_trust_v3 K_X12_trust I_X12_trust_v3 11 35 S_X12_trust_v3 = true := by decide +kernel
theorem o_X12_trust_v3 : ck_ok5 C_X12_trust_v3 = true := by decide +kernel
theorem a_X12_trust_v3 : ck_ca cw_V RX12 cX12_trust ⟨2, 0, 0, 45⟩ M_X12_trust_v3 := fun _ l _ _ _ _ _ _ _ _ _ _ _ _ X hts htl hsw hnq =>
  (List.forall_mem_cons.mpr ⟨ck_cs_S (t_X12_in l) X hts htl hsw hnq ⟨rfl, rfl⟩ o_X12_in cw_good (ck_m4 tw_1485 tw_1486 tw_104 tw_1487) hd_X12_in ⟨rfl, rfl⟩ ⟨by decide, by decide⟩, (List.forall_mem_cons.mpr ⟨ck_cs_S (t_X12_noSource l) X hts htl hsw hnq ⟨rfl, rfl⟩ o_X12_noSource cw_good (ck_m4 tw_1582 tw_1583 tw_104 tw_1584) hd_X12_noSource ⟨rfl, rfl⟩ ⟨by decide, by decide⟩, (List.forall_mem_cons.mpr ⟨ck_cs_V (t_X12_otherView l) X hts htl hsw hnq ⟨rfl, rfl⟩ o_X12_otherView cw_good (ck_m5 tw_1587 tw_1589 tw_41 tw_104 tw_1590) (by decide) rfl rfl rfl he_X12_otherView ⟨rfl, rfl⟩ ⟨by decide, by decide⟩, (fun _ h => absurd h List.not_mem_nil)⟩)⟩)⟩)
theorem t_X12_trust_v3 (l : Launch) : ck_met cw_V l yX12_trust cX12_trust 4 (some .int) ⟨2, 0, 0, 45⟩ C_X12_trust_v3 :=
  ck_methS (sp := sp_X12_trust_v3) (M := M_X12_trust_v3) (rt := 1) (pre := []) false (fun p l e s m As below meth c D tys ws sh n1 sw X hts htl hsw hnq hret hph hpo hwo => (List.forall_mem_cons.mpr ⟨fun S L hS b hb hk => ck_sCl_ok (F := 4) (t := 46) (len := 6) (X b) rfl hS hk (k_X12_trust (29, .iaload, 1) (List.mem_of_getElem? (i := 16) rfl)), (List.forall_mem_cons.mpr ⟨fun S L hS b hb hk => ck_sCs_ok (F := 4) (t := 46) (len := 6) (lo := -2147483648) (hi := 2147483647) (X b) rfl (by decide +kernel) hS hk (k_X12_trust (37, .iastore, 1) (List.mem_of_getElem? (i := 22) rfl)), (fun _ h => absurd h List.not_mem_nil)⟩)⟩)) pn_X12_trust rfl (fun h => by cases h) ⟨rfl, rfl, rfl, rfl, rfl⟩ ⟨rfl, rfl⟩ rfl (by decide) (by decide) (by decide) k_X12_trust (tb_X12 ⟨rfl, rfl, rfl, rfl, rfl, rfl, rfl, rfl, rfl⟩) a_X12_trust_v3 h_X12_trust_v3 rfl
def C_X12_trust_v4 : ck_C := (([(2, 1, [17]), (0, 2, []), (0, 3, [])], [(46, 0, (50, 10, [4, 5, 6, 7, 8, 9]))], [(0, 0), (1, 0), (2, 2), ((-2147483648), 2147483647), ((-2147483648), 2147483647), ((-2147483648), 2147483647), ((-2147483648), 2147483647), ((-2147483648), 2147483647), ((-2147483648), 2147483647), ((-2147483648), 2147483647), (1, 0)], []), [([(0, 11, [])], [(46, 0, (50, 12, [13, 14, 15, 16, 17, 18]))], [(1, 0), (1, 0), (1, 0), (1, 0), (1, 0), (1, 0), (1, 0), (1, 0), (1, 0), (1, 0), (1, 0), ((-2), (-2)), (1, 0), ((-2147483648), 2147483647), ((-2147483648), 2147483647), ((-2147483648), 2147483647), ((-2147483648), 2147483647), ((-2147483648), 2147483647), ((-2147483648), 2147483647)], [(3, 0, 0), (13, 4, 0), (14, 5, 0), (15, 6, 0), (16, 7, 0), (17, 8, 0), (18, 9, 0), (4, 13, 0), (5, 14, 0), (6, 15, 0), (7, 16, 0), (8, 17, 0), (9, 18, 0)]), ([(0, 11, [])], [(46, 0, (50, 12, [13, 14, 15, 16, 17, 18]))], [(1, 0), (1, 0), (1, 0), (1, 0), (1, 0), (1, 0), (1, 0), (1, 0), (1, 0), (1, 0), (1, 0), ((-2), (-2)), (1, 0), ((-2147483648), 2147483647), ((-2147483648), 2147483647), ((-2147483648), 2147483647), ((-2147483648), 2147483647), ((-2147483648), 2147483647), ((-2147483648), 2147483647)], [(0, 3, (-10)), (13, 4, 0), (14, 5, 0), (15, 6, 0), (16, 7, 0), (17, 8, 0), (18, 9, 0), (4, 13, 0), (5, 14, 0), (6, 15, 0), (7, 16, 0), (8, 17, 0), (9, 18, 0)]), ([(0, 11, [])], [(46, 0, (50, 12, [13, 14, 15, 16, 17, 18]))], [(1, 0), (1, 0), (1, 0), (1, 0), (1, 0), (1, 0), (1, 0), (1, 0), (1, 0), (1, 0), (1, 0), ((-2147483648), 2147483647), (1, 0), ((-2147483648), 2147483647), ((-2147483648), 2147483647), (1, 9), ((-2147483648), 2147483647), ((-2147483648), 2147483647), ((-2147483648), 2147483647)], [(3, 0, 9), (0, 3, (-1)), (13, 4, 0), (14, 5, 0), (15, 3, 0), (16, 7, 0), (17, 8, 0), (18, 9, 0), (11, 6, 0), (3, 15, 0), (4, 13, 0), (5, 14, 0), (6, 11, 0), (7, 16, 0), (8, 17, 0), (9, 18, 0)])], [(17, 19), (17, 33), (17, 43), (17, 55), (46, 0)], 0, 0)
def M_X12_trust_v4 : ck_Me := (4, cw_TT, cw_SG, 4, fl_X12, pl_X12, nw_X12, kl_X12, il_X12, xl_X12, cw_al, [(3 * 152 + 1, 0, 3, C_X12_in), (3 * 242 + 1, 0, 1, C_X12_noSource), (3 * 247, 17, 1, C_X12_otherView)], [(17, 19), (17, 33), (17, 43), (17, 55), (46, 0)], (0, 0), gl_X12)
def I_X12_trust_v4 : List (Nat × ck_I) := []
def S_X12_trust_v4 : ck_S := ([(0, (2, 1, [17])), (1, (0, 2, [])), (2, (0, 3, []))], [], [(46, 0, (50, 10, [4, 5, 6, 7, 8, 9])), (0, 1000, (8, 0, [])), (0, 1001, (8, 1, [])), (0, 1002, (8, 2, [])), (0, 1003, (8, 3, [])), (0, 1004, (8, 4, [])), (0, 1005, (8, 5, [])), (0, 1006, (8, 6, [])), (0, 1007, (8, 7, [])), (0, 1008, (8, 8, [])), (0, 1009, (8, 9, [])), (0, 1010, (8, 10, []))], [(0, 0), (1, 0), (2, 2), ((-2147483648), 2147483647), ((-2147483648), 2147483647), ((-2147483648), 2147483647), ((-2147483648), 2147483647), ((-2147483648), 2147483647), ((-2147483648), 2147483647), ((-2147483648), 2147483647), (1, 0)], [], 0, 0)
def sp_X12_trust_v4 : ck_spc := [(29, 30, ck_sCl 4 46 6), (37, 38, ck_sCs 4 46 6 (-2147483648) 2147483647)]
theorem h_X12_trust_v4 : ck_chk M_X12_trust_v4 (ck_kr (mF M_X12_trust_v4) 11 1 C_X12_trust_v4) sp_X12_trust_v4 K_X12_trust I_X12_trust_v4 11 35 S_X12_trust_v4 = true := by decide +kernel
theorem o_X12_trust_v4 : ck_ok5 C_X12_trust_v4 = true := by decide +kernel
theorem a_X12_trust_v4 : ck_ca cw_V RX12 cX12_trust ⟨2, 0, 0, 45⟩ M_X12_trust_v4 := fun _ l _ _ _ _ _ _ _ _ _ _ _ _ X hts htl hsw hnq =>
  (List.forall_mem_cons.mpr ⟨ck_cs_S (t_X12_in l) X hts htl hsw hnq ⟨rfl, rfl⟩ o_X12_in cw_good (ck_m4 tw_1485 tw_1486 tw_104 tw_1487) hd_X12_in ⟨rfl, rfl⟩ ⟨by decide, by decide⟩, (List.forall_mem_cons.mpr ⟨ck_cs_S (t_X12_noSource l) X hts htl hsw hnq ⟨rfl, rfl⟩ o_X12_noSource cw_good (ck_m4 tw_1582 tw_1583 tw_104 tw_1584) hd_X12_noSource ⟨rfl, rfl⟩ ⟨by decide, by decide⟩, (List.forall_mem_cons.mpr ⟨ck_cs_V (t_X12_otherView l) X hts htl hsw hnq ⟨rfl, rfl⟩ o_X12_otherView cw_good (ck_m5 tw_1587 tw_1589 tw_41 tw_104 tw_1590) (by decide) rfl rfl rfl he_X12_otherView ⟨rfl, rfl⟩ ⟨by decide, by decide⟩, (fun _ h => absurd h List.not_mem_nil)⟩)⟩)⟩)
theorem t_X12_trust_v4 (l : Launch) : ck_met cw_V l yX12_trust cX12_trust 4 (some .int) ⟨2, 0, 0, 45⟩ C_X12_trust_v4 :=
  ck_methS (sp := sp_X12_trust_v4) (M := M_X12_trust_v4) (rt := 1) (pre := []) false (fun p l e s m As below meth c D tys ws sh n1 sw X hts htl hsw hnq hret hph hpo hwo => (List.forall_mem_cons.mpr ⟨fun S L hS b hb hk => ck_sCl_ok (F := 4) (t := 46) (len := 6) (X b) rfl hS hk (k_X12_trust (29, .iaload, 1) (List.mem_of_getElem? (i := 16) rfl)), (List.forall_mem_cons.mpr ⟨fun S L hS b hb hk => ck_sCs_ok (F := 4) (t := 46) (len := 6) (lo := -2147483648) (hi := 2147483647) (X b) rfl (by decide +kernel) hS hk (k_X12_trust (37, .iastore, 1) (List.mem_of_getElem? (i := 22) rfl)), (fun _ h => absurd h List.not_mem_nil)⟩)⟩)) pn_X12_trust rfl (fun h => by cases h) ⟨rfl, rfl, rfl, rfl, rfl⟩ ⟨rfl, rfl⟩ rfl (by decide) (by decide) (by decide) k_X12_trust (tb_X12 ⟨rfl, rfl, rfl, rfl, rfl, rfl, rfl, rfl, rfl⟩) a_X12_trust_v4 h_X12_trust_v4 rfl
def C_X12_trust_v5 : ck_C := (([(2, 1, [17]), (0, 2, []), (0, 3, [])], [(46, 0, (50, 10, [4, 5, 6, 7, 8, 9]))], [(0, 0), (1, 0), (3, 3), ((-2147483648), 2147483647), ((-2147483648), 2147483647), ((-2147483648), 2147483647), ((-2147483648), 2147483647), ((-2147483648), 2147483647), ((-2147483648), 2147483647), ((-2147483648), 2147483647), (1, 0)], []), [([(0, 11, [])], [(46, 0, (50, 12, [13, 14, 15, 16, 17, 18]))], [(1, 0), (1, 0), (1, 0), (1, 0), (1, 0), (1, 0), (1, 0), (1, 0), (1, 0), (1, 0), (1, 0), ((-2), (-2)), (1, 0), ((-2147483648), 2147483647), ((-2147483648), 2147483647), ((-2147483648), 2147483647), ((-2147483648), 2147483647), ((-2147483648), 2147483647), ((-2147483648), 2147483647)], [(3, 0, 0), (13, 4, 0), (14, 5, 0), (15, 6, 0), (16, 7, 0), (17, 8, 0), (18, 9, 0), (4, 13, 0), (5, 14, 0), (6, 15, 0), (7, 16, 0), (8, 17, 0), (9, 18, 0)]), ([(0, 11, [])], [(46, 0, (50, 12, [13, 14, 15, 16, 17, 18]))], [(1, 0), (1, 0), (1, 0), (1, 0), (1, 0), (1, 0), (1, 0), (1, 0), (1, 0), (1, 0), (1, 0), ((-2), (-2)), (1, 0), ((-2147483648), 2147483647), ((-2147483648), 2147483647), ((-2147483648), 2147483647), ((-2147483648), 2147483647), ((-2147483648), 2147483647), ((-2147483648), 2147483647)], [(0, 3, (-10)), (13, 4, 0), (14, 5, 0), (15, 6, 0), (16, 7, 0), (17, 8, 0), (18, 9, 0), (4, 13, 0), (5, 14, 0), (6, 15, 0), (7, 16, 0), (8, 17, 0), (9, 18, 0)]), ([(0, 11, [])], [(46, 0, (50, 12, [13, 14, 15, 16, 17, 18]))], [(1, 0), (1, 0), (1, 0), (1, 0), (1, 0), (1, 0), (1, 0), (1, 0), (1, 0), (1, 0), (1, 0), ((-2147483648), 2147483647), (1, 0), ((-2147483648), 2147483647), ((-2147483648), 2147483647), ((-2147483648), 2147483647), (1, 9), ((-2147483648), 2147483647), ((-2147483648), 2147483647)], [(3, 0, 9), (0, 3, (-1)), (13, 4, 0), (14, 5, 0), (15, 6, 0), (16, 3, 0), (17, 8, 0), (18, 9, 0), (11, 7, 0), (3, 16, 0), (4, 13, 0), (5, 14, 0), (6, 15, 0), (7, 11, 0), (8, 17, 0), (9, 18, 0)])], [(17, 19), (17, 33), (17, 43), (17, 55), (46, 0)], 0, 0)
def M_X12_trust_v5 : ck_Me := (4, cw_TT, cw_SG, 4, fl_X12, pl_X12, nw_X12, kl_X12, il_X12, xl_X12, cw_al, [(3 * 152 + 1, 0, 3, C_X12_in), (3 * 242 + 1, 0, 1, C_X12_noSource), (3 * 247, 17, 1, C_X12_otherView)], [(17, 19), (17, 33), (17, 43), (17, 55), (46, 0)], (0, 0), gl_X12)
def I_X12_trust_v5 : List (Nat × ck_I) := []
def S_X12_trust_v5 : ck_S := ([(0, (2, 1, [17])), (1, (0, 2, [])), (2, (0, 3, []))], [], [(46, 0, (50, 10, [4, 5, 6, 7, 8, 9])), (0, 1000, (8, 0, [])), (0, 1001, (8, 1, [])), (0, 1002, (8, 2, [])), (0, 1003, (8, 3, [])), (0, 1004, (8, 4, [])), (0, 1005, (8, 5, [])), (0, 1006, (8, 6, [])), (0, 1007, (8, 7, [])), (0, 1008, (8, 8, [])), (0, 1009, (8, 9, [])), (0, 1010, (8, 10, []))], [(0, 0), (1, 0), (3, 3), ((-2147483648), 2147483647), ((-2147483648), 2147483647), ((-2147483648), 2147483647), ((-2147483648), 2147483647), ((-2147483648), 2147483647), ((-2147483648), 2147483647), ((-2147483648), 2147483647), (1, 0)], [], 0, 0)
def sp_X12_trust_v5 : ck_spc := [(29, 30, ck_sCl 4 46 6), (37, 38, ck_sCs 4 46 6 (-2147483648) 2147483647)]
theorem h_X12_trust_v5 : ck_chk M_X12_trust_v5 (ck_kr (mF M_X12_trust_v5) 11 1 C_X12_trust_v5) sp_X12_trust_v5 K_X12_trust I_X12_trust_v5 11 35 S_X12_trust_v5 = true := by decide +kernel
theorem o_X12_trust_v5 : ck_ok5 C_X12_trust_v5 = true := by decide +kernel
theorem a_X12_trust_v5 : ck_ca cw_V RX12 cX12_trust ⟨2, 0, 0, 45⟩ M_X12_trust_v5 := fun _ l _ _ _ _ _ _ _ _ _ _ _ _ X hts htl hsw hnq =>
  (List.forall_mem_cons.mpr ⟨ck_cs_S (t_X12_in l) X hts htl hsw hnq ⟨rfl, rfl⟩ o_X12_in cw_good (ck_m4 tw_1485 tw_1486 tw_104 tw_1487) hd_X12_in ⟨rfl, rfl⟩ ⟨by decide, by decide⟩, (List.forall_mem_cons.mpr ⟨ck_cs_S (t_X12_noSource l) X hts htl hsw hnq ⟨rfl, rfl⟩ o_X12_noSource cw_good (ck_m4 tw_1582 tw_1583 tw_104 tw_1584) hd_X12_noSource ⟨rfl, rfl⟩ ⟨by decide, by decide⟩, (List.forall_mem_cons.mpr ⟨ck_cs_V (t_X12_otherView l) X hts htl hsw hnq ⟨rfl, rfl⟩ o_X12_otherView cw_good (ck_m5 tw_1587 tw_1589 tw_41 tw_104 tw_1590) (by decide) rfl rfl rfl he_X12_otherView ⟨rfl, rfl⟩ ⟨by decide, by decide⟩, (fun _ h => absurd h List.not_mem_nil)⟩)⟩)⟩)
theorem t_X12_trust_v5 (l : Launch) : ck_met cw_V l yX12_trust cX12_trust 4 (some .int) ⟨2, 0, 0, 45⟩ C_X12_trust_v5 :=
  ck_methS (sp := sp_X12_trust_v5) (M := M_X12_trust_v5) (rt := 1) (pre := []) false (fun p l e s m As below meth c D tys ws sh n1 sw X hts htl hsw hnq hret hph hpo hwo => (List.forall_mem_cons.mpr ⟨fun S L hS b hb hk => ck_sCl_ok (F := 4) (t := 46) (len := 6) (X b) rfl hS hk (k_X12_trust (29, .iaload, 1) (List.mem_of_getElem? (i := 16) rfl)), (List.forall_mem_cons.mpr ⟨fun S L hS b hb hk => ck_sCs_ok (F := 4) (t := 46) (len := 6) (lo := -2147483648) (hi := 2147483647) (X b) rfl (by decide +kernel) hS hk (k_X12_trust (37, .iastore, 1) (List.mem_of_getElem? (i := 22) rfl)), (fun _ h => absurd h List.not_mem_nil)⟩)⟩)) pn_X12_trust rfl (fun h => by cases h) ⟨rfl, rfl, rfl, rfl, rfl⟩ ⟨rfl, rfl⟩ rfl (by decide) (by decide) (by decide) k_X12_trust (tb_X12 ⟨rfl, rfl, rfl, rfl, rfl, rfl, rfl, rfl, rfl⟩) a_X12_trust_v5 h_X12_trust_v5 rfl
def C_X12_trust_v6 : ck_C := (([(2, 1, [17]), (0, 2, []), (0, 3, [])], [(46, 0, (50, 10, [4, 5, 6, 7, 8, 9]))], [(0, 0), (1, 0), (4, 4), ((-2147483648), 2147483647), ((-2147483648), 2147483647), ((-2147483648), 2147483647), ((-2147483648), 2147483647), ((-2147483648), 2147483647), ((-2147483648), 2147483647), ((-2147483648), 2147483647), (1, 0)], []), [([(0, 11, [])], [(46, 0, (50, 12, [13, 14, 15, 16, 17, 18]))], [(1, 0), (1, 0), (1, 0), (1, 0), (1, 0), (1, 0), (1, 0), (1, 0), (1, 0), (1, 0), (1, 0), ((-2), (-2)), (1, 0), ((-2147483648), 2147483647), ((-2147483648), 2147483647), ((-2147483648), 2147483647), ((-2147483648), 2147483647), ((-2147483648), 2147483647), ((-2147483648), 2147483647)], [(3, 0, 0), (13, 4, 0), (14, 5, 0), (15, 6, 0), (16, 7, 0), (17, 8, 0), (18, 9, 0), (4, 13, 0), (5, 14, 0), (6, 15, 0), (7, 16, 0), (8, 17, 0), (9, 18, 0)]), ([(0, 11, [])], [(46, 0, (50, 12, [13, 14, 15, 16, 17, 18]))], [(1, 0), (1, 0), (1, 0), (1, 0), (1, 0), (1, 0), (1, 0), (1, 0), (1, 0), (1, 0), (1, 0), ((-2), (-2)), (1, 0), ((-2147483648), 2147483647), ((-2147483648), 2147483647), ((-2147483648), 2147483647), ((-2147483648), 2147483647), ((-2147483648), 2147483647), ((-2147483648), 2147483647)], [(0, 3, (-10)), (13, 4, 0), (14, 5, 0), (15, 6, 0), (16, 7, 0), (17, 8, 0), (18, 9, 0), (4, 13, 0), (5, 14, 0), (6, 15, 0), (7, 16, 0), (8, 17, 0), (9, 18, 0)]), ([(0, 11, [])], [(46, 0, (50, 12, [13, 14, 15, 16, 17, 18]))], [(1, 0), (1, 0), (1, 0), (1, 0), (1, 0), (1, 0), (1, 0), (1, 0), (1, 0), (1, 0), (1, 0), ((-2147483648), 2147483647), (1, 0), ((-2147483648), 2147483647), ((-2147483648), 2147483647), ((-2147483648), 2147483647), ((-2147483648), 2147483647), (1, 9), ((-2147483648), 2147483647)], [(3, 0, 9), (0, 3, (-1)), (13, 4, 0), (14, 5, 0), (15, 6, 0), (16, 7, 0), (17, 3, 0), (18, 9, 0), (11, 8, 0), (3, 17, 0), (4, 13, 0), (5, 14, 0), (6, 15, 0), (7, 16, 0), (8, 11, 0), (9, 18, 0)])], [(17, 19), (17, 33), (17, 43), (17, 55), (46, 0)], 0, 0)
def M_X12_trust_v6 : ck_Me := (4, cw_TT, cw_SG, 4, fl_X12, pl_X12, nw_X12, kl_X12, il_X12, xl_X12, cw_al, [(3 * 152 + 1, 0, 3, C_X12_in), (3 * 242 + 1, 0, 1, C_X12_noSource), (3 * 247, 17, 1, C_X12_otherView)], [(17, 19), (17, 33), (17, 43), (17, 55), (46, 0)], (0, 0), gl_X12)
def I_X12_trust_v6 : List (Nat × ck_I) := []
def S_X12_trust_v6 : ck_S := ([(0, (2, 1, [17])), (1, (0, 2, [])), (2, (0, 3, []))], [], [(46, 0, (50, 10, [4, 5, 6, 7, 8, 9])), (0, 1000, (8, 0, [])), (0, 1001, (8, 1, [])), (0, 1002, (8, 2, [])), (0, 1003, (8, 3, [])), (0, 1004, (8, 4, [])), (0, 1005, (8, 5, [])), (0, 1006, (8, 6, [])), (0, 1007, (8, 7, [])), (0, 1008, (8, 8, [])), (0, 1009, (8, 9, [])), (0, 1010, (8, 10, []))], [(0, 0), (1, 0), (4, 4), ((-2147483648), 2147483647), ((-2147483648), 2147483647), ((-2147483648), 2147483647), ((-2147483648), 2147483647), ((-2147483648), 2147483647), ((-2147483648), 2147483647), ((-2147483648), 2147483647), (1, 0)], [], 0, 0)
def sp_X12_trust_v6 : ck_spc := [(29, 30, ck_sCl 4 46 6), (37, 38, ck_sCs 4 46 6 (-2147483648) 2147483647)]
theorem h_X12_trust_v6 : ck_chk M_X12_trust_v6 (ck_kr (mF M_X12_trust_v6) 11 1 C_X12_trust_v6) sp_X12_trust_v6 K_X12_trust I_X12_trust_v6 11 35 S_X12_trust_v6 = true := by decide +kernel
theorem o_X12_trust_v6 : ck_ok5 C_X12_trust_v6 = true := by decide +kernel
theorem a_X12_trust_v6 : ck_ca cw_V RX12 cX12_trust ⟨2, 0, 0, 45⟩ M_X12_trust_v6 := fun _ l _ _ _ _ _ _ _ _ _ _ _ _ X hts htl hsw hnq =>
  (List.forall_mem_cons.mpr ⟨ck_cs_S (t_X12_in l) X hts htl hsw hnq ⟨rfl, rfl⟩ o_X12_in cw_good (ck_m4 tw_1485 tw_1486 tw_104 tw_1487) hd_X12_in ⟨rfl, rfl⟩ ⟨by decide, by decide⟩, (List.forall_mem_cons.mpr ⟨ck_cs_S (t_X12_noSource l) X hts htl hsw hnq ⟨rfl, rfl⟩ o_X12_noSource cw_good (ck_m4 tw_1582 tw_1583 tw_104 tw_1584) hd_X12_noSource ⟨rfl, rfl⟩ ⟨by decide, by decide⟩, (List.forall_mem_cons.mpr ⟨ck_cs_V (t_X12_otherView l) X hts htl hsw hnq ⟨rfl, rfl⟩ o_X12_otherView cw_good (ck_m5 tw_1587 tw_1589 tw_41 tw_104 tw_1590) (by decide) rfl rfl rfl he_X12_otherView ⟨rfl, rfl⟩ ⟨by decide, by decide⟩, (fun _ h => absurd h List.not_mem_nil)⟩)⟩)⟩)
theorem t_X12_trust_v6 (l : Launch) : ck_met cw_V l yX12_trust cX12_trust 4 (some .int) ⟨2, 0, 0, 45⟩ C_X12_trust_v6 :=
  ck_methS (sp := sp_X12_trust_v6) (M := M_X12_trust_v6) (rt := 1) (pre := []) false (fun p l e s m As below meth c D tys ws sh n1 sw X hts htl hsw hnq hret hph hpo hwo => (List.forall_mem_cons.mpr ⟨fun S L hS b hb hk => ck_sCl_ok (F := 4) (t := 46) (len := 6) (X b) rfl hS hk (k_X12_trust (29, .iaload, 1) (List.mem_of_getElem? (i := 16) rfl)), (List.forall_mem_cons.mpr ⟨fun S L hS b hb hk => ck_sCs_ok (F := 4) (t := 46) (len := 6) (lo := -2147483648) (hi := 2147483647) (X b) rfl (by decide +kernel) hS hk (k_X12_trust (37, .iastore, 1) (List.mem_of_getElem? (i := 22) rfl)), (fun _ h => absurd h List.not_mem_nil)⟩)⟩)) pn_X12_trust rfl (fun h => by cases h) ⟨rfl, rfl, rfl, rfl, rfl⟩ ⟨rfl, rfl⟩ rfl (by decide) (by decide) (by decide) k_X12_trust (tb_X12 ⟨rfl, rfl, rfl, rfl, rfl, rfl, rfl, rfl, rfl⟩) a_X12_trust_v6 h_X12_trust_v6 rfl
def C_X12_trust_v7 : ck_C := (([(2, 1, [17]), (0, 2, []), (0, 3, [])], [(46, 0, (50, 10, [4, 5, 6, 7, 8, 9]))], [(0, 0), (1, 0), (5, 5), ((-2147483648), 2147483647), ((-2147483648), 2147483647), ((-2147483648), 2147483647), ((-2147483648), 2147483647), ((-2147483648), 2147483647), ((-2147483648), 2147483647), ((-2147483648), 2147483647), (1, 0)], []), [([(0, 11, [])], [(46, 0, (50, 12, [13, 14, 15, 16, 17, 18]))], [(1, 0), (1, 0), (1, 0), (1, 0), (1, 0), (1, 0), (1, 0), (1, 0), (1, 0), (1, 0), (1, 0), ((-2), (-2)), (1, 0), ((-2147483648), 2147483647), ((-2147483648), 2147483647), ((-2147483648), 2147483647), ((-2147483648), 2147483647), ((-2147483648), 2147483647), ((-2147483648), 2147483647)], [(3, 0, 0), (13, 4, 0), (14, 5, 0), (15, 6, 0), (16, 7, 0), (17, 8, 0), (18, 9, 0), (4, 13, 0), (5, 14, 0), (6, 15, 0), (7, 16, 0), (8, 17, 0), (9, 18, 0)]), ([(0, 11, [])], [(46, 0, (50, 12, [13, 14, 15, 16, 17, 18]))], [(1, 0), (1, 0), (1, 0), (1, 0), (1, 0), (1, 0), (1, 0), (1, 0), (1, 0), (1, 0), (1, 0), ((-2), (-2)), (1, 0), ((-2147483648), 2147483647), ((-2147483648), 2147483647), ((-2147483648), 2147483647), ((-2147483648), 2147483647), ((-2147483648), 2147483647), ((-2147483648), 2147483647)], [(0, 3, (-10)), (13, 4, 0), (14, 5, 0), (15, 6, 0), (16, 7, 0), (17, 8, 0), (18, 9, 0), (4, 13, 0), (5, 14, 0), (6, 15, 0), (7, 16, 0), (8, 17, 0), (9, 18, 0)]), ([(0, 11, [])], [(46, 0, (50, 12, [13, 14, 15, 16, 17, 18]))], [(1, 0), (1, 0), (1, 0), (1, 0), (1, 0), (1, 0), (1, 0), (1, 0), (1, 0), (1, 0), (1, 0), ((-2147483648), 2147483647), (1, 0), ((-2147483648), 2147483647), ((-2147483648), 2147483647), ((-2147483648), 2147483647), ((-2147483648), 2147483647), ((-2147483648), 2147483647), (1, 9)], [(3, 0, 9), (0, 3, (-1)), (13, 4, 0), (14, 5, 0), (15, 6, 0), (16, 7, 0), (17, 8, 0), (18, 3, 0), (11, 9, 0), (3, 18, 0), (4, 13, 0), (5, 14, 0), (6, 15, 0), (7, 16, 0), (8, 17, 0), (9, 11, 0)])], [(17, 19), (17, 33), (17, 43), (17, 55), (46, 0)], 0, 0)
def M_X12_trust_v7 : ck_Me := (4, cw_TT, cw_SG, 4, fl_X12, pl_X12, nw_X12, kl_X12, il_X12, xl_X12, cw_al, [(3 * 152 + 1, 0, 3, C_X12_in), (3 * 242 + 1, 0, 1, C_X12_noSource), (3 * 247, 17, 1, C_X12_otherView)], [(17, 19), (17, 33), (17, 43), (17, 55), (46, 0)], (0, 0), gl_X12)
def I_X12_trust_v7 : List (Nat × ck_I) := []
def S_X12_trust_v7 : ck_S := ([(0, (2, 1, [17])), (1, (0, 2, [])), (2, (0, 3, []))], [], [(46, 0, (50, 10, [4, 5, 6, 7, 8, 9])), (0, 1000, (8, 0, [])), (0, 1001, (8, 1, [])), (0, 1002, (8, 2, [])), (0, 1003, (8, 3, [])), (0, 1004, (8, 4, [])), (0, 1005, (8, 5, [])), (0, 1006, (8, 6, [])), (0, 1007, (8, 7, [])), (0, 1008, (8, 8, [])), (0, 1009, (8, 9, [])), (0, 1010, (8, 10, []))], [(0, 0), (1, 0), (5, 5), ((-2147483648), 2147483647), ((-2147483648), 2147483647), ((-2147483648), 2147483647), ((-2147483648), 2147483647), ((-2147483648), 2147483647), ((-2147483648), 2147483647), ((-2147483648), 2147483647), (1, 0)], [], 0, 0)
def sp_X12_trust_v7 : ck_spc := [(29, 30, ck_sCl 4 46 6), (37, 38, ck_sCs 4 46 6 (-2147483648) 2147483647)]
theorem h_X12_trust_v7 : ck_chk M_X12_trust_v7 (ck_kr (mF M_X12_trust_v7) 11 1 C_X12_trust_v7) sp_X12_trust_v7 K_X12_trust I_X12_trust_v7 11 35 S_X12_trust_v7 = true := by decide +kernel
theorem o_X12_trust_v7 : ck_ok5 C_X12_trust_v7 = true := by decide +kernel
theorem a_X12_trust_v7 : ck_ca cw_V RX12 cX12_trust ⟨2, 0, 0, 45⟩ M_X12_trust_v7 := fun _ l _ _ _ _ _ _ _ _ _ _ _ _ X hts htl hsw hnq =>
  (List.forall_mem_cons.mpr ⟨ck_cs_S (t_X12_in l) X hts htl hsw hnq ⟨rfl, rfl⟩ o_X12_in cw_good (ck_m4 tw_1485 tw_1486 tw_104 tw_1487) hd_X12_in ⟨rfl, rfl⟩ ⟨by decide, by decide⟩, (List.forall_mem_cons.mpr ⟨ck_cs_S (t_X12_noSource l) X hts htl hsw hnq ⟨rfl, rfl⟩ o_X12_noSource cw_good (ck_m4 tw_1582 tw_1583 tw_104 tw_1584) hd_X12_noSource ⟨rfl, rfl⟩ ⟨by decide, by decide⟩, (List.forall_mem_cons.mpr ⟨ck_cs_V (t_X12_otherView l) X hts htl hsw hnq ⟨rfl, rfl⟩ o_X12_otherView cw_good (ck_m5 tw_1587 tw_1589 tw_41 tw_104 tw_1590) (by decide) rfl rfl rfl he_X12_otherView ⟨rfl, rfl⟩ ⟨by decide, by decide⟩, (fun _ h => absurd h List.not_mem_nil)⟩)⟩)⟩)
theorem t_X12_trust_v7 (l : Launch) : ck_met cw_V l yX12_trust cX12_trust 4 (some .int) ⟨2, 0, 0, 45⟩ C_X12_trust_v7 :=
  ck_methS (sp := sp_X12_trust_v7) (M := M_X12_trust_v7) (rt := 1) (pre := []) false (fun p l e s m As below meth c D tys ws sh n1 sw X hts htl hsw hnq hret hph hpo hwo => (List.forall_mem_cons.mpr ⟨fun S L hS b hb hk => ck_sCl_ok (F := 4) (t := 46) (len := 6) (X b) rfl hS hk (k_X12_trust (29, .iaload, 1) (List.mem_of_getElem? (i := 16) rfl)), (List.forall_mem_cons.mpr ⟨fun S L hS b hb hk => ck_sCs_ok (F := 4) (t := 46) (len := 6) (lo := -2147483648) (hi := 2147483647) (X b) rfl (by decide +kernel) hS hk (k_X12_trust (37, .iastore, 1) (List.mem_of_getElem? (i := 22) rfl)), (fun _ h => absurd h List.not_mem_nil)⟩)⟩)) pn_X12_trust rfl (fun h => by cases h) ⟨rfl, rfl, rfl, rfl, rfl⟩ ⟨rfl, rfl⟩ rfl (by decide) (by decide) (by decide) k_X12_trust (tb_X12 ⟨rfl, rfl, rfl, rfl, rfl, rfl, rfl, rfl, rfl⟩) a_X12_trust_v7 h_X12_trust_v7 rfl
def C_X12_trust_v8 : ck_C := (([(2, 1, [17]), (0, 2, []), (0, 3, [])], [(46, 0, (50, 10, [4, 5, 6, 7, 8, 9]))], [(0, 0), (1, 0), (6, 2147483647), ((-2147483648), 2147483647), ((-2147483648), 2147483647), ((-2147483648), 2147483647), ((-2147483648), 2147483647), ((-2147483648), 2147483647), ((-2147483648), 2147483647), ((-2147483648), 2147483647), (1, 0)], []), [([(0, 11, [])], [(46, 0, (50, 12, [13, 14, 15, 16, 17, 18]))], [(1, 0), (1, 0), (1, 0), (1, 0), (1, 0), (1, 0), (1, 0), (1, 0), (1, 0), (1, 0), (1, 0), ((-1), (-1)), (1, 0), ((-2147483648), 2147483647), ((-2147483648), 2147483647), ((-2147483648), 2147483647), ((-2147483648), 2147483647), ((-2147483648), 2147483647), ((-2147483648), 2147483647)], [(13, 4, 0), (14, 5, 0), (15, 6, 0), (16, 7, 0), (17, 8, 0), (18, 9, 0), (4, 13, 0), (5, 14, 0), (6, 15, 0), (7, 16, 0), (8, 17, 0), (9, 18, 0)])], [(17, 19), (17, 33), (17, 43), (17, 55), (46, 0)], 0, 0)
def M_X12_trust_v8 : ck_Me := (4, cw_TT, cw_SG, 4, fl_X12, pl_X12, nw_X12, kl_X12, il_X12, xl_X12, cw_al, [(3 * 242 + 1, 0, 1, C_X12_noSource)], [(17, 19), (17, 33), (17, 43), (17, 55), (46, 0)], (0, 0), gl_X12)
def I_X12_trust_v8 : List (Nat × ck_I) := []
def S_X12_trust_v8 : ck_S := ([(0, (2, 1, [17])), (1, (0, 2, [])), (2, (0, 3, []))], [], [(46, 0, (50, 10, [4, 5, 6, 7, 8, 9])), (0, 1000, (8, 0, [])), (0, 1001, (8, 1, [])), (0, 1002, (8, 2, [])), (0, 1003, (8, 3, [])), (0, 1004, (8, 4, [])), (0, 1005, (8, 5, [])), (0, 1006, (8, 6, [])), (0, 1007, (8, 7, [])), (0, 1008, (8, 8, [])), (0, 1009, (8, 9, [])), (0, 1010, (8, 10, []))], [(0, 0), (1, 0), (6, 2147483647), ((-2147483648), 2147483647), ((-2147483648), 2147483647), ((-2147483648), 2147483647), ((-2147483648), 2147483647), ((-2147483648), 2147483647), ((-2147483648), 2147483647), ((-2147483648), 2147483647), (1, 0)], [], 0, 0)
theorem h_X12_trust_v8 : ck_chk M_X12_trust_v8 (ck_kr (mF M_X12_trust_v8) 11 1 C_X12_trust_v8) [] K_X12_trust I_X12_trust_v8 11 35 S_X12_trust_v8 = true := by decide +kernel
theorem o_X12_trust_v8 : ck_ok5 C_X12_trust_v8 = true := by decide +kernel
theorem a_X12_trust_v8 : ck_ca cw_V RX12 cX12_trust ⟨2, 0, 0, 45⟩ M_X12_trust_v8 := fun _ l _ _ _ _ _ _ _ _ _ _ _ _ X hts htl hsw hnq =>
  (List.forall_mem_cons.mpr ⟨ck_cs_S (t_X12_noSource l) X hts htl hsw hnq ⟨rfl, rfl⟩ o_X12_noSource cw_good (ck_m4 tw_1582 tw_1583 tw_104 tw_1584) hd_X12_noSource ⟨rfl, rfl⟩ ⟨by decide, by decide⟩, (fun _ h => absurd h List.not_mem_nil)⟩)
theorem t_X12_trust_v8 (l : Launch) : ck_met cw_V l yX12_trust cX12_trust 4 (some .int) ⟨2, 0, 0, 45⟩ C_X12_trust_v8 :=
  ck_meth (M := M_X12_trust_v8) (rt := 1) (pre := []) false  pn_X12_trust rfl (fun h => by cases h) ⟨rfl, rfl, rfl, rfl, rfl⟩ ⟨rfl, rfl⟩ rfl (by decide) (by decide) (by decide) k_X12_trust (tb_X12 ⟨rfl, rfl, rfl, rfl, rfl, rfl, rfl, rfl, rfl⟩) a_X12_trust_v8 h_X12_trust_v8 rfl
def C_X12_trust_v9 : ck_C := (([(2, 1, [17]), (0, 2, []), (0, 3, [])], [(46, 0, (50, 10, [4, 5, 6, 7, 8, 9]))], [(0, 0), (1, 0), ((-2147483648), 2147483647), ((-2147483648), 2147483647), ((-2147483648), 2147483647), ((-2147483648), 2147483647), ((-2147483648), 2147483647), ((-2147483648), 2147483647), ((-2147483648), 2147483647), ((-2147483648), 2147483647), (1, 0)], []), [([(0, 11, [])], [(46, 0, (50, 12, [13, 14, 15, 16, 17, 18]))], [(1, 0), (1, 0), (1, 0), (1, 0), (1, 0), (1, 0), (1, 0), (1, 0), (1, 0), (1, 0), (1, 0), ((-1), (-1)), (1, 0), ((-2147483648), 2147483647), ((-2147483648), 2147483647), ((-2147483648), 2147483647), ((-2147483648), 2147483647), ((-2147483648), 2147483647), ((-2147483648), 2147483647)], [(2, 0, (-1)), (0, 2, 2147483648), (13, 4, 0), (14, 5, 0), (15, 6, 0), (16, 7, 0), (17, 8, 0), (18, 9, 0), (4, 13, 0), (5, 14, 0), (6, 15, 0), (7, 16, 0), (8, 17, 0), (9, 18, 0)]), ([(0, 11, [])], [(46, 0, (50, 12, [13, 14, 15, 16, 17, 18]))], [(1, 0), (1, 0), (1, 0), (1, 0), (1, 0), (1, 0), (1, 0), (1, 0), (1, 0), (1, 0), (1, 0), ((-2), (-2)), (1, 0), ((-2147483648), 2147483647), ((-2147483648), 2147483647), ((-2147483648), 2147483647), ((-2147483648), 2147483647), ((-2147483648), 2147483647), ((-2147483648), 2147483647)], [(2, 0, 0), (0, 2, 0), (3, 0, 0), (13, 4, 0), (14, 5, 0), (15, 6, 0), (16, 7, 0), (17, 8, 0), (18, 9, 0), (4, 13, 0), (5, 14, 0), (6, 15, 0), (7, 16, 0), (8, 17, 0), (9, 18, 0)]), ([(0, 11, [])], [(46, 0, (50, 12, [13, 14, 15, 16, 17, 18]))], [(1, 0), (1, 0), (1, 0), (1, 0), (1, 0), (1, 0), (1, 0), (1, 0), (1, 0), (1, 0), (1, 0), ((-2), (-2)), (1, 0), ((-2147483648), 2147483647), ((-2147483648), 2147483647), ((-2147483648), 2147483647), ((-2147483648), 2147483647), ((-2147483648), 2147483647), ((-2147483648), 2147483647)], [(2, 0, 0), (0, 2, 0), (0, 3, (-10)), (13, 4, 0), (14, 5, 0), (15, 6, 0), (16, 7, 0), (17, 8, 0), (18, 9, 0), (4, 13, 0), (5, 14, 0), (6, 15, 0), (7, 16, 0), (8, 17, 0), (9, 18, 0)]), ([(0, 11, [])], [(46, 0, (50, 12, [13, 14, 15, 16, 17, 18]))], [(1, 0), (1, 0), (1, 0), (1, 0), (1, 0), (1, 0), (1, 0), (1, 0), (1, 0), (1, 0), (1, 0), ((-2147483648), 2147483647), (1, 0), (1, 9), ((-2147483648), 2147483647), ((-2147483648), 2147483647), ((-2147483648), 2147483647), ((-2147483648), 2147483647), ((-2147483648), 2147483647)], [(2, 0, 0), (0, 2, 0), (3, 0, 9), (0, 3, (-1)), (13, 3, 0), (14, 5, 0), (15, 6, 0), (16, 7, 0), (17, 8, 0), (18, 9, 0), (11, 4, 0), (3, 13, 0), (4, 11, 0), (5, 14, 0), (6, 15, 0), (7, 16, 0), (8, 17, 0), (9, 18, 0)]), ([(0, 11, [])], [(46, 0, (50, 12, [13, 14, 15, 16, 17, 18]))], [(1, 0), (1, 0), (1, 0), (1, 0), (1, 0), (1, 0), (1, 0), (1, 0), (1, 0), (1, 0), (1, 0), ((-2), (-2)), (1, 0), ((-2147483648), 2147483647), ((-2147483648), 2147483647), ((-2147483648), 2147483647), ((-2147483648), 2147483647), ((-2147483648), 2147483647), ((-2147483648), 2147483647)], [(2, 0, 1), (0, 2, (-1)), (3, 0, 0), (13, 4, 0), (14, 5, 0), (15, 6, 0), (16, 7, 0), (17, 8, 0), (18, 9, 0), (4, 13, 0), (5, 14, 0), (6, 15, 0), (7, 16, 0), (8, 17, 0), (9, 18, 0)]), ([(0, 11, [])], [(46, 0, (50, 12, [13, 14, 15, 16, 17, 18]))], [(1, 0), (1, 0), (1, 0), (1, 0), (1, 0), (1, 0), (1, 0), (1, 0), (1, 0), (1, 0), (1, 0), ((-2), (-2)), (1, 0), ((-2147483648), 2147483647), ((-2147483648), 2147483647), ((-2147483648), 2147483647), ((-2147483648), 2147483647), ((-2147483648), 2147483647), ((-2147483648), 2147483647)], [(2, 0, 1), (0, 2, (-1)), (0, 3, (-10)), (13, 4, 0), (14, 5, 0), (15, 6, 0), (16, 7, 0), (17, 8, 0), (18, 9, 0), (4, 13, 0), (5, 14, 0), (6, 15, 0), (7, 16, 0), (8, 17, 0), (9, 18, 0)]), ([(0, 11, [])], [(46, 0, (50, 12, [13, 14, 15, 16, 17, 18]))], [(1, 0), (1, 0), (1, 0), (1, 0), (1, 0), (1, 0), (1, 0), (1, 0), (1, 0), (1, 0), (1, 0), ((-2147483648), 2147483647), (1, 0), ((-2147483648), 2147483647), (1, 9), ((-2147483648), 2147483647), ((-2147483648), 2147483647), ((-2147483648), 2147483647), ((-2147483648), 2147483647)], [(2, 0, 1), (0, 2, (-1)), (3, 0, 9), (0, 3, (-1)), (13, 4, 0), (14, 3, 0), (15, 6, 0), (16, 7, 0), (17, 8, 0), (18, 9, 0), (11, 5, 0), (3, 14, 0), (4, 13, 0), (5, 11, 0), (6, 15, 0), (7, 16, 0), (8, 17, 0), (9, 18, 0)]), ([(0, 11, [])], [(46, 0, (50, 12, [13, 14, 15, 16, 17, 18]))], [(1, 0), (1, 0), (1, 0), (1, 0), (1, 0), (1, 0), (1, 0), (1, 0), (1, 0), (1, 0), (1, 0), ((-2), (-2)), (1, 0), ((-2147483648), 2147483647), ((-2147483648), 2147483647), ((-2147483648), 2147483647), ((-2147483648), 2147483647), ((-2147483648), 2147483647), ((-2147483648), 2147483647)], [(2, 0, 2), (0, 2, (-2)), (3, 0, 0), (13, 4, 0), (14, 5, 0), (15, 6, 0), (16, 7, 0), (17, 8, 0), (18, 9, 0), (4, 13, 0), (5, 14, 0), (6, 15, 0), (7, 16, 0), (8, 17, 0), (9, 18, 0)]), ([(0, 11, [])], [(46, 0, (50, 12, [13, 14, 15, 16, 17, 18]))], [(1, 0), (1, 0), (1, 0), (1, 0), (1, 0), (1, 0), (1, 0), (1, 0), (1, 0), (1, 0), (1, 0), ((-2), (-2)), (1, 0), ((-2147483648), 2147483647), ((-2147483648), 2147483647), ((-2147483648), 2147483647), ((-2147483648), 2147483647), ((-2147483648), 2147483647), ((-2147483648), 2147483647)], [(2, 0, 2), (0, 2, (-2)), (0, 3, (-10)), (13, 4, 0), (14, 5, 0), (15, 6, 0), (16, 7, 0), (17, 8, 0), (18, 9, 0), (4, 13, 0), (5, 14, 0), (6, 15, 0), (7, 16, 0), (8, 17, 0), (9, 18, 0)]), ([(0, 11, [])], [(46, 0, (50, 12, [13, 14, 15, 16, 17, 18]))], [(1, 0), (1, 0), (1, 0), (1, 0), (1, 0), (1, 0), (1, 0), (1, 0), (1, 0), (1, 0), (1, 0), ((-2147483648), 2147483647), (1, 0), ((-2147483648), 2147483647), ((-2147483648), 2147483647), (1, 9), ((-2147483648), 2147483647), ((-2147483648), 2147483647), ((-2147483648), 2147483647)], [(2, 0, 2), (0, 2, (-2)), (3, 0, 9), (0, 3, (-1)), (13, 4, 0), (14, 5, 0), (15, 3, 0), (16, 7, 0), (17, 8, 0), (18, 9, 0), (11, 6, 0), (3, 15, 0), (4, 13, 0), (5, 14, 0), (6, 11, 0), (7, 16, 0), (8, 17, 0), (9, 18, 0)]), ([(0, 11, [])], [(46, 0, (50, 12, [13, 14, 15, 16, 17, 18]))], [(1, 0), (1, 0), (1, 0), (1, 0), (1, 0), (1, 0), (1, 0), (1, 0), (1, 0), (1, 0), (1, 0), ((-2), (-2)), (1, 0), ((-2147483648), 2147483647), ((-2147483648), 2147483647), ((-2147483648), 2147483647), ((-2147483648), 2147483647), ((-2147483648), 2147483647), ((-2147483648), 2147483647)], [(2, 0, 3), (0, 2, (-3)), (3, 0, 0), (13, 4, 0), (14, 5, 0), (15, 6, 0), (16, 7, 0), (17, 8, 0), (18, 9, 0), (4, 13, 0), (5, 14, 0), (6, 15, 0), (7, 16, 0), (8, 17, 0), (9, 18, 0)]), ([(0, 11, [])], [(46, 0, (50, 12, [13, 14, 15, 16, 17, 18]))], [(1, 0), (1, 0), (1, 0), (1, 0), (1, 0), (1, 0), (1, 0), (1, 0), (1, 0), (1, 0), (1, 0), ((-2), (-2)), (1, 0), ((-2147483648), 2147483647), ((-2147483648), 2147483647), ((-2147483648), 2147483647), ((-2147483648), 2147483647), ((-2147483648), 2147483647), ((-2147483648), 2147483647)], [(2, 0, 3), (0, 2, (-3)), (0, 3, (-10)), (13, 4, 0), (14, 5, 0), (15, 6, 0), (16, 7, 0), (17, 8, 0), (18, 9, 0), (4, 13, 0), (5, 14, 0), (6, 15, 0), (7, 16, 0), (8, 17, 0), (9, 18, 0)]), ([(0, 11, [])], [(46, 0, (50, 12, [13, 14, 15, 16, 17, 18]))], [(1, 0), (1, 0), (1, 0), (1, 0), (1, 0), (1, 0), (1, 0), (1, 0), (1, 0), (1, 0), (1, 0), ((-2147483648), 2147483647), (1, 0), ((-2147483648), 2147483647), ((-2147483648), 2147483647), ((-2147483648), 2147483647), (1, 9), ((-2147483648), 2147483647), ((-2147483648), 2147483647)], [(2, 0, 3), (0, 2, (-3)), (3, 0, 9), (0, 3, (-1)), (13, 4, 0), (14, 5, 0), (15, 6, 0), (16, 3, 0), (17, 8, 0), (18, 9, 0), (11, 7, 0), (3, 16, 0), (4, 13, 0), (5, 14, 0), (6, 15, 0), (7, 11, 0), (8, 17, 0), (9, 18, 0)]), ([(0, 11, [])], [(46, 0, (50, 12, [13, 14, 15, 16, 17, 18]))], [(1, 0), (1, 0), (1, 0), (1, 0), (1, 0), (1, 0), (1, 0), (1, 0), (1, 0), (1, 0), (1, 0), ((-2), (-2)), (1, 0), ((-2147483648), 2147483647), ((-2147483648), 2147483647), ((-2147483648), 2147483647), ((-2147483648), 2147483647), ((-2147483648), 2147483647), ((-2147483648), 2147483647)], [(2, 0, 4), (0, 2, (-4)), (3, 0, 0), (13, 4, 0), (14, 5, 0), (15, 6, 0), (16, 7, 0), (17, 8, 0), (18, 9, 0), (4, 13, 0), (5, 14, 0), (6, 15, 0), (7, 16, 0), (8, 17, 0), (9, 18, 0)]), ([(0, 11, [])], [(46, 0, (50, 12, [13, 14, 15, 16, 17, 18]))], [(1, 0), (1, 0), (1, 0), (1, 0), (1, 0), (1, 0), (1, 0), (1, 0), (1, 0), (1, 0), (1, 0), ((-2), (-2)), (1, 0), ((-2147483648), 2147483647), ((-2147483648), 2147483647), ((-2147483648), 2147483647), ((-2147483648), 2147483647), ((-2147483648), 2147483647), ((-2147483648), 2147483647)], [(2, 0, 4), (0, 2, (-4)), (0, 3, (-10)), (13, 4, 0), (14, 5, 0), (15, 6, 0), (16, 7, 0), (17, 8, 0), (18, 9, 0), (4, 13, 0), (5, 14, 0), (6, 15, 0), (7, 16, 0), (8, 17, 0), (9, 18, 0)]), ([(0, 11, [])], [(46, 0, (50, 12, [13, 14, 15, 16, 17, 18]))], [(1, 0), (1, 0), (1, 0), (1, 0), (1, 0), (1, 0), (1, 0), (1, 0), (1, 0), (1, 0), (1, 0), ((-2147483648), 2147483647), (1, 0), ((-2147483648), 2147483647), ((-2147483648), 2147483647), ((-2147483648), 2147483647), ((-2147483648), 2147483647), (1, 9), ((-2147483648), 2147483647)], [(2, 0, 4), (0, 2, (-4)), (3, 0, 9), (0, 3, (-1)), (13, 4, 0), (14, 5, 0), (15, 6, 0), (16, 7, 0), (17, 3, 0), (18, 9, 0), (11, 8, 0), (3, 17, 0), (4, 13, 0), (5, 14, 0), (6, 15, 0), (7, 16, 0), (8, 11, 0), (9, 18, 0)]), ([(0, 11, [])], [(46, 0, (50, 12, [13, 14, 15, 16, 17, 18]))], [(1, 0), (1, 0), (1, 0), (1, 0), (1, 0), (1, 0), (1, 0), (1, 0), (1, 0), (1, 0), (1, 0), ((-2), (-2)), (1, 0), ((-2147483648), 2147483647), ((-2147483648), 2147483647), ((-2147483648), 2147483647), ((-2147483648), 2147483647), ((-2147483648), 2147483647), ((-2147483648), 2147483647)], [(2, 0, 5), (0, 2, (-5)), (3, 0, 0), (13, 4, 0), (14, 5, 0), (15, 6, 0), (16, 7, 0), (17, 8, 0), (18, 9, 0), (4, 13, 0), (5, 14, 0), (6, 15, 0), (7, 16, 0), (8, 17, 0), (9, 18, 0)]), ([(0, 11, [])], [(46, 0, (50, 12, [13, 14, 15, 16, 17, 18]))], [(1, 0), (1, 0), (1, 0), (1, 0), (1, 0), (1, 0), (1, 0), (1, 0), (1, 0), (1, 0), (1, 0), ((-2), (-2)), (1, 0), ((-2147483648), 2147483647), ((-2147483648), 2147483647), ((-2147483648), 2147483647), ((-2147483648), 2147483647), ((-2147483648), 2147483647), ((-2147483648), 2147483647)], [(2, 0, 5), (0, 2, (-5)), (0, 3, (-10)), (13, 4, 0), (14, 5, 0), (15, 6, 0), (16, 7, 0), (17, 8, 0), (18, 9, 0), (4, 13, 0), (5, 14, 0), (6, 15, 0), (7, 16, 0), (8, 17, 0), (9, 18, 0)]), ([(0, 11, [])], [(46, 0, (50, 12, [13, 14, 15, 16, 17, 18]))], [(1, 0), (1, 0), (1, 0), (1, 0), (1, 0), (1, 0), (1, 0), (1, 0), (1, 0), (1, 0), (1, 0), ((-2147483648), 2147483647), (1, 0), ((-2147483648), 2147483647), ((-2147483648), 2147483647), ((-2147483648), 2147483647), ((-2147483648), 2147483647), ((-2147483648), 2147483647), (1, 9)], [(2, 0, 5), (0, 2, (-5)), (3, 0, 9), (0, 3, (-1)), (13, 4, 0), (14, 5, 0), (15, 6, 0), (16, 7, 0), (17, 8, 0), (18, 3, 0), (11, 9, 0), (3, 18, 0), (4, 13, 0), (5, 14, 0), (6, 15, 0), (7, 16, 0), (8, 17, 0), (9, 11, 0)]), ([(0, 11, [])], [(46, 0, (50, 12, [13, 14, 15, 16, 17, 18]))], [(1, 0), (1, 0), (1, 0), (1, 0), (1, 0), (1, 0), (1, 0), (1, 0), (1, 0), (1, 0), (1, 0), ((-1), (-1)), (1, 0), ((-2147483648), 2147483647), ((-2147483648), 2147483647), ((-2147483648), 2147483647), ((-2147483648), 2147483647), ((-2147483648), 2147483647), ((-2147483648), 2147483647)], [(2, 0, 2147483647), (0, 2, (-6)), (13, 4, 0), (14, 5, 0), (15, 6, 0), (16, 7, 0), (17, 8, 0), (18, 9, 0), (4, 13, 0), (5, 14, 0), (6, 15, 0), (7, 16, 0), (8, 17, 0), (9, 18, 0)])], [(17, 19), (17, 33), (17, 43), (17, 55), (46, 0)], 0, 0)
theorem o_X12_trust_v9 : ck_ok5 C_X12_trust_v9 = true := by decide +kernel
theorem t_X12_trust_v9 (l : Launch) : ck_met cw_V l yX12_trust cX12_trust 4 (some .int) ⟨2, 0, 0, 45⟩ C_X12_trust_v9 :=
  ck_met_splitC (k := 2) (iv := (-2147483648, 2147483647)) rfl (by decide) [(((-2147483648), (-1)), C_X12_trust.2.1), ((0, 0), C_X12_trust_v2.2.1), ((1, 1), C_X12_trust_v3.2.1), ((2, 2), C_X12_trust_v4.2.1), ((3, 3), C_X12_trust_v5.2.1), ((4, 4), C_X12_trust_v6.2.1), ((5, 5), C_X12_trust_v7.2.1), ((6, 2147483647), C_X12_trust_v8.2.1)] (ck_cv_ok (by decide)) (by decide) (List.forall_mem_cons.mpr ⟨(List.forall_mem_cons.mpr ⟨⟨Nat.le_of_ble_eq_true rfl, List.mem_of_getElem? (i := 0) rfl⟩, (fun _ h => absurd h List.not_mem_nil)⟩), (List.forall_mem_cons.mpr ⟨(List.forall_mem_cons.mpr ⟨⟨Nat.le_of_ble_eq_true rfl, List.mem_of_getElem? (i := 1) rfl⟩, (List.forall_mem_cons.mpr ⟨⟨Nat.le_of_ble_eq_true rfl, List.mem_of_getElem? (i := 2) rfl⟩, (List.forall_mem_cons.mpr ⟨⟨Nat.le_of_ble_eq_true rfl, List.mem_of_getElem? (i := 3) rfl⟩, (fun _ h => absurd h List.not_mem_nil)⟩)⟩)⟩), (List.forall_mem_cons.mpr ⟨(List.forall_mem_cons.mpr ⟨⟨Nat.le_of_ble_eq_true rfl, List.mem_of_getElem? (i := 4) rfl⟩, (List.forall_mem_cons.mpr ⟨⟨Nat.le_of_ble_eq_true rfl, List.mem_of_getElem? (i := 5) rfl⟩, (List.forall_mem_cons.mpr ⟨⟨Nat.le_of_ble_eq_true rfl, List.mem_of_getElem? (i := 6) rfl⟩, (fun _ h => absurd h List.not_mem_nil)⟩)⟩)⟩), (List.forall_mem_cons.mpr ⟨(List.forall_mem_cons.mpr ⟨⟨Nat.le_of_ble_eq_true rfl, List.mem_of_getElem? (i := 7) rfl⟩, (List.forall_mem_cons.mpr ⟨⟨Nat.le_of_ble_eq_true rfl, List.mem_of_getElem? (i := 8) rfl⟩, (List.forall_mem_cons.mpr ⟨⟨Nat.le_of_ble_eq_true rfl, List.mem_of_getElem? (i := 9) rfl⟩, (fun _ h => absurd h List.not_mem_nil)⟩)⟩)⟩), (List.forall_mem_cons.mpr ⟨(List.forall_mem_cons.mpr ⟨⟨Nat.le_of_ble_eq_true rfl, List.mem_of_getElem? (i := 10) rfl⟩, (List.forall_mem_cons.mpr ⟨⟨Nat.le_of_ble_eq_true rfl, List.mem_of_getElem? (i := 11) rfl⟩, (List.forall_mem_cons.mpr ⟨⟨Nat.le_of_ble_eq_true rfl, List.mem_of_getElem? (i := 12) rfl⟩, (fun _ h => absurd h List.not_mem_nil)⟩)⟩)⟩), (List.forall_mem_cons.mpr ⟨(List.forall_mem_cons.mpr ⟨⟨Nat.le_of_ble_eq_true rfl, List.mem_of_getElem? (i := 13) rfl⟩, (List.forall_mem_cons.mpr ⟨⟨Nat.le_of_ble_eq_true rfl, List.mem_of_getElem? (i := 14) rfl⟩, (List.forall_mem_cons.mpr ⟨⟨Nat.le_of_ble_eq_true rfl, List.mem_of_getElem? (i := 15) rfl⟩, (fun _ h => absurd h List.not_mem_nil)⟩)⟩)⟩), (List.forall_mem_cons.mpr ⟨(List.forall_mem_cons.mpr ⟨⟨Nat.le_of_ble_eq_true rfl, List.mem_of_getElem? (i := 16) rfl⟩, (List.forall_mem_cons.mpr ⟨⟨Nat.le_of_ble_eq_true rfl, List.mem_of_getElem? (i := 17) rfl⟩, (List.forall_mem_cons.mpr ⟨⟨Nat.le_of_ble_eq_true rfl, List.mem_of_getElem? (i := 18) rfl⟩, (fun _ h => absurd h List.not_mem_nil)⟩)⟩)⟩), (List.forall_mem_cons.mpr ⟨(List.forall_mem_cons.mpr ⟨⟨Nat.le_of_ble_eq_true rfl, List.mem_of_getElem? (i := 19) rfl⟩, (fun _ h => absurd h List.not_mem_nil)⟩), (fun _ h => absurd h List.not_mem_nil)⟩)⟩)⟩)⟩)⟩)⟩)⟩)⟩) (List.forall_mem_cons.mpr ⟨t_X12_trust l, (List.forall_mem_cons.mpr ⟨t_X12_trust_v2 l, (List.forall_mem_cons.mpr ⟨t_X12_trust_v3 l, (List.forall_mem_cons.mpr ⟨t_X12_trust_v4 l, (List.forall_mem_cons.mpr ⟨t_X12_trust_v5 l, (List.forall_mem_cons.mpr ⟨t_X12_trust_v6 l, (List.forall_mem_cons.mpr ⟨t_X12_trust_v7 l, (List.forall_mem_cons.mpr ⟨t_X12_trust_v8 l, (fun _ h => absurd h List.not_mem_nil)⟩)⟩)⟩)⟩)⟩)⟩)⟩)⟩)
end
